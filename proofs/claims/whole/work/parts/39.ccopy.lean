/-! a shed is copied into another -/
theorem cpy_lt {f h : Nat → Int32} {n w : Nat} (hw : w < n) : va_cpy f h 0 0 n w = f w := by
  unfold va_cpy
  rw [if_pos (by omega)]
  congr 1
  omega
theorem r_tool_eq {n r r' sd sd' wd wd' pr pr' : Nat → Int32} (h1 : ∀ w, w < 12 → r' w = r w) (h2 : ∀ w, w < 3 → sd' w = sd w) (h3 : ∀ w, w < 3 → wd' w = wd w) (h4 : ∀ w, w < 7 → pr' w = pr w) (R : r_tool n r sd wd pr) : r_tool n r' sd' wd' pr' := by
  unfold r_tool at R ⊢
  rw [h1 0 (by omega), h1 1 (by omega), h1 2 (by omega), h1 3 (by omega), h1 4 (by omega), h1 5 (by omega), h1 6 (by omega), h1 7 (by omega), h1 8 (by omega), h1 9 (by omega), h1 10 (by omega), h1 11 (by omega), h4 0 (by omega), h4 1 (by omega), h4 2 (by omega), h4 3 (by omega), h4 4 (by omega), h4 5 (by omega), h4 6 (by omega)]
  exact ⟨R.1, R.2.1, fun j hj => by rw [h2 j hj, h3 j hj]; exact R.2.2.1 j hj, R.2.2.2⟩
section CCOPY
variable {g : sh_G} {S S0 : sh_S} {P : Nat → Int32} {sz k k1 b : Nat} {Q : Int32 → sh_S → Prop} {U : sh_S → Prop}
theorem ne_s {a b k1 k i j : Nat} (h : k1 ≠ k) : ((a, k1, i) : sh_O) ≠ (b, k, j) := fun e => h (congrArg (fun x : sh_O => x.2.1) e)
theorem upd_to {f h : Nat → Int32} {j : Nat} {x : Int32} {n : Nat} (e : ∀ w, w < n → (w < j → f w = h w)) (ex : x = h j) : ∀ w, w < n → (w < j + 1 → upd f j x w = h w) := fun w hw hj => by
  unfold upd; split
  · rename_i z; rw [z]; exact ex
  · exact e w hw (by omega)
theorem k_copyMem (hk : k < 7) (hk1 : k1 < 7) (hne : k1 ≠ k) (h : ∀ S', (∀ o : sh_O, o.2.1 ≠ k ∨ (o.1 ≠ 10 ∧ o.1 ≠ 11 ∧ o.1 ≠ 2) → S' o = S o) → (∀ i, i < 10 → ∀ w, w < 12 → S' (10, k, i) w = S (10, k1, i) w) → (∀ w, w < 10 → S' (11, k, 0) w = S (11, k1, 0) w) → S' (2, k, 0) 2 = S (2, k1, 0) 2 → S' (2, k, 0) 3 = S (2, k1, 0) 3 → S' (2, k, 0) 4 = S (2, k1, 0) 4 → U S') :
    sh_Cu g mX2_copyFrom [sh_R (2, k, 0), sh_R (2, k1, 0)] S sz U := by
  refine wp_X2_copyFrom (ok2 hk) (ok2 hk1) ⟨fun v S' => ∃ j, j ≤ 10 ∧ v = nI j ∧ (∀ o : sh_O, o.2.1 ≠ k ∨ o.1 ≠ 10 → S' o = S o) ∧ ∀ i, i < j → ∀ w, w < 12 → S' (10, k, i) w = S (10, k1, i) w, fun v _ => 10 - v.toNatClampNeg, ⟨0, by omega, rfl, fun _ _ => rfl, fun i hi => by omega⟩, ?_⟩
  rintro _ S2 ⟨j, hj, rfl, ho, hm⟩
  refine wc (fun c => ?_) (fun c => ?_)
  · obtain rfl := lp_end hj (by omega) c
    rintro _ rfl _ rfl _ rfl _ rfl
    simp only [sr_sr, sh_sr_s]
    have e2 : ∀ X, sh_sr S2 (11, k, 0) X (2, k1, 0) = S (2, k1, 0) := fun X => (sr_o (ne_s hne)).trans (ho _ (.inl hne))
    have e3 : ∀ X Y, sh_sr (sh_sr S2 (11, k, 0) X) (2, k, 0) Y (2, k1, 0) = S (2, k1, 0) := fun X Y => (sr_o (ne_s hne)).trans (e2 X)
    refine h _ (fun o z => ?_) (fun i hi w hw => ?_) (fun w hw => ?_) ?_ ?_ ?_
    · have n2 : o ≠ (2, k, 0) := fun e => by subst e; rcases z with z | z; exact z rfl; exact z.2.2 rfl
      have n11 : o ≠ (11, k, 0) := fun e => by subst e; rcases z with z | z; exact z rfl; exact z.2.1 rfl
      rw [sr_o n2, sr_o n11]
      exact ho o (z.imp id fun z => z.1)
    · rw [sr_o (ne_k (by omega)), sr_o (ne_k (by omega))]
      exact hm i hi w hw
    · rw [sr_o (ne_k (by omega)), sh_sr_s, cpy_lt hw, ho _ (.inl hne)]
    · rw [sh_sr_s, upd_ne (by omega), upd_ne (by omega), upd_eq, e2]
    · rw [sh_sr_s, upd_ne (by omega), upd_eq, e3]
    · rw [sh_sr_s, upd_eq, e3]
  · have hlt := lp_go (by omega) hj c
    rw [nI_clamp (by omega)]
    refine ⟨vp_in_nI (by omega) (by omega), vp_in_nI (by omega) (by omega), wp_X1_copyFrom (ok1 hk hlt) (ok1 hk1 hlt) ?_⟩
    rintro _ rfl _ rfl
    rw [nI_1 j]
    refine ⟨⟨j + 1, hlt, rfl, fun o z => ?_, fun i hi w hw => ?_⟩, mu_lt hlt (by omega)⟩
    · rw [sr_o (fun e => by subst e; rcases z with z | z; exact z rfl; exact z rfl)]
      exact ho o z
    · by_cases e : i = j
      · subst e
        rw [sh_sr_s, cpy_lt hw, ho _ (.inl hne)]
      · rw [sr_o (ne_i e)]
        exact hm i (by omega) w hw
theorem k_copyTool (hk : k < 7) (hk1 : k1 < 7) (hne : k1 ≠ k) {i : Nat} (hi : i < 20) (hst : S (5, k1, i) 0 = 0 ∨ S (5, k1, i) 0 = 1)
    (h : ∀ S', (∀ o : sh_O, o ≠ (7, k, i) → o ≠ (13, k, i) → o ≠ (14, k, i) → o ≠ (4, k, i) → o ≠ (5, k, i) → S' o = S o) → (∀ w, w < 12 → S' (7, k, i) w = S (7, k1, i) w) → (∀ w, w < 3 → S' (13, k, i) w = S (13, k1, i) w) → (∀ w, w < 3 → S' (14, k, i) w = S (14, k1, i) w) → (∀ w, w < 7 → S' (5, k, i) w = S (5, k1, i) w) → U S') :
    sh_Cu g mX7_copyFrom [sh_R (7, k, i), sh_R (7, k1, i)] S sz U := by
  have hs : ∀ (a b : Nat) (T : sh_S) (X : Nat → Int32), sh_sr T (a, k, i) X (b, k1, i) = T (b, k1, i) := fun a b T X => sr_o (ne_s hne)
  refine wp_X7_copyFrom (ok7 hk hi) (ok7 hk1 hi) ?_
  rintro _ rfl _ rfl _ rfl _ rfl _ rfl _ rfl _ rfl _ rfl _ rfl _ rfl _ rfl _ rfl
  refine wp_X4_copyFrom (ok4 hk hi) (ok4 hk1 hi) ?_
  rintro _ rfl _ rfl _ rfl
  have e5 : ∀ (T : sh_S) (X Y Z W : Nat → Int32), sh_sr (sh_sr (sh_sr (sh_sr T (7, k, i) X) (13, k, i) Y) (14, k, i) Z) (4, k, i) W (5, k1, i) = T (5, k1, i) := fun T X Y Z W => by rw [hs, hs, hs, hs]
  simp only [sr_sr, sh_sr_s, hs, tu_ti, ti_tu]
  refine wp_X5_copyFrom (ok5 hk hi) (ok5 hk1 hi) ⟨by rw [e5]; exact hst, ?_⟩
  rintro _ rfl _ rfl _ rfl _ rfl _ rfl _ rfl _ rfl
  simp only [sr_sr, sh_sr_s, hs]
  refine h _ (fun o h1 h2 h3 h4 h5 => ?_) (fun w hw => ?_) (fun w hw => ?_) (fun w hw => ?_) (fun w hw => ?_)
  · rw [sr_o h5, sr_o h4, sr_o h3, sr_o h2, sr_o h1]
  · rw [sr_o (ne_k (by omega)), sr_o (ne_k (by omega)), sr_o (ne_k (by omega)), sr_o (ne_k (by omega)), sh_sr_s]
    have hw : w = 0 ∨ w = 1 ∨ w = 2 ∨ w = 3 ∨ w = 4 ∨ w = 5 ∨ w = 6 ∨ w = 7 ∨ w = 8 ∨ w = 9 ∨ w = 10 ∨ w = 11 := by omega
    rcases hw with rfl | rfl | rfl | rfl | rfl | rfl | rfl | rfl | rfl | rfl | rfl | rfl <;> rfl
  · rw [sr_o (ne_k (by omega)), sr_o (ne_k (by omega)), sr_o (ne_k (by omega)), sh_sr_s, cpy_lt hw]
  · rw [sr_o (ne_k (by omega)), sr_o (ne_k (by omega)), sh_sr_s, cpy_lt hw]
  · rw [sh_sr_s]
    have hw : w = 0 ∨ w = 1 ∨ w = 2 ∨ w = 3 ∨ w = 4 ∨ w = 5 ∨ w = 6 := by omega
    rcases hw with rfl | rfl | rfl | rfl | rfl | rfl | rfl <;> rfl
theorem stands01 (R : sh_RS k P S0 S) {t : Nat} (ht : t < 20) : S (5, k, t) 0 = 0 ∨ S (5, k, t) 0 = 1 := by
  rcases (R.tol ht).2.2.2.2.2 with ⟨h1, h2⟩ | ⟨h1, h2, _⟩
  · exact .inl h1
  · exact .inr h1
theorem own_k {o : sh_O} (h : sh_own k o = false) : o.2.1 ≠ k ∨ (o.1 ≠ 2 ∧ o.1 ≠ 4 ∧ o.1 ≠ 5 ∧ o.1 ≠ 6 ∧ o.1 ≠ 7 ∧ o.1 ≠ 10 ∧ o.1 ≠ 11 ∧ o.1 ≠ 13 ∧ o.1 ≠ 14 ∧ o.1 ≠ 15) := by
  have h := of_decide_eq_false h
  by_cases e : o.2.1 = k
  · refine .inr ?_
    refine ⟨?_, ?_, ?_, ?_, ?_, ?_, ?_, ?_, ?_, ?_⟩ <;> intro z <;> exact h ⟨e, by simp [z]⟩
  · exact .inl e
theorem k_copyShed (hk : k < 7) (hk1 : k1 < 7) (hne : k1 ≠ k) (R : sh_RS k1 P S S) (h : ∀ S', sh_RS k P S S' → U S') : sh_Cu g mX6_copyFrom [sh_R (6, k, 0), sh_R (6, k1, 0)] S sz U := by
  refine wp_X6_copyFrom (ok6 hk) (ok6 hk1) ?_
  rintro _ rfl
  refine k_copyMem hk hk1 hne fun S2 ho hm ht h2 h3 h4 => ?_
  have e15 : ∀ w, w < 7 → S2 (15, k, 0) w = S (15, k1, 0) w := fun w hw => by
    rw [ho _ (.inr ⟨show 15 ≠ 10 by omega, show 15 ≠ 11 by omega, show 15 ≠ 2 by omega⟩), sh_sr_s, cpy_lt hw]
  have eS : ∀ (a i : Nat), sh_sr S (15, k, 0) (va_cpy (S (15, k1, 0)) (S (15, k, 0)) 0 0 7) (a, k1, i) = S (a, k1, i) := fun a i => sr_o (ne_s hne)
  have e2 : ∀ (a i : Nat), S2 (a, k1, i) = S (a, k1, i) := fun a i => (ho _ (.inl hne)).trans (eS a i)
  refine ⟨fun v S' => ∃ j, j ≤ 20 ∧ v = nI j ∧ (∀ o : sh_O, o.2.1 ≠ k ∨ (o.1 ≠ 4 ∧ o.1 ≠ 5 ∧ o.1 ≠ 7 ∧ o.1 ≠ 13 ∧ o.1 ≠ 14) → S' o = S2 o) ∧ ∀ i, i < j → (∀ w, w < 12 → S' (7, k, i) w = S (7, k1, i) w) ∧ (∀ w, w < 3 → S' (13, k, i) w = S (13, k1, i) w) ∧ (∀ w, w < 3 → S' (14, k, i) w = S (14, k1, i) w) ∧ (∀ w, w < 7 → S' (5, k, i) w = S (5, k1, i) w), fun v _ => 20 - v.toNatClampNeg, ⟨0, by omega, rfl, fun _ _ => rfl, fun i hi => by omega⟩, ?_⟩
  rintro _ S3 ⟨j, hj, rfl, ho3, hm3⟩
  refine wc (fun c => ?_) (fun c => ?_)
  · obtain rfl := lp_end hj (by omega) c
    rintro _ rfl _ rfl
    simp only [sr_sr, sh_sr_s]
    have e6 : S3 (6, k1, 0) = S (6, k1, 0) := (ho3 _ (.inl hne)).trans (e2 6 0)
    have e6' : ∀ X, sh_sr S3 (6, k, 0) X (6, k1, 0) = S (6, k1, 0) := fun X => (sr_o (ne_s hne)).trans e6
    refine h _ ⟨fun o z => ?_, ⟨fun w hw => ?_, ?_, ?_, ?_, ?_, ?_, fun w hw => ?_⟩, fun m hm' w hw => ?_, fun t ht' => ?_⟩
    · have z' := own_k z
      rw [sr_o (fun e => by subst e; rcases z' with y | y; exact y rfl; exact y.2.2.2.1 rfl)]
      rw [ho3 o (z'.imp id fun y => ⟨y.2.1, y.2.2.1, y.2.2.2.2.1, y.2.2.2.2.2.2.2.1, y.2.2.2.2.2.2.2.2.1⟩), ho o (z'.imp id fun y => ⟨y.2.2.2.2.2.1, y.2.2.2.2.2.2.1, y.1⟩)]
      exact sr_o (fun e => by subst e; rcases z' with y | y; exact y rfl; exact y.2.2.2.2.2.2.2.2.2 rfl)
    · rw [sr_o (ne_k (by omega)), ho3 _ (.inr ⟨show 15 ≠ 4 by omega, show 15 ≠ 5 by omega, show 15 ≠ 7 by omega, show 15 ≠ 13 by omega, show 15 ≠ 14 by omega⟩), e15 w hw]
      exact R.set hw
    · rw [sh_sr_s, upd_eq, e6']; exact R.day
    · rw [sr_o (ne_k (by omega)), ho3 _ (.inr ⟨show 2 ≠ 4 by omega, show 2 ≠ 5 by omega, show 2 ≠ 7 by omega, show 2 ≠ 13 by omega, show 2 ≠ 14 by omega⟩), h2, eS]
      exact R.mem
    · rw [sh_sr_s, upd_ne (by omega), upd_eq, e6]; exact R.add
    · rw [sr_o (ne_k (by omega)), ho3 _ (.inr ⟨show 2 ≠ 4 by omega, show 2 ≠ 5 by omega, show 2 ≠ 7 by omega, show 2 ≠ 13 by omega, show 2 ≠ 14 by omega⟩), h4, eS]
      exact R.ptr
    · rw [sr_o (ne_k (by omega)), ho3 _ (.inr ⟨show 2 ≠ 4 by omega, show 2 ≠ 5 by omega, show 2 ≠ 7 by omega, show 2 ≠ 13 by omega, show 2 ≠ 14 by omega⟩), h3, eS]
      exact R.inT
    · rw [sr_o (ne_k (by omega)), ho3 _ (.inr ⟨show 11 ≠ 4 by omega, show 11 ≠ 5 by omega, show 11 ≠ 7 by omega, show 11 ≠ 13 by omega, show 11 ≠ 14 by omega⟩), ht w hw, eS]
      exact R.trn hw
    · rw [sr_o (ne_k (by omega)), ho3 _ (.inr ⟨show 10 ≠ 4 by omega, show 10 ≠ 5 by omega, show 10 ≠ 7 by omega, show 10 ≠ 13 by omega, show 10 ≠ 14 by omega⟩), hm m hm' w hw, eS]
      exact R.row hm' hw
    · obtain ⟨t1, t2, t3, t4⟩ := hm3 t ht'
      rw [sr_o (ne_k (by omega)), sr_o (ne_k (by omega)), sr_o (ne_k (by omega)), sr_o (ne_k (by omega))]
      exact r_tool_eq t1 t2 t3 t4 (R.tol ht')
  · have hlt := lp_go (by omega) hj c
    have e3 : ∀ (a i : Nat), S3 (a, k1, i) = S (a, k1, i) := fun a i => (ho3 _ (.inl hne)).trans (e2 a i)
    rw [nI_clamp (by omega)]
    refine ⟨vp_in_nI (by omega) (by omega), vp_in_nI (by omega) (by omega), k_copyTool hk hk1 hne hlt (by rw [e3]; exact stands01 R hlt) fun S4 ho4 c1 c2 c3 c4 => ?_⟩
    rintro _ rfl
    rw [nI_1 j]
    refine ⟨⟨j + 1, hlt, rfl, fun o z => ?_, fun i hi => ?_⟩, mu_lt hlt (by omega)⟩
    · rw [ho4 o (fun e => by subst e; rcases z with y | y; exact y rfl; exact y.2.2.1 rfl) (fun e => by subst e; rcases z with y | y; exact y rfl; exact y.2.2.2.1 rfl) (fun e => by subst e; rcases z with y | y; exact y rfl; exact y.2.2.2.2 rfl) (fun e => by subst e; rcases z with y | y; exact y rfl; exact y.1 rfl) (fun e => by subst e; rcases z with y | y; exact y rfl; exact y.2.1 rfl)]
      exact ho3 o z
    · by_cases e : i = j
      · subst e
        rw [← e3 7 i, ← e3 13 i, ← e3 14 i, ← e3 5 i]
        exact ⟨c1, c2, c3, c4⟩
      · rw [ho4 _ (ne_i e) (ne_k (by omega)) (ne_k (by omega)) (ne_k (by omega)) (ne_k (by omega)), ho4 _ (ne_k (by omega)) (ne_i e) (ne_k (by omega)) (ne_k (by omega)) (ne_k (by omega)), ho4 _ (ne_k (by omega)) (ne_k (by omega)) (ne_i e) (ne_k (by omega)) (ne_k (by omega)), ho4 _ (ne_k (by omega)) (ne_k (by omega)) (ne_k (by omega)) (ne_k (by omega)) (ne_i e)]
        exact hm3 i (by omega)
end CCOPY
