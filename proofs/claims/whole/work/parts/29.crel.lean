/-! the class: a shed k holds a page -/
def sh_own (k : Nat) (o : sh_O) : Bool := decide (o.2.1 = k ∧ (o.1 = 2 ∨ o.1 = 4 ∨ o.1 = 5 ∨ o.1 = 6 ∨ o.1 = 7 ∨ o.1 = 10 ∨ o.1 = 11 ∨ o.1 = 13 ∨ o.1 = 14 ∨ o.1 = 15))
def r_tool (n r sd wd pr : Nat → Int32) : Prop :=
  (r 0 = n 0 ∧ r 1 = n 1 ∧ r 2 = n 2 ∧ r 3 = n 6 ∧ r 4 = n 3 ∧ r 5 = n 4 ∧ r 6 = n 9 ∧ r 7 = n 5 ∧ r 8 = n 11 ∧ r 9 = n 7) ∧
  ((r 10 = -1 ∧ n 8 = -1) ∨ (∃ w h, w ≤ 2 ∧ h ≤ 3 ∧ r 10 = nI w ∧ r 11 = nI h ∧ n 8 = nI (10 * w + h))) ∧
  (∀ j, j < 3 → sd j = n (12 + j) ∧ wd j = n (15 + j)) ∧
  (pr 2 = n 19 ∧ pr 3 = n 20 ∧ ((pr 0 = 0 ∧ n 18 = 0) ∨ (pr 0 = 1 ∧ n 18 ≠ 0 ∧ pr 1 = n 18 ∧ pr 4 = sh_bi (n 21) 10 ∧ pr 5 = sh_bi (n 22) 10 ∧ pr 6 = n 21 ||| n 22)))
theorem r_tool_congr {n n' r sd wd pr : Nat → Int32} (h : ∀ w, w < 23 → n' w = n w) (R : r_tool n r sd wd pr) : r_tool n' r sd wd pr := by
  unfold r_tool at R ⊢
  rw [h 0 (by omega), h 1 (by omega), h 2 (by omega), h 6 (by omega), h 3 (by omega), h 4 (by omega), h 9 (by omega), h 5 (by omega), h 11 (by omega), h 7 (by omega), h 8 (by omega), h 18 (by omega), h 19 (by omega), h 20 (by omega), h 21 (by omega), h 22 (by omega)]
  refine ⟨R.1, R.2.1, fun j hj => ?_, R.2.2.2⟩
  rw [h (12 + j) (by omega), h (15 + j) (by omega)]
  exact R.2.2.1 j hj
def sh_RS (k : Nat) (P : Nat → Int32) (S0 S : sh_S) : Prop :=
  (∀ o, sh_own k o = false → S o = S0 o) ∧
  ((∀ j, j < 7 → S (15, k, 0) j = P j) ∧ S (6, k, 0) 4 = P 7 ∧ S (2, k, 0) 2 = P 8 ∧ S (6, k, 0) 3 = P 9 ∧ S (2, k, 0) 4 = P 10 ∧ S (2, k, 0) 3 = P 11 ∧ ∀ j, j < 10 → S (11, k, 0) j = P (12 + j)) ∧
  (∀ m, m < 10 → ∀ w, w < 12 → S (10, k, m) w = P (22 + 12 * m + w)) ∧
  ∀ t, t < 20 → r_tool (sh_tr P t) (S (7, k, t)) (S (13, k, t)) (S (14, k, t)) (S (5, k, t))
section CREL
variable {k : Nat} {P P' : Nat → Int32} {S0 S S' : sh_S}
theorem sh_RS.fr (R : sh_RS k P S0 S) : ∀ o, sh_own k o = false → S o = S0 o := R.1
theorem sh_RS.set (R : sh_RS k P S0 S) {j : Nat} (h : j < 7) : S (15, k, 0) j = P j := R.2.1.1 j h
theorem sh_RS.day (R : sh_RS k P S0 S) : S (6, k, 0) 4 = P 7 := R.2.1.2.1
theorem sh_RS.mem (R : sh_RS k P S0 S) : S (2, k, 0) 2 = P 8 := R.2.1.2.2.1
theorem sh_RS.add (R : sh_RS k P S0 S) : S (6, k, 0) 3 = P 9 := R.2.1.2.2.2.1
theorem sh_RS.ptr (R : sh_RS k P S0 S) : S (2, k, 0) 4 = P 10 := R.2.1.2.2.2.2.1
theorem sh_RS.inT (R : sh_RS k P S0 S) : S (2, k, 0) 3 = P 11 := R.2.1.2.2.2.2.2.1
theorem sh_RS.trn (R : sh_RS k P S0 S) {j : Nat} (h : j < 10) : S (11, k, 0) j = P (12 + j) := R.2.1.2.2.2.2.2.2 j h
theorem sh_RS.row (R : sh_RS k P S0 S) {m w : Nat} (h : m < 10) (h2 : w < 12) : S (10, k, m) w = P (22 + 12 * m + w) := R.2.2.1 m h w h2
theorem sh_RS.tol (R : sh_RS k P S0 S) {t : Nat} (h : t < 20) : r_tool (sh_tr P t) (S (7, k, t)) (S (13, k, t)) (S (14, k, t)) (S (5, k, t)) := R.2.2.2 t h
theorem RS_refl (R : sh_RS k P S0 S) : sh_RS k P S S := ⟨fun _ _ => rfl, R.2⟩
theorem RS_trans {P1 : Nat → Int32} {S1 : sh_S} (R : sh_RS k P S0 S) (R1 : sh_RS k P1 S S1) : sh_RS k P1 S0 S1 := ⟨fun o h => (R1.1 o h).trans (R.1 o h), R1.2⟩
theorem own_ne {o q : sh_O} (h : sh_own k o = true) (h2 : sh_own k q = false) : q ≠ o := fun e => by rw [e, h] at h2; exact Bool.noConfusion h2
theorem own2 : sh_own k (2, k, 0) = true := decide_eq_true ⟨rfl, .inl rfl⟩
theorem own6 : sh_own k (6, k, 0) = true := decide_eq_true ⟨rfl, .inr (.inr (.inr (.inl rfl)))⟩
theorem own10 {m : Nat} : sh_own k (10, k, m) = true := decide_eq_true ⟨rfl, .inr (.inr (.inr (.inr (.inr (.inl rfl)))))⟩
theorem own11 : sh_own k (11, k, 0) = true := decide_eq_true ⟨rfl, .inr (.inr (.inr (.inr (.inr (.inr (.inl rfl))))))⟩
theorem own15 : sh_own k (15, k, 0) = true := decide_eq_true ⟨rfl, .inr (.inr (.inr (.inr (.inr (.inr (.inr (.inr (.inr rfl))))))))⟩
theorem own7 {m : Nat} : sh_own k (7, k, m) = true := decide_eq_true ⟨rfl, .inr (.inr (.inr (.inr (.inl rfl))))⟩
theorem own13 {m : Nat} : sh_own k (13, k, m) = true := decide_eq_true ⟨rfl, .inr (.inr (.inr (.inr (.inr (.inr (.inr (.inl rfl)))))))⟩
theorem own14 {m : Nat} : sh_own k (14, k, m) = true := decide_eq_true ⟨rfl, .inr (.inr (.inr (.inr (.inr (.inr (.inr (.inr (.inl rfl))))))))⟩
theorem own5 {m : Nat} : sh_own k (5, k, m) = true := decide_eq_true ⟨rfl, .inr (.inr (.inl rfl))⟩
theorem own4 {m : Nat} : sh_own k (4, k, m) = true := decide_eq_true ⟨rfl, .inr (.inl rfl)⟩
theorem ne_k {a b k m i j : Nat} (h : a ≠ b) : ((a, k, i) : sh_O) ≠ (b, m, j) := fun e => h (congrArg Prod.fst e)
theorem ne_i {a k i j : Nat} (h : i ≠ j) : ((a, k, i) : sh_O) ≠ (a, k, j) := fun e => h (congrArg (fun x : sh_O => x.2.2) e)
theorem tr_wr {m t : Nat} {n : Nat → Int32} (hm : m < 10) : sh_tr (sh_wr P m n) t = sh_tr P t := funext fun w => wr_out (by omega)
/-- a member's row -/
theorem rs_mem (R : sh_RS k P S0 S) {m : Nat} {n n' : Nat → Int32} (hm : m < 10) (h : ∀ w, w < 12 → n w = n' w) : sh_RS k (sh_wr P m n') S0 (sh_sr S (10, k, m) n) := by
  refine ⟨fun o ho => ?_, ⟨fun j hj => ?_, ?_, ?_, ?_, ?_, ?_, fun j hj => ?_⟩, fun m' hm' w hw => ?_, fun t ht => ?_⟩
  · rw [sr_o (own_ne own10 ho)]; exact R.fr o ho
  · rw [sr_o (ne_k (by omega)), wr_low (by omega)]; exact R.set hj
  · rw [sr_o (ne_k (by omega)), wr_low (by omega)]; exact R.day
  · rw [sr_o (ne_k (by omega)), wr_low (by omega)]; exact R.mem
  · rw [sr_o (ne_k (by omega)), wr_low (by omega)]; exact R.add
  · rw [sr_o (ne_k (by omega)), wr_low (by omega)]; exact R.ptr
  · rw [sr_o (ne_k (by omega)), wr_low (by omega)]; exact R.inT
  · rw [sr_o (ne_k (by omega)), wr_low (by omega)]; exact R.trn hj
  · by_cases e : m' = m
    · subst e
      rw [sh_sr_s, wr_at _ _ _ _ hw]; exact h w hw
    · rw [sr_o (ne_i e), wr_out (by omega)]; exact R.row hm' hw
  · rw [tr_wr hm, sr_o (ne_k (by omega)), sr_o (ne_k (by omega)), sr_o (ne_k (by omega)), sr_o (ne_k (by omega))]
    exact R.tol ht
/-- a tool's objects -/
theorem rs_tool (R : sh_RS k P S0 S) {t : Nat} {n' : Nat → Int32} (ht : t < 20) (hS : ∀ o, o ≠ (7, k, t) → o ≠ (13, k, t) → o ≠ (14, k, t) → o ≠ (5, k, t) → o ≠ (4, k, t) → S' o = S o)
    (h : r_tool n' (S' (7, k, t)) (S' (13, k, t)) (S' (14, k, t)) (S' (5, k, t))) : sh_RS k (sh_wt P t n') S0 S' := by
  refine ⟨fun o ho => ?_, ⟨fun j hj => ?_, ?_, ?_, ?_, ?_, ?_, fun j hj => ?_⟩, fun m' hm' w hw => ?_, fun u hu => ?_⟩
  · rw [hS o (own_ne own7 ho) (own_ne own13 ho) (own_ne own14 ho) (own_ne own5 ho) (own_ne own4 ho)]; exact R.fr o ho
  · rw [hS _ (ne_k (by omega)) (ne_k (by omega)) (ne_k (by omega)) (ne_k (by omega)) (ne_k (by omega)), wt_low (by omega)]; exact R.set hj
  · rw [hS _ (ne_k (by omega)) (ne_k (by omega)) (ne_k (by omega)) (ne_k (by omega)) (ne_k (by omega)), wt_low (by omega)]; exact R.day
  · rw [hS _ (ne_k (by omega)) (ne_k (by omega)) (ne_k (by omega)) (ne_k (by omega)) (ne_k (by omega)), wt_low (by omega)]; exact R.mem
  · rw [hS _ (ne_k (by omega)) (ne_k (by omega)) (ne_k (by omega)) (ne_k (by omega)) (ne_k (by omega)), wt_low (by omega)]; exact R.add
  · rw [hS _ (ne_k (by omega)) (ne_k (by omega)) (ne_k (by omega)) (ne_k (by omega)) (ne_k (by omega)), wt_low (by omega)]; exact R.ptr
  · rw [hS _ (ne_k (by omega)) (ne_k (by omega)) (ne_k (by omega)) (ne_k (by omega)) (ne_k (by omega)), wt_low (by omega)]; exact R.inT
  · rw [hS _ (ne_k (by omega)) (ne_k (by omega)) (ne_k (by omega)) (ne_k (by omega)) (ne_k (by omega)), wt_low (by omega)]; exact R.trn hj
  · rw [hS _ (ne_k (by omega)) (ne_k (by omega)) (ne_k (by omega)) (ne_k (by omega)) (ne_k (by omega)), wt_low (by omega)]; exact R.row hm' hw
  · by_cases e : u = t
    · subst e
      exact r_tool_congr (fun w hw => wt_at _ _ _ _ hw) h
    · rw [hS _ (ne_i e) (ne_k (by omega)) (ne_k (by omega)) (ne_k (by omega)) (ne_k (by omega)), hS _ (ne_k (by omega)) (ne_i e) (ne_k (by omega)) (ne_k (by omega)) (ne_k (by omega)), hS _ (ne_k (by omega)) (ne_k (by omega)) (ne_i e) (ne_k (by omega)) (ne_k (by omega)), hS _ (ne_k (by omega)) (ne_k (by omega)) (ne_k (by omega)) (ne_i e) (ne_k (by omega))]
      exact r_tool_congr (fun w hw => wt_out (by omega)) (R.tol hu)
/-- low words -/
theorem rs_low (R : sh_RS k P S0 S) (hP : ∀ j, 22 ≤ j → P' j = P j) (hS : ∀ o, o ≠ (2, k, 0) → o ≠ (6, k, 0) → o ≠ (11, k, 0) → o ≠ (15, k, 0) → S' o = S o)
    (h : (∀ j, j < 7 → S' (15, k, 0) j = P' j) ∧ S' (6, k, 0) 4 = P' 7 ∧ S' (2, k, 0) 2 = P' 8 ∧ S' (6, k, 0) 3 = P' 9 ∧ S' (2, k, 0) 4 = P' 10 ∧ S' (2, k, 0) 3 = P' 11 ∧ ∀ j, j < 10 → S' (11, k, 0) j = P' (12 + j)) : sh_RS k P' S0 S' := by
  refine ⟨fun o ho => ?_, h, fun m hm w hw => ?_, fun t ht => ?_⟩
  · rw [hS o (own_ne own2 ho) (own_ne own6 ho) (own_ne own11 ho) (own_ne own15 ho)]; exact R.fr o ho
  · rw [hS _ (ne_k (by omega)) (ne_k (by omega)) (ne_k (by omega)) (ne_k (by omega)), hP _ (by omega)]; exact R.row hm hw
  · rw [hS _ (ne_k (by omega)) (ne_k (by omega)) (ne_k (by omega)) (ne_k (by omega)), hS _ (ne_k (by omega)) (ne_k (by omega)) (ne_k (by omega)) (ne_k (by omega)), hS _ (ne_k (by omega)) (ne_k (by omega)) (ne_k (by omega)) (ne_k (by omega)), hS _ (ne_k (by omega)) (ne_k (by omega)) (ne_k (by omega)) (ne_k (by omega))]
    exact r_tool_congr (fun w hw => hP _ (by omega)) (R.tol ht)
end CREL
theorem ok2 {k : Nat} (hk : k < 7) : sh_ok (2, k, 0) := ⟨hk, (by decide : 0 < 1)⟩
theorem ok6 {k : Nat} (hk : k < 7) : sh_ok (6, k, 0) := ⟨hk, (by decide : 0 < 1)⟩
theorem ok1 {k i : Nat} (hk : k < 7) (hi : i < 10) : sh_ok (1, k, i) := ⟨hk, hi⟩
theorem ok7 {k i : Nat} (hk : k < 7) (hi : i < 20) : sh_ok (7, k, i) := ⟨hk, hi⟩
theorem ok4 {k i : Nat} (hk : k < 7) (hi : i < 20) : sh_ok (4, k, i) := ⟨hk, hi⟩
theorem ok5 {k i : Nat} (hk : k < 7) (hi : i < 20) : sh_ok (5, k, i) := ⟨hk, hi⟩
/-! members -/
theorem mn_min (a b : Int32) : (if a < b then a else b) = sh_mn a b := by
  unfold sh_mn
  by_cases h : a < b
  · rw [if_pos h, if_pos (Int32.le_of_lt h)]
  · rw [if_neg h]
    by_cases h2 : a ≤ b
    · rw [if_pos h2]; exact Int32.le_antisymm (Int32.not_lt.mp h) h2
    · rw [if_neg h2]
theorem mn_comm (a b : Int32) : sh_mn a b = sh_mn b a := by
  unfold sh_mn
  by_cases h : a ≤ b
  · rw [if_pos h]
    by_cases h2 : b ≤ a
    · rw [if_pos h2]; exact Int32.le_antisymm h h2
    · rw [if_neg h2]
  · rw [if_neg h, if_pos (Int32.le_of_lt (Int32.not_le.mp h))]
theorem upd_congr {f h : Nat → Int32} {k : Nat} {x y : Int32} (e : ∀ w, w < 12 → f w = h w) (exy : x = y) : ∀ w, w < 12 → upd f k x w = upd h k y w := fun w hw => by
  unfold upd; split
  · exact exy
  · exact e w hw
theorem pks_congr {n n' : Nat → Int32} {q : Int32} (e : ∀ w, w < 12 → n w = n' w) : ∀ k, k ≤ 3 → (∀ w, w < 12 → (sh_pks (n, q) k).1 w = (sh_pks (n', q) k).1 w) ∧ (sh_pks (n, q) k).2 = (sh_pks (n', q) k).2
  | 0, _ => ⟨e, rfl⟩
  | k + 1, hk => by
    obtain ⟨h1, h2⟩ := pks_congr (q := q) e k (by omega)
    have e8 := h1 (8 + k) (by omega)
    have e5 := h1 (5 + k) (by omega)
    refine ⟨?_, ?_⟩
    · show ∀ w, w < 12 → (sh_pk k (sh_pks (n, q) k)).1 w = (sh_pk k (sh_pks (n', q) k)).1 w
      unfold sh_pk
      dsimp only
      rw [e8, e5, h2]
      exact upd_congr (upd_congr h1 rfl) rfl
    · show (sh_pk k (sh_pks (n, q) k)).2 = (sh_pk k (sh_pks (n', q) k)).2
      unfold sh_pk
      dsimp only
      rw [e8, h2]
theorem gain_congr {n n' : Nat → Int32} {v : Nat} {q : Int32} (hv : v < 12) (e : ∀ w, w < 12 → n w = n' w) : ∀ w, w < 12 → sh_gain n v q w = sh_gain n' v q w := by
  unfold sh_gain sh_pay
  have h0 : ∀ w, w < 12 → upd n v (n v + q) w = upd n' v (n' v + q) w := upd_congr e (by rw [e v hv])
  obtain ⟨h1, h2⟩ := pks_congr (q := q) h0 3 (by omega)
  exact upd_congr h1 (by rw [h1 3 (by omega), h2])
theorem chg_congr {n n' : Nat → Int32} {k : Nat} {q : Int32} (hk : k < 3) (e : ∀ w, w < 12 → n w = n' w) : ∀ w, w < 12 → sh_chg n k q w = sh_chg n' k q w := by
  unfold sh_chg
  rw [e 3 (by omega), e (5 + k) (by omega), e (8 + k) (by omega)]
  exact upd_congr (upd_congr (upd_congr e rfl) rfl) rfl
theorem act_congr {n n' : Nat → Int32} {k : Nat} {q : Int32} (hk : k ≤ 3) (e : ∀ w, w < 12 → n w = n' w) : ∀ w, w < 12 → sh_act n k q w = sh_act n' k q w := by
  unfold sh_act
  split
  · exact gain_congr (by omega) e
  · exact chg_congr (by omega) e
section CMEM
variable {g : sh_G} {S : sh_S} {sz k i : Nat} {Q : Int32 → sh_S → Prop} {U : sh_S → Prop}
theorem k_isThere (hk : k < 7) (hi : i < 10) (h : Q (bI (decide (S (10, k, i) 0 = 0))) S) : sh_Ci g mX1_isThere [sh_R (1, k, i)] S sz Q := by
  refine wp_X1_isThere (ok1 hk hi) ⟨fun c => ?_, fun c => ?_⟩
  · rwa [decide_eq_false c] at h
  · rwa [decide_eq_true c] at h
theorem k_isGone (hk : k < 7) (hi : i < 10) (h : Q (bI (decide (S (10, k, i) 0 = 2))) S) : sh_Ci g mX1_isGone [sh_R (1, k, i)] S sz Q := by
  refine wp_X1_isGone (ok1 hk hi) ⟨fun c => ?_, fun c => ?_⟩
  · rwa [decide_eq_false c] at h
  · rwa [decide_eq_true c] at h
theorem k_openInAll (hk : k < 7) (hi : i < 10) (h : Q (S (10, k, i) 8 + S (10, k, i) 9 + S (10, k, i) 10) S) : sh_Ci g mX1_openInAll [sh_R (1, k, i)] S sz Q := by
  refine wp_X1_openInAll (ok1 hk hi) ⟨fun v c => ∃ j, j ≤ 3 ∧ c = nI j ∧ v = sh_sui (fun j => S (10, k, i) (8 + j)) j, fun _ c => 3 - c.toNatClampNeg, ⟨0, by omega, rfl, rfl⟩, ?_⟩
  rintro _ _ ⟨j, hj, rfl, rfl⟩
  refine wc (fun c => ?_) (fun c => ?_)
  · obtain rfl := lp_end hj (by omega) c
    have e : sh_sui (fun j => S (10, k, i) (8 + j)) 3 = S (10, k, i) 8 + S (10, k, i) 9 + S (10, k, i) 10 := by
      show 0 + S (10, k, i) 8 + S (10, k, i) 9 + S (10, k, i) 10 = _
      rw [Int32.zero_add]
    rw [e]; exact h
  · have hlt := lp_go (by omega) hj c
    rw [show (8 : Int32) + nI j = nI (8 + j) from nI_add 8 j, nI_clamp (by omega)]
    refine ⟨vp_in_nI (by omega) (by omega), ?_⟩
    rintro _ rfl _ rfl
    rw [nI_1 j]
    exact ⟨⟨j + 1, hlt, rfl, rfl⟩, mu_lt hlt (by omega)⟩
theorem k_payOpen (hk : k < 7) (hi : i < 10) {q : Int32} (h : U (sh_sr S (10, k, i) (sh_pay (S (10, k, i)) q))) : sh_Cu g mX1_payOpen [sh_R (1, k, i), sh_I q] S sz U := by
  refine wp_X1_payOpen (ok1 hk hi) ⟨fun v c S' => ∃ j, j ≤ 3 ∧ c = nI j ∧ v = (sh_pks (S (10, k, i), q) j).2 ∧ S' = sh_sr S (10, k, i) (sh_pks (S (10, k, i), q) j).1, fun _ c _ => 3 - c.toNatClampNeg, ⟨0, by omega, rfl, rfl, (sr_self S _).symm⟩, ?_⟩
  rintro _ _ _ ⟨j, hj, rfl, rfl, rfl⟩
  rw [sh_sr_s]
  refine wc (fun c => ?_) (fun c => ?_)
  · obtain rfl := lp_end hj (by omega) c
    rintro _ rfl
    rw [sr_sr]; exact h
  · have hlt := lp_go (by omega) hj c
    rw [show (8 : Int32) + nI j = nI (8 + j) from nI_add 8 j, show (5 : Int32) + nI j = nI (5 + j) from nI_add 5 j, nI_clamp (by omega), nI_clamp (by omega)]
    refine ⟨vp_in_nI (by omega) (by omega), ?_⟩
    rintro _ rfl
    refine ⟨vp_in_nI (by omega) (by omega), vp_in_nI (by omega) (by omega), ?_⟩
    rintro _ rfl
    refine ⟨vp_in_nI (by omega) (by omega), vp_in_nI (by omega) (by omega), ?_⟩
    rintro _ rfl _ rfl _ rfl
    rw [nI_1 j]
    refine ⟨⟨j + 1, hlt, rfl, ?_, ?_⟩, mu_lt hlt (by omega)⟩
    · rw [mn_min]; rfl
    · simp only [sr_sr, sh_sr_s]
      rw [upd_ne (j := 5 + j) (by omega), mn_min, Int32.sub_eq_add_neg]
      rfl
theorem k_gainGiven (hk : k < 7) (hi : i < 10) {q : Int32} (h : U (sh_sr S (10, k, i) (sh_gain (S (10, k, i)) 1 q))) : sh_Cu g mX1_gainGiven [sh_R (1, k, i), sh_I q] S sz U := by
  refine wp_X1_gainGiven (ok1 hk hi) ?_
  rintro _ rfl
  refine k_payOpen hk hi ?_
  rw [sh_sr_s, sr_sr]; exact h
theorem k_gainShared (hk : k < 7) (hi : i < 10) {q : Int32} (h : U (sh_sr S (10, k, i) (sh_gain (S (10, k, i)) 2 q))) : sh_Cu g mX1_gainShared [sh_R (1, k, i), sh_I q] S sz U := by
  refine wp_X1_gainShared (ok1 hk hi) ?_
  rintro _ rfl
  refine k_payOpen hk hi ?_
  rw [sh_sr_s, sr_sr]; exact h
theorem k_charge (hk : k < 7) (hi : i < 10) {a q : Int32} (kd : Nat) (ha : a = nI kd) (hkd : kd < 3) (h : U (sh_sr S (10, k, i) (sh_chg (S (10, k, i)) kd q))) : sh_Cu g mX1_charge [sh_R (1, k, i), sh_I a, sh_I q] S sz U := by
  subst ha
  refine wp_X1_charge (ok1 hk hi) (wf (nI_pos (by omega)) (wt (nI_lt (b := 3) hkd (by omega)) ?_))
  rintro _ rfl _ rfl
  rw [show (8 : Int32) + nI kd = nI (8 + kd) from nI_add 8 kd, show (5 : Int32) + nI kd = nI (5 + kd) from nI_add 5 kd, nI_clamp (by omega), nI_clamp (by omega)]
  refine ⟨vp_in_nI (by omega) (by omega), vp_in_nI (by omega) (by omega), ?_⟩
  rintro _ rfl
  refine ⟨vp_in_nI (by omega) (by omega), vp_in_nI (by omega) (by omega), ?_⟩
  rintro _ rfl
  simp only [sr_sr, sh_sr_s]
  rw [upd_ne (j := 5 + kd) (by omega), upd_ne (j := 8 + kd) (by omega), upd_ne (j := 8 + kd) (by omega), mn_min, mn_comm, Int32.sub_eq_add_neg]
  exact h
theorem k_takeShare (hk : k < 7) (hi : i < 10) {a q : Int32} (kd : Nat) (ha : a = nI kd) (hkd : kd ≤ 3) (h : U (sh_sr S (10, k, i) (sh_act (S (10, k, i)) kd q))) : sh_Cu g mX1_takeShare [sh_R (1, k, i), sh_I a, sh_I q] S sz U := by
  subst ha
  unfold sh_act at h
  refine wp_X1_takeShare (ok1 hk hi) ⟨fun c => ?_, fun c => ?_⟩
  · have hne : ¬ kd = 3 := fun z => c (by rw [z]; rfl)
    rw [if_neg hne] at h
    exact k_charge hk hi kd rfl (by omega) h
  · have he : kd = 3 := (nI_eq (b := 3) (by omega) (by omega)).mp c
    rw [if_pos he] at h
    exact k_gainShared hk hi h
end CMEM
