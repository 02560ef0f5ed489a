/-! what holds of a page between calls; b bounds what members have and owe -/
def sh_hi (j : Nat) : Nat := [400, 60, 20, 40, 1000, 100, 60].getD j 0
def i_set (P : Nat → Int32) : Prop := ∀ j, j < 7 → ∃ n, n ≤ sh_hi j ∧ P j = nI n
def i_st (P : Nat → Int32) : Prop := ∀ m, m < nM P → ∃ n, n ≤ 2 ∧ pm P m 0 = nI n
def i_mz (P : Nat → Int32) : Prop := ∀ m, nM P ≤ m → m < 10 → ∀ w, w < 12 → pm P m w = 0
def i_tz (P : Nat → Int32) : Prop := ∀ t, nT P ≤ t → t < 20 → ∀ w, w < 23 → pt P t w = 0
def i_tn (P : Nat → Int32) : Prop := (∀ i j, i < nY P → j < nY P → P (12 + i) = P (12 + j) → i = j) ∧ (∀ m, m < nM P → pm P m 0 ≠ 2 → ∃ j, j < nY P ∧ P (12 + j) = nI m) ∧ ∀ j, j < nY P → ∃ m, m < nM P ∧ P (12 + j) = nI m ∧ pm P m 0 ≠ 2
def sh_sum (c : Nat → Nat) : Nat → Nat
  | 0 => 0
  | n + 1 => sh_sum c n + c n
def i_cr (P : Nat → Int32) (b : Nat) : Prop := (∃ c : Nat → Nat, (∀ m, m < 10 → pm P m 3 = nI (c m)) ∧ sh_sum c 10 ≤ b) ∧ ∀ m, m < 10 → ∀ k, k < 3 → ∃ o, o ≤ b ∧ pm P m (8 + k) = nI o
def i_row (M D : Nat) (n : Nat → Int32) : Prop :=
  ((n 0 = 0 ∨ n 0 = 1) ∧ (∃ v, 1 ≤ v ∧ v ≤ 400 ∧ n 1 = nI v) ∧ (∃ w, w ≤ 50 ∧ n 2 = nI w) ∧ (∃ p, p ≤ 4 ∧ n 3 = nI p) ∧ fS (n 6).toUInt32) ∧
  ((n 8 = -1 ∨ ∃ w h, w ≤ 2 ∧ h ≤ 3 ∧ n 8 = nI (10 * w + h)) ∧ (n 3 = 1 ∨ n 3 = 2 → ∃ m, m < M ∧ n 4 = nI m) ∧ (∃ s, s ≤ D ∧ n 9 = nI s) ∧ (∃ d, d ≤ 4000 ∧ n 5 = nI d)) ∧
  ((n 3 = 3 → ∃ s a, s ≤ D ∧ n 9 = nI s ∧ a ≤ 60 ∧ n 10 = nI a ∧ n 5 = nI (s + a)) ∧ (∃ f, f ≤ 40 ∧ n 11 = nI f)) ∧
  (n 3 = 2 → (∀ j, j < 3 → (∃ m, m < M ∧ n (12 + j) = nI m) ∧ (n (15 + j) = -1 ∨ ∃ w, w ≤ 2 ∧ n (15 + j) = nI w)) ∧ n 12 ≠ n 13 ∧ n 12 ≠ n 14 ∧ n 13 ≠ n 14) ∧
  ∃ c, c ≤ 400 ∧ n 18 = nI c ∧ (0 < c → ∃ e w, 1 ≤ e ∧ e ≤ w ∧ w ≤ 50 ∧ n 2 = nI w ∧ n 19 = nI e)
def i_tl (P : Nat → Int32) : Prop := ∀ t, t < nT P → i_row (nM P) (nD P) (sh_tr P t)
def i_hk (P : Nat → Int32) : Prop := ∀ t u, t < nT P → u < nT P → t ≠ u → pt P t 8 = pt P u 8 → pt P t 8 = -1
def i_ls (P : Nat → Int32) : Prop := ∀ t, t < nT P → pt P t 3 = 2 → ∀ j, j < 3 → ∃ m, m < nM P ∧ pt P t (12 + j) = nI m ∧ pm P m 0 ≠ 2 ∧ nI m ≠ pt P t 4
def sh_IP (P : Nat → Int32) (b : Nat) : Prop := (sh_B P ∧ i_set P ∧ i_st P ∧ i_mz P ∧ i_tz P) ∧ i_tn P ∧ i_cr P b ∧ i_tl P ∧ i_hk P ∧ i_ls P
theorem sh_IP.B {P : Nat → Int32} {b : Nat} (I : sh_IP P b) : sh_B P := I.1.1
theorem sh_IP.s {P : Nat → Int32} {b : Nat} (I : sh_IP P b) : i_set P := I.1.2.1
theorem sh_IP.st {P : Nat → Int32} {b : Nat} (I : sh_IP P b) : i_st P := I.1.2.2.1
theorem sh_IP.mz {P : Nat → Int32} {b : Nat} (I : sh_IP P b) : i_mz P := I.1.2.2.2.1
theorem sh_IP.tz {P : Nat → Int32} {b : Nat} (I : sh_IP P b) : i_tz P := I.1.2.2.2.2
theorem sh_IP.tn {P : Nat → Int32} {b : Nat} (I : sh_IP P b) : i_tn P := I.2.1
theorem sh_IP.cr {P : Nat → Int32} {b : Nat} (I : sh_IP P b) : i_cr P b := I.2.2.1
theorem sh_IP.tl {P : Nat → Int32} {b : Nat} (I : sh_IP P b) : i_tl P := I.2.2.2.1
theorem sh_IP.hk {P : Nat → Int32} {b : Nat} (I : sh_IP P b) : i_hk P := I.2.2.2.2.1
theorem sh_IP.ls {P : Nat → Int32} {b : Nat} (I : sh_IP P b) : i_ls P := I.2.2.2.2.2
theorem sh_IP.G2 {P : Nat → Int32} {b : Nat} (I : sh_IP P b) : sh_G2 P := fun t ht => ⟨(I.tl t ht).1.2.2.2.2, (I.tl t ht).1.2.2.1⟩
theorem sh_IP.ml {P : Nat → Int32} {b : Nat} (I : sh_IP P b) : nM P ≤ 10 := I.B.ml
theorem sh_IP.tl20 {P : Nat → Int32} {b : Nat} (I : sh_IP P b) : nT P ≤ 20 := I.B.tl
/-- a member who is not gone has one turn -/
theorem tn_at {P : Nat → Int32} (h : i_tn P) {j m : Nat} (hj : j < nY P) (e : P (12 + j) = nI m) (d : Int32) : sh_tn P (nI m) d = nI j :=
  fnd_s hj (decide_eq_true e) fun k hk => decide_eq_false fun z => by
    have := h.1 k j (by omega) hj (z.trans e.symm)
    omega
theorem tn_of {P : Nat → Int32} (h : i_tn P) {m : Nat} (hm : m < nM P) (hg : pm P m 0 ≠ 2) : ∃ j, j < nY P ∧ P (12 + j) = nI m ∧ ∀ d, sh_tn P (nI m) d = nI j := by
  obtain ⟨j, h1, h2⟩ := h.2.1 m hm hg
  exact ⟨j, h1, h2, fun d => tn_at h h1 h2 d⟩
theorem tn_gone {P : Nat → Int32} (h : i_tn P) (B : sh_B P) {m : Nat} (hm : m < nM P) (hg : pm P m 0 = 2) (d : Int32) : sh_tn P (nI m) d = d :=
  fnd_n fun k hk => decide_eq_false fun z => by
    obtain ⟨m', h1, h2, h3⟩ := h.2.2 k hk
    have hml := B.ml
    rw [h2] at z
    have := (nI_eq (by omega) (by omega)).mp z
    subst this
    exact h3 hg
section MOPS1
variable {g : sh_G} {S : sh_S} {P : Nat → Int32} {sz b : Nat} {Q : Int32 → sh_S → Prop} {U : sh_S → Prop}
theorem in_w {m w : Nat} (hm : m < 10) (hw : w < 12) : vp_in (22 + 12 * nI m + nI w) 602 := by
  rw [ix_m rfl rfl]; exact vp_in_nI (by omega) (by omega)
theorem c_highest {a : Int32} (h : Q (if a = 0 then 400 else if a = 1 ∨ a = 6 then 60 else if a = 2 then 20 else if a = 3 then 40 else if a = 4 then 1000 else 100) S) : sh_Ci g mX9_highest [sh_I a] S sz Q := by
  refine wp_X9_highest ⟨fun c => ?_, fun c => ⟨fun c1 => ?_, fun c1 => ⟨fun c2 => ?_, fun c2 => ⟨fun c3 => ?_, fun c3 => ⟨fun c4 => ?_, fun c4 => ⟨fun c5 => ?_, fun c5 => ⟨fun c6 => ?_, fun c6 => ?_⟩⟩⟩⟩⟩⟩⟩
  · rwa [if_pos c] at h
  · rwa [if_neg c, if_pos (.inl c1)] at h
  · rwa [if_neg c, if_neg (by rw [c2]; decide), if_pos c2] at h
  · rwa [if_neg c, if_neg (by rw [c3]; decide), if_neg c2, if_pos c3] at h
  · rwa [if_neg c, if_neg (by rw [c4]; decide), if_neg c2, if_neg c3, if_pos c4] at h
  · rwa [if_neg c, if_neg (by rw [c5]; decide), if_neg c2, if_neg c3, if_neg c4] at h
  · rwa [if_neg c, if_pos (.inr c6)] at h
  · rwa [if_neg c, if_neg (fun z => z.elim c1 c6), if_neg c2, if_neg c3, if_neg c4] at h
theorem c_set (hs : sh_ss S) (I : sh_IP P b) {w v : Int32} (h : sh_go Q S P (o_set P w v)) : sh_Ci g mX9_set [sh_R (9, 0, 0), sh_I w, sh_I v] (sh_mp S P) sz Q := by
  unfold o_set at h
  have main : ∀ l : Int32, l = (if w = 1 ∨ w = 6 then 1 else 0) → sh_Ci g mX9_in [sh_I w, sh_I 0, sh_I 6] (sh_mp S P) sz (fun r3 S2 => ((r3 = 0 → Q (-1000001) S2) ∧ (¬ r3 = 0 → (sh_Ci g mX9_highest [sh_I w] S2 sz (fun r7 S6 => (sh_Ci g mX9_in [sh_I v, sh_I l, sh_I r7] S6 sz (fun r9 S8 => ((¬ r9 = 0 → (sh_Cu g mX9_hold [sh_R (9, 0, 0)] S8 sz (fun S11 => (vp_in w 602 ∧ (∀ x13 : Int32, x13 = (S11 (19, 0, 0) (w.toNatClampNeg)) → (vp_in w 602 ∧ (∀ S15 : sh_S, S15 = sh_sr S11 (19, 0, 0) (upd (S11 (19, 0, 0)) (w.toNatClampNeg) v) → (sh_Ci g mX9_ends [sh_R (9, 0, 0), sh_I x13] S15 sz (fun r17 S16 => Q r17 S16))))))))) ∧ (r9 = 0 → Q (-1000001) S8))))))))) := by
    rintro l rfl
    refine c_inb (wb (fun c => ?_) (fun c => c_highest (c_inb (wb' (fun c2 => ?_) (fun c2 => ?_)))))
    · rw [if_neg (by rw [c]; exact fun z => Bool.noConfusion z.1)] at h
      exact h.1 (show (-1000001 : Int32) < 0 by decide)
    · rw [if_neg (by rw [c2]; exact fun z => Bool.noConfusion z.2)] at h
      exact h.1 (show (-1000001 : Int32) < 0 by decide)
    · rw [if_pos ⟨c, c2⟩] at h
      have c := of_decide_eq_true c
      obtain ⟨i, hi, rfl⟩ := nI_of2 (n := 6) (M := 6) rfl (Int32.not_lt.mpr c.1) c.2
      rw [nI_clamp (by omega)] at h ⊢
      refine c_hold ⟨vp_in_nI (by omega) (by omega), ?_⟩
      rintro _ rfl
      refine ⟨vp_in_nI (by omega) (by omega), ?_⟩
      rintro _ rfl
      rw [mp_p, mp_sr]
      obtain ⟨n, hn, en⟩ := I.s i (by omega)
      have hn2 : n < 2 ^ 31 := by
        have : sh_hi i ≤ 1000 := by
          have : ∀ i, i < 7 → sh_hi i ≤ 1000 := by decide
          exact this i (by omega)
        omega
      exact c_fin hs (by rw [en]; exact nI_pos hn2) h
  refine wp_X9_set ⟨fun c => main 1 (by rw [if_pos (.inl c)]), fun c => ⟨fun c2 => main 0 (by rw [if_neg (fun z => z.elim c c2)]), fun c2 => main 1 (by rw [if_pos (.inr c2)])⟩⟩
theorem c_member (hs : sh_ss S) (I : sh_IP P b) (hY : nY P < 10) (h : sh_go Q S P (o_member P)) : sh_Ci g mX9_member [sh_R (9, 0, 0)] (sh_mp S P) sz Q := by
  have B := I.B
  have hl := B.ml
  unfold o_member at h
  refine wp_X9_member ?_
  rw [mp_p]
  refine ⟨fun c => ?_, fun c => ?_⟩
  · rw [if_neg (fun z => c (by rw [B.m, z]; rfl))] at h
    refine c_hold ?_
    rintro _ rfl
    rw [mp_p, B.y, show (12 : Int32) + nI (nY P) = nI (12 + nY P) from nI_add 12 _, nI_clamp (by omega)]
    refine ⟨vp_in_nI (by omega) (by omega), ?_⟩
    rintro _ rfl _ rfl _ rfl
    simp only [mp_p, mp_sr]
    rw [upd_ne (j := 11) (by omega), upd_ne (j := 8) (by omega), upd_ne (j := 8) (by omega), B.y, nI_1]
    rw [show P 8 + 1 = nI (nM P + 1) by rw [B.m, nI_1]]
    exact c_fin hs (by rw [B.m]; exact nI_pos (by omega)) h
  · rw [if_pos (by unfold nM; rw [c]; rfl)] at h
    exact h.1 (show (-1000003 : Int32) < 0 by decide)
theorem c_away (hs : sh_ss S) (I : sh_IP P b) {m a : Int32} (h : sh_go Q S P (o_away P m a)) : sh_Ci g mX9_away [sh_R (9, 0, 0), sh_I m, sh_I a] (sh_mp S P) sz Q := by
  unfold o_away at h
  have hl := I.ml
  refine wp_X9_away (c_isMember I.B (wb (fun c => ?_) (fun c => c_inb (wb' (fun c2 => ?_) (fun c2 => ?_)))))
  · rw [if_neg (by rw [c]; exact fun z => Bool.noConfusion z.1)] at h
    exact h.1 (show (-1000001 : Int32) < 0 by decide)
  · rw [if_neg (by rw [c2]; exact fun z => Bool.noConfusion z.2)] at h
    exact h.1 (show (-1000001 : Int32) < 0 by decide)
  · rw [if_pos ⟨c, c2⟩] at h
    obtain ⟨i, hi, rfl⟩ := I.B.mB_t c
    rw [nI_clamp (by omega)] at h
    refine c_of i 0 rfl rfl (by omega) (by omega) ⟨fun c3 => ?_, fun c3 => ?_⟩
    · rw [if_neg c3] at h
      refine c_hold (c_of i 0 rfl rfl (by omega) (by omega) ?_)
      rw [ix_m (b := 0) (t := i) (w := 0) rfl rfl, nI_clamp (by omega)]
      refine ⟨vp_in_nI (by omega) (by omega), ?_⟩
      rintro _ rfl
      rw [mp_p, mp_sr]
      obtain ⟨n, hn, en⟩ := I.st i hi
      exact c_fin hs (by rw [show P (22 + 12 * i + 0) = nI n from en]; exact nI_pos (by omega)) h
    · rw [if_pos c3] at h
      exact h.1 (show (-1000002 : Int32) < 0 by decide)
end MOPS1
