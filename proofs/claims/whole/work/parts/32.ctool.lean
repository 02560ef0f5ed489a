theorem wr_congr {P : Nat → Int32} {m : Nat} {n n' : Nat → Int32} (h : ∀ w, w < 12 → n w = n' w) : sh_wr P m n = sh_wr P m n' := by
  funext j; unfold sh_wr; split
  · exact h _ (by omega)
  · rfl
theorem wt_wr {P : Nat → Int32} {m t : Nat} {n n' : Nat → Int32} (hm : m < 10) : sh_wt (sh_wr P m n) t n' = sh_wr (sh_wt P t n') m n := by
  funext j; unfold sh_wr sh_wt
  by_cases h1 : 22 + 12 * m ≤ j ∧ j < 22 + 12 * m + 12
  · rw [if_neg (show ¬ (142 + 23 * t ≤ j ∧ j < 142 + 23 * t + 23) by omega), if_pos h1]
    exact if_pos h1
  · rw [if_neg h1]
    by_cases h2 : 142 + 23 * t ≤ j ∧ j < 142 + 23 * t + 23
    · rw [if_pos h2, if_pos h2]
    · rw [if_neg h2, if_neg h2]
      exact if_neg h1
theorem row_wt {P : Nat → Int32} {m t : Nat} {n' : Nat → Int32} (hm : m < 10) : ∀ w, w < 12 → sh_row (sh_wt P t n') m w = sh_row P m w := fun w hw => wt_out (by omega)
theorem r_tool_mk {n n' r r' sd wd pr : Nat → Int32} (R : r_tool n r sd wd pr)
    (h : r' 0 = n' 0 ∧ r' 1 = n' 1 ∧ r' 2 = n' 2 ∧ r' 3 = n' 6 ∧ r' 4 = n' 3 ∧ r' 5 = n' 4 ∧ r' 6 = n' 9 ∧ r' 7 = n' 5 ∧ r' 8 = n' 11 ∧ r' 9 = n' 7)
    (hk : (r' 10 = -1 ∧ n' 8 = -1) ∨ (∃ w h, w ≤ 2 ∧ h ≤ 3 ∧ r' 10 = nI w ∧ r' 11 = nI h ∧ n' 8 = nI (10 * w + h))) (hr : ∀ w, 12 ≤ w → w < 23 → n' w = n w) : r_tool n' r' sd wd pr := by
  refine ⟨h, hk, fun j hj => ?_, ?_⟩
  · rw [hr (12 + j) (by omega) (by omega), hr (15 + j) (by omega) (by omega)]
    exact R.2.2.1 j hj
  · rw [hr 18 (by omega) (by omega), hr 19 (by omega) (by omega), hr 20 (by omega) (by omega), hr 21 (by omega) (by omega), hr 22 (by omega) (by omega)]
    exact R.2.2.2
section CTOOL
variable {g : sh_G} {S S0 : sh_S} {P : Nat → Int32} {sz k b : Nat} {Q : Int32 → sh_S → Prop} {U : sh_S → Prop} {F : UInt32 → sh_S → Prop}
theorem sh_RS.kind (R : sh_RS k P S0 S) {t : Nat} (ht : t < 20) : S (7, k, t) 0 = P (142 + 23 * t + 0) := (R.tol ht).1.1
theorem sh_RS.value (R : sh_RS k P S0 S) {t : Nat} (ht : t < 20) : S (7, k, t) 1 = P (142 + 23 * t + 1) := (R.tol ht).1.2.1
theorem sh_RS.wear (R : sh_RS k P S0 S) {t : Nat} (ht : t < 20) : S (7, k, t) 2 = P (142 + 23 * t + 2) := (R.tol ht).1.2.2.1
theorem sh_RS.sharp (R : sh_RS k P S0 S) {t : Nat} (ht : t < 20) : S (7, k, t) 3 = P (142 + 23 * t + 6) := (R.tol ht).1.2.2.2.1
theorem sh_RS.place (R : sh_RS k P S0 S) {t : Nat} (ht : t < 20) : S (7, k, t) 4 = P (142 + 23 * t + 3) := (R.tol ht).1.2.2.2.2.1
theorem sh_RS.who (R : sh_RS k P S0 S) {t : Nat} (ht : t < 20) : S (7, k, t) 5 = P (142 + 23 * t + 4) := (R.tol ht).1.2.2.2.2.2.1
theorem sh_RS.since (R : sh_RS k P S0 S) {t : Nat} (ht : t < 20) : S (7, k, t) 6 = P (142 + 23 * t + 9) := (R.tol ht).1.2.2.2.2.2.2.1
theorem sh_RS.due (R : sh_RS k P S0 S) {t : Nat} (ht : t < 20) : S (7, k, t) 7 = P (142 + 23 * t + 5) := (R.tol ht).1.2.2.2.2.2.2.2.1
theorem sh_RS.fee (R : sh_RS k P S0 S) {t : Nat} (ht : t < 20) : S (7, k, t) 8 = P (142 + 23 * t + 11) := (R.tol ht).1.2.2.2.2.2.2.2.2.1
theorem sh_RS.lends (R : sh_RS k P S0 S) {t : Nat} (ht : t < 20) : S (7, k, t) 9 = P (142 + 23 * t + 7) := (R.tol ht).1.2.2.2.2.2.2.2.2.2
theorem sh_RS.seat (R : sh_RS k P S0 S) {t j : Nat} (ht : t < 20) (hj : j < 3) : S (13, k, t) j = P (142 + 23 * t + (12 + j)) := ((R.tol ht).2.2.1 j hj).1
theorem sh_RS.word (R : sh_RS k P S0 S) {t j : Nat} (ht : t < 20) (hj : j < 3) : S (14, k, t) j = P (142 + 23 * t + (15 + j)) := ((R.tol ht).2.2.1 j hj).2
theorem k_hasTool (hk : k < 7) (R : sh_RS k P S0 S) (B : sh_B P) {v : Int32} (h : Q (bI (tB P v)) S) : sh_Ci g mX6_hasTool [sh_R (6, k, 0), sh_I v] S sz Q := by
  have hl := B.tl
  refine wp_X6_hasTool (ok6 hk) ?_
  rw [R.add]
  refine wc (fun c => ?_) (fun c => wc (fun c2 => ?_) (fun c2 => wc (fun c3 => ?_) (fun c3 => ?_)))
  · rwa [show tB P v = false from decide_eq_false fun z => Int32.not_lt.mpr z.1 c] at h
  · rwa [show tB P v = false from decide_eq_false fun z => Int32.not_lt.mpr c2 z.2] at h
  · have c2' := Int32.not_le.mp c2
    rw [B.t] at c2'
    obtain ⟨m, hm, rfl⟩ := nI_ex (by omega) (Int32.not_lt.mp c) c2'
    have := (nI_leI (a := 20) (b := m) (by omega) (by omega)).mp c3
    omega
  · rwa [show tB P v = true from decide_eq_true ⟨Int32.not_lt.mp c, Int32.not_le.mp c2⟩] at h
theorem k_isOnMember (hk : k < 7) (R : sh_RS k P S0 S) {t : Nat} (ht : t < 20) {m : Int32} (h : Q (bI (sh_on P m true t)) S) : sh_Ci g mX7_isOnMember [sh_R (7, k, t), sh_I m] S sz Q := by
  refine wp_X7_isOnMember (ok7 hk ht) ?_
  rw [R.place ht, R.who ht]
  refine wc (fun c => ⟨fun c2 => ?_, fun c2 => ?_⟩) (fun c => ⟨fun c2 => ?_, fun c2 => ⟨fun c3 => ?_, fun c3 => ?_⟩⟩)
  · rwa [show sh_on P m true t = false from decide_eq_false fun z => c2 z.2] at h
  · rwa [show sh_on P m true t = true from decide_eq_true ⟨.inl c, c2⟩] at h
  · rwa [show sh_on P m true t = false from decide_eq_false fun z => z.1.elim c fun z => c2 z.2] at h
  · rwa [show sh_on P m true t = false from decide_eq_false fun z => c3 z.2] at h
  · rwa [show sh_on P m true t = true from decide_eq_true ⟨.inr ⟨rfl, c2⟩, c3⟩] at h
theorem k_toolsOf (hk : k < 7) (R : sh_RS k P S0 S) (B : sh_B P) {m : Int32} {wl : Bool} (h : Q (nI (sh_cnt (sh_on P m wl) (nT P))) S) : sh_Ci g mX6_toolsOfMember [sh_R (6, k, 0), sh_I m, sh_I (bI wl)] S sz Q := by
  have hl := B.tl
  refine wp_X6_toolsOfMember (ok6 hk) ⟨fun v i S' => ∃ j, j ≤ nT P ∧ i = nI j ∧ v = nI (sh_cnt (sh_on P m wl) j) ∧ S = S', fun _ i _ => nT P - i.toNatClampNeg, ⟨0, by omega, rfl, rfl, rfl⟩, ?_⟩
  rintro _ _ _ ⟨j, hj, rfl, rfl, rfl⟩
  rw [R.add, B.t]
  refine wc (fun c => ?_) (fun c => ?_)
  · obtain rfl := lp_end hj (by omega) c
    exact h
  · have hlt := lp_go (by omega) hj c
    have hmu := mu_lt (N := nT P) hlt (by omega)
    have hf : sh_on P m wl j = false → ∀ y : Int32, y = nI j + 1 → ((∃ j', j' ≤ nT P ∧ y = nI j' ∧ nI (sh_cnt (sh_on P m wl) j) = nI (sh_cnt (sh_on P m wl) j') ∧ S = S) ∧ nT P - y.toNatClampNeg < nT P - (nI j).toNatClampNeg) := fun w => by
      rintro _ rfl
      rw [nI_1 j]
      exact ⟨⟨j + 1, hlt, rfl, by rw [cnt_f w], rfl⟩, hmu⟩
    have ht : sh_on P m wl j = true → ∀ x : Int32, x = nI (sh_cnt (sh_on P m wl) j) + 1 → ∀ y : Int32, y = nI j + 1 → ((∃ j', j' ≤ nT P ∧ y = nI j' ∧ x = nI (sh_cnt (sh_on P m wl) j') ∧ S = S) ∧ nT P - y.toNatClampNeg < nT P - (nI j).toNatClampNeg) := fun w => by
      rintro _ rfl _ rfl
      rw [nI_1 j, nI_1]
      exact ⟨⟨j + 1, hlt, rfl, by rw [cnt_t w], rfl⟩, hmu⟩
    refine k_hasTool hk R B ?_
    rw [B.tB_i hlt]
    refine wf (by decide) ⟨vp_in_nI (by omega) (by omega), ?_⟩
    rw [nI_clamp (by omega)]
    refine k_isOnMember hk R (by omega) (wb (fun c2 => ?_) (fun c2 => wb' (fun c3 => ⟨vp_in_nI (by omega) (by omega), ?_⟩) (fun c3 => ?_)))
    · have c2 := of_decide_eq_false c2
      exact hf (decide_eq_false fun z => c2 ⟨z.1.elim .inl (fun y => .inr ⟨rfl, y.2⟩), z.2⟩)
    · have c2 := of_decide_eq_true c2
      rw [R.place (by omega)]
      refine ⟨fun z => hf (decide_eq_false fun y => y.1.elim z fun y => by rw [c3] at y; exact Bool.noConfusion y.1), fun z => ht (decide_eq_true ⟨.inl z, c2.2⟩)⟩
    · have c2 := of_decide_eq_true c2
      exact ht (decide_eq_true ⟨c2.1.elim .inl (fun y => .inr ⟨c3, y.2⟩), c2.2⟩)
theorem k_goOut (hk : k < 7) (R : sh_RS k P S0 S) {t : Nat} (ht : t < 20) {a1 a2 a3 a4 : Int32} (h3 : a3 = P 7) (h : ∀ S', sh_RS k (f_out P t a1 a2 (P 7 + a4)) S0 S' → U S') : sh_Cu g mX7_goOut [sh_R (7, k, t), sh_I a1, sh_I a2, sh_I a3, sh_I a4] S sz U := by
  subst h3
  refine wp_X7_goOut (ok7 hk ht) ?_
  rintro _ rfl _ rfl _ rfl _ rfl _ rfl _ rfl
  simp only [sr_sr, sh_sr_s]
  refine h _ (rs_tool R ht (fun o h1 h2 h3 h4 h5 => sr_o h1) ?_)
  rw [sh_sr_s, sr_o (ne_k (by omega)), sr_o (ne_k (by omega)), sr_o (ne_k (by omega))]
  obtain ⟨⟨e0, e1, e2, e3, e4, e5, e6, e7, e8, e9⟩, hh, hs, hq⟩ := R.tol ht
  refine r_tool_mk (R.tol ht) ⟨by simp [upd, e0], by simp [upd, e1], by simp [upd, e2], by simp [upd, e3], by simp [upd], by simp [upd], by simp [upd], by simp [upd], by simp [upd, e8], ?_⟩ (.inl ⟨by simp [upd], by simp [upd]⟩) fun w h1 h2 => ?_
  · simp [upd, e9]; rfl
  · rw [upd_ne (by omega), upd_ne (by omega), upd_ne (by omega), upd_ne (by omega), upd_ne (by omega), upd_ne (by omega)]
end CTOOL
