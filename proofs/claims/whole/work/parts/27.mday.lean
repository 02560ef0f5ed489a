theorem due_low {P : Nat → Int32} {j : Nat} (hj : j < 22 ∨ 142 ≤ j) : ∀ m, m ≤ 10 → sh_due P m j = P j
  | 0, _ => rfl
  | m + 1, hm => by
    unfold sh_due
    split
    · exact due_low hj m (by omega)
    · rw [wr_out (by omega)]; exact due_low hj m (by omega)
theorem due_up {P : Nat → Int32} {j : Nat} : ∀ m, 22 + 12 * m ≤ j → sh_due P m j = P j
  | 0, _ => rfl
  | m + 1, h => by
    unfold sh_due
    split
    · exact due_up m (by omega)
    · rw [wr_out (by omega)]; exact due_up m (by omega)
theorem lap_out {P : Nat → Int32} {j : Nat} : ∀ t, (∀ u, u < t → j ≠ 142 + 23 * u + 18) → sh_lap P t j = P j
  | 0, _ => rfl
  | t + 1, h => by
    unfold sh_lap
    split
    · rw [upd_ne (h t (by omega))]; exact lap_out t fun u hu => h u (by omega)
    · exact lap_out t fun u hu => h u (by omega)
theorem day_low {P : Nat → Int32} (B : sh_B P) {j : Nat} (hj : j < 22) (h7 : j ≠ 7) : f_day P j = P j := by
  have hl := B.ml
  unfold f_day
  rw [lap_out _ (fun u _ => by omega)]
  split
  · rw [due_low (.inl hj) _ hl, upd_ne h7]
  · rw [upd_ne h7]
theorem day_7 {P : Nat → Int32} (B : sh_B P) : f_day P 7 = nI (nD P + 1) := by
  have hl := B.ml
  unfold f_day
  rw [lap_out _ (fun u _ => by omega)]
  split
  · rw [due_low (.inl (by omega)) _ hl, upd_eq]
  · rw [upd_eq]
theorem nD_day {P : Nat → Int32} (B : sh_B P) : nD (f_day P) = nD P + 1 := by
  have := B.dl
  unfold nD; rw [day_7 B]; exact nI_clamp (by have : nD P = (P 7).toNatClampNeg := rfl; omega)
theorem B_7 {P P' : Nat → Int32} (B : sh_B P) {d : Nat} (hd : d ≤ 3000) (h : ∀ j, j < 22 → j ≠ 7 → P' j = P j) (h7 : P' 7 = nI d) : sh_B P' := by
  have e8 := h 8 (by omega) (by omega)
  have e9 := h 9 (by omega) (by omega)
  have e10 := h 10 (by omega) (by omega)
  have e11 := h 11 (by omega) (by omega)
  have n7 : nD P' = d := by unfold nD; rw [h7, nI_clamp (by omega)]
  have n8 : nM P' = nM P := by unfold nM; rw [e8]
  have n9 : nT P' = nT P := by unfold nT; rw [e9]
  have n11 : nY P' = nY P := by unfold nY; rw [e11]
  have n10 : nZ P' = nZ P := by unfold nZ; rw [e10]
  refine ⟨⟨?_, ?_⟩, ⟨?_, ?_⟩, ⟨?_, ?_⟩, ⟨?_, ?_⟩, ⟨?_, ?_⟩, fun j hj => ?_⟩
  · rw [e8, n8]; exact B.m
  · rw [n8]; exact B.ml
  · rw [e9, n9]; exact B.t
  · rw [n9]; exact B.tl
  · rw [e11, n11]; exact B.y
  · rw [n11]; exact B.yl
  · rw [e10, n10]; exact B.z
  · rw [n10]; exact B.zl
  · rw [h7, n7]
  · rw [n7]; exact hd
  · rw [n11] at hj
    obtain ⟨m, h1, h2⟩ := B.tn j hj
    have := B.yl
    exact ⟨m, by rw [n8]; exact h1, by rw [h (12 + j) (by omega) (by omega)]; exact h2⟩
theorem B_day {P : Nat → Int32} (B : sh_B P) (hd : nD P < 3000) : sh_B (f_day P) := B_7 B (d := nD P + 1) (by omega) (fun j hj h7 => day_low B hj h7) (day_7 B)
theorem days_B {P : Nat → Int32} (B : sh_B P) : ∀ k, nD P + k ≤ 3000 → sh_B (f_days P k) ∧ nD (f_days P k) = nD P + k
  | 0, _ => ⟨B, rfl⟩
  | k + 1, h => by
    obtain ⟨h1, h2⟩ := days_B B k (by omega)
    refine ⟨B_day h1 (by omega), ?_⟩
    show nD (f_day (f_days P k)) = _
    rw [nD_day h1, h2]; rfl
section MDAY
variable {g : sh_G} {S : sh_S} {P : Nat → Int32} {sz b : Nat} {Q : Int32 → sh_S → Prop} {U : sh_S → Prop}
theorem c_dayBegins (B : sh_B P) (hd : nD P < 3000) (h : U (sh_mp S (f_day P))) : sh_Cu g mX9_dayBegins [sh_R (9, 0, 0)] (sh_mp S P) sz U := by
  have hl := B.ml
  have htl := B.tl
  refine wp_X9_dayBegins ?_
  rintro _ rfl
  rw [mp_p, mp_sr, B.d, nI_1]
  have hP1 : ∀ j, j < 22 → j ≠ 7 → upd P 7 (nI (nD P + 1)) j = P j := fun j _ h7 => upd_ne h7
  have hB1 : sh_B (upd P 7 (nI (nD P + 1))) := B_7 B (d := nD P + 1) (by omega) hP1 upd_eq
  have hM1 : nM (upd P 7 (nI (nD P + 1))) = nM P := by unfold nM; rw [upd_ne (by omega)]
  have hT1 : nT (upd P 7 (nI (nD P + 1))) = nT P := by unfold nT; rw [upd_ne (by omega)]
  have hday : f_day P = sh_lap (if (nD P + 1) % 30 = 0 then sh_due (upd P 7 (nI (nD P + 1))) (nM P) else upd P 7 (nI (nD P + 1))) (nT P) := rfl
  generalize hP1e : upd P 7 (nI (nD P + 1)) = P1 at *
  have hlap : ∀ X, X 7 = nI (nD P + 1) → X 9 = nI (nT P) → U (sh_mp S (sh_lap X (nT P))) → (∃ (Iv9 : Int32 → sh_S → Prop) (mu9 : Int32 → sh_S → Nat), Iv9 0 (sh_mp S X) ∧ ∀ (v10 : Int32) (S11 : sh_S), Iv9 v10 S11 → (((S11 (19, 0, 0) 9) ≤ v10 → U S11) ∧ (¬ (S11 (19, 0, 0) 9) ≤ v10 → (sh_Ci g mX9_its [sh_R (9, 0, 0), sh_I v10, sh_I 20] S11 sz (fun r15 S14 => (((S14 (19, 0, 0) 7) ≤ r15 → (∀ x18 : Int32, x18 = v10 + 1 → (Iv9 x18 S14 ∧ mu9 x18 S14 < mu9 v10 S11))) ∧ (¬ (S14 (19, 0, 0) 7) ≤ r15 → (sh_Cu g mX9_lay [sh_R (9, 0, 0), sh_I v10, sh_I 18, sh_I 0] S14 sz (fun S19 => (∀ x20 : Int32, x20 = v10 + 1 → (Iv9 x20 S19 ∧ mu9 x20 S19 < mu9 v10 S11))))))))))) := by
    intro X hX7 hX9 hU
    refine ⟨fun i S' => ∃ t, t ≤ nT P ∧ i = nI t ∧ S' = sh_mp S (sh_lap X t), fun i _ => nT P - i.toNatClampNeg, ⟨0, by omega, rfl, rfl⟩, ?_⟩
    rintro _ _ ⟨t, ht, rfl, rfl⟩
    have e9 : sh_lap X t 9 = nI (nT P) := by rw [lap_out _ (fun u _ => by omega)]; exact hX9
    have e7 : sh_lap X t 7 = X 7 := lap_out _ (fun u _ => by omega)
    rw [mp_p, e9]
    refine wc (fun c => ?_) (fun c => ?_)
    · obtain rfl := lp_end ht (by omega) c
      exact hU
    · have hlt := lp_go (by omega) ht c
      have hmu := mu_lt (N := nT P) hlt (by omega)
      have e20 : sh_lap X t (142 + 23 * t + 20) = X (142 + 23 * t + 20) := lap_out _ (fun u _ => by omega)
      have hst : sh_lap X (t + 1) = if pt X t 20 < X 7 then upd (sh_lap X t) (142 + 23 * t + 18) 0 else sh_lap X t := rfl
      refine c_its t 20 rfl rfl (by omega) (by omega) ?_
      rw [mp_p, e20, e7]
      refine wc (fun c2 => ?_) (fun c2 => c_lay t 18 rfl rfl (by omega) (by omega) ?_) <;> rintro _ rfl <;> rw [nI_1 t]
      · rw [if_neg (Int32.not_lt.mpr c2)] at hst
        exact ⟨⟨t + 1, hlt, rfl, by rw [hst]⟩, hmu⟩
      · rw [if_pos (Int32.not_le.mp c2)] at hst
        exact ⟨⟨t + 1, hlt, rfl, by rw [hst]⟩, hmu⟩
  rw [hday] at h
  refine ⟨fun i S' => ∃ m, m ≤ nM P ∧ i = nI m ∧ S' = sh_mp S (if (nD P + 1) % 30 = 0 then sh_due P1 m else P1), fun i _ => nM P - i.toNatClampNeg, ⟨0, by omega, rfl, by split <;> rfl⟩, ?_⟩
  rintro _ _ ⟨m, hm, rfl, rfl⟩
  generalize hX : (if (nD P + 1) % 30 = 0 then sh_due P1 m else P1) = X
  have hXl : ∀ j, j < 22 → X j = P1 j := fun j hj => by
    rw [← hX]; split
    · exact due_low (.inl hj) m (by omega)
    · rfl
  have hX8 : X 8 = nI (nM P) := by rw [hXl 8 (by omega), hB1.m, hM1]
  have hX7 : X 7 = nI (nD P + 1) := by rw [hXl 7 (by omega), ← hP1e, upd_eq]
  have hX9 : X 9 = nI (nT P) := by rw [hXl 9 (by omega), hB1.t, hT1]
  simp only [mp_p, hX8, hX7]
  have hdl := B.dl
  rw [show nI (nD P + 1) - nI (nD P + 1) / 30 * 30 = nI ((nD P + 1) % 30) from pk_rem (d := 30) (by omega) (by omega) (by omega)]
  refine wc (fun c => ?_) (fun c => ⟨fun c2 => ?_, fun c2 => ?_⟩)
  · obtain rfl := lp_end hm (by omega) c
    rw [hX] at h
    exact hlap X hX7 hX9 h
  · have hne : ¬ (nD P + 1) % 30 = 0 := fun z => c2 (by rw [z]; rfl)
    rw [if_neg hne] at h hX
    rw [hX] at h
    exact hlap X hX7 hX9 h
  · have hlt := lp_go (by omega) hm c
    have hmu := mu_lt (N := nM P) hlt (by omega)
    have h30 : (nD P + 1) % 30 = 0 := (nI_eq (b := 0) (by omega) (by omega)).mp c2
    rw [if_pos h30] at hX
    subst hX
    have e0 : sh_due P1 m (22 + 12 * m + 0) = P1 (22 + 12 * m + 0) := due_up m (by omega)
    have hst : sh_due P1 (m + 1) = if pm P1 m 0 = 2 then sh_due P1 m else sh_wr (sh_due P1 m) m (sh_chg (sh_row P1 m) 0 (P1 0)) := rfl
    refine c_of m 0 rfl rfl (by omega) (by omega) ?_
    rw [e0]
    refine ⟨fun c3 => ?_, fun c3 => c_charges m 0 rfl rfl (by omega) (by omega) ?_⟩ <;> rintro _ rfl <;> rw [nI_1 m]
    · rw [if_pos c3] at hst
      exact ⟨⟨m + 1, hlt, rfl, by rw [if_pos h30, hst]⟩, hmu⟩
    · rw [if_neg c3] at hst
      rw [mp_p, hXl 0 (by omega), show sh_row (sh_due P1 m) m = sh_row P1 m from funext fun w => due_up m (by omega)]
      exact ⟨⟨m + 1, hlt, rfl, by rw [if_pos h30, hst]⟩, hmu⟩
theorem c_pass (hs : sh_ss S) (I : sh_IP P b) {d : Int32} (h : sh_go Q S P (o_pass P d)) : sh_Ci g mX9_pass [sh_R (9, 0, 0), sh_I d] (sh_mp S P) sz Q := by
  unfold o_pass at h
  have B := I.B
  have hdl := B.dl
  refine wp_X9_pass (c_inb (wb' (fun c => ?_) (fun c => ?_)))
  · rw [if_neg (by rw [c]; decide)] at h
    exact h.1 (show (-1000001 : Int32) < 0 by decide)
  · rw [if_pos c] at h
    have c := of_decide_eq_true c
    obtain ⟨x, hx, rfl⟩ := nI_of2 (n := 60) (M := 60) rfl (Int32.not_lt.mpr (Int32.le_trans (by decide) c.1)) c.2
    rw [mp_p]
    rw [B.d, nI_add, nI_clamp (by omega)] at h
    rw [B.d, nI_add]
    refine ⟨fun c2 => ?_, fun c2 => ?_⟩
    · rw [if_pos c2] at h
      have hle : nD P + x ≤ 3000 := (nI_leI (b := 3000) (by omega) (by omega)).mp c2
      refine c_hold ⟨fun i S' => ∃ k, k ≤ x ∧ i = nI k ∧ S' = sh_mp (sh_hd S P) (f_days P k), fun i _ => x - i.toNatClampNeg, ⟨0, by omega, rfl, rfl⟩, ?_⟩
      rintro _ _ ⟨k, hk, rfl, rfl⟩
      obtain ⟨hBk, hDk⟩ := days_B B k (by omega)
      refine wc (fun c => ?_) (fun c => ?_)
      · obtain rfl := lp_end hk (by omega) c
        rw [mp_p, hBk.d, hDk]
        exact c_fin hs (nI_pos (by omega)) h
      · have hlt := lp_go (by omega) hk c
        refine c_dayBegins hBk (by omega) ?_
        rintro _ rfl
        rw [nI_1 k]
        exact ⟨⟨k + 1, hlt, rfl, rfl⟩, mu_lt hlt (by omega)⟩
    · rw [if_neg c2] at h
      exact h.1 (show (-1000003 : Int32) < 0 by decide)
end MDAY
