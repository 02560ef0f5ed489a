theorem upd_wr (X : Nat → Int32) (m w : Nat) (v : Int32) (hw : w < 12) : upd X (22 + 12 * m + w) v = sh_wr X m (upd (sh_row X m) w v) := by
  have k := wr_upd X m w (sh_row X m) v hw
  rwa [wr_row] at k
theorem upd_wt (X : Nat → Int32) (m w : Nat) (v : Int32) (hw : w < 23) : upd X (142 + 23 * m + w) v = sh_wt X m (upd (sh_tr X m) w v) := by
  have k := wt_upd X m w (sh_tr X m) v hw
  rwa [wt_row] at k
theorem sum_ge (c : Nat → Nat) {m n : Nat} (h : m < n) : c m ≤ sh_sum c n := by
  induction n with
  | zero => omega
  | succ n ih =>
    unfold sh_sum
    by_cases e : m = n
    · subst e; omega
    · have := ih (by omega); omega
theorem ot_out {P : Nat → Int32} {i j : Nat} (h11 : j ≠ 11) (h : j < 12 ∨ 22 ≤ j) (hY : nY P ≤ 10) : sh_ot P i j = P j := by
  unfold sh_ot
  rw [if_neg h11, if_neg (by omega)]
theorem ot_11 {P : Nat → Int32} {i : Nat} : sh_ot P i 11 = nI (nY P - 1) := if_pos rfl
theorem nY_ot {P : Nat → Int32} {i : Nat} (hY : nY P ≤ 10) : nY (sh_ot P i) = nY P - 1 := by
  unfold nY; rw [ot_11]; exact nI_clamp (by have : nY P = (P 11).toNatClampNeg := rfl; omega)
theorem B_ot {P : Nat → Int32} (B : sh_B P) (i : Nat) (hi : i < nY P) : sh_B (sh_ot P i) := by
  have hY := B.yl
  have e7 : sh_ot P i 7 = P 7 := ot_out (by omega) (by omega) hY
  have e8 : sh_ot P i 8 = P 8 := ot_out (by omega) (by omega) hY
  have e9 : sh_ot P i 9 = P 9 := ot_out (by omega) (by omega) hY
  have e10 : sh_ot P i 10 = P 10 := ot_out (by omega) (by omega) hY
  have n7 : nD (sh_ot P i) = nD P := by unfold nD; rw [e7]
  have n8 : nM (sh_ot P i) = nM P := by unfold nM; rw [e8]
  have n9 : nT (sh_ot P i) = nT P := by unfold nT; rw [e9]
  have n10 : nZ (sh_ot P i) = nZ P := by unfold nZ; rw [e10]
  have n11 := nY_ot (P := P) (i := i) hY
  refine ⟨⟨?_, ?_⟩, ⟨?_, ?_⟩, ⟨?_, ?_⟩, ⟨?_, ?_⟩, ⟨?_, ?_⟩, fun j hj => ?_⟩
  · rw [e8, n8]; exact B.m
  · rw [n8]; exact B.ml
  · rw [e9, n9]; exact B.t
  · rw [n9]; exact B.tl
  · rw [n11]; exact ot_11
  · rw [n11]; omega
  · rw [e10, n10]; exact B.z
  · rw [n10]; exact B.zl
  · rw [e7, n7]; exact B.d
  · rw [n7]; exact B.dl
  · rw [n11] at hj
    rw [n8]
    unfold sh_ot
    rw [if_neg (by omega)]
    split
    · obtain ⟨m, h1, h2⟩ := B.tn (j + 1) (by omega)
      exact ⟨m, h1, h2⟩
    · exact B.tn j (by omega)
theorem B_wr {P : Nat → Int32} (B : sh_B P) (m : Nat) (n : Nat → Int32) : sh_B (sh_wr P m n) :=
  B_of B (fun j hj _ => wr_low hj) ⟨nZ P, B.zl, by rw [wr_low (by omega)]; exact B.z⟩
theorem B_wt {P : Nat → Int32} (B : sh_B P) (m : Nat) (n : Nat → Int32) : sh_B (sh_wt P m n) :=
  B_of B (fun j hj _ => wt_low (by omega)) ⟨nZ P, B.zl, by rw [wt_low (by omega)]; exact B.z⟩
theorem nM_wr {P : Nat → Int32} {m : Nat} {n : Nat → Int32} : nM (sh_wr P m n) = nM P := by unfold nM; rw [wr_low (by omega)]
theorem nM_wt {P : Nat → Int32} {m : Nat} {n : Nat → Int32} : nM (sh_wt P m n) = nM P := by unfold nM; rw [wt_low (by omega)]
theorem nT_wr {P : Nat → Int32} {m : Nat} {n : Nat → Int32} : nT (sh_wr P m n) = nT P := by unfold nT; rw [wr_low (by omega)]
theorem nT_wt {P : Nat → Int32} {m : Nat} {n : Nat → Int32} : nT (sh_wt P m n) = nT P := by unfold nT; rw [wt_low (by omega)]
theorem nY_wr {P : Nat → Int32} {m : Nat} {n : Nat → Int32} : nY (sh_wr P m n) = nY P := by unfold nY; rw [wr_low (by omega)]
theorem nY_wt {P : Nat → Int32} {m : Nat} {n : Nat → Int32} : nY (sh_wt P m n) = nY P := by unfold nY; rw [wt_low (by omega)]
theorem nM_ot {P : Nat → Int32} {i : Nat} (hY : nY P ≤ 10) : nM (sh_ot P i) = nM P := by unfold nM; rw [ot_out (by omega) (by omega) hY]
theorem ct2_congr {P P' : Nat → Int32} {but : Int32} (hM : nM P' = nM P) (h : ∀ m, m < nM P → nI m ≠ but → (pm P' m 0 = 2 ↔ pm P m 0 = 2)) : sh_ct2 P' but = sh_ct2 P but := by
  unfold sh_ct2
  rw [hM]
  refine cnt_congr fun m hm => ?_
  unfold sh_tk
  rw [hM, decide_eq_decide]
  by_cases hb : nI m = but
  · exact ⟨fun z => absurd hb z.2.1, fun z => absurd hb z.2.1⟩
  · have := h m hm hb
    exact ⟨fun z => ⟨z.1, z.2.1, fun w => z.2.2 (this.mpr w)⟩, fun z => ⟨z.1, z.2.1, fun w => z.2.2 (this.mp w)⟩⟩
theorem cr_nat {P : Nat → Int32} {b m : Nat} (h : i_cr P b) (hm : m < 10) : ∃ c, c ≤ b ∧ pm P m 3 = nI c := by
  obtain ⟨⟨c, h1, h2⟩, _⟩ := h
  exact ⟨c m, Nat.le_trans (sum_ge c hm) h2, h1 m hm⟩
section MOPS3
variable {g : sh_G} {S : sh_S} {P : Nat → Int32} {sz b : Nat} {Q : Int32 → sh_S → Prop} {U : sh_S → Prop}
theorem c_leave (hs : sh_ss S) (hb : b < 2 ^ 30) (I : sh_IP P b) {m : Int32} (h : sh_go Q S P (o_leave P m)) : sh_Ci g mX9_leave [sh_R (9, 0, 0), sh_I m] (sh_mp S P) sz Q := by
  unfold o_leave at h
  have hl := I.ml
  have htl := I.tl20
  have hY := I.B.yl
  refine wp_X9_leave (c_isMember I.B (wb' (fun c => ?_) (fun c => ?_)))
  · rw [if_neg (by rw [c]; decide)] at h
    exact h.1 (show (-1000001 : Int32) < 0 by decide)
  · obtain ⟨i, hi, rfl⟩ := I.B.mB_t c
    rw [if_pos c, nI_clamp (by omega)] at h
    have hno : ∀ z : (pm P i 0 = 2 ∨ 0 < sh_cnt (sh_on P (nI i) true) (nT P) ∨ 0 < sh_opn P i ∨ 0 < sh_cnt (sh_inp P (nI i)) (nT P) ∨ sh_ct2 P (nI i) = 0), Q (-1000002) (sh_mp S P) := fun z => by
      rw [if_pos z] at h
      exact h.1 (show (-1000002 : Int32) < 0 by decide)
    have hc1 := cnt_le (sh_on P (nI i) true) (nT P)
    refine c_of i 0 rfl rfl (by omega) (by omega) ⟨fun c1 => hno (.inl c1), fun c1 => c_toolsOf (wl := true) I.B ?_⟩
    rw [show (0 : Int32) < nI (sh_cnt (sh_on P (nI i) true) (nT P)) ↔ 0 < sh_cnt (sh_on P (nI i) true) (nT P) from nI_ltI (a := 0) (by omega) (by omega)]
    refine ⟨fun c2 => hno (.inr (.inl c2)), fun c2 => c_openOf i rfl (by omega) ⟨fun c3 => hno (.inr (.inr (.inl c3))), fun c3 => c_isInPanel I.B (wb' (fun c4 => c_sharing I.B ?_) (fun c4 => hno (.inr (.inr (.inr (.inl (of_decide_eq_true c4)))))))⟩⟩
    rw [show sh_cnt (sh_tk P (nI i)) (nM P) = sh_ct2 P (nI i) from rfl]
    have hcl : sh_ct2 P (nI i) ≤ 10 := Nat.le_trans (cnt_le _ _) hl
    refine ⟨fun c5 => ?_, fun c5 => hno (.inr (.inr (.inr (.inr ((nI_eq (b := 0) (by omega) (by omega)).mp c5)))))⟩
    have c5' : sh_ct2 P (nI i) ≠ 0 := fun z => c5 (by rw [z]; rfl)
    rw [if_neg (fun z => z.elim c1 fun z => z.elim c2 fun z => z.elim c3 fun z => z.elim (of_decide_eq_false c4) c5')] at h
    have c1' : pm P i 0 ≠ 2 := c1
    obtain ⟨j, hj, ej, et⟩ := tn_of I.tn hi c1'
    have et := et (-1)
    obtain ⟨cr, hcr, ecr⟩ := cr_nat I.cr (show i < 10 by omega)
    have ecr' : P (22 + 12 * i + 3) = nI cr := ecr
    unfold f_leave at h
    rw [et, nI_clamp (by omega), ecr, nI_clamp (by omega)] at h
    refine c_hold (c_of i 3 rfl rfl (by omega) (by omega) (c_outOfTurns I.B j hj et ?_))
    rw [ix_m (b := 0) (t := i) (w := 0) rfl rfl, nI_clamp (by omega)]
    refine ⟨vp_in_nI (by omega) (by omega), ?_⟩
    rintro _ rfl
    rw [mp_p, mp_sr, upd_wr _ _ _ _ (by omega)]
    refine c_moreR i 3 rfl rfl (by omega) (by omega) (c_moreR i 4 rfl rfl (by omega) (by omega) ?_)
    rw [upd_ne (j := 3) (by omega), upd_ne (j := 4) (by omega), upd_ne (j := 4) (by omega), ecr']
    have er3 : sh_row (sh_ot P j) i 3 = nI cr := (ot_out (j := 22 + 12 * i + 3) (by omega) (by omega) hY).trans ecr'
    have er4 : sh_row (sh_ot P j) i 4 = pm P i 4 := ot_out (j := 22 + 12 * i + 4) (by omega) (by omega) hY
    rw [er3, er4, Int32.add_right_neg]
    refine c_shared (B_wr (B_ot I.B j hj) i _) cr 3 rfl (by omega) (.inr ⟨rfl, rfl⟩) ?_ (c_fin hs (nI_pos (by omega)) h)
    rw [ct2_congr (P := P) (by rw [nM_wr, nM_ot hY]) (fun m hm hne => ?_)]
    · omega
    · have hmi : m ≠ i := fun z => hne (by rw [z])
      show sh_wr _ _ _ _ = 2 ↔ _
      rw [wr_out (by omega), ot_out (by omega) (by omega) hY]
theorem c_tool (hs : sh_ss S) (I : sh_IP P b) {k v w : Int32} (h : sh_go Q S P (o_tool P k v w)) : sh_Ci g mX9_tool [sh_R (9, 0, 0), sh_I k, sh_I v, sh_I w] (sh_mp S P) sz Q := by
  unfold o_tool at h
  have htl := I.tl20
  refine wp_X9_tool (c_inb (wb (fun c => ?_) (fun c => c_inb (wb (fun c2 => ?_) (fun c2 => c_inb (wb' (fun c3 => ?_) (fun c3 => ?_)))))))
  · rw [if_neg (by rw [c]; exact fun z => Bool.noConfusion z.1)] at h
    exact h.1 (show (-1000001 : Int32) < 0 by decide)
  · rw [if_neg (by rw [c2]; exact fun z => Bool.noConfusion z.2.1)] at h
    exact h.1 (show (-1000001 : Int32) < 0 by decide)
  · rw [if_neg (by rw [c3]; exact fun z => Bool.noConfusion z.2.2)] at h
    exact h.1 (show (-1000001 : Int32) < 0 by decide)
  · rw [if_pos ⟨c, c2, c3⟩] at h
    rw [mp_p]
    refine ⟨fun c4 => ?_, fun c4 => ?_⟩
    · have hlt : nT P ≠ 20 := fun z => c4 (by rw [I.B.t, z]; rfl)
      rw [if_neg hlt] at h
      refine c_hold ?_
      rintro _ rfl
      rw [mp_p, I.B.t]
      refine c_lay0 (nT P) 0 rfl rfl (by omega) (by omega) (c_layR (nT P) 1 rfl rfl (by omega) (by omega) (c_layR (nT P) 2 rfl rfl (by omega) (by omega) (c_bitsOf (fV_mono (by omega) fV_1) (c_layR (nT P) 6 rfl rfl (by omega) (by omega) (c_layR (nT P) 8 rfl rfl (by omega) (by omega) ?_)))))
      rintro _ rfl
      rw [mp_p, mp_sr, wt_low (by omega), I.B.t, nI_1]
      rw [I.B.t] at h
      exact c_fin hs (nI_pos (by omega)) h
    · rw [if_pos (by unfold nT; rw [c4]; rfl)] at h
      exact h.1 (show (-1000003 : Int32) < 0 by decide)
theorem c_hang (hs : sh_ss S) (I : sh_IP P b) {t w k : Int32} (h : sh_go Q S P (o_hang P t w k)) : sh_Ci g mX9_hang [sh_R (9, 0, 0), sh_I t, sh_I w, sh_I k] (sh_mp S P) sz Q := by
  unfold o_hang at h
  have htl := I.tl20
  refine wp_X9_hang (c_isTool I.B (wb (fun c => ?_) (fun c => c_inb (wb (fun c2 => ?_) (fun c2 => c_inb (wb' (fun c3 => ?_) (fun c3 => ?_)))))))
  · rw [if_neg (by rw [c]; exact fun z => Bool.noConfusion z.1)] at h
    exact h.1 (show (-1000001 : Int32) < 0 by decide)
  · rw [if_neg (by rw [c2]; exact fun z => Bool.noConfusion z.2.1)] at h
    exact h.1 (show (-1000001 : Int32) < 0 by decide)
  · rw [if_neg (by rw [c3]; exact fun z => Bool.noConfusion z.2.2)] at h
    exact h.1 (show (-1000001 : Int32) < 0 by decide)
  · rw [if_pos ⟨c, c2, c3⟩] at h
    obtain ⟨i, hi, rfl⟩ := I.B.tB_t c
    rw [nI_clamp (by omega)] at h
    have c2 := of_decide_eq_true c2
    obtain ⟨x, hx, rfl⟩ := nI_of2 (n := 2) (M := 2) rfl (Int32.not_lt.mpr c2.1) c2.2
    have c3 := of_decide_eq_true c3
    obtain ⟨y, hy, rfl⟩ := nI_of2 (n := 3) (M := 3) rfl (Int32.not_lt.mpr c3.1) c3.2
    rw [nI_clamp (n := x) (by omega)] at h
    have hno : ¬ (pt P i 3 = 0 ∧ pt P i 8 < 0 ∧ sh_hk P (10 * nI x + nI y) < 0 ∧ (nI x = 2 ∨ pt P i 0 = nI x)) → Q (-1000002) (sh_mp S P) := fun z => by
      rw [if_neg z] at h
      exact h.1 (show (-1000002 : Int32) < 0 by decide)
    have hend : (nI x = 2 ∨ pt P i 0 = nI x) → pt P i 3 = 0 → pt P i 8 < 0 → sh_hk P (10 * nI x + nI y) < 0 → sh_Cu g mX9_hold [sh_R (9, 0, 0)] (sh_mp S P) sz (fun S20 => (sh_Cu g mX9_lay [sh_R (9, 0, 0), sh_I (nI i), sh_I 8, sh_I ((10 * nI x) + nI y)] S20 sz (fun S21 => (sh_Ci g mX9_onWall [sh_R (9, 0, 0), sh_I (nI x)] S21 sz (fun r23 S22 => (sh_Ci g mX9_ends [sh_R (9, 0, 0), sh_I r23] S22 sz (fun r25 S24 => Q r25 S24))))))) := fun z1 z2 z3 z4 => by
      rw [if_pos ⟨z2, z3, z4, z1⟩] at h
      have hcl := cnt_le (sh_ow (f_hang P i (10 * nI x + nI y)) x) 4
      exact c_hold (c_lay0 i 8 rfl rfl (by omega) (by omega) (c_onWall (B_wt I.B i _) x rfl (c_fin hs (nI_pos (Nat.lt_of_le_of_lt (cnt_le _ 4) (by decide))) h)))
    refine c_its i 3 rfl rfl (by omega) (by omega) ⟨fun z => hno fun w => z w.1, fun z1 => c_its i 8 rfl rfl (by omega) (by omega) ⟨fun z => hno fun w => Int32.not_le.mpr w.2.1 z, fun z2 => c_onHook I.B ⟨fun z => hno fun w => Int32.not_le.mpr w.2.2.1 z, fun z3 => ⟨fun z4 => ?_, fun z4 => c_its i 0 rfl rfl (by omega) (by omega) ⟨fun z5 => ?_, fun z5 => ?_⟩⟩⟩⟩⟩
    · have : x = 2 := by
        have := (nI_leI (a := 2) (b := x) (by omega) (by omega)).mp z4
        omega
      exact hend (.inl (by rw [this]; rfl)) z1 (Int32.not_le.mp z2) (Int32.not_le.mp z3)
    · exact hend (.inr z5) z1 (Int32.not_le.mp z2) (Int32.not_le.mp z3)
    · refine hno fun w => w.2.2.2.elim (fun w => ?_) z5
      rw [w] at z4
      exact z4 (by decide)
theorem c_sharpens (I : sh_IP P b) (m t : Nat) (hm : m < nM P) (hg : pm P m 0 ≠ 2) (ht : t < nT P) {a1 a2 : Int32} (h1 : a1 = nI m) (h2 : a2 = nI t) (h : U (sh_mp S (f_sharp P m t))) : sh_Cu g mX9_sharpens [sh_R (9, 0, 0), sh_I a1, sh_I a2] (sh_mp S P) sz U := by
  have htl := I.tl20
  have hl := I.ml
  have hY := I.B.yl
  obtain ⟨hv, _⟩ := I.G2 t ht
  obtain ⟨p, hp, ep⟩ := I.s 5 (by omega)
  have hp : p ≤ 100 := hp
  obtain ⟨k1, k2, k3, k4⟩ := fS_sharp hv hp
  subst h1
  refine wp_X9_sharpens (c_its t 6 h2 rfl (by omega) (by omega) (c_real hv ⟨k1, ?_⟩))
  rw [mp_p, ep]
  rintro _ rfl
  refine ⟨k2, ?_⟩
  rintro _ rfl
  refine ⟨k3, ?_⟩
  rintro _ rfl
  refine ⟨fV_nn k4, ?_⟩
  rintro _ rfl
  refine c_bitsOf k4 (c_lay0 t 6 h2 rfl (by omega) (by omega) ?_)
  rw [mp_p, wt_low (by omega)]
  refine c_gains m 1 rfl rfl (by omega) (by omega) ?_
  unfold f_sharp sh_end sh_shv at h
  rw [ep] at h
  generalize hX : sh_wr (sh_wt P t (upd (sh_tr P t) 6 (FP.fadd (sh_sp P t) (FP.fdiv (FP.fmul (FP.fsub FP.fconst1 (sh_sp P t)) (FP.i2f (nI p))) 1120403456)).toInt32)) m (sh_gain (sh_row (sh_wt P t (upd (sh_tr P t) 6 (FP.fadd (sh_sp P t) (FP.fdiv (FP.fmul (FP.fsub FP.fconst1 (sh_sp P t)) (FP.i2f (nI p))) 1120403456)).toInt32)) m) 1 (P 3)) = X at h
  rw [show sh_wr (sh_wt P t (upd (sh_tr P t) 6 (FP.fadd (P (142 + 23 * t + 6)).toUInt32 (FP.fdiv (FP.fmul (FP.fsub FP.fconst1 (P (142 + 23 * t + 6)).toUInt32) (FP.i2f (nI p))) 1120403456)).toInt32)) m (sh_gain (sh_row (sh_wt P t (upd (sh_tr P t) 6 (FP.fadd (P (142 + 23 * t + 6)).toUInt32 (FP.fdiv (FP.fmul (FP.fsub FP.fconst1 (P (142 + 23 * t + 6)).toUInt32) (FP.i2f (nI p))) 1120403456)).toInt32)) m) 1 (P 3)) = X from hX]
  have hlow : ∀ j, j < 22 → X j = P j := fun j hj => by rw [← hX, wr_low hj, wt_low (by omega)]
  have hXY : nY X = nY P := by unfold nY; rw [hlow 11 (by omega)]
  have hBX : sh_B X := by rw [← hX]; exact B_wr (B_wt I.B _ _) _ _
  obtain ⟨j, hj, ej, et⟩ := tn_of I.tn hm hg
  have etX : sh_tn X (nI m) (-1) = nI j := by
    refine fnd_s (by rw [hXY]; exact hj) (decide_eq_true (by rw [hlow _ (by omega)]; exact ej)) fun k hk => decide_eq_false fun z => ?_
    rw [hlow _ (by omega)] at z
    have := I.tn.1 k j (by omega) hj (z.trans ej.symm)
    omega
  rw [etX, nI_clamp (by omega), hXY] at h
  refine c_outOfTurns hBX j (by rw [hXY]; exact hj) etX ?_
  rw [mp_p, ot_11, hXY, show (12 : Int32) + nI (nY P - 1) = nI (12 + (nY P - 1)) from nI_add 12 _, nI_clamp (by omega)]
  refine ⟨vp_in_nI (by omega) (by omega), ?_⟩
  rintro _ rfl _ rfl
  simp only [mp_p, mp_sr]
  rw [upd_ne (j := 11) (by omega), ot_11, hXY, nI_1, show nY P - 1 + 1 = nY P by omega]
  exact h
end MOPS3
