/-! printed by a text program of ours out of the decode rows: what must hold so that a call returns with Q -/
set_option maxRecDepth 100000 in
set_option maxHeartbeats 4000000 in
theorem wp_X1_copyFrom {g : sh_G} {S : sh_S} {sz : Nat} {Q : sh_S → Prop} {k i : Nat} (hk : sh_ok (1, k, i)) {k1 i1 : Nat} (hk1 : sh_ok (1, k1, i1)) 
    (h : (∀ S1 : sh_S, S1 = sh_sr S (10, k, i) (va_cpy (S (10, k1, i1)) (S (10, k, i)) 0 0 12) → Q S1)) :
    sh_Cu g mX1_copyFrom [sh_R (1, k, i), sh_R (1, k1, i1)] S sz Q := by
  refine sh_enter (ls := [(0, sh_R (1, k, i)), (1, sh_R (1, k1, i1))]) (by decide +kernel) (Nat.le_of_ble_eq_true rfl) rfl ?_
  refine sh_aload_n (pc := 0) dX1_copyFrom_0 rfl ?_
  refine sh_gf (pc := 1) dX1_copyFrom_1 fl_X1_9 cf_1 hk1 rfl rfl ?_
  refine sh_iconst (v := 0) (pc := 4) dX1_copyFrom_4 rfl ?_
  refine sh_aload_n (pc := 5) dX1_copyFrom_5 rfl ?_
  refine sh_gf (pc := 6) dX1_copyFrom_6 fl_X1_9 cf_1 hk rfl rfl ?_
  refine sh_iconst (v := 0) (pc := 9) dX1_copyFrom_9 rfl ?_
  refine sh_bipush (v := 12) (pc := 10) dX1_copyFrom_10 rfl ?_
  refine sh_cp (pc := 12) dX1_copyFrom_12 (cw_X1_15 rfl) hk1 rfl hk rfl (by decide) (by decide) (by decide) (by decide) (by decide) (by decide) (by decide) rfl ?_
  refine sh_topS (fun S1 hS1 => ?_)
  have h := h S1 hS1
  exact sh_ret_u (pc := 15) dX1_copyFrom_15 rfl ⟨rfl, rfl⟩ h

set_option maxRecDepth 100000 in
set_option maxHeartbeats 4000000 in
theorem wp_X2_copyFrom {g : sh_G} {S : sh_S} {sz : Nat} {Q : sh_S → Prop} {k : Nat} (hk : sh_ok (2, k, 0)) {k1 : Nat} (hk1 : sh_ok (2, k1, 0)) 
    (h : (∃ (Iv1 : Int32 → sh_S → Prop) (mu1 : Int32 → sh_S → Nat), Iv1 0 S ∧ ∀ (v2 : Int32) (S3 : sh_S), Iv1 v2 S3 → ((10 ≤ v2 → (∀ S5 : sh_S, S5 = sh_sr S3 (11, k, 0) (va_cpy (S3 (11, k1, 0)) (S3 (11, k, 0)) 0 0 10) → (∀ S6 : sh_S, S6 = sh_sr S5 (2, k, 0) (upd (S5 (2, k, 0)) 2 ((S5 (2, k1, 0) 2))) → (∀ S7 : sh_S, S7 = sh_sr S6 (2, k, 0) (upd (S6 (2, k, 0)) 3 ((S6 (2, k1, 0) 3))) → (∀ S8 : sh_S, S8 = sh_sr S7 (2, k, 0) (upd (S7 (2, k, 0)) 4 ((S7 (2, k1, 0) 4))) → Q S8))))) ∧ (¬ 10 ≤ v2 → (vp_in v2 10 ∧ (vp_in v2 10 ∧ (sh_Cu g mX1_copyFrom [sh_R (1, k, (v2.toNatClampNeg)), sh_R (1, k1, (v2.toNatClampNeg))] S3 sz (fun S11 => (∀ x12 : Int32, x12 = v2 + 1 → (Iv1 x12 S11 ∧ mu1 x12 S11 < mu1 v2 S3)))))))))) :
    sh_Cu g mX2_copyFrom [sh_R (2, k, 0), sh_R (2, k1, 0)] S sz Q := by
  refine sh_enter (ls := [(0, sh_R (2, k, 0)), (1, sh_R (2, k1, 0))]) (by decide +kernel) (Nat.le_of_ble_eq_true rfl) rfl ?_
  refine sh_iconst (v := 0) (pc := 0) dX2_copyFrom_0 rfl ?_
  refine sh_istore_n (ls' := [(2, sh_I 0), (0, sh_R (2, k, 0)), (1, sh_R (2, k1, 0))]) (pc := 1) dX2_copyFrom_1 (by decide) rfl ?_
  obtain ⟨Iv1, mu1, h0, hs1⟩ := h
  refine sh_pick [1, 2, 0] rfl ?_
  refine sh_lp2 Iv1 mu1 (fun v2 S3 => sh_V g mX2_copyFrom 0 0 2 [(0, sh_R (2, k, 0)), (1, sh_R (2, k1, 0)), (2, sh_I v2)] [] (sh_St S3) sz (sh_tu sz Q)) (fun v2 S3 hI1 ih1 => ?_) _ _ h0
  have h := hs1 v2 S3 hI1
  clear h0
  refine sh_iload_n (pc := 2) dX2_copyFrom_2 rfl ?_
  refine sh_bipush (v := 10) (pc := 3) dX2_copyFrom_3 rfl ?_
  refine sh_icmp_ge (tgt := 29) (pc := 5) dX2_copyFrom_5 (by decide) (fun hc4 => ?_) (fun hc4 => ?_)
  · have h := h.1 hc4
    refine sh_aload_n (pc := 29) dX2_copyFrom_29 rfl ?_
    refine sh_gf (pc := 30) dX2_copyFrom_30 fl_X2_17 cf_2 hk1 rfl rfl ?_
    refine sh_iconst (v := 0) (pc := 33) dX2_copyFrom_33 rfl ?_
    refine sh_aload_n (pc := 34) dX2_copyFrom_34 rfl ?_
    refine sh_gf (pc := 35) dX2_copyFrom_35 fl_X2_17 cf_2 hk rfl rfl ?_
    refine sh_iconst (v := 0) (pc := 38) dX2_copyFrom_38 rfl ?_
    refine sh_bipush (v := 10) (pc := 39) dX2_copyFrom_39 rfl ?_
    refine sh_cp (pc := 41) dX2_copyFrom_41 (cw_X2_26 rfl) hk1 rfl hk rfl (by decide) (by decide) (by decide) (by decide) (by decide) (by decide) (by decide) rfl ?_
    refine sh_topS (fun S5 hS5 => ?_)
    have h := h S5 hS5
    refine sh_aload_n (pc := 44) dX2_copyFrom_44 rfl ?_
    refine sh_aload_n (pc := 45) dX2_copyFrom_45 rfl ?_
    refine sh_gf (pc := 46) dX2_copyFrom_46 fl_X2_32 cf_2 hk1 rfl rfl ?_
    refine sh_pfi (pc := 49) dX2_copyFrom_49 fl_X2_32 cf_2 ft_2_2 hk rfl (Nat.le_of_ble_eq_true rfl) rfl ?_
    refine sh_topS (fun S6 hS6 => ?_)
    have h := h S6 hS6
    refine sh_aload_n (pc := 52) dX2_copyFrom_52 rfl ?_
    refine sh_aload_n (pc := 53) dX2_copyFrom_53 rfl ?_
    refine sh_gf (pc := 54) dX2_copyFrom_54 fl_X2_36 cf_2 hk1 rfl rfl ?_
    refine sh_pfi (pc := 57) dX2_copyFrom_57 fl_X2_36 cf_2 ft_2_3 hk rfl (Nat.le_of_ble_eq_true rfl) rfl ?_
    refine sh_topS (fun S7 hS7 => ?_)
    have h := h S7 hS7
    refine sh_aload_n (pc := 60) dX2_copyFrom_60 rfl ?_
    refine sh_aload_n (pc := 61) dX2_copyFrom_61 rfl ?_
    refine sh_gf (pc := 62) dX2_copyFrom_62 fl_X2_39 cf_2 hk1 rfl rfl ?_
    refine sh_pfi (pc := 65) dX2_copyFrom_65 fl_X2_39 cf_2 ft_2_4 hk rfl (Nat.le_of_ble_eq_true rfl) rfl ?_
    refine sh_topS (fun S8 hS8 => ?_)
    have h := h S8 hS8
    exact sh_ret_u (pc := 68) dX2_copyFrom_68 rfl ⟨rfl, rfl⟩ h
  · have h := h.2 hc4
    refine sh_aload_n (pc := 8) dX2_copyFrom_8 rfl ?_
    refine sh_gf (pc := 9) dX2_copyFrom_9 fl_X2_11 cf_2 hk rfl rfl ?_
    refine sh_iload_n (pc := 12) dX2_copyFrom_12 rfl ?_
    obtain ⟨hi9, h⟩ := h
    refine sh_aa (o' := (1, k, (v2.toNatClampNeg))) (pc := 13) dX2_copyFrom_13 (by decide) hk rfl hi9 rfl ?_
    refine sh_aload_n (pc := 14) dX2_copyFrom_14 rfl ?_
    refine sh_gf (pc := 15) dX2_copyFrom_15 fl_X2_11 cf_2 hk1 rfl rfl ?_
    refine sh_iload_n (pc := 18) dX2_copyFrom_18 rfl ?_
    obtain ⟨hi10, h⟩ := h
    refine sh_aa (o' := (1, k1, (v2.toNatClampNeg))) (pc := 19) dX2_copyFrom_19 (by decide) hk1 rfl hi10 rfl ?_
    refine sh_cu (N := mX1_copyFrom) (pc := 20) dX2_copyFrom_20 ml_X2_22 h mf_X1_copyFrom iv_X1_copyFrom ⟨Nat.le_of_ble_eq_true rfl, Nat.le_of_ble_eq_true rfl⟩ rfl rfl (Nat.le_of_ble_eq_true rfl) ⟨hk.1, vp_lt hi9⟩ rfl (show vwCl[1]? = some (RX1, TX1, 1) from rfl) rfl (fun S11 h => ?_)
    obtain ⟨x12, hx12⟩ : ∃ y : Int32, y = v2 + 1 := ⟨_, rfl⟩
    have h := h x12 hx12
    refine sh_iinc (v := x12) (ls' := [(2, sh_I x12), (0, sh_R (2, k, 0)), (1, sh_R (2, k1, 0))]) (pc := 23) dX2_copyFrom_23 rfl hx12.symm (by decide) rfl ?_
    refine sh_goto (tgt := 2) (pc := 26) dX2_copyFrom_26 (by decide) ?_
    refine sh_pick [1, 2, 0] rfl ?_
    exact ih1 _ _ h.1 h.2

set_option maxRecDepth 100000 in
set_option maxHeartbeats 4000000 in
theorem wp_X4_copyFrom {g : sh_G} {S : sh_S} {sz : Nat} {Q : sh_S → Prop} {k i : Nat} (hk : sh_ok (4, k, i)) {k1 i1 : Nat} (hk1 : sh_ok (4, k1, i1)) 
    (h : (∀ S1 : sh_S, S1 = sh_sr S (13, k, i) (va_cpy (S (13, k1, i1)) (S (13, k, i)) 0 0 3) → (∀ S2 : sh_S, S2 = sh_sr S1 (14, k, i) (va_cpy (S1 (14, k1, i1)) (S1 (14, k, i)) 0 0 3) → (∀ S3 : sh_S, S3 = sh_sr S2 (4, k, i) (upd (S2 (4, k, i)) 2 ((S2 (4, k1, i1) 2))) → Q S3)))) :
    sh_Cu g mX4_copyFrom [sh_R (4, k, i), sh_R (4, k1, i1)] S sz Q := by
  refine sh_enter (ls := [(0, sh_R (4, k, i)), (1, sh_R (4, k1, i1))]) (by decide +kernel) (Nat.le_of_ble_eq_true rfl) rfl ?_
  refine sh_aload_n (pc := 0) dX4_copyFrom_0 rfl ?_
  refine sh_gf (pc := 1) dX4_copyFrom_1 fl_X4_9 cf_4 hk1 rfl rfl ?_
  refine sh_iconst (v := 0) (pc := 4) dX4_copyFrom_4 rfl ?_
  refine sh_aload_n (pc := 5) dX4_copyFrom_5 rfl ?_
  refine sh_gf (pc := 6) dX4_copyFrom_6 fl_X4_9 cf_4 hk rfl rfl ?_
  refine sh_iconst (v := 0) (pc := 9) dX4_copyFrom_9 rfl ?_
  refine sh_iconst (v := 3) (pc := 10) dX4_copyFrom_10 rfl ?_
  refine sh_cp (pc := 11) dX4_copyFrom_11 (cw_X4_18 rfl) hk1 rfl hk rfl (by decide) (by decide) (by decide) (by decide) (by decide) (by decide) (by decide) rfl ?_
  refine sh_topS (fun S1 hS1 => ?_)
  have h := h S1 hS1
  refine sh_aload_n (pc := 14) dX4_copyFrom_14 rfl ?_
  refine sh_gf (pc := 15) dX4_copyFrom_15 fl_X4_15 cf_4 hk1 rfl rfl ?_
  refine sh_iconst (v := 0) (pc := 18) dX4_copyFrom_18 rfl ?_
  refine sh_aload_n (pc := 19) dX4_copyFrom_19 rfl ?_
  refine sh_gf (pc := 20) dX4_copyFrom_20 fl_X4_15 cf_4 hk rfl rfl ?_
  refine sh_iconst (v := 0) (pc := 23) dX4_copyFrom_23 rfl ?_
  refine sh_iconst (v := 3) (pc := 24) dX4_copyFrom_24 rfl ?_
  refine sh_cp (pc := 25) dX4_copyFrom_25 (cw_X4_18 rfl) hk1 rfl hk rfl (by decide) (by decide) (by decide) (by decide) (by decide) (by decide) (by decide) rfl ?_
  refine sh_topS (fun S2 hS2 => ?_)
  have h := h S2 hS2
  refine sh_aload_n (pc := 28) dX4_copyFrom_28 rfl ?_
  refine sh_aload_n (pc := 29) dX4_copyFrom_29 rfl ?_
  refine sh_gf (pc := 30) dX4_copyFrom_30 fl_X4_24 cf_4 hk1 rfl rfl ?_
  refine sh_pfi (pc := 33) dX4_copyFrom_33 fl_X4_24 cf_4 ft_4_2 hk rfl (Nat.le_of_ble_eq_true rfl) rfl ?_
  refine sh_topS (fun S3 hS3 => ?_)
  have h := h S3 hS3
  exact sh_ret_u (pc := 36) dX4_copyFrom_36 rfl ⟨rfl, rfl⟩ h

set_option maxRecDepth 100000 in
set_option maxHeartbeats 4000000 in
theorem wp_X5_copyFrom {g : sh_G} {S : sh_S} {sz : Nat} {Q : sh_S → Prop} {k i : Nat} (hk : sh_ok (5, k, i)) {k1 i1 : Nat} (hk1 : sh_ok (5, k1, i1)) 
    (h : (((S (5, k1, i1) 0) = 0 ∨ (S (5, k1, i1) 0) = 1) ∧ (∀ S1 : sh_S, S1 = sh_sr S (5, k, i) (upd (S (5, k, i)) 0 ((S (5, k1, i1) 0))) → (∀ S3 : sh_S, S3 = sh_sr S1 (5, k, i) (upd (S1 (5, k, i)) 1 ((S1 (5, k1, i1) 1))) → (∀ S4 : sh_S, S4 = sh_sr S3 (5, k, i) (upd (S3 (5, k, i)) 2 ((S3 (5, k1, i1) 2))) → (∀ S5 : sh_S, S5 = sh_sr S4 (5, k, i) (upd (S4 (5, k, i)) 3 ((S4 (5, k1, i1) 3))) → (∀ S6 : sh_S, S6 = sh_sr S5 (5, k, i) (upd (S5 (5, k, i)) 4 ((S5 (5, k1, i1) 4))) → (∀ S7 : sh_S, S7 = sh_sr S6 (5, k, i) (upd (S6 (5, k, i)) 5 ((S6 (5, k1, i1) 5))) → (∀ S8 : sh_S, S8 = sh_sr S7 (5, k, i) (upd (S7 (5, k, i)) 6 ((S7 (5, k1, i1) 6))) → Q S8))))))))) :
    sh_Cu g mX5_copyFrom [sh_R (5, k, i), sh_R (5, k1, i1)] S sz Q := by
  refine sh_enter (ls := [(0, sh_R (5, k, i)), (1, sh_R (5, k1, i1))]) (by decide +kernel) (Nat.le_of_ble_eq_true rfl) rfl ?_
  refine sh_aload_n (pc := 0) dX5_copyFrom_0 rfl ?_
  refine sh_aload_n (pc := 1) dX5_copyFrom_1 rfl ?_
  refine sh_gf (pc := 2) dX5_copyFrom_2 fl_X5_9 cf_5 hk1 rfl rfl ?_
  obtain ⟨hz2, h⟩ := h
  refine sh_pfz (pc := 5) dX5_copyFrom_5 fl_X5_9 cf_5 ft_5_0 hz2 hk rfl (Nat.le_of_ble_eq_true rfl) rfl ?_
  refine sh_topS (fun S1 hS1 => ?_)
  have h := h S1 hS1
  refine sh_aload_n (pc := 8) dX5_copyFrom_8 rfl ?_
  refine sh_aload_n (pc := 9) dX5_copyFrom_9 rfl ?_
  refine sh_gf (pc := 10) dX5_copyFrom_10 fl_X5_15 cf_5 hk1 rfl rfl ?_
  refine sh_pfi (pc := 13) dX5_copyFrom_13 fl_X5_15 cf_5 ft_5_1 hk rfl (Nat.le_of_ble_eq_true rfl) rfl ?_
  refine sh_topS (fun S3 hS3 => ?_)
  have h := h S3 hS3
  refine sh_aload_n (pc := 16) dX5_copyFrom_16 rfl ?_
  refine sh_aload_n (pc := 17) dX5_copyFrom_17 rfl ?_
  refine sh_gf (pc := 18) dX5_copyFrom_18 fl_X5_19 cf_5 hk1 rfl rfl ?_
  refine sh_pfi (pc := 21) dX5_copyFrom_21 fl_X5_19 cf_5 ft_5_2 hk rfl (Nat.le_of_ble_eq_true rfl) rfl ?_
  refine sh_topS (fun S4 hS4 => ?_)
  have h := h S4 hS4
  refine sh_aload_n (pc := 24) dX5_copyFrom_24 rfl ?_
  refine sh_aload_n (pc := 25) dX5_copyFrom_25 rfl ?_
  refine sh_gf (pc := 26) dX5_copyFrom_26 fl_X5_22 cf_5 hk1 rfl rfl ?_
  refine sh_pfi (pc := 29) dX5_copyFrom_29 fl_X5_22 cf_5 ft_5_3 hk rfl (Nat.le_of_ble_eq_true rfl) rfl ?_
  refine sh_topS (fun S5 hS5 => ?_)
  have h := h S5 hS5
  refine sh_aload_n (pc := 32) dX5_copyFrom_32 rfl ?_
  refine sh_aload_n (pc := 33) dX5_copyFrom_33 rfl ?_
  refine sh_gf (pc := 34) dX5_copyFrom_34 fl_X5_25 cf_5 hk1 rfl rfl ?_
  refine sh_pfi (pc := 37) dX5_copyFrom_37 fl_X5_25 cf_5 ft_5_4 hk rfl (Nat.le_of_ble_eq_true rfl) rfl ?_
  refine sh_topS (fun S6 hS6 => ?_)
  have h := h S6 hS6
  refine sh_aload_n (pc := 40) dX5_copyFrom_40 rfl ?_
  refine sh_aload_n (pc := 41) dX5_copyFrom_41 rfl ?_
  refine sh_gf (pc := 42) dX5_copyFrom_42 fl_X5_28 cf_5 hk1 rfl rfl ?_
  refine sh_pfi (pc := 45) dX5_copyFrom_45 fl_X5_28 cf_5 ft_5_5 hk rfl (Nat.le_of_ble_eq_true rfl) rfl ?_
  refine sh_topS (fun S7 hS7 => ?_)
  have h := h S7 hS7
  refine sh_aload_n (pc := 48) dX5_copyFrom_48 rfl ?_
  refine sh_aload_n (pc := 49) dX5_copyFrom_49 rfl ?_
  refine sh_gf (pc := 50) dX5_copyFrom_50 fl_X5_31 cf_5 hk1 rfl rfl ?_
  refine sh_pfi (pc := 53) dX5_copyFrom_53 fl_X5_31 cf_5 ft_5_6 hk rfl (Nat.le_of_ble_eq_true rfl) rfl ?_
  refine sh_topS (fun S8 hS8 => ?_)
  have h := h S8 hS8
  exact sh_ret_u (pc := 56) dX5_copyFrom_56 rfl ⟨rfl, rfl⟩ h

set_option maxRecDepth 100000 in
set_option maxHeartbeats 4000000 in
theorem wp_X7_copyFrom {g : sh_G} {S : sh_S} {sz : Nat} {Q : sh_S → Prop} {k i : Nat} (hk : sh_ok (7, k, i)) {k1 i1 : Nat} (hk1 : sh_ok (7, k1, i1)) 
    (h : (∀ S1 : sh_S, S1 = sh_sr S (7, k, i) (upd (S (7, k, i)) 0 ((S (7, k1, i1) 0))) → (∀ S2 : sh_S, S2 = sh_sr S1 (7, k, i) (upd (S1 (7, k, i)) 1 ((S1 (7, k1, i1) 1))) → (∀ S3 : sh_S, S3 = sh_sr S2 (7, k, i) (upd (S2 (7, k, i)) 2 ((S2 (7, k1, i1) 2))) → (∀ S4 : sh_S, S4 = sh_sr S3 (7, k, i) (upd (S3 (7, k, i)) 3 ((((S3 (7, k1, i1) 3).toUInt32)).toInt32)) → (∀ S5 : sh_S, S5 = sh_sr S4 (7, k, i) (upd (S4 (7, k, i)) 4 ((S4 (7, k1, i1) 4))) → (∀ S6 : sh_S, S6 = sh_sr S5 (7, k, i) (upd (S5 (7, k, i)) 5 ((S5 (7, k1, i1) 5))) → (∀ S7 : sh_S, S7 = sh_sr S6 (7, k, i) (upd (S6 (7, k, i)) 6 ((S6 (7, k1, i1) 6))) → (∀ S8 : sh_S, S8 = sh_sr S7 (7, k, i) (upd (S7 (7, k, i)) 7 ((S7 (7, k1, i1) 7))) → (∀ S9 : sh_S, S9 = sh_sr S8 (7, k, i) (upd (S8 (7, k, i)) 8 ((S8 (7, k1, i1) 8))) → (∀ S10 : sh_S, S10 = sh_sr S9 (7, k, i) (upd (S9 (7, k, i)) 9 ((S9 (7, k1, i1) 9))) → (∀ S11 : sh_S, S11 = sh_sr S10 (7, k, i) (upd (S10 (7, k, i)) 10 ((S10 (7, k1, i1) 10))) → (∀ S12 : sh_S, S12 = sh_sr S11 (7, k, i) (upd (S11 (7, k, i)) 11 ((S11 (7, k1, i1) 11))) → (sh_Cu g mX4_copyFrom [sh_R (4, k, i), sh_R (4, k1, i1)] S12 sz (fun S13 => (sh_Cu g mX5_copyFrom [sh_R (5, k, i), sh_R (5, k1, i1)] S13 sz (fun S14 => Q S14))))))))))))))))) :
    sh_Cu g mX7_copyFrom [sh_R (7, k, i), sh_R (7, k1, i1)] S sz Q := by
  refine sh_enter (ls := [(0, sh_R (7, k, i)), (1, sh_R (7, k1, i1))]) (by decide +kernel) (Nat.le_of_ble_eq_true rfl) rfl ?_
  refine sh_aload_n (pc := 0) dX7_copyFrom_0 rfl ?_
  refine sh_aload_n (pc := 1) dX7_copyFrom_1 rfl ?_
  refine sh_gf (pc := 2) dX7_copyFrom_2 fl_X7_25 cf_7 hk1 rfl rfl ?_
  refine sh_pfi (pc := 5) dX7_copyFrom_5 fl_X7_25 cf_7 ft_7_0 hk rfl (Nat.le_of_ble_eq_true rfl) rfl ?_
  refine sh_topS (fun S1 hS1 => ?_)
  have h := h S1 hS1
  refine sh_aload_n (pc := 8) dX7_copyFrom_8 rfl ?_
  refine sh_aload_n (pc := 9) dX7_copyFrom_9 rfl ?_
  refine sh_gf (pc := 10) dX7_copyFrom_10 fl_X7_29 cf_7 hk1 rfl rfl ?_
  refine sh_pfi (pc := 13) dX7_copyFrom_13 fl_X7_29 cf_7 ft_7_1 hk rfl (Nat.le_of_ble_eq_true rfl) rfl ?_
  refine sh_topS (fun S2 hS2 => ?_)
  have h := h S2 hS2
  refine sh_aload_n (pc := 16) dX7_copyFrom_16 rfl ?_
  refine sh_aload_n (pc := 17) dX7_copyFrom_17 rfl ?_
  refine sh_gf (pc := 18) dX7_copyFrom_18 fl_X7_32 cf_7 hk1 rfl rfl ?_
  refine sh_pfi (pc := 21) dX7_copyFrom_21 fl_X7_32 cf_7 ft_7_2 hk rfl (Nat.le_of_ble_eq_true rfl) rfl ?_
  refine sh_topS (fun S3 hS3 => ?_)
  have h := h S3 hS3
  refine sh_aload_n (pc := 24) dX7_copyFrom_24 rfl ?_
  refine sh_aload_n (pc := 25) dX7_copyFrom_25 rfl ?_
  refine sh_gf (pc := 26) dX7_copyFrom_26 fl_X7_35 cf_7 hk1 rfl rfl ?_
  refine sh_pff (pc := 29) dX7_copyFrom_29 fl_X7_35 cf_7 ft_7_3 hk rfl (Nat.le_of_ble_eq_true rfl) rfl ?_
  refine sh_topS (fun S4 hS4 => ?_)
  have h := h S4 hS4
  refine sh_aload_n (pc := 32) dX7_copyFrom_32 rfl ?_
  refine sh_aload_n (pc := 33) dX7_copyFrom_33 rfl ?_
  refine sh_gf (pc := 34) dX7_copyFrom_34 fl_X7_39 cf_7 hk1 rfl rfl ?_
  refine sh_pfi (pc := 37) dX7_copyFrom_37 fl_X7_39 cf_7 ft_7_4 hk rfl (Nat.le_of_ble_eq_true rfl) rfl ?_
  refine sh_topS (fun S5 hS5 => ?_)
  have h := h S5 hS5
  refine sh_aload_n (pc := 40) dX7_copyFrom_40 rfl ?_
  refine sh_aload_n (pc := 41) dX7_copyFrom_41 rfl ?_
  refine sh_gf (pc := 42) dX7_copyFrom_42 fl_X7_42 cf_7 hk1 rfl rfl ?_
  refine sh_pfi (pc := 45) dX7_copyFrom_45 fl_X7_42 cf_7 ft_7_5 hk rfl (Nat.le_of_ble_eq_true rfl) rfl ?_
  refine sh_topS (fun S6 hS6 => ?_)
  have h := h S6 hS6
  refine sh_aload_n (pc := 48) dX7_copyFrom_48 rfl ?_
  refine sh_aload_n (pc := 49) dX7_copyFrom_49 rfl ?_
  refine sh_gf (pc := 50) dX7_copyFrom_50 fl_X7_45 cf_7 hk1 rfl rfl ?_
  refine sh_pfi (pc := 53) dX7_copyFrom_53 fl_X7_45 cf_7 ft_7_6 hk rfl (Nat.le_of_ble_eq_true rfl) rfl ?_
  refine sh_topS (fun S7 hS7 => ?_)
  have h := h S7 hS7
  refine sh_aload_n (pc := 56) dX7_copyFrom_56 rfl ?_
  refine sh_aload_n (pc := 57) dX7_copyFrom_57 rfl ?_
  refine sh_gf (pc := 58) dX7_copyFrom_58 fl_X7_48 cf_7 hk1 rfl rfl ?_
  refine sh_pfi (pc := 61) dX7_copyFrom_61 fl_X7_48 cf_7 ft_7_7 hk rfl (Nat.le_of_ble_eq_true rfl) rfl ?_
  refine sh_topS (fun S8 hS8 => ?_)
  have h := h S8 hS8
  refine sh_aload_n (pc := 64) dX7_copyFrom_64 rfl ?_
  refine sh_aload_n (pc := 65) dX7_copyFrom_65 rfl ?_
  refine sh_gf (pc := 66) dX7_copyFrom_66 fl_X7_51 cf_7 hk1 rfl rfl ?_
  refine sh_pfi (pc := 69) dX7_copyFrom_69 fl_X7_51 cf_7 ft_7_8 hk rfl (Nat.le_of_ble_eq_true rfl) rfl ?_
  refine sh_topS (fun S9 hS9 => ?_)
  have h := h S9 hS9
  refine sh_aload_n (pc := 72) dX7_copyFrom_72 rfl ?_
  refine sh_aload_n (pc := 73) dX7_copyFrom_73 rfl ?_
  refine sh_gf (pc := 74) dX7_copyFrom_74 fl_X7_54 cf_7 hk1 rfl rfl ?_
  refine sh_pfi (pc := 77) dX7_copyFrom_77 fl_X7_54 cf_7 ft_7_9 hk rfl (Nat.le_of_ble_eq_true rfl) rfl ?_
  refine sh_topS (fun S10 hS10 => ?_)
  have h := h S10 hS10
  refine sh_aload_n (pc := 80) dX7_copyFrom_80 rfl ?_
  refine sh_aload_n (pc := 81) dX7_copyFrom_81 rfl ?_
  refine sh_gf (pc := 82) dX7_copyFrom_82 fl_X7_57 cf_7 hk1 rfl rfl ?_
  refine sh_pfi (pc := 85) dX7_copyFrom_85 fl_X7_57 cf_7 ft_7_10 hk rfl (Nat.le_of_ble_eq_true rfl) rfl ?_
  refine sh_topS (fun S11 hS11 => ?_)
  have h := h S11 hS11
  refine sh_aload_n (pc := 88) dX7_copyFrom_88 rfl ?_
  refine sh_aload_n (pc := 89) dX7_copyFrom_89 rfl ?_
  refine sh_gf (pc := 90) dX7_copyFrom_90 fl_X7_60 cf_7 hk1 rfl rfl ?_
  refine sh_pfi (pc := 93) dX7_copyFrom_93 fl_X7_60 cf_7 ft_7_11 hk rfl (Nat.le_of_ble_eq_true rfl) rfl ?_
  refine sh_topS (fun S12 hS12 => ?_)
  have h := h S12 hS12
  refine sh_aload_n (pc := 96) dX7_copyFrom_96 rfl ?_
  refine sh_gf (pc := 97) dX7_copyFrom_97 fl_X7_12 cf_7 hk rfl rfl ?_
  refine sh_aload_n (pc := 100) dX7_copyFrom_100 rfl ?_
  refine sh_gf (pc := 101) dX7_copyFrom_101 fl_X7_12 cf_7 hk1 rfl rfl ?_
  refine sh_cu (N := mX4_copyFrom) (pc := 104) dX7_copyFrom_104 ml_X7_63 h mf_X4_copyFrom iv_X4_copyFrom ⟨Nat.le_of_ble_eq_true rfl, Nat.le_of_ble_eq_true rfl⟩ rfl rfl (Nat.le_of_ble_eq_true rfl) hk rfl (show vwCl[4]? = some (RX4, TX4, 3) from rfl) rfl (fun S13 h => ?_)
  refine sh_aload_n (pc := 107) dX7_copyFrom_107 rfl ?_
  refine sh_gf (pc := 108) dX7_copyFrom_108 fl_X7_21 cf_7 hk rfl rfl ?_
  refine sh_aload_n (pc := 111) dX7_copyFrom_111 rfl ?_
  refine sh_gf (pc := 112) dX7_copyFrom_112 fl_X7_21 cf_7 hk1 rfl rfl ?_
  refine sh_cu (N := mX5_copyFrom) (pc := 115) dX7_copyFrom_115 ml_X7_67 h mf_X5_copyFrom iv_X5_copyFrom ⟨Nat.le_of_ble_eq_true rfl, Nat.le_of_ble_eq_true rfl⟩ rfl rfl (Nat.le_of_ble_eq_true rfl) hk rfl (show vwCl[5]? = some (RX5, TX5, 7) from rfl) rfl (fun S14 h => ?_)
  exact sh_ret_u (pc := 118) dX7_copyFrom_118 rfl ⟨rfl, rfl⟩ h

set_option maxRecDepth 100000 in
set_option maxHeartbeats 4000000 in
theorem wp_X6_copyFrom {g : sh_G} {S : sh_S} {sz : Nat} {Q : sh_S → Prop} {k : Nat} (hk : sh_ok (6, k, 0)) {k1 : Nat} (hk1 : sh_ok (6, k1, 0)) 
    (h : (∀ S1 : sh_S, S1 = sh_sr S (15, k, 0) (va_cpy (S (15, k1, 0)) (S (15, k, 0)) 0 0 7) → (sh_Cu g mX2_copyFrom [sh_R (2, k, 0), sh_R (2, k1, 0)] S1 sz (fun S2 => (∃ (Iv3 : Int32 → sh_S → Prop) (mu3 : Int32 → sh_S → Nat), Iv3 0 S2 ∧ ∀ (v4 : Int32) (S5 : sh_S), Iv3 v4 S5 → ((20 ≤ v4 → (∀ S7 : sh_S, S7 = sh_sr S5 (6, k, 0) (upd (S5 (6, k, 0)) 3 ((S5 (6, k1, 0) 3))) → (∀ S8 : sh_S, S8 = sh_sr S7 (6, k, 0) (upd (S7 (6, k, 0)) 4 ((S7 (6, k1, 0) 4))) → Q S8))) ∧ (¬ 20 ≤ v4 → (vp_in v4 20 ∧ (vp_in v4 20 ∧ (sh_Cu g mX7_copyFrom [sh_R (7, k, (v4.toNatClampNeg)), sh_R (7, k1, (v4.toNatClampNeg))] S5 sz (fun S11 => (∀ x12 : Int32, x12 = v4 + 1 → (Iv3 x12 S11 ∧ mu3 x12 S11 < mu3 v4 S5))))))))))))) :
    sh_Cu g mX6_copyFrom [sh_R (6, k, 0), sh_R (6, k1, 0)] S sz Q := by
  refine sh_enter (ls := [(0, sh_R (6, k, 0)), (1, sh_R (6, k1, 0))]) (by decide +kernel) (Nat.le_of_ble_eq_true rfl) rfl ?_
  refine sh_aload_n (pc := 0) dX6_copyFrom_0 rfl ?_
  refine sh_gf (pc := 1) dX6_copyFrom_1 fl_X6_9 cf_6 hk1 rfl rfl ?_
  refine sh_iconst (v := 0) (pc := 4) dX6_copyFrom_4 rfl ?_
  refine sh_aload_n (pc := 5) dX6_copyFrom_5 rfl ?_
  refine sh_gf (pc := 6) dX6_copyFrom_6 fl_X6_9 cf_6 hk rfl rfl ?_
  refine sh_iconst (v := 0) (pc := 9) dX6_copyFrom_9 rfl ?_
  refine sh_bipush (v := 7) (pc := 10) dX6_copyFrom_10 rfl ?_
  refine sh_cp (pc := 12) dX6_copyFrom_12 (cw_X6_31 rfl) hk1 rfl hk rfl (by decide) (by decide) (by decide) (by decide) (by decide) (by decide) (by decide) rfl ?_
  refine sh_topS (fun S1 hS1 => ?_)
  have h := h S1 hS1
  refine sh_aload_n (pc := 15) dX6_copyFrom_15 rfl ?_
  refine sh_gf (pc := 16) dX6_copyFrom_16 fl_X6_18 cf_6 hk rfl rfl ?_
  refine sh_aload_n (pc := 19) dX6_copyFrom_19 rfl ?_
  refine sh_gf (pc := 20) dX6_copyFrom_20 fl_X6_18 cf_6 hk1 rfl rfl ?_
  refine sh_cu (N := mX2_copyFrom) (pc := 23) dX6_copyFrom_23 ml_X6_38 h mf_X2_copyFrom iv_X2_copyFrom ⟨Nat.le_of_ble_eq_true rfl, Nat.le_of_ble_eq_true rfl⟩ rfl rfl (Nat.le_of_ble_eq_true rfl) hk rfl (show vwCl[2]? = some (RX2, TX2, 5) from rfl) rfl (fun S2 h => ?_)
  refine sh_iconst (v := 0) (pc := 26) dX6_copyFrom_26 rfl ?_
  refine sh_istore_n (ls' := [(2, sh_I 0), (0, sh_R (6, k, 0)), (1, sh_R (6, k1, 0))]) (pc := 27) dX6_copyFrom_27 (by decide) rfl ?_
  obtain ⟨Iv3, mu3, h0, hs3⟩ := h
  refine sh_pick [1, 2, 0] rfl ?_
  refine sh_lp2 Iv3 mu3 (fun v4 S5 => sh_V g mX6_copyFrom 0 0 28 [(0, sh_R (6, k, 0)), (1, sh_R (6, k1, 0)), (2, sh_I v4)] [] (sh_St S5) sz (sh_tu sz Q)) (fun v4 S5 hI3 ih3 => ?_) _ _ h0
  have h := hs3 v4 S5 hI3
  clear h0
  refine sh_iload_n (pc := 28) dX6_copyFrom_28 rfl ?_
  refine sh_bipush (v := 20) (pc := 29) dX6_copyFrom_29 rfl ?_
  refine sh_icmp_ge (tgt := 55) (pc := 31) dX6_copyFrom_31 (by decide) (fun hc6 => ?_) (fun hc6 => ?_)
  · have h := h.1 hc6
    refine sh_aload_n (pc := 55) dX6_copyFrom_55 rfl ?_
    refine sh_aload_n (pc := 56) dX6_copyFrom_56 rfl ?_
    refine sh_gf (pc := 57) dX6_copyFrom_57 fl_X6_45 cf_6 hk1 rfl rfl ?_
    refine sh_pfi (pc := 60) dX6_copyFrom_60 fl_X6_45 cf_6 ft_6_3 hk rfl (Nat.le_of_ble_eq_true rfl) rfl ?_
    refine sh_topS (fun S7 hS7 => ?_)
    have h := h S7 hS7
    refine sh_aload_n (pc := 63) dX6_copyFrom_63 rfl ?_
    refine sh_aload_n (pc := 64) dX6_copyFrom_64 rfl ?_
    refine sh_gf (pc := 65) dX6_copyFrom_65 fl_X6_49 cf_6 hk1 rfl rfl ?_
    refine sh_pfi (pc := 68) dX6_copyFrom_68 fl_X6_49 cf_6 ft_6_4 hk rfl (Nat.le_of_ble_eq_true rfl) rfl ?_
    refine sh_topS (fun S8 hS8 => ?_)
    have h := h S8 hS8
    exact sh_ret_u (pc := 71) dX6_copyFrom_71 rfl ⟨rfl, rfl⟩ h
  · have h := h.2 hc6
    refine sh_aload_n (pc := 34) dX6_copyFrom_34 rfl ?_
    refine sh_gf (pc := 35) dX6_copyFrom_35 fl_X6_24 cf_6 hk rfl rfl ?_
    refine sh_iload_n (pc := 38) dX6_copyFrom_38 rfl ?_
    obtain ⟨hi9, h⟩ := h
    refine sh_aa (o' := (7, k, (v4.toNatClampNeg))) (pc := 39) dX6_copyFrom_39 (by decide) hk rfl hi9 rfl ?_
    refine sh_aload_n (pc := 40) dX6_copyFrom_40 rfl ?_
    refine sh_gf (pc := 41) dX6_copyFrom_41 fl_X6_24 cf_6 hk1 rfl rfl ?_
    refine sh_iload_n (pc := 44) dX6_copyFrom_44 rfl ?_
    obtain ⟨hi10, h⟩ := h
    refine sh_aa (o' := (7, k1, (v4.toNatClampNeg))) (pc := 45) dX6_copyFrom_45 (by decide) hk1 rfl hi10 rfl ?_
    refine sh_cu (N := mX7_copyFrom) (pc := 46) dX6_copyFrom_46 ml_X6_42 h mf_X7_copyFrom iv_X7_copyFrom ⟨Nat.le_of_ble_eq_true rfl, Nat.le_of_ble_eq_true rfl⟩ rfl rfl (Nat.le_of_ble_eq_true rfl) ⟨hk.1, vp_lt hi9⟩ rfl (show vwCl[7]? = some (RX7, TX7, 14) from rfl) rfl (fun S11 h => ?_)
    obtain ⟨x12, hx12⟩ : ∃ y : Int32, y = v4 + 1 := ⟨_, rfl⟩
    have h := h x12 hx12
    refine sh_iinc (v := x12) (ls' := [(2, sh_I x12), (0, sh_R (6, k, 0)), (1, sh_R (6, k1, 0))]) (pc := 49) dX6_copyFrom_49 rfl hx12.symm (by decide) rfl ?_
    refine sh_goto (tgt := 28) (pc := 52) dX6_copyFrom_52 (by decide) ?_
    refine sh_pick [1, 2, 0] rfl ?_
    exact ih3 _ _ h.1 h.2

set_option maxRecDepth 100000 in
set_option maxHeartbeats 4000000 in
theorem wp_X0_copyPresent {g : sh_G} {S : sh_S} {sz : Nat} {Q : sh_S → Prop} {k1 : Nat} (hk1 : sh_ok (6, k1, 0)) 
    (h : (((S (0, 0, 0) 1) < 0 → Q S) ∧ (¬ (S (0, 0, 0) 1) < 0 → ((4 < (S (0, 0, 0) 1) → Q S) ∧ (¬ 4 < (S (0, 0, 0) 1) → (vp_in (S (0, 0, 0) 1) 5 ∧ (((S (17, 0, 0) ((S (0, 0, 0) 1).toNatClampNeg)).toNatClampNeg) < 7 ∧ (sh_Cu g mX6_copyFrom [sh_R (6, ((S (17, 0, 0) ((S (0, 0, 0) 1).toNatClampNeg)).toNatClampNeg), 0), sh_R (6, k1, 0)] S sz (fun S5 => Q S5))))))))) :
    sh_Cu g mX0_copyPresent [sh_R (0, 0, 0), sh_R (6, k1, 0)] S sz Q := by
  refine sh_enter (ls := [(0, sh_R (0, 0, 0)), (1, sh_R (6, k1, 0))]) (by decide +kernel) (Nat.le_of_ble_eq_true rfl) rfl ?_
  refine sh_aload_n (pc := 0) dX0_copyPresent_0 rfl ?_
  refine sh_gf (pc := 1) dX0_copyPresent_1 fl_X0_18 cf_0 ok_0_0 rfl rfl ?_
  refine sh_if_lt (tgt := 28) (pc := 4) dX0_copyPresent_4 (by decide) (fun hc1 => ?_) (fun hc1 => ?_)
  · have h := h.1 hc1
    exact sh_ret_u (pc := 28) dX0_copyPresent_28 rfl ⟨rfl, rfl⟩ h
  · have h := h.2 hc1
    refine sh_aload_n (pc := 7) dX0_copyPresent_7 rfl ?_
    refine sh_gf (pc := 8) dX0_copyPresent_8 fl_X0_18 cf_0 ok_0_0 rfl rfl ?_
    refine sh_iconst (v := 4) (pc := 11) dX0_copyPresent_11 rfl ?_
    refine sh_icmp_gt (tgt := 28) (pc := 12) dX0_copyPresent_12 (by decide) (fun hc2 => ?_) (fun hc2 => ?_)
    · have h := h.1 hc2
      exact sh_ret_u (pc := 28) dX0_copyPresent_28 rfl ⟨rfl, rfl⟩ h
    · have h := h.2 hc2
      refine sh_aload_n (pc := 15) dX0_copyPresent_15 rfl ?_
      refine sh_gf (pc := 16) dX0_copyPresent_16 fl_X0_11 cf_0 ok_0_0 rfl rfl ?_
      refine sh_aload_n (pc := 19) dX0_copyPresent_19 rfl ?_
      refine sh_gf (pc := 20) dX0_copyPresent_20 fl_X0_18 cf_0 ok_0_0 rfl rfl ?_
      obtain ⟨hi3, h⟩ := h
      obtain ⟨hk4, h⟩ := h
      refine sh_aa (o' := (6, ((S (17, 0, 0) ((S (0, 0, 0) 1).toNatClampNeg)).toNatClampNeg), 0)) (pc := 23) dX0_copyPresent_23 (by decide) ok_17_0 rfl hi3 rfl ?_
      refine sh_aload_n (pc := 24) dX0_copyPresent_24 rfl ?_
      refine sh_cu (N := mX6_copyFrom) (pc := 25) dX0_copyPresent_25 ml_X0_22 h mf_X6_copyFrom iv_X6_copyFrom ⟨Nat.le_of_ble_eq_true rfl, Nat.le_of_ble_eq_true rfl⟩ rfl rfl (Nat.le_of_ble_eq_true rfl) ⟨hk4, Nat.zero_lt_one⟩ rfl (show vwCl[6]? = some (RX6, TX6, 5) from rfl) rfl (fun S5 h => ?_)
      exact sh_ret_u (pc := 28) dX0_copyPresent_28 rfl ⟨rfl, rfl⟩ h

set_option maxRecDepth 100000 in
set_option maxHeartbeats 4000000 in
theorem wp_X0_keepCopy {g : sh_G} {S : sh_S} {sz : Nat} {Q : sh_S → Prop} 
    (h : ((4 ≤ (S (0, 0, 0) 1) → (((S (17, 0, 0) 0).toNatClampNeg) < 7 ∧ (∃ (Iv4 : Int32 → sh_S → Prop) (mu4 : Int32 → sh_S → Nat), Iv4 0 S ∧ ∀ (v5 : Int32) (S6 : sh_S), Iv4 v5 S6 → ((4 ≤ v5 → (∀ S9 : sh_S, S9 = sh_sr S6 (17, 0, 0) (upd (S6 (17, 0, 0)) 4 (S (17, 0, 0) 0)) → Q S9)) ∧ (¬ 4 ≤ v5 → (vp_in (v5 + 1) 5 ∧ (((S6 (17, 0, 0) ((v5 + 1).toNatClampNeg)).toNatClampNeg) < 7 ∧ (vp_in v5 5 ∧ (∀ S13 : sh_S, S13 = sh_sr S6 (17, 0, 0) (upd (S6 (17, 0, 0)) (v5.toNatClampNeg) (S6 (17, 0, 0) ((v5 + 1).toNatClampNeg))) → (∀ x14 : Int32, x14 = v5 + 1 → (Iv4 x14 S13 ∧ mu4 x14 S13 < mu4 v5 S6))))))))))) ∧ (¬ 4 ≤ (S (0, 0, 0) 1) → (∀ S15 : sh_S, S15 = sh_sr S (0, 0, 0) (upd (S (0, 0, 0)) 1 (((S (0, 0, 0) 1) + 1))) → Q S15)))) :
    sh_Cu g mX0_keepCopy [sh_R (0, 0, 0)] S sz Q := by
  refine sh_enter (ls := [(0, sh_R (0, 0, 0))]) (by decide +kernel) (Nat.le_of_ble_eq_true rfl) rfl ?_
  refine sh_aload_n (pc := 0) dX0_keepCopy_0 rfl ?_
  refine sh_gf (pc := 1) dX0_keepCopy_1 fl_X0_18 cf_0 ok_0_0 rfl rfl ?_
  refine sh_iconst (v := 4) (pc := 4) dX0_keepCopy_4 rfl ?_
  refine sh_icmp_ge (tgt := 19) (pc := 5) dX0_keepCopy_5 (by decide) (fun hc1 => ?_) (fun hc1 => ?_)
  · have h := h.1 hc1
    refine sh_aload_n (pc := 19) dX0_keepCopy_19 rfl ?_
    refine sh_gf (pc := 20) dX0_keepCopy_20 fl_X0_11 cf_0 ok_0_0 rfl rfl ?_
    refine sh_iconst (v := 0) (pc := 23) dX0_keepCopy_23 rfl ?_
    obtain ⟨hk3, h⟩ := h
    refine sh_aa (o' := (6, ((S (17, 0, 0) 0).toNatClampNeg), 0)) (pc := 24) dX0_keepCopy_24 (by decide) ok_17_0 rfl (vp_in_iff.mpr ⟨by decide, by decide⟩) rfl ?_
    refine sh_astore_n (ls' := [(1, sh_R (6, ((S (17, 0, 0) 0).toNatClampNeg), 0)), (0, sh_R (0, 0, 0))]) (pc := 25) dX0_keepCopy_25 (by decide) rfl ?_
    refine sh_iconst (v := 0) (pc := 26) dX0_keepCopy_26 rfl ?_
    refine sh_istore_n (ls' := [(2, sh_I 0), (1, sh_R (6, ((S (17, 0, 0) 0).toNatClampNeg), 0)), (0, sh_R (0, 0, 0))]) (pc := 27) dX0_keepCopy_27 (by decide) rfl ?_
    obtain ⟨Iv4, mu4, h0, hs4⟩ := h
    refine sh_pick [2, 1, 0] rfl ?_
    refine sh_lp2 Iv4 mu4 (fun v5 S6 => sh_V g mX0_keepCopy 0 0 28 [(0, sh_R (0, 0, 0)), (1, sh_R (6, ((S (17, 0, 0) 0).toNatClampNeg), 0)), (2, sh_I v5)] [] (sh_St S6) sz (sh_tu sz Q)) (fun v5 S6 hI4 ih4 => ?_) _ _ h0
    have h := hs4 v5 S6 hI4
    clear h0
    refine sh_iload_n (pc := 28) dX0_keepCopy_28 rfl ?_
    refine sh_iconst (v := 4) (pc := 29) dX0_keepCopy_29 rfl ?_
    refine sh_icmp_ge (tgt := 53) (pc := 30) dX0_keepCopy_30 (by decide) (fun hc7 => ?_) (fun hc7 => ?_)
    · have h := h.1 hc7
      refine sh_aload_n (pc := 53) dX0_keepCopy_53 rfl ?_
      refine sh_gf (pc := 54) dX0_keepCopy_54 fl_X0_11 cf_0 ok_0_0 rfl rfl ?_
      refine sh_iconst (v := 4) (pc := 57) dX0_keepCopy_57 rfl ?_
      refine sh_aload_n (pc := 58) dX0_keepCopy_58 rfl ?_
      refine sh_as (x := (S (17, 0, 0) 0)) (pc := 59) dX0_keepCopy_59 rfl ok_17_0 rfl ⟨hk3, Nat.zero_lt_one⟩ rfl (show vwCl[6]? = some (RX6, TX6, 5) from rfl) (vp_in_iff.mpr ⟨by decide, by decide⟩) (sh_upq _ _ _) ?_
      refine sh_topS (fun S9 hS9 => ?_)
      have h := h S9 hS9
      exact sh_ret_u (pc := 60) dX0_keepCopy_60 rfl ⟨rfl, rfl⟩ h
    · have h := h.2 hc7
      refine sh_aload_n (pc := 33) dX0_keepCopy_33 rfl ?_
      refine sh_gf (pc := 34) dX0_keepCopy_34 fl_X0_11 cf_0 ok_0_0 rfl rfl ?_
      refine sh_iload_n (pc := 37) dX0_keepCopy_37 rfl ?_
      refine sh_aload_n (pc := 38) dX0_keepCopy_38 rfl ?_
      refine sh_gf (pc := 39) dX0_keepCopy_39 fl_X0_11 cf_0 ok_0_0 rfl rfl ?_
      refine sh_iload_n (pc := 42) dX0_keepCopy_42 rfl ?_
      refine sh_iconst (v := 1) (pc := 43) dX0_keepCopy_43 rfl ?_
      refine sh_iadd (pc := 44) dX0_keepCopy_44 ?_
      obtain ⟨hi10, h⟩ := h
      obtain ⟨hk11, h⟩ := h
      refine sh_aa (o' := (6, ((S6 (17, 0, 0) ((v5 + 1).toNatClampNeg)).toNatClampNeg), 0)) (pc := 45) dX0_keepCopy_45 (by decide) ok_17_0 rfl hi10 rfl ?_
      obtain ⟨hi12, h⟩ := h
      refine sh_as (x := (S6 (17, 0, 0) ((v5 + 1).toNatClampNeg))) (pc := 46) dX0_keepCopy_46 rfl ok_17_0 rfl ⟨hk11, Nat.zero_lt_one⟩ rfl (show vwCl[6]? = some (RX6, TX6, 5) from rfl) hi12 (sh_upq _ _ _) ?_
      refine sh_topS (fun S13 hS13 => ?_)
      have h := h S13 hS13
      obtain ⟨x14, hx14⟩ : ∃ y : Int32, y = v5 + 1 := ⟨_, rfl⟩
      have h := h x14 hx14
      refine sh_iinc (v := x14) (ls' := [(2, sh_I x14), (0, sh_R (0, 0, 0)), (1, sh_R (6, ((S (17, 0, 0) 0).toNatClampNeg), 0))]) (pc := 47) dX0_keepCopy_47 rfl hx14.symm (by decide) rfl ?_
      refine sh_goto (tgt := 28) (pc := 50) dX0_keepCopy_50 (by decide) ?_
      refine sh_pick [1, 2, 0] rfl ?_
      exact ih4 _ _ h.1 h.2
  · have h := h.2 hc1
    refine sh_aload_n (pc := 8) dX0_keepCopy_8 rfl ?_
    refine sh_dup (pc := 9) dX0_keepCopy_9 rfl ?_
    refine sh_gf (pc := 10) dX0_keepCopy_10 fl_X0_18 cf_0 ok_0_0 rfl rfl ?_
    refine sh_iconst (v := 1) (pc := 13) dX0_keepCopy_13 rfl ?_
    refine sh_iadd (pc := 14) dX0_keepCopy_14 ?_
    refine sh_pfi (pc := 15) dX0_keepCopy_15 fl_X0_18 cf_0 ft_0_1 ok_0_0 rfl (Nat.le_of_ble_eq_true rfl) rfl ?_
    refine sh_topS (fun S15 hS15 => ?_)
    have h := h S15 hS15
    exact sh_ret_u (pc := 18) dX0_keepCopy_18 rfl ⟨rfl, rfl⟩ h

set_option maxRecDepth 100000 in
set_option maxHeartbeats 4000000 in
theorem wp_X0_restore {g : sh_G} {S : sh_S} {sz : Nat} {Q : Int32 → sh_S → Prop} {k1 : Nat} (hk1 : sh_ok (6, k1, 0)) 
    (h : (((S (0, 0, 0) 1) < 1 → Q (-1000002) S) ∧ (¬ (S (0, 0, 0) 1) < 1 → (((S (0, 0, 0) 1) ≤ 4 → (∀ S3 : sh_S, S3 = sh_sr S (0, 0, 0) (upd (S (0, 0, 0)) 1 (((S (0, 0, 0) 1) - 1))) → (vp_in (S3 (0, 0, 0) 1) 5 ∧ (((S3 (17, 0, 0) ((S3 (0, 0, 0) 1).toNatClampNeg)).toNatClampNeg) < 7 ∧ (sh_Cu g mX6_copyFrom [sh_R (6, k1, 0), sh_R (6, ((S3 (17, 0, 0) ((S3 (0, 0, 0) 1).toNatClampNeg)).toNatClampNeg), 0)] S3 sz (fun S6 => Q (S6 (0, 0, 0) 1) S6)))))) ∧ (¬ (S (0, 0, 0) 1) ≤ 4 → Q (-1000002) S))))) :
    sh_Ci g mX0_restore [sh_R (0, 0, 0), sh_R (6, k1, 0)] S sz Q := by
  refine sh_enter (ls := [(0, sh_R (0, 0, 0)), (1, sh_R (6, k1, 0))]) (by decide +kernel) (Nat.le_of_ble_eq_true rfl) rfl ?_
  refine sh_aload_n (pc := 0) dX0_restore_0 rfl ?_
  refine sh_gf (pc := 1) dX0_restore_1 fl_X0_18 cf_0 ok_0_0 rfl rfl ?_
  refine sh_iconst (v := 1) (pc := 4) dX0_restore_4 rfl ?_
  refine sh_icmp_lt (tgt := 16) (pc := 5) dX0_restore_5 (by decide) (fun hc1 => ?_) (fun hc1 => ?_)
  · have h := h.1 hc1
    refine sh_ldc (v := (-1000002)) (pc := 16) dX0_restore_16 kc_X0_26 ?_
    exact sh_ret_i (pc := 18) dX0_restore_18 rfl ⟨rfl, rfl⟩ h
  · have h := h.2 hc1
    refine sh_aload_n (pc := 8) dX0_restore_8 rfl ?_
    refine sh_gf (pc := 9) dX0_restore_9 fl_X0_18 cf_0 ok_0_0 rfl rfl ?_
    refine sh_iconst (v := 4) (pc := 12) dX0_restore_12 rfl ?_
    refine sh_icmp_le (tgt := 19) (pc := 13) dX0_restore_13 (by decide) (fun hc2 => ?_) (fun hc2 => ?_)
    · have h := h.1 hc2
      refine sh_aload_n (pc := 19) dX0_restore_19 rfl ?_
      refine sh_dup (pc := 20) dX0_restore_20 rfl ?_
      refine sh_gf (pc := 21) dX0_restore_21 fl_X0_18 cf_0 ok_0_0 rfl rfl ?_
      refine sh_iconst (v := 1) (pc := 24) dX0_restore_24 rfl ?_
      refine sh_isub (pc := 25) dX0_restore_25 ?_
      refine sh_pfi (pc := 26) dX0_restore_26 fl_X0_18 cf_0 ft_0_1 ok_0_0 rfl (Nat.le_of_ble_eq_true rfl) rfl ?_
      refine sh_topS (fun S3 hS3 => ?_)
      have h := h S3 hS3
      refine sh_aload_n (pc := 29) dX0_restore_29 rfl ?_
      refine sh_aload_n (pc := 30) dX0_restore_30 rfl ?_
      refine sh_gf (pc := 31) dX0_restore_31 fl_X0_11 cf_0 ok_0_0 rfl rfl ?_
      refine sh_aload_n (pc := 34) dX0_restore_34 rfl ?_
      refine sh_gf (pc := 35) dX0_restore_35 fl_X0_18 cf_0 ok_0_0 rfl rfl ?_
      obtain ⟨hi4, h⟩ := h
      obtain ⟨hk5, h⟩ := h
      refine sh_aa (o' := (6, ((S3 (17, 0, 0) ((S3 (0, 0, 0) 1).toNatClampNeg)).toNatClampNeg), 0)) (pc := 38) dX0_restore_38 (by decide) ok_17_0 rfl hi4 rfl ?_
      refine sh_cu (N := mX6_copyFrom) (pc := 39) dX0_restore_39 ml_X0_22 h mf_X6_copyFrom iv_X6_copyFrom ⟨Nat.le_of_ble_eq_true rfl, Nat.le_of_ble_eq_true rfl⟩ rfl rfl (Nat.le_of_ble_eq_true rfl) hk1 rfl (show vwCl[6]? = some (RX6, TX6, 5) from rfl) rfl (fun S6 h => ?_)
      refine sh_aload_n (pc := 42) dX0_restore_42 rfl ?_
      refine sh_gf (pc := 43) dX0_restore_43 fl_X0_18 cf_0 ok_0_0 rfl rfl ?_
      exact sh_ret_i (pc := 46) dX0_restore_46 rfl ⟨rfl, rfl⟩ h
    · have h := h.2 hc2
      refine sh_ldc (v := (-1000002)) (pc := 16) dX0_restore_16 kc_X0_26 ?_
      exact sh_ret_i (pc := 18) dX0_restore_18 rfl ⟨rfl, rfl⟩ h

set_option maxRecDepth 100000 in
set_option maxHeartbeats 4000000 in
theorem wp_X1_isThere {g : sh_G} {S : sh_S} {sz : Nat} {Q : Int32 → sh_S → Prop} {k i : Nat} (hk : sh_ok (1, k, i)) 
    (h : ((¬ (S (10, k, i) 0) = 0 → Q 0 S) ∧ ((S (10, k, i) 0) = 0 → Q 1 S))) :
    sh_Ci g mX1_isThere [sh_R (1, k, i)] S sz Q := by
  refine sh_enter (ls := [(0, sh_R (1, k, i))]) (by decide +kernel) (Nat.le_of_ble_eq_true rfl) rfl ?_
  refine sh_aload_n (pc := 0) dX1_isThere_0 rfl ?_
  refine sh_gf (pc := 1) dX1_isThere_1 fl_X1_9 cf_1 hk rfl rfl ?_
  refine sh_iconst (v := 0) (pc := 4) dX1_isThere_4 rfl ?_
  refine sh_ia (pc := 5) dX1_isThere_5 hk rfl (vp_in_iff.mpr ⟨by decide, by decide⟩) ?_
  refine sh_if_ne (tgt := 13) (pc := 6) dX1_isThere_6 (by decide) (fun hc2 => ?_) (fun hc2 => ?_)
  · have h := h.1 hc2
    refine sh_iconst (v := 0) (pc := 13) dX1_isThere_13 rfl ?_
    exact sh_ret_z (pc := 14) dX1_isThere_14 rfl rfl ⟨rfl, rfl⟩ h
  · have h := h.2 hc2
    refine sh_iconst (v := 1) (pc := 9) dX1_isThere_9 rfl ?_
    refine sh_goto (tgt := 14) (pc := 10) dX1_isThere_10 (by decide) ?_
    exact sh_ret_z (pc := 14) dX1_isThere_14 rfl rfl ⟨rfl, rfl⟩ h

set_option maxRecDepth 100000 in
set_option maxHeartbeats 4000000 in
theorem wp_X1_isGone {g : sh_G} {S : sh_S} {sz : Nat} {Q : Int32 → sh_S → Prop} {k i : Nat} (hk : sh_ok (1, k, i)) 
    (h : ((¬ (S (10, k, i) 0) = 2 → Q 0 S) ∧ ((S (10, k, i) 0) = 2 → Q 1 S))) :
    sh_Ci g mX1_isGone [sh_R (1, k, i)] S sz Q := by
  refine sh_enter (ls := [(0, sh_R (1, k, i))]) (by decide +kernel) (Nat.le_of_ble_eq_true rfl) rfl ?_
  refine sh_aload_n (pc := 0) dX1_isGone_0 rfl ?_
  refine sh_gf (pc := 1) dX1_isGone_1 fl_X1_9 cf_1 hk rfl rfl ?_
  refine sh_iconst (v := 0) (pc := 4) dX1_isGone_4 rfl ?_
  refine sh_ia (pc := 5) dX1_isGone_5 hk rfl (vp_in_iff.mpr ⟨by decide, by decide⟩) ?_
  refine sh_iconst (v := 2) (pc := 6) dX1_isGone_6 rfl ?_
  refine sh_icmp_ne (tgt := 14) (pc := 7) dX1_isGone_7 (by decide) (fun hc2 => ?_) (fun hc2 => ?_)
  · have h := h.1 hc2
    refine sh_iconst (v := 0) (pc := 14) dX1_isGone_14 rfl ?_
    exact sh_ret_z (pc := 15) dX1_isGone_15 rfl rfl ⟨rfl, rfl⟩ h
  · have h := h.2 hc2
    refine sh_iconst (v := 1) (pc := 10) dX1_isGone_10 rfl ?_
    refine sh_goto (tgt := 15) (pc := 11) dX1_isGone_11 (by decide) ?_
    exact sh_ret_z (pc := 15) dX1_isGone_15 rfl rfl ⟨rfl, rfl⟩ h

set_option maxRecDepth 100000 in
set_option maxHeartbeats 4000000 in
theorem wp_X1_openInAll {g : sh_G} {S : sh_S} {sz : Nat} {Q : Int32 → sh_S → Prop} {k i : Nat} (hk : sh_ok (1, k, i)) 
    (h : (∃ (Iv1 : Int32 → Int32 → Prop) (mu1 : Int32 → Int32 → Nat), Iv1 0 0 ∧ ∀ (v2 : Int32) (v3 : Int32), Iv1 v2 v3 → ((3 ≤ v3 → Q v2 S) ∧ (¬ 3 ≤ v3 → (vp_in (8 + v3) 12 ∧ (∀ x7 : Int32, x7 = (v2 + (S (10, k, i) ((8 + v3).toNatClampNeg))) → (∀ x8 : Int32, x8 = v3 + 1 → (Iv1 x7 x8 ∧ mu1 x7 x8 < mu1 v2 v3)))))))) :
    sh_Ci g mX1_openInAll [sh_R (1, k, i)] S sz Q := by
  refine sh_enter (ls := [(0, sh_R (1, k, i))]) (by decide +kernel) (Nat.le_of_ble_eq_true rfl) rfl ?_
  refine sh_iconst (v := 0) (pc := 0) dX1_openInAll_0 rfl ?_
  refine sh_istore_n (ls' := [(1, sh_I 0), (0, sh_R (1, k, i))]) (pc := 1) dX1_openInAll_1 (by decide) rfl ?_
  refine sh_iconst (v := 0) (pc := 2) dX1_openInAll_2 rfl ?_
  refine sh_istore_n (ls' := [(2, sh_I 0), (1, sh_I 0), (0, sh_R (1, k, i))]) (pc := 3) dX1_openInAll_3 (by decide) rfl ?_
  obtain ⟨Iv1, mu1, h0, hs1⟩ := h
  refine sh_pick [2, 1, 0] rfl ?_
  refine sh_lp2 Iv1 mu1 (fun v2 v3 => sh_V g mX1_openInAll 0 0 4 [(0, sh_R (1, k, i)), (1, sh_I v2), (2, sh_I v3)] [] (sh_St S) sz (sh_ti sz Q)) (fun v2 v3 hI1 ih1 => ?_) _ _ h0
  have h := hs1 v2 v3 hI1
  clear h0
  refine sh_iload_n (pc := 4) dX1_openInAll_4 rfl ?_
  refine sh_iconst (v := 3) (pc := 5) dX1_openInAll_5 rfl ?_
  refine sh_icmp_ge (tgt := 27) (pc := 6) dX1_openInAll_6 (by decide) (fun hc5 => ?_) (fun hc5 => ?_)
  · have h := h.1 hc5
    refine sh_iload_n (pc := 27) dX1_openInAll_27 rfl ?_
    exact sh_ret_i (pc := 28) dX1_openInAll_28 rfl ⟨rfl, rfl⟩ h
  · have h := h.2 hc5
    refine sh_iload_n (pc := 9) dX1_openInAll_9 rfl ?_
    refine sh_aload_n (pc := 10) dX1_openInAll_10 rfl ?_
    refine sh_gf (pc := 11) dX1_openInAll_11 fl_X1_9 cf_1 hk rfl rfl ?_
    refine sh_bipush (v := 8) (pc := 14) dX1_openInAll_14 rfl ?_
    refine sh_iload_n (pc := 16) dX1_openInAll_16 rfl ?_
    refine sh_iadd (pc := 17) dX1_openInAll_17 ?_
    obtain ⟨hi6, h⟩ := h
    refine sh_ia (pc := 18) dX1_openInAll_18 hk rfl hi6 ?_
    refine sh_iadd (pc := 19) dX1_openInAll_19 ?_
    refine sh_topI (fun x7 hx7 => ?_)
    have h := h x7 hx7
    refine sh_istore_n (ls' := [(1, sh_I x7), (0, sh_R (1, k, i)), (2, sh_I v3)]) (pc := 20) dX1_openInAll_20 (by decide) rfl ?_
    obtain ⟨x8, hx8⟩ : ∃ y : Int32, y = v3 + 1 := ⟨_, rfl⟩
    have h := h x8 hx8
    refine sh_iinc (v := x8) (ls' := [(2, sh_I x8), (1, sh_I x7), (0, sh_R (1, k, i))]) (pc := 21) dX1_openInAll_21 rfl hx8.symm (by decide) rfl ?_
    refine sh_goto (tgt := 4) (pc := 24) dX1_openInAll_24 (by decide) ?_
    refine sh_pick [2, 1, 0] rfl ?_
    exact ih1 _ _ h.1 h.2

set_option maxRecDepth 100000 in
set_option maxHeartbeats 4000000 in
theorem wp_X1_payOpen {g : sh_G} {S : sh_S} {sz : Nat} {Q : sh_S → Prop} {k i : Nat} (hk : sh_ok (1, k, i)) {a1 : Int32} 
    (h : (∃ (Iv1 : Int32 → Int32 → sh_S → Prop) (mu1 : Int32 → Int32 → sh_S → Nat), Iv1 a1 0 S ∧ ∀ (v2 : Int32) (v3 : Int32) (S4 : sh_S), Iv1 v2 v3 S4 → ((3 ≤ v3 → (∀ S8 : sh_S, S8 = sh_sr S4 (10, k, i) (upd (S4 (10, k, i)) 3 ((S4 (10, k, i) 3) + v2)) → Q S8)) ∧ (¬ 3 ≤ v3 → (vp_in (8 + v3) 12 ∧ (∀ x10 : Int32, x10 = (if (S4 (10, k, i) ((8 + v3).toNatClampNeg)) < v2 then (S4 (10, k, i) ((8 + v3).toNatClampNeg)) else v2) → (vp_in (8 + v3) 12 ∧ (vp_in (8 + v3) 12 ∧ (∀ S13 : sh_S, S13 = sh_sr S4 (10, k, i) (upd (S4 (10, k, i)) ((8 + v3).toNatClampNeg) ((S4 (10, k, i) ((8 + v3).toNatClampNeg)) - x10)) → (vp_in (5 + v3) 12 ∧ (vp_in (5 + v3) 12 ∧ (∀ S16 : sh_S, S16 = sh_sr S13 (10, k, i) (upd (S13 (10, k, i)) ((5 + v3).toNatClampNeg) ((S13 (10, k, i) ((5 + v3).toNatClampNeg)) + x10)) → (∀ x17 : Int32, x17 = (v2 - x10) → (∀ x18 : Int32, x18 = v3 + 1 → (Iv1 x17 x18 S16 ∧ mu1 x17 x18 S16 < mu1 v2 v3 S4))))))))))))))) :
    sh_Cu g mX1_payOpen [sh_R (1, k, i), sh_I a1] S sz Q := by
  refine sh_enter (ls := [(0, sh_R (1, k, i)), (1, sh_I a1)]) (by decide +kernel) (Nat.le_of_ble_eq_true rfl) rfl ?_
  refine sh_iload_n (pc := 0) dX1_payOpen_0 rfl ?_
  refine sh_istore_n (ls' := [(2, sh_I a1), (0, sh_R (1, k, i)), (1, sh_I a1)]) (pc := 1) dX1_payOpen_1 (by decide) rfl ?_
  refine sh_iconst (v := 0) (pc := 2) dX1_payOpen_2 rfl ?_
  refine sh_istore_n (ls' := [(3, sh_I 0), (2, sh_I a1), (0, sh_R (1, k, i)), (1, sh_I a1)]) (pc := 3) dX1_payOpen_3 (by decide) rfl ?_
  obtain ⟨Iv1, mu1, h0, hs1⟩ := h
  refine sh_pick [2, 3, 1, 0] rfl ?_
  refine sh_lp3 Iv1 mu1 (fun v2 v3 S4 => sh_V g mX1_payOpen 0 0 4 [(0, sh_R (1, k, i)), (1, sh_I a1), (2, sh_I v2), (3, sh_I v3)] [] (sh_St S4) sz (sh_tu sz Q)) (fun v2 v3 S4 hI1 ih1 => ?_) _ _ _ h0
  have h := hs1 v2 v3 S4 hI1
  clear h0
  refine sh_iload_n (pc := 4) dX1_payOpen_4 rfl ?_
  refine sh_iconst (v := 3) (pc := 5) dX1_payOpen_5 rfl ?_
  refine sh_icmp_ge (tgt := 62) (pc := 6) dX1_payOpen_6 (by decide) (fun hc5 => ?_) (fun hc5 => ?_)
  · have h := h.1 hc5
    refine sh_aload_n (pc := 62) dX1_payOpen_62 rfl ?_
    refine sh_gf (pc := 63) dX1_payOpen_63 fl_X1_9 cf_1 hk rfl rfl ?_
    refine sh_iconst (v := 3) (pc := 66) dX1_payOpen_66 rfl ?_
    refine sh_dup2 (pc := 67) dX1_payOpen_67 rfl rfl ?_
    refine sh_ia (pc := 68) dX1_payOpen_68 hk rfl (vp_in_iff.mpr ⟨by decide, by decide⟩) ?_
    refine sh_iload_n (pc := 69) dX1_payOpen_69 rfl ?_
    refine sh_iadd (pc := 70) dX1_payOpen_70 ?_
    refine sh_is (pc := 71) dX1_payOpen_71 hk rfl (vp_in_iff.mpr ⟨by decide, by decide⟩) rfl ?_
    refine sh_topS (fun S8 hS8 => ?_)
    have h := h S8 hS8
    exact sh_ret_u (pc := 72) dX1_payOpen_72 rfl ⟨rfl, rfl⟩ h
  · have h := h.2 hc5
    refine sh_iload_n (pc := 9) dX1_payOpen_9 rfl ?_
    refine sh_aload_n (pc := 10) dX1_payOpen_10 rfl ?_
    refine sh_gf (pc := 11) dX1_payOpen_11 fl_X1_9 cf_1 hk rfl rfl ?_
    refine sh_bipush (v := 8) (pc := 14) dX1_payOpen_14 rfl ?_
    refine sh_iload_n (pc := 16) dX1_payOpen_16 rfl ?_
    refine sh_iadd (pc := 17) dX1_payOpen_17 ?_
    obtain ⟨hi9, h⟩ := h
    refine sh_ia (pc := 18) dX1_payOpen_18 hk rfl hi9 ?_
    refine sh_min (pc := 19) dX1_payOpen_19 ml_X1_25 jw_min.1 jw_min.2.1 jw_min.2.2 (Nat.le_of_ble_eq_true rfl) (Nat.le_of_ble_eq_true rfl) ⟨Nat.le_refl _, Nat.le_refl _⟩ ?_
    refine sh_topI (fun x10 hx10 => ?_)
    have h := h x10 hx10
    refine sh_istore (ls' := [(4, sh_I x10), (0, sh_R (1, k, i)), (1, sh_I a1), (2, sh_I v2), (3, sh_I v3)]) (pc := 22) dX1_payOpen_22 (by decide) rfl ?_
    refine sh_aload_n (pc := 24) dX1_payOpen_24 rfl ?_
    refine sh_gf (pc := 25) dX1_payOpen_25 fl_X1_9 cf_1 hk rfl rfl ?_
    refine sh_bipush (v := 8) (pc := 28) dX1_payOpen_28 rfl ?_
    refine sh_iload_n (pc := 30) dX1_payOpen_30 rfl ?_
    refine sh_iadd (pc := 31) dX1_payOpen_31 ?_
    refine sh_dup2 (pc := 32) dX1_payOpen_32 rfl rfl ?_
    obtain ⟨hi11, h⟩ := h
    refine sh_ia (pc := 33) dX1_payOpen_33 hk rfl hi11 ?_
    refine sh_iload (pc := 34) dX1_payOpen_34 rfl ?_
    refine sh_isub (pc := 36) dX1_payOpen_36 ?_
    obtain ⟨hi12, h⟩ := h
    refine sh_is (pc := 37) dX1_payOpen_37 hk rfl hi12 rfl ?_
    refine sh_topS (fun S13 hS13 => ?_)
    have h := h S13 hS13
    refine sh_aload_n (pc := 38) dX1_payOpen_38 rfl ?_
    refine sh_gf (pc := 39) dX1_payOpen_39 fl_X1_9 cf_1 hk rfl rfl ?_
    refine sh_iconst (v := 5) (pc := 42) dX1_payOpen_42 rfl ?_
    refine sh_iload_n (pc := 43) dX1_payOpen_43 rfl ?_
    refine sh_iadd (pc := 44) dX1_payOpen_44 ?_
    refine sh_dup2 (pc := 45) dX1_payOpen_45 rfl rfl ?_
    obtain ⟨hi14, h⟩ := h
    refine sh_ia (pc := 46) dX1_payOpen_46 hk rfl hi14 ?_
    refine sh_iload (pc := 47) dX1_payOpen_47 rfl ?_
    refine sh_iadd (pc := 49) dX1_payOpen_49 ?_
    obtain ⟨hi15, h⟩ := h
    refine sh_is (pc := 50) dX1_payOpen_50 hk rfl hi15 rfl ?_
    refine sh_topS (fun S16 hS16 => ?_)
    have h := h S16 hS16
    refine sh_iload_n (pc := 51) dX1_payOpen_51 rfl ?_
    refine sh_iload (pc := 52) dX1_payOpen_52 rfl ?_
    refine sh_isub (pc := 54) dX1_payOpen_54 ?_
    refine sh_topI (fun x17 hx17 => ?_)
    have h := h x17 hx17
    refine sh_istore_n (ls' := [(2, sh_I x17), (4, sh_I x10), (0, sh_R (1, k, i)), (1, sh_I a1), (3, sh_I v3)]) (pc := 55) dX1_payOpen_55 (by decide) rfl ?_
    obtain ⟨x18, hx18⟩ : ∃ y : Int32, y = v3 + 1 := ⟨_, rfl⟩
    have h := h x18 hx18
    refine sh_iinc (v := x18) (ls' := [(3, sh_I x18), (2, sh_I x17), (4, sh_I x10), (0, sh_R (1, k, i)), (1, sh_I a1)]) (pc := 56) dX1_payOpen_56 rfl hx18.symm (by decide) rfl ?_
    refine sh_goto (tgt := 4) (pc := 59) dX1_payOpen_59 (by decide) ?_
    refine sh_pick [3, 4, 1, 0] rfl ?_
    exact ih1 _ _ _ h.1 h.2

set_option maxRecDepth 100000 in
set_option maxHeartbeats 4000000 in
theorem wp_X1_gainGiven {g : sh_G} {S : sh_S} {sz : Nat} {Q : sh_S → Prop} {k i : Nat} (hk : sh_ok (1, k, i)) {a1 : Int32} 
    (h : (∀ S3 : sh_S, S3 = sh_sr S (10, k, i) (upd (S (10, k, i)) 1 ((S (10, k, i) 1) + a1)) → (sh_Cu g mX1_payOpen [sh_R (1, k, i), sh_I a1] S3 sz (fun S4 => Q S4)))) :
    sh_Cu g mX1_gainGiven [sh_R (1, k, i), sh_I a1] S sz Q := by
  refine sh_enter (ls := [(0, sh_R (1, k, i)), (1, sh_I a1)]) (by decide +kernel) (Nat.le_of_ble_eq_true rfl) rfl ?_
  refine sh_aload_n (pc := 0) dX1_gainGiven_0 rfl ?_
  refine sh_gf (pc := 1) dX1_gainGiven_1 fl_X1_9 cf_1 hk rfl rfl ?_
  refine sh_iconst (v := 1) (pc := 4) dX1_gainGiven_4 rfl ?_
  refine sh_dup2 (pc := 5) dX1_gainGiven_5 rfl rfl ?_
  refine sh_ia (pc := 6) dX1_gainGiven_6 hk rfl (vp_in_iff.mpr ⟨by decide, by decide⟩) ?_
  refine sh_iload_n (pc := 7) dX1_gainGiven_7 rfl ?_
  refine sh_iadd (pc := 8) dX1_gainGiven_8 ?_
  refine sh_is (pc := 9) dX1_gainGiven_9 hk rfl (vp_in_iff.mpr ⟨by decide, by decide⟩) rfl ?_
  refine sh_topS (fun S3 hS3 => ?_)
  have h := h S3 hS3
  refine sh_aload_n (pc := 10) dX1_gainGiven_10 rfl ?_
  refine sh_iload_n (pc := 11) dX1_gainGiven_11 rfl ?_
  refine sh_cu (N := mX1_payOpen) (pc := 12) dX1_gainGiven_12 ml_X1_21 h mf_X1_payOpen iv_X1_payOpen ⟨Nat.le_of_ble_eq_true rfl, Nat.le_of_ble_eq_true rfl⟩ rfl rfl (Nat.le_of_ble_eq_true rfl) hk rfl (show vwCl[1]? = some (RX1, TX1, 1) from rfl) rfl (fun S4 h => ?_)
  exact sh_ret_u (pc := 15) dX1_gainGiven_15 rfl ⟨rfl, rfl⟩ h

set_option maxRecDepth 100000 in
set_option maxHeartbeats 4000000 in
theorem wp_X1_gainShared {g : sh_G} {S : sh_S} {sz : Nat} {Q : sh_S → Prop} {k i : Nat} (hk : sh_ok (1, k, i)) {a1 : Int32} 
    (h : (∀ S3 : sh_S, S3 = sh_sr S (10, k, i) (upd (S (10, k, i)) 2 ((S (10, k, i) 2) + a1)) → (sh_Cu g mX1_payOpen [sh_R (1, k, i), sh_I a1] S3 sz (fun S4 => Q S4)))) :
    sh_Cu g mX1_gainShared [sh_R (1, k, i), sh_I a1] S sz Q := by
  refine sh_enter (ls := [(0, sh_R (1, k, i)), (1, sh_I a1)]) (by decide +kernel) (Nat.le_of_ble_eq_true rfl) rfl ?_
  refine sh_aload_n (pc := 0) dX1_gainShared_0 rfl ?_
  refine sh_gf (pc := 1) dX1_gainShared_1 fl_X1_9 cf_1 hk rfl rfl ?_
  refine sh_iconst (v := 2) (pc := 4) dX1_gainShared_4 rfl ?_
  refine sh_dup2 (pc := 5) dX1_gainShared_5 rfl rfl ?_
  refine sh_ia (pc := 6) dX1_gainShared_6 hk rfl (vp_in_iff.mpr ⟨by decide, by decide⟩) ?_
  refine sh_iload_n (pc := 7) dX1_gainShared_7 rfl ?_
  refine sh_iadd (pc := 8) dX1_gainShared_8 ?_
  refine sh_is (pc := 9) dX1_gainShared_9 hk rfl (vp_in_iff.mpr ⟨by decide, by decide⟩) rfl ?_
  refine sh_topS (fun S3 hS3 => ?_)
  have h := h S3 hS3
  refine sh_aload_n (pc := 10) dX1_gainShared_10 rfl ?_
  refine sh_iload_n (pc := 11) dX1_gainShared_11 rfl ?_
  refine sh_cu (N := mX1_payOpen) (pc := 12) dX1_gainShared_12 ml_X1_21 h mf_X1_payOpen iv_X1_payOpen ⟨Nat.le_of_ble_eq_true rfl, Nat.le_of_ble_eq_true rfl⟩ rfl rfl (Nat.le_of_ble_eq_true rfl) hk rfl (show vwCl[1]? = some (RX1, TX1, 1) from rfl) rfl (fun S4 h => ?_)
  exact sh_ret_u (pc := 15) dX1_gainShared_15 rfl ⟨rfl, rfl⟩ h

set_option maxRecDepth 100000 in
set_option maxHeartbeats 4000000 in
theorem wp_X1_charge {g : sh_G} {S : sh_S} {sz : Nat} {Q : sh_S → Prop} {k i : Nat} (hk : sh_ok (1, k, i)) {a1 : Int32} {a2 : Int32} 
    (h : ((a1 < 0 → Q S) ∧ (¬ a1 < 0 → ((a1 < 3 → (∀ x4 : Int32, x4 = (if a2 < (S (10, k, i) 3) then a2 else (S (10, k, i) 3)) → (∀ S7 : sh_S, S7 = sh_sr S (10, k, i) (upd (S (10, k, i)) 3 ((S (10, k, i) 3) - x4)) → (vp_in (5 + a1) 12 ∧ (vp_in (5 + a1) 12 ∧ (∀ S10 : sh_S, S10 = sh_sr S7 (10, k, i) (upd (S7 (10, k, i)) ((5 + a1).toNatClampNeg) ((S7 (10, k, i) ((5 + a1).toNatClampNeg)) + x4)) → (vp_in (8 + a1) 12 ∧ (vp_in (8 + a1) 12 ∧ (∀ S13 : sh_S, S13 = sh_sr S10 (10, k, i) (upd (S10 (10, k, i)) ((8 + a1).toNatClampNeg) ((S10 (10, k, i) ((8 + a1).toNatClampNeg)) + (a2 - x4))) → Q S13))))))))) ∧ (¬ a1 < 3 → Q S))))) :
    sh_Cu g mX1_charge [sh_R (1, k, i), sh_I a1, sh_I a2] S sz Q := by
  refine sh_enter (ls := [(0, sh_R (1, k, i)), (1, sh_I a1), (2, sh_I a2)]) (by decide +kernel) (Nat.le_of_ble_eq_true rfl) rfl ?_
  refine sh_iload_n (pc := 0) dX1_charge_0 rfl ?_
  refine sh_if_lt (tgt := 9) (pc := 1) dX1_charge_1 (by decide) (fun hc1 => ?_) (fun hc1 => ?_)
  · have h := h.1 hc1
    exact sh_ret_u (pc := 9) dX1_charge_9 rfl ⟨rfl, rfl⟩ h
  · have h := h.2 hc1
    refine sh_iload_n (pc := 4) dX1_charge_4 rfl ?_
    refine sh_iconst (v := 3) (pc := 5) dX1_charge_5 rfl ?_
    refine sh_icmp_lt (tgt := 10) (pc := 6) dX1_charge_6 (by decide) (fun hc2 => ?_) (fun hc2 => ?_)
    · have h := h.1 hc2
      refine sh_aload_n (pc := 10) dX1_charge_10 rfl ?_
      refine sh_gf (pc := 11) dX1_charge_11 fl_X1_9 cf_1 hk rfl rfl ?_
      refine sh_iconst (v := 3) (pc := 14) dX1_charge_14 rfl ?_
      refine sh_ia (pc := 15) dX1_charge_15 hk rfl (vp_in_iff.mpr ⟨by decide, by decide⟩) ?_
      refine sh_iload_n (pc := 16) dX1_charge_16 rfl ?_
      refine sh_min (pc := 17) dX1_charge_17 ml_X1_25 jw_min.1 jw_min.2.1 jw_min.2.2 (Nat.le_of_ble_eq_true rfl) (Nat.le_of_ble_eq_true rfl) ⟨Nat.le_refl _, Nat.le_refl _⟩ ?_
      refine sh_topI (fun x4 hx4 => ?_)
      have h := h x4 hx4
      refine sh_istore_n (ls' := [(3, sh_I x4), (0, sh_R (1, k, i)), (1, sh_I a1), (2, sh_I a2)]) (pc := 20) dX1_charge_20 (by decide) rfl ?_
      refine sh_aload_n (pc := 21) dX1_charge_21 rfl ?_
      refine sh_gf (pc := 22) dX1_charge_22 fl_X1_9 cf_1 hk rfl rfl ?_
      refine sh_iconst (v := 3) (pc := 25) dX1_charge_25 rfl ?_
      refine sh_dup2 (pc := 26) dX1_charge_26 rfl rfl ?_
      refine sh_ia (pc := 27) dX1_charge_27 hk rfl (vp_in_iff.mpr ⟨by decide, by decide⟩) ?_
      refine sh_iload_n (pc := 28) dX1_charge_28 rfl ?_
      refine sh_isub (pc := 29) dX1_charge_29 ?_
      refine sh_is (pc := 30) dX1_charge_30 hk rfl (vp_in_iff.mpr ⟨by decide, by decide⟩) rfl ?_
      refine sh_topS (fun S7 hS7 => ?_)
      have h := h S7 hS7
      refine sh_aload_n (pc := 31) dX1_charge_31 rfl ?_
      refine sh_gf (pc := 32) dX1_charge_32 fl_X1_9 cf_1 hk rfl rfl ?_
      refine sh_iconst (v := 5) (pc := 35) dX1_charge_35 rfl ?_
      refine sh_iload_n (pc := 36) dX1_charge_36 rfl ?_
      refine sh_iadd (pc := 37) dX1_charge_37 ?_
      refine sh_dup2 (pc := 38) dX1_charge_38 rfl rfl ?_
      obtain ⟨hi8, h⟩ := h
      refine sh_ia (pc := 39) dX1_charge_39 hk rfl hi8 ?_
      refine sh_iload_n (pc := 40) dX1_charge_40 rfl ?_
      refine sh_iadd (pc := 41) dX1_charge_41 ?_
      obtain ⟨hi9, h⟩ := h
      refine sh_is (pc := 42) dX1_charge_42 hk rfl hi9 rfl ?_
      refine sh_topS (fun S10 hS10 => ?_)
      have h := h S10 hS10
      refine sh_aload_n (pc := 43) dX1_charge_43 rfl ?_
      refine sh_gf (pc := 44) dX1_charge_44 fl_X1_9 cf_1 hk rfl rfl ?_
      refine sh_bipush (v := 8) (pc := 47) dX1_charge_47 rfl ?_
      refine sh_iload_n (pc := 49) dX1_charge_49 rfl ?_
      refine sh_iadd (pc := 50) dX1_charge_50 ?_
      refine sh_dup2 (pc := 51) dX1_charge_51 rfl rfl ?_
      obtain ⟨hi11, h⟩ := h
      refine sh_ia (pc := 52) dX1_charge_52 hk rfl hi11 ?_
      refine sh_iload_n (pc := 53) dX1_charge_53 rfl ?_
      refine sh_iload_n (pc := 54) dX1_charge_54 rfl ?_
      refine sh_isub (pc := 55) dX1_charge_55 ?_
      refine sh_iadd (pc := 56) dX1_charge_56 ?_
      obtain ⟨hi12, h⟩ := h
      refine sh_is (pc := 57) dX1_charge_57 hk rfl hi12 rfl ?_
      refine sh_topS (fun S13 hS13 => ?_)
      have h := h S13 hS13
      exact sh_ret_u (pc := 58) dX1_charge_58 rfl ⟨rfl, rfl⟩ h
    · have h := h.2 hc2
      exact sh_ret_u (pc := 9) dX1_charge_9 rfl ⟨rfl, rfl⟩ h

set_option maxRecDepth 100000 in
set_option maxHeartbeats 4000000 in
theorem wp_X1_takeShare {g : sh_G} {S : sh_S} {sz : Nat} {Q : sh_S → Prop} {k i : Nat} (hk : sh_ok (1, k, i)) {a1 : Int32} {a2 : Int32} 
    (h : ((¬ a1 = 3 → (sh_Cu g mX1_charge [sh_R (1, k, i), sh_I a1, sh_I a2] S sz (fun S2 => Q S2))) ∧ (a1 = 3 → (sh_Cu g mX1_gainShared [sh_R (1, k, i), sh_I a2] S sz (fun S3 => Q S3))))) :
    sh_Cu g mX1_takeShare [sh_R (1, k, i), sh_I a1, sh_I a2] S sz Q := by
  refine sh_enter (ls := [(0, sh_R (1, k, i)), (1, sh_I a1), (2, sh_I a2)]) (by decide +kernel) (Nat.le_of_ble_eq_true rfl) rfl ?_
  refine sh_iload_n (pc := 0) dX1_takeShare_0 rfl ?_
  refine sh_iconst (v := 3) (pc := 1) dX1_takeShare_1 rfl ?_
  refine sh_icmp_ne (tgt := 13) (pc := 2) dX1_takeShare_2 (by decide) (fun hc1 => ?_) (fun hc1 => ?_)
  · have h := h.1 hc1
    refine sh_aload_n (pc := 13) dX1_takeShare_13 rfl ?_
    refine sh_iload_n (pc := 14) dX1_takeShare_14 rfl ?_
    refine sh_iload_n (pc := 15) dX1_takeShare_15 rfl ?_
    refine sh_cu (N := mX1_charge) (pc := 16) dX1_takeShare_16 ml_X1_34 h mf_X1_charge iv_X1_charge ⟨Nat.le_of_ble_eq_true rfl, Nat.le_of_ble_eq_true rfl⟩ rfl rfl (Nat.le_of_ble_eq_true rfl) hk rfl (show vwCl[1]? = some (RX1, TX1, 1) from rfl) rfl (fun S2 h => ?_)
    exact sh_ret_u (pc := 19) dX1_takeShare_19 rfl ⟨rfl, rfl⟩ h
  · have h := h.2 hc1
    refine sh_aload_n (pc := 5) dX1_takeShare_5 rfl ?_
    refine sh_iload_n (pc := 6) dX1_takeShare_6 rfl ?_
    refine sh_cu (N := mX1_gainShared) (pc := 7) dX1_takeShare_7 ml_X1_31 h mf_X1_gainShared iv_X1_gainShared ⟨Nat.le_of_ble_eq_true rfl, Nat.le_of_ble_eq_true rfl⟩ rfl rfl (Nat.le_of_ble_eq_true rfl) hk rfl (show vwCl[1]? = some (RX1, TX1, 1) from rfl) rfl (fun S3 h => ?_)
    refine sh_goto (tgt := 19) (pc := 10) dX1_takeShare_10 (by decide) ?_
    exact sh_ret_u (pc := 19) dX1_takeShare_19 rfl ⟨rfl, rfl⟩ h

set_option maxRecDepth 100000 in
set_option maxHeartbeats 4000000 in
theorem wp_X2_has {g : sh_G} {S : sh_S} {sz : Nat} {Q : Int32 → sh_S → Prop} {k : Nat} (hk : sh_ok (2, k, 0)) {a1 : Int32} 
    (h : ((a1 < 0 → Q 0 S) ∧ (¬ a1 < 0 → (((S (2, k, 0) 2) ≤ a1 → Q 0 S) ∧ (¬ (S (2, k, 0) 2) ≤ a1 → ((10 ≤ a1 → Q 0 S) ∧ (¬ 10 ≤ a1 → Q 1 S))))))) :
    sh_Ci g mX2_has [sh_R (2, k, 0), sh_I a1] S sz Q := by
  refine sh_enter (ls := [(0, sh_R (2, k, 0)), (1, sh_I a1)]) (by decide +kernel) (Nat.le_of_ble_eq_true rfl) rfl ?_
  refine sh_iload_n (pc := 0) dX2_has_0 rfl ?_
  refine sh_if_lt (tgt := 22) (pc := 1) dX2_has_1 (by decide) (fun hc1 => ?_) (fun hc1 => ?_)
  · have h := h.1 hc1
    refine sh_iconst (v := 0) (pc := 22) dX2_has_22 rfl ?_
    exact sh_ret_z (pc := 23) dX2_has_23 rfl rfl ⟨rfl, rfl⟩ h
  · have h := h.2 hc1
    refine sh_iload_n (pc := 4) dX2_has_4 rfl ?_
    refine sh_aload_n (pc := 5) dX2_has_5 rfl ?_
    refine sh_gf (pc := 6) dX2_has_6 fl_X2_32 cf_2 hk rfl rfl ?_
    refine sh_icmp_ge (tgt := 22) (pc := 9) dX2_has_9 (by decide) (fun hc2 => ?_) (fun hc2 => ?_)
    · have h := h.1 hc2
      refine sh_iconst (v := 0) (pc := 22) dX2_has_22 rfl ?_
      exact sh_ret_z (pc := 23) dX2_has_23 rfl rfl ⟨rfl, rfl⟩ h
    · have h := h.2 hc2
      refine sh_iload_n (pc := 12) dX2_has_12 rfl ?_
      refine sh_bipush (v := 10) (pc := 13) dX2_has_13 rfl ?_
      refine sh_icmp_ge (tgt := 22) (pc := 15) dX2_has_15 (by decide) (fun hc3 => ?_) (fun hc3 => ?_)
      · have h := h.1 hc3
        refine sh_iconst (v := 0) (pc := 22) dX2_has_22 rfl ?_
        exact sh_ret_z (pc := 23) dX2_has_23 rfl rfl ⟨rfl, rfl⟩ h
      · have h := h.2 hc3
        refine sh_iconst (v := 1) (pc := 18) dX2_has_18 rfl ?_
        refine sh_goto (tgt := 23) (pc := 19) dX2_has_19 (by decide) ?_
        exact sh_ret_z (pc := 23) dX2_has_23 rfl rfl ⟨rfl, rfl⟩ h

set_option maxRecDepth 100000 in
set_option maxHeartbeats 4000000 in
theorem wp_X2_takesPart {g : sh_G} {S : sh_S} {sz : Nat} {Q : Int32 → sh_S → Prop} {k : Nat} (hk : sh_ok (2, k, 0)) {a1 : Int32} {a2 : Int32} 
    (h : (sh_Ci g mX2_has [sh_R (2, k, 0), sh_I a1] S sz (fun r2 S1 => ((r2 = 0 → Q 0 S1) ∧ (¬ r2 = 0 → ((a1 = a2 → Q 0 S1) ∧ (¬ a1 = a2 → (vp_in a1 10 ∧ (sh_Ci g mX1_isGone [sh_R (1, k, (a1.toNatClampNeg))] S1 sz (fun r7 S6 => ((¬ r7 = 0 → Q 0 S6) ∧ (r7 = 0 → Q 1 S6)))))))))))) :
    sh_Ci g mX2_takesPart [sh_R (2, k, 0), sh_I a1, sh_I a2] S sz Q := by
  refine sh_enter (ls := [(0, sh_R (2, k, 0)), (1, sh_I a1), (2, sh_I a2)]) (by decide +kernel) (Nat.le_of_ble_eq_true rfl) rfl ?_
  refine sh_aload_n (pc := 0) dX2_takesPart_0 rfl ?_
  refine sh_iload_n (pc := 1) dX2_takesPart_1 rfl ?_
  refine sh_ci (N := mX2_has) (pc := 2) dX2_takesPart_2 ml_X2_42 h mf_X2_has iv_X2_has ⟨Nat.le_of_ble_eq_true rfl, Nat.le_of_ble_eq_true rfl⟩ rfl rfl (Nat.le_of_ble_eq_true rfl) hk rfl (show vwCl[2]? = some (RX2, TX2, 5) from rfl) rfl (fun r2 S1 h => ?_)
  refine sh_if_eq (tgt := 29) (pc := 5) dX2_takesPart_5 (by decide) (fun hc3 => ?_) (fun hc3 => ?_)
  · have h := h.1 hc3
    refine sh_iconst (v := 0) (pc := 29) dX2_takesPart_29 rfl ?_
    exact sh_ret_z (pc := 30) dX2_takesPart_30 rfl rfl ⟨rfl, rfl⟩ h
  · have h := h.2 hc3
    refine sh_iload_n (pc := 8) dX2_takesPart_8 rfl ?_
    refine sh_iload_n (pc := 9) dX2_takesPart_9 rfl ?_
    refine sh_icmp_eq (tgt := 29) (pc := 10) dX2_takesPart_10 (by decide) (fun hc4 => ?_) (fun hc4 => ?_)
    · have h := h.1 hc4
      refine sh_iconst (v := 0) (pc := 29) dX2_takesPart_29 rfl ?_
      exact sh_ret_z (pc := 30) dX2_takesPart_30 rfl rfl ⟨rfl, rfl⟩ h
    · have h := h.2 hc4
      refine sh_aload_n (pc := 13) dX2_takesPart_13 rfl ?_
      refine sh_gf (pc := 14) dX2_takesPart_14 fl_X2_11 cf_2 hk rfl rfl ?_
      refine sh_iload_n (pc := 17) dX2_takesPart_17 rfl ?_
      obtain ⟨hi5, h⟩ := h
      refine sh_aa (o' := (1, k, (a1.toNatClampNeg))) (pc := 18) dX2_takesPart_18 (by decide) hk rfl hi5 rfl ?_
      refine sh_ci (N := mX1_isGone) (pc := 19) dX2_takesPart_19 ml_X2_46 h mf_X1_isGone iv_X1_isGone ⟨Nat.le_of_ble_eq_true rfl, Nat.le_of_ble_eq_true rfl⟩ rfl rfl (Nat.le_of_ble_eq_true rfl) ⟨hk.1, vp_lt hi5⟩ rfl (show vwCl[1]? = some (RX1, TX1, 1) from rfl) rfl (fun r7 S6 h => ?_)
      refine sh_if_ne (tgt := 29) (pc := 22) dX2_takesPart_22 (by decide) (fun hc8 => ?_) (fun hc8 => ?_)
      · have h := h.1 hc8
        refine sh_iconst (v := 0) (pc := 29) dX2_takesPart_29 rfl ?_
        exact sh_ret_z (pc := 30) dX2_takesPart_30 rfl rfl ⟨rfl, rfl⟩ h
      · have h := h.2 hc8
        refine sh_iconst (v := 1) (pc := 25) dX2_takesPart_25 rfl ?_
        refine sh_goto (tgt := 30) (pc := 26) dX2_takesPart_26 (by decide) ?_
        exact sh_ret_z (pc := 30) dX2_takesPart_30 rfl rfl ⟨rfl, rfl⟩ h

set_option maxRecDepth 100000 in
set_option maxHeartbeats 4000000 in
theorem wp_X2_countNotGone {g : sh_G} {S : sh_S} {sz : Nat} {Q : Int32 → sh_S → Prop} {k : Nat} (hk : sh_ok (2, k, 0)) {a1 : Int32} 
    (h : (∃ (Iv1 : Int32 → Int32 → sh_S → Prop) (mu1 : Int32 → Int32 → sh_S → Nat), Iv1 0 0 S ∧ ∀ (v2 : Int32) (v3 : Int32) (S4 : sh_S), Iv1 v2 v3 S4 → (((S4 (2, k, 0) 2) ≤ v3 → Q v2 S4) ∧ (¬ (S4 (2, k, 0) 2) ≤ v3 → (sh_Ci g mX2_takesPart [sh_R (2, k, 0), sh_I v3, sh_I a1] S4 sz (fun r7 S6 => ((r7 = 0 → (∀ x9 : Int32, x9 = v3 + 1 → (Iv1 v2 x9 S6 ∧ mu1 v2 x9 S6 < mu1 v2 v3 S4))) ∧ (¬ r7 = 0 → (∀ x10 : Int32, x10 = v2 + 1 → (∀ x11 : Int32, x11 = v3 + 1 → (Iv1 x10 x11 S6 ∧ mu1 x10 x11 S6 < mu1 v2 v3 S4))))))))))) :
    sh_Ci g mX2_countNotGone [sh_R (2, k, 0), sh_I a1] S sz Q := by
  refine sh_enter (ls := [(0, sh_R (2, k, 0)), (1, sh_I a1)]) (by decide +kernel) (Nat.le_of_ble_eq_true rfl) rfl ?_
  refine sh_iconst (v := 0) (pc := 0) dX2_countNotGone_0 rfl ?_
  refine sh_istore_n (ls' := [(2, sh_I 0), (0, sh_R (2, k, 0)), (1, sh_I a1)]) (pc := 1) dX2_countNotGone_1 (by decide) rfl ?_
  refine sh_iconst (v := 0) (pc := 2) dX2_countNotGone_2 rfl ?_
  refine sh_istore_n (ls' := [(3, sh_I 0), (2, sh_I 0), (0, sh_R (2, k, 0)), (1, sh_I a1)]) (pc := 3) dX2_countNotGone_3 (by decide) rfl ?_
  obtain ⟨Iv1, mu1, h0, hs1⟩ := h
  refine sh_pick [2, 3, 1, 0] rfl ?_
  refine sh_lp3 Iv1 mu1 (fun v2 v3 S4 => sh_V g mX2_countNotGone 0 0 4 [(0, sh_R (2, k, 0)), (1, sh_I a1), (2, sh_I v2), (3, sh_I v3)] [] (sh_St S4) sz (sh_ti sz Q)) (fun v2 v3 S4 hI1 ih1 => ?_) _ _ _ h0
  have h := hs1 v2 v3 S4 hI1
  clear h0
  refine sh_iload_n (pc := 4) dX2_countNotGone_4 rfl ?_
  refine sh_aload_n (pc := 5) dX2_countNotGone_5 rfl ?_
  refine sh_gf (pc := 6) dX2_countNotGone_6 fl_X2_32 cf_2 hk rfl rfl ?_
  refine sh_icmp_ge (tgt := 30) (pc := 9) dX2_countNotGone_9 (by decide) (fun hc5 => ?_) (fun hc5 => ?_)
  · have h := h.1 hc5
    refine sh_iload_n (pc := 30) dX2_countNotGone_30 rfl ?_
    exact sh_ret_i (pc := 31) dX2_countNotGone_31 rfl ⟨rfl, rfl⟩ h
  · have h := h.2 hc5
    refine sh_aload_n (pc := 12) dX2_countNotGone_12 rfl ?_
    refine sh_iload_n (pc := 13) dX2_countNotGone_13 rfl ?_
    refine sh_iload_n (pc := 14) dX2_countNotGone_14 rfl ?_
    refine sh_ci (N := mX2_takesPart) (pc := 15) dX2_countNotGone_15 ml_X2_50 h mf_X2_takesPart iv_X2_takesPart ⟨Nat.le_of_ble_eq_true rfl, Nat.le_of_ble_eq_true rfl⟩ rfl rfl (Nat.le_of_ble_eq_true rfl) hk rfl (show vwCl[2]? = some (RX2, TX2, 5) from rfl) rfl (fun r7 S6 h => ?_)
    refine sh_if_eq (tgt := 24) (pc := 18) dX2_countNotGone_18 (by decide) (fun hc8 => ?_) (fun hc8 => ?_)
    · have h := h.1 hc8
      obtain ⟨x9, hx9⟩ : ∃ y : Int32, y = v3 + 1 := ⟨_, rfl⟩
      have h := h x9 hx9
      refine sh_iinc (v := x9) (ls' := [(3, sh_I x9), (0, sh_R (2, k, 0)), (1, sh_I a1), (2, sh_I v2)]) (pc := 24) dX2_countNotGone_24 rfl hx9.symm (by decide) rfl ?_
      refine sh_goto (tgt := 4) (pc := 27) dX2_countNotGone_27 (by decide) ?_
      refine sh_pick [1, 2, 3, 0] rfl ?_
      exact ih1 _ _ _ h.1 h.2
    · have h := h.2 hc8
      obtain ⟨x10, hx10⟩ : ∃ y : Int32, y = v2 + 1 := ⟨_, rfl⟩
      have h := h x10 hx10
      refine sh_iinc (v := x10) (ls' := [(2, sh_I x10), (0, sh_R (2, k, 0)), (1, sh_I a1), (3, sh_I v3)]) (pc := 21) dX2_countNotGone_21 rfl hx10.symm (by decide) rfl ?_
      obtain ⟨x11, hx11⟩ : ∃ y : Int32, y = v3 + 1 := ⟨_, rfl⟩
      have h := h x11 hx11
      refine sh_iinc (v := x11) (ls' := [(3, sh_I x11), (2, sh_I x10), (0, sh_R (2, k, 0)), (1, sh_I a1)]) (pc := 24) dX2_countNotGone_24 rfl hx11.symm (by decide) rfl ?_
      refine sh_goto (tgt := 4) (pc := 27) dX2_countNotGone_27 (by decide) ?_
      refine sh_pick [2, 3, 1, 0] rfl ?_
      exact ih1 _ _ _ h.1 h.2

set_option maxRecDepth 100000 in
set_option maxHeartbeats 4000000 in
theorem wp_X2_countWithStatus {g : sh_G} {S : sh_S} {sz : Nat} {Q : Int32 → sh_S → Prop} {k : Nat} (hk : sh_ok (2, k, 0)) {a1 : Int32} 
    (h : (∃ (Iv1 : Int32 → Int32 → sh_S → Prop) (mu1 : Int32 → Int32 → sh_S → Nat), Iv1 0 0 S ∧ ∀ (v2 : Int32) (v3 : Int32) (S4 : sh_S), Iv1 v2 v3 S4 → (((S4 (2, k, 0) 2) ≤ v3 → Q v2 S4) ∧ (¬ (S4 (2, k, 0) 2) ≤ v3 → (sh_Ci g mX2_has [sh_R (2, k, 0), sh_I v3] S4 sz (fun r7 S6 => ((r7 = 0 → (∀ x9 : Int32, x9 = v3 + 1 → (Iv1 v2 x9 S6 ∧ mu1 v2 x9 S6 < mu1 v2 v3 S4))) ∧ (¬ r7 = 0 → (vp_in v3 10 ∧ ((¬ (S6 (10, k, (v3.toNatClampNeg)) 0) = a1 → (∀ x13 : Int32, x13 = v3 + 1 → (Iv1 v2 x13 S6 ∧ mu1 v2 x13 S6 < mu1 v2 v3 S4))) ∧ ((S6 (10, k, (v3.toNatClampNeg)) 0) = a1 → (∀ x14 : Int32, x14 = v2 + 1 → (∀ x15 : Int32, x15 = v3 + 1 → (Iv1 x14 x15 S6 ∧ mu1 x14 x15 S6 < mu1 v2 v3 S4)))))))))))))) :
    sh_Ci g mX2_countWithStatus [sh_R (2, k, 0), sh_I a1] S sz Q := by
  refine sh_enter (ls := [(0, sh_R (2, k, 0)), (1, sh_I a1)]) (by decide +kernel) (Nat.le_of_ble_eq_true rfl) rfl ?_
  refine sh_iconst (v := 0) (pc := 0) dX2_countWithStatus_0 rfl ?_
  refine sh_istore_n (ls' := [(2, sh_I 0), (0, sh_R (2, k, 0)), (1, sh_I a1)]) (pc := 1) dX2_countWithStatus_1 (by decide) rfl ?_
  refine sh_iconst (v := 0) (pc := 2) dX2_countWithStatus_2 rfl ?_
  refine sh_istore_n (ls' := [(3, sh_I 0), (2, sh_I 0), (0, sh_R (2, k, 0)), (1, sh_I a1)]) (pc := 3) dX2_countWithStatus_3 (by decide) rfl ?_
  obtain ⟨Iv1, mu1, h0, hs1⟩ := h
  refine sh_pick [2, 3, 1, 0] rfl ?_
  refine sh_lp3 Iv1 mu1 (fun v2 v3 S4 => sh_V g mX2_countWithStatus 0 0 4 [(0, sh_R (2, k, 0)), (1, sh_I a1), (2, sh_I v2), (3, sh_I v3)] [] (sh_St S4) sz (sh_ti sz Q)) (fun v2 v3 S4 hI1 ih1 => ?_) _ _ _ h0
  have h := hs1 v2 v3 S4 hI1
  clear h0
  refine sh_iload_n (pc := 4) dX2_countWithStatus_4 rfl ?_
  refine sh_aload_n (pc := 5) dX2_countWithStatus_5 rfl ?_
  refine sh_gf (pc := 6) dX2_countWithStatus_6 fl_X2_32 cf_2 hk rfl rfl ?_
  refine sh_icmp_ge (tgt := 44) (pc := 9) dX2_countWithStatus_9 (by decide) (fun hc5 => ?_) (fun hc5 => ?_)
  · have h := h.1 hc5
    refine sh_iload_n (pc := 44) dX2_countWithStatus_44 rfl ?_
    exact sh_ret_i (pc := 45) dX2_countWithStatus_45 rfl ⟨rfl, rfl⟩ h
  · have h := h.2 hc5
    refine sh_aload_n (pc := 12) dX2_countWithStatus_12 rfl ?_
    refine sh_iload_n (pc := 13) dX2_countWithStatus_13 rfl ?_
    refine sh_ci (N := mX2_has) (pc := 14) dX2_countWithStatus_14 ml_X2_42 h mf_X2_has iv_X2_has ⟨Nat.le_of_ble_eq_true rfl, Nat.le_of_ble_eq_true rfl⟩ rfl rfl (Nat.le_of_ble_eq_true rfl) hk rfl (show vwCl[2]? = some (RX2, TX2, 5) from rfl) rfl (fun r7 S6 h => ?_)
    refine sh_if_eq (tgt := 38) (pc := 17) dX2_countWithStatus_17 (by decide) (fun hc8 => ?_) (fun hc8 => ?_)
    · have h := h.1 hc8
      obtain ⟨x9, hx9⟩ : ∃ y : Int32, y = v3 + 1 := ⟨_, rfl⟩
      have h := h x9 hx9
      refine sh_iinc (v := x9) (ls' := [(3, sh_I x9), (0, sh_R (2, k, 0)), (1, sh_I a1), (2, sh_I v2)]) (pc := 38) dX2_countWithStatus_38 rfl hx9.symm (by decide) rfl ?_
      refine sh_goto (tgt := 4) (pc := 41) dX2_countWithStatus_41 (by decide) ?_
      refine sh_pick [1, 2, 3, 0] rfl ?_
      exact ih1 _ _ _ h.1 h.2
    · have h := h.2 hc8
      refine sh_aload_n (pc := 20) dX2_countWithStatus_20 rfl ?_
      refine sh_gf (pc := 21) dX2_countWithStatus_21 fl_X2_11 cf_2 hk rfl rfl ?_
      refine sh_iload_n (pc := 24) dX2_countWithStatus_24 rfl ?_
      obtain ⟨hi10, h⟩ := h
      refine sh_aa (o' := (1, k, (v3.toNatClampNeg))) (pc := 25) dX2_countWithStatus_25 (by decide) hk rfl hi10 rfl ?_
      refine sh_gf (pc := 26) dX2_countWithStatus_26 fl_X2_54 cf_1 ⟨hk.1, vp_lt hi10⟩ rfl rfl ?_
      refine sh_iconst (v := 0) (pc := 29) dX2_countWithStatus_29 rfl ?_
      refine sh_ia (pc := 30) dX2_countWithStatus_30 ⟨hk.1, vp_lt hi10⟩ rfl (vp_in_iff.mpr ⟨by decide, by decide⟩) ?_
      refine sh_iload_n (pc := 31) dX2_countWithStatus_31 rfl ?_
      refine sh_icmp_ne (tgt := 38) (pc := 32) dX2_countWithStatus_32 (by decide) (fun hc12 => ?_) (fun hc12 => ?_)
      · have h := h.1 hc12
        obtain ⟨x13, hx13⟩ : ∃ y : Int32, y = v3 + 1 := ⟨_, rfl⟩
        have h := h x13 hx13
        refine sh_iinc (v := x13) (ls' := [(3, sh_I x13), (0, sh_R (2, k, 0)), (1, sh_I a1), (2, sh_I v2)]) (pc := 38) dX2_countWithStatus_38 rfl hx13.symm (by decide) rfl ?_
        refine sh_goto (tgt := 4) (pc := 41) dX2_countWithStatus_41 (by decide) ?_
        refine sh_pick [1, 2, 3, 0] rfl ?_
        exact ih1 _ _ _ h.1 h.2
      · have h := h.2 hc12
        obtain ⟨x14, hx14⟩ : ∃ y : Int32, y = v2 + 1 := ⟨_, rfl⟩
        have h := h x14 hx14
        refine sh_iinc (v := x14) (ls' := [(2, sh_I x14), (0, sh_R (2, k, 0)), (1, sh_I a1), (3, sh_I v3)]) (pc := 35) dX2_countWithStatus_35 rfl hx14.symm (by decide) rfl ?_
        obtain ⟨x15, hx15⟩ : ∃ y : Int32, y = v3 + 1 := ⟨_, rfl⟩
        have h := h x15 hx15
        refine sh_iinc (v := x15) (ls' := [(3, sh_I x15), (2, sh_I x14), (0, sh_R (2, k, 0)), (1, sh_I a1)]) (pc := 38) dX2_countWithStatus_38 rfl hx15.symm (by decide) rfl ?_
        refine sh_goto (tgt := 4) (pc := 41) dX2_countWithStatus_41 (by decide) ?_
        refine sh_pick [2, 3, 1, 0] rfl ?_
        exact ih1 _ _ _ h.1 h.2

set_option maxRecDepth 100000 in
set_option maxHeartbeats 4000000 in
theorem wp_X2_putBehindTurns {g : sh_G} {S : sh_S} {sz : Nat} {Q : sh_S → Prop} {k : Nat} (hk : sh_ok (2, k, 0)) {a1 : Int32} 
    (h : (((S (2, k, 0) 3) < 0 → Q S) ∧ (¬ (S (2, k, 0) 3) < 0 → ((10 ≤ (S (2, k, 0) 3) → Q S) ∧ (¬ 10 ≤ (S (2, k, 0) 3) → (vp_in (S (2, k, 0) 3) 10 ∧ (∀ S4 : sh_S, S4 = sh_sr S (11, k, 0) (upd (S (11, k, 0)) ((S (2, k, 0) 3).toNatClampNeg) a1) → (∀ S5 : sh_S, S5 = sh_sr S4 (2, k, 0) (upd (S4 (2, k, 0)) 3 (((S4 (2, k, 0) 3) + 1))) → Q S5)))))))) :
    sh_Cu g mX2_putBehindTurns [sh_R (2, k, 0), sh_I a1] S sz Q := by
  refine sh_enter (ls := [(0, sh_R (2, k, 0)), (1, sh_I a1)]) (by decide +kernel) (Nat.le_of_ble_eq_true rfl) rfl ?_
  refine sh_aload_n (pc := 0) dX2_putBehindTurns_0 rfl ?_
  refine sh_gf (pc := 1) dX2_putBehindTurns_1 fl_X2_36 cf_2 hk rfl rfl ?_
  refine sh_if_lt (tgt := 36) (pc := 4) dX2_putBehindTurns_4 (by decide) (fun hc1 => ?_) (fun hc1 => ?_)
  · have h := h.1 hc1
    exact sh_ret_u (pc := 36) dX2_putBehindTurns_36 rfl ⟨rfl, rfl⟩ h
  · have h := h.2 hc1
    refine sh_aload_n (pc := 7) dX2_putBehindTurns_7 rfl ?_
    refine sh_gf (pc := 8) dX2_putBehindTurns_8 fl_X2_36 cf_2 hk rfl rfl ?_
    refine sh_bipush (v := 10) (pc := 11) dX2_putBehindTurns_11 rfl ?_
    refine sh_icmp_ge (tgt := 36) (pc := 13) dX2_putBehindTurns_13 (by decide) (fun hc2 => ?_) (fun hc2 => ?_)
    · have h := h.1 hc2
      exact sh_ret_u (pc := 36) dX2_putBehindTurns_36 rfl ⟨rfl, rfl⟩ h
    · have h := h.2 hc2
      refine sh_aload_n (pc := 16) dX2_putBehindTurns_16 rfl ?_
      refine sh_gf (pc := 17) dX2_putBehindTurns_17 fl_X2_17 cf_2 hk rfl rfl ?_
      refine sh_aload_n (pc := 20) dX2_putBehindTurns_20 rfl ?_
      refine sh_gf (pc := 21) dX2_putBehindTurns_21 fl_X2_36 cf_2 hk rfl rfl ?_
      refine sh_iload_n (pc := 24) dX2_putBehindTurns_24 rfl ?_
      obtain ⟨hi3, h⟩ := h
      refine sh_is (pc := 25) dX2_putBehindTurns_25 hk rfl hi3 rfl ?_
      refine sh_topS (fun S4 hS4 => ?_)
      have h := h S4 hS4
      refine sh_aload_n (pc := 26) dX2_putBehindTurns_26 rfl ?_
      refine sh_dup (pc := 27) dX2_putBehindTurns_27 rfl ?_
      refine sh_gf (pc := 28) dX2_putBehindTurns_28 fl_X2_36 cf_2 hk rfl rfl ?_
      refine sh_iconst (v := 1) (pc := 31) dX2_putBehindTurns_31 rfl ?_
      refine sh_iadd (pc := 32) dX2_putBehindTurns_32 ?_
      refine sh_pfi (pc := 33) dX2_putBehindTurns_33 fl_X2_36 cf_2 ft_2_3 hk rfl (Nat.le_of_ble_eq_true rfl) rfl ?_
      refine sh_topS (fun S5 hS5 => ?_)
      have h := h S5 hS5
      exact sh_ret_u (pc := 36) dX2_putBehindTurns_36 rfl ⟨rfl, rfl⟩ h

set_option maxRecDepth 100000 in
set_option maxHeartbeats 4000000 in
theorem wp_X2_join {g : sh_G} {S : sh_S} {sz : Nat} {Q : Int32 → sh_S → Prop} {k : Nat} (hk : sh_ok (2, k, 0)) 
    (h : (((S (2, k, 0) 2) < 10 → (∀ x2 : Int32, x2 = (S (2, k, 0) 2) → (∀ S3 : sh_S, S3 = sh_sr S (2, k, 0) (upd (S (2, k, 0)) 2 (((S (2, k, 0) 2) + 1))) → (sh_Cu g mX2_putBehindTurns [sh_R (2, k, 0), sh_I x2] S3 sz (fun S4 => Q x2 S4))))) ∧ (¬ (S (2, k, 0) 2) < 10 → Q (-1000003) S))) :
    sh_Ci g mX2_join [sh_R (2, k, 0)] S sz Q := by
  refine sh_enter (ls := [(0, sh_R (2, k, 0))]) (by decide +kernel) (Nat.le_of_ble_eq_true rfl) rfl ?_
  refine sh_aload_n (pc := 0) dX2_join_0 rfl ?_
  refine sh_gf (pc := 1) dX2_join_1 fl_X2_32 cf_2 hk rfl rfl ?_
  refine sh_bipush (v := 10) (pc := 4) dX2_join_4 rfl ?_
  refine sh_icmp_lt (tgt := 12) (pc := 6) dX2_join_6 (by decide) (fun hc1 => ?_) (fun hc1 => ?_)
  · have h := h.1 hc1
    refine sh_aload_n (pc := 12) dX2_join_12 rfl ?_
    refine sh_gf (pc := 13) dX2_join_13 fl_X2_32 cf_2 hk rfl rfl ?_
    refine sh_topI (fun x2 hx2 => ?_)
    have h := h x2 hx2
    refine sh_istore_n (ls' := [(1, sh_I x2), (0, sh_R (2, k, 0))]) (pc := 16) dX2_join_16 (by decide) rfl ?_
    refine sh_aload_n (pc := 17) dX2_join_17 rfl ?_
    refine sh_dup (pc := 18) dX2_join_18 rfl ?_
    refine sh_gf (pc := 19) dX2_join_19 fl_X2_32 cf_2 hk rfl rfl ?_
    refine sh_iconst (v := 1) (pc := 22) dX2_join_22 rfl ?_
    refine sh_iadd (pc := 23) dX2_join_23 ?_
    refine sh_pfi (pc := 24) dX2_join_24 fl_X2_32 cf_2 ft_2_2 hk rfl (Nat.le_of_ble_eq_true rfl) rfl ?_
    refine sh_topS (fun S3 hS3 => ?_)
    have h := h S3 hS3
    refine sh_aload_n (pc := 27) dX2_join_27 rfl ?_
    refine sh_iload_n (pc := 28) dX2_join_28 rfl ?_
    refine sh_cu (N := mX2_putBehindTurns) (pc := 29) dX2_join_29 ml_X2_58 h mf_X2_putBehindTurns iv_X2_putBehindTurns ⟨Nat.le_of_ble_eq_true rfl, Nat.le_of_ble_eq_true rfl⟩ rfl rfl (Nat.le_of_ble_eq_true rfl) hk rfl (show vwCl[2]? = some (RX2, TX2, 5) from rfl) rfl (fun S4 h => ?_)
    refine sh_iload_n (pc := 32) dX2_join_32 rfl ?_
    exact sh_ret_i (pc := 33) dX2_join_33 rfl ⟨rfl, rfl⟩ h
  · have h := h.2 hc1
    refine sh_ldc (v := (-1000003)) (pc := 9) dX2_join_9 kc_X2_57 ?_
    exact sh_ret_i (pc := 11) dX2_join_11 rfl ⟨rfl, rfl⟩ h

set_option maxRecDepth 100000 in
set_option maxHeartbeats 4000000 in
theorem wp_X2_putAway {g : sh_G} {S : sh_S} {sz : Nat} {Q : Int32 → sh_S → Prop} {k : Nat} (hk : sh_ok (2, k, 0)) {a1 : Int32} {a2 : Int32} 
    (h : (sh_Ci g mX2_has [sh_R (2, k, 0), sh_I a1] S sz (fun r2 S1 => ((r2 = 0 → Q (-1000001) S1) ∧ (¬ r2 = 0 → ((a2 < 0 → Q (-1000001) S1) ∧ (¬ a2 < 0 → ((a2 ≤ 1 → (vp_in a1 10 ∧ (sh_Ci g mX1_isGone [sh_R (1, k, (a1.toNatClampNeg))] S1 sz (fun r8 S7 => ((r8 = 0 → (vp_in a1 10 ∧ (∀ x12 : Int32, x12 = (S7 (10, k, (a1.toNatClampNeg)) 0) → (vp_in a1 10 ∧ ((¬ a2 = 1 → (∀ S16 : sh_S, S16 = sh_sr S7 (10, k, (a1.toNatClampNeg)) (upd (S7 (10, k, (a1.toNatClampNeg))) 0 0) → Q x12 S16)) ∧ (a2 = 1 → (∀ S18 : sh_S, S18 = sh_sr S7 (10, k, (a1.toNatClampNeg)) (upd (S7 (10, k, (a1.toNatClampNeg))) 0 1) → Q x12 S18))))))) ∧ (¬ r8 = 0 → Q (-1000002) S7)))))) ∧ (¬ a2 ≤ 1 → Q (-1000001) S1))))))))) :
    sh_Ci g mX2_putAway [sh_R (2, k, 0), sh_I a1, sh_I a2] S sz Q := by
  refine sh_enter (ls := [(0, sh_R (2, k, 0)), (1, sh_I a1), (2, sh_I a2)]) (by decide +kernel) (Nat.le_of_ble_eq_true rfl) rfl ?_
  refine sh_aload_n (pc := 0) dX2_putAway_0 rfl ?_
  refine sh_iload_n (pc := 1) dX2_putAway_1 rfl ?_
  refine sh_ci (N := mX2_has) (pc := 2) dX2_putAway_2 ml_X2_42 h mf_X2_has iv_X2_has ⟨Nat.le_of_ble_eq_true rfl, Nat.le_of_ble_eq_true rfl⟩ rfl rfl (Nat.le_of_ble_eq_true rfl) hk rfl (show vwCl[2]? = some (RX2, TX2, 5) from rfl) rfl (fun r2 S1 h => ?_)
  refine sh_if_eq (tgt := 17) (pc := 5) dX2_putAway_5 (by decide) (fun hc3 => ?_) (fun hc3 => ?_)
  · have h := h.1 hc3
    refine sh_ldc (v := (-1000001)) (pc := 17) dX2_putAway_17 kc_X2_62 ?_
    exact sh_ret_i (pc := 19) dX2_putAway_19 rfl ⟨rfl, rfl⟩ h
  · have h := h.2 hc3
    refine sh_iload_n (pc := 8) dX2_putAway_8 rfl ?_
    refine sh_if_lt (tgt := 17) (pc := 9) dX2_putAway_9 (by decide) (fun hc4 => ?_) (fun hc4 => ?_)
    · have h := h.1 hc4
      refine sh_ldc (v := (-1000001)) (pc := 17) dX2_putAway_17 kc_X2_62 ?_
      exact sh_ret_i (pc := 19) dX2_putAway_19 rfl ⟨rfl, rfl⟩ h
    · have h := h.2 hc4
      refine sh_iload_n (pc := 12) dX2_putAway_12 rfl ?_
      refine sh_iconst (v := 1) (pc := 13) dX2_putAway_13 rfl ?_
      refine sh_icmp_le (tgt := 20) (pc := 14) dX2_putAway_14 (by decide) (fun hc5 => ?_) (fun hc5 => ?_)
      · have h := h.1 hc5
        refine sh_aload_n (pc := 20) dX2_putAway_20 rfl ?_
        refine sh_gf (pc := 21) dX2_putAway_21 fl_X2_11 cf_2 hk rfl rfl ?_
        refine sh_iload_n (pc := 24) dX2_putAway_24 rfl ?_
        obtain ⟨hi6, h⟩ := h
        refine sh_aa (o' := (1, k, (a1.toNatClampNeg))) (pc := 25) dX2_putAway_25 (by decide) hk rfl hi6 rfl ?_
        refine sh_ci (N := mX1_isGone) (pc := 26) dX2_putAway_26 ml_X2_46 h mf_X1_isGone iv_X1_isGone ⟨Nat.le_of_ble_eq_true rfl, Nat.le_of_ble_eq_true rfl⟩ rfl rfl (Nat.le_of_ble_eq_true rfl) ⟨hk.1, vp_lt hi6⟩ rfl (show vwCl[1]? = some (RX1, TX1, 1) from rfl) rfl (fun r8 S7 h => ?_)
        refine sh_if_eq (tgt := 35) (pc := 29) dX2_putAway_29 (by decide) (fun hc9 => ?_) (fun hc9 => ?_)
        · have h := h.1 hc9
          refine sh_aload_n (pc := 35) dX2_putAway_35 rfl ?_
          refine sh_gf (pc := 36) dX2_putAway_36 fl_X2_11 cf_2 hk rfl rfl ?_
          refine sh_iload_n (pc := 39) dX2_putAway_39 rfl ?_
          obtain ⟨hi10, h⟩ := h
          refine sh_aa (o' := (1, k, (a1.toNatClampNeg))) (pc := 40) dX2_putAway_40 (by decide) hk rfl hi10 rfl ?_
          refine sh_gf (pc := 41) dX2_putAway_41 fl_X2_54 cf_1 ⟨hk.1, vp_lt hi10⟩ rfl rfl ?_
          refine sh_iconst (v := 0) (pc := 44) dX2_putAway_44 rfl ?_
          refine sh_ia (pc := 45) dX2_putAway_45 ⟨hk.1, vp_lt hi10⟩ rfl (vp_in_iff.mpr ⟨by decide, by decide⟩) ?_
          refine sh_topI (fun x12 hx12 => ?_)
          have h := h x12 hx12
          refine sh_istore_n (ls' := [(3, sh_I x12), (0, sh_R (2, k, 0)), (1, sh_I a1), (2, sh_I a2)]) (pc := 46) dX2_putAway_46 (by decide) rfl ?_
          refine sh_aload_n (pc := 47) dX2_putAway_47 rfl ?_
          refine sh_gf (pc := 48) dX2_putAway_48 fl_X2_11 cf_2 hk rfl rfl ?_
          refine sh_iload_n (pc := 51) dX2_putAway_51 rfl ?_
          obtain ⟨hi13, h⟩ := h
          refine sh_aa (o' := (1, k, (a1.toNatClampNeg))) (pc := 52) dX2_putAway_52 (by decide) hk rfl hi13 rfl ?_
          refine sh_gf (pc := 53) dX2_putAway_53 fl_X2_54 cf_1 ⟨hk.1, vp_lt hi13⟩ rfl rfl ?_
          refine sh_iconst (v := 0) (pc := 56) dX2_putAway_56 rfl ?_
          refine sh_iload_n (pc := 57) dX2_putAway_57 rfl ?_
          refine sh_iconst (v := 1) (pc := 58) dX2_putAway_58 rfl ?_
          refine sh_icmp_ne (tgt := 66) (pc := 59) dX2_putAway_59 (by decide) (fun hc14 => ?_) (fun hc14 => ?_)
          · have h := h.1 hc14
            refine sh_iconst (v := 0) (pc := 66) dX2_putAway_66 rfl ?_
            refine sh_is (pc := 67) dX2_putAway_67 ⟨hk.1, vp_lt hi13⟩ rfl (vp_in_iff.mpr ⟨by decide, by decide⟩) rfl ?_
            refine sh_topS (fun S16 hS16 => ?_)
            have h := h S16 hS16
            refine sh_iload_n (pc := 68) dX2_putAway_68 rfl ?_
            exact sh_ret_i (pc := 69) dX2_putAway_69 rfl ⟨rfl, rfl⟩ h
          · have h := h.2 hc14
            refine sh_iconst (v := 1) (pc := 62) dX2_putAway_62 rfl ?_
            refine sh_goto (tgt := 67) (pc := 63) dX2_putAway_63 (by decide) ?_
            refine sh_is (pc := 67) dX2_putAway_67 ⟨hk.1, vp_lt hi13⟩ rfl (vp_in_iff.mpr ⟨by decide, by decide⟩) rfl ?_
            refine sh_topS (fun S18 hS18 => ?_)
            have h := h S18 hS18
            refine sh_iload_n (pc := 68) dX2_putAway_68 rfl ?_
            exact sh_ret_i (pc := 69) dX2_putAway_69 rfl ⟨rfl, rfl⟩ h
        · have h := h.2 hc9
          refine sh_ldc (v := (-1000002)) (pc := 32) dX2_putAway_32 kc_X2_63 ?_
          exact sh_ret_i (pc := 34) dX2_putAway_34 rfl ⟨rfl, rfl⟩ h
      · have h := h.2 hc5
        refine sh_ldc (v := (-1000001)) (pc := 17) dX2_putAway_17 kc_X2_62 ?_
        exact sh_ret_i (pc := 19) dX2_putAway_19 rfl ⟨rfl, rfl⟩ h

set_option maxRecDepth 100000 in
set_option maxHeartbeats 4000000 in
theorem wp_X2_takeOutOfTurns {g : sh_G} {S : sh_S} {sz : Nat} {Q : sh_S → Prop} {k : Nat} (hk : sh_ok (2, k, 0)) {a1 : Int32} 
    (h : (∃ (Iv1 : Int32 → Int32 → sh_S → Prop) (mu1 : Int32 → Int32 → sh_S → Nat), Iv1 0 0 S ∧ ∀ (v2 : Int32) (v3 : Int32) (S4 : sh_S), Iv1 v2 v3 S4 → ((10 ≤ v3 → (∀ S6 : sh_S, S6 = sh_sr S4 (2, k, 0) (upd (S4 (2, k, 0)) 3 v2) → Q S6)) ∧ (¬ 10 ≤ v3 → (((S4 (2, k, 0) 3) ≤ v3 → (∀ S8 : sh_S, S8 = sh_sr S4 (2, k, 0) (upd (S4 (2, k, 0)) 3 v2) → Q S8)) ∧ (¬ (S4 (2, k, 0) 3) ≤ v3 → (vp_in v3 10 ∧ (((S4 (11, k, 0) (v3.toNatClampNeg)) = a1 → (∀ x11 : Int32, x11 = v3 + 1 → (Iv1 v2 x11 S4 ∧ mu1 v2 x11 S4 < mu1 v2 v3 S4))) ∧ (¬ (S4 (11, k, 0) (v3.toNatClampNeg)) = a1 → (vp_in v3 10 ∧ (vp_in v2 10 ∧ (∀ S14 : sh_S, S14 = sh_sr S4 (11, k, 0) (upd (S4 (11, k, 0)) (v2.toNatClampNeg) (S4 (11, k, 0) (v3.toNatClampNeg))) → (∀ x15 : Int32, x15 = v2 + 1 → (∀ x16 : Int32, x16 = v3 + 1 → (Iv1 x15 x16 S14 ∧ mu1 x15 x16 S14 < mu1 v2 v3 S4))))))))))))))) :
    sh_Cu g mX2_takeOutOfTurns [sh_R (2, k, 0), sh_I a1] S sz Q := by
  refine sh_enter (ls := [(0, sh_R (2, k, 0)), (1, sh_I a1)]) (by decide +kernel) (Nat.le_of_ble_eq_true rfl) rfl ?_
  refine sh_iconst (v := 0) (pc := 0) dX2_takeOutOfTurns_0 rfl ?_
  refine sh_istore_n (ls' := [(2, sh_I 0), (0, sh_R (2, k, 0)), (1, sh_I a1)]) (pc := 1) dX2_takeOutOfTurns_1 (by decide) rfl ?_
  refine sh_iconst (v := 0) (pc := 2) dX2_takeOutOfTurns_2 rfl ?_
  refine sh_istore_n (ls' := [(3, sh_I 0), (2, sh_I 0), (0, sh_R (2, k, 0)), (1, sh_I a1)]) (pc := 3) dX2_takeOutOfTurns_3 (by decide) rfl ?_
  obtain ⟨Iv1, mu1, h0, hs1⟩ := h
  refine sh_pick [2, 3, 1, 0] rfl ?_
  refine sh_lp3 Iv1 mu1 (fun v2 v3 S4 => sh_V g mX2_takeOutOfTurns 0 0 4 [(0, sh_R (2, k, 0)), (1, sh_I a1), (2, sh_I v2), (3, sh_I v3)] [] (sh_St S4) sz (sh_tu sz Q)) (fun v2 v3 S4 hI1 ih1 => ?_) _ _ _ h0
  have h := hs1 v2 v3 S4 hI1
  clear h0
  refine sh_iload_n (pc := 4) dX2_takeOutOfTurns_4 rfl ?_
  refine sh_bipush (v := 10) (pc := 5) dX2_takeOutOfTurns_5 rfl ?_
  refine sh_icmp_ge (tgt := 49) (pc := 7) dX2_takeOutOfTurns_7 (by decide) (fun hc5 => ?_) (fun hc5 => ?_)
  · have h := h.1 hc5
    refine sh_aload_n (pc := 49) dX2_takeOutOfTurns_49 rfl ?_
    refine sh_iload_n (pc := 50) dX2_takeOutOfTurns_50 rfl ?_
    refine sh_pfi (pc := 51) dX2_takeOutOfTurns_51 fl_X2_36 cf_2 ft_2_3 hk rfl (Nat.le_of_ble_eq_true rfl) rfl ?_
    refine sh_topS (fun S6 hS6 => ?_)
    have h := h S6 hS6
    exact sh_ret_u (pc := 54) dX2_takeOutOfTurns_54 rfl ⟨rfl, rfl⟩ h
  · have h := h.2 hc5
    refine sh_iload_n (pc := 10) dX2_takeOutOfTurns_10 rfl ?_
    refine sh_aload_n (pc := 11) dX2_takeOutOfTurns_11 rfl ?_
    refine sh_gf (pc := 12) dX2_takeOutOfTurns_12 fl_X2_36 cf_2 hk rfl rfl ?_
    refine sh_icmp_ge (tgt := 49) (pc := 15) dX2_takeOutOfTurns_15 (by decide) (fun hc7 => ?_) (fun hc7 => ?_)
    · have h := h.1 hc7
      refine sh_aload_n (pc := 49) dX2_takeOutOfTurns_49 rfl ?_
      refine sh_iload_n (pc := 50) dX2_takeOutOfTurns_50 rfl ?_
      refine sh_pfi (pc := 51) dX2_takeOutOfTurns_51 fl_X2_36 cf_2 ft_2_3 hk rfl (Nat.le_of_ble_eq_true rfl) rfl ?_
      refine sh_topS (fun S8 hS8 => ?_)
      have h := h S8 hS8
      exact sh_ret_u (pc := 54) dX2_takeOutOfTurns_54 rfl ⟨rfl, rfl⟩ h
    · have h := h.2 hc7
      refine sh_aload_n (pc := 18) dX2_takeOutOfTurns_18 rfl ?_
      refine sh_gf (pc := 19) dX2_takeOutOfTurns_19 fl_X2_17 cf_2 hk rfl rfl ?_
      refine sh_iload_n (pc := 22) dX2_takeOutOfTurns_22 rfl ?_
      obtain ⟨hi9, h⟩ := h
      refine sh_ia (pc := 23) dX2_takeOutOfTurns_23 hk rfl hi9 ?_
      refine sh_iload_n (pc := 24) dX2_takeOutOfTurns_24 rfl ?_
      refine sh_icmp_eq (tgt := 43) (pc := 25) dX2_takeOutOfTurns_25 (by decide) (fun hc10 => ?_) (fun hc10 => ?_)
      · have h := h.1 hc10
        obtain ⟨x11, hx11⟩ : ∃ y : Int32, y = v3 + 1 := ⟨_, rfl⟩
        have h := h x11 hx11
        refine sh_iinc (v := x11) (ls' := [(3, sh_I x11), (0, sh_R (2, k, 0)), (1, sh_I a1), (2, sh_I v2)]) (pc := 43) dX2_takeOutOfTurns_43 rfl hx11.symm (by decide) rfl ?_
        refine sh_goto (tgt := 4) (pc := 46) dX2_takeOutOfTurns_46 (by decide) ?_
        refine sh_pick [1, 2, 3, 0] rfl ?_
        exact ih1 _ _ _ h.1 h.2
      · have h := h.2 hc10
        refine sh_aload_n (pc := 28) dX2_takeOutOfTurns_28 rfl ?_
        refine sh_gf (pc := 29) dX2_takeOutOfTurns_29 fl_X2_17 cf_2 hk rfl rfl ?_
        refine sh_iload_n (pc := 32) dX2_takeOutOfTurns_32 rfl ?_
        refine sh_aload_n (pc := 33) dX2_takeOutOfTurns_33 rfl ?_
        refine sh_gf (pc := 34) dX2_takeOutOfTurns_34 fl_X2_17 cf_2 hk rfl rfl ?_
        refine sh_iload_n (pc := 37) dX2_takeOutOfTurns_37 rfl ?_
        obtain ⟨hi12, h⟩ := h
        refine sh_ia (pc := 38) dX2_takeOutOfTurns_38 hk rfl hi12 ?_
        obtain ⟨hi13, h⟩ := h
        refine sh_is (pc := 39) dX2_takeOutOfTurns_39 hk rfl hi13 rfl ?_
        refine sh_topS (fun S14 hS14 => ?_)
        have h := h S14 hS14
        obtain ⟨x15, hx15⟩ : ∃ y : Int32, y = v2 + 1 := ⟨_, rfl⟩
        have h := h x15 hx15
        refine sh_iinc (v := x15) (ls' := [(2, sh_I x15), (0, sh_R (2, k, 0)), (1, sh_I a1), (3, sh_I v3)]) (pc := 40) dX2_takeOutOfTurns_40 rfl hx15.symm (by decide) rfl ?_
        obtain ⟨x16, hx16⟩ : ∃ y : Int32, y = v3 + 1 := ⟨_, rfl⟩
        have h := h x16 hx16
        refine sh_iinc (v := x16) (ls' := [(3, sh_I x16), (2, sh_I x15), (0, sh_R (2, k, 0)), (1, sh_I a1)]) (pc := 43) dX2_takeOutOfTurns_43 rfl hx16.symm (by decide) rfl ?_
        refine sh_goto (tgt := 4) (pc := 46) dX2_takeOutOfTurns_46 (by decide) ?_
        refine sh_pick [2, 3, 1, 0] rfl ?_
        exact ih1 _ _ _ h.1 h.2

set_option maxRecDepth 100000 in
set_option maxHeartbeats 4000000 in
theorem wp_X2_share {g : sh_G} {S : sh_S} {sz : Nat} {Q : sh_S → Prop} {k : Nat} (hk : sh_ok (2, k, 0)) {a1 : Int32} {a2 : Int32} {a3 : Int32} 
    (h : (sh_Ci g mX2_countNotGone [sh_R (2, k, 0), sh_I a3] S sz (fun r2 S1 => ((¬ r2 = 0 → (¬ r2 = 0 ∧ (∀ x5 : Int32, x5 = (a1 / r2) → (¬ r2 = 0 ∧ (∀ x7 : Int32, x7 = (a1 - (a1 / r2) * r2) → (∀ x8 : Int32, x8 = (S1 (2, k, 0) 4) → (∃ (Iv9 : Int32 → Int32 → sh_S → Prop) (mu9 : Int32 → Int32 → sh_S → Nat), Iv9 x7 0 S1 ∧ ∀ (v10 : Int32) (v11 : Int32) (S12 : sh_S), Iv9 v10 v11 S12 → ((10 ≤ v11 → Q S12) ∧ (¬ 10 ≤ v11 → (∀ x14 : Int32, x14 = ((x8 + v11) - ((x8 + v11) / 10) * 10) → (sh_Ci g mX2_takesPart [sh_R (2, k, 0), sh_I x14, sh_I a3] S12 sz (fun r16 S15 => ((r16 = 0 → (∀ x18 : Int32, x18 = v11 + 1 → (Iv9 v10 x18 S15 ∧ mu9 v10 x18 S15 < mu9 v10 v11 S12))) ∧ (¬ r16 = 0 → (vp_in x14 10 ∧ ((v10 ≤ 0 → (sh_Cu g mX1_takeShare [sh_R (1, k, (x14.toNatClampNeg)), sh_I a2, sh_I x5] S15 sz (fun S21 => ((v10 ≤ 0 → (∀ x23 : Int32, x23 = v11 + 1 → (Iv9 v10 x23 S21 ∧ mu9 v10 x23 S21 < mu9 v10 v11 S12))) ∧ (¬ v10 ≤ 0 → (∀ x24 : Int32, x24 = v10 + (-1) → (∀ S25 : sh_S, S25 = sh_sr S21 (2, k, 0) (upd (S21 (2, k, 0)) 4 (((x14 + 1) - ((x14 + 1) / 10) * 10))) → (∀ x26 : Int32, x26 = v11 + 1 → (Iv9 x24 x26 S25 ∧ mu9 x24 x26 S25 < mu9 v10 v11 S12))))))))) ∧ (¬ v10 ≤ 0 → (sh_Cu g mX1_takeShare [sh_R (1, k, (x14.toNatClampNeg)), sh_I a2, sh_I (x5 + 1)] S15 sz (fun S27 => ((v10 ≤ 0 → (∀ x29 : Int32, x29 = v11 + 1 → (Iv9 v10 x29 S27 ∧ mu9 v10 x29 S27 < mu9 v10 v11 S12))) ∧ (¬ v10 ≤ 0 → (∀ x30 : Int32, x30 = v10 + (-1) → (∀ S31 : sh_S, S31 = sh_sr S27 (2, k, 0) (upd (S27 (2, k, 0)) 4 (((x14 + 1) - ((x14 + 1) / 10) * 10))) → (∀ x32 : Int32, x32 = v11 + 1 → (Iv9 x30 x32 S31 ∧ mu9 x30 x32 S31 < mu9 v10 v11 S12))))))))))))))))))))))))) ∧ (r2 = 0 → Q S1))))) :
    sh_Cu g mX2_share [sh_R (2, k, 0), sh_I a1, sh_I a2, sh_I a3] S sz Q := by
  refine sh_enter (ls := [(0, sh_R (2, k, 0)), (1, sh_I a1), (2, sh_I a2), (3, sh_I a3)]) (by decide +kernel) (Nat.le_of_ble_eq_true rfl) rfl ?_
  refine sh_aload_n (pc := 0) dX2_share_0 rfl ?_
  refine sh_iload_n (pc := 1) dX2_share_1 rfl ?_
  refine sh_ci (N := mX2_countNotGone) (pc := 2) dX2_share_2 ml_X2_78 h mf_X2_countNotGone iv_X2_countNotGone ⟨Nat.le_of_ble_eq_true rfl, Nat.le_of_ble_eq_true rfl⟩ rfl rfl (Nat.le_of_ble_eq_true rfl) hk rfl (show vwCl[2]? = some (RX2, TX2, 5) from rfl) rfl (fun r2 S1 h => ?_)
  refine sh_istore (ls' := [(4, sh_I r2), (0, sh_R (2, k, 0)), (1, sh_I a1), (2, sh_I a2), (3, sh_I a3)]) (pc := 5) dX2_share_5 (by decide) rfl ?_
  refine sh_iload (pc := 7) dX2_share_7 rfl ?_
  refine sh_if_ne (tgt := 13) (pc := 9) dX2_share_9 (by decide) (fun hc3 => ?_) (fun hc3 => ?_)
  · have h := h.1 hc3
    refine sh_iload_n (pc := 13) dX2_share_13 rfl ?_
    refine sh_iload (pc := 14) dX2_share_14 rfl ?_
    obtain ⟨hd4, h⟩ := h
    refine sh_idiv (pc := 16) dX2_share_16 hd4 ?_
    refine sh_topI (fun x5 hx5 => ?_)
    have h := h x5 hx5
    refine sh_istore (ls' := [(5, sh_I x5), (4, sh_I r2), (0, sh_R (2, k, 0)), (1, sh_I a1), (2, sh_I a2), (3, sh_I a3)]) (pc := 17) dX2_share_17 (by decide) rfl ?_
    refine sh_iload_n (pc := 19) dX2_share_19 rfl ?_
    refine sh_iload (pc := 20) dX2_share_20 rfl ?_
    obtain ⟨hd6, h⟩ := h
    refine sh_irem (pc := 22) dX2_share_22 hd6 ?_
    refine sh_topI (fun x7 hx7 => ?_)
    have h := h x7 hx7
    refine sh_istore (ls' := [(6, sh_I x7), (5, sh_I x5), (4, sh_I r2), (0, sh_R (2, k, 0)), (1, sh_I a1), (2, sh_I a2), (3, sh_I a3)]) (pc := 23) dX2_share_23 (by decide) rfl ?_
    refine sh_aload_n (pc := 25) dX2_share_25 rfl ?_
    refine sh_gf (pc := 26) dX2_share_26 fl_X2_39 cf_2 hk rfl rfl ?_
    refine sh_topI (fun x8 hx8 => ?_)
    have h := h x8 hx8
    refine sh_istore (ls' := [(7, sh_I x8), (6, sh_I x7), (5, sh_I x5), (4, sh_I r2), (0, sh_R (2, k, 0)), (1, sh_I a1), (2, sh_I a2), (3, sh_I a3)]) (pc := 29) dX2_share_29 (by decide) rfl ?_
    refine sh_iconst (v := 0) (pc := 31) dX2_share_31 rfl ?_
    refine sh_istore (ls' := [(8, sh_I 0), (7, sh_I x8), (6, sh_I x7), (5, sh_I x5), (4, sh_I r2), (0, sh_R (2, k, 0)), (1, sh_I a1), (2, sh_I a2), (3, sh_I a3)]) (pc := 32) dX2_share_32 (by decide) rfl ?_
    obtain ⟨Iv9, mu9, h0, hs9⟩ := h
    refine sh_pick [5, 6, 7, 8, 4, 3, 2, 1, 0] rfl ?_
    refine sh_lp3 Iv9 mu9 (fun v10 v11 S12 => sh_V g mX2_share 0 0 34 [(0, sh_R (2, k, 0)), (1, sh_I a1), (2, sh_I a2), (3, sh_I a3), (4, sh_I r2), (5, sh_I x5), (6, sh_I v10), (7, sh_I x8), (8, sh_I v11)] [] (sh_St S12) sz (sh_tu sz Q)) (fun v10 v11 S12 hI9 ih9 => ?_) _ _ _ h0
    have h := hs9 v10 v11 S12 hI9
    clear h0
    refine sh_iload (pc := 34) dX2_share_34 rfl ?_
    refine sh_bipush (v := 10) (pc := 36) dX2_share_36 rfl ?_
    refine sh_icmp_ge (tgt := 111) (pc := 38) dX2_share_38 (by decide) (fun hc13 => ?_) (fun hc13 => ?_)
    · have h := h.1 hc13
      exact sh_ret_u (pc := 111) dX2_share_111 rfl ⟨rfl, rfl⟩ h
    · have h := h.2 hc13
      refine sh_iload (pc := 41) dX2_share_41 rfl ?_
      refine sh_iload (pc := 43) dX2_share_43 rfl ?_
      refine sh_iadd (pc := 45) dX2_share_45 ?_
      refine sh_bipush (v := 10) (pc := 46) dX2_share_46 rfl ?_
      refine sh_irem (pc := 48) dX2_share_48 (by decide) ?_
      refine sh_topI (fun x14 hx14 => ?_)
      have h := h x14 hx14
      refine sh_istore (ls' := [(9, sh_I x14), (0, sh_R (2, k, 0)), (1, sh_I a1), (2, sh_I a2), (3, sh_I a3), (4, sh_I r2), (5, sh_I x5), (6, sh_I v10), (7, sh_I x8), (8, sh_I v11)]) (pc := 49) dX2_share_49 (by decide) rfl ?_
      refine sh_aload_n (pc := 51) dX2_share_51 rfl ?_
      refine sh_iload (pc := 52) dX2_share_52 rfl ?_
      refine sh_iload_n (pc := 54) dX2_share_54 rfl ?_
      refine sh_ci (N := mX2_takesPart) (pc := 55) dX2_share_55 ml_X2_50 h mf_X2_takesPart iv_X2_takesPart ⟨Nat.le_of_ble_eq_true rfl, Nat.le_of_ble_eq_true rfl⟩ rfl rfl (Nat.le_of_ble_eq_true rfl) hk rfl (show vwCl[2]? = some (RX2, TX2, 5) from rfl) rfl (fun r16 S15 h => ?_)
      refine sh_if_eq (tgt := 105) (pc := 58) dX2_share_58 (by decide) (fun hc17 => ?_) (fun hc17 => ?_)
      · have h := h.1 hc17
        obtain ⟨x18, hx18⟩ : ∃ y : Int32, y = v11 + 1 := ⟨_, rfl⟩
        have h := h x18 hx18
        refine sh_iinc (v := x18) (ls' := [(8, sh_I x18), (9, sh_I x14), (0, sh_R (2, k, 0)), (1, sh_I a1), (2, sh_I a2), (3, sh_I a3), (4, sh_I r2), (5, sh_I x5), (6, sh_I v10), (7, sh_I x8)]) (pc := 105) dX2_share_105 rfl hx18.symm (by decide) rfl ?_
        refine sh_goto (tgt := 34) (pc := 108) dX2_share_108 (by decide) ?_
        refine sh_pick [2, 3, 4, 5, 6, 7, 8, 9, 0] rfl ?_
        exact ih9 _ _ _ h.1 h.2
      · have h := h.2 hc17
        refine sh_aload_n (pc := 61) dX2_share_61 rfl ?_
        refine sh_gf (pc := 62) dX2_share_62 fl_X2_11 cf_2 hk rfl rfl ?_
        refine sh_iload (pc := 65) dX2_share_65 rfl ?_
        obtain ⟨hi19, h⟩ := h
        refine sh_aa (o' := (1, k, (x14.toNatClampNeg))) (pc := 67) dX2_share_67 (by decide) hk rfl hi19 rfl ?_
        refine sh_iload_n (pc := 68) dX2_share_68 rfl ?_
        refine sh_iload (pc := 69) dX2_share_69 rfl ?_
        refine sh_if_le (tgt := 81) (pc := 71) dX2_share_71 (by decide) (fun hc20 => ?_) (fun hc20 => ?_)
        · have h := h.1 hc20
          refine sh_iload (pc := 81) dX2_share_81 rfl ?_
          refine sh_cu (N := mX1_takeShare) (pc := 83) dX2_share_83 ml_X2_82 h mf_X1_takeShare iv_X1_takeShare ⟨Nat.le_of_ble_eq_true rfl, Nat.le_of_ble_eq_true rfl⟩ rfl rfl (Nat.le_of_ble_eq_true rfl) ⟨hk.1, vp_lt hi19⟩ rfl (show vwCl[1]? = some (RX1, TX1, 1) from rfl) rfl (fun S21 h => ?_)
          refine sh_iload (pc := 86) dX2_share_86 rfl ?_
          refine sh_if_le (tgt := 105) (pc := 88) dX2_share_88 (by decide) (fun hc22 => ?_) (fun hc22 => ?_)
          · have h := h.1 hc22
            obtain ⟨x23, hx23⟩ : ∃ y : Int32, y = v11 + 1 := ⟨_, rfl⟩
            have h := h x23 hx23
            refine sh_iinc (v := x23) (ls' := [(8, sh_I x23), (9, sh_I x14), (0, sh_R (2, k, 0)), (1, sh_I a1), (2, sh_I a2), (3, sh_I a3), (4, sh_I r2), (5, sh_I x5), (6, sh_I v10), (7, sh_I x8)]) (pc := 105) dX2_share_105 rfl hx23.symm (by decide) rfl ?_
            refine sh_goto (tgt := 34) (pc := 108) dX2_share_108 (by decide) ?_
            refine sh_pick [2, 3, 4, 5, 6, 7, 8, 9, 0] rfl ?_
            exact ih9 _ _ _ h.1 h.2
          · have h := h.2 hc22
            obtain ⟨x24, hx24⟩ : ∃ y : Int32, y = v10 + (-1) := ⟨_, rfl⟩
            have h := h x24 hx24
            refine sh_iinc (v := x24) (ls' := [(6, sh_I x24), (9, sh_I x14), (0, sh_R (2, k, 0)), (1, sh_I a1), (2, sh_I a2), (3, sh_I a3), (4, sh_I r2), (5, sh_I x5), (7, sh_I x8), (8, sh_I v11)]) (pc := 91) dX2_share_91 rfl hx24.symm (by decide) rfl ?_
            refine sh_aload_n (pc := 94) dX2_share_94 rfl ?_
            refine sh_iload (pc := 95) dX2_share_95 rfl ?_
            refine sh_iconst (v := 1) (pc := 97) dX2_share_97 rfl ?_
            refine sh_iadd (pc := 98) dX2_share_98 ?_
            refine sh_bipush (v := 10) (pc := 99) dX2_share_99 rfl ?_
            refine sh_irem (pc := 101) dX2_share_101 (by decide) ?_
            refine sh_pfi (pc := 102) dX2_share_102 fl_X2_39 cf_2 ft_2_4 hk rfl (Nat.le_of_ble_eq_true rfl) rfl ?_
            refine sh_topS (fun S25 hS25 => ?_)
            have h := h S25 hS25
            obtain ⟨x26, hx26⟩ : ∃ y : Int32, y = v11 + 1 := ⟨_, rfl⟩
            have h := h x26 hx26
            refine sh_iinc (v := x26) (ls' := [(8, sh_I x26), (6, sh_I x24), (9, sh_I x14), (0, sh_R (2, k, 0)), (1, sh_I a1), (2, sh_I a2), (3, sh_I a3), (4, sh_I r2), (5, sh_I x5), (7, sh_I x8)]) (pc := 105) dX2_share_105 rfl hx26.symm (by decide) rfl ?_
            refine sh_goto (tgt := 34) (pc := 108) dX2_share_108 (by decide) ?_
            refine sh_pick [3, 4, 5, 6, 7, 8, 1, 9, 0] rfl ?_
            exact ih9 _ _ _ h.1 h.2
        · have h := h.2 hc20
          refine sh_iload (pc := 74) dX2_share_74 rfl ?_
          refine sh_iconst (v := 1) (pc := 76) dX2_share_76 rfl ?_
          refine sh_iadd (pc := 77) dX2_share_77 ?_
          refine sh_goto (tgt := 83) (pc := 78) dX2_share_78 (by decide) ?_
          refine sh_cu (N := mX1_takeShare) (pc := 83) dX2_share_83 ml_X2_82 h mf_X1_takeShare iv_X1_takeShare ⟨Nat.le_of_ble_eq_true rfl, Nat.le_of_ble_eq_true rfl⟩ rfl rfl (Nat.le_of_ble_eq_true rfl) ⟨hk.1, vp_lt hi19⟩ rfl (show vwCl[1]? = some (RX1, TX1, 1) from rfl) rfl (fun S27 h => ?_)
          refine sh_iload (pc := 86) dX2_share_86 rfl ?_
          refine sh_if_le (tgt := 105) (pc := 88) dX2_share_88 (by decide) (fun hc28 => ?_) (fun hc28 => ?_)
          · have h := h.1 hc28
            obtain ⟨x29, hx29⟩ : ∃ y : Int32, y = v11 + 1 := ⟨_, rfl⟩
            have h := h x29 hx29
            refine sh_iinc (v := x29) (ls' := [(8, sh_I x29), (9, sh_I x14), (0, sh_R (2, k, 0)), (1, sh_I a1), (2, sh_I a2), (3, sh_I a3), (4, sh_I r2), (5, sh_I x5), (6, sh_I v10), (7, sh_I x8)]) (pc := 105) dX2_share_105 rfl hx29.symm (by decide) rfl ?_
            refine sh_goto (tgt := 34) (pc := 108) dX2_share_108 (by decide) ?_
            refine sh_pick [2, 3, 4, 5, 6, 7, 8, 9, 0] rfl ?_
            exact ih9 _ _ _ h.1 h.2
          · have h := h.2 hc28
            obtain ⟨x30, hx30⟩ : ∃ y : Int32, y = v10 + (-1) := ⟨_, rfl⟩
            have h := h x30 hx30
            refine sh_iinc (v := x30) (ls' := [(6, sh_I x30), (9, sh_I x14), (0, sh_R (2, k, 0)), (1, sh_I a1), (2, sh_I a2), (3, sh_I a3), (4, sh_I r2), (5, sh_I x5), (7, sh_I x8), (8, sh_I v11)]) (pc := 91) dX2_share_91 rfl hx30.symm (by decide) rfl ?_
            refine sh_aload_n (pc := 94) dX2_share_94 rfl ?_
            refine sh_iload (pc := 95) dX2_share_95 rfl ?_
            refine sh_iconst (v := 1) (pc := 97) dX2_share_97 rfl ?_
            refine sh_iadd (pc := 98) dX2_share_98 ?_
            refine sh_bipush (v := 10) (pc := 99) dX2_share_99 rfl ?_
            refine sh_irem (pc := 101) dX2_share_101 (by decide) ?_
            refine sh_pfi (pc := 102) dX2_share_102 fl_X2_39 cf_2 ft_2_4 hk rfl (Nat.le_of_ble_eq_true rfl) rfl ?_
            refine sh_topS (fun S31 hS31 => ?_)
            have h := h S31 hS31
            obtain ⟨x32, hx32⟩ : ∃ y : Int32, y = v11 + 1 := ⟨_, rfl⟩
            have h := h x32 hx32
            refine sh_iinc (v := x32) (ls' := [(8, sh_I x32), (6, sh_I x30), (9, sh_I x14), (0, sh_R (2, k, 0)), (1, sh_I a1), (2, sh_I a2), (3, sh_I a3), (4, sh_I r2), (5, sh_I x5), (7, sh_I x8)]) (pc := 105) dX2_share_105 rfl hx32.symm (by decide) rfl ?_
            refine sh_goto (tgt := 34) (pc := 108) dX2_share_108 (by decide) ?_
            refine sh_pick [3, 4, 5, 6, 7, 8, 1, 9, 0] rfl ?_
            exact ih9 _ _ _ h.1 h.2
  · have h := h.2 hc3
    exact sh_ret_u (pc := 12) dX2_share_12 rfl ⟨rfl, rfl⟩ h

set_option maxRecDepth 100000 in
set_option maxHeartbeats 4000000 in
theorem wp_X2_depart {g : sh_G} {S : sh_S} {sz : Nat} {Q : Int32 → sh_S → Prop} {k : Nat} (hk : sh_ok (2, k, 0)) {a1 : Int32} 
    (h : (sh_Ci g mX2_has [sh_R (2, k, 0), sh_I a1] S sz (fun r2 S1 => ((¬ r2 = 0 → (vp_in a1 10 ∧ (∀ x6 : Int32, x6 = (S1 (10, k, (a1.toNatClampNeg)) 3) → (vp_in a1 10 ∧ (∀ S9 : sh_S, S9 = sh_sr S1 (10, k, (a1.toNatClampNeg)) (upd (S1 (10, k, (a1.toNatClampNeg))) 3 0) → (vp_in a1 10 ∧ (∀ S13 : sh_S, S13 = sh_sr S9 (10, k, (a1.toNatClampNeg)) (upd (S9 (10, k, (a1.toNatClampNeg))) 4 ((S9 (10, k, (a1.toNatClampNeg)) 4) + x6)) → (vp_in a1 10 ∧ (∀ S16 : sh_S, S16 = sh_sr S13 (10, k, (a1.toNatClampNeg)) (upd (S13 (10, k, (a1.toNatClampNeg))) 0 2) → (sh_Cu g mX2_takeOutOfTurns [sh_R (2, k, 0), sh_I a1] S16 sz (fun S17 => (sh_Cu g mX2_share [sh_R (2, k, 0), sh_I x6, sh_I 3, sh_I a1] S17 sz (fun S18 => Q x6 S18))))))))))))) ∧ (r2 = 0 → Q (-1000001) S1))))) :
    sh_Ci g mX2_depart [sh_R (2, k, 0), sh_I a1] S sz Q := by
  refine sh_enter (ls := [(0, sh_R (2, k, 0)), (1, sh_I a1)]) (by decide +kernel) (Nat.le_of_ble_eq_true rfl) rfl ?_
  refine sh_aload_n (pc := 0) dX2_depart_0 rfl ?_
  refine sh_iload_n (pc := 1) dX2_depart_1 rfl ?_
  refine sh_ci (N := mX2_has) (pc := 2) dX2_depart_2 ml_X2_42 h mf_X2_has iv_X2_has ⟨Nat.le_of_ble_eq_true rfl, Nat.le_of_ble_eq_true rfl⟩ rfl rfl (Nat.le_of_ble_eq_true rfl) hk rfl (show vwCl[2]? = some (RX2, TX2, 5) from rfl) rfl (fun r2 S1 h => ?_)
  refine sh_if_ne (tgt := 11) (pc := 5) dX2_depart_5 (by decide) (fun hc3 => ?_) (fun hc3 => ?_)
  · have h := h.1 hc3
    refine sh_aload_n (pc := 11) dX2_depart_11 rfl ?_
    refine sh_gf (pc := 12) dX2_depart_12 fl_X2_11 cf_2 hk rfl rfl ?_
    refine sh_iload_n (pc := 15) dX2_depart_15 rfl ?_
    obtain ⟨hi4, h⟩ := h
    refine sh_aa (o' := (1, k, (a1.toNatClampNeg))) (pc := 16) dX2_depart_16 (by decide) hk rfl hi4 rfl ?_
    refine sh_gf (pc := 17) dX2_depart_17 fl_X2_54 cf_1 ⟨hk.1, vp_lt hi4⟩ rfl rfl ?_
    refine sh_iconst (v := 3) (pc := 20) dX2_depart_20 rfl ?_
    refine sh_ia (pc := 21) dX2_depart_21 ⟨hk.1, vp_lt hi4⟩ rfl (vp_in_iff.mpr ⟨by decide, by decide⟩) ?_
    refine sh_topI (fun x6 hx6 => ?_)
    have h := h x6 hx6
    refine sh_istore_n (ls' := [(2, sh_I x6), (0, sh_R (2, k, 0)), (1, sh_I a1)]) (pc := 22) dX2_depart_22 (by decide) rfl ?_
    refine sh_aload_n (pc := 23) dX2_depart_23 rfl ?_
    refine sh_gf (pc := 24) dX2_depart_24 fl_X2_11 cf_2 hk rfl rfl ?_
    refine sh_iload_n (pc := 27) dX2_depart_27 rfl ?_
    obtain ⟨hi7, h⟩ := h
    refine sh_aa (o' := (1, k, (a1.toNatClampNeg))) (pc := 28) dX2_depart_28 (by decide) hk rfl hi7 rfl ?_
    refine sh_gf (pc := 29) dX2_depart_29 fl_X2_54 cf_1 ⟨hk.1, vp_lt hi7⟩ rfl rfl ?_
    refine sh_iconst (v := 3) (pc := 32) dX2_depart_32 rfl ?_
    refine sh_iconst (v := 0) (pc := 33) dX2_depart_33 rfl ?_
    refine sh_is (pc := 34) dX2_depart_34 ⟨hk.1, vp_lt hi7⟩ rfl (vp_in_iff.mpr ⟨by decide, by decide⟩) rfl ?_
    refine sh_topS (fun S9 hS9 => ?_)
    have h := h S9 hS9
    refine sh_aload_n (pc := 35) dX2_depart_35 rfl ?_
    refine sh_gf (pc := 36) dX2_depart_36 fl_X2_11 cf_2 hk rfl rfl ?_
    refine sh_iload_n (pc := 39) dX2_depart_39 rfl ?_
    obtain ⟨hi10, h⟩ := h
    refine sh_aa (o' := (1, k, (a1.toNatClampNeg))) (pc := 40) dX2_depart_40 (by decide) hk rfl hi10 rfl ?_
    refine sh_gf (pc := 41) dX2_depart_41 fl_X2_54 cf_1 ⟨hk.1, vp_lt hi10⟩ rfl rfl ?_
    refine sh_iconst (v := 4) (pc := 44) dX2_depart_44 rfl ?_
    refine sh_dup2 (pc := 45) dX2_depart_45 rfl rfl ?_
    refine sh_ia (pc := 46) dX2_depart_46 ⟨hk.1, vp_lt hi10⟩ rfl (vp_in_iff.mpr ⟨by decide, by decide⟩) ?_
    refine sh_iload_n (pc := 47) dX2_depart_47 rfl ?_
    refine sh_iadd (pc := 48) dX2_depart_48 ?_
    refine sh_is (pc := 49) dX2_depart_49 ⟨hk.1, vp_lt hi10⟩ rfl (vp_in_iff.mpr ⟨by decide, by decide⟩) rfl ?_
    refine sh_topS (fun S13 hS13 => ?_)
    have h := h S13 hS13
    refine sh_aload_n (pc := 50) dX2_depart_50 rfl ?_
    refine sh_gf (pc := 51) dX2_depart_51 fl_X2_11 cf_2 hk rfl rfl ?_
    refine sh_iload_n (pc := 54) dX2_depart_54 rfl ?_
    obtain ⟨hi14, h⟩ := h
    refine sh_aa (o' := (1, k, (a1.toNatClampNeg))) (pc := 55) dX2_depart_55 (by decide) hk rfl hi14 rfl ?_
    refine sh_gf (pc := 56) dX2_depart_56 fl_X2_54 cf_1 ⟨hk.1, vp_lt hi14⟩ rfl rfl ?_
    refine sh_iconst (v := 0) (pc := 59) dX2_depart_59 rfl ?_
    refine sh_iconst (v := 2) (pc := 60) dX2_depart_60 rfl ?_
    refine sh_is (pc := 61) dX2_depart_61 ⟨hk.1, vp_lt hi14⟩ rfl (vp_in_iff.mpr ⟨by decide, by decide⟩) rfl ?_
    refine sh_topS (fun S16 hS16 => ?_)
    have h := h S16 hS16
    refine sh_aload_n (pc := 62) dX2_depart_62 rfl ?_
    refine sh_iload_n (pc := 63) dX2_depart_63 rfl ?_
    refine sh_cu (N := mX2_takeOutOfTurns) (pc := 64) dX2_depart_64 ml_X2_64 h mf_X2_takeOutOfTurns iv_X2_takeOutOfTurns ⟨Nat.le_of_ble_eq_true rfl, Nat.le_of_ble_eq_true rfl⟩ rfl rfl (Nat.le_of_ble_eq_true rfl) hk rfl (show vwCl[2]? = some (RX2, TX2, 5) from rfl) rfl (fun S17 h => ?_)
    refine sh_aload_n (pc := 67) dX2_depart_67 rfl ?_
    refine sh_iload_n (pc := 68) dX2_depart_68 rfl ?_
    refine sh_iconst (v := 3) (pc := 69) dX2_depart_69 rfl ?_
    refine sh_iload_n (pc := 70) dX2_depart_70 rfl ?_
    refine sh_cu (N := mX2_share) (pc := 71) dX2_depart_71 ml_X2_67 h mf_X2_share iv_X2_share ⟨Nat.le_of_ble_eq_true rfl, Nat.le_of_ble_eq_true rfl⟩ rfl rfl (Nat.le_of_ble_eq_true rfl) hk rfl (show vwCl[2]? = some (RX2, TX2, 5) from rfl) rfl (fun S18 h => ?_)
    refine sh_iload_n (pc := 74) dX2_depart_74 rfl ?_
    exact sh_ret_i (pc := 75) dX2_depart_75 rfl ⟨rfl, rfl⟩ h
  · have h := h.2 hc3
    refine sh_ldc (v := (-1000001)) (pc := 8) dX2_depart_8 kc_X2_62 ?_
    exact sh_ret_i (pc := 10) dX2_depart_10 rfl ⟨rfl, rfl⟩ h

set_option maxRecDepth 100000 in
set_option maxHeartbeats 4000000 in
theorem wp_X2_takeGift {g : sh_G} {S : sh_S} {sz : Nat} {Q : Int32 → sh_S → Prop} {k : Nat} (hk : sh_ok (2, k, 0)) {a1 : Int32} {a2 : Int32} 
    (h : (sh_Ci g mX2_has [sh_R (2, k, 0), sh_I a1] S sz (fun r2 S1 => ((r2 = 0 → Q (-1000001) S1) ∧ (¬ r2 = 0 → ((a2 < 1 → Q (-1000001) S1) ∧ (¬ a2 < 1 → ((a2 ≤ 400 → (vp_in a1 10 ∧ (sh_Ci g mX1_isGone [sh_R (1, k, (a1.toNatClampNeg))] S1 sz (fun r8 S7 => ((r8 = 0 → (vp_in a1 10 ∧ (sh_Cu g mX1_gainGiven [sh_R (1, k, (a1.toNatClampNeg)), sh_I a2] S7 sz (fun S11 => (vp_in a1 10 ∧ Q (S11 (10, k, (a1.toNatClampNeg)) 3) S11))))) ∧ (¬ r8 = 0 → Q (-1000002) S7)))))) ∧ (¬ a2 ≤ 400 → Q (-1000001) S1))))))))) :
    sh_Ci g mX2_takeGift [sh_R (2, k, 0), sh_I a1, sh_I a2] S sz Q := by
  refine sh_enter (ls := [(0, sh_R (2, k, 0)), (1, sh_I a1), (2, sh_I a2)]) (by decide +kernel) (Nat.le_of_ble_eq_true rfl) rfl ?_
  refine sh_aload_n (pc := 0) dX2_takeGift_0 rfl ?_
  refine sh_iload_n (pc := 1) dX2_takeGift_1 rfl ?_
  refine sh_ci (N := mX2_has) (pc := 2) dX2_takeGift_2 ml_X2_42 h mf_X2_has iv_X2_has ⟨Nat.le_of_ble_eq_true rfl, Nat.le_of_ble_eq_true rfl⟩ rfl rfl (Nat.le_of_ble_eq_true rfl) hk rfl (show vwCl[2]? = some (RX2, TX2, 5) from rfl) rfl (fun r2 S1 h => ?_)
  refine sh_if_eq (tgt := 20) (pc := 5) dX2_takeGift_5 (by decide) (fun hc3 => ?_) (fun hc3 => ?_)
  · have h := h.1 hc3
    refine sh_ldc (v := (-1000001)) (pc := 20) dX2_takeGift_20 kc_X2_62 ?_
    exact sh_ret_i (pc := 22) dX2_takeGift_22 rfl ⟨rfl, rfl⟩ h
  · have h := h.2 hc3
    refine sh_iload_n (pc := 8) dX2_takeGift_8 rfl ?_
    refine sh_iconst (v := 1) (pc := 9) dX2_takeGift_9 rfl ?_
    refine sh_icmp_lt (tgt := 20) (pc := 10) dX2_takeGift_10 (by decide) (fun hc4 => ?_) (fun hc4 => ?_)
    · have h := h.1 hc4
      refine sh_ldc (v := (-1000001)) (pc := 20) dX2_takeGift_20 kc_X2_62 ?_
      exact sh_ret_i (pc := 22) dX2_takeGift_22 rfl ⟨rfl, rfl⟩ h
    · have h := h.2 hc4
      refine sh_iload_n (pc := 13) dX2_takeGift_13 rfl ?_
      refine sh_sipush (v := 400) (pc := 14) dX2_takeGift_14 rfl ?_
      refine sh_icmp_le (tgt := 23) (pc := 17) dX2_takeGift_17 (by decide) (fun hc5 => ?_) (fun hc5 => ?_)
      · have h := h.1 hc5
        refine sh_aload_n (pc := 23) dX2_takeGift_23 rfl ?_
        refine sh_gf (pc := 24) dX2_takeGift_24 fl_X2_11 cf_2 hk rfl rfl ?_
        refine sh_iload_n (pc := 27) dX2_takeGift_27 rfl ?_
        obtain ⟨hi6, h⟩ := h
        refine sh_aa (o' := (1, k, (a1.toNatClampNeg))) (pc := 28) dX2_takeGift_28 (by decide) hk rfl hi6 rfl ?_
        refine sh_ci (N := mX1_isGone) (pc := 29) dX2_takeGift_29 ml_X2_46 h mf_X1_isGone iv_X1_isGone ⟨Nat.le_of_ble_eq_true rfl, Nat.le_of_ble_eq_true rfl⟩ rfl rfl (Nat.le_of_ble_eq_true rfl) ⟨hk.1, vp_lt hi6⟩ rfl (show vwCl[1]? = some (RX1, TX1, 1) from rfl) rfl (fun r8 S7 h => ?_)
        refine sh_if_eq (tgt := 38) (pc := 32) dX2_takeGift_32 (by decide) (fun hc9 => ?_) (fun hc9 => ?_)
        · have h := h.1 hc9
          refine sh_aload_n (pc := 38) dX2_takeGift_38 rfl ?_
          refine sh_gf (pc := 39) dX2_takeGift_39 fl_X2_11 cf_2 hk rfl rfl ?_
          refine sh_iload_n (pc := 42) dX2_takeGift_42 rfl ?_
          obtain ⟨hi10, h⟩ := h
          refine sh_aa (o' := (1, k, (a1.toNatClampNeg))) (pc := 43) dX2_takeGift_43 (by decide) hk rfl hi10 rfl ?_
          refine sh_iload_n (pc := 44) dX2_takeGift_44 rfl ?_
          refine sh_cu (N := mX1_gainGiven) (pc := 45) dX2_takeGift_45 ml_X2_71 h mf_X1_gainGiven iv_X1_gainGiven ⟨Nat.le_of_ble_eq_true rfl, Nat.le_of_ble_eq_true rfl⟩ rfl rfl (Nat.le_of_ble_eq_true rfl) ⟨hk.1, vp_lt hi10⟩ rfl (show vwCl[1]? = some (RX1, TX1, 1) from rfl) rfl (fun S11 h => ?_)
          refine sh_aload_n (pc := 48) dX2_takeGift_48 rfl ?_
          refine sh_gf (pc := 49) dX2_takeGift_49 fl_X2_11 cf_2 hk rfl rfl ?_
          refine sh_iload_n (pc := 52) dX2_takeGift_52 rfl ?_
          obtain ⟨hi12, h⟩ := h
          refine sh_aa (o' := (1, k, (a1.toNatClampNeg))) (pc := 53) dX2_takeGift_53 (by decide) hk rfl hi12 rfl ?_
          refine sh_gf (pc := 54) dX2_takeGift_54 fl_X2_54 cf_1 ⟨hk.1, vp_lt hi12⟩ rfl rfl ?_
          refine sh_iconst (v := 3) (pc := 57) dX2_takeGift_57 rfl ?_
          refine sh_ia (pc := 58) dX2_takeGift_58 ⟨hk.1, vp_lt hi12⟩ rfl (vp_in_iff.mpr ⟨by decide, by decide⟩) ?_
          exact sh_ret_i (pc := 59) dX2_takeGift_59 rfl ⟨rfl, rfl⟩ h
        · have h := h.2 hc9
          refine sh_ldc (v := (-1000002)) (pc := 35) dX2_takeGift_35 kc_X2_63 ?_
          exact sh_ret_i (pc := 37) dX2_takeGift_37 rfl ⟨rfl, rfl⟩ h
      · have h := h.2 hc5
        refine sh_ldc (v := (-1000001)) (pc := 20) dX2_takeGift_20 kc_X2_62 ?_
        exact sh_ret_i (pc := 22) dX2_takeGift_22 rfl ⟨rfl, rfl⟩ h

set_option maxRecDepth 100000 in
set_option maxHeartbeats 4000000 in
theorem wp_X2_chargeEach {g : sh_G} {S : sh_S} {sz : Nat} {Q : sh_S → Prop} {k : Nat} (hk : sh_ok (2, k, 0)) {a1 : Int32} {a2 : Int32} 
    (h : (∃ (Iv1 : Int32 → sh_S → Prop) (mu1 : Int32 → sh_S → Nat), Iv1 0 S ∧ ∀ (v2 : Int32) (S3 : sh_S), Iv1 v2 S3 → (((S3 (2, k, 0) 2) ≤ v2 → Q S3) ∧ (¬ (S3 (2, k, 0) 2) ≤ v2 → (sh_Ci g mX2_takesPart [sh_R (2, k, 0), sh_I v2, sh_I (-1)] S3 sz (fun r6 S5 => ((r6 = 0 → (∀ x8 : Int32, x8 = v2 + 1 → (Iv1 x8 S5 ∧ mu1 x8 S5 < mu1 v2 S3))) ∧ (¬ r6 = 0 → (vp_in v2 10 ∧ (sh_Cu g mX1_charge [sh_R (1, k, (v2.toNatClampNeg)), sh_I a1, sh_I a2] S5 sz (fun S10 => (∀ x11 : Int32, x11 = v2 + 1 → (Iv1 x11 S10 ∧ mu1 x11 S10 < mu1 v2 S3))))))))))))) :
    sh_Cu g mX2_chargeEach [sh_R (2, k, 0), sh_I a1, sh_I a2] S sz Q := by
  refine sh_enter (ls := [(0, sh_R (2, k, 0)), (1, sh_I a1), (2, sh_I a2)]) (by decide +kernel) (Nat.le_of_ble_eq_true rfl) rfl ?_
  refine sh_iconst (v := 0) (pc := 0) dX2_chargeEach_0 rfl ?_
  refine sh_istore_n (ls' := [(3, sh_I 0), (0, sh_R (2, k, 0)), (1, sh_I a1), (2, sh_I a2)]) (pc := 1) dX2_chargeEach_1 (by decide) rfl ?_
  obtain ⟨Iv1, mu1, h0, hs1⟩ := h
  refine sh_pick [1, 2, 3, 0] rfl ?_
  refine sh_lp2 Iv1 mu1 (fun v2 S3 => sh_V g mX2_chargeEach 0 0 2 [(0, sh_R (2, k, 0)), (1, sh_I a1), (2, sh_I a2), (3, sh_I v2)] [] (sh_St S3) sz (sh_tu sz Q)) (fun v2 S3 hI1 ih1 => ?_) _ _ h0
  have h := hs1 v2 S3 hI1
  clear h0
  refine sh_iload_n (pc := 2) dX2_chargeEach_2 rfl ?_
  refine sh_aload_n (pc := 3) dX2_chargeEach_3 rfl ?_
  refine sh_gf (pc := 4) dX2_chargeEach_4 fl_X2_32 cf_2 hk rfl rfl ?_
  refine sh_icmp_ge (tgt := 36) (pc := 7) dX2_chargeEach_7 (by decide) (fun hc4 => ?_) (fun hc4 => ?_)
  · have h := h.1 hc4
    exact sh_ret_u (pc := 36) dX2_chargeEach_36 rfl ⟨rfl, rfl⟩ h
  · have h := h.2 hc4
    refine sh_aload_n (pc := 10) dX2_chargeEach_10 rfl ?_
    refine sh_iload_n (pc := 11) dX2_chargeEach_11 rfl ?_
    refine sh_iconst (v := (-1)) (pc := 12) dX2_chargeEach_12 rfl ?_
    refine sh_ci (N := mX2_takesPart) (pc := 13) dX2_chargeEach_13 ml_X2_50 h mf_X2_takesPart iv_X2_takesPart ⟨Nat.le_of_ble_eq_true rfl, Nat.le_of_ble_eq_true rfl⟩ rfl rfl (Nat.le_of_ble_eq_true rfl) hk rfl (show vwCl[2]? = some (RX2, TX2, 5) from rfl) rfl (fun r6 S5 h => ?_)
    refine sh_if_eq (tgt := 30) (pc := 16) dX2_chargeEach_16 (by decide) (fun hc7 => ?_) (fun hc7 => ?_)
    · have h := h.1 hc7
      obtain ⟨x8, hx8⟩ : ∃ y : Int32, y = v2 + 1 := ⟨_, rfl⟩
      have h := h x8 hx8
      refine sh_iinc (v := x8) (ls' := [(3, sh_I x8), (0, sh_R (2, k, 0)), (1, sh_I a1), (2, sh_I a2)]) (pc := 30) dX2_chargeEach_30 rfl hx8.symm (by decide) rfl ?_
      refine sh_goto (tgt := 2) (pc := 33) dX2_chargeEach_33 (by decide) ?_
      refine sh_pick [1, 2, 3, 0] rfl ?_
      exact ih1 _ _ h.1 h.2
    · have h := h.2 hc7
      refine sh_aload_n (pc := 19) dX2_chargeEach_19 rfl ?_
      refine sh_gf (pc := 20) dX2_chargeEach_20 fl_X2_11 cf_2 hk rfl rfl ?_
      refine sh_iload_n (pc := 23) dX2_chargeEach_23 rfl ?_
      obtain ⟨hi9, h⟩ := h
      refine sh_aa (o' := (1, k, (v2.toNatClampNeg))) (pc := 24) dX2_chargeEach_24 (by decide) hk rfl hi9 rfl ?_
      refine sh_iload_n (pc := 25) dX2_chargeEach_25 rfl ?_
      refine sh_iload_n (pc := 26) dX2_chargeEach_26 rfl ?_
      refine sh_cu (N := mX1_charge) (pc := 27) dX2_chargeEach_27 ml_X2_74 h mf_X1_charge iv_X1_charge ⟨Nat.le_of_ble_eq_true rfl, Nat.le_of_ble_eq_true rfl⟩ rfl rfl (Nat.le_of_ble_eq_true rfl) ⟨hk.1, vp_lt hi9⟩ rfl (show vwCl[1]? = some (RX1, TX1, 1) from rfl) rfl (fun S10 h => ?_)
      obtain ⟨x11, hx11⟩ : ∃ y : Int32, y = v2 + 1 := ⟨_, rfl⟩
      have h := h x11 hx11
      refine sh_iinc (v := x11) (ls' := [(3, sh_I x11), (0, sh_R (2, k, 0)), (1, sh_I a1), (2, sh_I a2)]) (pc := 30) dX2_chargeEach_30 rfl hx11.symm (by decide) rfl ?_
      refine sh_goto (tgt := 2) (pc := 33) dX2_chargeEach_33 (by decide) ?_
      refine sh_pick [1, 2, 3, 0] rfl ?_
      exact ih1 _ _ h.1 h.2

set_option maxRecDepth 100000 in
set_option maxHeartbeats 4000000 in
theorem wp_X2_tellOfAll {g : sh_G} {S : sh_S} {sz : Nat} {Q : Int32 → sh_S → Prop} {k : Nat} (hk : sh_ok (2, k, 0)) {a1 : Int32} 
    (h : ((¬ a1 = 11 → ((a1 < 1 → Q (-1000001) S) ∧ (¬ a1 < 1 → ((a1 ≤ 10 → (∃ (Iv4 : Int32 → Int32 → Prop) (mu4 : Int32 → Int32 → Nat), Iv4 0 0 ∧ ∀ (v5 : Int32) (v6 : Int32), Iv4 v5 v6 → ((10 ≤ v6 → Q v5 S) ∧ (¬ 10 ≤ v6 → (vp_in v6 10 ∧ (vp_in a1 12 ∧ (∀ x11 : Int32, x11 = (v5 + (S (10, k, (v6.toNatClampNeg)) (a1.toNatClampNeg))) → (∀ x12 : Int32, x12 = v6 + 1 → (Iv4 x11 x12 ∧ mu4 x11 x12 < mu4 v5 v6))))))))) ∧ (¬ a1 ≤ 10 → Q (-1000001) S))))) ∧ (a1 = 11 → Q (S (2, k, 0) 4) S))) :
    sh_Ci g mX2_tellOfAll [sh_R (2, k, 0), sh_I a1] S sz Q := by
  refine sh_enter (ls := [(0, sh_R (2, k, 0)), (1, sh_I a1)]) (by decide +kernel) (Nat.le_of_ble_eq_true rfl) rfl ?_
  refine sh_iload_n (pc := 0) dX2_tellOfAll_0 rfl ?_
  refine sh_bipush (v := 11) (pc := 1) dX2_tellOfAll_1 rfl ?_
  refine sh_icmp_ne (tgt := 11) (pc := 3) dX2_tellOfAll_3 (by decide) (fun hc1 => ?_) (fun hc1 => ?_)
  · have h := h.1 hc1
    refine sh_iload_n (pc := 11) dX2_tellOfAll_11 rfl ?_
    refine sh_iconst (v := 1) (pc := 12) dX2_tellOfAll_12 rfl ?_
    refine sh_icmp_lt (tgt := 22) (pc := 13) dX2_tellOfAll_13 (by decide) (fun hc2 => ?_) (fun hc2 => ?_)
    · have h := h.1 hc2
      refine sh_ldc (v := (-1000001)) (pc := 22) dX2_tellOfAll_22 kc_X2_62 ?_
      exact sh_ret_i (pc := 24) dX2_tellOfAll_24 rfl ⟨rfl, rfl⟩ h
    · have h := h.2 hc2
      refine sh_iload_n (pc := 16) dX2_tellOfAll_16 rfl ?_
      refine sh_bipush (v := 10) (pc := 17) dX2_tellOfAll_17 rfl ?_
      refine sh_icmp_le (tgt := 25) (pc := 19) dX2_tellOfAll_19 (by decide) (fun hc3 => ?_) (fun hc3 => ?_)
      · have h := h.1 hc3
        refine sh_iconst (v := 0) (pc := 25) dX2_tellOfAll_25 rfl ?_
        refine sh_istore_n (ls' := [(2, sh_I 0), (0, sh_R (2, k, 0)), (1, sh_I a1)]) (pc := 26) dX2_tellOfAll_26 (by decide) rfl ?_
        refine sh_iconst (v := 0) (pc := 27) dX2_tellOfAll_27 rfl ?_
        refine sh_istore_n (ls' := [(3, sh_I 0), (2, sh_I 0), (0, sh_R (2, k, 0)), (1, sh_I a1)]) (pc := 28) dX2_tellOfAll_28 (by decide) rfl ?_
        obtain ⟨Iv4, mu4, h0, hs4⟩ := h
        refine sh_pick [2, 3, 1, 0] rfl ?_
        refine sh_lp2 Iv4 mu4 (fun v5 v6 => sh_V g mX2_tellOfAll 0 0 29 [(0, sh_R (2, k, 0)), (1, sh_I a1), (2, sh_I v5), (3, sh_I v6)] [] (sh_St S) sz (sh_ti sz Q)) (fun v5 v6 hI4 ih4 => ?_) _ _ h0
        have h := hs4 v5 v6 hI4
        clear h0
        refine sh_iload_n (pc := 29) dX2_tellOfAll_29 rfl ?_
        refine sh_bipush (v := 10) (pc := 30) dX2_tellOfAll_30 rfl ?_
        refine sh_icmp_ge (tgt := 55) (pc := 32) dX2_tellOfAll_32 (by decide) (fun hc8 => ?_) (fun hc8 => ?_)
        · have h := h.1 hc8
          refine sh_iload_n (pc := 55) dX2_tellOfAll_55 rfl ?_
          exact sh_ret_i (pc := 56) dX2_tellOfAll_56 rfl ⟨rfl, rfl⟩ h
        · have h := h.2 hc8
          refine sh_iload_n (pc := 35) dX2_tellOfAll_35 rfl ?_
          refine sh_aload_n (pc := 36) dX2_tellOfAll_36 rfl ?_
          refine sh_gf (pc := 37) dX2_tellOfAll_37 fl_X2_11 cf_2 hk rfl rfl ?_
          refine sh_iload_n (pc := 40) dX2_tellOfAll_40 rfl ?_
          obtain ⟨hi9, h⟩ := h
          refine sh_aa (o' := (1, k, (v6.toNatClampNeg))) (pc := 41) dX2_tellOfAll_41 (by decide) hk rfl hi9 rfl ?_
          refine sh_gf (pc := 42) dX2_tellOfAll_42 fl_X2_54 cf_1 ⟨hk.1, vp_lt hi9⟩ rfl rfl ?_
          refine sh_iload_n (pc := 45) dX2_tellOfAll_45 rfl ?_
          obtain ⟨hi10, h⟩ := h
          refine sh_ia (pc := 46) dX2_tellOfAll_46 ⟨hk.1, vp_lt hi9⟩ rfl hi10 ?_
          refine sh_iadd (pc := 47) dX2_tellOfAll_47 ?_
          refine sh_topI (fun x11 hx11 => ?_)
          have h := h x11 hx11
          refine sh_istore_n (ls' := [(2, sh_I x11), (0, sh_R (2, k, 0)), (1, sh_I a1), (3, sh_I v6)]) (pc := 48) dX2_tellOfAll_48 (by decide) rfl ?_
          obtain ⟨x12, hx12⟩ : ∃ y : Int32, y = v6 + 1 := ⟨_, rfl⟩
          have h := h x12 hx12
          refine sh_iinc (v := x12) (ls' := [(3, sh_I x12), (2, sh_I x11), (0, sh_R (2, k, 0)), (1, sh_I a1)]) (pc := 49) dX2_tellOfAll_49 rfl hx12.symm (by decide) rfl ?_
          refine sh_goto (tgt := 29) (pc := 52) dX2_tellOfAll_52 (by decide) ?_
          refine sh_pick [2, 3, 1, 0] rfl ?_
          exact ih4 _ _ h.1 h.2
      · have h := h.2 hc3
        refine sh_ldc (v := (-1000001)) (pc := 22) dX2_tellOfAll_22 kc_X2_62 ?_
        exact sh_ret_i (pc := 24) dX2_tellOfAll_24 rfl ⟨rfl, rfl⟩ h
  · have h := h.2 hc1
    refine sh_aload_n (pc := 6) dX2_tellOfAll_6 rfl ?_
    refine sh_gf (pc := 7) dX2_tellOfAll_7 fl_X2_39 cf_2 hk rfl rfl ?_
    exact sh_ret_i (pc := 10) dX2_tellOfAll_10 rfl ⟨rfl, rfl⟩ h

set_option maxRecDepth 100000 in
set_option maxHeartbeats 4000000 in
theorem wp_X2_debtorsAheadOf {g : sh_G} {S : sh_S} {sz : Nat} {Q : Int32 → sh_S → Prop} {k : Nat} (hk : sh_ok (2, k, 0)) {a1 : Int32} 
    (h : (sh_Ci g mX2_has [sh_R (2, k, 0), sh_I a1] S sz (fun r2 S1 => ((¬ r2 = 0 → (vp_in a1 10 ∧ (sh_Ci g mX1_openInAll [sh_R (1, k, (a1.toNatClampNeg))] S1 sz (fun r6 S5 => (∃ (Iv7 : Int32 → Int32 → sh_S → Prop) (mu7 : Int32 → Int32 → sh_S → Nat), Iv7 0 0 S5 ∧ ∀ (v8 : Int32) (v9 : Int32) (S10 : sh_S), Iv7 v8 v9 S10 → ((10 ≤ v9 → Q v8 S10) ∧ (¬ 10 ≤ v9 → (vp_in v9 10 ∧ (sh_Ci g mX1_openInAll [sh_R (1, k, (v9.toNatClampNeg))] S10 sz (fun r14 S13 => ((r6 < r14 → (∀ x16 : Int32, x16 = v8 + 1 → (∀ x17 : Int32, x17 = v9 + 1 → (Iv7 x16 x17 S13 ∧ mu7 x16 x17 S13 < mu7 v8 v9 S10)))) ∧ (¬ r6 < r14 → ((¬ r14 = r6 → (∀ x19 : Int32, x19 = v9 + 1 → (Iv7 v8 x19 S13 ∧ mu7 v8 x19 S13 < mu7 v8 v9 S10))) ∧ (r14 = r6 → ((a1 ≤ v9 → (∀ x21 : Int32, x21 = v9 + 1 → (Iv7 v8 x21 S13 ∧ mu7 v8 x21 S13 < mu7 v8 v9 S10))) ∧ (¬ a1 ≤ v9 → (∀ x22 : Int32, x22 = v8 + 1 → (∀ x23 : Int32, x23 = v9 + 1 → (Iv7 x22 x23 S13 ∧ mu7 x22 x23 S13 < mu7 v8 v9 S10))))))))))))))))))) ∧ (r2 = 0 → Q 0 S1))))) :
    sh_Ci g mX2_debtorsAheadOf [sh_R (2, k, 0), sh_I a1] S sz Q := by
  refine sh_enter (ls := [(0, sh_R (2, k, 0)), (1, sh_I a1)]) (by decide +kernel) (Nat.le_of_ble_eq_true rfl) rfl ?_
  refine sh_aload_n (pc := 0) dX2_debtorsAheadOf_0 rfl ?_
  refine sh_iload_n (pc := 1) dX2_debtorsAheadOf_1 rfl ?_
  refine sh_ci (N := mX2_has) (pc := 2) dX2_debtorsAheadOf_2 ml_X2_42 h mf_X2_has iv_X2_has ⟨Nat.le_of_ble_eq_true rfl, Nat.le_of_ble_eq_true rfl⟩ rfl rfl (Nat.le_of_ble_eq_true rfl) hk rfl (show vwCl[2]? = some (RX2, TX2, 5) from rfl) rfl (fun r2 S1 h => ?_)
  refine sh_if_ne (tgt := 10) (pc := 5) dX2_debtorsAheadOf_5 (by decide) (fun hc3 => ?_) (fun hc3 => ?_)
  · have h := h.1 hc3
    refine sh_aload_n (pc := 10) dX2_debtorsAheadOf_10 rfl ?_
    refine sh_gf (pc := 11) dX2_debtorsAheadOf_11 fl_X2_11 cf_2 hk rfl rfl ?_
    refine sh_iload_n (pc := 14) dX2_debtorsAheadOf_14 rfl ?_
    obtain ⟨hi4, h⟩ := h
    refine sh_aa (o' := (1, k, (a1.toNatClampNeg))) (pc := 15) dX2_debtorsAheadOf_15 (by decide) hk rfl hi4 rfl ?_
    refine sh_ci (N := mX1_openInAll) (pc := 16) dX2_debtorsAheadOf_16 ml_X2_85 h mf_X1_openInAll iv_X1_openInAll ⟨Nat.le_of_ble_eq_true rfl, Nat.le_of_ble_eq_true rfl⟩ rfl rfl (Nat.le_of_ble_eq_true rfl) ⟨hk.1, vp_lt hi4⟩ rfl (show vwCl[1]? = some (RX1, TX1, 1) from rfl) rfl (fun r6 S5 h => ?_)
    refine sh_istore_n (ls' := [(2, sh_I r6), (0, sh_R (2, k, 0)), (1, sh_I a1)]) (pc := 19) dX2_debtorsAheadOf_19 (by decide) rfl ?_
    refine sh_iconst (v := 0) (pc := 20) dX2_debtorsAheadOf_20 rfl ?_
    refine sh_istore_n (ls' := [(3, sh_I 0), (2, sh_I r6), (0, sh_R (2, k, 0)), (1, sh_I a1)]) (pc := 21) dX2_debtorsAheadOf_21 (by decide) rfl ?_
    refine sh_iconst (v := 0) (pc := 22) dX2_debtorsAheadOf_22 rfl ?_
    refine sh_istore (ls' := [(4, sh_I 0), (3, sh_I 0), (2, sh_I r6), (0, sh_R (2, k, 0)), (1, sh_I a1)]) (pc := 23) dX2_debtorsAheadOf_23 (by decide) rfl ?_
    obtain ⟨Iv7, mu7, h0, hs7⟩ := h
    refine sh_pick [3, 4, 2, 1, 0] rfl ?_
    refine sh_lp3 Iv7 mu7 (fun v8 v9 S10 => sh_V g mX2_debtorsAheadOf 0 0 25 [(0, sh_R (2, k, 0)), (1, sh_I a1), (2, sh_I r6), (3, sh_I v8), (4, sh_I v9)] [] (sh_St S10) sz (sh_ti sz Q)) (fun v8 v9 S10 hI7 ih7 => ?_) _ _ _ h0
    have h := hs7 v8 v9 S10 hI7
    clear h0
    refine sh_iload (pc := 25) dX2_debtorsAheadOf_25 rfl ?_
    refine sh_bipush (v := 10) (pc := 27) dX2_debtorsAheadOf_27 rfl ?_
    refine sh_icmp_ge (tgt := 71) (pc := 29) dX2_debtorsAheadOf_29 (by decide) (fun hc11 => ?_) (fun hc11 => ?_)
    · have h := h.1 hc11
      refine sh_iload_n (pc := 71) dX2_debtorsAheadOf_71 rfl ?_
      exact sh_ret_i (pc := 72) dX2_debtorsAheadOf_72 rfl ⟨rfl, rfl⟩ h
    · have h := h.2 hc11
      refine sh_aload_n (pc := 32) dX2_debtorsAheadOf_32 rfl ?_
      refine sh_gf (pc := 33) dX2_debtorsAheadOf_33 fl_X2_11 cf_2 hk rfl rfl ?_
      refine sh_iload (pc := 36) dX2_debtorsAheadOf_36 rfl ?_
      obtain ⟨hi12, h⟩ := h
      refine sh_aa (o' := (1, k, (v9.toNatClampNeg))) (pc := 38) dX2_debtorsAheadOf_38 (by decide) hk rfl hi12 rfl ?_
      refine sh_ci (N := mX1_openInAll) (pc := 39) dX2_debtorsAheadOf_39 ml_X2_85 h mf_X1_openInAll iv_X1_openInAll ⟨Nat.le_of_ble_eq_true rfl, Nat.le_of_ble_eq_true rfl⟩ rfl rfl (Nat.le_of_ble_eq_true rfl) ⟨hk.1, vp_lt hi12⟩ rfl (show vwCl[1]? = some (RX1, TX1, 1) from rfl) rfl (fun r14 S13 h => ?_)
      refine sh_istore (ls' := [(5, sh_I r14), (0, sh_R (2, k, 0)), (1, sh_I a1), (2, sh_I r6), (3, sh_I v8), (4, sh_I v9)]) (pc := 42) dX2_debtorsAheadOf_42 (by decide) rfl ?_
      refine sh_iload (pc := 44) dX2_debtorsAheadOf_44 rfl ?_
      refine sh_iload_n (pc := 46) dX2_debtorsAheadOf_46 rfl ?_
      refine sh_icmp_gt (tgt := 62) (pc := 47) dX2_debtorsAheadOf_47 (by decide) (fun hc15 => ?_) (fun hc15 => ?_)
      · have h := h.1 hc15
        obtain ⟨x16, hx16⟩ : ∃ y : Int32, y = v8 + 1 := ⟨_, rfl⟩
        have h := h x16 hx16
        refine sh_iinc (v := x16) (ls' := [(3, sh_I x16), (5, sh_I r14), (0, sh_R (2, k, 0)), (1, sh_I a1), (2, sh_I r6), (4, sh_I v9)]) (pc := 62) dX2_debtorsAheadOf_62 rfl hx16.symm (by decide) rfl ?_
        obtain ⟨x17, hx17⟩ : ∃ y : Int32, y = v9 + 1 := ⟨_, rfl⟩
        have h := h x17 hx17
        refine sh_iinc (v := x17) (ls' := [(4, sh_I x17), (3, sh_I x16), (5, sh_I r14), (0, sh_R (2, k, 0)), (1, sh_I a1), (2, sh_I r6)]) (pc := 65) dX2_debtorsAheadOf_65 rfl hx17.symm (by decide) rfl ?_
        refine sh_goto (tgt := 25) (pc := 68) dX2_debtorsAheadOf_68 (by decide) ?_
        refine sh_pick [3, 4, 5, 1, 0] rfl ?_
        exact ih7 _ _ _ h.1 h.2
      · have h := h.2 hc15
        refine sh_iload (pc := 50) dX2_debtorsAheadOf_50 rfl ?_
        refine sh_iload_n (pc := 52) dX2_debtorsAheadOf_52 rfl ?_
        refine sh_icmp_ne (tgt := 65) (pc := 53) dX2_debtorsAheadOf_53 (by decide) (fun hc18 => ?_) (fun hc18 => ?_)
        · have h := h.1 hc18
          obtain ⟨x19, hx19⟩ : ∃ y : Int32, y = v9 + 1 := ⟨_, rfl⟩
          have h := h x19 hx19
          refine sh_iinc (v := x19) (ls' := [(4, sh_I x19), (5, sh_I r14), (0, sh_R (2, k, 0)), (1, sh_I a1), (2, sh_I r6), (3, sh_I v8)]) (pc := 65) dX2_debtorsAheadOf_65 rfl hx19.symm (by decide) rfl ?_
          refine sh_goto (tgt := 25) (pc := 68) dX2_debtorsAheadOf_68 (by decide) ?_
          refine sh_pick [2, 3, 4, 5, 0] rfl ?_
          exact ih7 _ _ _ h.1 h.2
        · have h := h.2 hc18
          refine sh_iload (pc := 56) dX2_debtorsAheadOf_56 rfl ?_
          refine sh_iload_n (pc := 58) dX2_debtorsAheadOf_58 rfl ?_
          refine sh_icmp_ge (tgt := 65) (pc := 59) dX2_debtorsAheadOf_59 (by decide) (fun hc20 => ?_) (fun hc20 => ?_)
          · have h := h.1 hc20
            obtain ⟨x21, hx21⟩ : ∃ y : Int32, y = v9 + 1 := ⟨_, rfl⟩
            have h := h x21 hx21
            refine sh_iinc (v := x21) (ls' := [(4, sh_I x21), (5, sh_I r14), (0, sh_R (2, k, 0)), (1, sh_I a1), (2, sh_I r6), (3, sh_I v8)]) (pc := 65) dX2_debtorsAheadOf_65 rfl hx21.symm (by decide) rfl ?_
            refine sh_goto (tgt := 25) (pc := 68) dX2_debtorsAheadOf_68 (by decide) ?_
            refine sh_pick [2, 3, 4, 5, 0] rfl ?_
            exact ih7 _ _ _ h.1 h.2
          · have h := h.2 hc20
            obtain ⟨x22, hx22⟩ : ∃ y : Int32, y = v8 + 1 := ⟨_, rfl⟩
            have h := h x22 hx22
            refine sh_iinc (v := x22) (ls' := [(3, sh_I x22), (5, sh_I r14), (0, sh_R (2, k, 0)), (1, sh_I a1), (2, sh_I r6), (4, sh_I v9)]) (pc := 62) dX2_debtorsAheadOf_62 rfl hx22.symm (by decide) rfl ?_
            obtain ⟨x23, hx23⟩ : ∃ y : Int32, y = v9 + 1 := ⟨_, rfl⟩
            have h := h x23 hx23
            refine sh_iinc (v := x23) (ls' := [(4, sh_I x23), (3, sh_I x22), (5, sh_I r14), (0, sh_R (2, k, 0)), (1, sh_I a1), (2, sh_I r6)]) (pc := 65) dX2_debtorsAheadOf_65 rfl hx23.symm (by decide) rfl ?_
            refine sh_goto (tgt := 25) (pc := 68) dX2_debtorsAheadOf_68 (by decide) ?_
            refine sh_pick [3, 4, 5, 1, 0] rfl ?_
            exact ih7 _ _ _ h.1 h.2
  · have h := h.2 hc3
    refine sh_iconst (v := 0) (pc := 8) dX2_debtorsAheadOf_8 rfl ?_
    exact sh_ret_i (pc := 9) dX2_debtorsAheadOf_9 rfl ⟨rfl, rfl⟩ h

set_option maxRecDepth 100000 in
set_option maxHeartbeats 4000000 in
theorem wp_X2_debtorInOrder {g : sh_G} {S : sh_S} {sz : Nat} {Q : Int32 → sh_S → Prop} {k : Nat} (hk : sh_ok (2, k, 0)) {a1 : Int32} 
    (h : ((0 ≤ a1 → (∃ (Iv2 : Int32 → sh_S → Prop) (mu2 : Int32 → sh_S → Nat), Iv2 0 S ∧ ∀ (v3 : Int32) (S4 : sh_S), Iv2 v3 S4 → ((10 ≤ v3 → Q (-1000004) S4) ∧ (¬ 10 ≤ v3 → (vp_in v3 10 ∧ (sh_Ci g mX1_openInAll [sh_R (1, k, (v3.toNatClampNeg))] S4 sz (fun r8 S7 => ((r8 ≤ 0 → (∀ x10 : Int32, x10 = v3 + 1 → (Iv2 x10 S7 ∧ mu2 x10 S7 < mu2 v3 S4))) ∧ (¬ r8 ≤ 0 → (sh_Ci g mX2_debtorsAheadOf [sh_R (2, k, 0), sh_I v3] S7 sz (fun r12 S11 => ((¬ r12 = a1 → (∀ x14 : Int32, x14 = v3 + 1 → (Iv2 x14 S11 ∧ mu2 x14 S11 < mu2 v3 S4))) ∧ (r12 = a1 → Q v3 S11))))))))))))) ∧ (¬ 0 ≤ a1 → Q (-1000001) S))) :
    sh_Ci g mX2_debtorInOrder [sh_R (2, k, 0), sh_I a1] S sz Q := by
  refine sh_enter (ls := [(0, sh_R (2, k, 0)), (1, sh_I a1)]) (by decide +kernel) (Nat.le_of_ble_eq_true rfl) rfl ?_
  refine sh_iload_n (pc := 0) dX2_debtorInOrder_0 rfl ?_
  refine sh_if_ge (tgt := 7) (pc := 1) dX2_debtorInOrder_1 (by decide) (fun hc1 => ?_) (fun hc1 => ?_)
  · have h := h.1 hc1
    refine sh_iconst (v := 0) (pc := 7) dX2_debtorInOrder_7 rfl ?_
    refine sh_istore_n (ls' := [(2, sh_I 0), (0, sh_R (2, k, 0)), (1, sh_I a1)]) (pc := 8) dX2_debtorInOrder_8 (by decide) rfl ?_
    obtain ⟨Iv2, mu2, h0, hs2⟩ := h
    refine sh_pick [1, 2, 0] rfl ?_
    refine sh_lp2 Iv2 mu2 (fun v3 S4 => sh_V g mX2_debtorInOrder 0 0 9 [(0, sh_R (2, k, 0)), (1, sh_I a1), (2, sh_I v3)] [] (sh_St S4) sz (sh_ti sz Q)) (fun v3 S4 hI2 ih2 => ?_) _ _ h0
    have h := hs2 v3 S4 hI2
    clear h0
    refine sh_iload_n (pc := 9) dX2_debtorInOrder_9 rfl ?_
    refine sh_bipush (v := 10) (pc := 10) dX2_debtorInOrder_10 rfl ?_
    refine sh_icmp_ge (tgt := 44) (pc := 12) dX2_debtorInOrder_12 (by decide) (fun hc5 => ?_) (fun hc5 => ?_)
    · have h := h.1 hc5
      refine sh_ldc (v := (-1000004)) (pc := 44) dX2_debtorInOrder_44 kc_X2_92 ?_
      exact sh_ret_i (pc := 46) dX2_debtorInOrder_46 rfl ⟨rfl, rfl⟩ h
    · have h := h.2 hc5
      refine sh_aload_n (pc := 15) dX2_debtorInOrder_15 rfl ?_
      refine sh_gf (pc := 16) dX2_debtorInOrder_16 fl_X2_11 cf_2 hk rfl rfl ?_
      refine sh_iload_n (pc := 19) dX2_debtorInOrder_19 rfl ?_
      obtain ⟨hi6, h⟩ := h
      refine sh_aa (o' := (1, k, (v3.toNatClampNeg))) (pc := 20) dX2_debtorInOrder_20 (by decide) hk rfl hi6 rfl ?_
      refine sh_ci (N := mX1_openInAll) (pc := 21) dX2_debtorInOrder_21 ml_X2_85 h mf_X1_openInAll iv_X1_openInAll ⟨Nat.le_of_ble_eq_true rfl, Nat.le_of_ble_eq_true rfl⟩ rfl rfl (Nat.le_of_ble_eq_true rfl) ⟨hk.1, vp_lt hi6⟩ rfl (show vwCl[1]? = some (RX1, TX1, 1) from rfl) rfl (fun r8 S7 h => ?_)
      refine sh_if_le (tgt := 38) (pc := 24) dX2_debtorInOrder_24 (by decide) (fun hc9 => ?_) (fun hc9 => ?_)
      · have h := h.1 hc9
        obtain ⟨x10, hx10⟩ : ∃ y : Int32, y = v3 + 1 := ⟨_, rfl⟩
        have h := h x10 hx10
        refine sh_iinc (v := x10) (ls' := [(2, sh_I x10), (0, sh_R (2, k, 0)), (1, sh_I a1)]) (pc := 38) dX2_debtorInOrder_38 rfl hx10.symm (by decide) rfl ?_
        refine sh_goto (tgt := 9) (pc := 41) dX2_debtorInOrder_41 (by decide) ?_
        refine sh_pick [1, 2, 0] rfl ?_
        exact ih2 _ _ h.1 h.2
      · have h := h.2 hc9
        refine sh_aload_n (pc := 27) dX2_debtorInOrder_27 rfl ?_
        refine sh_iload_n (pc := 28) dX2_debtorInOrder_28 rfl ?_
        refine sh_ci (N := mX2_debtorsAheadOf) (pc := 29) dX2_debtorInOrder_29 ml_X2_89 h mf_X2_debtorsAheadOf iv_X2_debtorsAheadOf ⟨Nat.le_of_ble_eq_true rfl, Nat.le_of_ble_eq_true rfl⟩ rfl rfl (Nat.le_of_ble_eq_true rfl) hk rfl (show vwCl[2]? = some (RX2, TX2, 5) from rfl) rfl (fun r12 S11 h => ?_)
        refine sh_iload_n (pc := 32) dX2_debtorInOrder_32 rfl ?_
        refine sh_icmp_ne (tgt := 38) (pc := 33) dX2_debtorInOrder_33 (by decide) (fun hc13 => ?_) (fun hc13 => ?_)
        · have h := h.1 hc13
          obtain ⟨x14, hx14⟩ : ∃ y : Int32, y = v3 + 1 := ⟨_, rfl⟩
          have h := h x14 hx14
          refine sh_iinc (v := x14) (ls' := [(2, sh_I x14), (0, sh_R (2, k, 0)), (1, sh_I a1)]) (pc := 38) dX2_debtorInOrder_38 rfl hx14.symm (by decide) rfl ?_
          refine sh_goto (tgt := 9) (pc := 41) dX2_debtorInOrder_41 (by decide) ?_
          refine sh_pick [1, 2, 0] rfl ?_
          exact ih2 _ _ h.1 h.2
        · have h := h.2 hc13
          refine sh_iload_n (pc := 36) dX2_debtorInOrder_36 rfl ?_
          exact sh_ret_i (pc := 37) dX2_debtorInOrder_37 rfl ⟨rfl, rfl⟩ h
  · have h := h.2 hc1
    refine sh_ldc (v := (-1000001)) (pc := 4) dX2_debtorInOrder_4 kc_X2_62 ?_
    exact sh_ret_i (pc := 6) dX2_debtorInOrder_6 rfl ⟨rfl, rfl⟩ h

set_option maxRecDepth 100000 in
set_option maxHeartbeats 4000000 in
theorem wp_X2_moveToEndOfTurns {g : sh_G} {S : sh_S} {sz : Nat} {Q : sh_S → Prop} {k : Nat} (hk : sh_ok (2, k, 0)) {a1 : Int32} 
    (h : (sh_Cu g mX2_takeOutOfTurns [sh_R (2, k, 0), sh_I a1] S sz (fun S1 => (sh_Cu g mX2_putBehindTurns [sh_R (2, k, 0), sh_I a1] S1 sz (fun S2 => Q S2))))) :
    sh_Cu g mX2_moveToEndOfTurns [sh_R (2, k, 0), sh_I a1] S sz Q := by
  refine sh_enter (ls := [(0, sh_R (2, k, 0)), (1, sh_I a1)]) (by decide +kernel) (Nat.le_of_ble_eq_true rfl) rfl ?_
  refine sh_aload_n (pc := 0) dX2_moveToEndOfTurns_0 rfl ?_
  refine sh_iload_n (pc := 1) dX2_moveToEndOfTurns_1 rfl ?_
  refine sh_cu (N := mX2_takeOutOfTurns) (pc := 2) dX2_moveToEndOfTurns_2 ml_X2_64 h mf_X2_takeOutOfTurns iv_X2_takeOutOfTurns ⟨Nat.le_of_ble_eq_true rfl, Nat.le_of_ble_eq_true rfl⟩ rfl rfl (Nat.le_of_ble_eq_true rfl) hk rfl (show vwCl[2]? = some (RX2, TX2, 5) from rfl) rfl (fun S1 h => ?_)
  refine sh_aload_n (pc := 5) dX2_moveToEndOfTurns_5 rfl ?_
  refine sh_iload_n (pc := 6) dX2_moveToEndOfTurns_6 rfl ?_
  refine sh_cu (N := mX2_putBehindTurns) (pc := 7) dX2_moveToEndOfTurns_7 ml_X2_58 h mf_X2_putBehindTurns iv_X2_putBehindTurns ⟨Nat.le_of_ble_eq_true rfl, Nat.le_of_ble_eq_true rfl⟩ rfl rfl (Nat.le_of_ble_eq_true rfl) hk rfl (show vwCl[2]? = some (RX2, TX2, 5) from rfl) rfl (fun S2 h => ?_)
  exact sh_ret_u (pc := 10) dX2_moveToEndOfTurns_10 rfl ⟨rfl, rfl⟩ h

set_option maxRecDepth 100000 in
set_option maxHeartbeats 4000000 in
theorem wp_X2_placeInTurns {g : sh_G} {S : sh_S} {sz : Nat} {Q : Int32 → sh_S → Prop} {k : Nat} (hk : sh_ok (2, k, 0)) {a1 : Int32} 
    (h : (∃ (Iv1 : Int32 → Prop) (mu1 : Int32 → Nat), Iv1 0 ∧ ∀ (v2 : Int32), Iv1 v2 → ((10 ≤ v2 → Q (-1000004) S) ∧ (¬ 10 ≤ v2 → (((S (2, k, 0) 3) ≤ v2 → Q (-1000004) S) ∧ (¬ (S (2, k, 0) 3) ≤ v2 → (vp_in v2 10 ∧ ((¬ (S (11, k, 0) (v2.toNatClampNeg)) = a1 → (∀ x8 : Int32, x8 = v2 + 1 → (Iv1 x8 ∧ mu1 x8 < mu1 v2))) ∧ ((S (11, k, 0) (v2.toNatClampNeg)) = a1 → Q v2 S))))))))) :
    sh_Ci g mX2_placeInTurns [sh_R (2, k, 0), sh_I a1] S sz Q := by
  refine sh_enter (ls := [(0, sh_R (2, k, 0)), (1, sh_I a1)]) (by decide +kernel) (Nat.le_of_ble_eq_true rfl) rfl ?_
  refine sh_iconst (v := 0) (pc := 0) dX2_placeInTurns_0 rfl ?_
  refine sh_istore_n (ls' := [(2, sh_I 0), (0, sh_R (2, k, 0)), (1, sh_I a1)]) (pc := 1) dX2_placeInTurns_1 (by decide) rfl ?_
  obtain ⟨Iv1, mu1, h0, hs1⟩ := h
  refine sh_pick [1, 2, 0] rfl ?_
  refine sh_lp1 Iv1 mu1 (fun v2 => sh_V g mX2_placeInTurns 0 0 2 [(0, sh_R (2, k, 0)), (1, sh_I a1), (2, sh_I v2)] [] (sh_St S) sz (sh_ti sz Q)) (fun v2 hI1 ih1 => ?_) _ h0
  have h := hs1 v2 hI1
  clear h0
  refine sh_iload_n (pc := 2) dX2_placeInTurns_2 rfl ?_
  refine sh_bipush (v := 10) (pc := 3) dX2_placeInTurns_3 rfl ?_
  refine sh_icmp_ge (tgt := 34) (pc := 5) dX2_placeInTurns_5 (by decide) (fun hc4 => ?_) (fun hc4 => ?_)
  · have h := h.1 hc4
    refine sh_ldc (v := (-1000004)) (pc := 34) dX2_placeInTurns_34 kc_X2_92 ?_
    exact sh_ret_i (pc := 36) dX2_placeInTurns_36 rfl ⟨rfl, rfl⟩ h
  · have h := h.2 hc4
    refine sh_iload_n (pc := 8) dX2_placeInTurns_8 rfl ?_
    refine sh_aload_n (pc := 9) dX2_placeInTurns_9 rfl ?_
    refine sh_gf (pc := 10) dX2_placeInTurns_10 fl_X2_36 cf_2 hk rfl rfl ?_
    refine sh_icmp_ge (tgt := 34) (pc := 13) dX2_placeInTurns_13 (by decide) (fun hc5 => ?_) (fun hc5 => ?_)
    · have h := h.1 hc5
      refine sh_ldc (v := (-1000004)) (pc := 34) dX2_placeInTurns_34 kc_X2_92 ?_
      exact sh_ret_i (pc := 36) dX2_placeInTurns_36 rfl ⟨rfl, rfl⟩ h
    · have h := h.2 hc5
      refine sh_aload_n (pc := 16) dX2_placeInTurns_16 rfl ?_
      refine sh_gf (pc := 17) dX2_placeInTurns_17 fl_X2_17 cf_2 hk rfl rfl ?_
      refine sh_iload_n (pc := 20) dX2_placeInTurns_20 rfl ?_
      obtain ⟨hi6, h⟩ := h
      refine sh_ia (pc := 21) dX2_placeInTurns_21 hk rfl hi6 ?_
      refine sh_iload_n (pc := 22) dX2_placeInTurns_22 rfl ?_
      refine sh_icmp_ne (tgt := 28) (pc := 23) dX2_placeInTurns_23 (by decide) (fun hc7 => ?_) (fun hc7 => ?_)
      · have h := h.1 hc7
        obtain ⟨x8, hx8⟩ : ∃ y : Int32, y = v2 + 1 := ⟨_, rfl⟩
        have h := h x8 hx8
        refine sh_iinc (v := x8) (ls' := [(2, sh_I x8), (0, sh_R (2, k, 0)), (1, sh_I a1)]) (pc := 28) dX2_placeInTurns_28 rfl hx8.symm (by decide) rfl ?_
        refine sh_goto (tgt := 2) (pc := 31) dX2_placeInTurns_31 (by decide) ?_
        refine sh_pick [1, 2, 0] rfl ?_
        exact ih1 _ h.1 h.2
      · have h := h.2 hc7
        refine sh_iload_n (pc := 26) dX2_placeInTurns_26 rfl ?_
        exact sh_ret_i (pc := 27) dX2_placeInTurns_27 rfl ⟨rfl, rfl⟩ h

set_option maxRecDepth 100000 in
set_option maxHeartbeats 4000000 in
theorem wp_X2_memberInTurn {g : sh_G} {S : sh_S} {sz : Nat} {Q : Int32 → sh_S → Prop} {k : Nat} (hk : sh_ok (2, k, 0)) {a1 : Int32} 
    (h : ((0 ≤ a1 → (((S (2, k, 0) 3) ≤ a1 → Q (-1000004) S) ∧ (¬ (S (2, k, 0) 3) ≤ a1 → ((10 ≤ a1 → Q (-1000004) S) ∧ (¬ 10 ≤ a1 → (vp_in a1 10 ∧ Q (S (11, k, 0) (a1.toNatClampNeg)) S)))))) ∧ (¬ 0 ≤ a1 → Q (-1000001) S))) :
    sh_Ci g mX2_memberInTurn [sh_R (2, k, 0), sh_I a1] S sz Q := by
  refine sh_enter (ls := [(0, sh_R (2, k, 0)), (1, sh_I a1)]) (by decide +kernel) (Nat.le_of_ble_eq_true rfl) rfl ?_
  refine sh_iload_n (pc := 0) dX2_memberInTurn_0 rfl ?_
  refine sh_if_ge (tgt := 7) (pc := 1) dX2_memberInTurn_1 (by decide) (fun hc1 => ?_) (fun hc1 => ?_)
  · have h := h.1 hc1
    refine sh_iload_n (pc := 7) dX2_memberInTurn_7 rfl ?_
    refine sh_aload_n (pc := 8) dX2_memberInTurn_8 rfl ?_
    refine sh_gf (pc := 9) dX2_memberInTurn_9 fl_X2_36 cf_2 hk rfl rfl ?_
    refine sh_icmp_ge (tgt := 30) (pc := 12) dX2_memberInTurn_12 (by decide) (fun hc2 => ?_) (fun hc2 => ?_)
    · have h := h.1 hc2
      refine sh_ldc (v := (-1000004)) (pc := 30) dX2_memberInTurn_30 kc_X2_92 ?_
      exact sh_ret_i (pc := 32) dX2_memberInTurn_32 rfl ⟨rfl, rfl⟩ h
    · have h := h.2 hc2
      refine sh_iload_n (pc := 15) dX2_memberInTurn_15 rfl ?_
      refine sh_bipush (v := 10) (pc := 16) dX2_memberInTurn_16 rfl ?_
      refine sh_icmp_ge (tgt := 30) (pc := 18) dX2_memberInTurn_18 (by decide) (fun hc3 => ?_) (fun hc3 => ?_)
      · have h := h.1 hc3
        refine sh_ldc (v := (-1000004)) (pc := 30) dX2_memberInTurn_30 kc_X2_92 ?_
        exact sh_ret_i (pc := 32) dX2_memberInTurn_32 rfl ⟨rfl, rfl⟩ h
      · have h := h.2 hc3
        refine sh_aload_n (pc := 21) dX2_memberInTurn_21 rfl ?_
        refine sh_gf (pc := 22) dX2_memberInTurn_22 fl_X2_17 cf_2 hk rfl rfl ?_
        refine sh_iload_n (pc := 25) dX2_memberInTurn_25 rfl ?_
        obtain ⟨hi4, h⟩ := h
        refine sh_ia (pc := 26) dX2_memberInTurn_26 hk rfl hi4 ?_
        refine sh_goto (tgt := 32) (pc := 27) dX2_memberInTurn_27 (by decide) ?_
        exact sh_ret_i (pc := 32) dX2_memberInTurn_32 rfl ⟨rfl, rfl⟩ h
  · have h := h.2 hc1
    refine sh_ldc (v := (-1000001)) (pc := 4) dX2_memberInTurn_4 kc_X2_62 ?_
    exact sh_ret_i (pc := 6) dX2_memberInTurn_6 rfl ⟨rfl, rfl⟩ h

set_option maxRecDepth 100000 in
set_option maxHeartbeats 4000000 in
theorem wp_X2_firstThereInTurns {g : sh_G} {S : sh_S} {sz : Nat} {Q : Int32 → sh_S → Prop} {k : Nat} (hk : sh_ok (2, k, 0)) 
    (h : (∃ (Iv1 : Int32 → sh_S → Prop) (mu1 : Int32 → sh_S → Nat), Iv1 0 S ∧ ∀ (v2 : Int32) (S3 : sh_S), Iv1 v2 S3 → ((10 ≤ v2 → Q (-1) S3) ∧ (¬ 10 ≤ v2 → (((S3 (2, k, 0) 3) ≤ v2 → Q (-1) S3) ∧ (¬ (S3 (2, k, 0) 3) ≤ v2 → (vp_in v2 10 ∧ (∀ x7 : Int32, x7 = (S3 (11, k, 0) (v2.toNatClampNeg)) → (sh_Ci g mX2_has [sh_R (2, k, 0), sh_I x7] S3 sz (fun r9 S8 => ((r9 = 0 → (∀ x11 : Int32, x11 = v2 + 1 → (Iv1 x11 S8 ∧ mu1 x11 S8 < mu1 v2 S3))) ∧ (¬ r9 = 0 → (vp_in x7 10 ∧ (sh_Ci g mX1_isThere [sh_R (1, k, (x7.toNatClampNeg))] S8 sz (fun r14 S13 => ((r14 = 0 → (∀ x16 : Int32, x16 = v2 + 1 → (Iv1 x16 S13 ∧ mu1 x16 S13 < mu1 v2 S3))) ∧ (¬ r14 = 0 → Q x7 S13))))))))))))))))) :
    sh_Ci g mX2_firstThereInTurns [sh_R (2, k, 0)] S sz Q := by
  refine sh_enter (ls := [(0, sh_R (2, k, 0))]) (by decide +kernel) (Nat.le_of_ble_eq_true rfl) rfl ?_
  refine sh_iconst (v := 0) (pc := 0) dX2_firstThereInTurns_0 rfl ?_
  refine sh_istore_n (ls' := [(1, sh_I 0), (0, sh_R (2, k, 0))]) (pc := 1) dX2_firstThereInTurns_1 (by decide) rfl ?_
  obtain ⟨Iv1, mu1, h0, hs1⟩ := h
  refine sh_pick [1, 0] rfl ?_
  refine sh_lp2 Iv1 mu1 (fun v2 S3 => sh_V g mX2_firstThereInTurns 0 0 2 [(0, sh_R (2, k, 0)), (1, sh_I v2)] [] (sh_St S3) sz (sh_ti sz Q)) (fun v2 S3 hI1 ih1 => ?_) _ _ h0
  have h := hs1 v2 S3 hI1
  clear h0
  refine sh_iload_n (pc := 2) dX2_firstThereInTurns_2 rfl ?_
  refine sh_bipush (v := 10) (pc := 3) dX2_firstThereInTurns_3 rfl ?_
  refine sh_icmp_ge (tgt := 51) (pc := 5) dX2_firstThereInTurns_5 (by decide) (fun hc4 => ?_) (fun hc4 => ?_)
  · have h := h.1 hc4
    refine sh_iconst (v := (-1)) (pc := 51) dX2_firstThereInTurns_51 rfl ?_
    exact sh_ret_i (pc := 52) dX2_firstThereInTurns_52 rfl ⟨rfl, rfl⟩ h
  · have h := h.2 hc4
    refine sh_iload_n (pc := 8) dX2_firstThereInTurns_8 rfl ?_
    refine sh_aload_n (pc := 9) dX2_firstThereInTurns_9 rfl ?_
    refine sh_gf (pc := 10) dX2_firstThereInTurns_10 fl_X2_36 cf_2 hk rfl rfl ?_
    refine sh_icmp_ge (tgt := 51) (pc := 13) dX2_firstThereInTurns_13 (by decide) (fun hc5 => ?_) (fun hc5 => ?_)
    · have h := h.1 hc5
      refine sh_iconst (v := (-1)) (pc := 51) dX2_firstThereInTurns_51 rfl ?_
      exact sh_ret_i (pc := 52) dX2_firstThereInTurns_52 rfl ⟨rfl, rfl⟩ h
    · have h := h.2 hc5
      refine sh_aload_n (pc := 16) dX2_firstThereInTurns_16 rfl ?_
      refine sh_gf (pc := 17) dX2_firstThereInTurns_17 fl_X2_17 cf_2 hk rfl rfl ?_
      refine sh_iload_n (pc := 20) dX2_firstThereInTurns_20 rfl ?_
      obtain ⟨hi6, h⟩ := h
      refine sh_ia (pc := 21) dX2_firstThereInTurns_21 hk rfl hi6 ?_
      refine sh_topI (fun x7 hx7 => ?_)
      have h := h x7 hx7
      refine sh_istore_n (ls' := [(2, sh_I x7), (0, sh_R (2, k, 0)), (1, sh_I v2)]) (pc := 22) dX2_firstThereInTurns_22 (by decide) rfl ?_
      refine sh_aload_n (pc := 23) dX2_firstThereInTurns_23 rfl ?_
      refine sh_iload_n (pc := 24) dX2_firstThereInTurns_24 rfl ?_
      refine sh_ci (N := mX2_has) (pc := 25) dX2_firstThereInTurns_25 ml_X2_42 h mf_X2_has iv_X2_has ⟨Nat.le_of_ble_eq_true rfl, Nat.le_of_ble_eq_true rfl⟩ rfl rfl (Nat.le_of_ble_eq_true rfl) hk rfl (show vwCl[2]? = some (RX2, TX2, 5) from rfl) rfl (fun r9 S8 h => ?_)
      refine sh_if_eq (tgt := 45) (pc := 28) dX2_firstThereInTurns_28 (by decide) (fun hc10 => ?_) (fun hc10 => ?_)
      · have h := h.1 hc10
        obtain ⟨x11, hx11⟩ : ∃ y : Int32, y = v2 + 1 := ⟨_, rfl⟩
        have h := h x11 hx11
        refine sh_iinc (v := x11) (ls' := [(1, sh_I x11), (2, sh_I x7), (0, sh_R (2, k, 0))]) (pc := 45) dX2_firstThereInTurns_45 rfl hx11.symm (by decide) rfl ?_
        refine sh_goto (tgt := 2) (pc := 48) dX2_firstThereInTurns_48 (by decide) ?_
        refine sh_pick [2, 0] rfl ?_
        exact ih1 _ _ h.1 h.2
      · have h := h.2 hc10
        refine sh_aload_n (pc := 31) dX2_firstThereInTurns_31 rfl ?_
        refine sh_gf (pc := 32) dX2_firstThereInTurns_32 fl_X2_11 cf_2 hk rfl rfl ?_
        refine sh_iload_n (pc := 35) dX2_firstThereInTurns_35 rfl ?_
        obtain ⟨hi12, h⟩ := h
        refine sh_aa (o' := (1, k, (x7.toNatClampNeg))) (pc := 36) dX2_firstThereInTurns_36 (by decide) hk rfl hi12 rfl ?_
        refine sh_ci (N := mX1_isThere) (pc := 37) dX2_firstThereInTurns_37 ml_X2_93 h mf_X1_isThere iv_X1_isThere ⟨Nat.le_of_ble_eq_true rfl, Nat.le_of_ble_eq_true rfl⟩ rfl rfl (Nat.le_of_ble_eq_true rfl) ⟨hk.1, vp_lt hi12⟩ rfl (show vwCl[1]? = some (RX1, TX1, 1) from rfl) rfl (fun r14 S13 h => ?_)
        refine sh_if_eq (tgt := 45) (pc := 40) dX2_firstThereInTurns_40 (by decide) (fun hc15 => ?_) (fun hc15 => ?_)
        · have h := h.1 hc15
          obtain ⟨x16, hx16⟩ : ∃ y : Int32, y = v2 + 1 := ⟨_, rfl⟩
          have h := h x16 hx16
          refine sh_iinc (v := x16) (ls' := [(1, sh_I x16), (2, sh_I x7), (0, sh_R (2, k, 0))]) (pc := 45) dX2_firstThereInTurns_45 rfl hx16.symm (by decide) rfl ?_
          refine sh_goto (tgt := 2) (pc := 48) dX2_firstThereInTurns_48 (by decide) ?_
          refine sh_pick [2, 0] rfl ?_
          exact ih1 _ _ h.1 h.2
        · have h := h.2 hc15
          refine sh_iload_n (pc := 43) dX2_firstThereInTurns_43 rfl ?_
          exact sh_ret_i (pc := 44) dX2_firstThereInTurns_44 rfl ⟨rfl, rfl⟩ h

set_option maxRecDepth 100000 in
set_option maxHeartbeats 4000000 in
theorem wp_X2_swapTurns {g : sh_G} {S : sh_S} {sz : Nat} {Q : Int32 → sh_S → Prop} {k : Nat} (hk : sh_ok (2, k, 0)) {a1 : Int32} {a2 : Int32} 
    (h : (sh_Ci g mX2_has [sh_R (2, k, 0), sh_I a1] S sz (fun r2 S1 => ((r2 = 0 → Q (-1000001) S1) ∧ (¬ r2 = 0 → (sh_Ci g mX2_has [sh_R (2, k, 0), sh_I a2] S1 sz (fun r5 S4 => ((r5 = 0 → Q (-1000001) S4) ∧ (¬ r5 = 0 → ((¬ a1 = a2 → (sh_Ci g mX2_placeInTurns [sh_R (2, k, 0), sh_I a1] S4 sz (fun r9 S8 => (sh_Ci g mX2_placeInTurns [sh_R (2, k, 0), sh_I a2] S8 sz (fun r11 S10 => ((r9 < 0 → Q (-1000002) S10) ∧ (¬ r9 < 0 → ((0 ≤ r11 → (vp_in r9 10 ∧ (∀ S15 : sh_S, S15 = sh_sr S10 (11, k, 0) (upd (S10 (11, k, 0)) (r9.toNatClampNeg) a2) → (vp_in r11 10 ∧ (∀ S17 : sh_S, S17 = sh_sr S15 (11, k, 0) (upd (S15 (11, k, 0)) (r11.toNatClampNeg) a1) → Q r11 S17))))) ∧ (¬ 0 ≤ r11 → Q (-1000002) S10))))))))) ∧ (a1 = a2 → Q (-1000001) S4))))))))))) :
    sh_Ci g mX2_swapTurns [sh_R (2, k, 0), sh_I a1, sh_I a2] S sz Q := by
  refine sh_enter (ls := [(0, sh_R (2, k, 0)), (1, sh_I a1), (2, sh_I a2)]) (by decide +kernel) (Nat.le_of_ble_eq_true rfl) rfl ?_
  refine sh_aload_n (pc := 0) dX2_swapTurns_0 rfl ?_
  refine sh_iload_n (pc := 1) dX2_swapTurns_1 rfl ?_
  refine sh_ci (N := mX2_has) (pc := 2) dX2_swapTurns_2 ml_X2_42 h mf_X2_has iv_X2_has ⟨Nat.le_of_ble_eq_true rfl, Nat.le_of_ble_eq_true rfl⟩ rfl rfl (Nat.le_of_ble_eq_true rfl) hk rfl (show vwCl[2]? = some (RX2, TX2, 5) from rfl) rfl (fun r2 S1 h => ?_)
  refine sh_if_eq (tgt := 21) (pc := 5) dX2_swapTurns_5 (by decide) (fun hc3 => ?_) (fun hc3 => ?_)
  · have h := h.1 hc3
    refine sh_ldc (v := (-1000001)) (pc := 21) dX2_swapTurns_21 kc_X2_62 ?_
    exact sh_ret_i (pc := 23) dX2_swapTurns_23 rfl ⟨rfl, rfl⟩ h
  · have h := h.2 hc3
    refine sh_aload_n (pc := 8) dX2_swapTurns_8 rfl ?_
    refine sh_iload_n (pc := 9) dX2_swapTurns_9 rfl ?_
    refine sh_ci (N := mX2_has) (pc := 10) dX2_swapTurns_10 ml_X2_42 h mf_X2_has iv_X2_has ⟨Nat.le_of_ble_eq_true rfl, Nat.le_of_ble_eq_true rfl⟩ rfl rfl (Nat.le_of_ble_eq_true rfl) hk rfl (show vwCl[2]? = some (RX2, TX2, 5) from rfl) rfl (fun r5 S4 h => ?_)
    refine sh_if_eq (tgt := 21) (pc := 13) dX2_swapTurns_13 (by decide) (fun hc6 => ?_) (fun hc6 => ?_)
    · have h := h.1 hc6
      refine sh_ldc (v := (-1000001)) (pc := 21) dX2_swapTurns_21 kc_X2_62 ?_
      exact sh_ret_i (pc := 23) dX2_swapTurns_23 rfl ⟨rfl, rfl⟩ h
    · have h := h.2 hc6
      refine sh_iload_n (pc := 16) dX2_swapTurns_16 rfl ?_
      refine sh_iload_n (pc := 17) dX2_swapTurns_17 rfl ?_
      refine sh_icmp_ne (tgt := 24) (pc := 18) dX2_swapTurns_18 (by decide) (fun hc7 => ?_) (fun hc7 => ?_)
      · have h := h.1 hc7
        refine sh_aload_n (pc := 24) dX2_swapTurns_24 rfl ?_
        refine sh_iload_n (pc := 25) dX2_swapTurns_25 rfl ?_
        refine sh_ci (N := mX2_placeInTurns) (pc := 26) dX2_swapTurns_26 ml_X2_96 h mf_X2_placeInTurns iv_X2_placeInTurns ⟨Nat.le_of_ble_eq_true rfl, Nat.le_of_ble_eq_true rfl⟩ rfl rfl (Nat.le_of_ble_eq_true rfl) hk rfl (show vwCl[2]? = some (RX2, TX2, 5) from rfl) rfl (fun r9 S8 h => ?_)
        refine sh_istore_n (ls' := [(3, sh_I r9), (0, sh_R (2, k, 0)), (1, sh_I a1), (2, sh_I a2)]) (pc := 29) dX2_swapTurns_29 (by decide) rfl ?_
        refine sh_aload_n (pc := 30) dX2_swapTurns_30 rfl ?_
        refine sh_iload_n (pc := 31) dX2_swapTurns_31 rfl ?_
        refine sh_ci (N := mX2_placeInTurns) (pc := 32) dX2_swapTurns_32 ml_X2_96 h mf_X2_placeInTurns iv_X2_placeInTurns ⟨Nat.le_of_ble_eq_true rfl, Nat.le_of_ble_eq_true rfl⟩ rfl rfl (Nat.le_of_ble_eq_true rfl) hk rfl (show vwCl[2]? = some (RX2, TX2, 5) from rfl) rfl (fun r11 S10 h => ?_)
        refine sh_istore (ls' := [(4, sh_I r11), (3, sh_I r9), (0, sh_R (2, k, 0)), (1, sh_I a1), (2, sh_I a2)]) (pc := 35) dX2_swapTurns_35 (by decide) rfl ?_
        refine sh_iload_n (pc := 37) dX2_swapTurns_37 rfl ?_
        refine sh_if_lt (tgt := 46) (pc := 38) dX2_swapTurns_38 (by decide) (fun hc12 => ?_) (fun hc12 => ?_)
        · have h := h.1 hc12
          refine sh_ldc (v := (-1000002)) (pc := 46) dX2_swapTurns_46 kc_X2_63 ?_
          exact sh_ret_i (pc := 48) dX2_swapTurns_48 rfl ⟨rfl, rfl⟩ h
        · have h := h.2 hc12
          refine sh_iload (pc := 41) dX2_swapTurns_41 rfl ?_
          refine sh_if_ge (tgt := 49) (pc := 43) dX2_swapTurns_43 (by decide) (fun hc13 => ?_) (fun hc13 => ?_)
          · have h := h.1 hc13
            refine sh_aload_n (pc := 49) dX2_swapTurns_49 rfl ?_
            refine sh_gf (pc := 50) dX2_swapTurns_50 fl_X2_17 cf_2 hk rfl rfl ?_
            refine sh_iload_n (pc := 53) dX2_swapTurns_53 rfl ?_
            refine sh_iload_n (pc := 54) dX2_swapTurns_54 rfl ?_
            obtain ⟨hi14, h⟩ := h
            refine sh_is (pc := 55) dX2_swapTurns_55 hk rfl hi14 rfl ?_
            refine sh_topS (fun S15 hS15 => ?_)
            have h := h S15 hS15
            refine sh_aload_n (pc := 56) dX2_swapTurns_56 rfl ?_
            refine sh_gf (pc := 57) dX2_swapTurns_57 fl_X2_17 cf_2 hk rfl rfl ?_
            refine sh_iload (pc := 60) dX2_swapTurns_60 rfl ?_
            refine sh_iload_n (pc := 62) dX2_swapTurns_62 rfl ?_
            obtain ⟨hi16, h⟩ := h
            refine sh_is (pc := 63) dX2_swapTurns_63 hk rfl hi16 rfl ?_
            refine sh_topS (fun S17 hS17 => ?_)
            have h := h S17 hS17
            refine sh_iload (pc := 64) dX2_swapTurns_64 rfl ?_
            exact sh_ret_i (pc := 66) dX2_swapTurns_66 rfl ⟨rfl, rfl⟩ h
          · have h := h.2 hc13
            refine sh_ldc (v := (-1000002)) (pc := 46) dX2_swapTurns_46 kc_X2_63 ?_
            exact sh_ret_i (pc := 48) dX2_swapTurns_48 rfl ⟨rfl, rfl⟩ h
      · have h := h.2 hc7
        refine sh_ldc (v := (-1000001)) (pc := 21) dX2_swapTurns_21 kc_X2_62 ?_
        exact sh_ret_i (pc := 23) dX2_swapTurns_23 rfl ⟨rfl, rfl⟩ h

set_option maxRecDepth 100000 in
set_option maxHeartbeats 4000000 in
theorem wp_X2_nextForPanel {g : sh_G} {S : sh_S} {sz : Nat} {Q : Int32 → sh_S → Prop} {k : Nat} (hk : sh_ok (2, k, 0)) {a1 : Int32} {a2 : Int32} 
    (h : (∃ (Iv1 : Int32 → Int32 → Int32 → sh_S → Prop) (mu1 : Int32 → Int32 → Int32 → sh_S → Nat), Iv1 (-1) 0 0 S ∧ ∀ (v2 : Int32) (v3 : Int32) (v4 : Int32) (S5 : sh_S), Iv1 v2 v3 v4 S5 → (((S5 (2, k, 0) 2) ≤ v4 → Q v2 S5) ∧ (¬ (S5 (2, k, 0) 2) ≤ v4 → (sh_Ci g mX2_has [sh_R (2, k, 0), sh_I v4] S5 sz (fun r8 S7 => ((r8 = 0 → (∀ x10 : Int32, x10 = v4 + 1 → (Iv1 v2 v3 x10 S7 ∧ mu1 v2 v3 x10 S7 < mu1 v2 v3 v4 S5))) ∧ (¬ r8 = 0 → ((v4 = a1 → (∀ x12 : Int32, x12 = v4 + 1 → (Iv1 v2 v3 x12 S7 ∧ mu1 v2 v3 x12 S7 < mu1 v2 v3 v4 S5))) ∧ (¬ v4 = a1 → (vp_in v4 10 ∧ (sh_Ci g mX1_isThere [sh_R (1, k, (v4.toNatClampNeg))] S7 sz (fun r15 S14 => ((r15 = 0 → (∀ x17 : Int32, x17 = v4 + 1 → (Iv1 v2 v3 x17 S14 ∧ mu1 v2 v3 x17 S14 < mu1 v2 v3 v4 S5))) ∧ (¬ r15 = 0 → ((¬ ((a2 >>> (v4 &&& 31)) &&& 1) = 1 → (vp_in v4 10 ∧ (∀ x21 : Int32, x21 = (S14 (10, k, (v4.toNatClampNeg)) 11) → ((v2 = (-1) → (∀ x23 : Int32, x23 = v4 + 1 → (Iv1 v4 x21 x23 S14 ∧ mu1 v4 x21 x23 S14 < mu1 v2 v3 v4 S5))) ∧ (¬ v2 = (-1) → ((v3 ≤ x21 → (∀ x25 : Int32, x25 = v4 + 1 → (Iv1 v2 v3 x25 S14 ∧ mu1 v2 v3 x25 S14 < mu1 v2 v3 v4 S5))) ∧ (¬ v3 ≤ x21 → (∀ x26 : Int32, x26 = v4 + 1 → (Iv1 v4 x21 x26 S14 ∧ mu1 v4 x21 x26 S14 < mu1 v2 v3 v4 S5))))))))) ∧ (((a2 >>> (v4 &&& 31)) &&& 1) = 1 → (∀ x27 : Int32, x27 = v4 + 1 → (Iv1 v2 v3 x27 S14 ∧ mu1 v2 v3 x27 S14 < mu1 v2 v3 v4 S5))))))))))))))))))) :
    sh_Ci g mX2_nextForPanel [sh_R (2, k, 0), sh_I a1, sh_I a2] S sz Q := by
  refine sh_enter (ls := [(0, sh_R (2, k, 0)), (1, sh_I a1), (2, sh_I a2)]) (by decide +kernel) (Nat.le_of_ble_eq_true rfl) rfl ?_
  refine sh_iconst (v := (-1)) (pc := 0) dX2_nextForPanel_0 rfl ?_
  refine sh_istore_n (ls' := [(3, sh_I (-1)), (0, sh_R (2, k, 0)), (1, sh_I a1), (2, sh_I a2)]) (pc := 1) dX2_nextForPanel_1 (by decide) rfl ?_
  refine sh_iconst (v := 0) (pc := 2) dX2_nextForPanel_2 rfl ?_
  refine sh_istore (ls' := [(4, sh_I 0), (3, sh_I (-1)), (0, sh_R (2, k, 0)), (1, sh_I a1), (2, sh_I a2)]) (pc := 3) dX2_nextForPanel_3 (by decide) rfl ?_
  refine sh_iconst (v := 0) (pc := 5) dX2_nextForPanel_5 rfl ?_
  refine sh_istore (ls' := [(5, sh_I 0), (4, sh_I 0), (3, sh_I (-1)), (0, sh_R (2, k, 0)), (1, sh_I a1), (2, sh_I a2)]) (pc := 6) dX2_nextForPanel_6 (by decide) rfl ?_
  obtain ⟨Iv1, mu1, h0, hs1⟩ := h
  refine sh_pick [3, 4, 5, 2, 1, 0] rfl ?_
  refine sh_lp4 Iv1 mu1 (fun v2 v3 v4 S5 => sh_V g mX2_nextForPanel 0 0 8 [(0, sh_R (2, k, 0)), (1, sh_I a1), (2, sh_I a2), (3, sh_I v2), (4, sh_I v3), (5, sh_I v4)] [] (sh_St S5) sz (sh_ti sz Q)) (fun v2 v3 v4 S5 hI1 ih1 => ?_) _ _ _ _ h0
  have h := hs1 v2 v3 v4 S5 hI1
  clear h0
  refine sh_iload (pc := 8) dX2_nextForPanel_8 rfl ?_
  refine sh_aload_n (pc := 10) dX2_nextForPanel_10 rfl ?_
  refine sh_gf (pc := 11) dX2_nextForPanel_11 fl_X2_32 cf_2 hk rfl rfl ?_
  refine sh_icmp_ge (tgt := 98) (pc := 14) dX2_nextForPanel_14 (by decide) (fun hc6 => ?_) (fun hc6 => ?_)
  · have h := h.1 hc6
    refine sh_iload_n (pc := 98) dX2_nextForPanel_98 rfl ?_
    exact sh_ret_i (pc := 99) dX2_nextForPanel_99 rfl ⟨rfl, rfl⟩ h
  · have h := h.2 hc6
    refine sh_aload_n (pc := 17) dX2_nextForPanel_17 rfl ?_
    refine sh_iload (pc := 18) dX2_nextForPanel_18 rfl ?_
    refine sh_ci (N := mX2_has) (pc := 20) dX2_nextForPanel_20 ml_X2_42 h mf_X2_has iv_X2_has ⟨Nat.le_of_ble_eq_true rfl, Nat.le_of_ble_eq_true rfl⟩ rfl rfl (Nat.le_of_ble_eq_true rfl) hk rfl (show vwCl[2]? = some (RX2, TX2, 5) from rfl) rfl (fun r8 S7 h => ?_)
    refine sh_if_eq (tgt := 92) (pc := 23) dX2_nextForPanel_23 (by decide) (fun hc9 => ?_) (fun hc9 => ?_)
    · have h := h.1 hc9
      obtain ⟨x10, hx10⟩ : ∃ y : Int32, y = v4 + 1 := ⟨_, rfl⟩
      have h := h x10 hx10
      refine sh_iinc (v := x10) (ls' := [(5, sh_I x10), (0, sh_R (2, k, 0)), (1, sh_I a1), (2, sh_I a2), (3, sh_I v2), (4, sh_I v3)]) (pc := 92) dX2_nextForPanel_92 rfl hx10.symm (by decide) rfl ?_
      refine sh_goto (tgt := 8) (pc := 95) dX2_nextForPanel_95 (by decide) ?_
      refine sh_pick [1, 2, 3, 4, 5, 0] rfl ?_
      exact ih1 _ _ _ _ h.1 h.2
    · have h := h.2 hc9
      refine sh_iload (pc := 26) dX2_nextForPanel_26 rfl ?_
      refine sh_iload_n (pc := 28) dX2_nextForPanel_28 rfl ?_
      refine sh_icmp_eq (tgt := 92) (pc := 29) dX2_nextForPanel_29 (by decide) (fun hc11 => ?_) (fun hc11 => ?_)
      · have h := h.1 hc11
        obtain ⟨x12, hx12⟩ : ∃ y : Int32, y = v4 + 1 := ⟨_, rfl⟩
        have h := h x12 hx12
        refine sh_iinc (v := x12) (ls' := [(5, sh_I x12), (0, sh_R (2, k, 0)), (1, sh_I a1), (2, sh_I a2), (3, sh_I v2), (4, sh_I v3)]) (pc := 92) dX2_nextForPanel_92 rfl hx12.symm (by decide) rfl ?_
        refine sh_goto (tgt := 8) (pc := 95) dX2_nextForPanel_95 (by decide) ?_
        refine sh_pick [1, 2, 3, 4, 5, 0] rfl ?_
        exact ih1 _ _ _ _ h.1 h.2
      · have h := h.2 hc11
        refine sh_aload_n (pc := 32) dX2_nextForPanel_32 rfl ?_
        refine sh_gf (pc := 33) dX2_nextForPanel_33 fl_X2_11 cf_2 hk rfl rfl ?_
        refine sh_iload (pc := 36) dX2_nextForPanel_36 rfl ?_
        obtain ⟨hi13, h⟩ := h
        refine sh_aa (o' := (1, k, (v4.toNatClampNeg))) (pc := 38) dX2_nextForPanel_38 (by decide) hk rfl hi13 rfl ?_
        refine sh_ci (N := mX1_isThere) (pc := 39) dX2_nextForPanel_39 ml_X2_93 h mf_X1_isThere iv_X1_isThere ⟨Nat.le_of_ble_eq_true rfl, Nat.le_of_ble_eq_true rfl⟩ rfl rfl (Nat.le_of_ble_eq_true rfl) ⟨hk.1, vp_lt hi13⟩ rfl (show vwCl[1]? = some (RX1, TX1, 1) from rfl) rfl (fun r15 S14 h => ?_)
        refine sh_if_eq (tgt := 92) (pc := 42) dX2_nextForPanel_42 (by decide) (fun hc16 => ?_) (fun hc16 => ?_)
        · have h := h.1 hc16
          obtain ⟨x17, hx17⟩ : ∃ y : Int32, y = v4 + 1 := ⟨_, rfl⟩
          have h := h x17 hx17
          refine sh_iinc (v := x17) (ls' := [(5, sh_I x17), (0, sh_R (2, k, 0)), (1, sh_I a1), (2, sh_I a2), (3, sh_I v2), (4, sh_I v3)]) (pc := 92) dX2_nextForPanel_92 rfl hx17.symm (by decide) rfl ?_
          refine sh_goto (tgt := 8) (pc := 95) dX2_nextForPanel_95 (by decide) ?_
          refine sh_pick [1, 2, 3, 4, 5, 0] rfl ?_
          exact ih1 _ _ _ _ h.1 h.2
        · have h := h.2 hc16
          refine sh_iload_n (pc := 45) dX2_nextForPanel_45 rfl ?_
          refine sh_iload (pc := 46) dX2_nextForPanel_46 rfl ?_
          refine sh_ishr (pc := 48) dX2_nextForPanel_48 ?_
          refine sh_iconst (v := 1) (pc := 49) dX2_nextForPanel_49 rfl ?_
          refine sh_iand (pc := 50) dX2_nextForPanel_50 ?_
          refine sh_iconst (v := 1) (pc := 51) dX2_nextForPanel_51 rfl ?_
          refine sh_icmp_ne (tgt := 58) (pc := 52) dX2_nextForPanel_52 (by decide) (fun hc18 => ?_) (fun hc18 => ?_)
          · have h := h.1 hc18
            refine sh_aload_n (pc := 58) dX2_nextForPanel_58 rfl ?_
            refine sh_gf (pc := 59) dX2_nextForPanel_59 fl_X2_11 cf_2 hk rfl rfl ?_
            refine sh_iload (pc := 62) dX2_nextForPanel_62 rfl ?_
            obtain ⟨hi19, h⟩ := h
            refine sh_aa (o' := (1, k, (v4.toNatClampNeg))) (pc := 64) dX2_nextForPanel_64 (by decide) hk rfl hi19 rfl ?_
            refine sh_gf (pc := 65) dX2_nextForPanel_65 fl_X2_54 cf_1 ⟨hk.1, vp_lt hi19⟩ rfl rfl ?_
            refine sh_bipush (v := 11) (pc := 68) dX2_nextForPanel_68 rfl ?_
            refine sh_ia (pc := 70) dX2_nextForPanel_70 ⟨hk.1, vp_lt hi19⟩ rfl (vp_in_iff.mpr ⟨by decide, by decide⟩) ?_
            refine sh_topI (fun x21 hx21 => ?_)
            have h := h x21 hx21
            refine sh_istore (ls' := [(6, sh_I x21), (0, sh_R (2, k, 0)), (1, sh_I a1), (2, sh_I a2), (3, sh_I v2), (4, sh_I v3), (5, sh_I v4)]) (pc := 71) dX2_nextForPanel_71 (by decide) rfl ?_
            refine sh_iload_n (pc := 73) dX2_nextForPanel_73 rfl ?_
            refine sh_iconst (v := (-1)) (pc := 74) dX2_nextForPanel_74 rfl ?_
            refine sh_icmp_eq (tgt := 85) (pc := 75) dX2_nextForPanel_75 (by decide) (fun hc22 => ?_) (fun hc22 => ?_)
            · have h := h.1 hc22
              refine sh_iload (pc := 85) dX2_nextForPanel_85 rfl ?_
              refine sh_istore_n (ls' := [(3, sh_I v4), (6, sh_I x21), (0, sh_R (2, k, 0)), (1, sh_I a1), (2, sh_I a2), (4, sh_I v3), (5, sh_I v4)]) (pc := 87) dX2_nextForPanel_87 (by decide) rfl ?_
              refine sh_iload (pc := 88) dX2_nextForPanel_88 rfl ?_
              refine sh_istore (ls' := [(4, sh_I x21), (3, sh_I v4), (6, sh_I x21), (0, sh_R (2, k, 0)), (1, sh_I a1), (2, sh_I a2), (5, sh_I v4)]) (pc := 90) dX2_nextForPanel_90 (by decide) rfl ?_
              obtain ⟨x23, hx23⟩ : ∃ y : Int32, y = v4 + 1 := ⟨_, rfl⟩
              have h := h x23 hx23
              refine sh_iinc (v := x23) (ls' := [(5, sh_I x23), (4, sh_I x21), (3, sh_I v4), (6, sh_I x21), (0, sh_R (2, k, 0)), (1, sh_I a1), (2, sh_I a2)]) (pc := 92) dX2_nextForPanel_92 rfl hx23.symm (by decide) rfl ?_
              refine sh_goto (tgt := 8) (pc := 95) dX2_nextForPanel_95 (by decide) ?_
              refine sh_pick [4, 5, 6, 2, 1, 0] rfl ?_
              exact ih1 _ _ _ _ h.1 h.2
            · have h := h.2 hc22
              refine sh_iload (pc := 78) dX2_nextForPanel_78 rfl ?_
              refine sh_iload (pc := 80) dX2_nextForPanel_80 rfl ?_
              refine sh_icmp_ge (tgt := 92) (pc := 82) dX2_nextForPanel_82 (by decide) (fun hc24 => ?_) (fun hc24 => ?_)
              · have h := h.1 hc24
                obtain ⟨x25, hx25⟩ : ∃ y : Int32, y = v4 + 1 := ⟨_, rfl⟩
                have h := h x25 hx25
                refine sh_iinc (v := x25) (ls' := [(5, sh_I x25), (6, sh_I x21), (0, sh_R (2, k, 0)), (1, sh_I a1), (2, sh_I a2), (3, sh_I v2), (4, sh_I v3)]) (pc := 92) dX2_nextForPanel_92 rfl hx25.symm (by decide) rfl ?_
                refine sh_goto (tgt := 8) (pc := 95) dX2_nextForPanel_95 (by decide) ?_
                refine sh_pick [2, 3, 4, 5, 6, 0] rfl ?_
                exact ih1 _ _ _ _ h.1 h.2
              · have h := h.2 hc24
                refine sh_iload (pc := 85) dX2_nextForPanel_85 rfl ?_
                refine sh_istore_n (ls' := [(3, sh_I v4), (6, sh_I x21), (0, sh_R (2, k, 0)), (1, sh_I a1), (2, sh_I a2), (4, sh_I v3), (5, sh_I v4)]) (pc := 87) dX2_nextForPanel_87 (by decide) rfl ?_
                refine sh_iload (pc := 88) dX2_nextForPanel_88 rfl ?_
                refine sh_istore (ls' := [(4, sh_I x21), (3, sh_I v4), (6, sh_I x21), (0, sh_R (2, k, 0)), (1, sh_I a1), (2, sh_I a2), (5, sh_I v4)]) (pc := 90) dX2_nextForPanel_90 (by decide) rfl ?_
                obtain ⟨x26, hx26⟩ : ∃ y : Int32, y = v4 + 1 := ⟨_, rfl⟩
                have h := h x26 hx26
                refine sh_iinc (v := x26) (ls' := [(5, sh_I x26), (4, sh_I x21), (3, sh_I v4), (6, sh_I x21), (0, sh_R (2, k, 0)), (1, sh_I a1), (2, sh_I a2)]) (pc := 92) dX2_nextForPanel_92 rfl hx26.symm (by decide) rfl ?_
                refine sh_goto (tgt := 8) (pc := 95) dX2_nextForPanel_95 (by decide) ?_
                refine sh_pick [4, 5, 6, 2, 1, 0] rfl ?_
                exact ih1 _ _ _ _ h.1 h.2
          · have h := h.2 hc18
            refine sh_goto (tgt := 92) (pc := 55) dX2_nextForPanel_55 (by decide) ?_
            obtain ⟨x27, hx27⟩ : ∃ y : Int32, y = v4 + 1 := ⟨_, rfl⟩
            have h := h x27 hx27
            refine sh_iinc (v := x27) (ls' := [(5, sh_I x27), (0, sh_R (2, k, 0)), (1, sh_I a1), (2, sh_I a2), (3, sh_I v2), (4, sh_I v3)]) (pc := 92) dX2_nextForPanel_92 rfl hx27.symm (by decide) rfl ?_
            refine sh_goto (tgt := 8) (pc := 95) dX2_nextForPanel_95 (by decide) ?_
            refine sh_pick [1, 2, 3, 4, 5, 0] rfl ?_
            exact ih1 _ _ _ _ h.1 h.2

set_option maxRecDepth 100000 in
set_option maxHeartbeats 4000000 in
theorem wp_X4_begin {g : sh_G} {S : sh_S} {sz : Nat} {Q : sh_S → Prop} {k i : Nat} (hk : sh_ok (4, k, i)) 
    (h : (∀ S1 : sh_S, S1 = sh_sr S (4, k, i) (upd (S (4, k, i)) 2 0) → Q S1)) :
    sh_Cu g mX4_begin [sh_R (4, k, i)] S sz Q := by
  refine sh_enter (ls := [(0, sh_R (4, k, i))]) (by decide +kernel) (Nat.le_of_ble_eq_true rfl) rfl ?_
  refine sh_aload_n (pc := 0) dX4_begin_0 rfl ?_
  refine sh_iconst (v := 0) (pc := 1) dX4_begin_1 rfl ?_
  refine sh_pfi (pc := 2) dX4_begin_2 fl_X4_24 cf_4 ft_4_2 hk rfl (Nat.le_of_ble_eq_true rfl) rfl ?_
  refine sh_topS (fun S1 hS1 => ?_)
  have h := h S1 hS1
  exact sh_ret_u (pc := 5) dX4_begin_5 rfl ⟨rfl, rfl⟩ h

set_option maxRecDepth 100000 in
set_option maxHeartbeats 4000000 in
theorem wp_X4_seat {g : sh_G} {S : sh_S} {sz : Nat} {Q : sh_S → Prop} {k i : Nat} (hk : sh_ok (4, k, i)) {a1 : Int32} 
    (h : (((S (4, k, i) 2) < 0 → Q S) ∧ (¬ (S (4, k, i) 2) < 0 → ((3 ≤ (S (4, k, i) 2) → Q S) ∧ (¬ 3 ≤ (S (4, k, i) 2) → (vp_in (S (4, k, i) 2) 3 ∧ (∀ S4 : sh_S, S4 = sh_sr S (13, k, i) (upd (S (13, k, i)) ((S (4, k, i) 2).toNatClampNeg) a1) → (vp_in (S4 (4, k, i) 2) 3 ∧ (∀ S6 : sh_S, S6 = sh_sr S4 (14, k, i) (upd (S4 (14, k, i)) ((S4 (4, k, i) 2).toNatClampNeg) (-1)) → (∀ S7 : sh_S, S7 = sh_sr S6 (4, k, i) (upd (S6 (4, k, i)) 2 (((S6 (4, k, i) 2) + 1))) → Q S7)))))))))) :
    sh_Cu g mX4_seat [sh_R (4, k, i), sh_I a1] S sz Q := by
  refine sh_enter (ls := [(0, sh_R (4, k, i)), (1, sh_I a1)]) (by decide +kernel) (Nat.le_of_ble_eq_true rfl) rfl ?_
  refine sh_aload_n (pc := 0) dX4_seat_0 rfl ?_
  refine sh_gf (pc := 1) dX4_seat_1 fl_X4_24 cf_4 hk rfl rfl ?_
  refine sh_if_lt (tgt := 45) (pc := 4) dX4_seat_4 (by decide) (fun hc1 => ?_) (fun hc1 => ?_)
  · have h := h.1 hc1
    exact sh_ret_u (pc := 45) dX4_seat_45 rfl ⟨rfl, rfl⟩ h
  · have h := h.2 hc1
    refine sh_aload_n (pc := 7) dX4_seat_7 rfl ?_
    refine sh_gf (pc := 8) dX4_seat_8 fl_X4_24 cf_4 hk rfl rfl ?_
    refine sh_iconst (v := 3) (pc := 11) dX4_seat_11 rfl ?_
    refine sh_icmp_ge (tgt := 45) (pc := 12) dX4_seat_12 (by decide) (fun hc2 => ?_) (fun hc2 => ?_)
    · have h := h.1 hc2
      exact sh_ret_u (pc := 45) dX4_seat_45 rfl ⟨rfl, rfl⟩ h
    · have h := h.2 hc2
      refine sh_aload_n (pc := 15) dX4_seat_15 rfl ?_
      refine sh_gf (pc := 16) dX4_seat_16 fl_X4_9 cf_4 hk rfl rfl ?_
      refine sh_aload_n (pc := 19) dX4_seat_19 rfl ?_
      refine sh_gf (pc := 20) dX4_seat_20 fl_X4_24 cf_4 hk rfl rfl ?_
      refine sh_iload_n (pc := 23) dX4_seat_23 rfl ?_
      obtain ⟨hi3, h⟩ := h
      refine sh_is (pc := 24) dX4_seat_24 hk rfl hi3 rfl ?_
      refine sh_topS (fun S4 hS4 => ?_)
      have h := h S4 hS4
      refine sh_aload_n (pc := 25) dX4_seat_25 rfl ?_
      refine sh_gf (pc := 26) dX4_seat_26 fl_X4_15 cf_4 hk rfl rfl ?_
      refine sh_aload_n (pc := 29) dX4_seat_29 rfl ?_
      refine sh_gf (pc := 30) dX4_seat_30 fl_X4_24 cf_4 hk rfl rfl ?_
      refine sh_iconst (v := (-1)) (pc := 33) dX4_seat_33 rfl ?_
      obtain ⟨hi5, h⟩ := h
      refine sh_is (pc := 34) dX4_seat_34 hk rfl hi5 rfl ?_
      refine sh_topS (fun S6 hS6 => ?_)
      have h := h S6 hS6
      refine sh_aload_n (pc := 35) dX4_seat_35 rfl ?_
      refine sh_dup (pc := 36) dX4_seat_36 rfl ?_
      refine sh_gf (pc := 37) dX4_seat_37 fl_X4_24 cf_4 hk rfl rfl ?_
      refine sh_iconst (v := 1) (pc := 40) dX4_seat_40 rfl ?_
      refine sh_iadd (pc := 41) dX4_seat_41 ?_
      refine sh_pfi (pc := 42) dX4_seat_42 fl_X4_24 cf_4 ft_4_2 hk rfl (Nat.le_of_ble_eq_true rfl) rfl ?_
      refine sh_topS (fun S7 hS7 => ?_)
      have h := h S7 hS7
      exact sh_ret_u (pc := 45) dX4_seat_45 rfl ⟨rfl, rfl⟩ h

set_option maxRecDepth 100000 in
set_option maxHeartbeats 4000000 in
theorem wp_X2_callPanel {g : sh_G} {S : sh_S} {sz : Nat} {Q : Int32 → sh_S → Prop} {k : Nat} (hk : sh_ok (2, k, 0)) {a1 : Int32} {k2 i2 : Nat} (hk2 : sh_ok (4, k2, i2)) 
    (h : (∃ (Iv1 : Int32 → Int32 → sh_S → Prop) (mu1 : Int32 → Int32 → sh_S → Nat), Iv1 0 0 S ∧ ∀ (v2 : Int32) (v3 : Int32) (S4 : sh_S), Iv1 v2 v3 S4 → ((3 ≤ v3 → (sh_Cu g mX4_begin [sh_R (4, k2, i2)] S4 sz (fun S6 => (∃ (Iv7 : Int32 → sh_S → Prop) (mu7 : Int32 → sh_S → Nat), Iv7 0 S6 ∧ ∀ (v8 : Int32) (S9 : sh_S), Iv7 v8 S9 → ((10 ≤ v8 → Q 1 S9) ∧ (¬ 10 ≤ v8 → ((¬ ((v2 >>> (v8 &&& 31)) &&& 1) = 1 → (∀ x12 : Int32, x12 = v8 + 1 → (Iv7 x12 S9 ∧ mu7 x12 S9 < mu7 v8 S9))) ∧ (((v2 >>> (v8 &&& 31)) &&& 1) = 1 → (vp_in v8 10 ∧ (∀ S16 : sh_S, S16 = sh_sr S9 (10, k, (v8.toNatClampNeg)) (upd (S9 (10, k, (v8.toNatClampNeg))) 11 ((S9 (10, k, (v8.toNatClampNeg)) 11) + 1)) → (sh_Cu g mX4_seat [sh_R (4, k2, i2), sh_I v8] S16 sz (fun S17 => (∀ x18 : Int32, x18 = v8 + 1 → (Iv7 x18 S17 ∧ mu7 x18 S17 < mu7 v8 S9)))))))))))))) ∧ (¬ 3 ≤ v3 → (sh_Ci g mX2_nextForPanel [sh_R (2, k, 0), sh_I a1, sh_I v2] S4 sz (fun r20 S19 => ((¬ r20 = (-1) → (∀ x22 : Int32, x22 = (v2 ||| (1 <<< (r20 &&& 31))) → (∀ x23 : Int32, x23 = v3 + 1 → (Iv1 x22 x23 S19 ∧ mu1 x22 x23 S19 < mu1 v2 v3 S4)))) ∧ (r20 = (-1) → Q 0 S19)))))))) :
    sh_Ci g mX2_callPanel [sh_R (2, k, 0), sh_I a1, sh_R (4, k2, i2)] S sz Q := by
  refine sh_enter (ls := [(0, sh_R (2, k, 0)), (1, sh_I a1), (2, sh_R (4, k2, i2))]) (by decide +kernel) (Nat.le_of_ble_eq_true rfl) rfl ?_
  refine sh_iconst (v := 0) (pc := 0) dX2_callPanel_0 rfl ?_
  refine sh_istore_n (ls' := [(3, sh_I 0), (0, sh_R (2, k, 0)), (1, sh_I a1), (2, sh_R (4, k2, i2))]) (pc := 1) dX2_callPanel_1 (by decide) rfl ?_
  refine sh_iconst (v := 0) (pc := 2) dX2_callPanel_2 rfl ?_
  refine sh_istore (ls' := [(4, sh_I 0), (3, sh_I 0), (0, sh_R (2, k, 0)), (1, sh_I a1), (2, sh_R (4, k2, i2))]) (pc := 3) dX2_callPanel_3 (by decide) rfl ?_
  obtain ⟨Iv1, mu1, h0, hs1⟩ := h
  refine sh_pick [2, 3, 4, 1, 0] rfl ?_
  refine sh_lp3 Iv1 mu1 (fun v2 v3 S4 => sh_V g mX2_callPanel 0 0 5 [(0, sh_R (2, k, 0)), (1, sh_I a1), (2, sh_R (4, k2, i2)), (3, sh_I v2), (4, sh_I v3)] [] (sh_St S4) sz (sh_ti sz Q)) (fun v2 v3 S4 hI1 ih1 => ?_) _ _ _ h0
  have h := hs1 v2 v3 S4 hI1
  clear h0
  refine sh_iload (pc := 5) dX2_callPanel_5 rfl ?_
  refine sh_iconst (v := 3) (pc := 7) dX2_callPanel_7 rfl ?_
  refine sh_icmp_ge (tgt := 40) (pc := 8) dX2_callPanel_8 (by decide) (fun hc5 => ?_) (fun hc5 => ?_)
  · have h := h.1 hc5
    refine sh_aload_n (pc := 40) dX2_callPanel_40 rfl ?_
    refine sh_cu (N := mX4_begin) (pc := 41) dX2_callPanel_41 ml_X2_103 h mf_X4_begin iv_X4_begin ⟨Nat.le_of_ble_eq_true rfl, Nat.le_of_ble_eq_true rfl⟩ rfl rfl (Nat.le_of_ble_eq_true rfl) hk2 rfl (show vwCl[4]? = some (RX4, TX4, 3) from rfl) rfl (fun S6 h => ?_)
    refine sh_iconst (v := 0) (pc := 44) dX2_callPanel_44 rfl ?_
    refine sh_istore (ls' := [(4, sh_I 0), (0, sh_R (2, k, 0)), (1, sh_I a1), (2, sh_R (4, k2, i2)), (3, sh_I v2)]) (pc := 45) dX2_callPanel_45 (by decide) rfl ?_
    obtain ⟨Iv7, mu7, h0, hs7⟩ := h
    refine sh_pick [1, 2, 3, 4, 0] rfl ?_
    refine sh_lp2 Iv7 mu7 (fun v8 S9 => sh_V g mX2_callPanel 0 0 47 [(0, sh_R (2, k, 0)), (1, sh_I a1), (2, sh_R (4, k2, i2)), (3, sh_I v2), (4, sh_I v8)] [] (sh_St S9) sz (sh_ti sz Q)) (fun v8 S9 hI7 ih7 => ?_) _ _ h0
    have h := hs7 v8 S9 hI7
    clear h0
    refine sh_iload (pc := 47) dX2_callPanel_47 rfl ?_
    refine sh_bipush (v := 10) (pc := 49) dX2_callPanel_49 rfl ?_
    refine sh_icmp_ge (tgt := 93) (pc := 51) dX2_callPanel_51 (by decide) (fun hc10 => ?_) (fun hc10 => ?_)
    · have h := h.1 hc10
      refine sh_iconst (v := 1) (pc := 93) dX2_callPanel_93 rfl ?_
      exact sh_ret_z (pc := 94) dX2_callPanel_94 rfl rfl ⟨rfl, rfl⟩ h
    · have h := h.2 hc10
      refine sh_iload_n (pc := 54) dX2_callPanel_54 rfl ?_
      refine sh_iload (pc := 55) dX2_callPanel_55 rfl ?_
      refine sh_ishr (pc := 57) dX2_callPanel_57 ?_
      refine sh_iconst (v := 1) (pc := 58) dX2_callPanel_58 rfl ?_
      refine sh_iand (pc := 59) dX2_callPanel_59 ?_
      refine sh_iconst (v := 1) (pc := 60) dX2_callPanel_60 rfl ?_
      refine sh_icmp_ne (tgt := 87) (pc := 61) dX2_callPanel_61 (by decide) (fun hc11 => ?_) (fun hc11 => ?_)
      · have h := h.1 hc11
        obtain ⟨x12, hx12⟩ : ∃ y : Int32, y = v8 + 1 := ⟨_, rfl⟩
        have h := h x12 hx12
        refine sh_iinc (v := x12) (ls' := [(4, sh_I x12), (0, sh_R (2, k, 0)), (1, sh_I a1), (2, sh_R (4, k2, i2)), (3, sh_I v2)]) (pc := 87) dX2_callPanel_87 rfl hx12.symm (by decide) rfl ?_
        refine sh_goto (tgt := 47) (pc := 90) dX2_callPanel_90 (by decide) ?_
        refine sh_pick [1, 2, 3, 4, 0] rfl ?_
        exact ih7 _ _ h.1 h.2
      · have h := h.2 hc11
        refine sh_aload_n (pc := 64) dX2_callPanel_64 rfl ?_
        refine sh_gf (pc := 65) dX2_callPanel_65 fl_X2_11 cf_2 hk rfl rfl ?_
        refine sh_iload (pc := 68) dX2_callPanel_68 rfl ?_
        obtain ⟨hi13, h⟩ := h
        refine sh_aa (o' := (1, k, (v8.toNatClampNeg))) (pc := 70) dX2_callPanel_70 (by decide) hk rfl hi13 rfl ?_
        refine sh_gf (pc := 71) dX2_callPanel_71 fl_X2_54 cf_1 ⟨hk.1, vp_lt hi13⟩ rfl rfl ?_
        refine sh_bipush (v := 11) (pc := 74) dX2_callPanel_74 rfl ?_
        refine sh_dup2 (pc := 76) dX2_callPanel_76 rfl rfl ?_
        refine sh_ia (pc := 77) dX2_callPanel_77 ⟨hk.1, vp_lt hi13⟩ rfl (vp_in_iff.mpr ⟨by decide, by decide⟩) ?_
        refine sh_iconst (v := 1) (pc := 78) dX2_callPanel_78 rfl ?_
        refine sh_iadd (pc := 79) dX2_callPanel_79 ?_
        refine sh_is (pc := 80) dX2_callPanel_80 ⟨hk.1, vp_lt hi13⟩ rfl (vp_in_iff.mpr ⟨by decide, by decide⟩) rfl ?_
        refine sh_topS (fun S16 hS16 => ?_)
        have h := h S16 hS16
        refine sh_aload_n (pc := 81) dX2_callPanel_81 rfl ?_
        refine sh_iload (pc := 82) dX2_callPanel_82 rfl ?_
        refine sh_cu (N := mX4_seat) (pc := 84) dX2_callPanel_84 ml_X2_108 h mf_X4_seat iv_X4_seat ⟨Nat.le_of_ble_eq_true rfl, Nat.le_of_ble_eq_true rfl⟩ rfl rfl (Nat.le_of_ble_eq_true rfl) hk2 rfl (show vwCl[4]? = some (RX4, TX4, 3) from rfl) rfl (fun S17 h => ?_)
        obtain ⟨x18, hx18⟩ : ∃ y : Int32, y = v8 + 1 := ⟨_, rfl⟩
        have h := h x18 hx18
        refine sh_iinc (v := x18) (ls' := [(4, sh_I x18), (0, sh_R (2, k, 0)), (1, sh_I a1), (2, sh_R (4, k2, i2)), (3, sh_I v2)]) (pc := 87) dX2_callPanel_87 rfl hx18.symm (by decide) rfl ?_
        refine sh_goto (tgt := 47) (pc := 90) dX2_callPanel_90 (by decide) ?_
        refine sh_pick [1, 2, 3, 4, 0] rfl ?_
        exact ih7 _ _ h.1 h.2
  · have h := h.2 hc5
    refine sh_aload_n (pc := 11) dX2_callPanel_11 rfl ?_
    refine sh_iload_n (pc := 12) dX2_callPanel_12 rfl ?_
    refine sh_iload_n (pc := 13) dX2_callPanel_13 rfl ?_
    refine sh_ci (N := mX2_nextForPanel) (pc := 14) dX2_callPanel_14 ml_X2_99 h mf_X2_nextForPanel iv_X2_nextForPanel ⟨Nat.le_of_ble_eq_true rfl, Nat.le_of_ble_eq_true rfl⟩ rfl rfl (Nat.le_of_ble_eq_true rfl) hk rfl (show vwCl[2]? = some (RX2, TX2, 5) from rfl) rfl (fun r20 S19 h => ?_)
    refine sh_istore (ls' := [(5, sh_I r20), (0, sh_R (2, k, 0)), (1, sh_I a1), (2, sh_R (4, k2, i2)), (3, sh_I v2), (4, sh_I v3)]) (pc := 17) dX2_callPanel_17 (by decide) rfl ?_
    refine sh_iload (pc := 19) dX2_callPanel_19 rfl ?_
    refine sh_iconst (v := (-1)) (pc := 21) dX2_callPanel_21 rfl ?_
    refine sh_icmp_ne (tgt := 27) (pc := 22) dX2_callPanel_22 (by decide) (fun hc21 => ?_) (fun hc21 => ?_)
    · have h := h.1 hc21
      refine sh_iload_n (pc := 27) dX2_callPanel_27 rfl ?_
      refine sh_iconst (v := 1) (pc := 28) dX2_callPanel_28 rfl ?_
      refine sh_iload (pc := 29) dX2_callPanel_29 rfl ?_
      refine sh_ishl (pc := 31) dX2_callPanel_31 ?_
      refine sh_ior (pc := 32) dX2_callPanel_32 ?_
      refine sh_topI (fun x22 hx22 => ?_)
      have h := h x22 hx22
      refine sh_istore_n (ls' := [(3, sh_I x22), (5, sh_I r20), (0, sh_R (2, k, 0)), (1, sh_I a1), (2, sh_R (4, k2, i2)), (4, sh_I v3)]) (pc := 33) dX2_callPanel_33 (by decide) rfl ?_
      obtain ⟨x23, hx23⟩ : ∃ y : Int32, y = v3 + 1 := ⟨_, rfl⟩
      have h := h x23 hx23
      refine sh_iinc (v := x23) (ls' := [(4, sh_I x23), (3, sh_I x22), (5, sh_I r20), (0, sh_R (2, k, 0)), (1, sh_I a1), (2, sh_R (4, k2, i2))]) (pc := 34) dX2_callPanel_34 rfl hx23.symm (by decide) rfl ?_
      refine sh_goto (tgt := 5) (pc := 37) dX2_callPanel_37 (by decide) ?_
      refine sh_pick [3, 4, 5, 1, 0] rfl ?_
      exact ih1 _ _ _ h.1 h.2
    · have h := h.2 hc21
      refine sh_iconst (v := 0) (pc := 25) dX2_callPanel_25 rfl ?_
      exact sh_ret_z (pc := 26) dX2_callPanel_26 rfl rfl ⟨rfl, rfl⟩ h

set_option maxRecDepth 100000 in
set_option maxHeartbeats 4000000 in
theorem wp_X3_append {g : sh_G} {S : sh_S} {sz : Nat} {Q : Int32 → sh_S → Prop} {a1 : Int32} 
    (h : ((a1 < 32 → Q (-1000001) S) ∧ (¬ a1 < 32 → ((a1 ≤ 126 → (((S (3, 0, 0) 1) < 0 → Q (-1000003) S) ∧ (¬ (S (3, 0, 0) 1) < 0 → (((S (3, 0, 0) 1) < 60 → (vp_in (S (3, 0, 0) 1) 60 ∧ (vp_nar .char ((a1.toUInt32 % 65536).toInt32) = ((a1.toUInt32 % 65536).toInt32) ∧ (∀ S6 : sh_S, S6 = sh_sr S (18, 0, 0) (upd (S (18, 0, 0)) ((S (3, 0, 0) 1).toNatClampNeg) ((a1.toUInt32 % 65536).toInt32)) → (∀ S8 : sh_S, S8 = sh_sr S6 (3, 0, 0) (upd (S6 (3, 0, 0)) 1 (((S6 (3, 0, 0) 1) + 1))) → Q (S8 (3, 0, 0) 1) S8))))) ∧ (¬ (S (3, 0, 0) 1) < 60 → Q (-1000003) S))))) ∧ (¬ a1 ≤ 126 → Q (-1000001) S))))) :
    sh_Ci g mX3_append [sh_R (3, 0, 0), sh_I a1] S sz Q := by
  refine sh_enter (ls := [(0, sh_R (3, 0, 0)), (1, sh_I a1)]) (by decide +kernel) (Nat.le_of_ble_eq_true rfl) rfl ?_
  refine sh_iload_n (pc := 0) dX3_append_0 rfl ?_
  refine sh_bipush (v := 32) (pc := 1) dX3_append_1 rfl ?_
  refine sh_icmp_lt (tgt := 12) (pc := 3) dX3_append_3 (by decide) (fun hc1 => ?_) (fun hc1 => ?_)
  · have h := h.1 hc1
    refine sh_ldc (v := (-1000001)) (pc := 12) dX3_append_12 kc_X3_15 ?_
    exact sh_ret_i (pc := 14) dX3_append_14 rfl ⟨rfl, rfl⟩ h
  · have h := h.2 hc1
    refine sh_iload_n (pc := 6) dX3_append_6 rfl ?_
    refine sh_bipush (v := 126) (pc := 7) dX3_append_7 rfl ?_
    refine sh_icmp_le (tgt := 15) (pc := 9) dX3_append_9 (by decide) (fun hc2 => ?_) (fun hc2 => ?_)
    · have h := h.1 hc2
      refine sh_aload_n (pc := 15) dX3_append_15 rfl ?_
      refine sh_gf (pc := 16) dX3_append_16 fl_X3_16 cf_3 ok_3_0 rfl rfl ?_
      refine sh_if_lt (tgt := 31) (pc := 19) dX3_append_19 (by decide) (fun hc3 => ?_) (fun hc3 => ?_)
      · have h := h.1 hc3
        refine sh_ldc (v := (-1000003)) (pc := 31) dX3_append_31 kc_X3_20 ?_
        exact sh_ret_i (pc := 33) dX3_append_33 rfl ⟨rfl, rfl⟩ h
      · have h := h.2 hc3
        refine sh_aload_n (pc := 22) dX3_append_22 rfl ?_
        refine sh_gf (pc := 23) dX3_append_23 fl_X3_16 cf_3 ok_3_0 rfl rfl ?_
        refine sh_bipush (v := 60) (pc := 26) dX3_append_26 rfl ?_
        refine sh_icmp_lt (tgt := 34) (pc := 28) dX3_append_28 (by decide) (fun hc4 => ?_) (fun hc4 => ?_)
        · have h := h.1 hc4
          refine sh_aload_n (pc := 34) dX3_append_34 rfl ?_
          refine sh_gf (pc := 35) dX3_append_35 fl_X3_9 cf_3 ok_3_0 rfl rfl ?_
          refine sh_aload_n (pc := 38) dX3_append_38 rfl ?_
          refine sh_gf (pc := 39) dX3_append_39 fl_X3_16 cf_3 ok_3_0 rfl rfl ?_
          refine sh_iload_n (pc := 42) dX3_append_42 rfl ?_
          refine sh_i2c (pc := 43) dX3_append_43 ?_
          obtain ⟨hi5, h⟩ := h
          obtain ⟨hx7, h⟩ := h
          refine sh_cs (pc := 44) dX3_append_44 ok_18_0 rfl hi5 hx7 rfl ?_
          refine sh_topS (fun S6 hS6 => ?_)
          have h := h S6 hS6
          refine sh_aload_n (pc := 45) dX3_append_45 rfl ?_
          refine sh_dup (pc := 46) dX3_append_46 rfl ?_
          refine sh_gf (pc := 47) dX3_append_47 fl_X3_16 cf_3 ok_3_0 rfl rfl ?_
          refine sh_iconst (v := 1) (pc := 50) dX3_append_50 rfl ?_
          refine sh_iadd (pc := 51) dX3_append_51 ?_
          refine sh_pfi (pc := 52) dX3_append_52 fl_X3_16 cf_3 ft_3_1 ok_3_0 rfl (Nat.le_of_ble_eq_true rfl) rfl ?_
          refine sh_topS (fun S8 hS8 => ?_)
          have h := h S8 hS8
          refine sh_aload_n (pc := 55) dX3_append_55 rfl ?_
          refine sh_gf (pc := 56) dX3_append_56 fl_X3_16 cf_3 ok_3_0 rfl rfl ?_
          exact sh_ret_i (pc := 59) dX3_append_59 rfl ⟨rfl, rfl⟩ h
        · have h := h.2 hc4
          refine sh_ldc (v := (-1000003)) (pc := 31) dX3_append_31 kc_X3_20 ?_
          exact sh_ret_i (pc := 33) dX3_append_33 rfl ⟨rfl, rfl⟩ h
    · have h := h.2 hc2
      refine sh_ldc (v := (-1000001)) (pc := 12) dX3_append_12 kc_X3_15 ?_
      exact sh_ret_i (pc := 14) dX3_append_14 rfl ⟨rfl, rfl⟩ h

set_option maxRecDepth 100000 in
set_option maxHeartbeats 4000000 in
theorem wp_X3_empty {g : sh_G} {S : sh_S} {sz : Nat} {Q : Int32 → sh_S → Prop} 
    (h : (∀ x1 : Int32, x1 = (S (3, 0, 0) 1) → (∀ S2 : sh_S, S2 = sh_sr S (3, 0, 0) (upd (S (3, 0, 0)) 1 0) → Q x1 S2))) :
    sh_Ci g mX3_empty [sh_R (3, 0, 0)] S sz Q := by
  refine sh_enter (ls := [(0, sh_R (3, 0, 0))]) (by decide +kernel) (Nat.le_of_ble_eq_true rfl) rfl ?_
  refine sh_aload_n (pc := 0) dX3_empty_0 rfl ?_
  refine sh_gf (pc := 1) dX3_empty_1 fl_X3_16 cf_3 ok_3_0 rfl rfl ?_
  refine sh_topI (fun x1 hx1 => ?_)
  have h := h x1 hx1
  refine sh_istore_n (ls' := [(1, sh_I x1), (0, sh_R (3, 0, 0))]) (pc := 4) dX3_empty_4 (by decide) rfl ?_
  refine sh_aload_n (pc := 5) dX3_empty_5 rfl ?_
  refine sh_iconst (v := 0) (pc := 6) dX3_empty_6 rfl ?_
  refine sh_pfi (pc := 7) dX3_empty_7 fl_X3_16 cf_3 ft_3_1 ok_3_0 rfl (Nat.le_of_ble_eq_true rfl) rfl ?_
  refine sh_topS (fun S2 hS2 => ?_)
  have h := h S2 hS2
  refine sh_iload_n (pc := 10) dX3_empty_10 rfl ?_
  exact sh_ret_i (pc := 11) dX3_empty_11 rfl ⟨rfl, rfl⟩ h

set_option maxRecDepth 100000 in
set_option maxHeartbeats 4000000 in
theorem wp_X3_peek {g : sh_G} {S : sh_S} {sz : Nat} {Q : Int32 → sh_S → Prop} 
    (h : (((S (3, 0, 0) 2) < 0 → Q 0 S) ∧ (¬ (S (3, 0, 0) 2) < 0 → (((S (3, 0, 0) 1) ≤ (S (3, 0, 0) 2) → Q 0 S) ∧ (¬ (S (3, 0, 0) 1) ≤ (S (3, 0, 0) 2) → ((60 ≤ (S (3, 0, 0) 2) → Q 0 S) ∧ (¬ 60 ≤ (S (3, 0, 0) 2) → (vp_in (S (3, 0, 0) 2) 60 ∧ (narrow .char (.int (S (18, 0, 0) ((S (3, 0, 0) 2).toNatClampNeg))) = .int (S (18, 0, 0) ((S (3, 0, 0) 2).toNatClampNeg)) ∧ Q (S (18, 0, 0) ((S (3, 0, 0) 2).toNatClampNeg)) S))))))))) :
    sh_Ci g mX3_peek [sh_R (3, 0, 0)] S sz Q := by
  refine sh_enter (ls := [(0, sh_R (3, 0, 0))]) (by decide +kernel) (Nat.le_of_ble_eq_true rfl) rfl ?_
  refine sh_aload_n (pc := 0) dX3_peek_0 rfl ?_
  refine sh_gf (pc := 1) dX3_peek_1 fl_X3_27 cf_3 ok_3_0 rfl rfl ?_
  refine sh_if_lt (tgt := 39) (pc := 4) dX3_peek_4 (by decide) (fun hc1 => ?_) (fun hc1 => ?_)
  · have h := h.1 hc1
    refine sh_iconst (v := 0) (pc := 39) dX3_peek_39 rfl ?_
    exact sh_ret_z (pc := 40) dX3_peek_40 rfl rfl ⟨rfl, rfl⟩ h
  · have h := h.2 hc1
    refine sh_aload_n (pc := 7) dX3_peek_7 rfl ?_
    refine sh_gf (pc := 8) dX3_peek_8 fl_X3_27 cf_3 ok_3_0 rfl rfl ?_
    refine sh_aload_n (pc := 11) dX3_peek_11 rfl ?_
    refine sh_gf (pc := 12) dX3_peek_12 fl_X3_16 cf_3 ok_3_0 rfl rfl ?_
    refine sh_icmp_ge (tgt := 39) (pc := 15) dX3_peek_15 (by decide) (fun hc2 => ?_) (fun hc2 => ?_)
    · have h := h.1 hc2
      refine sh_iconst (v := 0) (pc := 39) dX3_peek_39 rfl ?_
      exact sh_ret_z (pc := 40) dX3_peek_40 rfl rfl ⟨rfl, rfl⟩ h
    · have h := h.2 hc2
      refine sh_aload_n (pc := 18) dX3_peek_18 rfl ?_
      refine sh_gf (pc := 19) dX3_peek_19 fl_X3_27 cf_3 ok_3_0 rfl rfl ?_
      refine sh_bipush (v := 60) (pc := 22) dX3_peek_22 rfl ?_
      refine sh_icmp_ge (tgt := 39) (pc := 24) dX3_peek_24 (by decide) (fun hc3 => ?_) (fun hc3 => ?_)
      · have h := h.1 hc3
        refine sh_iconst (v := 0) (pc := 39) dX3_peek_39 rfl ?_
        exact sh_ret_z (pc := 40) dX3_peek_40 rfl rfl ⟨rfl, rfl⟩ h
      · have h := h.2 hc3
        refine sh_aload_n (pc := 27) dX3_peek_27 rfl ?_
        refine sh_gf (pc := 28) dX3_peek_28 fl_X3_9 cf_3 ok_3_0 rfl rfl ?_
        refine sh_aload_n (pc := 31) dX3_peek_31 rfl ?_
        refine sh_gf (pc := 32) dX3_peek_32 fl_X3_27 cf_3 ok_3_0 rfl rfl ?_
        obtain ⟨hi4, h⟩ := h
        refine sh_ca (pc := 35) dX3_peek_35 ok_18_0 rfl hi4 ?_
        refine sh_goto (tgt := 40) (pc := 36) dX3_peek_36 (by decide) ?_
        exact sh_ret_z (pc := 40) dX3_peek_40 rfl h.1 ⟨rfl, rfl⟩ h.2

set_option maxRecDepth 100000 in
set_option maxHeartbeats 4000000 in
theorem wp_X3_readNumber {g : sh_G} {S : sh_S} {sz : Nat} {Q : Int32 → sh_S → Prop} 
    (h : (∃ (Iv1 : Int32 → Int32 → sh_S → Prop) (mu1 : Int32 → Int32 → sh_S → Nat), Iv1 (-1) 0 S ∧ ∀ (v2 : Int32) (v3 : Int32) (S4 : sh_S), Iv1 v2 v3 S4 → ((3 ≤ v3 → Q v2 S4) ∧ (¬ 3 ≤ v3 → (sh_Ci g mX3_peek [sh_R (3, 0, 0)] S4 sz (fun r7 S6 => ((r7 < 48 → Q v2 S6) ∧ (¬ r7 < 48 → ((r7 ≤ 57 → (∀ x10 : Int32, x10 = (if 0 < v2 then v2 else 0) → (∀ x11 : Int32, x11 = ((x10 * 10) + (r7 - 48)) → (∀ S12 : sh_S, S12 = sh_sr S6 (3, 0, 0) (upd (S6 (3, 0, 0)) 2 (((S6 (3, 0, 0) 2) + 1))) → (∀ x13 : Int32, x13 = v3 + 1 → (Iv1 x11 x13 S12 ∧ mu1 x11 x13 S12 < mu1 v2 v3 S4)))))) ∧ (¬ r7 ≤ 57 → Q v2 S6)))))))))) :
    sh_Ci g mX3_readNumber [sh_R (3, 0, 0)] S sz Q := by
  refine sh_enter (ls := [(0, sh_R (3, 0, 0))]) (by decide +kernel) (Nat.le_of_ble_eq_true rfl) rfl ?_
  refine sh_iconst (v := (-1)) (pc := 0) dX3_readNumber_0 rfl ?_
  refine sh_istore_n (ls' := [(1, sh_I (-1)), (0, sh_R (3, 0, 0))]) (pc := 1) dX3_readNumber_1 (by decide) rfl ?_
  refine sh_iconst (v := 0) (pc := 2) dX3_readNumber_2 rfl ?_
  refine sh_istore_n (ls' := [(2, sh_I 0), (1, sh_I (-1)), (0, sh_R (3, 0, 0))]) (pc := 3) dX3_readNumber_3 (by decide) rfl ?_
  obtain ⟨Iv1, mu1, h0, hs1⟩ := h
  refine sh_pick [2, 1, 0] rfl ?_
  refine sh_lp3 Iv1 mu1 (fun v2 v3 S4 => sh_V g mX3_readNumber 0 0 4 [(0, sh_R (3, 0, 0)), (1, sh_I v2), (2, sh_I v3)] [] (sh_St S4) sz (sh_ti sz Q)) (fun v2 v3 S4 hI1 ih1 => ?_) _ _ _ h0
  have h := hs1 v2 v3 S4 hI1
  clear h0
  refine sh_iload_n (pc := 4) dX3_readNumber_4 rfl ?_
  refine sh_iconst (v := 3) (pc := 5) dX3_readNumber_5 rfl ?_
  refine sh_icmp_ge (tgt := 58) (pc := 6) dX3_readNumber_6 (by decide) (fun hc5 => ?_) (fun hc5 => ?_)
  · have h := h.1 hc5
    refine sh_iload_n (pc := 58) dX3_readNumber_58 rfl ?_
    exact sh_ret_i (pc := 59) dX3_readNumber_59 rfl ⟨rfl, rfl⟩ h
  · have h := h.2 hc5
    refine sh_aload_n (pc := 9) dX3_readNumber_9 rfl ?_
    refine sh_ci (N := mX3_peek) (pc := 10) dX3_readNumber_10 ml_X3_43 h mf_X3_peek iv_X3_peek ⟨Nat.le_of_ble_eq_true rfl, Nat.le_of_ble_eq_true rfl⟩ rfl rfl (Nat.le_of_ble_eq_true rfl) ok_3_0 rfl (show vwCl[3]? = some (RX3, TX3, 6) from rfl) rfl (fun r7 S6 h => ?_)
    refine sh_istore_n (ls' := [(3, sh_I r7), (0, sh_R (3, 0, 0)), (1, sh_I v2), (2, sh_I v3)]) (pc := 13) dX3_readNumber_13 (by decide) rfl ?_
    refine sh_iload_n (pc := 14) dX3_readNumber_14 rfl ?_
    refine sh_bipush (v := 48) (pc := 15) dX3_readNumber_15 rfl ?_
    refine sh_icmp_lt (tgt := 26) (pc := 17) dX3_readNumber_17 (by decide) (fun hc8 => ?_) (fun hc8 => ?_)
    · have h := h.1 hc8
      refine sh_iload_n (pc := 26) dX3_readNumber_26 rfl ?_
      exact sh_ret_i (pc := 27) dX3_readNumber_27 rfl ⟨rfl, rfl⟩ h
    · have h := h.2 hc8
      refine sh_iload_n (pc := 20) dX3_readNumber_20 rfl ?_
      refine sh_bipush (v := 57) (pc := 21) dX3_readNumber_21 rfl ?_
      refine sh_icmp_le (tgt := 28) (pc := 23) dX3_readNumber_23 (by decide) (fun hc9 => ?_) (fun hc9 => ?_)
      · have h := h.1 hc9
        refine sh_iconst (v := 0) (pc := 28) dX3_readNumber_28 rfl ?_
        refine sh_iload_n (pc := 29) dX3_readNumber_29 rfl ?_
        refine sh_max (pc := 30) dX3_readNumber_30 ml_X3_86 jw_max.1 jw_max.2.1 jw_max.2.2 (Nat.le_of_ble_eq_true rfl) (Nat.le_of_ble_eq_true rfl) ⟨Nat.le_refl _, Nat.le_refl _⟩ ?_
        refine sh_topI (fun x10 hx10 => ?_)
        have h := h x10 hx10
        refine sh_bipush (v := 10) (pc := 33) dX3_readNumber_33 rfl ?_
        refine sh_imul (pc := 35) dX3_readNumber_35 ?_
        refine sh_iload_n (pc := 36) dX3_readNumber_36 rfl ?_
        refine sh_bipush (v := 48) (pc := 37) dX3_readNumber_37 rfl ?_
        refine sh_isub (pc := 39) dX3_readNumber_39 ?_
        refine sh_iadd (pc := 40) dX3_readNumber_40 ?_
        refine sh_topI (fun x11 hx11 => ?_)
        have h := h x11 hx11
        refine sh_istore_n (ls' := [(1, sh_I x11), (3, sh_I r7), (0, sh_R (3, 0, 0)), (2, sh_I v3)]) (pc := 41) dX3_readNumber_41 (by decide) rfl ?_
        refine sh_aload_n (pc := 42) dX3_readNumber_42 rfl ?_
        refine sh_dup (pc := 43) dX3_readNumber_43 rfl ?_
        refine sh_gf (pc := 44) dX3_readNumber_44 fl_X3_27 cf_3 ok_3_0 rfl rfl ?_
        refine sh_iconst (v := 1) (pc := 47) dX3_readNumber_47 rfl ?_
        refine sh_iadd (pc := 48) dX3_readNumber_48 ?_
        refine sh_pfi (pc := 49) dX3_readNumber_49 fl_X3_27 cf_3 ft_3_2 ok_3_0 rfl (Nat.le_of_ble_eq_true rfl) rfl ?_
        refine sh_topS (fun S12 hS12 => ?_)
        have h := h S12 hS12
        obtain ⟨x13, hx13⟩ : ∃ y : Int32, y = v3 + 1 := ⟨_, rfl⟩
        have h := h x13 hx13
        refine sh_iinc (v := x13) (ls' := [(2, sh_I x13), (1, sh_I x11), (3, sh_I r7), (0, sh_R (3, 0, 0))]) (pc := 52) dX3_readNumber_52 rfl hx13.symm (by decide) rfl ?_
        refine sh_goto (tgt := 4) (pc := 55) dX3_readNumber_55 (by decide) ?_
        refine sh_pick [3, 1, 0] rfl ?_
        exact ih1 _ _ _ h.1 h.2
      · have h := h.2 hc9
        refine sh_iload_n (pc := 26) dX3_readNumber_26 rfl ?_
        exact sh_ret_i (pc := 27) dX3_readNumber_27 rfl ⟨rfl, rfl⟩ h

set_option maxRecDepth 100000 in
set_option maxHeartbeats 4000000 in
theorem wp_X3_takes {g : sh_G} {S : sh_S} {sz : Nat} {Q : Int32 → sh_S → Prop} {a1 : Int32} 
    (h : (sh_Ci g mX3_peek [sh_R (3, 0, 0)] S sz (fun r2 S1 => ((r2 = a1 → (∀ S4 : sh_S, S4 = sh_sr S1 (3, 0, 0) (upd (S1 (3, 0, 0)) 2 (((S1 (3, 0, 0) 2) + 1))) → Q 1 S4)) ∧ (¬ r2 = a1 → Q 0 S1))))) :
    sh_Ci g mX3_takes [sh_R (3, 0, 0), sh_I a1] S sz Q := by
  refine sh_enter (ls := [(0, sh_R (3, 0, 0)), (1, sh_I a1)]) (by decide +kernel) (Nat.le_of_ble_eq_true rfl) rfl ?_
  refine sh_aload_n (pc := 0) dX3_takes_0 rfl ?_
  refine sh_ci (N := mX3_peek) (pc := 1) dX3_takes_1 ml_X3_43 h mf_X3_peek iv_X3_peek ⟨Nat.le_of_ble_eq_true rfl, Nat.le_of_ble_eq_true rfl⟩ rfl rfl (Nat.le_of_ble_eq_true rfl) ok_3_0 rfl (show vwCl[3]? = some (RX3, TX3, 6) from rfl) rfl (fun r2 S1 h => ?_)
  refine sh_iload_n (pc := 4) dX3_takes_4 rfl ?_
  refine sh_icmp_eq (tgt := 10) (pc := 5) dX3_takes_5 (by decide) (fun hc3 => ?_) (fun hc3 => ?_)
  · have h := h.1 hc3
    refine sh_aload_n (pc := 10) dX3_takes_10 rfl ?_
    refine sh_dup (pc := 11) dX3_takes_11 rfl ?_
    refine sh_gf (pc := 12) dX3_takes_12 fl_X3_27 cf_3 ok_3_0 rfl rfl ?_
    refine sh_iconst (v := 1) (pc := 15) dX3_takes_15 rfl ?_
    refine sh_iadd (pc := 16) dX3_takes_16 ?_
    refine sh_pfi (pc := 17) dX3_takes_17 fl_X3_27 cf_3 ft_3_2 ok_3_0 rfl (Nat.le_of_ble_eq_true rfl) rfl ?_
    refine sh_topS (fun S4 hS4 => ?_)
    have h := h S4 hS4
    refine sh_iconst (v := 1) (pc := 20) dX3_takes_20 rfl ?_
    exact sh_ret_z (pc := 21) dX3_takes_21 rfl rfl ⟨rfl, rfl⟩ h
  · have h := h.2 hc3
    refine sh_iconst (v := 0) (pc := 8) dX3_takes_8 rfl ?_
    exact sh_ret_z (pc := 9) dX3_takes_9 rfl rfl ⟨rfl, rfl⟩ h

set_option maxRecDepth 100000 in
set_option maxHeartbeats 4000000 in
theorem wp_X6_hasTool {g : sh_G} {S : sh_S} {sz : Nat} {Q : Int32 → sh_S → Prop} {k : Nat} (hk : sh_ok (6, k, 0)) {a1 : Int32} 
    (h : ((a1 < 0 → Q 0 S) ∧ (¬ a1 < 0 → (((S (6, k, 0) 3) ≤ a1 → Q 0 S) ∧ (¬ (S (6, k, 0) 3) ≤ a1 → ((20 ≤ a1 → Q 0 S) ∧ (¬ 20 ≤ a1 → Q 1 S))))))) :
    sh_Ci g mX6_hasTool [sh_R (6, k, 0), sh_I a1] S sz Q := by
  refine sh_enter (ls := [(0, sh_R (6, k, 0)), (1, sh_I a1)]) (by decide +kernel) (Nat.le_of_ble_eq_true rfl) rfl ?_
  refine sh_iload_n (pc := 0) dX6_hasTool_0 rfl ?_
  refine sh_if_lt (tgt := 22) (pc := 1) dX6_hasTool_1 (by decide) (fun hc1 => ?_) (fun hc1 => ?_)
  · have h := h.1 hc1
    refine sh_iconst (v := 0) (pc := 22) dX6_hasTool_22 rfl ?_
    exact sh_ret_z (pc := 23) dX6_hasTool_23 rfl rfl ⟨rfl, rfl⟩ h
  · have h := h.2 hc1
    refine sh_iload_n (pc := 4) dX6_hasTool_4 rfl ?_
    refine sh_aload_n (pc := 5) dX6_hasTool_5 rfl ?_
    refine sh_gf (pc := 6) dX6_hasTool_6 fl_X6_45 cf_6 hk rfl rfl ?_
    refine sh_icmp_ge (tgt := 22) (pc := 9) dX6_hasTool_9 (by decide) (fun hc2 => ?_) (fun hc2 => ?_)
    · have h := h.1 hc2
      refine sh_iconst (v := 0) (pc := 22) dX6_hasTool_22 rfl ?_
      exact sh_ret_z (pc := 23) dX6_hasTool_23 rfl rfl ⟨rfl, rfl⟩ h
    · have h := h.2 hc2
      refine sh_iload_n (pc := 12) dX6_hasTool_12 rfl ?_
      refine sh_bipush (v := 20) (pc := 13) dX6_hasTool_13 rfl ?_
      refine sh_icmp_ge (tgt := 22) (pc := 15) dX6_hasTool_15 (by decide) (fun hc3 => ?_) (fun hc3 => ?_)
      · have h := h.1 hc3
        refine sh_iconst (v := 0) (pc := 22) dX6_hasTool_22 rfl ?_
        exact sh_ret_z (pc := 23) dX6_hasTool_23 rfl rfl ⟨rfl, rfl⟩ h
      · have h := h.2 hc3
        refine sh_iconst (v := 1) (pc := 18) dX6_hasTool_18 rfl ?_
        refine sh_goto (tgt := 23) (pc := 19) dX6_hasTool_19 (by decide) ?_
        exact sh_ret_z (pc := 23) dX6_hasTool_23 rfl rfl ⟨rfl, rfl⟩ h

set_option maxRecDepth 100000 in
set_option maxHeartbeats 4000000 in
theorem wp_X7_isOnMember {g : sh_G} {S : sh_S} {sz : Nat} {Q : Int32 → sh_S → Prop} {k i : Nat} (hk : sh_ok (7, k, i)) {a1 : Int32} 
    (h : (((S (7, k, i) 4) = 1 → ((¬ (S (7, k, i) 5) = a1 → Q 0 S) ∧ ((S (7, k, i) 5) = a1 → Q 1 S))) ∧ (¬ (S (7, k, i) 4) = 1 → ((¬ (S (7, k, i) 4) = 2 → Q 0 S) ∧ ((S (7, k, i) 4) = 2 → ((¬ (S (7, k, i) 5) = a1 → Q 0 S) ∧ ((S (7, k, i) 5) = a1 → Q 1 S))))))) :
    sh_Ci g mX7_isOnMember [sh_R (7, k, i), sh_I a1] S sz Q := by
  refine sh_enter (ls := [(0, sh_R (7, k, i)), (1, sh_I a1)]) (by decide +kernel) (Nat.le_of_ble_eq_true rfl) rfl ?_
  refine sh_aload_n (pc := 0) dX7_isOnMember_0 rfl ?_
  refine sh_gf (pc := 1) dX7_isOnMember_1 fl_X7_39 cf_7 hk rfl rfl ?_
  refine sh_iconst (v := 1) (pc := 4) dX7_isOnMember_4 rfl ?_
  refine sh_icmp_eq (tgt := 16) (pc := 5) dX7_isOnMember_5 (by decide) (fun hc1 => ?_) (fun hc1 => ?_)
  · have h := h.1 hc1
    refine sh_aload_n (pc := 16) dX7_isOnMember_16 rfl ?_
    refine sh_gf (pc := 17) dX7_isOnMember_17 fl_X7_42 cf_7 hk rfl rfl ?_
    refine sh_iload_n (pc := 20) dX7_isOnMember_20 rfl ?_
    refine sh_icmp_ne (tgt := 28) (pc := 21) dX7_isOnMember_21 (by decide) (fun hc2 => ?_) (fun hc2 => ?_)
    · have h := h.1 hc2
      refine sh_iconst (v := 0) (pc := 28) dX7_isOnMember_28 rfl ?_
      exact sh_ret_z (pc := 29) dX7_isOnMember_29 rfl rfl ⟨rfl, rfl⟩ h
    · have h := h.2 hc2
      refine sh_iconst (v := 1) (pc := 24) dX7_isOnMember_24 rfl ?_
      refine sh_goto (tgt := 29) (pc := 25) dX7_isOnMember_25 (by decide) ?_
      exact sh_ret_z (pc := 29) dX7_isOnMember_29 rfl rfl ⟨rfl, rfl⟩ h
  · have h := h.2 hc1
    refine sh_aload_n (pc := 8) dX7_isOnMember_8 rfl ?_
    refine sh_gf (pc := 9) dX7_isOnMember_9 fl_X7_39 cf_7 hk rfl rfl ?_
    refine sh_iconst (v := 2) (pc := 12) dX7_isOnMember_12 rfl ?_
    refine sh_icmp_ne (tgt := 28) (pc := 13) dX7_isOnMember_13 (by decide) (fun hc3 => ?_) (fun hc3 => ?_)
    · have h := h.1 hc3
      refine sh_iconst (v := 0) (pc := 28) dX7_isOnMember_28 rfl ?_
      exact sh_ret_z (pc := 29) dX7_isOnMember_29 rfl rfl ⟨rfl, rfl⟩ h
    · have h := h.2 hc3
      refine sh_aload_n (pc := 16) dX7_isOnMember_16 rfl ?_
      refine sh_gf (pc := 17) dX7_isOnMember_17 fl_X7_42 cf_7 hk rfl rfl ?_
      refine sh_iload_n (pc := 20) dX7_isOnMember_20 rfl ?_
      refine sh_icmp_ne (tgt := 28) (pc := 21) dX7_isOnMember_21 (by decide) (fun hc4 => ?_) (fun hc4 => ?_)
      · have h := h.1 hc4
        refine sh_iconst (v := 0) (pc := 28) dX7_isOnMember_28 rfl ?_
        exact sh_ret_z (pc := 29) dX7_isOnMember_29 rfl rfl ⟨rfl, rfl⟩ h
      · have h := h.2 hc4
        refine sh_iconst (v := 1) (pc := 24) dX7_isOnMember_24 rfl ?_
        refine sh_goto (tgt := 29) (pc := 25) dX7_isOnMember_25 (by decide) ?_
        exact sh_ret_z (pc := 29) dX7_isOnMember_29 rfl rfl ⟨rfl, rfl⟩ h

set_option maxRecDepth 100000 in
set_option maxHeartbeats 4000000 in
theorem wp_X6_toolsOfMember {g : sh_G} {S : sh_S} {sz : Nat} {Q : Int32 → sh_S → Prop} {k : Nat} (hk : sh_ok (6, k, 0)) {a1 : Int32} {a2 : Int32} 
    (h : (∃ (Iv1 : Int32 → Int32 → sh_S → Prop) (mu1 : Int32 → Int32 → sh_S → Nat), Iv1 0 0 S ∧ ∀ (v2 : Int32) (v3 : Int32) (S4 : sh_S), Iv1 v2 v3 S4 → (((S4 (6, k, 0) 3) ≤ v3 → Q v2 S4) ∧ (¬ (S4 (6, k, 0) 3) ≤ v3 → (sh_Ci g mX6_hasTool [sh_R (6, k, 0), sh_I v3] S4 sz (fun r7 S6 => ((r7 = 0 → (∀ x9 : Int32, x9 = v3 + 1 → (Iv1 v2 x9 S6 ∧ mu1 v2 x9 S6 < mu1 v2 v3 S4))) ∧ (¬ r7 = 0 → (vp_in v3 20 ∧ (sh_Ci g mX7_isOnMember [sh_R (7, k, (v3.toNatClampNeg)), sh_I a1] S6 sz (fun r12 S11 => ((r12 = 0 → (∀ x14 : Int32, x14 = v3 + 1 → (Iv1 v2 x14 S11 ∧ mu1 v2 x14 S11 < mu1 v2 v3 S4))) ∧ (¬ r12 = 0 → ((¬ a2 = 0 → (∀ x16 : Int32, x16 = v2 + 1 → (∀ x17 : Int32, x17 = v3 + 1 → (Iv1 x16 x17 S11 ∧ mu1 x16 x17 S11 < mu1 v2 v3 S4)))) ∧ (a2 = 0 → (vp_in v3 20 ∧ ((¬ (S11 (7, k, (v3.toNatClampNeg)) 4) = 1 → (∀ x20 : Int32, x20 = v3 + 1 → (Iv1 v2 x20 S11 ∧ mu1 v2 x20 S11 < mu1 v2 v3 S4))) ∧ ((S11 (7, k, (v3.toNatClampNeg)) 4) = 1 → (∀ x21 : Int32, x21 = v2 + 1 → (∀ x22 : Int32, x22 = v3 + 1 → (Iv1 x21 x22 S11 ∧ mu1 x21 x22 S11 < mu1 v2 v3 S4))))))))))))))))))))) :
    sh_Ci g mX6_toolsOfMember [sh_R (6, k, 0), sh_I a1, sh_I a2] S sz Q := by
  refine sh_enter (ls := [(0, sh_R (6, k, 0)), (1, sh_I a1), (2, sh_I a2)]) (by decide +kernel) (Nat.le_of_ble_eq_true rfl) rfl ?_
  refine sh_iconst (v := 0) (pc := 0) dX6_toolsOfMember_0 rfl ?_
  refine sh_istore_n (ls' := [(3, sh_I 0), (0, sh_R (6, k, 0)), (1, sh_I a1), (2, sh_I a2)]) (pc := 1) dX6_toolsOfMember_1 (by decide) rfl ?_
  refine sh_iconst (v := 0) (pc := 2) dX6_toolsOfMember_2 rfl ?_
  refine sh_istore (ls' := [(4, sh_I 0), (3, sh_I 0), (0, sh_R (6, k, 0)), (1, sh_I a1), (2, sh_I a2)]) (pc := 3) dX6_toolsOfMember_3 (by decide) rfl ?_
  obtain ⟨Iv1, mu1, h0, hs1⟩ := h
  refine sh_pick [2, 3, 4, 1, 0] rfl ?_
  refine sh_lp3 Iv1 mu1 (fun v2 v3 S4 => sh_V g mX6_toolsOfMember 0 0 5 [(0, sh_R (6, k, 0)), (1, sh_I a1), (2, sh_I a2), (3, sh_I v2), (4, sh_I v3)] [] (sh_St S4) sz (sh_ti sz Q)) (fun v2 v3 S4 hI1 ih1 => ?_) _ _ _ h0
  have h := hs1 v2 v3 S4 hI1
  clear h0
  refine sh_iload (pc := 5) dX6_toolsOfMember_5 rfl ?_
  refine sh_aload_n (pc := 7) dX6_toolsOfMember_7 rfl ?_
  refine sh_gf (pc := 8) dX6_toolsOfMember_8 fl_X6_45 cf_6 hk rfl rfl ?_
  refine sh_icmp_ge (tgt := 64) (pc := 11) dX6_toolsOfMember_11 (by decide) (fun hc5 => ?_) (fun hc5 => ?_)
  · have h := h.1 hc5
    refine sh_iload_n (pc := 64) dX6_toolsOfMember_64 rfl ?_
    exact sh_ret_i (pc := 65) dX6_toolsOfMember_65 rfl ⟨rfl, rfl⟩ h
  · have h := h.2 hc5
    refine sh_aload_n (pc := 14) dX6_toolsOfMember_14 rfl ?_
    refine sh_iload (pc := 15) dX6_toolsOfMember_15 rfl ?_
    refine sh_ci (N := mX6_hasTool) (pc := 17) dX6_toolsOfMember_17 ml_X6_88 h mf_X6_hasTool iv_X6_hasTool ⟨Nat.le_of_ble_eq_true rfl, Nat.le_of_ble_eq_true rfl⟩ rfl rfl (Nat.le_of_ble_eq_true rfl) hk rfl (show vwCl[6]? = some (RX6, TX6, 5) from rfl) rfl (fun r7 S6 h => ?_)
    refine sh_if_eq (tgt := 58) (pc := 20) dX6_toolsOfMember_20 (by decide) (fun hc8 => ?_) (fun hc8 => ?_)
    · have h := h.1 hc8
      obtain ⟨x9, hx9⟩ : ∃ y : Int32, y = v3 + 1 := ⟨_, rfl⟩
      have h := h x9 hx9
      refine sh_iinc (v := x9) (ls' := [(4, sh_I x9), (0, sh_R (6, k, 0)), (1, sh_I a1), (2, sh_I a2), (3, sh_I v2)]) (pc := 58) dX6_toolsOfMember_58 rfl hx9.symm (by decide) rfl ?_
      refine sh_goto (tgt := 5) (pc := 61) dX6_toolsOfMember_61 (by decide) ?_
      refine sh_pick [1, 2, 3, 4, 0] rfl ?_
      exact ih1 _ _ _ h.1 h.2
    · have h := h.2 hc8
      refine sh_aload_n (pc := 23) dX6_toolsOfMember_23 rfl ?_
      refine sh_gf (pc := 24) dX6_toolsOfMember_24 fl_X6_24 cf_6 hk rfl rfl ?_
      refine sh_iload (pc := 27) dX6_toolsOfMember_27 rfl ?_
      obtain ⟨hi10, h⟩ := h
      refine sh_aa (o' := (7, k, (v3.toNatClampNeg))) (pc := 29) dX6_toolsOfMember_29 (by decide) hk rfl hi10 rfl ?_
      refine sh_iload_n (pc := 30) dX6_toolsOfMember_30 rfl ?_
      refine sh_ci (N := mX7_isOnMember) (pc := 31) dX6_toolsOfMember_31 ml_X6_91 h mf_X7_isOnMember iv_X7_isOnMember ⟨Nat.le_of_ble_eq_true rfl, Nat.le_of_ble_eq_true rfl⟩ rfl rfl (Nat.le_of_ble_eq_true rfl) ⟨hk.1, vp_lt hi10⟩ rfl (show vwCl[7]? = some (RX7, TX7, 14) from rfl) rfl (fun r12 S11 h => ?_)
      refine sh_if_eq (tgt := 58) (pc := 34) dX6_toolsOfMember_34 (by decide) (fun hc13 => ?_) (fun hc13 => ?_)
      · have h := h.1 hc13
        obtain ⟨x14, hx14⟩ : ∃ y : Int32, y = v3 + 1 := ⟨_, rfl⟩
        have h := h x14 hx14
        refine sh_iinc (v := x14) (ls' := [(4, sh_I x14), (0, sh_R (6, k, 0)), (1, sh_I a1), (2, sh_I a2), (3, sh_I v2)]) (pc := 58) dX6_toolsOfMember_58 rfl hx14.symm (by decide) rfl ?_
        refine sh_goto (tgt := 5) (pc := 61) dX6_toolsOfMember_61 (by decide) ?_
        refine sh_pick [1, 2, 3, 4, 0] rfl ?_
        exact ih1 _ _ _ h.1 h.2
      · have h := h.2 hc13
        refine sh_iload_n (pc := 37) dX6_toolsOfMember_37 rfl ?_
        refine sh_if_ne (tgt := 55) (pc := 38) dX6_toolsOfMember_38 (by decide) (fun hc15 => ?_) (fun hc15 => ?_)
        · have h := h.1 hc15
          obtain ⟨x16, hx16⟩ : ∃ y : Int32, y = v2 + 1 := ⟨_, rfl⟩
          have h := h x16 hx16
          refine sh_iinc (v := x16) (ls' := [(3, sh_I x16), (0, sh_R (6, k, 0)), (1, sh_I a1), (2, sh_I a2), (4, sh_I v3)]) (pc := 55) dX6_toolsOfMember_55 rfl hx16.symm (by decide) rfl ?_
          obtain ⟨x17, hx17⟩ : ∃ y : Int32, y = v3 + 1 := ⟨_, rfl⟩
          have h := h x17 hx17
          refine sh_iinc (v := x17) (ls' := [(4, sh_I x17), (3, sh_I x16), (0, sh_R (6, k, 0)), (1, sh_I a1), (2, sh_I a2)]) (pc := 58) dX6_toolsOfMember_58 rfl hx17.symm (by decide) rfl ?_
          refine sh_goto (tgt := 5) (pc := 61) dX6_toolsOfMember_61 (by decide) ?_
          refine sh_pick [2, 3, 4, 1, 0] rfl ?_
          exact ih1 _ _ _ h.1 h.2
        · have h := h.2 hc15
          refine sh_aload_n (pc := 41) dX6_toolsOfMember_41 rfl ?_
          refine sh_gf (pc := 42) dX6_toolsOfMember_42 fl_X6_24 cf_6 hk rfl rfl ?_
          refine sh_iload (pc := 45) dX6_toolsOfMember_45 rfl ?_
          obtain ⟨hi18, h⟩ := h
          refine sh_aa (o' := (7, k, (v3.toNatClampNeg))) (pc := 47) dX6_toolsOfMember_47 (by decide) hk rfl hi18 rfl ?_
          refine sh_gf (pc := 48) dX6_toolsOfMember_48 fl_X6_94 cf_7 ⟨hk.1, vp_lt hi18⟩ rfl rfl ?_
          refine sh_iconst (v := 1) (pc := 51) dX6_toolsOfMember_51 rfl ?_
          refine sh_icmp_ne (tgt := 58) (pc := 52) dX6_toolsOfMember_52 (by decide) (fun hc19 => ?_) (fun hc19 => ?_)
          · have h := h.1 hc19
            obtain ⟨x20, hx20⟩ : ∃ y : Int32, y = v3 + 1 := ⟨_, rfl⟩
            have h := h x20 hx20
            refine sh_iinc (v := x20) (ls' := [(4, sh_I x20), (0, sh_R (6, k, 0)), (1, sh_I a1), (2, sh_I a2), (3, sh_I v2)]) (pc := 58) dX6_toolsOfMember_58 rfl hx20.symm (by decide) rfl ?_
            refine sh_goto (tgt := 5) (pc := 61) dX6_toolsOfMember_61 (by decide) ?_
            refine sh_pick [1, 2, 3, 4, 0] rfl ?_
            exact ih1 _ _ _ h.1 h.2
          · have h := h.2 hc19
            obtain ⟨x21, hx21⟩ : ∃ y : Int32, y = v2 + 1 := ⟨_, rfl⟩
            have h := h x21 hx21
            refine sh_iinc (v := x21) (ls' := [(3, sh_I x21), (0, sh_R (6, k, 0)), (1, sh_I a1), (2, sh_I a2), (4, sh_I v3)]) (pc := 55) dX6_toolsOfMember_55 rfl hx21.symm (by decide) rfl ?_
            obtain ⟨x22, hx22⟩ : ∃ y : Int32, y = v3 + 1 := ⟨_, rfl⟩
            have h := h x22 hx22
            refine sh_iinc (v := x22) (ls' := [(4, sh_I x22), (3, sh_I x21), (0, sh_R (6, k, 0)), (1, sh_I a1), (2, sh_I a2)]) (pc := 58) dX6_toolsOfMember_58 rfl hx22.symm (by decide) rfl ?_
            refine sh_goto (tgt := 5) (pc := 61) dX6_toolsOfMember_61 (by decide) ?_
            refine sh_pick [2, 3, 4, 1, 0] rfl ?_
            exact ih1 _ _ _ h.1 h.2

set_option maxRecDepth 100000 in
set_option maxHeartbeats 4000000 in
theorem wp_X7_goOut {g : sh_G} {S : sh_S} {sz : Nat} {Q : sh_S → Prop} {k i : Nat} (hk : sh_ok (7, k, i)) {a1 : Int32} {a2 : Int32} {a3 : Int32} {a4 : Int32} 
    (h : (∀ S1 : sh_S, S1 = sh_sr S (7, k, i) (upd (S (7, k, i)) 4 a1) → (∀ S2 : sh_S, S2 = sh_sr S1 (7, k, i) (upd (S1 (7, k, i)) 5 a2) → (∀ S3 : sh_S, S3 = sh_sr S2 (7, k, i) (upd (S2 (7, k, i)) 6 a3) → (∀ S4 : sh_S, S4 = sh_sr S3 (7, k, i) (upd (S3 (7, k, i)) 7 ((a3 + a4))) → (∀ S5 : sh_S, S5 = sh_sr S4 (7, k, i) (upd (S4 (7, k, i)) 9 (((S4 (7, k, i) 9) + 1))) → (∀ S6 : sh_S, S6 = sh_sr S5 (7, k, i) (upd (S5 (7, k, i)) 10 (-1)) → Q S6))))))) :
    sh_Cu g mX7_goOut [sh_R (7, k, i), sh_I a1, sh_I a2, sh_I a3, sh_I a4] S sz Q := by
  refine sh_enter (ls := [(0, sh_R (7, k, i)), (1, sh_I a1), (2, sh_I a2), (3, sh_I a3), (4, sh_I a4)]) (by decide +kernel) (Nat.le_of_ble_eq_true rfl) rfl ?_
  refine sh_aload_n (pc := 0) dX7_goOut_0 rfl ?_
  refine sh_iload_n (pc := 1) dX7_goOut_1 rfl ?_
  refine sh_pfi (pc := 2) dX7_goOut_2 fl_X7_39 cf_7 ft_7_4 hk rfl (Nat.le_of_ble_eq_true rfl) rfl ?_
  refine sh_topS (fun S1 hS1 => ?_)
  have h := h S1 hS1
  refine sh_aload_n (pc := 5) dX7_goOut_5 rfl ?_
  refine sh_iload_n (pc := 6) dX7_goOut_6 rfl ?_
  refine sh_pfi (pc := 7) dX7_goOut_7 fl_X7_42 cf_7 ft_7_5 hk rfl (Nat.le_of_ble_eq_true rfl) rfl ?_
  refine sh_topS (fun S2 hS2 => ?_)
  have h := h S2 hS2
  refine sh_aload_n (pc := 10) dX7_goOut_10 rfl ?_
  refine sh_iload_n (pc := 11) dX7_goOut_11 rfl ?_
  refine sh_pfi (pc := 12) dX7_goOut_12 fl_X7_45 cf_7 ft_7_6 hk rfl (Nat.le_of_ble_eq_true rfl) rfl ?_
  refine sh_topS (fun S3 hS3 => ?_)
  have h := h S3 hS3
  refine sh_aload_n (pc := 15) dX7_goOut_15 rfl ?_
  refine sh_iload_n (pc := 16) dX7_goOut_16 rfl ?_
  refine sh_iload (pc := 17) dX7_goOut_17 rfl ?_
  refine sh_iadd (pc := 19) dX7_goOut_19 ?_
  refine sh_pfi (pc := 20) dX7_goOut_20 fl_X7_48 cf_7 ft_7_7 hk rfl (Nat.le_of_ble_eq_true rfl) rfl ?_
  refine sh_topS (fun S4 hS4 => ?_)
  have h := h S4 hS4
  refine sh_aload_n (pc := 23) dX7_goOut_23 rfl ?_
  refine sh_dup (pc := 24) dX7_goOut_24 rfl ?_
  refine sh_gf (pc := 25) dX7_goOut_25 fl_X7_54 cf_7 hk rfl rfl ?_
  refine sh_iconst (v := 1) (pc := 28) dX7_goOut_28 rfl ?_
  refine sh_iadd (pc := 29) dX7_goOut_29 ?_
  refine sh_pfi (pc := 30) dX7_goOut_30 fl_X7_54 cf_7 ft_7_9 hk rfl (Nat.le_of_ble_eq_true rfl) rfl ?_
  refine sh_topS (fun S5 hS5 => ?_)
  have h := h S5 hS5
  refine sh_aload_n (pc := 33) dX7_goOut_33 rfl ?_
  refine sh_iconst (v := (-1)) (pc := 34) dX7_goOut_34 rfl ?_
  refine sh_pfi (pc := 35) dX7_goOut_35 fl_X7_57 cf_7 ft_7_10 hk rfl (Nat.le_of_ble_eq_true rfl) rfl ?_
  refine sh_topS (fun S6 hS6 => ?_)
  have h := h S6 hS6
  exact sh_ret_u (pc := 38) dX7_goOut_38 rfl ⟨rfl, rfl⟩ h

set_option maxRecDepth 100000 in
set_option maxHeartbeats 4000000 in
theorem wp_X6_lendToMember {g : sh_G} {S : sh_S} {sz : Nat} {Q : Int32 → sh_S → Prop} {k : Nat} (hk : sh_ok (6, k, 0)) {a1 : Int32} {a2 : Int32} 
    (h : (sh_Ci g mX6_hasTool [sh_R (6, k, 0), sh_I a1] S sz (fun r2 S1 => ((r2 = 0 → Q (-1000001) S1) ∧ (¬ r2 = 0 → (sh_Ci g mX2_has [sh_R (2, k, 0), sh_I a2] S1 sz (fun r5 S4 => ((¬ r5 = 0 → (vp_in a2 10 ∧ (vp_in a1 20 ∧ ((¬ (S4 (7, k, (a1.toNatClampNeg)) 4) = 0 → Q (-1000002) S4) ∧ ((S4 (7, k, (a1.toNatClampNeg)) 4) = 0 → (sh_Ci g mX1_isThere [sh_R (1, k, (a2.toNatClampNeg))] S4 sz (fun r11 S10 => ((r11 = 0 → Q (-1000002) S10) ∧ (¬ r11 = 0 → (sh_Ci g mX1_openInAll [sh_R (1, k, (a2.toNatClampNeg))] S10 sz (fun r14 S13 => ((0 < r14 → Q (-1000002) S13) ∧ (¬ 0 < r14 → (sh_Ci g mX6_toolsOfMember [sh_R (6, k, 0), sh_I a2, sh_I 1] S13 sz (fun r17 S16 => ((r17 < 3 → (vp_in a1 20 ∧ (sh_Cu g mX7_goOut [sh_R (7, k, (a1.toNatClampNeg)), sh_I 1, sh_I a2, sh_I (S16 (6, k, 0) 4), sh_I (S16 (15, k, 0) 1)] S16 sz (fun S21 => (vp_in a1 20 ∧ Q (S21 (7, k, (a1.toNatClampNeg)) 7) S21))))) ∧ (¬ r17 < 3 → Q (-1000002) S16))))))))))))))))) ∧ (r5 = 0 → Q (-1000001) S4))))))))) :
    sh_Ci g mX6_lendToMember [sh_R (6, k, 0), sh_I a1, sh_I a2] S sz Q := by
  refine sh_enter (ls := [(0, sh_R (6, k, 0)), (1, sh_I a1), (2, sh_I a2)]) (by decide +kernel) (Nat.le_of_ble_eq_true rfl) rfl ?_
  refine sh_aload_n (pc := 0) dX6_lendToMember_0 rfl ?_
  refine sh_iload_n (pc := 1) dX6_lendToMember_1 rfl ?_
  refine sh_ci (N := mX6_hasTool) (pc := 2) dX6_lendToMember_2 ml_X6_88 h mf_X6_hasTool iv_X6_hasTool ⟨Nat.le_of_ble_eq_true rfl, Nat.le_of_ble_eq_true rfl⟩ rfl rfl (Nat.le_of_ble_eq_true rfl) hk rfl (show vwCl[6]? = some (RX6, TX6, 5) from rfl) rfl (fun r2 S1 h => ?_)
  refine sh_if_eq (tgt := 19) (pc := 5) dX6_lendToMember_5 (by decide) (fun hc3 => ?_) (fun hc3 => ?_)
  · have h := h.1 hc3
    refine sh_ldc (v := (-1000001)) (pc := 19) dX6_lendToMember_19 kc_X6_58 ?_
    exact sh_ret_i (pc := 21) dX6_lendToMember_21 rfl ⟨rfl, rfl⟩ h
  · have h := h.2 hc3
    refine sh_aload_n (pc := 8) dX6_lendToMember_8 rfl ?_
    refine sh_gf (pc := 9) dX6_lendToMember_9 fl_X6_18 cf_6 hk rfl rfl ?_
    refine sh_iload_n (pc := 12) dX6_lendToMember_12 rfl ?_
    refine sh_ci (N := mX2_has) (pc := 13) dX6_lendToMember_13 ml_X6_59 h mf_X2_has iv_X2_has ⟨Nat.le_of_ble_eq_true rfl, Nat.le_of_ble_eq_true rfl⟩ rfl rfl (Nat.le_of_ble_eq_true rfl) hk rfl (show vwCl[2]? = some (RX2, TX2, 5) from rfl) rfl (fun r5 S4 h => ?_)
    refine sh_if_ne (tgt := 22) (pc := 16) dX6_lendToMember_16 (by decide) (fun hc6 => ?_) (fun hc6 => ?_)
    · have h := h.1 hc6
      refine sh_aload_n (pc := 22) dX6_lendToMember_22 rfl ?_
      refine sh_gf (pc := 23) dX6_lendToMember_23 fl_X6_18 cf_6 hk rfl rfl ?_
      refine sh_gf (pc := 26) dX6_lendToMember_26 fl_X6_63 cf_2 hk rfl rfl ?_
      refine sh_iload_n (pc := 29) dX6_lendToMember_29 rfl ?_
      obtain ⟨hi7, h⟩ := h
      refine sh_aa (o' := (1, k, (a2.toNatClampNeg))) (pc := 30) dX6_lendToMember_30 (by decide) hk rfl hi7 rfl ?_
      refine sh_astore_n (ls' := [(3, sh_R (1, k, (a2.toNatClampNeg))), (0, sh_R (6, k, 0)), (1, sh_I a1), (2, sh_I a2)]) (pc := 31) dX6_lendToMember_31 (by decide) rfl ?_
      refine sh_aload_n (pc := 32) dX6_lendToMember_32 rfl ?_
      refine sh_gf (pc := 33) dX6_lendToMember_33 fl_X6_24 cf_6 hk rfl rfl ?_
      refine sh_iload_n (pc := 36) dX6_lendToMember_36 rfl ?_
      obtain ⟨hi8, h⟩ := h
      refine sh_aa (o' := (7, k, (a1.toNatClampNeg))) (pc := 37) dX6_lendToMember_37 (by decide) hk rfl hi8 rfl ?_
      refine sh_gf (pc := 38) dX6_lendToMember_38 fl_X6_94 cf_7 ⟨hk.1, vp_lt hi8⟩ rfl rfl ?_
      refine sh_if_ne (tgt := 68) (pc := 41) dX6_lendToMember_41 (by decide) (fun hc9 => ?_) (fun hc9 => ?_)
      · have h := h.1 hc9
        refine sh_ldc (v := (-1000002)) (pc := 68) dX6_lendToMember_68 kc_X6_84 ?_
        exact sh_ret_i (pc := 70) dX6_lendToMember_70 rfl ⟨rfl, rfl⟩ h
      · have h := h.2 hc9
        refine sh_aload_n (pc := 44) dX6_lendToMember_44 rfl ?_
        refine sh_ci (N := mX1_isThere) (pc := 45) dX6_lendToMember_45 ml_X6_145 h mf_X1_isThere iv_X1_isThere ⟨Nat.le_of_ble_eq_true rfl, Nat.le_of_ble_eq_true rfl⟩ rfl rfl (Nat.le_of_ble_eq_true rfl) ⟨hk.1, vp_lt hi7⟩ rfl (show vwCl[1]? = some (RX1, TX1, 1) from rfl) rfl (fun r11 S10 h => ?_)
        refine sh_if_eq (tgt := 68) (pc := 48) dX6_lendToMember_48 (by decide) (fun hc12 => ?_) (fun hc12 => ?_)
        · have h := h.1 hc12
          refine sh_ldc (v := (-1000002)) (pc := 68) dX6_lendToMember_68 kc_X6_84 ?_
          exact sh_ret_i (pc := 70) dX6_lendToMember_70 rfl ⟨rfl, rfl⟩ h
        · have h := h.2 hc12
          refine sh_aload_n (pc := 51) dX6_lendToMember_51 rfl ?_
          refine sh_ci (N := mX1_openInAll) (pc := 52) dX6_lendToMember_52 ml_X6_73 h mf_X1_openInAll iv_X1_openInAll ⟨Nat.le_of_ble_eq_true rfl, Nat.le_of_ble_eq_true rfl⟩ rfl rfl (Nat.le_of_ble_eq_true rfl) ⟨hk.1, vp_lt hi7⟩ rfl (show vwCl[1]? = some (RX1, TX1, 1) from rfl) rfl (fun r14 S13 h => ?_)
          refine sh_if_gt (tgt := 68) (pc := 55) dX6_lendToMember_55 (by decide) (fun hc15 => ?_) (fun hc15 => ?_)
          · have h := h.1 hc15
            refine sh_ldc (v := (-1000002)) (pc := 68) dX6_lendToMember_68 kc_X6_84 ?_
            exact sh_ret_i (pc := 70) dX6_lendToMember_70 rfl ⟨rfl, rfl⟩ h
          · have h := h.2 hc15
            refine sh_aload_n (pc := 58) dX6_lendToMember_58 rfl ?_
            refine sh_iload_n (pc := 59) dX6_lendToMember_59 rfl ?_
            refine sh_iconst (v := 1) (pc := 60) dX6_lendToMember_60 rfl ?_
            refine sh_ci (N := mX6_toolsOfMember) (pc := 61) dX6_lendToMember_61 ml_X6_109 h mf_X6_toolsOfMember iv_X6_toolsOfMember ⟨Nat.le_of_ble_eq_true rfl, Nat.le_of_ble_eq_true rfl⟩ rfl rfl (Nat.le_of_ble_eq_true rfl) hk rfl (show vwCl[6]? = some (RX6, TX6, 5) from rfl) rfl (fun r17 S16 h => ?_)
            refine sh_iconst (v := 3) (pc := 64) dX6_lendToMember_64 rfl ?_
            refine sh_icmp_lt (tgt := 71) (pc := 65) dX6_lendToMember_65 (by decide) (fun hc18 => ?_) (fun hc18 => ?_)
            · have h := h.1 hc18
              refine sh_aload_n (pc := 71) dX6_lendToMember_71 rfl ?_
              refine sh_gf (pc := 72) dX6_lendToMember_72 fl_X6_24 cf_6 hk rfl rfl ?_
              refine sh_iload_n (pc := 75) dX6_lendToMember_75 rfl ?_
              obtain ⟨hi19, h⟩ := h
              refine sh_aa (o' := (7, k, (a1.toNatClampNeg))) (pc := 76) dX6_lendToMember_76 (by decide) hk rfl hi19 rfl ?_
              refine sh_iconst (v := 1) (pc := 77) dX6_lendToMember_77 rfl ?_
              refine sh_iload_n (pc := 78) dX6_lendToMember_78 rfl ?_
              refine sh_aload_n (pc := 79) dX6_lendToMember_79 rfl ?_
              refine sh_gf (pc := 80) dX6_lendToMember_80 fl_X6_49 cf_6 hk rfl rfl ?_
              refine sh_aload_n (pc := 83) dX6_lendToMember_83 rfl ?_
              refine sh_gf (pc := 84) dX6_lendToMember_84 fl_X6_9 cf_6 hk rfl rfl ?_
              refine sh_iconst (v := 1) (pc := 87) dX6_lendToMember_87 rfl ?_
              refine sh_ia (pc := 88) dX6_lendToMember_88 hk rfl (vp_in_iff.mpr ⟨by decide, by decide⟩) ?_
              refine sh_cu (N := mX7_goOut) (pc := 89) dX6_lendToMember_89 ml_X6_148 h mf_X7_goOut iv_X7_goOut ⟨Nat.le_of_ble_eq_true rfl, Nat.le_of_ble_eq_true rfl⟩ rfl rfl (Nat.le_of_ble_eq_true rfl) ⟨hk.1, vp_lt hi19⟩ rfl (show vwCl[7]? = some (RX7, TX7, 14) from rfl) rfl (fun S21 h => ?_)
              refine sh_aload_n (pc := 92) dX6_lendToMember_92 rfl ?_
              refine sh_gf (pc := 93) dX6_lendToMember_93 fl_X6_24 cf_6 hk rfl rfl ?_
              refine sh_iload_n (pc := 96) dX6_lendToMember_96 rfl ?_
              obtain ⟨hi22, h⟩ := h
              refine sh_aa (o' := (7, k, (a1.toNatClampNeg))) (pc := 97) dX6_lendToMember_97 (by decide) hk rfl hi22 rfl ?_
              refine sh_gf (pc := 98) dX6_lendToMember_98 fl_X6_152 cf_7 ⟨hk.1, vp_lt hi22⟩ rfl rfl ?_
              exact sh_ret_i (pc := 101) dX6_lendToMember_101 rfl ⟨rfl, rfl⟩ h
            · have h := h.2 hc18
              refine sh_ldc (v := (-1000002)) (pc := 68) dX6_lendToMember_68 kc_X6_84 ?_
              exact sh_ret_i (pc := 70) dX6_lendToMember_70 rfl ⟨rfl, rfl⟩ h
    · have h := h.2 hc6
      refine sh_ldc (v := (-1000001)) (pc := 19) dX6_lendToMember_19 kc_X6_58 ?_
      exact sh_ret_i (pc := 21) dX6_lendToMember_21 rfl ⟨rfl, rfl⟩ h

set_option maxRecDepth 100000 in
set_option maxHeartbeats 4000000 in
theorem wp_X7_daysOut {g : sh_G} {S : sh_S} {sz : Nat} {Q : Int32 → sh_S → Prop} {k i : Nat} (hk : sh_ok (7, k, i)) {a1 : Int32} 
    (h : (∀ x1 : Int32, x1 = (if 1 < (a1 - (S (7, k, i) 6)) then (a1 - (S (7, k, i) 6)) else 1) → Q x1 S)) :
    sh_Ci g mX7_daysOut [sh_R (7, k, i), sh_I a1] S sz Q := by
  refine sh_enter (ls := [(0, sh_R (7, k, i)), (1, sh_I a1)]) (by decide +kernel) (Nat.le_of_ble_eq_true rfl) rfl ?_
  refine sh_iconst (v := 1) (pc := 0) dX7_daysOut_0 rfl ?_
  refine sh_iload_n (pc := 1) dX7_daysOut_1 rfl ?_
  refine sh_aload_n (pc := 2) dX7_daysOut_2 rfl ?_
  refine sh_gf (pc := 3) dX7_daysOut_3 fl_X7_45 cf_7 hk rfl rfl ?_
  refine sh_isub (pc := 6) dX7_daysOut_6 ?_
  refine sh_max (pc := 7) dX7_daysOut_7 ml_X7_74 jw_max.1 jw_max.2.1 jw_max.2.2 (Nat.le_of_ble_eq_true rfl) (Nat.le_of_ble_eq_true rfl) ⟨Nat.le_refl _, Nat.le_refl _⟩ ?_
  refine sh_topI (fun x1 hx1 => ?_)
  have h := h x1 hx1
  exact sh_ret_i (pc := 10) dX7_daysOut_10 rfl ⟨rfl, rfl⟩ h

set_option maxRecDepth 100000 in
set_option maxHeartbeats 4000000 in
theorem wp_X7_sharpnessBehind {g : sh_G} {S : sh_S} {sz : Nat} {Q : UInt32 → sh_S → Prop} {k i : Nat} (hk : sh_ok (7, k, i)) {a1 : Int32} 
    (h : (∀ f1 : UInt32, f1 = (FP.i2f (100 - (S (7, k, i) 2))) → (∀ f2 : UInt32, f2 = ((S (7, k, i) 3).toUInt32) → (∃ (Iv3 : UInt32 → Int32 → Prop) (mu3 : UInt32 → Int32 → Nat), Iv3 f2 0 ∧ ∀ (v4 : UInt32) (v5 : Int32), Iv3 v4 v5 → ((a1 ≤ v5 → Q v4 S) ∧ (¬ a1 ≤ v5 → (vf_n32 (FP.fmul v4 f1) ∧ (∀ f9 : UInt32, f9 = (FP.fmul v4 f1) → (vf_n32 (FP.fdiv f9 1120403456) ∧ (∀ f11 : UInt32, f11 = (FP.fdiv f9 1120403456) → (∀ x12 : Int32, x12 = v5 + 1 → (Iv3 f11 x12 ∧ mu3 f11 x12 < mu3 v4 v5)))))))))))) :
    sh_Cf g mX7_sharpnessBehind [sh_R (7, k, i), sh_I a1] S sz Q := by
  refine sh_enter (ls := [(0, sh_R (7, k, i)), (1, sh_I a1)]) (by decide +kernel) (Nat.le_of_ble_eq_true rfl) rfl ?_
  refine sh_bipush (v := 100) (pc := 0) dX7_sharpnessBehind_0 rfl ?_
  refine sh_aload_n (pc := 2) dX7_sharpnessBehind_2 rfl ?_
  refine sh_gf (pc := 3) dX7_sharpnessBehind_3 fl_X7_32 cf_7 hk rfl rfl ?_
  refine sh_isub (pc := 6) dX7_sharpnessBehind_6 ?_
  refine sh_i2f (pc := 7) dX7_sharpnessBehind_7 ?_
  refine sh_topF (fun f1 hf1 => ?_)
  have h := h f1 hf1
  refine sh_fstore_n (ls' := [(2, sh_F f1), (0, sh_R (7, k, i)), (1, sh_I a1)]) (pc := 8) dX7_sharpnessBehind_8 (by decide) rfl ?_
  refine sh_aload_n (pc := 9) dX7_sharpnessBehind_9 rfl ?_
  refine sh_gf (pc := 10) dX7_sharpnessBehind_10 fl_X7_35 cf_7 hk rfl rfl ?_
  refine sh_topF (fun f2 hf2 => ?_)
  have h := h f2 hf2
  refine sh_fstore_n (ls' := [(3, sh_F f2), (2, sh_F f1), (0, sh_R (7, k, i)), (1, sh_I a1)]) (pc := 13) dX7_sharpnessBehind_13 (by decide) rfl ?_
  refine sh_iconst (v := 0) (pc := 14) dX7_sharpnessBehind_14 rfl ?_
  refine sh_istore (ls' := [(4, sh_I 0), (3, sh_F f2), (2, sh_F f1), (0, sh_R (7, k, i)), (1, sh_I a1)]) (pc := 15) dX7_sharpnessBehind_15 (by decide) rfl ?_
  obtain ⟨Iv3, mu3, h0, hs3⟩ := h
  refine sh_pick [3, 4, 2, 1, 0] rfl ?_
  refine sh_lp2 Iv3 mu3 (fun v4 v5 => sh_V g mX7_sharpnessBehind 0 0 17 [(0, sh_R (7, k, i)), (1, sh_I a1), (2, sh_F f1), (3, sh_F v4), (4, sh_I v5)] [] (sh_St S) sz (sh_tf sz Q)) (fun v4 v5 hI3 ih3 => ?_) _ _ h0
  have h := hs3 v4 v5 hI3
  clear h0
  refine sh_iload (pc := 17) dX7_sharpnessBehind_17 rfl ?_
  refine sh_iload_n (pc := 19) dX7_sharpnessBehind_19 rfl ?_
  refine sh_icmp_ge (tgt := 38) (pc := 20) dX7_sharpnessBehind_20 (by decide) (fun hc7 => ?_) (fun hc7 => ?_)
  · have h := h.1 hc7
    refine sh_fload_n (pc := 38) dX7_sharpnessBehind_38 rfl ?_
    exact sh_ret_f (pc := 39) dX7_sharpnessBehind_39 rfl ⟨rfl, rfl⟩ h
  · have h := h.2 hc7
    refine sh_fload_n (pc := 23) dX7_sharpnessBehind_23 rfl ?_
    refine sh_fload_n (pc := 24) dX7_sharpnessBehind_24 rfl ?_
    obtain ⟨hf8, h⟩ := h
    refine sh_fmul (pc := 25) dX7_sharpnessBehind_25 hf8 ?_
    refine sh_topF (fun f9 hf9 => ?_)
    have h := h f9 hf9
    refine sh_fstore_n (ls' := [(3, sh_F f9), (0, sh_R (7, k, i)), (1, sh_I a1), (2, sh_F f1), (4, sh_I v5)]) (pc := 26) dX7_sharpnessBehind_26 (by decide) rfl ?_
    refine sh_fload_n (pc := 27) dX7_sharpnessBehind_27 rfl ?_
    refine sh_ldcf (v := 1120403456) (pc := 28) dX7_sharpnessBehind_28 kc_X7_88 ?_
    obtain ⟨hf10, h⟩ := h
    refine sh_fdiv (pc := 30) dX7_sharpnessBehind_30 hf10 ?_
    refine sh_topF (fun f11 hf11 => ?_)
    have h := h f11 hf11
    refine sh_fstore_n (ls' := [(3, sh_F f11), (0, sh_R (7, k, i)), (1, sh_I a1), (2, sh_F f1), (4, sh_I v5)]) (pc := 31) dX7_sharpnessBehind_31 (by decide) rfl ?_
    obtain ⟨x12, hx12⟩ : ∃ y : Int32, y = v5 + 1 := ⟨_, rfl⟩
    have h := h x12 hx12
    refine sh_iinc (v := x12) (ls' := [(4, sh_I x12), (3, sh_F f11), (0, sh_R (7, k, i)), (1, sh_I a1), (2, sh_F f1)]) (pc := 32) dX7_sharpnessBehind_32 rfl hx12.symm (by decide) rfl ?_
    refine sh_goto (tgt := 17) (pc := 35) dX7_sharpnessBehind_35 (by decide) ?_
    refine sh_pick [2, 3, 4, 1, 0] rfl ?_
    exact ih3 _ _ h.1 h.2

set_option maxRecDepth 100000 in
set_option maxHeartbeats 4000000 in
theorem wp_X7_comeIn {g : sh_G} {S : sh_S} {sz : Nat} {Q : sh_S → Prop} {k i : Nat} (hk : sh_ok (7, k, i)) {a1 : Int32} 
    (h : (sh_Ci g mX7_daysOut [sh_R (7, k, i), sh_I a1] S sz (fun r2 S1 => (sh_Cf g mX7_sharpnessBehind [sh_R (7, k, i), sh_I r2] S1 sz (fun f4 S3 => (∀ S5 : sh_S, S5 = sh_sr S3 (7, k, i) (upd (S3 (7, k, i)) 3 ((f4).toInt32)) → (∀ S6 : sh_S, S6 = sh_sr S5 (7, k, i) (upd (S5 (7, k, i)) 4 0) → Q S6))))))) :
    sh_Cu g mX7_comeIn [sh_R (7, k, i), sh_I a1] S sz Q := by
  refine sh_enter (ls := [(0, sh_R (7, k, i)), (1, sh_I a1)]) (by decide +kernel) (Nat.le_of_ble_eq_true rfl) rfl ?_
  refine sh_aload_n (pc := 0) dX7_comeIn_0 rfl ?_
  refine sh_aload_n (pc := 1) dX7_comeIn_1 rfl ?_
  refine sh_aload_n (pc := 2) dX7_comeIn_2 rfl ?_
  refine sh_iload_n (pc := 3) dX7_comeIn_3 rfl ?_
  refine sh_ci (N := mX7_daysOut) (pc := 4) dX7_comeIn_4 ml_X7_80 h mf_X7_daysOut iv_X7_daysOut ⟨Nat.le_of_ble_eq_true rfl, Nat.le_of_ble_eq_true rfl⟩ rfl rfl (Nat.le_of_ble_eq_true rfl) hk rfl (show vwCl[7]? = some (RX7, TX7, 14) from rfl) rfl (fun r2 S1 h => ?_)
  refine sh_cf (N := mX7_sharpnessBehind) (pc := 7) dX7_comeIn_7 ml_X7_84 h mf_X7_sharpnessBehind iv_X7_sharpnessBehind ⟨Nat.le_of_ble_eq_true rfl, Nat.le_of_ble_eq_true rfl⟩ rfl rfl (Nat.le_of_ble_eq_true rfl) hk rfl (show vwCl[7]? = some (RX7, TX7, 14) from rfl) rfl (fun f4 S3 h => ?_)
  refine sh_pff (pc := 10) dX7_comeIn_10 fl_X7_35 cf_7 ft_7_3 hk rfl (Nat.le_of_ble_eq_true rfl) rfl ?_
  refine sh_topS (fun S5 hS5 => ?_)
  have h := h S5 hS5
  refine sh_aload_n (pc := 13) dX7_comeIn_13 rfl ?_
  refine sh_iconst (v := 0) (pc := 14) dX7_comeIn_14 rfl ?_
  refine sh_pfi (pc := 15) dX7_comeIn_15 fl_X7_39 cf_7 ft_7_4 hk rfl (Nat.le_of_ble_eq_true rfl) rfl ?_
  refine sh_topS (fun S6 hS6 => ?_)
  have h := h S6 hS6
  exact sh_ret_u (pc := 18) dX7_comeIn_18 rfl ⟨rfl, rfl⟩ h

set_option maxRecDepth 100000 in
set_option maxHeartbeats 4000000 in
theorem wp_X6_takeBack {g : sh_G} {S : sh_S} {sz : Nat} {Q : Int32 → sh_S → Prop} {k : Nat} (hk : sh_ok (6, k, 0)) {a1 : Int32} 
    (h : (sh_Ci g mX6_hasTool [sh_R (6, k, 0), sh_I a1] S sz (fun r2 S1 => ((¬ r2 = 0 → (vp_in a1 20 ∧ ((¬ (S1 (7, k, (a1.toNatClampNeg)) 4) = 1 → Q (-1000002) S1) ∧ ((S1 (7, k, (a1.toNatClampNeg)) 4) = 1 → (sh_Ci g mX2_has [sh_R (2, k, 0), sh_I (S1 (7, k, (a1.toNatClampNeg)) 5)] S1 sz (fun r7 S6 => ((¬ r7 = 0 → (∀ x9 : Int32, x9 = (if 0 < ((S6 (6, k, 0) 4) - (S6 (7, k, (a1.toNatClampNeg)) 7)) then ((S6 (6, k, 0) 4) - (S6 (7, k, (a1.toNatClampNeg)) 7)) else 0) → (∀ x11 : Int32, x11 = (x9 * (S6 (15, k, 0) 2)) → (vp_in (S6 (7, k, (a1.toNatClampNeg)) 5) 10 ∧ (sh_Cu g mX1_charge [sh_R (1, k, ((S6 (7, k, (a1.toNatClampNeg)) 5).toNatClampNeg)), sh_I 1, sh_I x11] S6 sz (fun S13 => (sh_Cu g mX7_comeIn [sh_R (7, k, (a1.toNatClampNeg)), sh_I (S13 (6, k, 0) 4)] S13 sz (fun S14 => Q x11 S14)))))))) ∧ (r7 = 0 → Q (-1000002) S6)))))))) ∧ (r2 = 0 → Q (-1000001) S1))))) :
    sh_Ci g mX6_takeBack [sh_R (6, k, 0), sh_I a1] S sz Q := by
  refine sh_enter (ls := [(0, sh_R (6, k, 0)), (1, sh_I a1)]) (by decide +kernel) (Nat.le_of_ble_eq_true rfl) rfl ?_
  refine sh_aload_n (pc := 0) dX6_takeBack_0 rfl ?_
  refine sh_iload_n (pc := 1) dX6_takeBack_1 rfl ?_
  refine sh_ci (N := mX6_hasTool) (pc := 2) dX6_takeBack_2 ml_X6_88 h mf_X6_hasTool iv_X6_hasTool ⟨Nat.le_of_ble_eq_true rfl, Nat.le_of_ble_eq_true rfl⟩ rfl rfl (Nat.le_of_ble_eq_true rfl) hk rfl (show vwCl[6]? = some (RX6, TX6, 5) from rfl) rfl (fun r2 S1 h => ?_)
  refine sh_if_ne (tgt := 11) (pc := 5) dX6_takeBack_5 (by decide) (fun hc3 => ?_) (fun hc3 => ?_)
  · have h := h.1 hc3
    refine sh_aload_n (pc := 11) dX6_takeBack_11 rfl ?_
    refine sh_gf (pc := 12) dX6_takeBack_12 fl_X6_24 cf_6 hk rfl rfl ?_
    refine sh_iload_n (pc := 15) dX6_takeBack_15 rfl ?_
    obtain ⟨hi4, h⟩ := h
    refine sh_aa (o' := (7, k, (a1.toNatClampNeg))) (pc := 16) dX6_takeBack_16 (by decide) hk rfl hi4 rfl ?_
    refine sh_astore_n (ls' := [(2, sh_R (7, k, (a1.toNatClampNeg))), (0, sh_R (6, k, 0)), (1, sh_I a1)]) (pc := 17) dX6_takeBack_17 (by decide) rfl ?_
    refine sh_aload_n (pc := 18) dX6_takeBack_18 rfl ?_
    refine sh_gf (pc := 19) dX6_takeBack_19 fl_X6_94 cf_7 ⟨hk.1, vp_lt hi4⟩ rfl rfl ?_
    refine sh_iconst (v := 1) (pc := 22) dX6_takeBack_22 rfl ?_
    refine sh_icmp_ne (tgt := 40) (pc := 23) dX6_takeBack_23 (by decide) (fun hc5 => ?_) (fun hc5 => ?_)
    · have h := h.1 hc5
      refine sh_ldc (v := (-1000002)) (pc := 40) dX6_takeBack_40 kc_X6_84 ?_
      exact sh_ret_i (pc := 42) dX6_takeBack_42 rfl ⟨rfl, rfl⟩ h
    · have h := h.2 hc5
      refine sh_aload_n (pc := 26) dX6_takeBack_26 rfl ?_
      refine sh_gf (pc := 27) dX6_takeBack_27 fl_X6_18 cf_6 hk rfl rfl ?_
      refine sh_aload_n (pc := 30) dX6_takeBack_30 rfl ?_
      refine sh_gf (pc := 31) dX6_takeBack_31 fl_X6_155 cf_7 ⟨hk.1, vp_lt hi4⟩ rfl rfl ?_
      refine sh_ci (N := mX2_has) (pc := 34) dX6_takeBack_34 ml_X6_59 h mf_X2_has iv_X2_has ⟨Nat.le_of_ble_eq_true rfl, Nat.le_of_ble_eq_true rfl⟩ rfl rfl (Nat.le_of_ble_eq_true rfl) hk rfl (show vwCl[2]? = some (RX2, TX2, 5) from rfl) rfl (fun r7 S6 h => ?_)
      refine sh_if_ne (tgt := 43) (pc := 37) dX6_takeBack_37 (by decide) (fun hc8 => ?_) (fun hc8 => ?_)
      · have h := h.1 hc8
        refine sh_iconst (v := 0) (pc := 43) dX6_takeBack_43 rfl ?_
        refine sh_aload_n (pc := 44) dX6_takeBack_44 rfl ?_
        refine sh_gf (pc := 45) dX6_takeBack_45 fl_X6_49 cf_6 hk rfl rfl ?_
        refine sh_aload_n (pc := 48) dX6_takeBack_48 rfl ?_
        refine sh_gf (pc := 49) dX6_takeBack_49 fl_X6_152 cf_7 ⟨hk.1, vp_lt hi4⟩ rfl rfl ?_
        refine sh_isub (pc := 52) dX6_takeBack_52 ?_
        refine sh_max (pc := 53) dX6_takeBack_53 ml_X6_158 jw_max.1 jw_max.2.1 jw_max.2.2 (Nat.le_of_ble_eq_true rfl) (Nat.le_of_ble_eq_true rfl) ⟨Nat.le_refl _, Nat.le_refl _⟩ ?_
        refine sh_topI (fun x9 hx9 => ?_)
        have h := h x9 hx9
        refine sh_aload_n (pc := 56) dX6_takeBack_56 rfl ?_
        refine sh_gf (pc := 57) dX6_takeBack_57 fl_X6_9 cf_6 hk rfl rfl ?_
        refine sh_iconst (v := 2) (pc := 60) dX6_takeBack_60 rfl ?_
        refine sh_ia (pc := 61) dX6_takeBack_61 hk rfl (vp_in_iff.mpr ⟨by decide, by decide⟩) ?_
        refine sh_imul (pc := 62) dX6_takeBack_62 ?_
        refine sh_topI (fun x11 hx11 => ?_)
        have h := h x11 hx11
        refine sh_istore_n (ls' := [(3, sh_I x11), (2, sh_R (7, k, (a1.toNatClampNeg))), (0, sh_R (6, k, 0)), (1, sh_I a1)]) (pc := 63) dX6_takeBack_63 (by decide) rfl ?_
        refine sh_aload_n (pc := 64) dX6_takeBack_64 rfl ?_
        refine sh_gf (pc := 65) dX6_takeBack_65 fl_X6_18 cf_6 hk rfl rfl ?_
        refine sh_gf (pc := 68) dX6_takeBack_68 fl_X6_63 cf_2 hk rfl rfl ?_
        refine sh_aload_n (pc := 71) dX6_takeBack_71 rfl ?_
        refine sh_gf (pc := 72) dX6_takeBack_72 fl_X6_155 cf_7 ⟨hk.1, vp_lt hi4⟩ rfl rfl ?_
        obtain ⟨hi12, h⟩ := h
        refine sh_aa (o' := (1, k, ((S6 (7, k, (a1.toNatClampNeg)) 5).toNatClampNeg))) (pc := 75) dX6_takeBack_75 (by decide) hk rfl hi12 rfl ?_
        refine sh_iconst (v := 1) (pc := 76) dX6_takeBack_76 rfl ?_
        refine sh_iload_n (pc := 77) dX6_takeBack_77 rfl ?_
        refine sh_cu (N := mX1_charge) (pc := 78) dX6_takeBack_78 ml_X6_163 h mf_X1_charge iv_X1_charge ⟨Nat.le_of_ble_eq_true rfl, Nat.le_of_ble_eq_true rfl⟩ rfl rfl (Nat.le_of_ble_eq_true rfl) ⟨hk.1, vp_lt hi12⟩ rfl (show vwCl[1]? = some (RX1, TX1, 1) from rfl) rfl (fun S13 h => ?_)
        refine sh_aload_n (pc := 81) dX6_takeBack_81 rfl ?_
        refine sh_aload_n (pc := 82) dX6_takeBack_82 rfl ?_
        refine sh_gf (pc := 83) dX6_takeBack_83 fl_X6_49 cf_6 hk rfl rfl ?_
        refine sh_cu (N := mX7_comeIn) (pc := 86) dX6_takeBack_86 ml_X6_167 h mf_X7_comeIn iv_X7_comeIn ⟨Nat.le_of_ble_eq_true rfl, Nat.le_of_ble_eq_true rfl⟩ rfl rfl (Nat.le_of_ble_eq_true rfl) ⟨hk.1, vp_lt hi4⟩ rfl (show vwCl[7]? = some (RX7, TX7, 14) from rfl) rfl (fun S14 h => ?_)
        refine sh_iload_n (pc := 89) dX6_takeBack_89 rfl ?_
        exact sh_ret_i (pc := 90) dX6_takeBack_90 rfl ⟨rfl, rfl⟩ h
      · have h := h.2 hc8
        refine sh_ldc (v := (-1000002)) (pc := 40) dX6_takeBack_40 kc_X6_84 ?_
        exact sh_ret_i (pc := 42) dX6_takeBack_42 rfl ⟨rfl, rfl⟩ h
  · have h := h.2 hc3
    refine sh_ldc (v := (-1000001)) (pc := 8) dX6_takeBack_8 kc_X6_58 ?_
    exact sh_ret_i (pc := 10) dX6_takeBack_10 rfl ⟨rfl, rfl⟩ h

set_option maxRecDepth 100000 in
set_option maxHeartbeats 4000000 in
theorem wp_X7_isCutterInShed {g : sh_G} {S : sh_S} {sz : Nat} {Q : Int32 → sh_S → Prop} {k i : Nat} (hk : sh_ok (7, k, i)) 
    (h : ((¬ (S (7, k, i) 0) = 0 → Q 0 S) ∧ ((S (7, k, i) 0) = 0 → ((¬ (S (7, k, i) 4) = 0 → Q 0 S) ∧ ((S (7, k, i) 4) = 0 → Q 1 S))))) :
    sh_Ci g mX7_isCutterInShed [sh_R (7, k, i)] S sz Q := by
  refine sh_enter (ls := [(0, sh_R (7, k, i))]) (by decide +kernel) (Nat.le_of_ble_eq_true rfl) rfl ?_
  refine sh_aload_n (pc := 0) dX7_isCutterInShed_0 rfl ?_
  refine sh_gf (pc := 1) dX7_isCutterInShed_1 fl_X7_25 cf_7 hk rfl rfl ?_
  refine sh_if_ne (tgt := 18) (pc := 4) dX7_isCutterInShed_4 (by decide) (fun hc1 => ?_) (fun hc1 => ?_)
  · have h := h.1 hc1
    refine sh_iconst (v := 0) (pc := 18) dX7_isCutterInShed_18 rfl ?_
    exact sh_ret_z (pc := 19) dX7_isCutterInShed_19 rfl rfl ⟨rfl, rfl⟩ h
  · have h := h.2 hc1
    refine sh_aload_n (pc := 7) dX7_isCutterInShed_7 rfl ?_
    refine sh_gf (pc := 8) dX7_isCutterInShed_8 fl_X7_39 cf_7 hk rfl rfl ?_
    refine sh_if_ne (tgt := 18) (pc := 11) dX7_isCutterInShed_11 (by decide) (fun hc2 => ?_) (fun hc2 => ?_)
    · have h := h.1 hc2
      refine sh_iconst (v := 0) (pc := 18) dX7_isCutterInShed_18 rfl ?_
      exact sh_ret_z (pc := 19) dX7_isCutterInShed_19 rfl rfl ⟨rfl, rfl⟩ h
    · have h := h.2 hc2
      refine sh_iconst (v := 1) (pc := 14) dX7_isCutterInShed_14 rfl ?_
      refine sh_goto (tgt := 19) (pc := 15) dX7_isCutterInShed_15 (by decide) ?_
      exact sh_ret_z (pc := 19) dX7_isCutterInShed_19 rfl rfl ⟨rfl, rfl⟩ h

set_option maxRecDepth 100000 in
set_option maxHeartbeats 4000000 in
theorem wp_X6_cuttersAheadOf {g : sh_G} {S : sh_S} {sz : Nat} {Q : Int32 → sh_S → Prop} {k : Nat} (hk : sh_ok (6, k, 0)) {a1 : Int32} 
    (h : (sh_Ci g mX6_hasTool [sh_R (6, k, 0), sh_I a1] S sz (fun r2 S1 => ((¬ r2 = 0 → (vp_in a1 20 ∧ (∀ f5 : UInt32, f5 = ((S1 (7, k, (a1.toNatClampNeg)) 3).toUInt32) → (∃ (Iv6 : Int32 → Int32 → sh_S → Prop) (mu6 : Int32 → Int32 → sh_S → Nat), Iv6 0 0 S1 ∧ ∀ (v7 : Int32) (v8 : Int32) (S9 : sh_S), Iv6 v7 v8 S9 → (((S9 (6, k, 0) 3) ≤ v8 → Q v7 S9) ∧ (¬ (S9 (6, k, 0) 3) ≤ v8 → (sh_Ci g mX6_hasTool [sh_R (6, k, 0), sh_I v8] S9 sz (fun r12 S11 => ((r12 = 0 → (∀ x14 : Int32, x14 = v8 + 1 → (Iv6 v7 x14 S11 ∧ mu6 v7 x14 S11 < mu6 v7 v8 S9))) ∧ (¬ r12 = 0 → (vp_in v8 20 ∧ (sh_Ci g mX7_isCutterInShed [sh_R (7, k, (v8.toNatClampNeg))] S11 sz (fun r17 S16 => ((r17 = 0 → (∀ x19 : Int32, x19 = v8 + 1 → (Iv6 v7 x19 S16 ∧ mu6 v7 x19 S16 < mu6 v7 v8 S9))) ∧ (¬ r17 = 0 → (vp_in v8 20 ∧ (∀ f21 : UInt32, f21 = ((S16 (7, k, (v8.toNatClampNeg)) 3).toUInt32) → (((Op.cmpValue (FP.fcmp f21 f5) .g) < 0 → (∀ x23 : Int32, x23 = v7 + 1 → (∀ x24 : Int32, x24 = v8 + 1 → (Iv6 x23 x24 S16 ∧ mu6 x23 x24 S16 < mu6 v7 v8 S9)))) ∧ (¬ (Op.cmpValue (FP.fcmp f21 f5) .g) < 0 → ((¬ (Op.cmpValue (FP.fcmp f21 f5) .l) = 0 → (∀ x26 : Int32, x26 = v8 + 1 → (Iv6 v7 x26 S16 ∧ mu6 v7 x26 S16 < mu6 v7 v8 S9))) ∧ ((Op.cmpValue (FP.fcmp f21 f5) .l) = 0 → ((a1 ≤ v8 → (∀ x28 : Int32, x28 = v8 + 1 → (Iv6 v7 x28 S16 ∧ mu6 v7 x28 S16 < mu6 v7 v8 S9))) ∧ (¬ a1 ≤ v8 → (∀ x29 : Int32, x29 = v7 + 1 → (∀ x30 : Int32, x30 = v8 + 1 → (Iv6 x29 x30 S16 ∧ mu6 x29 x30 S16 < mu6 v7 v8 S9)))))))))))))))))))))))))) ∧ (r2 = 0 → Q 0 S1))))) :
    sh_Ci g mX6_cuttersAheadOf [sh_R (6, k, 0), sh_I a1] S sz Q := by
  refine sh_enter (ls := [(0, sh_R (6, k, 0)), (1, sh_I a1)]) (by decide +kernel) (Nat.le_of_ble_eq_true rfl) rfl ?_
  refine sh_aload_n (pc := 0) dX6_cuttersAheadOf_0 rfl ?_
  refine sh_iload_n (pc := 1) dX6_cuttersAheadOf_1 rfl ?_
  refine sh_ci (N := mX6_hasTool) (pc := 2) dX6_cuttersAheadOf_2 ml_X6_88 h mf_X6_hasTool iv_X6_hasTool ⟨Nat.le_of_ble_eq_true rfl, Nat.le_of_ble_eq_true rfl⟩ rfl rfl (Nat.le_of_ble_eq_true rfl) hk rfl (show vwCl[6]? = some (RX6, TX6, 5) from rfl) rfl (fun r2 S1 h => ?_)
  refine sh_if_ne (tgt := 10) (pc := 5) dX6_cuttersAheadOf_5 (by decide) (fun hc3 => ?_) (fun hc3 => ?_)
  · have h := h.1 hc3
    refine sh_aload_n (pc := 10) dX6_cuttersAheadOf_10 rfl ?_
    refine sh_gf (pc := 11) dX6_cuttersAheadOf_11 fl_X6_24 cf_6 hk rfl rfl ?_
    refine sh_iload_n (pc := 14) dX6_cuttersAheadOf_14 rfl ?_
    obtain ⟨hi4, h⟩ := h
    refine sh_aa (o' := (7, k, (a1.toNatClampNeg))) (pc := 15) dX6_cuttersAheadOf_15 (by decide) hk rfl hi4 rfl ?_
    refine sh_gf (pc := 16) dX6_cuttersAheadOf_16 fl_X6_174 cf_7 ⟨hk.1, vp_lt hi4⟩ rfl rfl ?_
    refine sh_topF (fun f5 hf5 => ?_)
    have h := h f5 hf5
    refine sh_fstore_n (ls' := [(2, sh_F f5), (0, sh_R (6, k, 0)), (1, sh_I a1)]) (pc := 19) dX6_cuttersAheadOf_19 (by decide) rfl ?_
    refine sh_iconst (v := 0) (pc := 20) dX6_cuttersAheadOf_20 rfl ?_
    refine sh_istore_n (ls' := [(3, sh_I 0), (2, sh_F f5), (0, sh_R (6, k, 0)), (1, sh_I a1)]) (pc := 21) dX6_cuttersAheadOf_21 (by decide) rfl ?_
    refine sh_iconst (v := 0) (pc := 22) dX6_cuttersAheadOf_22 rfl ?_
    refine sh_istore (ls' := [(4, sh_I 0), (3, sh_I 0), (2, sh_F f5), (0, sh_R (6, k, 0)), (1, sh_I a1)]) (pc := 23) dX6_cuttersAheadOf_23 (by decide) rfl ?_
    obtain ⟨Iv6, mu6, h0, hs6⟩ := h
    refine sh_pick [3, 4, 2, 1, 0] rfl ?_
    refine sh_lp3 Iv6 mu6 (fun v7 v8 S9 => sh_V g mX6_cuttersAheadOf 0 0 25 [(0, sh_R (6, k, 0)), (1, sh_I a1), (2, sh_F f5), (3, sh_I v7), (4, sh_I v8)] [] (sh_St S9) sz (sh_ti sz Q)) (fun v7 v8 S9 hI6 ih6 => ?_) _ _ _ h0
    have h := hs6 v7 v8 S9 hI6
    clear h0
    refine sh_iload (pc := 25) dX6_cuttersAheadOf_25 rfl ?_
    refine sh_aload_n (pc := 27) dX6_cuttersAheadOf_27 rfl ?_
    refine sh_gf (pc := 28) dX6_cuttersAheadOf_28 fl_X6_45 cf_6 hk rfl rfl ?_
    refine sh_icmp_ge (tgt := 97) (pc := 31) dX6_cuttersAheadOf_31 (by decide) (fun hc10 => ?_) (fun hc10 => ?_)
    · have h := h.1 hc10
      refine sh_iload_n (pc := 97) dX6_cuttersAheadOf_97 rfl ?_
      exact sh_ret_i (pc := 98) dX6_cuttersAheadOf_98 rfl ⟨rfl, rfl⟩ h
    · have h := h.2 hc10
      refine sh_aload_n (pc := 34) dX6_cuttersAheadOf_34 rfl ?_
      refine sh_iload (pc := 35) dX6_cuttersAheadOf_35 rfl ?_
      refine sh_ci (N := mX6_hasTool) (pc := 37) dX6_cuttersAheadOf_37 ml_X6_88 h mf_X6_hasTool iv_X6_hasTool ⟨Nat.le_of_ble_eq_true rfl, Nat.le_of_ble_eq_true rfl⟩ rfl rfl (Nat.le_of_ble_eq_true rfl) hk rfl (show vwCl[6]? = some (RX6, TX6, 5) from rfl) rfl (fun r12 S11 h => ?_)
      refine sh_if_eq (tgt := 91) (pc := 40) dX6_cuttersAheadOf_40 (by decide) (fun hc13 => ?_) (fun hc13 => ?_)
      · have h := h.1 hc13
        obtain ⟨x14, hx14⟩ : ∃ y : Int32, y = v8 + 1 := ⟨_, rfl⟩
        have h := h x14 hx14
        refine sh_iinc (v := x14) (ls' := [(4, sh_I x14), (0, sh_R (6, k, 0)), (1, sh_I a1), (2, sh_F f5), (3, sh_I v7)]) (pc := 91) dX6_cuttersAheadOf_91 rfl hx14.symm (by decide) rfl ?_
        refine sh_goto (tgt := 25) (pc := 94) dX6_cuttersAheadOf_94 (by decide) ?_
        refine sh_pick [1, 2, 3, 4, 0] rfl ?_
        exact ih6 _ _ _ h.1 h.2
      · have h := h.2 hc13
        refine sh_aload_n (pc := 43) dX6_cuttersAheadOf_43 rfl ?_
        refine sh_gf (pc := 44) dX6_cuttersAheadOf_44 fl_X6_24 cf_6 hk rfl rfl ?_
        refine sh_iload (pc := 47) dX6_cuttersAheadOf_47 rfl ?_
        obtain ⟨hi15, h⟩ := h
        refine sh_aa (o' := (7, k, (v8.toNatClampNeg))) (pc := 49) dX6_cuttersAheadOf_49 (by decide) hk rfl hi15 rfl ?_
        refine sh_ci (N := mX7_isCutterInShed) (pc := 50) dX6_cuttersAheadOf_50 ml_X6_191 h mf_X7_isCutterInShed iv_X7_isCutterInShed ⟨Nat.le_of_ble_eq_true rfl, Nat.le_of_ble_eq_true rfl⟩ rfl rfl (Nat.le_of_ble_eq_true rfl) ⟨hk.1, vp_lt hi15⟩ rfl (show vwCl[7]? = some (RX7, TX7, 14) from rfl) rfl (fun r17 S16 h => ?_)
        refine sh_if_eq (tgt := 91) (pc := 53) dX6_cuttersAheadOf_53 (by decide) (fun hc18 => ?_) (fun hc18 => ?_)
        · have h := h.1 hc18
          obtain ⟨x19, hx19⟩ : ∃ y : Int32, y = v8 + 1 := ⟨_, rfl⟩
          have h := h x19 hx19
          refine sh_iinc (v := x19) (ls' := [(4, sh_I x19), (0, sh_R (6, k, 0)), (1, sh_I a1), (2, sh_F f5), (3, sh_I v7)]) (pc := 91) dX6_cuttersAheadOf_91 rfl hx19.symm (by decide) rfl ?_
          refine sh_goto (tgt := 25) (pc := 94) dX6_cuttersAheadOf_94 (by decide) ?_
          refine sh_pick [1, 2, 3, 4, 0] rfl ?_
          exact ih6 _ _ _ h.1 h.2
        · have h := h.2 hc18
          refine sh_aload_n (pc := 56) dX6_cuttersAheadOf_56 rfl ?_
          refine sh_gf (pc := 57) dX6_cuttersAheadOf_57 fl_X6_24 cf_6 hk rfl rfl ?_
          refine sh_iload (pc := 60) dX6_cuttersAheadOf_60 rfl ?_
          obtain ⟨hi20, h⟩ := h
          refine sh_aa (o' := (7, k, (v8.toNatClampNeg))) (pc := 62) dX6_cuttersAheadOf_62 (by decide) hk rfl hi20 rfl ?_
          refine sh_gf (pc := 63) dX6_cuttersAheadOf_63 fl_X6_174 cf_7 ⟨hk.1, vp_lt hi20⟩ rfl rfl ?_
          refine sh_topF (fun f21 hf21 => ?_)
          have h := h f21 hf21
          refine sh_fstore (ls' := [(5, sh_F f21), (0, sh_R (6, k, 0)), (1, sh_I a1), (2, sh_F f5), (3, sh_I v7), (4, sh_I v8)]) (pc := 66) dX6_cuttersAheadOf_66 (by decide) rfl ?_
          refine sh_fload (pc := 68) dX6_cuttersAheadOf_68 rfl ?_
          refine sh_fload_n (pc := 70) dX6_cuttersAheadOf_70 rfl ?_
          refine sh_fcmp (pc := 71) dX6_cuttersAheadOf_71 ?_
          refine sh_if_lt (tgt := 88) (pc := 72) dX6_cuttersAheadOf_72 (by decide) (fun hc22 => ?_) (fun hc22 => ?_)
          · have h := h.1 hc22
            obtain ⟨x23, hx23⟩ : ∃ y : Int32, y = v7 + 1 := ⟨_, rfl⟩
            have h := h x23 hx23
            refine sh_iinc (v := x23) (ls' := [(3, sh_I x23), (5, sh_F f21), (0, sh_R (6, k, 0)), (1, sh_I a1), (2, sh_F f5), (4, sh_I v8)]) (pc := 88) dX6_cuttersAheadOf_88 rfl hx23.symm (by decide) rfl ?_
            obtain ⟨x24, hx24⟩ : ∃ y : Int32, y = v8 + 1 := ⟨_, rfl⟩
            have h := h x24 hx24
            refine sh_iinc (v := x24) (ls' := [(4, sh_I x24), (3, sh_I x23), (5, sh_F f21), (0, sh_R (6, k, 0)), (1, sh_I a1), (2, sh_F f5)]) (pc := 91) dX6_cuttersAheadOf_91 rfl hx24.symm (by decide) rfl ?_
            refine sh_goto (tgt := 25) (pc := 94) dX6_cuttersAheadOf_94 (by decide) ?_
            refine sh_pick [3, 4, 5, 1, 0] rfl ?_
            exact ih6 _ _ _ h.1 h.2
          · have h := h.2 hc22
            refine sh_fload (pc := 75) dX6_cuttersAheadOf_75 rfl ?_
            refine sh_fload_n (pc := 77) dX6_cuttersAheadOf_77 rfl ?_
            refine sh_fcmp (pc := 78) dX6_cuttersAheadOf_78 ?_
            refine sh_if_ne (tgt := 91) (pc := 79) dX6_cuttersAheadOf_79 (by decide) (fun hc25 => ?_) (fun hc25 => ?_)
            · have h := h.1 hc25
              obtain ⟨x26, hx26⟩ : ∃ y : Int32, y = v8 + 1 := ⟨_, rfl⟩
              have h := h x26 hx26
              refine sh_iinc (v := x26) (ls' := [(4, sh_I x26), (5, sh_F f21), (0, sh_R (6, k, 0)), (1, sh_I a1), (2, sh_F f5), (3, sh_I v7)]) (pc := 91) dX6_cuttersAheadOf_91 rfl hx26.symm (by decide) rfl ?_
              refine sh_goto (tgt := 25) (pc := 94) dX6_cuttersAheadOf_94 (by decide) ?_
              refine sh_pick [2, 3, 4, 5, 0] rfl ?_
              exact ih6 _ _ _ h.1 h.2
            · have h := h.2 hc25
              refine sh_iload (pc := 82) dX6_cuttersAheadOf_82 rfl ?_
              refine sh_iload_n (pc := 84) dX6_cuttersAheadOf_84 rfl ?_
              refine sh_icmp_ge (tgt := 91) (pc := 85) dX6_cuttersAheadOf_85 (by decide) (fun hc27 => ?_) (fun hc27 => ?_)
              · have h := h.1 hc27
                obtain ⟨x28, hx28⟩ : ∃ y : Int32, y = v8 + 1 := ⟨_, rfl⟩
                have h := h x28 hx28
                refine sh_iinc (v := x28) (ls' := [(4, sh_I x28), (5, sh_F f21), (0, sh_R (6, k, 0)), (1, sh_I a1), (2, sh_F f5), (3, sh_I v7)]) (pc := 91) dX6_cuttersAheadOf_91 rfl hx28.symm (by decide) rfl ?_
                refine sh_goto (tgt := 25) (pc := 94) dX6_cuttersAheadOf_94 (by decide) ?_
                refine sh_pick [2, 3, 4, 5, 0] rfl ?_
                exact ih6 _ _ _ h.1 h.2
              · have h := h.2 hc27
                obtain ⟨x29, hx29⟩ : ∃ y : Int32, y = v7 + 1 := ⟨_, rfl⟩
                have h := h x29 hx29
                refine sh_iinc (v := x29) (ls' := [(3, sh_I x29), (5, sh_F f21), (0, sh_R (6, k, 0)), (1, sh_I a1), (2, sh_F f5), (4, sh_I v8)]) (pc := 88) dX6_cuttersAheadOf_88 rfl hx29.symm (by decide) rfl ?_
                obtain ⟨x30, hx30⟩ : ∃ y : Int32, y = v8 + 1 := ⟨_, rfl⟩
                have h := h x30 hx30
                refine sh_iinc (v := x30) (ls' := [(4, sh_I x30), (3, sh_I x29), (5, sh_F f21), (0, sh_R (6, k, 0)), (1, sh_I a1), (2, sh_F f5)]) (pc := 91) dX6_cuttersAheadOf_91 rfl hx30.symm (by decide) rfl ?_
                refine sh_goto (tgt := 25) (pc := 94) dX6_cuttersAheadOf_94 (by decide) ?_
                refine sh_pick [3, 4, 5, 1, 0] rfl ?_
                exact ih6 _ _ _ h.1 h.2
  · have h := h.2 hc3
    refine sh_iconst (v := 0) (pc := 8) dX6_cuttersAheadOf_8 rfl ?_
    exact sh_ret_i (pc := 9) dX6_cuttersAheadOf_9 rfl ⟨rfl, rfl⟩ h

set_option maxRecDepth 100000 in
set_option maxHeartbeats 4000000 in
theorem wp_X6_cutterInOrder {g : sh_G} {S : sh_S} {sz : Nat} {Q : Int32 → sh_S → Prop} {k : Nat} (hk : sh_ok (6, k, 0)) {a1 : Int32} 
    (h : ((0 ≤ a1 → (∃ (Iv2 : Int32 → sh_S → Prop) (mu2 : Int32 → sh_S → Nat), Iv2 0 S ∧ ∀ (v3 : Int32) (S4 : sh_S), Iv2 v3 S4 → (((S4 (6, k, 0) 3) ≤ v3 → Q (-1000004) S4) ∧ (¬ (S4 (6, k, 0) 3) ≤ v3 → (sh_Ci g mX6_hasTool [sh_R (6, k, 0), sh_I v3] S4 sz (fun r7 S6 => ((r7 = 0 → (∀ x9 : Int32, x9 = v3 + 1 → (Iv2 x9 S6 ∧ mu2 x9 S6 < mu2 v3 S4))) ∧ (¬ r7 = 0 → (vp_in v3 20 ∧ (sh_Ci g mX7_isCutterInShed [sh_R (7, k, (v3.toNatClampNeg))] S6 sz (fun r12 S11 => ((r12 = 0 → (∀ x14 : Int32, x14 = v3 + 1 → (Iv2 x14 S11 ∧ mu2 x14 S11 < mu2 v3 S4))) ∧ (¬ r12 = 0 → (sh_Ci g mX6_cuttersAheadOf [sh_R (6, k, 0), sh_I v3] S11 sz (fun r16 S15 => ((¬ r16 = a1 → (∀ x18 : Int32, x18 = v3 + 1 → (Iv2 x18 S15 ∧ mu2 x18 S15 < mu2 v3 S4))) ∧ (r16 = a1 → Q v3 S15))))))))))))))))) ∧ (¬ 0 ≤ a1 → Q (-1000001) S))) :
    sh_Ci g mX6_cutterInOrder [sh_R (6, k, 0), sh_I a1] S sz Q := by
  refine sh_enter (ls := [(0, sh_R (6, k, 0)), (1, sh_I a1)]) (by decide +kernel) (Nat.le_of_ble_eq_true rfl) rfl ?_
  refine sh_iload_n (pc := 0) dX6_cutterInOrder_0 rfl ?_
  refine sh_if_ge (tgt := 7) (pc := 1) dX6_cutterInOrder_1 (by decide) (fun hc1 => ?_) (fun hc1 => ?_)
  · have h := h.1 hc1
    refine sh_iconst (v := 0) (pc := 7) dX6_cutterInOrder_7 rfl ?_
    refine sh_istore_n (ls' := [(2, sh_I 0), (0, sh_R (6, k, 0)), (1, sh_I a1)]) (pc := 8) dX6_cutterInOrder_8 (by decide) rfl ?_
    obtain ⟨Iv2, mu2, h0, hs2⟩ := h
    refine sh_pick [1, 2, 0] rfl ?_
    refine sh_lp2 Iv2 mu2 (fun v3 S4 => sh_V g mX6_cutterInOrder 0 0 9 [(0, sh_R (6, k, 0)), (1, sh_I a1), (2, sh_I v3)] [] (sh_St S4) sz (sh_ti sz Q)) (fun v3 S4 hI2 ih2 => ?_) _ _ h0
    have h := hs2 v3 S4 hI2
    clear h0
    refine sh_iload_n (pc := 9) dX6_cutterInOrder_9 rfl ?_
    refine sh_aload_n (pc := 10) dX6_cutterInOrder_10 rfl ?_
    refine sh_gf (pc := 11) dX6_cutterInOrder_11 fl_X6_45 cf_6 hk rfl rfl ?_
    refine sh_icmp_ge (tgt := 54) (pc := 14) dX6_cutterInOrder_14 (by decide) (fun hc5 => ?_) (fun hc5 => ?_)
    · have h := h.1 hc5
      refine sh_ldc (v := (-1000004)) (pc := 54) dX6_cutterInOrder_54 kc_X6_144 ?_
      exact sh_ret_i (pc := 56) dX6_cutterInOrder_56 rfl ⟨rfl, rfl⟩ h
    · have h := h.2 hc5
      refine sh_aload_n (pc := 17) dX6_cutterInOrder_17 rfl ?_
      refine sh_iload_n (pc := 18) dX6_cutterInOrder_18 rfl ?_
      refine sh_ci (N := mX6_hasTool) (pc := 19) dX6_cutterInOrder_19 ml_X6_88 h mf_X6_hasTool iv_X6_hasTool ⟨Nat.le_of_ble_eq_true rfl, Nat.le_of_ble_eq_true rfl⟩ rfl rfl (Nat.le_of_ble_eq_true rfl) hk rfl (show vwCl[6]? = some (RX6, TX6, 5) from rfl) rfl (fun r7 S6 h => ?_)
      refine sh_if_eq (tgt := 48) (pc := 22) dX6_cutterInOrder_22 (by decide) (fun hc8 => ?_) (fun hc8 => ?_)
      · have h := h.1 hc8
        obtain ⟨x9, hx9⟩ : ∃ y : Int32, y = v3 + 1 := ⟨_, rfl⟩
        have h := h x9 hx9
        refine sh_iinc (v := x9) (ls' := [(2, sh_I x9), (0, sh_R (6, k, 0)), (1, sh_I a1)]) (pc := 48) dX6_cutterInOrder_48 rfl hx9.symm (by decide) rfl ?_
        refine sh_goto (tgt := 9) (pc := 51) dX6_cutterInOrder_51 (by decide) ?_
        refine sh_pick [1, 2, 0] rfl ?_
        exact ih2 _ _ h.1 h.2
      · have h := h.2 hc8
        refine sh_aload_n (pc := 25) dX6_cutterInOrder_25 rfl ?_
        refine sh_gf (pc := 26) dX6_cutterInOrder_26 fl_X6_24 cf_6 hk rfl rfl ?_
        refine sh_iload_n (pc := 29) dX6_cutterInOrder_29 rfl ?_
        obtain ⟨hi10, h⟩ := h
        refine sh_aa (o' := (7, k, (v3.toNatClampNeg))) (pc := 30) dX6_cutterInOrder_30 (by decide) hk rfl hi10 rfl ?_
        refine sh_ci (N := mX7_isCutterInShed) (pc := 31) dX6_cutterInOrder_31 ml_X6_191 h mf_X7_isCutterInShed iv_X7_isCutterInShed ⟨Nat.le_of_ble_eq_true rfl, Nat.le_of_ble_eq_true rfl⟩ rfl rfl (Nat.le_of_ble_eq_true rfl) ⟨hk.1, vp_lt hi10⟩ rfl (show vwCl[7]? = some (RX7, TX7, 14) from rfl) rfl (fun r12 S11 h => ?_)
        refine sh_if_eq (tgt := 48) (pc := 34) dX6_cutterInOrder_34 (by decide) (fun hc13 => ?_) (fun hc13 => ?_)
        · have h := h.1 hc13
          obtain ⟨x14, hx14⟩ : ∃ y : Int32, y = v3 + 1 := ⟨_, rfl⟩
          have h := h x14 hx14
          refine sh_iinc (v := x14) (ls' := [(2, sh_I x14), (0, sh_R (6, k, 0)), (1, sh_I a1)]) (pc := 48) dX6_cutterInOrder_48 rfl hx14.symm (by decide) rfl ?_
          refine sh_goto (tgt := 9) (pc := 51) dX6_cutterInOrder_51 (by decide) ?_
          refine sh_pick [1, 2, 0] rfl ?_
          exact ih2 _ _ h.1 h.2
        · have h := h.2 hc13
          refine sh_aload_n (pc := 37) dX6_cutterInOrder_37 rfl ?_
          refine sh_iload_n (pc := 38) dX6_cutterInOrder_38 rfl ?_
          refine sh_ci (N := mX6_cuttersAheadOf) (pc := 39) dX6_cutterInOrder_39 ml_X6_194 h mf_X6_cuttersAheadOf iv_X6_cuttersAheadOf ⟨Nat.le_of_ble_eq_true rfl, Nat.le_of_ble_eq_true rfl⟩ rfl rfl (Nat.le_of_ble_eq_true rfl) hk rfl (show vwCl[6]? = some (RX6, TX6, 5) from rfl) rfl (fun r16 S15 h => ?_)
          refine sh_iload_n (pc := 42) dX6_cutterInOrder_42 rfl ?_
          refine sh_icmp_ne (tgt := 48) (pc := 43) dX6_cutterInOrder_43 (by decide) (fun hc17 => ?_) (fun hc17 => ?_)
          · have h := h.1 hc17
            obtain ⟨x18, hx18⟩ : ∃ y : Int32, y = v3 + 1 := ⟨_, rfl⟩
            have h := h x18 hx18
            refine sh_iinc (v := x18) (ls' := [(2, sh_I x18), (0, sh_R (6, k, 0)), (1, sh_I a1)]) (pc := 48) dX6_cutterInOrder_48 rfl hx18.symm (by decide) rfl ?_
            refine sh_goto (tgt := 9) (pc := 51) dX6_cutterInOrder_51 (by decide) ?_
            refine sh_pick [1, 2, 0] rfl ?_
            exact ih2 _ _ h.1 h.2
          · have h := h.2 hc17
            refine sh_iload_n (pc := 46) dX6_cutterInOrder_46 rfl ?_
            exact sh_ret_i (pc := 47) dX6_cutterInOrder_47 rfl ⟨rfl, rfl⟩ h
  · have h := h.2 hc1
    refine sh_ldc (v := (-1000001)) (pc := 4) dX6_cutterInOrder_4 kc_X6_58 ?_
    exact sh_ret_i (pc := 6) dX6_cutterInOrder_6 rfl ⟨rfl, rfl⟩ h

set_option maxRecDepth 100000 in
set_option maxHeartbeats 4000000 in
theorem wp_X8_thousandths {g : sh_G} {S : sh_S} {sz : Nat} {Q : Int32 → sh_S → Prop} {a1 : UInt32} 
    (h : (vf_n32 (FP.fmul a1 1148846080) ∧ (∀ f2 : UInt32, f2 = (FP.fmul a1 1148846080) → Q (FP.f2i f2) S))) :
    sh_Ci g mX8_thousandths [sh_F a1] S sz Q := by
  refine sh_enter (ls := [(0, sh_F a1)]) (by decide +kernel) (Nat.le_of_ble_eq_true rfl) rfl ?_
  refine sh_fload_n (pc := 0) dX8_thousandths_0 rfl ?_
  refine sh_ldcf (v := 1148846080) (pc := 1) dX8_thousandths_1 kc_X8_186 ?_
  obtain ⟨hf1, h⟩ := h
  refine sh_fmul (pc := 3) dX8_thousandths_3 hf1 ?_
  refine sh_topF (fun f2 hf2 => ?_)
  have h := h f2 hf2
  refine sh_f2i (pc := 4) dX8_thousandths_4 ?_
  exact sh_ret_i (pc := 5) dX8_thousandths_5 rfl ⟨rfl, rfl⟩ h

set_option maxRecDepth 100000 in
set_option maxHeartbeats 4000000 in
theorem wp_X7_sharpenBy {g : sh_G} {S : sh_S} {sz : Nat} {Q : sh_S → Prop} {k i : Nat} (hk : sh_ok (7, k, i)) {a1 : Int32} 
    (h : (vf_n32 (FP.fsub FP.fconst1 ((S (7, k, i) 3).toUInt32)) ∧ (∀ f2 : UInt32, f2 = (FP.fsub FP.fconst1 ((S (7, k, i) 3).toUInt32)) → (vf_n32 (FP.fmul f2 (FP.i2f a1)) ∧ (∀ f4 : UInt32, f4 = (FP.fmul f2 (FP.i2f a1)) → (vf_n32 (FP.fdiv f4 1120403456) ∧ (∀ f6 : UInt32, f6 = (FP.fdiv f4 1120403456) → (vf_n32 (FP.fadd ((S (7, k, i) 3).toUInt32) f6) ∧ (∀ f8 : UInt32, f8 = (FP.fadd ((S (7, k, i) 3).toUInt32) f6) → (∀ S9 : sh_S, S9 = sh_sr S (7, k, i) (upd (S (7, k, i)) 3 ((f8).toInt32)) → Q S9)))))))))) :
    sh_Cu g mX7_sharpenBy [sh_R (7, k, i), sh_I a1] S sz Q := by
  refine sh_enter (ls := [(0, sh_R (7, k, i)), (1, sh_I a1)]) (by decide +kernel) (Nat.le_of_ble_eq_true rfl) rfl ?_
  refine sh_fconst1 (pc := 0) dX7_sharpenBy_0 ?_
  refine sh_aload_n (pc := 1) dX7_sharpenBy_1 rfl ?_
  refine sh_gf (pc := 2) dX7_sharpenBy_2 fl_X7_35 cf_7 hk rfl rfl ?_
  obtain ⟨hf1, h⟩ := h
  refine sh_fsub (pc := 5) dX7_sharpenBy_5 hf1 ?_
  refine sh_topF (fun f2 hf2 => ?_)
  have h := h f2 hf2
  refine sh_iload_n (pc := 6) dX7_sharpenBy_6 rfl ?_
  refine sh_i2f (pc := 7) dX7_sharpenBy_7 ?_
  obtain ⟨hf3, h⟩ := h
  refine sh_fmul (pc := 8) dX7_sharpenBy_8 hf3 ?_
  refine sh_topF (fun f4 hf4 => ?_)
  have h := h f4 hf4
  refine sh_fstore_n (ls' := [(2, sh_F f4), (0, sh_R (7, k, i)), (1, sh_I a1)]) (pc := 9) dX7_sharpenBy_9 (by decide) rfl ?_
  refine sh_aload_n (pc := 10) dX7_sharpenBy_10 rfl ?_
  refine sh_aload_n (pc := 11) dX7_sharpenBy_11 rfl ?_
  refine sh_gf (pc := 12) dX7_sharpenBy_12 fl_X7_35 cf_7 hk rfl rfl ?_
  refine sh_fload_n (pc := 15) dX7_sharpenBy_15 rfl ?_
  refine sh_ldcf (v := 1120403456) (pc := 16) dX7_sharpenBy_16 kc_X7_88 ?_
  obtain ⟨hf5, h⟩ := h
  refine sh_fdiv (pc := 18) dX7_sharpenBy_18 hf5 ?_
  refine sh_topF (fun f6 hf6 => ?_)
  have h := h f6 hf6
  obtain ⟨hf7, h⟩ := h
  refine sh_fadd (pc := 19) dX7_sharpenBy_19 hf7 ?_
  refine sh_topF (fun f8 hf8 => ?_)
  have h := h f8 hf8
  refine sh_pff (pc := 20) dX7_sharpenBy_20 fl_X7_35 cf_7 ft_7_3 hk rfl (Nat.le_of_ble_eq_true rfl) rfl ?_
  refine sh_topS (fun S9 hS9 => ?_)
  have h := h S9 hS9
  exact sh_ret_u (pc := 23) dX7_sharpenBy_23 rfl ⟨rfl, rfl⟩ h

set_option maxRecDepth 100000 in
set_option maxHeartbeats 4000000 in
theorem wp_X6_sharpenDullest {g : sh_G} {S : sh_S} {sz : Nat} {Q : Int32 → sh_S → Prop} {k : Nat} (hk : sh_ok (6, k, 0)) 
    (h : (sh_Ci g mX2_firstThereInTurns [sh_R (2, k, 0)] S sz (fun r2 S1 => (sh_Ci g mX2_has [sh_R (2, k, 0), sh_I r2] S1 sz (fun r4 S3 => ((¬ r4 = 0 → (sh_Ci g mX6_cutterInOrder [sh_R (6, k, 0), sh_I 0] S3 sz (fun r7 S6 => (sh_Ci g mX6_hasTool [sh_R (6, k, 0), sh_I r7] S6 sz (fun r9 S8 => ((r9 = 0 → Q (-1000004) S8) ∧ (¬ r9 = 0 → (vp_in r7 20 ∧ (sh_Ci g mX8_thousandths [sh_F ((S8 (7, k, (r7.toNatClampNeg)) 3).toUInt32)] S8 sz (fun r13 S12 => ((r13 < (S12 (15, k, 0) 4) → (vp_in r7 20 ∧ (sh_Cu g mX7_sharpenBy [sh_R (7, k, (r7.toNatClampNeg)), sh_I (S12 (15, k, 0) 5)] S12 sz (fun S18 => (vp_in r2 10 ∧ (sh_Cu g mX1_gainGiven [sh_R (1, k, (r2.toNatClampNeg)), sh_I (S18 (15, k, 0) 3)] S18 sz (fun S21 => (sh_Cu g mX2_moveToEndOfTurns [sh_R (2, k, 0), sh_I r2] S21 sz (fun S22 => Q r7 S22))))))))) ∧ (¬ r13 < (S12 (15, k, 0) 4) → Q (-1000004) S12)))))))))))) ∧ (r4 = 0 → Q (-1000002) S3))))))) :
    sh_Ci g mX6_sharpenDullest [sh_R (6, k, 0)] S sz Q := by
  refine sh_enter (ls := [(0, sh_R (6, k, 0))]) (by decide +kernel) (Nat.le_of_ble_eq_true rfl) rfl ?_
  refine sh_aload_n (pc := 0) dX6_sharpenDullest_0 rfl ?_
  refine sh_gf (pc := 1) dX6_sharpenDullest_1 fl_X6_18 cf_6 hk rfl rfl ?_
  refine sh_ci (N := mX2_firstThereInTurns) (pc := 4) dX6_sharpenDullest_4 ml_X6_197 h mf_X2_firstThereInTurns iv_X2_firstThereInTurns ⟨Nat.le_of_ble_eq_true rfl, Nat.le_of_ble_eq_true rfl⟩ rfl rfl (Nat.le_of_ble_eq_true rfl) hk rfl (show vwCl[2]? = some (RX2, TX2, 5) from rfl) rfl (fun r2 S1 h => ?_)
  refine sh_istore_n (ls' := [(1, sh_I r2), (0, sh_R (6, k, 0))]) (pc := 7) dX6_sharpenDullest_7 (by decide) rfl ?_
  refine sh_aload_n (pc := 8) dX6_sharpenDullest_8 rfl ?_
  refine sh_gf (pc := 9) dX6_sharpenDullest_9 fl_X6_18 cf_6 hk rfl rfl ?_
  refine sh_iload_n (pc := 12) dX6_sharpenDullest_12 rfl ?_
  refine sh_ci (N := mX2_has) (pc := 13) dX6_sharpenDullest_13 ml_X6_59 h mf_X2_has iv_X2_has ⟨Nat.le_of_ble_eq_true rfl, Nat.le_of_ble_eq_true rfl⟩ rfl rfl (Nat.le_of_ble_eq_true rfl) hk rfl (show vwCl[2]? = some (RX2, TX2, 5) from rfl) rfl (fun r4 S3 h => ?_)
  refine sh_if_ne (tgt := 22) (pc := 16) dX6_sharpenDullest_16 (by decide) (fun hc5 => ?_) (fun hc5 => ?_)
  · have h := h.1 hc5
    refine sh_aload_n (pc := 22) dX6_sharpenDullest_22 rfl ?_
    refine sh_iconst (v := 0) (pc := 23) dX6_sharpenDullest_23 rfl ?_
    refine sh_ci (N := mX6_cutterInOrder) (pc := 24) dX6_sharpenDullest_24 ml_X6_200 h mf_X6_cutterInOrder iv_X6_cutterInOrder ⟨Nat.le_of_ble_eq_true rfl, Nat.le_of_ble_eq_true rfl⟩ rfl rfl (Nat.le_of_ble_eq_true rfl) hk rfl (show vwCl[6]? = some (RX6, TX6, 5) from rfl) rfl (fun r7 S6 h => ?_)
    refine sh_istore_n (ls' := [(2, sh_I r7), (1, sh_I r2), (0, sh_R (6, k, 0))]) (pc := 27) dX6_sharpenDullest_27 (by decide) rfl ?_
    refine sh_aload_n (pc := 28) dX6_sharpenDullest_28 rfl ?_
    refine sh_iload_n (pc := 29) dX6_sharpenDullest_29 rfl ?_
    refine sh_ci (N := mX6_hasTool) (pc := 30) dX6_sharpenDullest_30 ml_X6_88 h mf_X6_hasTool iv_X6_hasTool ⟨Nat.le_of_ble_eq_true rfl, Nat.le_of_ble_eq_true rfl⟩ rfl rfl (Nat.le_of_ble_eq_true rfl) hk rfl (show vwCl[6]? = some (RX6, TX6, 5) from rfl) rfl (fun r9 S8 h => ?_)
    refine sh_if_eq (tgt := 57) (pc := 33) dX6_sharpenDullest_33 (by decide) (fun hc10 => ?_) (fun hc10 => ?_)
    · have h := h.1 hc10
      refine sh_ldc (v := (-1000004)) (pc := 57) dX6_sharpenDullest_57 kc_X6_144 ?_
      exact sh_ret_i (pc := 59) dX6_sharpenDullest_59 rfl ⟨rfl, rfl⟩ h
    · have h := h.2 hc10
      refine sh_aload_n (pc := 36) dX6_sharpenDullest_36 rfl ?_
      refine sh_gf (pc := 37) dX6_sharpenDullest_37 fl_X6_24 cf_6 hk rfl rfl ?_
      refine sh_iload_n (pc := 40) dX6_sharpenDullest_40 rfl ?_
      obtain ⟨hi11, h⟩ := h
      refine sh_aa (o' := (7, k, (r7.toNatClampNeg))) (pc := 41) dX6_sharpenDullest_41 (by decide) hk rfl hi11 rfl ?_
      refine sh_gf (pc := 42) dX6_sharpenDullest_42 fl_X6_174 cf_7 ⟨hk.1, vp_lt hi11⟩ rfl rfl ?_
      refine sh_siN (N := mX8_thousandths) (pc := 45) dX6_sharpenDullest_45 nl_X6_186 h mf_X8_thousandths is_X8_thousandths ⟨Nat.le_of_ble_eq_true rfl, Nat.le_of_ble_eq_true rfl⟩ rfl rfl (Nat.le_of_ble_eq_true rfl) (fun r13 S12 h => ?_)
      refine sh_aload_n (pc := 48) dX6_sharpenDullest_48 rfl ?_
      refine sh_gf (pc := 49) dX6_sharpenDullest_49 fl_X6_9 cf_6 hk rfl rfl ?_
      refine sh_iconst (v := 4) (pc := 52) dX6_sharpenDullest_52 rfl ?_
      refine sh_ia (pc := 53) dX6_sharpenDullest_53 hk rfl (vp_in_iff.mpr ⟨by decide, by decide⟩) ?_
      refine sh_icmp_lt (tgt := 60) (pc := 54) dX6_sharpenDullest_54 (by decide) (fun hc15 => ?_) (fun hc15 => ?_)
      · have h := h.1 hc15
        refine sh_aload_n (pc := 60) dX6_sharpenDullest_60 rfl ?_
        refine sh_gf (pc := 61) dX6_sharpenDullest_61 fl_X6_24 cf_6 hk rfl rfl ?_
        refine sh_iload_n (pc := 64) dX6_sharpenDullest_64 rfl ?_
        obtain ⟨hi16, h⟩ := h
        refine sh_aa (o' := (7, k, (r7.toNatClampNeg))) (pc := 65) dX6_sharpenDullest_65 (by decide) hk rfl hi16 rfl ?_
        refine sh_aload_n (pc := 66) dX6_sharpenDullest_66 rfl ?_
        refine sh_gf (pc := 67) dX6_sharpenDullest_67 fl_X6_9 cf_6 hk rfl rfl ?_
        refine sh_iconst (v := 5) (pc := 70) dX6_sharpenDullest_70 rfl ?_
        refine sh_ia (pc := 71) dX6_sharpenDullest_71 hk rfl (vp_in_iff.mpr ⟨by decide, by decide⟩) ?_
        refine sh_cu (N := mX7_sharpenBy) (pc := 72) dX6_sharpenDullest_72 ml_X6_203 h mf_X7_sharpenBy iv_X7_sharpenBy ⟨Nat.le_of_ble_eq_true rfl, Nat.le_of_ble_eq_true rfl⟩ rfl rfl (Nat.le_of_ble_eq_true rfl) ⟨hk.1, vp_lt hi16⟩ rfl (show vwCl[7]? = some (RX7, TX7, 14) from rfl) rfl (fun S18 h => ?_)
        refine sh_aload_n (pc := 75) dX6_sharpenDullest_75 rfl ?_
        refine sh_gf (pc := 76) dX6_sharpenDullest_76 fl_X6_18 cf_6 hk rfl rfl ?_
        refine sh_gf (pc := 79) dX6_sharpenDullest_79 fl_X6_63 cf_2 hk rfl rfl ?_
        refine sh_iload_n (pc := 82) dX6_sharpenDullest_82 rfl ?_
        obtain ⟨hi19, h⟩ := h
        refine sh_aa (o' := (1, k, (r2.toNatClampNeg))) (pc := 83) dX6_sharpenDullest_83 (by decide) hk rfl hi19 rfl ?_
        refine sh_aload_n (pc := 84) dX6_sharpenDullest_84 rfl ?_
        refine sh_gf (pc := 85) dX6_sharpenDullest_85 fl_X6_9 cf_6 hk rfl rfl ?_
        refine sh_iconst (v := 3) (pc := 88) dX6_sharpenDullest_88 rfl ?_
        refine sh_ia (pc := 89) dX6_sharpenDullest_89 hk rfl (vp_in_iff.mpr ⟨by decide, by decide⟩) ?_
        refine sh_cu (N := mX1_gainGiven) (pc := 90) dX6_sharpenDullest_90 ml_X6_206 h mf_X1_gainGiven iv_X1_gainGiven ⟨Nat.le_of_ble_eq_true rfl, Nat.le_of_ble_eq_true rfl⟩ rfl rfl (Nat.le_of_ble_eq_true rfl) ⟨hk.1, vp_lt hi19⟩ rfl (show vwCl[1]? = some (RX1, TX1, 1) from rfl) rfl (fun S21 h => ?_)
        refine sh_aload_n (pc := 93) dX6_sharpenDullest_93 rfl ?_
        refine sh_gf (pc := 94) dX6_sharpenDullest_94 fl_X6_18 cf_6 hk rfl rfl ?_
        refine sh_iload_n (pc := 97) dX6_sharpenDullest_97 rfl ?_
        refine sh_cu (N := mX2_moveToEndOfTurns) (pc := 98) dX6_sharpenDullest_98 ml_X6_209 h mf_X2_moveToEndOfTurns iv_X2_moveToEndOfTurns ⟨Nat.le_of_ble_eq_true rfl, Nat.le_of_ble_eq_true rfl⟩ rfl rfl (Nat.le_of_ble_eq_true rfl) hk rfl (show vwCl[2]? = some (RX2, TX2, 5) from rfl) rfl (fun S22 h => ?_)
        refine sh_iload_n (pc := 101) dX6_sharpenDullest_101 rfl ?_
        exact sh_ret_i (pc := 102) dX6_sharpenDullest_102 rfl ⟨rfl, rfl⟩ h
      · have h := h.2 hc15
        refine sh_ldc (v := (-1000004)) (pc := 57) dX6_sharpenDullest_57 kc_X6_144 ?_
        exact sh_ret_i (pc := 59) dX6_sharpenDullest_59 rfl ⟨rfl, rfl⟩ h
  · have h := h.2 hc5
    refine sh_ldc (v := (-1000002)) (pc := 19) dX6_sharpenDullest_19 kc_X6_84 ?_
    exact sh_ret_i (pc := 21) dX6_sharpenDullest_21 rfl ⟨rfl, rfl⟩ h

set_option maxRecDepth 100000 in
set_option maxHeartbeats 4000000 in
theorem wp_X3_carryOut {g : sh_G} {S : sh_S} {sz : Nat} {Q : Int32 → sh_S → Prop} {k1 : Nat} (hk1 : sh_ok (6, k1, 0)) {a2 : Int32} {a3 : Int32} {a4 : Int32} 
    (h : ((¬ a2 = 103 → ((¬ a2 = 108 → ((¬ a2 = 98 → (sh_Ci g mX6_sharpenDullest [sh_R (6, k1, 0)] S sz (fun r5 S4 => ((r5 < 0 → Q 3 S4) ∧ (¬ r5 < 0 → Q 0 S4))))) ∧ (a2 = 98 → (sh_Ci g mX6_hasTool [sh_R (6, k1, 0), sh_I a3] S sz (fun r9 S8 => (sh_Ci g mX6_takeBack [sh_R (6, k1, 0), sh_I a3] S8 sz (fun r11 S10 => ((r11 < 0 → ((r9 = 0 → Q 2 S10) ∧ (¬ r9 = 0 → Q 3 S10))) ∧ (¬ r11 < 0 → Q 0 S10))))))))) ∧ (a2 = 108 → (sh_Ci g mX6_hasTool [sh_R (6, k1, 0), sh_I a3] S sz (fun r15 S14 => ((r15 = 0 → (sh_Ci g mX6_lendToMember [sh_R (6, k1, 0), sh_I a3, sh_I a4] S14 sz (fun r18 S17 => ((r18 < 0 → Q 2 S17) ∧ (¬ r18 < 0 → Q 0 S17))))) ∧ (¬ r15 = 0 → (sh_Ci g mX2_has [sh_R (2, k1, 0), sh_I a4] S14 sz (fun r22 S21 => ((r22 = 0 → (sh_Ci g mX6_lendToMember [sh_R (6, k1, 0), sh_I a3, sh_I a4] S21 sz (fun r25 S24 => ((r25 < 0 → Q 2 S24) ∧ (¬ r25 < 0 → Q 0 S24))))) ∧ (¬ r22 = 0 → (sh_Ci g mX6_lendToMember [sh_R (6, k1, 0), sh_I a3, sh_I a4] S21 sz (fun r29 S28 => ((r29 < 0 → Q 3 S28) ∧ (¬ r29 < 0 → Q 0 S28))))))))))))))) ∧ (a2 = 103 → (sh_Ci g mX2_has [sh_R (2, k1, 0), sh_I a3] S sz (fun r33 S32 => (sh_Ci g mX2_takeGift [sh_R (2, k1, 0), sh_I a3, sh_I a4] S32 sz (fun r35 S34 => ((r35 < 0 → ((r33 = 0 → Q 2 S34) ∧ (¬ r33 = 0 → Q 3 S34))) ∧ (¬ r35 < 0 → Q 0 S34))))))))) :
    sh_Ci g mX3_carryOut [sh_R (3, 0, 0), sh_R (6, k1, 0), sh_I a2, sh_I a3, sh_I a4] S sz Q := by
  refine sh_enter (ls := [(0, sh_R (3, 0, 0)), (1, sh_R (6, k1, 0)), (2, sh_I a2), (3, sh_I a3), (4, sh_I a4)]) (by decide +kernel) (Nat.le_of_ble_eq_true rfl) rfl ?_
  refine sh_iconst (v := 1) (pc := 0) dX3_carryOut_0 rfl ?_
  refine sh_istore (ls' := [(5, sh_I 1), (0, sh_R (3, 0, 0)), (1, sh_R (6, k1, 0)), (2, sh_I a2), (3, sh_I a3), (4, sh_I a4)]) (pc := 1) dX3_carryOut_1 (by decide) rfl ?_
  refine sh_iload_n (pc := 3) dX3_carryOut_3 rfl ?_
  refine sh_bipush (v := 103) (pc := 4) dX3_carryOut_4 rfl ?_
  refine sh_icmp_ne (tgt := 34) (pc := 6) dX3_carryOut_6 (by decide) (fun hc1 => ?_) (fun hc1 => ?_)
  · have h := h.1 hc1
    refine sh_iload_n (pc := 34) dX3_carryOut_34 rfl ?_
    refine sh_bipush (v := 108) (pc := 35) dX3_carryOut_35 rfl ?_
    refine sh_icmp_ne (tgt := 79) (pc := 37) dX3_carryOut_37 (by decide) (fun hc2 => ?_) (fun hc2 => ?_)
    · have h := h.1 hc2
      refine sh_iload_n (pc := 79) dX3_carryOut_79 rfl ?_
      refine sh_bipush (v := 98) (pc := 80) dX3_carryOut_80 rfl ?_
      refine sh_icmp_ne (tgt := 102) (pc := 82) dX3_carryOut_82 (by decide) (fun hc3 => ?_) (fun hc3 => ?_)
      · have h := h.1 hc3
        refine sh_aload_n (pc := 102) dX3_carryOut_102 rfl ?_
        refine sh_ci (N := mX6_sharpenDullest) (pc := 103) dX3_carryOut_103 ml_X3_83 h mf_X6_sharpenDullest iv_X6_sharpenDullest ⟨Nat.le_of_ble_eq_true rfl, Nat.le_of_ble_eq_true rfl⟩ rfl rfl (Nat.le_of_ble_eq_true rfl) hk1 rfl (show vwCl[6]? = some (RX6, TX6, 5) from rfl) rfl (fun r5 S4 h => ?_)
        refine sh_istore (ls' := [(6, sh_I r5), (5, sh_I 1), (0, sh_R (3, 0, 0)), (1, sh_R (6, k1, 0)), (2, sh_I a2), (3, sh_I a3), (4, sh_I a4)]) (pc := 106) dX3_carryOut_106 (by decide) rfl ?_
        refine sh_iload (pc := 108) dX3_carryOut_108 rfl ?_
        refine sh_if_lt (tgt := 115) (pc := 110) dX3_carryOut_110 (by decide) (fun hc6 => ?_) (fun hc6 => ?_)
        · have h := h.1 hc6
          refine sh_iload (pc := 115) dX3_carryOut_115 rfl ?_
          refine sh_if_eq (tgt := 124) (pc := 117) dX3_carryOut_117 (by decide) (fun hc7 => ?_) (fun hc7 => ?_)
          · exact absurd hc7 (by decide)
          · skip
            refine sh_iconst (v := 3) (pc := 120) dX3_carryOut_120 rfl ?_
            refine sh_goto (tgt := 125) (pc := 121) dX3_carryOut_121 (by decide) ?_
            exact sh_ret_i (pc := 125) dX3_carryOut_125 rfl ⟨rfl, rfl⟩ h
        · have h := h.2 hc6
          refine sh_iconst (v := 0) (pc := 113) dX3_carryOut_113 rfl ?_
          exact sh_ret_i (pc := 114) dX3_carryOut_114 rfl ⟨rfl, rfl⟩ h
      · have h := h.2 hc3
        refine sh_aload_n (pc := 85) dX3_carryOut_85 rfl ?_
        refine sh_iload_n (pc := 86) dX3_carryOut_86 rfl ?_
        refine sh_ci (N := mX6_hasTool) (pc := 87) dX3_carryOut_87 ml_X3_73 h mf_X6_hasTool iv_X6_hasTool ⟨Nat.le_of_ble_eq_true rfl, Nat.le_of_ble_eq_true rfl⟩ rfl rfl (Nat.le_of_ble_eq_true rfl) hk1 rfl (show vwCl[6]? = some (RX6, TX6, 5) from rfl) rfl (fun r9 S8 h => ?_)
        refine sh_istore (ls' := [(5, sh_I r9), (0, sh_R (3, 0, 0)), (1, sh_R (6, k1, 0)), (2, sh_I a2), (3, sh_I a3), (4, sh_I a4)]) (pc := 90) dX3_carryOut_90 (by decide) rfl ?_
        refine sh_aload_n (pc := 92) dX3_carryOut_92 rfl ?_
        refine sh_iload_n (pc := 93) dX3_carryOut_93 rfl ?_
        refine sh_ci (N := mX6_takeBack) (pc := 94) dX3_carryOut_94 ml_X3_79 h mf_X6_takeBack iv_X6_takeBack ⟨Nat.le_of_ble_eq_true rfl, Nat.le_of_ble_eq_true rfl⟩ rfl rfl (Nat.le_of_ble_eq_true rfl) hk1 rfl (show vwCl[6]? = some (RX6, TX6, 5) from rfl) rfl (fun r11 S10 h => ?_)
        refine sh_istore (ls' := [(6, sh_I r11), (5, sh_I r9), (0, sh_R (3, 0, 0)), (1, sh_R (6, k1, 0)), (2, sh_I a2), (3, sh_I a3), (4, sh_I a4)]) (pc := 97) dX3_carryOut_97 (by decide) rfl ?_
        refine sh_goto (tgt := 108) (pc := 99) dX3_carryOut_99 (by decide) ?_
        refine sh_iload (pc := 108) dX3_carryOut_108 rfl ?_
        refine sh_if_lt (tgt := 115) (pc := 110) dX3_carryOut_110 (by decide) (fun hc12 => ?_) (fun hc12 => ?_)
        · have h := h.1 hc12
          refine sh_iload (pc := 115) dX3_carryOut_115 rfl ?_
          refine sh_if_eq (tgt := 124) (pc := 117) dX3_carryOut_117 (by decide) (fun hc13 => ?_) (fun hc13 => ?_)
          · have h := h.1 hc13
            refine sh_iconst (v := 2) (pc := 124) dX3_carryOut_124 rfl ?_
            exact sh_ret_i (pc := 125) dX3_carryOut_125 rfl ⟨rfl, rfl⟩ h
          · have h := h.2 hc13
            refine sh_iconst (v := 3) (pc := 120) dX3_carryOut_120 rfl ?_
            refine sh_goto (tgt := 125) (pc := 121) dX3_carryOut_121 (by decide) ?_
            exact sh_ret_i (pc := 125) dX3_carryOut_125 rfl ⟨rfl, rfl⟩ h
        · have h := h.2 hc12
          refine sh_iconst (v := 0) (pc := 113) dX3_carryOut_113 rfl ?_
          exact sh_ret_i (pc := 114) dX3_carryOut_114 rfl ⟨rfl, rfl⟩ h
    · have h := h.2 hc2
      refine sh_aload_n (pc := 40) dX3_carryOut_40 rfl ?_
      refine sh_iload_n (pc := 41) dX3_carryOut_41 rfl ?_
      refine sh_ci (N := mX6_hasTool) (pc := 42) dX3_carryOut_42 ml_X3_73 h mf_X6_hasTool iv_X6_hasTool ⟨Nat.le_of_ble_eq_true rfl, Nat.le_of_ble_eq_true rfl⟩ rfl rfl (Nat.le_of_ble_eq_true rfl) hk1 rfl (show vwCl[6]? = some (RX6, TX6, 5) from rfl) rfl (fun r15 S14 h => ?_)
      refine sh_if_eq (tgt := 64) (pc := 45) dX3_carryOut_45 (by decide) (fun hc16 => ?_) (fun hc16 => ?_)
      · have h := h.1 hc16
        refine sh_iconst (v := 0) (pc := 64) dX3_carryOut_64 rfl ?_
        refine sh_istore (ls' := [(5, sh_I 0), (0, sh_R (3, 0, 0)), (1, sh_R (6, k1, 0)), (2, sh_I a2), (3, sh_I a3), (4, sh_I a4)]) (pc := 65) dX3_carryOut_65 (by decide) rfl ?_
        refine sh_aload_n (pc := 67) dX3_carryOut_67 rfl ?_
        refine sh_iload_n (pc := 68) dX3_carryOut_68 rfl ?_
        refine sh_iload (pc := 69) dX3_carryOut_69 rfl ?_
        refine sh_ci (N := mX6_lendToMember) (pc := 71) dX3_carryOut_71 ml_X3_76 h mf_X6_lendToMember iv_X6_lendToMember ⟨Nat.le_of_ble_eq_true rfl, Nat.le_of_ble_eq_true rfl⟩ rfl rfl (Nat.le_of_ble_eq_true rfl) hk1 rfl (show vwCl[6]? = some (RX6, TX6, 5) from rfl) rfl (fun r18 S17 h => ?_)
        refine sh_istore (ls' := [(6, sh_I r18), (5, sh_I 0), (0, sh_R (3, 0, 0)), (1, sh_R (6, k1, 0)), (2, sh_I a2), (3, sh_I a3), (4, sh_I a4)]) (pc := 74) dX3_carryOut_74 (by decide) rfl ?_
        refine sh_goto (tgt := 108) (pc := 76) dX3_carryOut_76 (by decide) ?_
        refine sh_iload (pc := 108) dX3_carryOut_108 rfl ?_
        refine sh_if_lt (tgt := 115) (pc := 110) dX3_carryOut_110 (by decide) (fun hc19 => ?_) (fun hc19 => ?_)
        · have h := h.1 hc19
          refine sh_iload (pc := 115) dX3_carryOut_115 rfl ?_
          refine sh_if_eq (tgt := 124) (pc := 117) dX3_carryOut_117 (by decide) (fun hc20 => ?_) (fun hc20 => ?_)
          · skip
            refine sh_iconst (v := 2) (pc := 124) dX3_carryOut_124 rfl ?_
            exact sh_ret_i (pc := 125) dX3_carryOut_125 rfl ⟨rfl, rfl⟩ h
          · exact absurd hc20 (by decide)
        · have h := h.2 hc19
          refine sh_iconst (v := 0) (pc := 113) dX3_carryOut_113 rfl ?_
          exact sh_ret_i (pc := 114) dX3_carryOut_114 rfl ⟨rfl, rfl⟩ h
      · have h := h.2 hc16
        refine sh_aload_n (pc := 48) dX3_carryOut_48 rfl ?_
        refine sh_gf (pc := 49) dX3_carryOut_49 fl_X3_59 cf_6 hk1 rfl rfl ?_
        refine sh_iload (pc := 52) dX3_carryOut_52 rfl ?_
        refine sh_ci (N := mX2_has) (pc := 54) dX3_carryOut_54 ml_X3_63 h mf_X2_has iv_X2_has ⟨Nat.le_of_ble_eq_true rfl, Nat.le_of_ble_eq_true rfl⟩ rfl rfl (Nat.le_of_ble_eq_true rfl) hk1 rfl (show vwCl[2]? = some (RX2, TX2, 5) from rfl) rfl (fun r22 S21 h => ?_)
        refine sh_if_eq (tgt := 64) (pc := 57) dX3_carryOut_57 (by decide) (fun hc23 => ?_) (fun hc23 => ?_)
        · have h := h.1 hc23
          refine sh_iconst (v := 0) (pc := 64) dX3_carryOut_64 rfl ?_
          refine sh_istore (ls' := [(5, sh_I 0), (0, sh_R (3, 0, 0)), (1, sh_R (6, k1, 0)), (2, sh_I a2), (3, sh_I a3), (4, sh_I a4)]) (pc := 65) dX3_carryOut_65 (by decide) rfl ?_
          refine sh_aload_n (pc := 67) dX3_carryOut_67 rfl ?_
          refine sh_iload_n (pc := 68) dX3_carryOut_68 rfl ?_
          refine sh_iload (pc := 69) dX3_carryOut_69 rfl ?_
          refine sh_ci (N := mX6_lendToMember) (pc := 71) dX3_carryOut_71 ml_X3_76 h mf_X6_lendToMember iv_X6_lendToMember ⟨Nat.le_of_ble_eq_true rfl, Nat.le_of_ble_eq_true rfl⟩ rfl rfl (Nat.le_of_ble_eq_true rfl) hk1 rfl (show vwCl[6]? = some (RX6, TX6, 5) from rfl) rfl (fun r25 S24 h => ?_)
          refine sh_istore (ls' := [(6, sh_I r25), (5, sh_I 0), (0, sh_R (3, 0, 0)), (1, sh_R (6, k1, 0)), (2, sh_I a2), (3, sh_I a3), (4, sh_I a4)]) (pc := 74) dX3_carryOut_74 (by decide) rfl ?_
          refine sh_goto (tgt := 108) (pc := 76) dX3_carryOut_76 (by decide) ?_
          refine sh_iload (pc := 108) dX3_carryOut_108 rfl ?_
          refine sh_if_lt (tgt := 115) (pc := 110) dX3_carryOut_110 (by decide) (fun hc26 => ?_) (fun hc26 => ?_)
          · have h := h.1 hc26
            refine sh_iload (pc := 115) dX3_carryOut_115 rfl ?_
            refine sh_if_eq (tgt := 124) (pc := 117) dX3_carryOut_117 (by decide) (fun hc27 => ?_) (fun hc27 => ?_)
            · skip
              refine sh_iconst (v := 2) (pc := 124) dX3_carryOut_124 rfl ?_
              exact sh_ret_i (pc := 125) dX3_carryOut_125 rfl ⟨rfl, rfl⟩ h
            · exact absurd hc27 (by decide)
          · have h := h.2 hc26
            refine sh_iconst (v := 0) (pc := 113) dX3_carryOut_113 rfl ?_
            exact sh_ret_i (pc := 114) dX3_carryOut_114 rfl ⟨rfl, rfl⟩ h
        · have h := h.2 hc23
          refine sh_iconst (v := 1) (pc := 60) dX3_carryOut_60 rfl ?_
          refine sh_goto (tgt := 65) (pc := 61) dX3_carryOut_61 (by decide) ?_
          refine sh_istore (ls' := [(5, sh_I 1), (0, sh_R (3, 0, 0)), (1, sh_R (6, k1, 0)), (2, sh_I a2), (3, sh_I a3), (4, sh_I a4)]) (pc := 65) dX3_carryOut_65 (by decide) rfl ?_
          refine sh_aload_n (pc := 67) dX3_carryOut_67 rfl ?_
          refine sh_iload_n (pc := 68) dX3_carryOut_68 rfl ?_
          refine sh_iload (pc := 69) dX3_carryOut_69 rfl ?_
          refine sh_ci (N := mX6_lendToMember) (pc := 71) dX3_carryOut_71 ml_X3_76 h mf_X6_lendToMember iv_X6_lendToMember ⟨Nat.le_of_ble_eq_true rfl, Nat.le_of_ble_eq_true rfl⟩ rfl rfl (Nat.le_of_ble_eq_true rfl) hk1 rfl (show vwCl[6]? = some (RX6, TX6, 5) from rfl) rfl (fun r29 S28 h => ?_)
          refine sh_istore (ls' := [(6, sh_I r29), (5, sh_I 1), (0, sh_R (3, 0, 0)), (1, sh_R (6, k1, 0)), (2, sh_I a2), (3, sh_I a3), (4, sh_I a4)]) (pc := 74) dX3_carryOut_74 (by decide) rfl ?_
          refine sh_goto (tgt := 108) (pc := 76) dX3_carryOut_76 (by decide) ?_
          refine sh_iload (pc := 108) dX3_carryOut_108 rfl ?_
          refine sh_if_lt (tgt := 115) (pc := 110) dX3_carryOut_110 (by decide) (fun hc30 => ?_) (fun hc30 => ?_)
          · have h := h.1 hc30
            refine sh_iload (pc := 115) dX3_carryOut_115 rfl ?_
            refine sh_if_eq (tgt := 124) (pc := 117) dX3_carryOut_117 (by decide) (fun hc31 => ?_) (fun hc31 => ?_)
            · exact absurd hc31 (by decide)
            · skip
              refine sh_iconst (v := 3) (pc := 120) dX3_carryOut_120 rfl ?_
              refine sh_goto (tgt := 125) (pc := 121) dX3_carryOut_121 (by decide) ?_
              exact sh_ret_i (pc := 125) dX3_carryOut_125 rfl ⟨rfl, rfl⟩ h
          · have h := h.2 hc30
            refine sh_iconst (v := 0) (pc := 113) dX3_carryOut_113 rfl ?_
            exact sh_ret_i (pc := 114) dX3_carryOut_114 rfl ⟨rfl, rfl⟩ h
  · have h := h.2 hc1
    refine sh_aload_n (pc := 9) dX3_carryOut_9 rfl ?_
    refine sh_gf (pc := 10) dX3_carryOut_10 fl_X3_59 cf_6 hk1 rfl rfl ?_
    refine sh_iload_n (pc := 13) dX3_carryOut_13 rfl ?_
    refine sh_ci (N := mX2_has) (pc := 14) dX3_carryOut_14 ml_X3_63 h mf_X2_has iv_X2_has ⟨Nat.le_of_ble_eq_true rfl, Nat.le_of_ble_eq_true rfl⟩ rfl rfl (Nat.le_of_ble_eq_true rfl) hk1 rfl (show vwCl[2]? = some (RX2, TX2, 5) from rfl) rfl (fun r33 S32 h => ?_)
    refine sh_istore (ls' := [(5, sh_I r33), (0, sh_R (3, 0, 0)), (1, sh_R (6, k1, 0)), (2, sh_I a2), (3, sh_I a3), (4, sh_I a4)]) (pc := 17) dX3_carryOut_17 (by decide) rfl ?_
    refine sh_aload_n (pc := 19) dX3_carryOut_19 rfl ?_
    refine sh_gf (pc := 20) dX3_carryOut_20 fl_X3_59 cf_6 hk1 rfl rfl ?_
    refine sh_iload_n (pc := 23) dX3_carryOut_23 rfl ?_
    refine sh_iload (pc := 24) dX3_carryOut_24 rfl ?_
    refine sh_ci (N := mX2_takeGift) (pc := 26) dX3_carryOut_26 ml_X3_69 h mf_X2_takeGift iv_X2_takeGift ⟨Nat.le_of_ble_eq_true rfl, Nat.le_of_ble_eq_true rfl⟩ rfl rfl (Nat.le_of_ble_eq_true rfl) hk1 rfl (show vwCl[2]? = some (RX2, TX2, 5) from rfl) rfl (fun r35 S34 h => ?_)
    refine sh_istore (ls' := [(6, sh_I r35), (5, sh_I r33), (0, sh_R (3, 0, 0)), (1, sh_R (6, k1, 0)), (2, sh_I a2), (3, sh_I a3), (4, sh_I a4)]) (pc := 29) dX3_carryOut_29 (by decide) rfl ?_
    refine sh_goto (tgt := 108) (pc := 31) dX3_carryOut_31 (by decide) ?_
    refine sh_iload (pc := 108) dX3_carryOut_108 rfl ?_
    refine sh_if_lt (tgt := 115) (pc := 110) dX3_carryOut_110 (by decide) (fun hc36 => ?_) (fun hc36 => ?_)
    · have h := h.1 hc36
      refine sh_iload (pc := 115) dX3_carryOut_115 rfl ?_
      refine sh_if_eq (tgt := 124) (pc := 117) dX3_carryOut_117 (by decide) (fun hc37 => ?_) (fun hc37 => ?_)
      · have h := h.1 hc37
        refine sh_iconst (v := 2) (pc := 124) dX3_carryOut_124 rfl ?_
        exact sh_ret_i (pc := 125) dX3_carryOut_125 rfl ⟨rfl, rfl⟩ h
      · have h := h.2 hc37
        refine sh_iconst (v := 3) (pc := 120) dX3_carryOut_120 rfl ?_
        refine sh_goto (tgt := 125) (pc := 121) dX3_carryOut_121 (by decide) ?_
        exact sh_ret_i (pc := 125) dX3_carryOut_125 rfl ⟨rfl, rfl⟩ h
    · have h := h.2 hc36
      refine sh_iconst (v := 0) (pc := 113) dX3_carryOut_113 rfl ?_
      exact sh_ret_i (pc := 114) dX3_carryOut_114 rfl ⟨rfl, rfl⟩ h

set_option maxRecDepth 100000 in
set_option maxHeartbeats 4000000 in
theorem wp_X3_runOrder {g : sh_G} {S : sh_S} {sz : Nat} {Q : Int32 → sh_S → Prop} {k1 : Nat} (hk1 : sh_ok (6, k1, 0)) 
    (h : (sh_Ci g mX3_peek [sh_R (3, 0, 0)] S sz (fun r2 S1 => (∀ S3 : sh_S, S3 = sh_sr S1 (3, 0, 0) (upd (S1 (3, 0, 0)) 2 (((S1 (3, 0, 0) 2) + 1))) → ((r2 = 103 → (sh_Ci g mX3_readNumber [sh_R (3, 0, 0)] S3 sz (fun r6 S5 => (sh_Ci g mX3_takes [sh_R (3, 0, 0), sh_I 44] S5 sz (fun r8 S7 => ((r8 = 0 → ((r6 < 0 → Q 1 S7) ∧ (¬ r6 < 0 → Q 1 S7))) ∧ (¬ r8 = 0 → (sh_Ci g mX3_readNumber [sh_R (3, 0, 0)] S7 sz (fun r13 S12 => ((r6 < 0 → Q 1 S12) ∧ (¬ r6 < 0 → ((r13 < 0 → Q 1 S12) ∧ (¬ r13 < 0 → (sh_Ci g mX3_takes [sh_R (3, 0, 0), sh_I 59] S12 sz (fun r17 S16 => ((¬ r17 = 0 → (sh_Ci g mX3_carryOut [sh_R (3, 0, 0), sh_R (6, k1, 0), sh_I r2, sh_I r6, sh_I r13] S16 sz (fun r20 S19 => Q r20 S19))) ∧ (r17 = 0 → Q 1 S16))))))))))))))))) ∧ (¬ r2 = 103 → ((¬ r2 = 108 → ((¬ r2 = 98 → ((r2 = 115 → (sh_Ci g mX3_takes [sh_R (3, 0, 0), sh_I 59] S3 sz (fun r27 S26 => ((¬ r27 = 0 → (sh_Ci g mX3_carryOut [sh_R (3, 0, 0), sh_R (6, k1, 0), sh_I r2, sh_I 0, sh_I 0] S26 sz (fun r30 S29 => Q r30 S29))) ∧ (r27 = 0 → Q 1 S26))))) ∧ (¬ r2 = 115 → Q 1 S3))) ∧ (r2 = 98 → (sh_Ci g mX3_readNumber [sh_R (3, 0, 0)] S3 sz (fun r32 S31 => ((r32 < 0 → Q 1 S31) ∧ (¬ r32 < 0 → (sh_Ci g mX3_takes [sh_R (3, 0, 0), sh_I 59] S31 sz (fun r36 S35 => ((¬ r36 = 0 → (sh_Ci g mX3_carryOut [sh_R (3, 0, 0), sh_R (6, k1, 0), sh_I r2, sh_I r32, sh_I 0] S35 sz (fun r39 S38 => Q r39 S38))) ∧ (r36 = 0 → Q 1 S35))))))))))) ∧ (r2 = 108 → (sh_Ci g mX3_readNumber [sh_R (3, 0, 0)] S3 sz (fun r41 S40 => (sh_Ci g mX3_takes [sh_R (3, 0, 0), sh_I 44] S40 sz (fun r43 S42 => ((r43 = 0 → ((r41 < 0 → Q 1 S42) ∧ (¬ r41 < 0 → Q 1 S42))) ∧ (¬ r43 = 0 → (sh_Ci g mX3_readNumber [sh_R (3, 0, 0)] S42 sz (fun r48 S47 => ((r41 < 0 → Q 1 S47) ∧ (¬ r41 < 0 → ((r48 < 0 → Q 1 S47) ∧ (¬ r48 < 0 → (sh_Ci g mX3_takes [sh_R (3, 0, 0), sh_I 59] S47 sz (fun r52 S51 => ((¬ r52 = 0 → (sh_Ci g mX3_carryOut [sh_R (3, 0, 0), sh_R (6, k1, 0), sh_I r2, sh_I r41, sh_I r48] S51 sz (fun r55 S54 => Q r55 S54))) ∧ (r52 = 0 → Q 1 S51)))))))))))))))))))))))) :
    sh_Ci g mX3_runOrder [sh_R (3, 0, 0), sh_R (6, k1, 0)] S sz Q := by
  refine sh_enter (ls := [(0, sh_R (3, 0, 0)), (1, sh_R (6, k1, 0))]) (by decide +kernel) (Nat.le_of_ble_eq_true rfl) rfl ?_
  refine sh_aload_n (pc := 0) dX3_runOrder_0 rfl ?_
  refine sh_ci (N := mX3_peek) (pc := 1) dX3_runOrder_1 ml_X3_43 h mf_X3_peek iv_X3_peek ⟨Nat.le_of_ble_eq_true rfl, Nat.le_of_ble_eq_true rfl⟩ rfl rfl (Nat.le_of_ble_eq_true rfl) ok_3_0 rfl (show vwCl[3]? = some (RX3, TX3, 6) from rfl) rfl (fun r2 S1 h => ?_)
  refine sh_istore_n (ls' := [(2, sh_I r2), (0, sh_R (3, 0, 0)), (1, sh_R (6, k1, 0))]) (pc := 4) dX3_runOrder_4 (by decide) rfl ?_
  refine sh_aload_n (pc := 5) dX3_runOrder_5 rfl ?_
  refine sh_dup (pc := 6) dX3_runOrder_6 rfl ?_
  refine sh_gf (pc := 7) dX3_runOrder_7 fl_X3_27 cf_3 ok_3_0 rfl rfl ?_
  refine sh_iconst (v := 1) (pc := 10) dX3_runOrder_10 rfl ?_
  refine sh_iadd (pc := 11) dX3_runOrder_11 ?_
  refine sh_pfi (pc := 12) dX3_runOrder_12 fl_X3_27 cf_3 ft_3_2 ok_3_0 rfl (Nat.le_of_ble_eq_true rfl) rfl ?_
  refine sh_topS (fun S3 hS3 => ?_)
  have h := h S3 hS3
  refine sh_iconst (v := 0) (pc := 15) dX3_runOrder_15 rfl ?_
  refine sh_istore_n (ls' := [(3, sh_I 0), (2, sh_I r2), (0, sh_R (3, 0, 0)), (1, sh_R (6, k1, 0))]) (pc := 16) dX3_runOrder_16 (by decide) rfl ?_
  refine sh_iconst (v := 0) (pc := 17) dX3_runOrder_17 rfl ?_
  refine sh_istore (ls' := [(4, sh_I 0), (3, sh_I 0), (2, sh_I r2), (0, sh_R (3, 0, 0)), (1, sh_R (6, k1, 0))]) (pc := 18) dX3_runOrder_18 (by decide) rfl ?_
  refine sh_iload_n (pc := 20) dX3_runOrder_20 rfl ?_
  refine sh_bipush (v := 103) (pc := 21) dX3_runOrder_21 rfl ?_
  refine sh_icmp_eq (tgt := 32) (pc := 23) dX3_runOrder_23 (by decide) (fun hc4 => ?_) (fun hc4 => ?_)
  · have h := h.1 hc4
    refine sh_aload_n (pc := 32) dX3_runOrder_32 rfl ?_
    refine sh_ci (N := mX3_readNumber) (pc := 33) dX3_runOrder_33 ml_X3_47 h mf_X3_readNumber iv_X3_readNumber ⟨Nat.le_of_ble_eq_true rfl, Nat.le_of_ble_eq_true rfl⟩ rfl rfl (Nat.le_of_ble_eq_true rfl) ok_3_0 rfl (show vwCl[3]? = some (RX3, TX3, 6) from rfl) rfl (fun r6 S5 h => ?_)
    refine sh_istore_n (ls' := [(3, sh_I r6), (4, sh_I 0), (2, sh_I r2), (0, sh_R (3, 0, 0)), (1, sh_R (6, k1, 0))]) (pc := 36) dX3_runOrder_36 (by decide) rfl ?_
    refine sh_aload_n (pc := 37) dX3_runOrder_37 rfl ?_
    refine sh_bipush (v := 44) (pc := 38) dX3_runOrder_38 rfl ?_
    refine sh_ci (N := mX3_takes) (pc := 40) dX3_runOrder_40 ml_X3_51 h mf_X3_takes iv_X3_takes ⟨Nat.le_of_ble_eq_true rfl, Nat.le_of_ble_eq_true rfl⟩ rfl rfl (Nat.le_of_ble_eq_true rfl) ok_3_0 rfl (show vwCl[3]? = some (RX3, TX3, 6) from rfl) rfl (fun r8 S7 h => ?_)
    refine sh_if_eq (tgt := 53) (pc := 43) dX3_runOrder_43 (by decide) (fun hc9 => ?_) (fun hc9 => ?_)
    · have h := h.1 hc9
      refine sh_iconst (v := (-1)) (pc := 53) dX3_runOrder_53 rfl ?_
      refine sh_istore (ls' := [(4, sh_I (-1)), (3, sh_I r6), (2, sh_I r2), (0, sh_R (3, 0, 0)), (1, sh_R (6, k1, 0))]) (pc := 54) dX3_runOrder_54 (by decide) rfl ?_
      refine sh_goto (tgt := 81) (pc := 56) dX3_runOrder_56 (by decide) ?_
      refine sh_iload_n (pc := 81) dX3_runOrder_81 rfl ?_
      refine sh_if_lt (tgt := 99) (pc := 82) dX3_runOrder_82 (by decide) (fun hc10 => ?_) (fun hc10 => ?_)
      · have h := h.1 hc10
        refine sh_iconst (v := 1) (pc := 99) dX3_runOrder_99 rfl ?_
        exact sh_ret_i (pc := 100) dX3_runOrder_100 rfl ⟨rfl, rfl⟩ h
      · have h := h.2 hc10
        refine sh_iload (pc := 85) dX3_runOrder_85 rfl ?_
        refine sh_if_lt (tgt := 99) (pc := 87) dX3_runOrder_87 (by decide) (fun hc11 => ?_) (fun hc11 => ?_)
        · skip
          refine sh_iconst (v := 1) (pc := 99) dX3_runOrder_99 rfl ?_
          exact sh_ret_i (pc := 100) dX3_runOrder_100 rfl ⟨rfl, rfl⟩ h
        · exact absurd hc11 (by decide)
    · have h := h.2 hc9
      refine sh_aload_n (pc := 46) dX3_runOrder_46 rfl ?_
      refine sh_ci (N := mX3_readNumber) (pc := 47) dX3_runOrder_47 ml_X3_47 h mf_X3_readNumber iv_X3_readNumber ⟨Nat.le_of_ble_eq_true rfl, Nat.le_of_ble_eq_true rfl⟩ rfl rfl (Nat.le_of_ble_eq_true rfl) ok_3_0 rfl (show vwCl[3]? = some (RX3, TX3, 6) from rfl) rfl (fun r13 S12 h => ?_)
      refine sh_goto (tgt := 54) (pc := 50) dX3_runOrder_50 (by decide) ?_
      refine sh_istore (ls' := [(4, sh_I r13), (3, sh_I r6), (2, sh_I r2), (0, sh_R (3, 0, 0)), (1, sh_R (6, k1, 0))]) (pc := 54) dX3_runOrder_54 (by decide) rfl ?_
      refine sh_goto (tgt := 81) (pc := 56) dX3_runOrder_56 (by decide) ?_
      refine sh_iload_n (pc := 81) dX3_runOrder_81 rfl ?_
      refine sh_if_lt (tgt := 99) (pc := 82) dX3_runOrder_82 (by decide) (fun hc14 => ?_) (fun hc14 => ?_)
      · have h := h.1 hc14
        refine sh_iconst (v := 1) (pc := 99) dX3_runOrder_99 rfl ?_
        exact sh_ret_i (pc := 100) dX3_runOrder_100 rfl ⟨rfl, rfl⟩ h
      · have h := h.2 hc14
        refine sh_iload (pc := 85) dX3_runOrder_85 rfl ?_
        refine sh_if_lt (tgt := 99) (pc := 87) dX3_runOrder_87 (by decide) (fun hc15 => ?_) (fun hc15 => ?_)
        · have h := h.1 hc15
          refine sh_iconst (v := 1) (pc := 99) dX3_runOrder_99 rfl ?_
          exact sh_ret_i (pc := 100) dX3_runOrder_100 rfl ⟨rfl, rfl⟩ h
        · have h := h.2 hc15
          refine sh_aload_n (pc := 90) dX3_runOrder_90 rfl ?_
          refine sh_bipush (v := 59) (pc := 91) dX3_runOrder_91 rfl ?_
          refine sh_ci (N := mX3_takes) (pc := 93) dX3_runOrder_93 ml_X3_51 h mf_X3_takes iv_X3_takes ⟨Nat.le_of_ble_eq_true rfl, Nat.le_of_ble_eq_true rfl⟩ rfl rfl (Nat.le_of_ble_eq_true rfl) ok_3_0 rfl (show vwCl[3]? = some (RX3, TX3, 6) from rfl) rfl (fun r17 S16 h => ?_)
          refine sh_if_ne (tgt := 101) (pc := 96) dX3_runOrder_96 (by decide) (fun hc18 => ?_) (fun hc18 => ?_)
          · have h := h.1 hc18
            refine sh_aload_n (pc := 101) dX3_runOrder_101 rfl ?_
            refine sh_aload_n (pc := 102) dX3_runOrder_102 rfl ?_
            refine sh_iload_n (pc := 103) dX3_runOrder_103 rfl ?_
            refine sh_iload_n (pc := 104) dX3_runOrder_104 rfl ?_
            refine sh_iload (pc := 105) dX3_runOrder_105 rfl ?_
            refine sh_ci (N := mX3_carryOut) (pc := 107) dX3_runOrder_107 ml_X3_55 h mf_X3_carryOut iv_X3_carryOut ⟨Nat.le_of_ble_eq_true rfl, Nat.le_of_ble_eq_true rfl⟩ rfl rfl (Nat.le_of_ble_eq_true rfl) ok_3_0 rfl (show vwCl[3]? = some (RX3, TX3, 6) from rfl) rfl (fun r20 S19 h => ?_)
            exact sh_ret_i (pc := 110) dX3_runOrder_110 rfl ⟨rfl, rfl⟩ h
          · have h := h.2 hc18
            refine sh_iconst (v := 1) (pc := 99) dX3_runOrder_99 rfl ?_
            exact sh_ret_i (pc := 100) dX3_runOrder_100 rfl ⟨rfl, rfl⟩ h
  · have h := h.2 hc4
    refine sh_iload_n (pc := 26) dX3_runOrder_26 rfl ?_
    refine sh_bipush (v := 108) (pc := 27) dX3_runOrder_27 rfl ?_
    refine sh_icmp_ne (tgt := 59) (pc := 29) dX3_runOrder_29 (by decide) (fun hc21 => ?_) (fun hc21 => ?_)
    · have h := h.1 hc21
      refine sh_iload_n (pc := 59) dX3_runOrder_59 rfl ?_
      refine sh_bipush (v := 98) (pc := 60) dX3_runOrder_60 rfl ?_
      refine sh_icmp_ne (tgt := 73) (pc := 62) dX3_runOrder_62 (by decide) (fun hc22 => ?_) (fun hc22 => ?_)
      · have h := h.1 hc22
        refine sh_iload_n (pc := 73) dX3_runOrder_73 rfl ?_
        refine sh_bipush (v := 115) (pc := 74) dX3_runOrder_74 rfl ?_
        refine sh_icmp_eq (tgt := 81) (pc := 76) dX3_runOrder_76 (by decide) (fun hc23 => ?_) (fun hc23 => ?_)
        · have h := h.1 hc23
          refine sh_iload_n (pc := 81) dX3_runOrder_81 rfl ?_
          refine sh_if_lt (tgt := 99) (pc := 82) dX3_runOrder_82 (by decide) (fun hc24 => ?_) (fun hc24 => ?_)
          · exact absurd hc24 (by decide)
          · skip
            refine sh_iload (pc := 85) dX3_runOrder_85 rfl ?_
            refine sh_if_lt (tgt := 99) (pc := 87) dX3_runOrder_87 (by decide) (fun hc25 => ?_) (fun hc25 => ?_)
            · exact absurd hc25 (by decide)
            · skip
              refine sh_aload_n (pc := 90) dX3_runOrder_90 rfl ?_
              refine sh_bipush (v := 59) (pc := 91) dX3_runOrder_91 rfl ?_
              refine sh_ci (N := mX3_takes) (pc := 93) dX3_runOrder_93 ml_X3_51 h mf_X3_takes iv_X3_takes ⟨Nat.le_of_ble_eq_true rfl, Nat.le_of_ble_eq_true rfl⟩ rfl rfl (Nat.le_of_ble_eq_true rfl) ok_3_0 rfl (show vwCl[3]? = some (RX3, TX3, 6) from rfl) rfl (fun r27 S26 h => ?_)
              refine sh_if_ne (tgt := 101) (pc := 96) dX3_runOrder_96 (by decide) (fun hc28 => ?_) (fun hc28 => ?_)
              · have h := h.1 hc28
                refine sh_aload_n (pc := 101) dX3_runOrder_101 rfl ?_
                refine sh_aload_n (pc := 102) dX3_runOrder_102 rfl ?_
                refine sh_iload_n (pc := 103) dX3_runOrder_103 rfl ?_
                refine sh_iload_n (pc := 104) dX3_runOrder_104 rfl ?_
                refine sh_iload (pc := 105) dX3_runOrder_105 rfl ?_
                refine sh_ci (N := mX3_carryOut) (pc := 107) dX3_runOrder_107 ml_X3_55 h mf_X3_carryOut iv_X3_carryOut ⟨Nat.le_of_ble_eq_true rfl, Nat.le_of_ble_eq_true rfl⟩ rfl rfl (Nat.le_of_ble_eq_true rfl) ok_3_0 rfl (show vwCl[3]? = some (RX3, TX3, 6) from rfl) rfl (fun r30 S29 h => ?_)
                exact sh_ret_i (pc := 110) dX3_runOrder_110 rfl ⟨rfl, rfl⟩ h
              · have h := h.2 hc28
                refine sh_iconst (v := 1) (pc := 99) dX3_runOrder_99 rfl ?_
                exact sh_ret_i (pc := 100) dX3_runOrder_100 rfl ⟨rfl, rfl⟩ h
        · have h := h.2 hc23
          refine sh_iconst (v := 1) (pc := 79) dX3_runOrder_79 rfl ?_
          exact sh_ret_i (pc := 80) dX3_runOrder_80 rfl ⟨rfl, rfl⟩ h
      · have h := h.2 hc22
        refine sh_aload_n (pc := 65) dX3_runOrder_65 rfl ?_
        refine sh_ci (N := mX3_readNumber) (pc := 66) dX3_runOrder_66 ml_X3_47 h mf_X3_readNumber iv_X3_readNumber ⟨Nat.le_of_ble_eq_true rfl, Nat.le_of_ble_eq_true rfl⟩ rfl rfl (Nat.le_of_ble_eq_true rfl) ok_3_0 rfl (show vwCl[3]? = some (RX3, TX3, 6) from rfl) rfl (fun r32 S31 h => ?_)
        refine sh_istore_n (ls' := [(3, sh_I r32), (4, sh_I 0), (2, sh_I r2), (0, sh_R (3, 0, 0)), (1, sh_R (6, k1, 0))]) (pc := 69) dX3_runOrder_69 (by decide) rfl ?_
        refine sh_goto (tgt := 81) (pc := 70) dX3_runOrder_70 (by decide) ?_
        refine sh_iload_n (pc := 81) dX3_runOrder_81 rfl ?_
        refine sh_if_lt (tgt := 99) (pc := 82) dX3_runOrder_82 (by decide) (fun hc33 => ?_) (fun hc33 => ?_)
        · have h := h.1 hc33
          refine sh_iconst (v := 1) (pc := 99) dX3_runOrder_99 rfl ?_
          exact sh_ret_i (pc := 100) dX3_runOrder_100 rfl ⟨rfl, rfl⟩ h
        · have h := h.2 hc33
          refine sh_iload (pc := 85) dX3_runOrder_85 rfl ?_
          refine sh_if_lt (tgt := 99) (pc := 87) dX3_runOrder_87 (by decide) (fun hc34 => ?_) (fun hc34 => ?_)
          · exact absurd hc34 (by decide)
          · skip
            refine sh_aload_n (pc := 90) dX3_runOrder_90 rfl ?_
            refine sh_bipush (v := 59) (pc := 91) dX3_runOrder_91 rfl ?_
            refine sh_ci (N := mX3_takes) (pc := 93) dX3_runOrder_93 ml_X3_51 h mf_X3_takes iv_X3_takes ⟨Nat.le_of_ble_eq_true rfl, Nat.le_of_ble_eq_true rfl⟩ rfl rfl (Nat.le_of_ble_eq_true rfl) ok_3_0 rfl (show vwCl[3]? = some (RX3, TX3, 6) from rfl) rfl (fun r36 S35 h => ?_)
            refine sh_if_ne (tgt := 101) (pc := 96) dX3_runOrder_96 (by decide) (fun hc37 => ?_) (fun hc37 => ?_)
            · have h := h.1 hc37
              refine sh_aload_n (pc := 101) dX3_runOrder_101 rfl ?_
              refine sh_aload_n (pc := 102) dX3_runOrder_102 rfl ?_
              refine sh_iload_n (pc := 103) dX3_runOrder_103 rfl ?_
              refine sh_iload_n (pc := 104) dX3_runOrder_104 rfl ?_
              refine sh_iload (pc := 105) dX3_runOrder_105 rfl ?_
              refine sh_ci (N := mX3_carryOut) (pc := 107) dX3_runOrder_107 ml_X3_55 h mf_X3_carryOut iv_X3_carryOut ⟨Nat.le_of_ble_eq_true rfl, Nat.le_of_ble_eq_true rfl⟩ rfl rfl (Nat.le_of_ble_eq_true rfl) ok_3_0 rfl (show vwCl[3]? = some (RX3, TX3, 6) from rfl) rfl (fun r39 S38 h => ?_)
              exact sh_ret_i (pc := 110) dX3_runOrder_110 rfl ⟨rfl, rfl⟩ h
            · have h := h.2 hc37
              refine sh_iconst (v := 1) (pc := 99) dX3_runOrder_99 rfl ?_
              exact sh_ret_i (pc := 100) dX3_runOrder_100 rfl ⟨rfl, rfl⟩ h
    · have h := h.2 hc21
      refine sh_aload_n (pc := 32) dX3_runOrder_32 rfl ?_
      refine sh_ci (N := mX3_readNumber) (pc := 33) dX3_runOrder_33 ml_X3_47 h mf_X3_readNumber iv_X3_readNumber ⟨Nat.le_of_ble_eq_true rfl, Nat.le_of_ble_eq_true rfl⟩ rfl rfl (Nat.le_of_ble_eq_true rfl) ok_3_0 rfl (show vwCl[3]? = some (RX3, TX3, 6) from rfl) rfl (fun r41 S40 h => ?_)
      refine sh_istore_n (ls' := [(3, sh_I r41), (4, sh_I 0), (2, sh_I r2), (0, sh_R (3, 0, 0)), (1, sh_R (6, k1, 0))]) (pc := 36) dX3_runOrder_36 (by decide) rfl ?_
      refine sh_aload_n (pc := 37) dX3_runOrder_37 rfl ?_
      refine sh_bipush (v := 44) (pc := 38) dX3_runOrder_38 rfl ?_
      refine sh_ci (N := mX3_takes) (pc := 40) dX3_runOrder_40 ml_X3_51 h mf_X3_takes iv_X3_takes ⟨Nat.le_of_ble_eq_true rfl, Nat.le_of_ble_eq_true rfl⟩ rfl rfl (Nat.le_of_ble_eq_true rfl) ok_3_0 rfl (show vwCl[3]? = some (RX3, TX3, 6) from rfl) rfl (fun r43 S42 h => ?_)
      refine sh_if_eq (tgt := 53) (pc := 43) dX3_runOrder_43 (by decide) (fun hc44 => ?_) (fun hc44 => ?_)
      · have h := h.1 hc44
        refine sh_iconst (v := (-1)) (pc := 53) dX3_runOrder_53 rfl ?_
        refine sh_istore (ls' := [(4, sh_I (-1)), (3, sh_I r41), (2, sh_I r2), (0, sh_R (3, 0, 0)), (1, sh_R (6, k1, 0))]) (pc := 54) dX3_runOrder_54 (by decide) rfl ?_
        refine sh_goto (tgt := 81) (pc := 56) dX3_runOrder_56 (by decide) ?_
        refine sh_iload_n (pc := 81) dX3_runOrder_81 rfl ?_
        refine sh_if_lt (tgt := 99) (pc := 82) dX3_runOrder_82 (by decide) (fun hc45 => ?_) (fun hc45 => ?_)
        · have h := h.1 hc45
          refine sh_iconst (v := 1) (pc := 99) dX3_runOrder_99 rfl ?_
          exact sh_ret_i (pc := 100) dX3_runOrder_100 rfl ⟨rfl, rfl⟩ h
        · have h := h.2 hc45
          refine sh_iload (pc := 85) dX3_runOrder_85 rfl ?_
          refine sh_if_lt (tgt := 99) (pc := 87) dX3_runOrder_87 (by decide) (fun hc46 => ?_) (fun hc46 => ?_)
          · skip
            refine sh_iconst (v := 1) (pc := 99) dX3_runOrder_99 rfl ?_
            exact sh_ret_i (pc := 100) dX3_runOrder_100 rfl ⟨rfl, rfl⟩ h
          · exact absurd hc46 (by decide)
      · have h := h.2 hc44
        refine sh_aload_n (pc := 46) dX3_runOrder_46 rfl ?_
        refine sh_ci (N := mX3_readNumber) (pc := 47) dX3_runOrder_47 ml_X3_47 h mf_X3_readNumber iv_X3_readNumber ⟨Nat.le_of_ble_eq_true rfl, Nat.le_of_ble_eq_true rfl⟩ rfl rfl (Nat.le_of_ble_eq_true rfl) ok_3_0 rfl (show vwCl[3]? = some (RX3, TX3, 6) from rfl) rfl (fun r48 S47 h => ?_)
        refine sh_goto (tgt := 54) (pc := 50) dX3_runOrder_50 (by decide) ?_
        refine sh_istore (ls' := [(4, sh_I r48), (3, sh_I r41), (2, sh_I r2), (0, sh_R (3, 0, 0)), (1, sh_R (6, k1, 0))]) (pc := 54) dX3_runOrder_54 (by decide) rfl ?_
        refine sh_goto (tgt := 81) (pc := 56) dX3_runOrder_56 (by decide) ?_
        refine sh_iload_n (pc := 81) dX3_runOrder_81 rfl ?_
        refine sh_if_lt (tgt := 99) (pc := 82) dX3_runOrder_82 (by decide) (fun hc49 => ?_) (fun hc49 => ?_)
        · have h := h.1 hc49
          refine sh_iconst (v := 1) (pc := 99) dX3_runOrder_99 rfl ?_
          exact sh_ret_i (pc := 100) dX3_runOrder_100 rfl ⟨rfl, rfl⟩ h
        · have h := h.2 hc49
          refine sh_iload (pc := 85) dX3_runOrder_85 rfl ?_
          refine sh_if_lt (tgt := 99) (pc := 87) dX3_runOrder_87 (by decide) (fun hc50 => ?_) (fun hc50 => ?_)
          · have h := h.1 hc50
            refine sh_iconst (v := 1) (pc := 99) dX3_runOrder_99 rfl ?_
            exact sh_ret_i (pc := 100) dX3_runOrder_100 rfl ⟨rfl, rfl⟩ h
          · have h := h.2 hc50
            refine sh_aload_n (pc := 90) dX3_runOrder_90 rfl ?_
            refine sh_bipush (v := 59) (pc := 91) dX3_runOrder_91 rfl ?_
            refine sh_ci (N := mX3_takes) (pc := 93) dX3_runOrder_93 ml_X3_51 h mf_X3_takes iv_X3_takes ⟨Nat.le_of_ble_eq_true rfl, Nat.le_of_ble_eq_true rfl⟩ rfl rfl (Nat.le_of_ble_eq_true rfl) ok_3_0 rfl (show vwCl[3]? = some (RX3, TX3, 6) from rfl) rfl (fun r52 S51 h => ?_)
            refine sh_if_ne (tgt := 101) (pc := 96) dX3_runOrder_96 (by decide) (fun hc53 => ?_) (fun hc53 => ?_)
            · have h := h.1 hc53
              refine sh_aload_n (pc := 101) dX3_runOrder_101 rfl ?_
              refine sh_aload_n (pc := 102) dX3_runOrder_102 rfl ?_
              refine sh_iload_n (pc := 103) dX3_runOrder_103 rfl ?_
              refine sh_iload_n (pc := 104) dX3_runOrder_104 rfl ?_
              refine sh_iload (pc := 105) dX3_runOrder_105 rfl ?_
              refine sh_ci (N := mX3_carryOut) (pc := 107) dX3_runOrder_107 ml_X3_55 h mf_X3_carryOut iv_X3_carryOut ⟨Nat.le_of_ble_eq_true rfl, Nat.le_of_ble_eq_true rfl⟩ rfl rfl (Nat.le_of_ble_eq_true rfl) ok_3_0 rfl (show vwCl[3]? = some (RX3, TX3, 6) from rfl) rfl (fun r55 S54 h => ?_)
              exact sh_ret_i (pc := 110) dX3_runOrder_110 rfl ⟨rfl, rfl⟩ h
            · have h := h.2 hc53
              refine sh_iconst (v := 1) (pc := 99) dX3_runOrder_99 rfl ?_
              exact sh_ret_i (pc := 100) dX3_runOrder_100 rfl ⟨rfl, rfl⟩ h

set_option maxRecDepth 100000 in
set_option maxHeartbeats 4000000 in
theorem wp_X3_tryOn {g : sh_G} {S : sh_S} {sz : Nat} {Q : sh_S → Prop} {k1 : Nat} (hk1 : sh_ok (6, k1, 0)) {k2 : Nat} (hk2 : sh_ok (6, k2, 0)) 
    (h : (sh_Cu g mX6_copyFrom [sh_R (6, k1, 0), sh_R (6, k2, 0)] S sz (fun S1 => (∀ S2 : sh_S, S2 = sh_sr S1 (3, 0, 0) (upd (S1 (3, 0, 0)) 2 0) → (∀ S3 : sh_S, S3 = sh_sr S2 (3, 0, 0) (upd (S2 (3, 0, 0)) 5 0) → (∀ S4 : sh_S, S4 = sh_sr S3 (3, 0, 0) (upd (S3 (3, 0, 0)) 4 0) → (∃ (Iv5 : Int32 → sh_S → Prop) (mu5 : Int32 → sh_S → Nat), Iv5 0 S4 ∧ ∀ (v6 : Int32) (S7 : sh_S), Iv5 v6 S7 → ((60 ≤ v6 → Q S7) ∧ (¬ 60 ≤ v6 → (((S7 (3, 0, 0) 1) ≤ (S7 (3, 0, 0) 2) → Q S7) ∧ (¬ (S7 (3, 0, 0) 1) ≤ (S7 (3, 0, 0) 2) → ((¬ (S7 (3, 0, 0) 4) = 0 → Q S7) ∧ ((S7 (3, 0, 0) 4) = 0 → (∀ S11 : sh_S, S11 = sh_sr S7 (3, 0, 0) (upd (S7 (3, 0, 0)) 3 ((S7 (3, 0, 0) 2))) → (sh_Ci g mX3_runOrder [sh_R (3, 0, 0), sh_R (6, k1, 0)] S11 sz (fun r13 S12 => (∀ S14 : sh_S, S14 = sh_sr S12 (3, 0, 0) (upd (S12 (3, 0, 0)) 4 r13) → ((¬ (S14 (3, 0, 0) 4) = 0 → (∀ x16 : Int32, x16 = v6 + 1 → (Iv5 x16 S14 ∧ mu5 x16 S14 < mu5 v6 S7))) ∧ ((S14 (3, 0, 0) 4) = 0 → (∀ S17 : sh_S, S17 = sh_sr S14 (3, 0, 0) (upd (S14 (3, 0, 0)) 5 (((S14 (3, 0, 0) 5) + 1))) → (∀ x18 : Int32, x18 = v6 + 1 → (Iv5 x18 S17 ∧ mu5 x18 S17 < mu5 v6 S7)))))))))))))))))))))) :
    sh_Cu g mX3_tryOn [sh_R (3, 0, 0), sh_R (6, k1, 0), sh_R (6, k2, 0)] S sz Q := by
  refine sh_enter (ls := [(0, sh_R (3, 0, 0)), (1, sh_R (6, k1, 0)), (2, sh_R (6, k2, 0))]) (by decide +kernel) (Nat.le_of_ble_eq_true rfl) rfl ?_
  refine sh_aload_n (pc := 0) dX3_tryOn_0 rfl ?_
  refine sh_aload_n (pc := 1) dX3_tryOn_1 rfl ?_
  refine sh_cu (N := mX6_copyFrom) (pc := 2) dX3_tryOn_2 ml_X3_21 h mf_X6_copyFrom iv_X6_copyFrom ⟨Nat.le_of_ble_eq_true rfl, Nat.le_of_ble_eq_true rfl⟩ rfl rfl (Nat.le_of_ble_eq_true rfl) hk1 rfl (show vwCl[6]? = some (RX6, TX6, 5) from rfl) rfl (fun S1 h => ?_)
  refine sh_aload_n (pc := 5) dX3_tryOn_5 rfl ?_
  refine sh_iconst (v := 0) (pc := 6) dX3_tryOn_6 rfl ?_
  refine sh_pfi (pc := 7) dX3_tryOn_7 fl_X3_27 cf_3 ft_3_2 ok_3_0 rfl (Nat.le_of_ble_eq_true rfl) rfl ?_
  refine sh_topS (fun S2 hS2 => ?_)
  have h := h S2 hS2
  refine sh_aload_n (pc := 10) dX3_tryOn_10 rfl ?_
  refine sh_iconst (v := 0) (pc := 11) dX3_tryOn_11 rfl ?_
  refine sh_pfi (pc := 12) dX3_tryOn_12 fl_X3_30 cf_3 ft_3_5 ok_3_0 rfl (Nat.le_of_ble_eq_true rfl) rfl ?_
  refine sh_topS (fun S3 hS3 => ?_)
  have h := h S3 hS3
  refine sh_aload_n (pc := 15) dX3_tryOn_15 rfl ?_
  refine sh_iconst (v := 0) (pc := 16) dX3_tryOn_16 rfl ?_
  refine sh_pfi (pc := 17) dX3_tryOn_17 fl_X3_33 cf_3 ft_3_4 ok_3_0 rfl (Nat.le_of_ble_eq_true rfl) rfl ?_
  refine sh_topS (fun S4 hS4 => ?_)
  have h := h S4 hS4
  refine sh_iconst (v := 0) (pc := 20) dX3_tryOn_20 rfl ?_
  refine sh_istore_n (ls' := [(3, sh_I 0), (0, sh_R (3, 0, 0)), (1, sh_R (6, k1, 0)), (2, sh_R (6, k2, 0))]) (pc := 21) dX3_tryOn_21 (by decide) rfl ?_
  obtain ⟨Iv5, mu5, h0, hs5⟩ := h
  refine sh_pick [1, 2, 3, 0] rfl ?_
  refine sh_lp2 Iv5 mu5 (fun v6 S7 => sh_V g mX3_tryOn 0 0 22 [(0, sh_R (3, 0, 0)), (1, sh_R (6, k1, 0)), (2, sh_R (6, k2, 0)), (3, sh_I v6)] [] (sh_St S7) sz (sh_tu sz Q)) (fun v6 S7 hI5 ih5 => ?_) _ _ h0
  have h := hs5 v6 S7 hI5
  clear h0
  refine sh_iload_n (pc := 22) dX3_tryOn_22 rfl ?_
  refine sh_bipush (v := 60) (pc := 23) dX3_tryOn_23 rfl ?_
  refine sh_icmp_ge (tgt := 86) (pc := 25) dX3_tryOn_25 (by decide) (fun hc8 => ?_) (fun hc8 => ?_)
  · have h := h.1 hc8
    exact sh_ret_u (pc := 86) dX3_tryOn_86 rfl ⟨rfl, rfl⟩ h
  · have h := h.2 hc8
    refine sh_aload_n (pc := 28) dX3_tryOn_28 rfl ?_
    refine sh_gf (pc := 29) dX3_tryOn_29 fl_X3_27 cf_3 ok_3_0 rfl rfl ?_
    refine sh_aload_n (pc := 32) dX3_tryOn_32 rfl ?_
    refine sh_gf (pc := 33) dX3_tryOn_33 fl_X3_16 cf_3 ok_3_0 rfl rfl ?_
    refine sh_icmp_ge (tgt := 86) (pc := 36) dX3_tryOn_36 (by decide) (fun hc9 => ?_) (fun hc9 => ?_)
    · have h := h.1 hc9
      exact sh_ret_u (pc := 86) dX3_tryOn_86 rfl ⟨rfl, rfl⟩ h
    · have h := h.2 hc9
      refine sh_aload_n (pc := 39) dX3_tryOn_39 rfl ?_
      refine sh_gf (pc := 40) dX3_tryOn_40 fl_X3_33 cf_3 ok_3_0 rfl rfl ?_
      refine sh_if_ne (tgt := 86) (pc := 43) dX3_tryOn_43 (by decide) (fun hc10 => ?_) (fun hc10 => ?_)
      · have h := h.1 hc10
        exact sh_ret_u (pc := 86) dX3_tryOn_86 rfl ⟨rfl, rfl⟩ h
      · have h := h.2 hc10
        refine sh_aload_n (pc := 46) dX3_tryOn_46 rfl ?_
        refine sh_aload_n (pc := 47) dX3_tryOn_47 rfl ?_
        refine sh_gf (pc := 48) dX3_tryOn_48 fl_X3_27 cf_3 ok_3_0 rfl rfl ?_
        refine sh_pfi (pc := 51) dX3_tryOn_51 fl_X3_36 cf_3 ft_3_3 ok_3_0 rfl (Nat.le_of_ble_eq_true rfl) rfl ?_
        refine sh_topS (fun S11 hS11 => ?_)
        have h := h S11 hS11
        refine sh_aload_n (pc := 54) dX3_tryOn_54 rfl ?_
        refine sh_aload_n (pc := 55) dX3_tryOn_55 rfl ?_
        refine sh_aload_n (pc := 56) dX3_tryOn_56 rfl ?_
        refine sh_ci (N := mX3_runOrder) (pc := 57) dX3_tryOn_57 ml_X3_39 h mf_X3_runOrder iv_X3_runOrder ⟨Nat.le_of_ble_eq_true rfl, Nat.le_of_ble_eq_true rfl⟩ rfl rfl (Nat.le_of_ble_eq_true rfl) ok_3_0 rfl (show vwCl[3]? = some (RX3, TX3, 6) from rfl) rfl (fun r13 S12 h => ?_)
        refine sh_pfi (pc := 60) dX3_tryOn_60 fl_X3_33 cf_3 ft_3_4 ok_3_0 rfl (Nat.le_of_ble_eq_true rfl) rfl ?_
        refine sh_topS (fun S14 hS14 => ?_)
        have h := h S14 hS14
        refine sh_aload_n (pc := 63) dX3_tryOn_63 rfl ?_
        refine sh_gf (pc := 64) dX3_tryOn_64 fl_X3_33 cf_3 ok_3_0 rfl rfl ?_
        refine sh_if_ne (tgt := 80) (pc := 67) dX3_tryOn_67 (by decide) (fun hc15 => ?_) (fun hc15 => ?_)
        · have h := h.1 hc15
          obtain ⟨x16, hx16⟩ : ∃ y : Int32, y = v6 + 1 := ⟨_, rfl⟩
          have h := h x16 hx16
          refine sh_iinc (v := x16) (ls' := [(3, sh_I x16), (0, sh_R (3, 0, 0)), (1, sh_R (6, k1, 0)), (2, sh_R (6, k2, 0))]) (pc := 80) dX3_tryOn_80 rfl hx16.symm (by decide) rfl ?_
          refine sh_goto (tgt := 22) (pc := 83) dX3_tryOn_83 (by decide) ?_
          refine sh_pick [1, 2, 3, 0] rfl ?_
          exact ih5 _ _ h.1 h.2
        · have h := h.2 hc15
          refine sh_aload_n (pc := 70) dX3_tryOn_70 rfl ?_
          refine sh_dup (pc := 71) dX3_tryOn_71 rfl ?_
          refine sh_gf (pc := 72) dX3_tryOn_72 fl_X3_30 cf_3 ok_3_0 rfl rfl ?_
          refine sh_iconst (v := 1) (pc := 75) dX3_tryOn_75 rfl ?_
          refine sh_iadd (pc := 76) dX3_tryOn_76 ?_
          refine sh_pfi (pc := 77) dX3_tryOn_77 fl_X3_30 cf_3 ft_3_5 ok_3_0 rfl (Nat.le_of_ble_eq_true rfl) rfl ?_
          refine sh_topS (fun S17 hS17 => ?_)
          have h := h S17 hS17
          obtain ⟨x18, hx18⟩ : ∃ y : Int32, y = v6 + 1 := ⟨_, rfl⟩
          have h := h x18 hx18
          refine sh_iinc (v := x18) (ls' := [(3, sh_I x18), (0, sh_R (3, 0, 0)), (1, sh_R (6, k1, 0)), (2, sh_R (6, k2, 0))]) (pc := 80) dX3_tryOn_80 rfl hx18.symm (by decide) rfl ?_
          refine sh_goto (tgt := 22) (pc := 83) dX3_tryOn_83 (by decide) ?_
          refine sh_pick [1, 2, 3, 0] rfl ?_
          exact ih5 _ _ h.1 h.2

set_option maxRecDepth 100000 in
set_option maxHeartbeats 4000000 in
theorem wp_X4_hasSeated {g : sh_G} {S : sh_S} {sz : Nat} {Q : Int32 → sh_S → Prop} {k i : Nat} (hk : sh_ok (4, k, i)) {a1 : Int32} 
    (h : (∃ (Iv1 : Int32 → Prop) (mu1 : Int32 → Nat), Iv1 0 ∧ ∀ (v2 : Int32), Iv1 v2 → ((3 ≤ v2 → Q 0 S) ∧ (¬ 3 ≤ v2 → (vp_in v2 3 ∧ ((¬ (S (13, k, i) (v2.toNatClampNeg)) = a1 → (∀ x7 : Int32, x7 = v2 + 1 → (Iv1 x7 ∧ mu1 x7 < mu1 v2))) ∧ ((S (13, k, i) (v2.toNatClampNeg)) = a1 → Q 1 S))))))) :
    sh_Ci g mX4_hasSeated [sh_R (4, k, i), sh_I a1] S sz Q := by
  refine sh_enter (ls := [(0, sh_R (4, k, i)), (1, sh_I a1)]) (by decide +kernel) (Nat.le_of_ble_eq_true rfl) rfl ?_
  refine sh_iconst (v := 0) (pc := 0) dX4_hasSeated_0 rfl ?_
  refine sh_istore_n (ls' := [(2, sh_I 0), (0, sh_R (4, k, i)), (1, sh_I a1)]) (pc := 1) dX4_hasSeated_1 (by decide) rfl ?_
  obtain ⟨Iv1, mu1, h0, hs1⟩ := h
  refine sh_pick [1, 2, 0] rfl ?_
  refine sh_lp1 Iv1 mu1 (fun v2 => sh_V g mX4_hasSeated 0 0 2 [(0, sh_R (4, k, i)), (1, sh_I a1), (2, sh_I v2)] [] (sh_St S) sz (sh_ti sz Q)) (fun v2 hI1 ih1 => ?_) _ h0
  have h := hs1 v2 hI1
  clear h0
  refine sh_iload_n (pc := 2) dX4_hasSeated_2 rfl ?_
  refine sh_iconst (v := 3) (pc := 3) dX4_hasSeated_3 rfl ?_
  refine sh_icmp_ge (tgt := 25) (pc := 4) dX4_hasSeated_4 (by decide) (fun hc4 => ?_) (fun hc4 => ?_)
  · have h := h.1 hc4
    refine sh_iconst (v := 0) (pc := 25) dX4_hasSeated_25 rfl ?_
    exact sh_ret_z (pc := 26) dX4_hasSeated_26 rfl rfl ⟨rfl, rfl⟩ h
  · have h := h.2 hc4
    refine sh_aload_n (pc := 7) dX4_hasSeated_7 rfl ?_
    refine sh_gf (pc := 8) dX4_hasSeated_8 fl_X4_9 cf_4 hk rfl rfl ?_
    refine sh_iload_n (pc := 11) dX4_hasSeated_11 rfl ?_
    obtain ⟨hi5, h⟩ := h
    refine sh_ia (pc := 12) dX4_hasSeated_12 hk rfl hi5 ?_
    refine sh_iload_n (pc := 13) dX4_hasSeated_13 rfl ?_
    refine sh_icmp_ne (tgt := 19) (pc := 14) dX4_hasSeated_14 (by decide) (fun hc6 => ?_) (fun hc6 => ?_)
    · have h := h.1 hc6
      obtain ⟨x7, hx7⟩ : ∃ y : Int32, y = v2 + 1 := ⟨_, rfl⟩
      have h := h x7 hx7
      refine sh_iinc (v := x7) (ls' := [(2, sh_I x7), (0, sh_R (4, k, i)), (1, sh_I a1)]) (pc := 19) dX4_hasSeated_19 rfl hx7.symm (by decide) rfl ?_
      refine sh_goto (tgt := 2) (pc := 22) dX4_hasSeated_22 (by decide) ?_
      refine sh_pick [1, 2, 0] rfl ?_
      exact ih1 _ h.1 h.2
    · have h := h.2 hc6
      refine sh_iconst (v := 1) (pc := 17) dX4_hasSeated_17 rfl ?_
      exact sh_ret_z (pc := 18) dX4_hasSeated_18 rfl rfl ⟨rfl, rfl⟩ h

set_option maxRecDepth 100000 in
set_option maxHeartbeats 4000000 in
theorem wp_X4_hears {g : sh_G} {S : sh_S} {sz : Nat} {Q : Int32 → sh_S → Prop} {k i : Nat} (hk : sh_ok (4, k, i)) {a1 : Int32} {a2 : Int32} 
    (h : (∃ (Iv1 : Int32 → sh_S → Prop) (mu1 : Int32 → sh_S → Nat), Iv1 0 S ∧ ∀ (v2 : Int32) (S3 : sh_S), Iv1 v2 S3 → ((3 ≤ v2 → Q 0 S3) ∧ (¬ 3 ≤ v2 → (vp_in v2 3 ∧ ((¬ (S3 (13, k, i) (v2.toNatClampNeg)) = a1 → (∀ x7 : Int32, x7 = v2 + 1 → (Iv1 x7 S3 ∧ mu1 x7 S3 < mu1 v2 S3))) ∧ ((S3 (13, k, i) (v2.toNatClampNeg)) = a1 → (vp_in v2 3 ∧ ((¬ (S3 (14, k, i) (v2.toNatClampNeg)) = (-1) → (∀ x10 : Int32, x10 = v2 + 1 → (Iv1 x10 S3 ∧ mu1 x10 S3 < mu1 v2 S3))) ∧ ((S3 (14, k, i) (v2.toNatClampNeg)) = (-1) → (vp_in v2 3 ∧ (∀ S12 : sh_S, S12 = sh_sr S3 (14, k, i) (upd (S3 (14, k, i)) (v2.toNatClampNeg) a2) → Q 1 S12)))))))))))) :
    sh_Ci g mX4_hears [sh_R (4, k, i), sh_I a1, sh_I a2] S sz Q := by
  refine sh_enter (ls := [(0, sh_R (4, k, i)), (1, sh_I a1), (2, sh_I a2)]) (by decide +kernel) (Nat.le_of_ble_eq_true rfl) rfl ?_
  refine sh_iconst (v := 0) (pc := 0) dX4_hears_0 rfl ?_
  refine sh_istore_n (ls' := [(3, sh_I 0), (0, sh_R (4, k, i)), (1, sh_I a1), (2, sh_I a2)]) (pc := 1) dX4_hears_1 (by decide) rfl ?_
  obtain ⟨Iv1, mu1, h0, hs1⟩ := h
  refine sh_pick [1, 2, 3, 0] rfl ?_
  refine sh_lp2 Iv1 mu1 (fun v2 S3 => sh_V g mX4_hears 0 0 2 [(0, sh_R (4, k, i)), (1, sh_I a1), (2, sh_I a2), (3, sh_I v2)] [] (sh_St S3) sz (sh_ti sz Q)) (fun v2 S3 hI1 ih1 => ?_) _ _ h0
  have h := hs1 v2 S3 hI1
  clear h0
  refine sh_iload_n (pc := 2) dX4_hears_2 rfl ?_
  refine sh_iconst (v := 3) (pc := 3) dX4_hears_3 rfl ?_
  refine sh_icmp_ge (tgt := 42) (pc := 4) dX4_hears_4 (by decide) (fun hc4 => ?_) (fun hc4 => ?_)
  · have h := h.1 hc4
    refine sh_iconst (v := 0) (pc := 42) dX4_hears_42 rfl ?_
    exact sh_ret_z (pc := 43) dX4_hears_43 rfl rfl ⟨rfl, rfl⟩ h
  · have h := h.2 hc4
    refine sh_aload_n (pc := 7) dX4_hears_7 rfl ?_
    refine sh_gf (pc := 8) dX4_hears_8 fl_X4_9 cf_4 hk rfl rfl ?_
    refine sh_iload_n (pc := 11) dX4_hears_11 rfl ?_
    obtain ⟨hi5, h⟩ := h
    refine sh_ia (pc := 12) dX4_hears_12 hk rfl hi5 ?_
    refine sh_iload_n (pc := 13) dX4_hears_13 rfl ?_
    refine sh_icmp_ne (tgt := 36) (pc := 14) dX4_hears_14 (by decide) (fun hc6 => ?_) (fun hc6 => ?_)
    · have h := h.1 hc6
      obtain ⟨x7, hx7⟩ : ∃ y : Int32, y = v2 + 1 := ⟨_, rfl⟩
      have h := h x7 hx7
      refine sh_iinc (v := x7) (ls' := [(3, sh_I x7), (0, sh_R (4, k, i)), (1, sh_I a1), (2, sh_I a2)]) (pc := 36) dX4_hears_36 rfl hx7.symm (by decide) rfl ?_
      refine sh_goto (tgt := 2) (pc := 39) dX4_hears_39 (by decide) ?_
      refine sh_pick [1, 2, 3, 0] rfl ?_
      exact ih1 _ _ h.1 h.2
    · have h := h.2 hc6
      refine sh_aload_n (pc := 17) dX4_hears_17 rfl ?_
      refine sh_gf (pc := 18) dX4_hears_18 fl_X4_15 cf_4 hk rfl rfl ?_
      refine sh_iload_n (pc := 21) dX4_hears_21 rfl ?_
      obtain ⟨hi8, h⟩ := h
      refine sh_ia (pc := 22) dX4_hears_22 hk rfl hi8 ?_
      refine sh_iconst (v := (-1)) (pc := 23) dX4_hears_23 rfl ?_
      refine sh_icmp_ne (tgt := 36) (pc := 24) dX4_hears_24 (by decide) (fun hc9 => ?_) (fun hc9 => ?_)
      · have h := h.1 hc9
        obtain ⟨x10, hx10⟩ : ∃ y : Int32, y = v2 + 1 := ⟨_, rfl⟩
        have h := h x10 hx10
        refine sh_iinc (v := x10) (ls' := [(3, sh_I x10), (0, sh_R (4, k, i)), (1, sh_I a1), (2, sh_I a2)]) (pc := 36) dX4_hears_36 rfl hx10.symm (by decide) rfl ?_
        refine sh_goto (tgt := 2) (pc := 39) dX4_hears_39 (by decide) ?_
        refine sh_pick [1, 2, 3, 0] rfl ?_
        exact ih1 _ _ h.1 h.2
      · have h := h.2 hc9
        refine sh_aload_n (pc := 27) dX4_hears_27 rfl ?_
        refine sh_gf (pc := 28) dX4_hears_28 fl_X4_15 cf_4 hk rfl rfl ?_
        refine sh_iload_n (pc := 31) dX4_hears_31 rfl ?_
        refine sh_iload_n (pc := 32) dX4_hears_32 rfl ?_
        obtain ⟨hi11, h⟩ := h
        refine sh_is (pc := 33) dX4_hears_33 hk rfl hi11 rfl ?_
        refine sh_topS (fun S12 hS12 => ?_)
        have h := h S12 hS12
        refine sh_iconst (v := 1) (pc := 34) dX4_hears_34 rfl ?_
        exact sh_ret_z (pc := 35) dX4_hears_35 rfl rfl ⟨rfl, rfl⟩ h

set_option maxRecDepth 100000 in
set_option maxHeartbeats 4000000 in
theorem wp_X4_countOfWord {g : sh_G} {S : sh_S} {sz : Nat} {Q : Int32 → sh_S → Prop} {k i : Nat} (hk : sh_ok (4, k, i)) {a1 : Int32} 
    (h : (∃ (Iv1 : Int32 → Int32 → Prop) (mu1 : Int32 → Int32 → Nat), Iv1 0 0 ∧ ∀ (v2 : Int32) (v3 : Int32), Iv1 v2 v3 → ((3 ≤ v3 → Q v2 S) ∧ (¬ 3 ≤ v3 → (vp_in v3 3 ∧ ((¬ (S (14, k, i) (v3.toNatClampNeg)) = a1 → (∀ x8 : Int32, x8 = v3 + 1 → (Iv1 v2 x8 ∧ mu1 v2 x8 < mu1 v2 v3))) ∧ ((S (14, k, i) (v3.toNatClampNeg)) = a1 → (∀ x9 : Int32, x9 = v2 + 1 → (∀ x10 : Int32, x10 = v3 + 1 → (Iv1 x9 x10 ∧ mu1 x9 x10 < mu1 v2 v3)))))))))) :
    sh_Ci g mX4_countOfWord [sh_R (4, k, i), sh_I a1] S sz Q := by
  refine sh_enter (ls := [(0, sh_R (4, k, i)), (1, sh_I a1)]) (by decide +kernel) (Nat.le_of_ble_eq_true rfl) rfl ?_
  refine sh_iconst (v := 0) (pc := 0) dX4_countOfWord_0 rfl ?_
  refine sh_istore_n (ls' := [(2, sh_I 0), (0, sh_R (4, k, i)), (1, sh_I a1)]) (pc := 1) dX4_countOfWord_1 (by decide) rfl ?_
  refine sh_iconst (v := 0) (pc := 2) dX4_countOfWord_2 rfl ?_
  refine sh_istore_n (ls' := [(3, sh_I 0), (2, sh_I 0), (0, sh_R (4, k, i)), (1, sh_I a1)]) (pc := 3) dX4_countOfWord_3 (by decide) rfl ?_
  obtain ⟨Iv1, mu1, h0, hs1⟩ := h
  refine sh_pick [2, 3, 1, 0] rfl ?_
  refine sh_lp2 Iv1 mu1 (fun v2 v3 => sh_V g mX4_countOfWord 0 0 4 [(0, sh_R (4, k, i)), (1, sh_I a1), (2, sh_I v2), (3, sh_I v3)] [] (sh_St S) sz (sh_ti sz Q)) (fun v2 v3 hI1 ih1 => ?_) _ _ h0
  have h := hs1 v2 v3 hI1
  clear h0
  refine sh_iload_n (pc := 4) dX4_countOfWord_4 rfl ?_
  refine sh_iconst (v := 3) (pc := 5) dX4_countOfWord_5 rfl ?_
  refine sh_icmp_ge (tgt := 28) (pc := 6) dX4_countOfWord_6 (by decide) (fun hc5 => ?_) (fun hc5 => ?_)
  · have h := h.1 hc5
    refine sh_iload_n (pc := 28) dX4_countOfWord_28 rfl ?_
    exact sh_ret_i (pc := 29) dX4_countOfWord_29 rfl ⟨rfl, rfl⟩ h
  · have h := h.2 hc5
    refine sh_aload_n (pc := 9) dX4_countOfWord_9 rfl ?_
    refine sh_gf (pc := 10) dX4_countOfWord_10 fl_X4_15 cf_4 hk rfl rfl ?_
    refine sh_iload_n (pc := 13) dX4_countOfWord_13 rfl ?_
    obtain ⟨hi6, h⟩ := h
    refine sh_ia (pc := 14) dX4_countOfWord_14 hk rfl hi6 ?_
    refine sh_iload_n (pc := 15) dX4_countOfWord_15 rfl ?_
    refine sh_icmp_ne (tgt := 22) (pc := 16) dX4_countOfWord_16 (by decide) (fun hc7 => ?_) (fun hc7 => ?_)
    · have h := h.1 hc7
      obtain ⟨x8, hx8⟩ : ∃ y : Int32, y = v3 + 1 := ⟨_, rfl⟩
      have h := h x8 hx8
      refine sh_iinc (v := x8) (ls' := [(3, sh_I x8), (0, sh_R (4, k, i)), (1, sh_I a1), (2, sh_I v2)]) (pc := 22) dX4_countOfWord_22 rfl hx8.symm (by decide) rfl ?_
      refine sh_goto (tgt := 4) (pc := 25) dX4_countOfWord_25 (by decide) ?_
      refine sh_pick [1, 2, 3, 0] rfl ?_
      exact ih1 _ _ h.1 h.2
    · have h := h.2 hc7
      obtain ⟨x9, hx9⟩ : ∃ y : Int32, y = v2 + 1 := ⟨_, rfl⟩
      have h := h x9 hx9
      refine sh_iinc (v := x9) (ls' := [(2, sh_I x9), (0, sh_R (4, k, i)), (1, sh_I a1), (3, sh_I v3)]) (pc := 19) dX4_countOfWord_19 rfl hx9.symm (by decide) rfl ?_
      obtain ⟨x10, hx10⟩ : ∃ y : Int32, y = v3 + 1 := ⟨_, rfl⟩
      have h := h x10 hx10
      refine sh_iinc (v := x10) (ls' := [(3, sh_I x10), (2, sh_I x9), (0, sh_R (4, k, i)), (1, sh_I a1)]) (pc := 22) dX4_countOfWord_22 rfl hx10.symm (by decide) rfl ?_
      refine sh_goto (tgt := 4) (pc := 25) dX4_countOfWord_25 (by decide) ?_
      refine sh_pick [2, 3, 1, 0] rfl ?_
      exact ih1 _ _ h.1 h.2

set_option maxRecDepth 100000 in
set_option maxHeartbeats 4000000 in
theorem wp_X4_countOfSpeakers {g : sh_G} {S : sh_S} {sz : Nat} {Q : Int32 → sh_S → Prop} {k i : Nat} (hk : sh_ok (4, k, i)) 
    (h : (sh_Ci g mX4_countOfWord [sh_R (4, k, i), sh_I (-1)] S sz (fun r2 S1 => Q (3 - r2) S1))) :
    sh_Ci g mX4_countOfSpeakers [sh_R (4, k, i)] S sz Q := by
  refine sh_enter (ls := [(0, sh_R (4, k, i))]) (by decide +kernel) (Nat.le_of_ble_eq_true rfl) rfl ?_
  refine sh_iconst (v := 3) (pc := 0) dX4_countOfSpeakers_0 rfl ?_
  refine sh_aload_n (pc := 1) dX4_countOfSpeakers_1 rfl ?_
  refine sh_iconst (v := (-1)) (pc := 2) dX4_countOfSpeakers_2 rfl ?_
  refine sh_ci (N := mX4_countOfWord) (pc := 3) dX4_countOfSpeakers_3 ml_X4_28 h mf_X4_countOfWord iv_X4_countOfWord ⟨Nat.le_of_ble_eq_true rfl, Nat.le_of_ble_eq_true rfl⟩ rfl rfl (Nat.le_of_ble_eq_true rfl) hk rfl (show vwCl[4]? = some (RX4, TX4, 3) from rfl) rfl (fun r2 S1 h => ?_)
  refine sh_isub (pc := 6) dX4_countOfSpeakers_6 ?_
  exact sh_ret_i (pc := 7) dX4_countOfSpeakers_7 rfl ⟨rfl, rfl⟩ h

set_option maxRecDepth 100000 in
set_option maxHeartbeats 4000000 in
theorem wp_X4_decision {g : sh_G} {S : sh_S} {sz : Nat} {Q : Int32 → sh_S → Prop} {k i : Nat} (hk : sh_ok (4, k, i)) 
    (h : (∃ (Iv1 : Int32 → sh_S → Prop) (mu1 : Int32 → sh_S → Nat), Iv1 0 S ∧ ∀ (v2 : Int32) (S3 : sh_S), Iv1 v2 S3 → ((2 < v2 → (sh_Ci g mX4_countOfSpeakers [sh_R (4, k, i)] S3 sz (fun r6 S5 => ((¬ r6 = 3 → Q 3 S5) ∧ (r6 = 3 → Q 2 S5))))) ∧ (¬ 2 < v2 → (sh_Ci g mX4_countOfWord [sh_R (4, k, i), sh_I v2] S3 sz (fun r9 S8 => ((r9 < 2 → (∀ x11 : Int32, x11 = v2 + 1 → (Iv1 x11 S8 ∧ mu1 x11 S8 < mu1 v2 S3))) ∧ (¬ r9 < 2 → Q v2 S8)))))))) :
    sh_Ci g mX4_decision [sh_R (4, k, i)] S sz Q := by
  refine sh_enter (ls := [(0, sh_R (4, k, i))]) (by decide +kernel) (Nat.le_of_ble_eq_true rfl) rfl ?_
  refine sh_iconst (v := 0) (pc := 0) dX4_decision_0 rfl ?_
  refine sh_istore_n (ls' := [(1, sh_I 0), (0, sh_R (4, k, i))]) (pc := 1) dX4_decision_1 (by decide) rfl ?_
  obtain ⟨Iv1, mu1, h0, hs1⟩ := h
  refine sh_pick [1, 0] rfl ?_
  refine sh_lp2 Iv1 mu1 (fun v2 S3 => sh_V g mX4_decision 0 0 2 [(0, sh_R (4, k, i)), (1, sh_I v2)] [] (sh_St S3) sz (sh_ti sz Q)) (fun v2 S3 hI1 ih1 => ?_) _ _ h0
  have h := hs1 v2 S3 hI1
  clear h0
  refine sh_iload_n (pc := 2) dX4_decision_2 rfl ?_
  refine sh_iconst (v := 2) (pc := 3) dX4_decision_3 rfl ?_
  refine sh_icmp_gt (tgt := 24) (pc := 4) dX4_decision_4 (by decide) (fun hc4 => ?_) (fun hc4 => ?_)
  · have h := h.1 hc4
    refine sh_aload_n (pc := 24) dX4_decision_24 rfl ?_
    refine sh_ci (N := mX4_countOfSpeakers) (pc := 25) dX4_decision_25 ml_X4_32 h mf_X4_countOfSpeakers iv_X4_countOfSpeakers ⟨Nat.le_of_ble_eq_true rfl, Nat.le_of_ble_eq_true rfl⟩ rfl rfl (Nat.le_of_ble_eq_true rfl) hk rfl (show vwCl[4]? = some (RX4, TX4, 3) from rfl) rfl (fun r6 S5 h => ?_)
    refine sh_iconst (v := 3) (pc := 28) dX4_decision_28 rfl ?_
    refine sh_icmp_ne (tgt := 36) (pc := 29) dX4_decision_29 (by decide) (fun hc7 => ?_) (fun hc7 => ?_)
    · have h := h.1 hc7
      refine sh_iconst (v := 3) (pc := 36) dX4_decision_36 rfl ?_
      exact sh_ret_i (pc := 37) dX4_decision_37 rfl ⟨rfl, rfl⟩ h
    · have h := h.2 hc7
      refine sh_iconst (v := 2) (pc := 32) dX4_decision_32 rfl ?_
      refine sh_goto (tgt := 37) (pc := 33) dX4_decision_33 (by decide) ?_
      exact sh_ret_i (pc := 37) dX4_decision_37 rfl ⟨rfl, rfl⟩ h
  · have h := h.2 hc4
    refine sh_aload_n (pc := 7) dX4_decision_7 rfl ?_
    refine sh_iload_n (pc := 8) dX4_decision_8 rfl ?_
    refine sh_ci (N := mX4_countOfWord) (pc := 9) dX4_decision_9 ml_X4_28 h mf_X4_countOfWord iv_X4_countOfWord ⟨Nat.le_of_ble_eq_true rfl, Nat.le_of_ble_eq_true rfl⟩ rfl rfl (Nat.le_of_ble_eq_true rfl) hk rfl (show vwCl[4]? = some (RX4, TX4, 3) from rfl) rfl (fun r9 S8 h => ?_)
    refine sh_iconst (v := 2) (pc := 12) dX4_decision_12 rfl ?_
    refine sh_icmp_lt (tgt := 18) (pc := 13) dX4_decision_13 (by decide) (fun hc10 => ?_) (fun hc10 => ?_)
    · have h := h.1 hc10
      obtain ⟨x11, hx11⟩ : ∃ y : Int32, y = v2 + 1 := ⟨_, rfl⟩
      have h := h x11 hx11
      refine sh_iinc (v := x11) (ls' := [(1, sh_I x11), (0, sh_R (4, k, i))]) (pc := 18) dX4_decision_18 rfl hx11.symm (by decide) rfl ?_
      refine sh_goto (tgt := 2) (pc := 21) dX4_decision_21 (by decide) ?_
      refine sh_pick [1, 0] rfl ?_
      exact ih1 _ _ h.1 h.2
    · have h := h.2 hc10
      refine sh_iload_n (pc := 16) dX4_decision_16 rfl ?_
      exact sh_ret_i (pc := 17) dX4_decision_17 rfl ⟨rfl, rfl⟩ h

set_option maxRecDepth 100000 in
set_option maxHeartbeats 4000000 in
theorem wp_X5_begin {g : sh_G} {S : sh_S} {sz : Nat} {Q : sh_S → Prop} {k i : Nat} (hk : sh_ok (5, k, i)) {a1 : Int32} {a2 : Int32} {a3 : Int32} 
    (h : (∀ S1 : sh_S, S1 = sh_sr S (5, k, i) (upd (S (5, k, i)) 0 1) → (∀ S2 : sh_S, S2 = sh_sr S1 (5, k, i) (upd (S1 (5, k, i)) 1 a1) → (∀ S3 : sh_S, S3 = sh_sr S2 (5, k, i) (upd (S2 (5, k, i)) 2 a2) → (∀ S4 : sh_S, S4 = sh_sr S3 (5, k, i) (upd (S3 (5, k, i)) 3 a3) → (∀ S5 : sh_S, S5 = sh_sr S4 (5, k, i) (upd (S4 (5, k, i)) 4 0) → (∀ S6 : sh_S, S6 = sh_sr S5 (5, k, i) (upd (S5 (5, k, i)) 5 0) → (∀ S7 : sh_S, S7 = sh_sr S6 (5, k, i) (upd (S6 (5, k, i)) 6 0) → Q S7)))))))) :
    sh_Cu g mX5_begin [sh_R (5, k, i), sh_I a1, sh_I a2, sh_I a3] S sz Q := by
  refine sh_enter (ls := [(0, sh_R (5, k, i)), (1, sh_I a1), (2, sh_I a2), (3, sh_I a3)]) (by decide +kernel) (Nat.le_of_ble_eq_true rfl) rfl ?_
  refine sh_aload_n (pc := 0) dX5_begin_0 rfl ?_
  refine sh_iconst (v := 1) (pc := 1) dX5_begin_1 rfl ?_
  refine sh_pfz (pc := 2) dX5_begin_2 fl_X5_9 cf_5 ft_5_0 (by decide) hk rfl (Nat.le_of_ble_eq_true rfl) rfl ?_
  refine sh_topS (fun S1 hS1 => ?_)
  have h := h S1 hS1
  refine sh_aload_n (pc := 5) dX5_begin_5 rfl ?_
  refine sh_iload_n (pc := 6) dX5_begin_6 rfl ?_
  refine sh_pfi (pc := 7) dX5_begin_7 fl_X5_15 cf_5 ft_5_1 hk rfl (Nat.le_of_ble_eq_true rfl) rfl ?_
  refine sh_topS (fun S2 hS2 => ?_)
  have h := h S2 hS2
  refine sh_aload_n (pc := 10) dX5_begin_10 rfl ?_
  refine sh_iload_n (pc := 11) dX5_begin_11 rfl ?_
  refine sh_pfi (pc := 12) dX5_begin_12 fl_X5_19 cf_5 ft_5_2 hk rfl (Nat.le_of_ble_eq_true rfl) rfl ?_
  refine sh_topS (fun S3 hS3 => ?_)
  have h := h S3 hS3
  refine sh_aload_n (pc := 15) dX5_begin_15 rfl ?_
  refine sh_iload_n (pc := 16) dX5_begin_16 rfl ?_
  refine sh_pfi (pc := 17) dX5_begin_17 fl_X5_22 cf_5 ft_5_3 hk rfl (Nat.le_of_ble_eq_true rfl) rfl ?_
  refine sh_topS (fun S4 hS4 => ?_)
  have h := h S4 hS4
  refine sh_aload_n (pc := 20) dX5_begin_20 rfl ?_
  refine sh_iconst (v := 0) (pc := 21) dX5_begin_21 rfl ?_
  refine sh_pfi (pc := 22) dX5_begin_22 fl_X5_25 cf_5 ft_5_4 hk rfl (Nat.le_of_ble_eq_true rfl) rfl ?_
  refine sh_topS (fun S5 hS5 => ?_)
  have h := h S5 hS5
  refine sh_aload_n (pc := 25) dX5_begin_25 rfl ?_
  refine sh_iconst (v := 0) (pc := 26) dX5_begin_26 rfl ?_
  refine sh_pfi (pc := 27) dX5_begin_27 fl_X5_28 cf_5 ft_5_5 hk rfl (Nat.le_of_ble_eq_true rfl) rfl ?_
  refine sh_topS (fun S6 hS6 => ?_)
  have h := h S6 hS6
  refine sh_aload_n (pc := 30) dX5_begin_30 rfl ?_
  refine sh_iconst (v := 0) (pc := 31) dX5_begin_31 rfl ?_
  refine sh_pfi (pc := 32) dX5_begin_32 fl_X5_31 cf_5 ft_5_6 hk rfl (Nat.le_of_ble_eq_true rfl) rfl ?_
  refine sh_topS (fun S7 hS7 => ?_)
  have h := h S7 hS7
  exact sh_ret_u (pc := 35) dX5_begin_35 rfl ⟨rfl, rfl⟩ h

set_option maxRecDepth 100000 in
set_option maxHeartbeats 4000000 in
theorem wp_X5_hasVoteOf {g : sh_G} {S : sh_S} {sz : Nat} {Q : Int32 → sh_S → Prop} {k i : Nat} (hk : sh_ok (5, k, i)) {a1 : Int32} 
    (h : ((¬ (((S (5, k, i) 6) >>> (a1 &&& 31)) &&& 1) = 1 → Q 0 S) ∧ ((((S (5, k, i) 6) >>> (a1 &&& 31)) &&& 1) = 1 → Q 1 S))) :
    sh_Ci g mX5_hasVoteOf [sh_R (5, k, i), sh_I a1] S sz Q := by
  refine sh_enter (ls := [(0, sh_R (5, k, i)), (1, sh_I a1)]) (by decide +kernel) (Nat.le_of_ble_eq_true rfl) rfl ?_
  refine sh_aload_n (pc := 0) dX5_hasVoteOf_0 rfl ?_
  refine sh_gf (pc := 1) dX5_hasVoteOf_1 fl_X5_31 cf_5 hk rfl rfl ?_
  refine sh_iload_n (pc := 4) dX5_hasVoteOf_4 rfl ?_
  refine sh_ishr (pc := 5) dX5_hasVoteOf_5 ?_
  refine sh_iconst (v := 1) (pc := 6) dX5_hasVoteOf_6 rfl ?_
  refine sh_iand (pc := 7) dX5_hasVoteOf_7 ?_
  refine sh_iconst (v := 1) (pc := 8) dX5_hasVoteOf_8 rfl ?_
  refine sh_icmp_ne (tgt := 16) (pc := 9) dX5_hasVoteOf_9 (by decide) (fun hc1 => ?_) (fun hc1 => ?_)
  · have h := h.1 hc1
    refine sh_iconst (v := 0) (pc := 16) dX5_hasVoteOf_16 rfl ?_
    exact sh_ret_z (pc := 17) dX5_hasVoteOf_17 rfl rfl ⟨rfl, rfl⟩ h
  · have h := h.2 hc1
    refine sh_iconst (v := 1) (pc := 12) dX5_hasVoteOf_12 rfl ?_
    refine sh_goto (tgt := 17) (pc := 13) dX5_hasVoteOf_13 (by decide) ?_
    exact sh_ret_z (pc := 17) dX5_hasVoteOf_17 rfl rfl ⟨rfl, rfl⟩ h

set_option maxRecDepth 100000 in
set_option maxHeartbeats 4000000 in
theorem wp_X5_countVote {g : sh_G} {S : sh_S} {sz : Nat} {Q : sh_S → Prop} {k i : Nat} (hk : sh_ok (5, k, i)) {a1 : Int32} {a2 : Int32} 
    (h : (∀ S1 : sh_S, S1 = sh_sr S (5, k, i) (upd (S (5, k, i)) 6 (((S (5, k, i) 6) ||| (1 <<< (a1 &&& 31))))) → ((a2 = 0 → (∀ S3 : sh_S, S3 = sh_sr S1 (5, k, i) (upd (S1 (5, k, i)) 5 (((S1 (5, k, i) 5) + 1))) → Q S3)) ∧ (¬ a2 = 0 → (∀ S4 : sh_S, S4 = sh_sr S1 (5, k, i) (upd (S1 (5, k, i)) 4 (((S1 (5, k, i) 4) + 1))) → Q S4))))) :
    sh_Cu g mX5_countVote [sh_R (5, k, i), sh_I a1, sh_I a2] S sz Q := by
  refine sh_enter (ls := [(0, sh_R (5, k, i)), (1, sh_I a1), (2, sh_I a2)]) (by decide +kernel) (Nat.le_of_ble_eq_true rfl) rfl ?_
  refine sh_aload_n (pc := 0) dX5_countVote_0 rfl ?_
  refine sh_dup (pc := 1) dX5_countVote_1 rfl ?_
  refine sh_gf (pc := 2) dX5_countVote_2 fl_X5_31 cf_5 hk rfl rfl ?_
  refine sh_iconst (v := 1) (pc := 5) dX5_countVote_5 rfl ?_
  refine sh_iload_n (pc := 6) dX5_countVote_6 rfl ?_
  refine sh_ishl (pc := 7) dX5_countVote_7 ?_
  refine sh_ior (pc := 8) dX5_countVote_8 ?_
  refine sh_pfi (pc := 9) dX5_countVote_9 fl_X5_31 cf_5 ft_5_6 hk rfl (Nat.le_of_ble_eq_true rfl) rfl ?_
  refine sh_topS (fun S1 hS1 => ?_)
  have h := h S1 hS1
  refine sh_iload_n (pc := 12) dX5_countVote_12 rfl ?_
  refine sh_if_eq (tgt := 29) (pc := 13) dX5_countVote_13 (by decide) (fun hc2 => ?_) (fun hc2 => ?_)
  · have h := h.1 hc2
    refine sh_aload_n (pc := 29) dX5_countVote_29 rfl ?_
    refine sh_dup (pc := 30) dX5_countVote_30 rfl ?_
    refine sh_gf (pc := 31) dX5_countVote_31 fl_X5_28 cf_5 hk rfl rfl ?_
    refine sh_iconst (v := 1) (pc := 34) dX5_countVote_34 rfl ?_
    refine sh_iadd (pc := 35) dX5_countVote_35 ?_
    refine sh_pfi (pc := 36) dX5_countVote_36 fl_X5_28 cf_5 ft_5_5 hk rfl (Nat.le_of_ble_eq_true rfl) rfl ?_
    refine sh_topS (fun S3 hS3 => ?_)
    have h := h S3 hS3
    exact sh_ret_u (pc := 39) dX5_countVote_39 rfl ⟨rfl, rfl⟩ h
  · have h := h.2 hc2
    refine sh_aload_n (pc := 16) dX5_countVote_16 rfl ?_
    refine sh_dup (pc := 17) dX5_countVote_17 rfl ?_
    refine sh_gf (pc := 18) dX5_countVote_18 fl_X5_25 cf_5 hk rfl rfl ?_
    refine sh_iconst (v := 1) (pc := 21) dX5_countVote_21 rfl ?_
    refine sh_iadd (pc := 22) dX5_countVote_22 ?_
    refine sh_pfi (pc := 23) dX5_countVote_23 fl_X5_25 cf_5 ft_5_4 hk rfl (Nat.le_of_ble_eq_true rfl) rfl ?_
    refine sh_topS (fun S4 hS4 => ?_)
    have h := h S4 hS4
    refine sh_goto (tgt := 39) (pc := 26) dX5_countVote_26 (by decide) ?_
    exact sh_ret_u (pc := 39) dX5_countVote_39 rfl ⟨rfl, rfl⟩ h

set_option maxRecDepth 100000 in
set_option maxHeartbeats 4000000 in
theorem wp_X5_outcome {g : sh_G} {S : sh_S} {sz : Nat} {Q : Int32 → sh_S → Prop} {k i : Nat} (hk : sh_ok (5, k, i)) {a1 : Int32} 
    (h : (((2 * (S (5, k, i) 4)) ≤ a1 → (((2 * (S (5, k, i) 5)) < a1 → Q 2 S) ∧ (¬ (2 * (S (5, k, i) 5)) < a1 → Q 0 S))) ∧ (¬ (2 * (S (5, k, i) 4)) ≤ a1 → Q 1 S))) :
    sh_Ci g mX5_outcome [sh_R (5, k, i), sh_I a1] S sz Q := by
  refine sh_enter (ls := [(0, sh_R (5, k, i)), (1, sh_I a1)]) (by decide +kernel) (Nat.le_of_ble_eq_true rfl) rfl ?_
  refine sh_iconst (v := 2) (pc := 0) dX5_outcome_0 rfl ?_
  refine sh_aload_n (pc := 1) dX5_outcome_1 rfl ?_
  refine sh_gf (pc := 2) dX5_outcome_2 fl_X5_25 cf_5 hk rfl rfl ?_
  refine sh_imul (pc := 5) dX5_outcome_5 ?_
  refine sh_iload_n (pc := 6) dX5_outcome_6 rfl ?_
  refine sh_icmp_le (tgt := 12) (pc := 7) dX5_outcome_7 (by decide) (fun hc1 => ?_) (fun hc1 => ?_)
  · have h := h.1 hc1
    refine sh_iconst (v := 2) (pc := 12) dX5_outcome_12 rfl ?_
    refine sh_aload_n (pc := 13) dX5_outcome_13 rfl ?_
    refine sh_gf (pc := 14) dX5_outcome_14 fl_X5_28 cf_5 hk rfl rfl ?_
    refine sh_imul (pc := 17) dX5_outcome_17 ?_
    refine sh_iload_n (pc := 18) dX5_outcome_18 rfl ?_
    refine sh_icmp_lt (tgt := 26) (pc := 19) dX5_outcome_19 (by decide) (fun hc2 => ?_) (fun hc2 => ?_)
    · have h := h.1 hc2
      refine sh_iconst (v := 2) (pc := 26) dX5_outcome_26 rfl ?_
      exact sh_ret_i (pc := 27) dX5_outcome_27 rfl ⟨rfl, rfl⟩ h
    · have h := h.2 hc2
      refine sh_iconst (v := 0) (pc := 22) dX5_outcome_22 rfl ?_
      refine sh_goto (tgt := 27) (pc := 23) dX5_outcome_23 (by decide) ?_
      exact sh_ret_i (pc := 27) dX5_outcome_27 rfl ⟨rfl, rfl⟩ h
  · have h := h.2 hc1
    refine sh_iconst (v := 1) (pc := 10) dX5_outcome_10 rfl ?_
    exact sh_ret_i (pc := 11) dX5_outcome_11 rfl ⟨rfl, rfl⟩ h

set_option maxRecDepth 100000 in
set_option maxHeartbeats 4000000 in
theorem wp_X5_tell {g : sh_G} {S : sh_S} {sz : Nat} {Q : Int32 → sh_S → Prop} {k i : Nat} (hk : sh_ok (5, k, i)) {a1 : Int32} 
    (h : ((a1 = 0 → Q (S (5, k, i) 1) S) ∧ (¬ a1 = 0 → ((a1 = 1 → Q (S (5, k, i) 2) S) ∧ (¬ a1 = 1 → ((a1 = 2 → Q (S (5, k, i) 3) S) ∧ (¬ a1 = 2 → ((a1 = 3 → Q (S (5, k, i) 4) S) ∧ (¬ a1 = 3 → ((a1 = 4 → Q (S (5, k, i) 5) S) ∧ (¬ a1 = 4 → Q (-1000001) S))))))))))) :
    sh_Ci g mX5_tell [sh_R (5, k, i), sh_I a1] S sz Q := by
  refine sh_enter (ls := [(0, sh_R (5, k, i)), (1, sh_I a1)]) (by decide +kernel) (Nat.le_of_ble_eq_true rfl) rfl ?_
  refine sh_iload_n (pc := 0) dX5_tell_0 rfl ?_
  by_cases hc1 : a1 = 0
  · have h := h.1 hc1
    refine sh_tin 0 (pc := 1) (tgt := 36) dX5_tell_1 hc1 (by decide) (by decide) rfl (by decide) ?_
    refine sh_aload_n (pc := 36) dX5_tell_36 rfl ?_
    refine sh_gf (pc := 37) dX5_tell_37 fl_X5_15 cf_5 hk rfl rfl ?_
    exact sh_ret_i (pc := 40) dX5_tell_40 rfl ⟨rfl, rfl⟩ h
  · have h := h.2 hc1
    by_cases hc2 : a1 = 1
    · have h := h.1 hc2
      refine sh_tin 1 (pc := 1) (tgt := 41) dX5_tell_1 hc2 (by decide) (by decide) rfl (by decide) ?_
      refine sh_aload_n (pc := 41) dX5_tell_41 rfl ?_
      refine sh_gf (pc := 42) dX5_tell_42 fl_X5_19 cf_5 hk rfl rfl ?_
      exact sh_ret_i (pc := 45) dX5_tell_45 rfl ⟨rfl, rfl⟩ h
    · have h := h.2 hc2
      by_cases hc3 : a1 = 2
      · have h := h.1 hc3
        refine sh_tin 2 (pc := 1) (tgt := 46) dX5_tell_1 hc3 (by decide) (by decide) rfl (by decide) ?_
        refine sh_aload_n (pc := 46) dX5_tell_46 rfl ?_
        refine sh_gf (pc := 47) dX5_tell_47 fl_X5_22 cf_5 hk rfl rfl ?_
        exact sh_ret_i (pc := 50) dX5_tell_50 rfl ⟨rfl, rfl⟩ h
      · have h := h.2 hc3
        by_cases hc4 : a1 = 3
        · have h := h.1 hc4
          refine sh_tin 3 (pc := 1) (tgt := 51) dX5_tell_1 hc4 (by decide) (by decide) rfl (by decide) ?_
          refine sh_aload_n (pc := 51) dX5_tell_51 rfl ?_
          refine sh_gf (pc := 52) dX5_tell_52 fl_X5_25 cf_5 hk rfl rfl ?_
          exact sh_ret_i (pc := 55) dX5_tell_55 rfl ⟨rfl, rfl⟩ h
        · have h := h.2 hc4
          by_cases hc5 : a1 = 4
          · have h := h.1 hc5
            refine sh_tin 4 (pc := 1) (tgt := 56) dX5_tell_1 hc5 (by decide) (by decide) rfl (by decide) ?_
            refine sh_aload_n (pc := 56) dX5_tell_56 rfl ?_
            refine sh_gf (pc := 57) dX5_tell_57 fl_X5_28 cf_5 hk rfl rfl ?_
            exact sh_ret_i (pc := 60) dX5_tell_60 rfl ⟨rfl, rfl⟩ h
          · have h := h.2 hc5
            refine sh_tout 0 5 (pc := 1) (tgt := 61) dX5_tell_1 (by decide) (by decide) (lt_s (lt_s (lt_s (lt_s (lt_s lt_0 hc1) hc2) hc3) hc4) hc5) (by decide) ?_
            refine sh_ldc (v := (-1000001)) (pc := 61) dX5_tell_61 kc_X5_34 ?_
            exact sh_ret_i (pc := 63) dX5_tell_63 rfl ⟨rfl, rfl⟩ h

set_option maxRecDepth 100000 in
set_option maxHeartbeats 4000000 in
theorem wp_X6_changeSetting {g : sh_G} {S : sh_S} {sz : Nat} {Q : Int32 → sh_S → Prop} {k : Nat} (hk : sh_ok (6, k, 0)) {a1 : Int32} {a2 : Int32} 
    (h : ((a1 < 0 → Q (-1000001) S) ∧ (¬ a1 < 0 → ((7 ≤ a1 → Q (-1000001) S) ∧ (¬ 7 ≤ a1 → (vp_in a1 7 ∧ ((a2 < (sh_sf 0 (a1.toNatClampNeg)) → Q (-1000001) S) ∧ (¬ a2 < (sh_sf 0 (a1.toNatClampNeg)) → (vp_in a1 7 ∧ ((a2 ≤ (sh_sf 1 (a1.toNatClampNeg)) → (vp_in a1 7 ∧ (∀ x8 : Int32, x8 = (S (15, k, 0) (a1.toNatClampNeg)) → (vp_in a1 7 ∧ (∀ S10 : sh_S, S10 = sh_sr S (15, k, 0) (upd (S (15, k, 0)) (a1.toNatClampNeg) a2) → Q x8 S10))))) ∧ (¬ a2 ≤ (sh_sf 1 (a1.toNatClampNeg)) → Q (-1000001) S))))))))))) :
    sh_Ci g mX6_changeSetting [sh_R (6, k, 0), sh_I a1, sh_I a2] S sz Q := by
  refine sh_enter (ls := [(0, sh_R (6, k, 0)), (1, sh_I a1), (2, sh_I a2)]) (by decide +kernel) (Nat.le_of_ble_eq_true rfl) rfl ?_
  refine sh_iload_n (pc := 0) dX6_changeSetting_0 rfl ?_
  refine sh_if_lt (tgt := 28) (pc := 1) dX6_changeSetting_1 (by decide) (fun hc1 => ?_) (fun hc1 => ?_)
  · have h := h.1 hc1
    refine sh_ldc (v := (-1000001)) (pc := 28) dX6_changeSetting_28 kc_X6_58 ?_
    exact sh_ret_i (pc := 30) dX6_changeSetting_30 rfl ⟨rfl, rfl⟩ h
  · have h := h.2 hc1
    refine sh_iload_n (pc := 4) dX6_changeSetting_4 rfl ?_
    refine sh_bipush (v := 7) (pc := 5) dX6_changeSetting_5 rfl ?_
    refine sh_icmp_ge (tgt := 28) (pc := 7) dX6_changeSetting_7 (by decide) (fun hc2 => ?_) (fun hc2 => ?_)
    · have h := h.1 hc2
      refine sh_ldc (v := (-1000001)) (pc := 28) dX6_changeSetting_28 kc_X6_58 ?_
      exact sh_ret_i (pc := 30) dX6_changeSetting_30 rfl ⟨rfl, rfl⟩ h
    · have h := h.2 hc2
      refine sh_iload_n (pc := 10) dX6_changeSetting_10 rfl ?_
      refine sh_sgetN (i := 0) (pc := 11) dX6_changeSetting_11 nl_X6_52 (by decide) ?_
      refine sh_iload_n (pc := 14) dX6_changeSetting_14 rfl ?_
      obtain ⟨hi3, h⟩ := h
      refine sh_tald (pc := 15) dX6_changeSetting_15 (by decide) hi3 ?_
      refine sh_icmp_lt (tgt := 28) (pc := 16) dX6_changeSetting_16 (by decide) (fun hc4 => ?_) (fun hc4 => ?_)
      · have h := h.1 hc4
        refine sh_ldc (v := (-1000001)) (pc := 28) dX6_changeSetting_28 kc_X6_58 ?_
        exact sh_ret_i (pc := 30) dX6_changeSetting_30 rfl ⟨rfl, rfl⟩ h
      · have h := h.2 hc4
        refine sh_iload_n (pc := 19) dX6_changeSetting_19 rfl ?_
        refine sh_sgetN (i := 1) (pc := 20) dX6_changeSetting_20 nl_X6_55 (by decide) ?_
        refine sh_iload_n (pc := 23) dX6_changeSetting_23 rfl ?_
        obtain ⟨hi5, h⟩ := h
        refine sh_tald (pc := 24) dX6_changeSetting_24 (by decide) hi5 ?_
        refine sh_icmp_le (tgt := 31) (pc := 25) dX6_changeSetting_25 (by decide) (fun hc6 => ?_) (fun hc6 => ?_)
        · have h := h.1 hc6
          refine sh_aload_n (pc := 31) dX6_changeSetting_31 rfl ?_
          refine sh_gf (pc := 32) dX6_changeSetting_32 fl_X6_9 cf_6 hk rfl rfl ?_
          refine sh_iload_n (pc := 35) dX6_changeSetting_35 rfl ?_
          obtain ⟨hi7, h⟩ := h
          refine sh_ia (pc := 36) dX6_changeSetting_36 hk rfl hi7 ?_
          refine sh_topI (fun x8 hx8 => ?_)
          have h := h x8 hx8
          refine sh_istore_n (ls' := [(3, sh_I x8), (0, sh_R (6, k, 0)), (1, sh_I a1), (2, sh_I a2)]) (pc := 37) dX6_changeSetting_37 (by decide) rfl ?_
          refine sh_aload_n (pc := 38) dX6_changeSetting_38 rfl ?_
          refine sh_gf (pc := 39) dX6_changeSetting_39 fl_X6_9 cf_6 hk rfl rfl ?_
          refine sh_iload_n (pc := 42) dX6_changeSetting_42 rfl ?_
          refine sh_iload_n (pc := 43) dX6_changeSetting_43 rfl ?_
          obtain ⟨hi9, h⟩ := h
          refine sh_is (pc := 44) dX6_changeSetting_44 hk rfl hi9 rfl ?_
          refine sh_topS (fun S10 hS10 => ?_)
          have h := h S10 hS10
          refine sh_iload_n (pc := 45) dX6_changeSetting_45 rfl ?_
          exact sh_ret_i (pc := 46) dX6_changeSetting_46 rfl ⟨rfl, rfl⟩ h
        · have h := h.2 hc6
          refine sh_ldc (v := (-1000001)) (pc := 28) dX6_changeSetting_28 kc_X6_58 ?_
          exact sh_ret_i (pc := 30) dX6_changeSetting_30 rfl ⟨rfl, rfl⟩ h

set_option maxRecDepth 100000 in
set_option maxHeartbeats 4000000 in
theorem wp_X6_isBound {g : sh_G} {S : sh_S} {sz : Nat} {Q : Int32 → sh_S → Prop} {k : Nat} (hk : sh_ok (6, k, 0)) {a1 : Int32} 
    (h : (∃ (Iv1 : Int32 → sh_S → Prop) (mu1 : Int32 → sh_S → Nat), Iv1 0 S ∧ ∀ (v2 : Int32) (S3 : sh_S), Iv1 v2 S3 → (((S3 (6, k, 0) 3) ≤ v2 → Q 0 S3) ∧ (¬ (S3 (6, k, 0) 3) ≤ v2 → (sh_Ci g mX6_hasTool [sh_R (6, k, 0), sh_I v2] S3 sz (fun r6 S5 => ((r6 = 0 → (sh_Ci g mX6_hasTool [sh_R (6, k, 0), sh_I v2] S5 sz (fun r9 S8 => ((r9 = 0 → (∀ x11 : Int32, x11 = v2 + 1 → (Iv1 x11 S8 ∧ mu1 x11 S8 < mu1 v2 S3))) ∧ (¬ r9 = 0 → (vp_in v2 20 ∧ ((¬ (S8 (7, k, (v2.toNatClampNeg)) 4) = 2 → (∀ x14 : Int32, x14 = v2 + 1 → (Iv1 x14 S8 ∧ mu1 x14 S8 < mu1 v2 S3))) ∧ ((S8 (7, k, (v2.toNatClampNeg)) 4) = 2 → (vp_in v2 20 ∧ (sh_Ci g mX4_hasSeated [sh_R (4, k, (v2.toNatClampNeg)), sh_I a1] S8 sz (fun r17 S16 => ((r17 = 0 → (∀ x19 : Int32, x19 = v2 + 1 → (Iv1 x19 S16 ∧ mu1 x19 S16 < mu1 v2 S3))) ∧ (¬ r17 = 0 → Q 1 S16))))))))))))) ∧ (¬ r6 = 0 → (vp_in v2 20 ∧ (sh_Ci g mX7_isOnMember [sh_R (7, k, (v2.toNatClampNeg)), sh_I a1] S5 sz (fun r22 S21 => ((r22 = 0 → (sh_Ci g mX6_hasTool [sh_R (6, k, 0), sh_I v2] S21 sz (fun r25 S24 => ((r25 = 0 → (∀ x27 : Int32, x27 = v2 + 1 → (Iv1 x27 S24 ∧ mu1 x27 S24 < mu1 v2 S3))) ∧ (¬ r25 = 0 → (vp_in v2 20 ∧ ((¬ (S24 (7, k, (v2.toNatClampNeg)) 4) = 2 → (∀ x30 : Int32, x30 = v2 + 1 → (Iv1 x30 S24 ∧ mu1 x30 S24 < mu1 v2 S3))) ∧ ((S24 (7, k, (v2.toNatClampNeg)) 4) = 2 → (vp_in v2 20 ∧ (sh_Ci g mX4_hasSeated [sh_R (4, k, (v2.toNatClampNeg)), sh_I a1] S24 sz (fun r33 S32 => ((r33 = 0 → (∀ x35 : Int32, x35 = v2 + 1 → (Iv1 x35 S32 ∧ mu1 x35 S32 < mu1 v2 S3))) ∧ (¬ r33 = 0 → Q 1 S32))))))))))))) ∧ (¬ r22 = 0 → Q 1 S21))))))))))))) :
    sh_Ci g mX6_isBound [sh_R (6, k, 0), sh_I a1] S sz Q := by
  refine sh_enter (ls := [(0, sh_R (6, k, 0)), (1, sh_I a1)]) (by decide +kernel) (Nat.le_of_ble_eq_true rfl) rfl ?_
  refine sh_iconst (v := 0) (pc := 0) dX6_isBound_0 rfl ?_
  refine sh_istore_n (ls' := [(2, sh_I 0), (0, sh_R (6, k, 0)), (1, sh_I a1)]) (pc := 1) dX6_isBound_1 (by decide) rfl ?_
  obtain ⟨Iv1, mu1, h0, hs1⟩ := h
  refine sh_pick [1, 2, 0] rfl ?_
  refine sh_lp2 Iv1 mu1 (fun v2 S3 => sh_V g mX6_isBound 0 0 2 [(0, sh_R (6, k, 0)), (1, sh_I a1), (2, sh_I v2)] [] (sh_St S3) sz (sh_ti sz Q)) (fun v2 S3 hI1 ih1 => ?_) _ _ h0
  have h := hs1 v2 S3 hI1
  clear h0
  refine sh_iload_n (pc := 2) dX6_isBound_2 rfl ?_
  refine sh_aload_n (pc := 3) dX6_isBound_3 rfl ?_
  refine sh_gf (pc := 4) dX6_isBound_4 fl_X6_45 cf_6 hk rfl rfl ?_
  refine sh_icmp_ge (tgt := 78) (pc := 7) dX6_isBound_7 (by decide) (fun hc4 => ?_) (fun hc4 => ?_)
  · have h := h.1 hc4
    refine sh_iconst (v := 0) (pc := 78) dX6_isBound_78 rfl ?_
    exact sh_ret_z (pc := 79) dX6_isBound_79 rfl rfl ⟨rfl, rfl⟩ h
  · have h := h.2 hc4
    refine sh_aload_n (pc := 10) dX6_isBound_10 rfl ?_
    refine sh_iload_n (pc := 11) dX6_isBound_11 rfl ?_
    refine sh_ci (N := mX6_hasTool) (pc := 12) dX6_isBound_12 ml_X6_88 h mf_X6_hasTool iv_X6_hasTool ⟨Nat.le_of_ble_eq_true rfl, Nat.le_of_ble_eq_true rfl⟩ rfl rfl (Nat.le_of_ble_eq_true rfl) hk rfl (show vwCl[6]? = some (RX6, TX6, 5) from rfl) rfl (fun r6 S5 h => ?_)
    refine sh_if_eq (tgt := 33) (pc := 15) dX6_isBound_15 (by decide) (fun hc7 => ?_) (fun hc7 => ?_)
    · have h := h.1 hc7
      refine sh_aload_n (pc := 33) dX6_isBound_33 rfl ?_
      refine sh_iload_n (pc := 34) dX6_isBound_34 rfl ?_
      refine sh_ci (N := mX6_hasTool) (pc := 35) dX6_isBound_35 ml_X6_88 h mf_X6_hasTool iv_X6_hasTool ⟨Nat.le_of_ble_eq_true rfl, Nat.le_of_ble_eq_true rfl⟩ rfl rfl (Nat.le_of_ble_eq_true rfl) hk rfl (show vwCl[6]? = some (RX6, TX6, 5) from rfl) rfl (fun r9 S8 h => ?_)
      refine sh_if_eq (tgt := 72) (pc := 38) dX6_isBound_38 (by decide) (fun hc10 => ?_) (fun hc10 => ?_)
      · have h := h.1 hc10
        obtain ⟨x11, hx11⟩ : ∃ y : Int32, y = v2 + 1 := ⟨_, rfl⟩
        have h := h x11 hx11
        refine sh_iinc (v := x11) (ls' := [(2, sh_I x11), (0, sh_R (6, k, 0)), (1, sh_I a1)]) (pc := 72) dX6_isBound_72 rfl hx11.symm (by decide) rfl ?_
        refine sh_goto (tgt := 2) (pc := 75) dX6_isBound_75 (by decide) ?_
        refine sh_pick [1, 2, 0] rfl ?_
        exact ih1 _ _ h.1 h.2
      · have h := h.2 hc10
        refine sh_aload_n (pc := 41) dX6_isBound_41 rfl ?_
        refine sh_gf (pc := 42) dX6_isBound_42 fl_X6_24 cf_6 hk rfl rfl ?_
        refine sh_iload_n (pc := 45) dX6_isBound_45 rfl ?_
        obtain ⟨hi12, h⟩ := h
        refine sh_aa (o' := (7, k, (v2.toNatClampNeg))) (pc := 46) dX6_isBound_46 (by decide) hk rfl hi12 rfl ?_
        refine sh_gf (pc := 47) dX6_isBound_47 fl_X6_94 cf_7 ⟨hk.1, vp_lt hi12⟩ rfl rfl ?_
        refine sh_iconst (v := 2) (pc := 50) dX6_isBound_50 rfl ?_
        refine sh_icmp_ne (tgt := 72) (pc := 51) dX6_isBound_51 (by decide) (fun hc13 => ?_) (fun hc13 => ?_)
        · have h := h.1 hc13
          obtain ⟨x14, hx14⟩ : ∃ y : Int32, y = v2 + 1 := ⟨_, rfl⟩
          have h := h x14 hx14
          refine sh_iinc (v := x14) (ls' := [(2, sh_I x14), (0, sh_R (6, k, 0)), (1, sh_I a1)]) (pc := 72) dX6_isBound_72 rfl hx14.symm (by decide) rfl ?_
          refine sh_goto (tgt := 2) (pc := 75) dX6_isBound_75 (by decide) ?_
          refine sh_pick [1, 2, 0] rfl ?_
          exact ih1 _ _ h.1 h.2
        · have h := h.2 hc13
          refine sh_aload_n (pc := 54) dX6_isBound_54 rfl ?_
          refine sh_gf (pc := 55) dX6_isBound_55 fl_X6_24 cf_6 hk rfl rfl ?_
          refine sh_iload_n (pc := 58) dX6_isBound_58 rfl ?_
          obtain ⟨hi15, h⟩ := h
          refine sh_aa (o' := (7, k, (v2.toNatClampNeg))) (pc := 59) dX6_isBound_59 (by decide) hk rfl hi15 rfl ?_
          refine sh_gf (pc := 60) dX6_isBound_60 fl_X6_97 cf_7 ⟨hk.1, vp_lt hi15⟩ rfl rfl ?_
          refine sh_iload_n (pc := 63) dX6_isBound_63 rfl ?_
          refine sh_ci (N := mX4_hasSeated) (pc := 64) dX6_isBound_64 ml_X6_101 h mf_X4_hasSeated iv_X4_hasSeated ⟨Nat.le_of_ble_eq_true rfl, Nat.le_of_ble_eq_true rfl⟩ rfl rfl (Nat.le_of_ble_eq_true rfl) ⟨hk.1, vp_lt hi15⟩ rfl (show vwCl[4]? = some (RX4, TX4, 3) from rfl) rfl (fun r17 S16 h => ?_)
          refine sh_if_eq (tgt := 72) (pc := 67) dX6_isBound_67 (by decide) (fun hc18 => ?_) (fun hc18 => ?_)
          · have h := h.1 hc18
            obtain ⟨x19, hx19⟩ : ∃ y : Int32, y = v2 + 1 := ⟨_, rfl⟩
            have h := h x19 hx19
            refine sh_iinc (v := x19) (ls' := [(2, sh_I x19), (0, sh_R (6, k, 0)), (1, sh_I a1)]) (pc := 72) dX6_isBound_72 rfl hx19.symm (by decide) rfl ?_
            refine sh_goto (tgt := 2) (pc := 75) dX6_isBound_75 (by decide) ?_
            refine sh_pick [1, 2, 0] rfl ?_
            exact ih1 _ _ h.1 h.2
          · have h := h.2 hc18
            refine sh_iconst (v := 1) (pc := 70) dX6_isBound_70 rfl ?_
            exact sh_ret_z (pc := 71) dX6_isBound_71 rfl rfl ⟨rfl, rfl⟩ h
    · have h := h.2 hc7
      refine sh_aload_n (pc := 18) dX6_isBound_18 rfl ?_
      refine sh_gf (pc := 19) dX6_isBound_19 fl_X6_24 cf_6 hk rfl rfl ?_
      refine sh_iload_n (pc := 22) dX6_isBound_22 rfl ?_
      obtain ⟨hi20, h⟩ := h
      refine sh_aa (o' := (7, k, (v2.toNatClampNeg))) (pc := 23) dX6_isBound_23 (by decide) hk rfl hi20 rfl ?_
      refine sh_iload_n (pc := 24) dX6_isBound_24 rfl ?_
      refine sh_ci (N := mX7_isOnMember) (pc := 25) dX6_isBound_25 ml_X6_91 h mf_X7_isOnMember iv_X7_isOnMember ⟨Nat.le_of_ble_eq_true rfl, Nat.le_of_ble_eq_true rfl⟩ rfl rfl (Nat.le_of_ble_eq_true rfl) ⟨hk.1, vp_lt hi20⟩ rfl (show vwCl[7]? = some (RX7, TX7, 14) from rfl) rfl (fun r22 S21 h => ?_)
      refine sh_if_eq (tgt := 33) (pc := 28) dX6_isBound_28 (by decide) (fun hc23 => ?_) (fun hc23 => ?_)
      · have h := h.1 hc23
        refine sh_aload_n (pc := 33) dX6_isBound_33 rfl ?_
        refine sh_iload_n (pc := 34) dX6_isBound_34 rfl ?_
        refine sh_ci (N := mX6_hasTool) (pc := 35) dX6_isBound_35 ml_X6_88 h mf_X6_hasTool iv_X6_hasTool ⟨Nat.le_of_ble_eq_true rfl, Nat.le_of_ble_eq_true rfl⟩ rfl rfl (Nat.le_of_ble_eq_true rfl) hk rfl (show vwCl[6]? = some (RX6, TX6, 5) from rfl) rfl (fun r25 S24 h => ?_)
        refine sh_if_eq (tgt := 72) (pc := 38) dX6_isBound_38 (by decide) (fun hc26 => ?_) (fun hc26 => ?_)
        · have h := h.1 hc26
          obtain ⟨x27, hx27⟩ : ∃ y : Int32, y = v2 + 1 := ⟨_, rfl⟩
          have h := h x27 hx27
          refine sh_iinc (v := x27) (ls' := [(2, sh_I x27), (0, sh_R (6, k, 0)), (1, sh_I a1)]) (pc := 72) dX6_isBound_72 rfl hx27.symm (by decide) rfl ?_
          refine sh_goto (tgt := 2) (pc := 75) dX6_isBound_75 (by decide) ?_
          refine sh_pick [1, 2, 0] rfl ?_
          exact ih1 _ _ h.1 h.2
        · have h := h.2 hc26
          refine sh_aload_n (pc := 41) dX6_isBound_41 rfl ?_
          refine sh_gf (pc := 42) dX6_isBound_42 fl_X6_24 cf_6 hk rfl rfl ?_
          refine sh_iload_n (pc := 45) dX6_isBound_45 rfl ?_
          obtain ⟨hi28, h⟩ := h
          refine sh_aa (o' := (7, k, (v2.toNatClampNeg))) (pc := 46) dX6_isBound_46 (by decide) hk rfl hi28 rfl ?_
          refine sh_gf (pc := 47) dX6_isBound_47 fl_X6_94 cf_7 ⟨hk.1, vp_lt hi28⟩ rfl rfl ?_
          refine sh_iconst (v := 2) (pc := 50) dX6_isBound_50 rfl ?_
          refine sh_icmp_ne (tgt := 72) (pc := 51) dX6_isBound_51 (by decide) (fun hc29 => ?_) (fun hc29 => ?_)
          · have h := h.1 hc29
            obtain ⟨x30, hx30⟩ : ∃ y : Int32, y = v2 + 1 := ⟨_, rfl⟩
            have h := h x30 hx30
            refine sh_iinc (v := x30) (ls' := [(2, sh_I x30), (0, sh_R (6, k, 0)), (1, sh_I a1)]) (pc := 72) dX6_isBound_72 rfl hx30.symm (by decide) rfl ?_
            refine sh_goto (tgt := 2) (pc := 75) dX6_isBound_75 (by decide) ?_
            refine sh_pick [1, 2, 0] rfl ?_
            exact ih1 _ _ h.1 h.2
          · have h := h.2 hc29
            refine sh_aload_n (pc := 54) dX6_isBound_54 rfl ?_
            refine sh_gf (pc := 55) dX6_isBound_55 fl_X6_24 cf_6 hk rfl rfl ?_
            refine sh_iload_n (pc := 58) dX6_isBound_58 rfl ?_
            obtain ⟨hi31, h⟩ := h
            refine sh_aa (o' := (7, k, (v2.toNatClampNeg))) (pc := 59) dX6_isBound_59 (by decide) hk rfl hi31 rfl ?_
            refine sh_gf (pc := 60) dX6_isBound_60 fl_X6_97 cf_7 ⟨hk.1, vp_lt hi31⟩ rfl rfl ?_
            refine sh_iload_n (pc := 63) dX6_isBound_63 rfl ?_
            refine sh_ci (N := mX4_hasSeated) (pc := 64) dX6_isBound_64 ml_X6_101 h mf_X4_hasSeated iv_X4_hasSeated ⟨Nat.le_of_ble_eq_true rfl, Nat.le_of_ble_eq_true rfl⟩ rfl rfl (Nat.le_of_ble_eq_true rfl) ⟨hk.1, vp_lt hi31⟩ rfl (show vwCl[4]? = some (RX4, TX4, 3) from rfl) rfl (fun r33 S32 h => ?_)
            refine sh_if_eq (tgt := 72) (pc := 67) dX6_isBound_67 (by decide) (fun hc34 => ?_) (fun hc34 => ?_)
            · have h := h.1 hc34
              obtain ⟨x35, hx35⟩ : ∃ y : Int32, y = v2 + 1 := ⟨_, rfl⟩
              have h := h x35 hx35
              refine sh_iinc (v := x35) (ls' := [(2, sh_I x35), (0, sh_R (6, k, 0)), (1, sh_I a1)]) (pc := 72) dX6_isBound_72 rfl hx35.symm (by decide) rfl ?_
              refine sh_goto (tgt := 2) (pc := 75) dX6_isBound_75 (by decide) ?_
              refine sh_pick [1, 2, 0] rfl ?_
              exact ih1 _ _ h.1 h.2
            · have h := h.2 hc34
              refine sh_iconst (v := 1) (pc := 70) dX6_isBound_70 rfl ?_
              exact sh_ret_z (pc := 71) dX6_isBound_71 rfl rfl ⟨rfl, rfl⟩ h
      · have h := h.2 hc23
        refine sh_iconst (v := 1) (pc := 31) dX6_isBound_31 rfl ?_
        exact sh_ret_z (pc := 32) dX6_isBound_32 rfl rfl ⟨rfl, rfl⟩ h

set_option maxRecDepth 100000 in
set_option maxHeartbeats 4000000 in
theorem wp_X6_letLeave {g : sh_G} {S : sh_S} {sz : Nat} {Q : Int32 → sh_S → Prop} {k : Nat} (hk : sh_ok (6, k, 0)) {a1 : Int32} 
    (h : (sh_Ci g mX2_has [sh_R (2, k, 0), sh_I a1] S sz (fun r2 S1 => ((¬ r2 = 0 → (vp_in a1 10 ∧ (sh_Ci g mX1_isGone [sh_R (1, k, (a1.toNatClampNeg))] S1 sz (fun r6 S5 => ((¬ r6 = 0 → Q (-1000002) S5) ∧ (r6 = 0 → (sh_Ci g mX1_openInAll [sh_R (1, k, (a1.toNatClampNeg))] S5 sz (fun r9 S8 => ((0 < r9 → Q (-1000002) S8) ∧ (¬ 0 < r9 → (sh_Ci g mX6_isBound [sh_R (6, k, 0), sh_I a1] S8 sz (fun r12 S11 => ((¬ r12 = 0 → Q (-1000002) S11) ∧ (r12 = 0 → (sh_Ci g mX2_countNotGone [sh_R (2, k, 0), sh_I a1] S11 sz (fun r15 S14 => ((¬ r15 = 0 → (sh_Ci g mX2_depart [sh_R (2, k, 0), sh_I a1] S14 sz (fun r18 S17 => Q r18 S17))) ∧ (r15 = 0 → Q (-1000002) S14)))))))))))))))))) ∧ (r2 = 0 → Q (-1000001) S1))))) :
    sh_Ci g mX6_letLeave [sh_R (6, k, 0), sh_I a1] S sz Q := by
  refine sh_enter (ls := [(0, sh_R (6, k, 0)), (1, sh_I a1)]) (by decide +kernel) (Nat.le_of_ble_eq_true rfl) rfl ?_
  refine sh_aload_n (pc := 0) dX6_letLeave_0 rfl ?_
  refine sh_gf (pc := 1) dX6_letLeave_1 fl_X6_18 cf_6 hk rfl rfl ?_
  refine sh_iload_n (pc := 4) dX6_letLeave_4 rfl ?_
  refine sh_ci (N := mX2_has) (pc := 5) dX6_letLeave_5 ml_X6_59 h mf_X2_has iv_X2_has ⟨Nat.le_of_ble_eq_true rfl, Nat.le_of_ble_eq_true rfl⟩ rfl rfl (Nat.le_of_ble_eq_true rfl) hk rfl (show vwCl[2]? = some (RX2, TX2, 5) from rfl) rfl (fun r2 S1 h => ?_)
  refine sh_if_ne (tgt := 14) (pc := 8) dX6_letLeave_8 (by decide) (fun hc3 => ?_) (fun hc3 => ?_)
  · have h := h.1 hc3
    refine sh_aload_n (pc := 14) dX6_letLeave_14 rfl ?_
    refine sh_gf (pc := 15) dX6_letLeave_15 fl_X6_18 cf_6 hk rfl rfl ?_
    refine sh_gf (pc := 18) dX6_letLeave_18 fl_X6_63 cf_2 hk rfl rfl ?_
    refine sh_iload_n (pc := 21) dX6_letLeave_21 rfl ?_
    obtain ⟨hi4, h⟩ := h
    refine sh_aa (o' := (1, k, (a1.toNatClampNeg))) (pc := 22) dX6_letLeave_22 (by decide) hk rfl hi4 rfl ?_
    refine sh_astore_n (ls' := [(2, sh_R (1, k, (a1.toNatClampNeg))), (0, sh_R (6, k, 0)), (1, sh_I a1)]) (pc := 23) dX6_letLeave_23 (by decide) rfl ?_
    refine sh_aload_n (pc := 24) dX6_letLeave_24 rfl ?_
    refine sh_ci (N := mX1_isGone) (pc := 25) dX6_letLeave_25 ml_X6_67 h mf_X1_isGone iv_X1_isGone ⟨Nat.le_of_ble_eq_true rfl, Nat.le_of_ble_eq_true rfl⟩ rfl rfl (Nat.le_of_ble_eq_true rfl) ⟨hk.1, vp_lt hi4⟩ rfl (show vwCl[1]? = some (RX1, TX1, 1) from rfl) rfl (fun r6 S5 h => ?_)
    refine sh_if_ne (tgt := 57) (pc := 28) dX6_letLeave_28 (by decide) (fun hc7 => ?_) (fun hc7 => ?_)
    · have h := h.1 hc7
      refine sh_ldc (v := (-1000002)) (pc := 57) dX6_letLeave_57 kc_X6_84 ?_
      exact sh_ret_i (pc := 59) dX6_letLeave_59 rfl ⟨rfl, rfl⟩ h
    · have h := h.2 hc7
      refine sh_aload_n (pc := 31) dX6_letLeave_31 rfl ?_
      refine sh_ci (N := mX1_openInAll) (pc := 32) dX6_letLeave_32 ml_X6_73 h mf_X1_openInAll iv_X1_openInAll ⟨Nat.le_of_ble_eq_true rfl, Nat.le_of_ble_eq_true rfl⟩ rfl rfl (Nat.le_of_ble_eq_true rfl) ⟨hk.1, vp_lt hi4⟩ rfl (show vwCl[1]? = some (RX1, TX1, 1) from rfl) rfl (fun r9 S8 h => ?_)
      refine sh_if_gt (tgt := 57) (pc := 35) dX6_letLeave_35 (by decide) (fun hc10 => ?_) (fun hc10 => ?_)
      · have h := h.1 hc10
        refine sh_ldc (v := (-1000002)) (pc := 57) dX6_letLeave_57 kc_X6_84 ?_
        exact sh_ret_i (pc := 59) dX6_letLeave_59 rfl ⟨rfl, rfl⟩ h
      · have h := h.2 hc10
        refine sh_aload_n (pc := 38) dX6_letLeave_38 rfl ?_
        refine sh_iload_n (pc := 39) dX6_letLeave_39 rfl ?_
        refine sh_ci (N := mX6_isBound) (pc := 40) dX6_letLeave_40 ml_X6_77 h mf_X6_isBound iv_X6_isBound ⟨Nat.le_of_ble_eq_true rfl, Nat.le_of_ble_eq_true rfl⟩ rfl rfl (Nat.le_of_ble_eq_true rfl) hk rfl (show vwCl[6]? = some (RX6, TX6, 5) from rfl) rfl (fun r12 S11 h => ?_)
        refine sh_if_ne (tgt := 57) (pc := 43) dX6_letLeave_43 (by decide) (fun hc13 => ?_) (fun hc13 => ?_)
        · have h := h.1 hc13
          refine sh_ldc (v := (-1000002)) (pc := 57) dX6_letLeave_57 kc_X6_84 ?_
          exact sh_ret_i (pc := 59) dX6_letLeave_59 rfl ⟨rfl, rfl⟩ h
        · have h := h.2 hc13
          refine sh_aload_n (pc := 46) dX6_letLeave_46 rfl ?_
          refine sh_gf (pc := 47) dX6_letLeave_47 fl_X6_18 cf_6 hk rfl rfl ?_
          refine sh_iload_n (pc := 50) dX6_letLeave_50 rfl ?_
          refine sh_ci (N := mX2_countNotGone) (pc := 51) dX6_letLeave_51 ml_X6_80 h mf_X2_countNotGone iv_X2_countNotGone ⟨Nat.le_of_ble_eq_true rfl, Nat.le_of_ble_eq_true rfl⟩ rfl rfl (Nat.le_of_ble_eq_true rfl) hk rfl (show vwCl[2]? = some (RX2, TX2, 5) from rfl) rfl (fun r15 S14 h => ?_)
          refine sh_if_ne (tgt := 60) (pc := 54) dX6_letLeave_54 (by decide) (fun hc16 => ?_) (fun hc16 => ?_)
          · have h := h.1 hc16
            refine sh_aload_n (pc := 60) dX6_letLeave_60 rfl ?_
            refine sh_gf (pc := 61) dX6_letLeave_61 fl_X6_18 cf_6 hk rfl rfl ?_
            refine sh_iload_n (pc := 64) dX6_letLeave_64 rfl ?_
            refine sh_ci (N := mX2_depart) (pc := 65) dX6_letLeave_65 ml_X6_85 h mf_X2_depart iv_X2_depart ⟨Nat.le_of_ble_eq_true rfl, Nat.le_of_ble_eq_true rfl⟩ rfl rfl (Nat.le_of_ble_eq_true rfl) hk rfl (show vwCl[2]? = some (RX2, TX2, 5) from rfl) rfl (fun r18 S17 h => ?_)
            exact sh_ret_i (pc := 68) dX6_letLeave_68 rfl ⟨rfl, rfl⟩ h
          · have h := h.2 hc16
            refine sh_ldc (v := (-1000002)) (pc := 57) dX6_letLeave_57 kc_X6_84 ?_
            exact sh_ret_i (pc := 59) dX6_letLeave_59 rfl ⟨rfl, rfl⟩ h
  · have h := h.2 hc3
    refine sh_ldc (v := (-1000001)) (pc := 11) dX6_letLeave_11 kc_X6_58 ?_
    exact sh_ret_i (pc := 13) dX6_letLeave_13 rfl ⟨rfl, rfl⟩ h

set_option maxRecDepth 100000 in
set_option maxHeartbeats 4000000 in
theorem wp_X6_tellOfMember {g : sh_G} {S : sh_S} {sz : Nat} {Q : Int32 → sh_S → Prop} {k : Nat} (hk : sh_ok (6, k, 0)) {a1 : Int32} {a2 : Int32} 
    (h : (sh_Ci g mX2_has [sh_R (2, k, 0), sh_I a1] S sz (fun r2 S1 => ((r2 = 0 → Q (-1000001) S1) ∧ (¬ r2 = 0 → ((a2 < 0 → Q (-1000001) S1) ∧ (¬ a2 < 0 → ((a2 ≤ 13 → ((¬ a2 = 13 → ((¬ a2 = 12 → ((12 ≤ a2 → Q (-1000001) S1) ∧ (¬ 12 ≤ a2 → (vp_in a1 10 ∧ (vp_in a2 12 ∧ Q (S1 (10, k, (a1.toNatClampNeg)) (a2.toNatClampNeg)) S1))))) ∧ (a2 = 12 → (sh_Ci g mX6_toolsOfMember [sh_R (6, k, 0), sh_I a1, sh_I 0] S1 sz (fun r12 S11 => Q r12 S11))))) ∧ (a2 = 13 → (sh_Ci g mX2_placeInTurns [sh_R (2, k, 0), sh_I a1] S1 sz (fun r14 S13 => Q r14 S13))))) ∧ (¬ a2 ≤ 13 → Q (-1000001) S1))))))))) :
    sh_Ci g mX6_tellOfMember [sh_R (6, k, 0), sh_I a1, sh_I a2] S sz Q := by
  refine sh_enter (ls := [(0, sh_R (6, k, 0)), (1, sh_I a1), (2, sh_I a2)]) (by decide +kernel) (Nat.le_of_ble_eq_true rfl) rfl ?_
  refine sh_aload_n (pc := 0) dX6_tellOfMember_0 rfl ?_
  refine sh_gf (pc := 1) dX6_tellOfMember_1 fl_X6_18 cf_6 hk rfl rfl ?_
  refine sh_iload_n (pc := 4) dX6_tellOfMember_4 rfl ?_
  refine sh_ci (N := mX2_has) (pc := 5) dX6_tellOfMember_5 ml_X6_59 h mf_X2_has iv_X2_has ⟨Nat.le_of_ble_eq_true rfl, Nat.le_of_ble_eq_true rfl⟩ rfl rfl (Nat.le_of_ble_eq_true rfl) hk rfl (show vwCl[2]? = some (RX2, TX2, 5) from rfl) rfl (fun r2 S1 h => ?_)
  refine sh_if_eq (tgt := 21) (pc := 8) dX6_tellOfMember_8 (by decide) (fun hc3 => ?_) (fun hc3 => ?_)
  · have h := h.1 hc3
    refine sh_ldc (v := (-1000001)) (pc := 21) dX6_tellOfMember_21 kc_X6_58 ?_
    exact sh_ret_i (pc := 23) dX6_tellOfMember_23 rfl ⟨rfl, rfl⟩ h
  · have h := h.2 hc3
    refine sh_iload_n (pc := 11) dX6_tellOfMember_11 rfl ?_
    refine sh_if_lt (tgt := 21) (pc := 12) dX6_tellOfMember_12 (by decide) (fun hc4 => ?_) (fun hc4 => ?_)
    · have h := h.1 hc4
      refine sh_ldc (v := (-1000001)) (pc := 21) dX6_tellOfMember_21 kc_X6_58 ?_
      exact sh_ret_i (pc := 23) dX6_tellOfMember_23 rfl ⟨rfl, rfl⟩ h
    · have h := h.2 hc4
      refine sh_iload_n (pc := 15) dX6_tellOfMember_15 rfl ?_
      refine sh_bipush (v := 13) (pc := 16) dX6_tellOfMember_16 rfl ?_
      refine sh_icmp_le (tgt := 24) (pc := 18) dX6_tellOfMember_18 (by decide) (fun hc5 => ?_) (fun hc5 => ?_)
      · have h := h.1 hc5
        refine sh_iload_n (pc := 24) dX6_tellOfMember_24 rfl ?_
        refine sh_bipush (v := 13) (pc := 25) dX6_tellOfMember_25 rfl ?_
        refine sh_icmp_ne (tgt := 39) (pc := 27) dX6_tellOfMember_27 (by decide) (fun hc6 => ?_) (fun hc6 => ?_)
        · have h := h.1 hc6
          refine sh_iload_n (pc := 39) dX6_tellOfMember_39 rfl ?_
          refine sh_bipush (v := 12) (pc := 40) dX6_tellOfMember_40 rfl ?_
          refine sh_icmp_ne (tgt := 52) (pc := 42) dX6_tellOfMember_42 (by decide) (fun hc7 => ?_) (fun hc7 => ?_)
          · have h := h.1 hc7
            refine sh_iload_n (pc := 52) dX6_tellOfMember_52 rfl ?_
            refine sh_bipush (v := 12) (pc := 53) dX6_tellOfMember_53 rfl ?_
            refine sh_icmp_ge (tgt := 75) (pc := 55) dX6_tellOfMember_55 (by decide) (fun hc8 => ?_) (fun hc8 => ?_)
            · have h := h.1 hc8
              refine sh_ldc (v := (-1000001)) (pc := 75) dX6_tellOfMember_75 kc_X6_58 ?_
              exact sh_ret_i (pc := 77) dX6_tellOfMember_77 rfl ⟨rfl, rfl⟩ h
            · have h := h.2 hc8
              refine sh_aload_n (pc := 58) dX6_tellOfMember_58 rfl ?_
              refine sh_gf (pc := 59) dX6_tellOfMember_59 fl_X6_18 cf_6 hk rfl rfl ?_
              refine sh_gf (pc := 62) dX6_tellOfMember_62 fl_X6_63 cf_2 hk rfl rfl ?_
              refine sh_iload_n (pc := 65) dX6_tellOfMember_65 rfl ?_
              obtain ⟨hi9, h⟩ := h
              refine sh_aa (o' := (1, k, (a1.toNatClampNeg))) (pc := 66) dX6_tellOfMember_66 (by decide) hk rfl hi9 rfl ?_
              refine sh_gf (pc := 67) dX6_tellOfMember_67 fl_X6_113 cf_1 ⟨hk.1, vp_lt hi9⟩ rfl rfl ?_
              refine sh_iload_n (pc := 70) dX6_tellOfMember_70 rfl ?_
              obtain ⟨hi10, h⟩ := h
              refine sh_ia (pc := 71) dX6_tellOfMember_71 ⟨hk.1, vp_lt hi9⟩ rfl hi10 ?_
              refine sh_goto (tgt := 77) (pc := 72) dX6_tellOfMember_72 (by decide) ?_
              exact sh_ret_i (pc := 77) dX6_tellOfMember_77 rfl ⟨rfl, rfl⟩ h
          · have h := h.2 hc7
            refine sh_aload_n (pc := 45) dX6_tellOfMember_45 rfl ?_
            refine sh_iload_n (pc := 46) dX6_tellOfMember_46 rfl ?_
            refine sh_iconst (v := 0) (pc := 47) dX6_tellOfMember_47 rfl ?_
            refine sh_ci (N := mX6_toolsOfMember) (pc := 48) dX6_tellOfMember_48 ml_X6_109 h mf_X6_toolsOfMember iv_X6_toolsOfMember ⟨Nat.le_of_ble_eq_true rfl, Nat.le_of_ble_eq_true rfl⟩ rfl rfl (Nat.le_of_ble_eq_true rfl) hk rfl (show vwCl[6]? = some (RX6, TX6, 5) from rfl) rfl (fun r12 S11 h => ?_)
            exact sh_ret_i (pc := 51) dX6_tellOfMember_51 rfl ⟨rfl, rfl⟩ h
        · have h := h.2 hc6
          refine sh_aload_n (pc := 30) dX6_tellOfMember_30 rfl ?_
          refine sh_gf (pc := 31) dX6_tellOfMember_31 fl_X6_18 cf_6 hk rfl rfl ?_
          refine sh_iload_n (pc := 34) dX6_tellOfMember_34 rfl ?_
          refine sh_ci (N := mX2_placeInTurns) (pc := 35) dX6_tellOfMember_35 ml_X6_106 h mf_X2_placeInTurns iv_X2_placeInTurns ⟨Nat.le_of_ble_eq_true rfl, Nat.le_of_ble_eq_true rfl⟩ rfl rfl (Nat.le_of_ble_eq_true rfl) hk rfl (show vwCl[2]? = some (RX2, TX2, 5) from rfl) rfl (fun r14 S13 h => ?_)
          exact sh_ret_i (pc := 38) dX6_tellOfMember_38 rfl ⟨rfl, rfl⟩ h
      · have h := h.2 hc5
        refine sh_ldc (v := (-1000001)) (pc := 21) dX6_tellOfMember_21 kc_X6_58 ?_
        exact sh_ret_i (pc := 23) dX6_tellOfMember_23 rfl ⟨rfl, rfl⟩ h

set_option maxRecDepth 100000 in
set_option maxHeartbeats 4000000 in
theorem wp_X7_begin {g : sh_G} {S : sh_S} {sz : Nat} {Q : sh_S → Prop} {k i : Nat} (hk : sh_ok (7, k, i)) {a1 : Int32} {a2 : Int32} {a3 : Int32} 
    (h : (∀ S1 : sh_S, S1 = sh_sr S (7, k, i) (upd (S (7, k, i)) 0 a1) → (∀ S2 : sh_S, S2 = sh_sr S1 (7, k, i) (upd (S1 (7, k, i)) 1 a2) → (∀ S3 : sh_S, S3 = sh_sr S2 (7, k, i) (upd (S2 (7, k, i)) 2 a3) → (∀ S4 : sh_S, S4 = sh_sr S3 (7, k, i) (upd (S3 (7, k, i)) 3 ((FP.fconst1).toInt32)) → (∀ S5 : sh_S, S5 = sh_sr S4 (7, k, i) (upd (S4 (7, k, i)) 4 0) → (∀ S6 : sh_S, S6 = sh_sr S5 (7, k, i) (upd (S5 (7, k, i)) 9 0) → (∀ S7 : sh_S, S7 = sh_sr S6 (7, k, i) (upd (S6 (7, k, i)) 10 (-1)) → (∀ S8 : sh_S, S8 = sh_sr S7 (5, k, i) (upd (S7 (5, k, i)) 0 0) → Q S8))))))))) :
    sh_Cu g mX7_begin [sh_R (7, k, i), sh_I a1, sh_I a2, sh_I a3] S sz Q := by
  refine sh_enter (ls := [(0, sh_R (7, k, i)), (1, sh_I a1), (2, sh_I a2), (3, sh_I a3)]) (by decide +kernel) (Nat.le_of_ble_eq_true rfl) rfl ?_
  refine sh_aload_n (pc := 0) dX7_begin_0 rfl ?_
  refine sh_iload_n (pc := 1) dX7_begin_1 rfl ?_
  refine sh_pfi (pc := 2) dX7_begin_2 fl_X7_25 cf_7 ft_7_0 hk rfl (Nat.le_of_ble_eq_true rfl) rfl ?_
  refine sh_topS (fun S1 hS1 => ?_)
  have h := h S1 hS1
  refine sh_aload_n (pc := 5) dX7_begin_5 rfl ?_
  refine sh_iload_n (pc := 6) dX7_begin_6 rfl ?_
  refine sh_pfi (pc := 7) dX7_begin_7 fl_X7_29 cf_7 ft_7_1 hk rfl (Nat.le_of_ble_eq_true rfl) rfl ?_
  refine sh_topS (fun S2 hS2 => ?_)
  have h := h S2 hS2
  refine sh_aload_n (pc := 10) dX7_begin_10 rfl ?_
  refine sh_iload_n (pc := 11) dX7_begin_11 rfl ?_
  refine sh_pfi (pc := 12) dX7_begin_12 fl_X7_32 cf_7 ft_7_2 hk rfl (Nat.le_of_ble_eq_true rfl) rfl ?_
  refine sh_topS (fun S3 hS3 => ?_)
  have h := h S3 hS3
  refine sh_aload_n (pc := 15) dX7_begin_15 rfl ?_
  refine sh_fconst1 (pc := 16) dX7_begin_16 ?_
  refine sh_pff (pc := 17) dX7_begin_17 fl_X7_35 cf_7 ft_7_3 hk rfl (Nat.le_of_ble_eq_true rfl) rfl ?_
  refine sh_topS (fun S4 hS4 => ?_)
  have h := h S4 hS4
  refine sh_aload_n (pc := 20) dX7_begin_20 rfl ?_
  refine sh_iconst (v := 0) (pc := 21) dX7_begin_21 rfl ?_
  refine sh_pfi (pc := 22) dX7_begin_22 fl_X7_39 cf_7 ft_7_4 hk rfl (Nat.le_of_ble_eq_true rfl) rfl ?_
  refine sh_topS (fun S5 hS5 => ?_)
  have h := h S5 hS5
  refine sh_aload_n (pc := 25) dX7_begin_25 rfl ?_
  refine sh_iconst (v := 0) (pc := 26) dX7_begin_26 rfl ?_
  refine sh_pfi (pc := 27) dX7_begin_27 fl_X7_54 cf_7 ft_7_9 hk rfl (Nat.le_of_ble_eq_true rfl) rfl ?_
  refine sh_topS (fun S6 hS6 => ?_)
  have h := h S6 hS6
  refine sh_aload_n (pc := 30) dX7_begin_30 rfl ?_
  refine sh_iconst (v := (-1)) (pc := 31) dX7_begin_31 rfl ?_
  refine sh_pfi (pc := 32) dX7_begin_32 fl_X7_57 cf_7 ft_7_10 hk rfl (Nat.le_of_ble_eq_true rfl) rfl ?_
  refine sh_topS (fun S7 hS7 => ?_)
  have h := h S7 hS7
  refine sh_aload_n (pc := 35) dX7_begin_35 rfl ?_
  refine sh_gf (pc := 36) dX7_begin_36 fl_X7_21 cf_7 hk rfl rfl ?_
  refine sh_iconst (v := 0) (pc := 39) dX7_begin_39 rfl ?_
  refine sh_pfz (pc := 40) dX7_begin_40 fl_X7_70 cf_5 ft_5_0 (by decide) hk rfl (Nat.le_of_ble_eq_true rfl) rfl ?_
  refine sh_topS (fun S8 hS8 => ?_)
  have h := h S8 hS8
  exact sh_ret_u (pc := 43) dX7_begin_43 rfl ⟨rfl, rfl⟩ h

set_option maxRecDepth 100000 in
set_option maxHeartbeats 4000000 in
theorem wp_X6_addTool {g : sh_G} {S : sh_S} {sz : Nat} {Q : Int32 → sh_S → Prop} {k : Nat} (hk : sh_ok (6, k, 0)) {a1 : Int32} {a2 : Int32} {a3 : Int32} 
    (h : ((a1 = 0 → ((a2 < 1 → Q (-1000001) S) ∧ (¬ a2 < 1 → ((400 < a2 → Q (-1000001) S) ∧ (¬ 400 < a2 → ((a3 < 0 → Q (-1000001) S) ∧ (¬ a3 < 0 → ((a3 ≤ 50 → (((S (6, k, 0) 3) < 0 → Q (-1000003) S) ∧ (¬ (S (6, k, 0) 3) < 0 → (((S (6, k, 0) 3) < 20 → (∀ x8 : Int32, x8 = (S (6, k, 0) 3) → (vp_in x8 20 ∧ (sh_Cu g mX7_begin [sh_R (7, k, (x8.toNatClampNeg)), sh_I a1, sh_I a2, sh_I a3] S sz (fun S10 => (∀ S11 : sh_S, S11 = sh_sr S10 (6, k, 0) (upd (S10 (6, k, 0)) 3 (((S10 (6, k, 0) 3) + 1))) → Q x8 S11)))))) ∧ (¬ (S (6, k, 0) 3) < 20 → Q (-1000003) S))))) ∧ (¬ a3 ≤ 50 → Q (-1000001) S))))))))) ∧ (¬ a1 = 0 → ((¬ a1 = 1 → Q (-1000001) S) ∧ (a1 = 1 → ((a2 < 1 → Q (-1000001) S) ∧ (¬ a2 < 1 → ((400 < a2 → Q (-1000001) S) ∧ (¬ 400 < a2 → ((a3 < 0 → Q (-1000001) S) ∧ (¬ a3 < 0 → ((a3 ≤ 50 → (((S (6, k, 0) 3) < 0 → Q (-1000003) S) ∧ (¬ (S (6, k, 0) 3) < 0 → (((S (6, k, 0) 3) < 20 → (∀ x19 : Int32, x19 = (S (6, k, 0) 3) → (vp_in x19 20 ∧ (sh_Cu g mX7_begin [sh_R (7, k, (x19.toNatClampNeg)), sh_I a1, sh_I a2, sh_I a3] S sz (fun S21 => (∀ S22 : sh_S, S22 = sh_sr S21 (6, k, 0) (upd (S21 (6, k, 0)) 3 (((S21 (6, k, 0) 3) + 1))) → Q x19 S22)))))) ∧ (¬ (S (6, k, 0) 3) < 20 → Q (-1000003) S))))) ∧ (¬ a3 ≤ 50 → Q (-1000001) S))))))))))))) :
    sh_Ci g mX6_addTool [sh_R (6, k, 0), sh_I a1, sh_I a2, sh_I a3] S sz Q := by
  refine sh_enter (ls := [(0, sh_R (6, k, 0)), (1, sh_I a1), (2, sh_I a2), (3, sh_I a3)]) (by decide +kernel) (Nat.le_of_ble_eq_true rfl) rfl ?_
  refine sh_iload_n (pc := 0) dX6_addTool_0 rfl ?_
  refine sh_if_eq (tgt := 9) (pc := 1) dX6_addTool_1 (by decide) (fun hc1 => ?_) (fun hc1 => ?_)
  · have h := h.1 hc1
    refine sh_iload_n (pc := 9) dX6_addTool_9 rfl ?_
    refine sh_iconst (v := 1) (pc := 10) dX6_addTool_10 rfl ?_
    refine sh_icmp_lt (tgt := 31) (pc := 11) dX6_addTool_11 (by decide) (fun hc2 => ?_) (fun hc2 => ?_)
    · have h := h.1 hc2
      refine sh_ldc (v := (-1000001)) (pc := 31) dX6_addTool_31 kc_X6_58 ?_
      exact sh_ret_i (pc := 33) dX6_addTool_33 rfl ⟨rfl, rfl⟩ h
    · have h := h.2 hc2
      refine sh_iload_n (pc := 14) dX6_addTool_14 rfl ?_
      refine sh_sipush (v := 400) (pc := 15) dX6_addTool_15 rfl ?_
      refine sh_icmp_gt (tgt := 31) (pc := 18) dX6_addTool_18 (by decide) (fun hc3 => ?_) (fun hc3 => ?_)
      · have h := h.1 hc3
        refine sh_ldc (v := (-1000001)) (pc := 31) dX6_addTool_31 kc_X6_58 ?_
        exact sh_ret_i (pc := 33) dX6_addTool_33 rfl ⟨rfl, rfl⟩ h
      · have h := h.2 hc3
        refine sh_iload_n (pc := 21) dX6_addTool_21 rfl ?_
        refine sh_if_lt (tgt := 31) (pc := 22) dX6_addTool_22 (by decide) (fun hc4 => ?_) (fun hc4 => ?_)
        · have h := h.1 hc4
          refine sh_ldc (v := (-1000001)) (pc := 31) dX6_addTool_31 kc_X6_58 ?_
          exact sh_ret_i (pc := 33) dX6_addTool_33 rfl ⟨rfl, rfl⟩ h
        · have h := h.2 hc4
          refine sh_iload_n (pc := 25) dX6_addTool_25 rfl ?_
          refine sh_bipush (v := 50) (pc := 26) dX6_addTool_26 rfl ?_
          refine sh_icmp_le (tgt := 34) (pc := 28) dX6_addTool_28 (by decide) (fun hc5 => ?_) (fun hc5 => ?_)
          · have h := h.1 hc5
            refine sh_aload_n (pc := 34) dX6_addTool_34 rfl ?_
            refine sh_gf (pc := 35) dX6_addTool_35 fl_X6_45 cf_6 hk rfl rfl ?_
            refine sh_if_lt (tgt := 50) (pc := 38) dX6_addTool_38 (by decide) (fun hc6 => ?_) (fun hc6 => ?_)
            · have h := h.1 hc6
              refine sh_ldc (v := (-1000003)) (pc := 50) dX6_addTool_50 kc_X6_116 ?_
              exact sh_ret_i (pc := 52) dX6_addTool_52 rfl ⟨rfl, rfl⟩ h
            · have h := h.2 hc6
              refine sh_aload_n (pc := 41) dX6_addTool_41 rfl ?_
              refine sh_gf (pc := 42) dX6_addTool_42 fl_X6_45 cf_6 hk rfl rfl ?_
              refine sh_bipush (v := 20) (pc := 45) dX6_addTool_45 rfl ?_
              refine sh_icmp_lt (tgt := 53) (pc := 47) dX6_addTool_47 (by decide) (fun hc7 => ?_) (fun hc7 => ?_)
              · have h := h.1 hc7
                refine sh_aload_n (pc := 53) dX6_addTool_53 rfl ?_
                refine sh_gf (pc := 54) dX6_addTool_54 fl_X6_45 cf_6 hk rfl rfl ?_
                refine sh_topI (fun x8 hx8 => ?_)
                have h := h x8 hx8
                refine sh_istore (ls' := [(4, sh_I x8), (0, sh_R (6, k, 0)), (1, sh_I a1), (2, sh_I a2), (3, sh_I a3)]) (pc := 57) dX6_addTool_57 (by decide) rfl ?_
                refine sh_aload_n (pc := 59) dX6_addTool_59 rfl ?_
                refine sh_gf (pc := 60) dX6_addTool_60 fl_X6_24 cf_6 hk rfl rfl ?_
                refine sh_iload (pc := 63) dX6_addTool_63 rfl ?_
                obtain ⟨hi9, h⟩ := h
                refine sh_aa (o' := (7, k, (x8.toNatClampNeg))) (pc := 65) dX6_addTool_65 (by decide) hk rfl hi9 rfl ?_
                refine sh_iload_n (pc := 66) dX6_addTool_66 rfl ?_
                refine sh_iload_n (pc := 67) dX6_addTool_67 rfl ?_
                refine sh_iload_n (pc := 68) dX6_addTool_68 rfl ?_
                refine sh_cu (N := mX7_begin) (pc := 69) dX6_addTool_69 ml_X6_117 h mf_X7_begin iv_X7_begin ⟨Nat.le_of_ble_eq_true rfl, Nat.le_of_ble_eq_true rfl⟩ rfl rfl (Nat.le_of_ble_eq_true rfl) ⟨hk.1, vp_lt hi9⟩ rfl (show vwCl[7]? = some (RX7, TX7, 14) from rfl) rfl (fun S10 h => ?_)
                refine sh_aload_n (pc := 72) dX6_addTool_72 rfl ?_
                refine sh_dup (pc := 73) dX6_addTool_73 rfl ?_
                refine sh_gf (pc := 74) dX6_addTool_74 fl_X6_45 cf_6 hk rfl rfl ?_
                refine sh_iconst (v := 1) (pc := 77) dX6_addTool_77 rfl ?_
                refine sh_iadd (pc := 78) dX6_addTool_78 ?_
                refine sh_pfi (pc := 79) dX6_addTool_79 fl_X6_45 cf_6 ft_6_3 hk rfl (Nat.le_of_ble_eq_true rfl) rfl ?_
                refine sh_topS (fun S11 hS11 => ?_)
                have h := h S11 hS11
                refine sh_iload (pc := 82) dX6_addTool_82 rfl ?_
                exact sh_ret_i (pc := 84) dX6_addTool_84 rfl ⟨rfl, rfl⟩ h
              · have h := h.2 hc7
                refine sh_ldc (v := (-1000003)) (pc := 50) dX6_addTool_50 kc_X6_116 ?_
                exact sh_ret_i (pc := 52) dX6_addTool_52 rfl ⟨rfl, rfl⟩ h
          · have h := h.2 hc5
            refine sh_ldc (v := (-1000001)) (pc := 31) dX6_addTool_31 kc_X6_58 ?_
            exact sh_ret_i (pc := 33) dX6_addTool_33 rfl ⟨rfl, rfl⟩ h
  · have h := h.2 hc1
    refine sh_iload_n (pc := 4) dX6_addTool_4 rfl ?_
    refine sh_iconst (v := 1) (pc := 5) dX6_addTool_5 rfl ?_
    refine sh_icmp_ne (tgt := 31) (pc := 6) dX6_addTool_6 (by decide) (fun hc12 => ?_) (fun hc12 => ?_)
    · have h := h.1 hc12
      refine sh_ldc (v := (-1000001)) (pc := 31) dX6_addTool_31 kc_X6_58 ?_
      exact sh_ret_i (pc := 33) dX6_addTool_33 rfl ⟨rfl, rfl⟩ h
    · have h := h.2 hc12
      refine sh_iload_n (pc := 9) dX6_addTool_9 rfl ?_
      refine sh_iconst (v := 1) (pc := 10) dX6_addTool_10 rfl ?_
      refine sh_icmp_lt (tgt := 31) (pc := 11) dX6_addTool_11 (by decide) (fun hc13 => ?_) (fun hc13 => ?_)
      · have h := h.1 hc13
        refine sh_ldc (v := (-1000001)) (pc := 31) dX6_addTool_31 kc_X6_58 ?_
        exact sh_ret_i (pc := 33) dX6_addTool_33 rfl ⟨rfl, rfl⟩ h
      · have h := h.2 hc13
        refine sh_iload_n (pc := 14) dX6_addTool_14 rfl ?_
        refine sh_sipush (v := 400) (pc := 15) dX6_addTool_15 rfl ?_
        refine sh_icmp_gt (tgt := 31) (pc := 18) dX6_addTool_18 (by decide) (fun hc14 => ?_) (fun hc14 => ?_)
        · have h := h.1 hc14
          refine sh_ldc (v := (-1000001)) (pc := 31) dX6_addTool_31 kc_X6_58 ?_
          exact sh_ret_i (pc := 33) dX6_addTool_33 rfl ⟨rfl, rfl⟩ h
        · have h := h.2 hc14
          refine sh_iload_n (pc := 21) dX6_addTool_21 rfl ?_
          refine sh_if_lt (tgt := 31) (pc := 22) dX6_addTool_22 (by decide) (fun hc15 => ?_) (fun hc15 => ?_)
          · have h := h.1 hc15
            refine sh_ldc (v := (-1000001)) (pc := 31) dX6_addTool_31 kc_X6_58 ?_
            exact sh_ret_i (pc := 33) dX6_addTool_33 rfl ⟨rfl, rfl⟩ h
          · have h := h.2 hc15
            refine sh_iload_n (pc := 25) dX6_addTool_25 rfl ?_
            refine sh_bipush (v := 50) (pc := 26) dX6_addTool_26 rfl ?_
            refine sh_icmp_le (tgt := 34) (pc := 28) dX6_addTool_28 (by decide) (fun hc16 => ?_) (fun hc16 => ?_)
            · have h := h.1 hc16
              refine sh_aload_n (pc := 34) dX6_addTool_34 rfl ?_
              refine sh_gf (pc := 35) dX6_addTool_35 fl_X6_45 cf_6 hk rfl rfl ?_
              refine sh_if_lt (tgt := 50) (pc := 38) dX6_addTool_38 (by decide) (fun hc17 => ?_) (fun hc17 => ?_)
              · have h := h.1 hc17
                refine sh_ldc (v := (-1000003)) (pc := 50) dX6_addTool_50 kc_X6_116 ?_
                exact sh_ret_i (pc := 52) dX6_addTool_52 rfl ⟨rfl, rfl⟩ h
              · have h := h.2 hc17
                refine sh_aload_n (pc := 41) dX6_addTool_41 rfl ?_
                refine sh_gf (pc := 42) dX6_addTool_42 fl_X6_45 cf_6 hk rfl rfl ?_
                refine sh_bipush (v := 20) (pc := 45) dX6_addTool_45 rfl ?_
                refine sh_icmp_lt (tgt := 53) (pc := 47) dX6_addTool_47 (by decide) (fun hc18 => ?_) (fun hc18 => ?_)
                · have h := h.1 hc18
                  refine sh_aload_n (pc := 53) dX6_addTool_53 rfl ?_
                  refine sh_gf (pc := 54) dX6_addTool_54 fl_X6_45 cf_6 hk rfl rfl ?_
                  refine sh_topI (fun x19 hx19 => ?_)
                  have h := h x19 hx19
                  refine sh_istore (ls' := [(4, sh_I x19), (0, sh_R (6, k, 0)), (1, sh_I a1), (2, sh_I a2), (3, sh_I a3)]) (pc := 57) dX6_addTool_57 (by decide) rfl ?_
                  refine sh_aload_n (pc := 59) dX6_addTool_59 rfl ?_
                  refine sh_gf (pc := 60) dX6_addTool_60 fl_X6_24 cf_6 hk rfl rfl ?_
                  refine sh_iload (pc := 63) dX6_addTool_63 rfl ?_
                  obtain ⟨hi20, h⟩ := h
                  refine sh_aa (o' := (7, k, (x19.toNatClampNeg))) (pc := 65) dX6_addTool_65 (by decide) hk rfl hi20 rfl ?_
                  refine sh_iload_n (pc := 66) dX6_addTool_66 rfl ?_
                  refine sh_iload_n (pc := 67) dX6_addTool_67 rfl ?_
                  refine sh_iload_n (pc := 68) dX6_addTool_68 rfl ?_
                  refine sh_cu (N := mX7_begin) (pc := 69) dX6_addTool_69 ml_X6_117 h mf_X7_begin iv_X7_begin ⟨Nat.le_of_ble_eq_true rfl, Nat.le_of_ble_eq_true rfl⟩ rfl rfl (Nat.le_of_ble_eq_true rfl) ⟨hk.1, vp_lt hi20⟩ rfl (show vwCl[7]? = some (RX7, TX7, 14) from rfl) rfl (fun S21 h => ?_)
                  refine sh_aload_n (pc := 72) dX6_addTool_72 rfl ?_
                  refine sh_dup (pc := 73) dX6_addTool_73 rfl ?_
                  refine sh_gf (pc := 74) dX6_addTool_74 fl_X6_45 cf_6 hk rfl rfl ?_
                  refine sh_iconst (v := 1) (pc := 77) dX6_addTool_77 rfl ?_
                  refine sh_iadd (pc := 78) dX6_addTool_78 ?_
                  refine sh_pfi (pc := 79) dX6_addTool_79 fl_X6_45 cf_6 ft_6_3 hk rfl (Nat.le_of_ble_eq_true rfl) rfl ?_
                  refine sh_topS (fun S22 hS22 => ?_)
                  have h := h S22 hS22
                  refine sh_iload (pc := 82) dX6_addTool_82 rfl ?_
                  exact sh_ret_i (pc := 84) dX6_addTool_84 rfl ⟨rfl, rfl⟩ h
                · have h := h.2 hc18
                  refine sh_ldc (v := (-1000003)) (pc := 50) dX6_addTool_50 kc_X6_116 ?_
                  exact sh_ret_i (pc := 52) dX6_addTool_52 rfl ⟨rfl, rfl⟩ h
            · have h := h.2 hc16
              refine sh_ldc (v := (-1000001)) (pc := 31) dX6_addTool_31 kc_X6_58 ?_
              exact sh_ret_i (pc := 33) dX6_addTool_33 rfl ⟨rfl, rfl⟩ h

set_option maxRecDepth 100000 in
set_option maxHeartbeats 4000000 in
theorem wp_X6_isHook {g : sh_G} {S : sh_S} {sz : Nat} {Q : Int32 → sh_S → Prop} {k : Nat} (hk : sh_ok (6, k, 0)) {a1 : Int32} {a2 : Int32} 
    (h : ((a1 < 0 → Q 0 S) ∧ (¬ a1 < 0 → ((3 ≤ a1 → Q 0 S) ∧ (¬ 3 ≤ a1 → ((a2 < 0 → Q 0 S) ∧ (¬ a2 < 0 → ((4 ≤ a2 → Q 0 S) ∧ (¬ 4 ≤ a2 → Q 1 S))))))))) :
    sh_Ci g mX6_isHook [sh_R (6, k, 0), sh_I a1, sh_I a2] S sz Q := by
  refine sh_enter (ls := [(0, sh_R (6, k, 0)), (1, sh_I a1), (2, sh_I a2)]) (by decide +kernel) (Nat.le_of_ble_eq_true rfl) rfl ?_
  refine sh_iload_n (pc := 0) dX6_isHook_0 rfl ?_
  refine sh_if_lt (tgt := 22) (pc := 1) dX6_isHook_1 (by decide) (fun hc1 => ?_) (fun hc1 => ?_)
  · have h := h.1 hc1
    refine sh_iconst (v := 0) (pc := 22) dX6_isHook_22 rfl ?_
    exact sh_ret_z (pc := 23) dX6_isHook_23 rfl rfl ⟨rfl, rfl⟩ h
  · have h := h.2 hc1
    refine sh_iload_n (pc := 4) dX6_isHook_4 rfl ?_
    refine sh_iconst (v := 3) (pc := 5) dX6_isHook_5 rfl ?_
    refine sh_icmp_ge (tgt := 22) (pc := 6) dX6_isHook_6 (by decide) (fun hc2 => ?_) (fun hc2 => ?_)
    · have h := h.1 hc2
      refine sh_iconst (v := 0) (pc := 22) dX6_isHook_22 rfl ?_
      exact sh_ret_z (pc := 23) dX6_isHook_23 rfl rfl ⟨rfl, rfl⟩ h
    · have h := h.2 hc2
      refine sh_iload_n (pc := 9) dX6_isHook_9 rfl ?_
      refine sh_if_lt (tgt := 22) (pc := 10) dX6_isHook_10 (by decide) (fun hc3 => ?_) (fun hc3 => ?_)
      · have h := h.1 hc3
        refine sh_iconst (v := 0) (pc := 22) dX6_isHook_22 rfl ?_
        exact sh_ret_z (pc := 23) dX6_isHook_23 rfl rfl ⟨rfl, rfl⟩ h
      · have h := h.2 hc3
        refine sh_iload_n (pc := 13) dX6_isHook_13 rfl ?_
        refine sh_iconst (v := 4) (pc := 14) dX6_isHook_14 rfl ?_
        refine sh_icmp_ge (tgt := 22) (pc := 15) dX6_isHook_15 (by decide) (fun hc4 => ?_) (fun hc4 => ?_)
        · have h := h.1 hc4
          refine sh_iconst (v := 0) (pc := 22) dX6_isHook_22 rfl ?_
          exact sh_ret_z (pc := 23) dX6_isHook_23 rfl rfl ⟨rfl, rfl⟩ h
        · have h := h.2 hc4
          refine sh_iconst (v := 1) (pc := 18) dX6_isHook_18 rfl ?_
          refine sh_goto (tgt := 23) (pc := 19) dX6_isHook_19 (by decide) ?_
          exact sh_ret_z (pc := 23) dX6_isHook_23 rfl rfl ⟨rfl, rfl⟩ h

set_option maxRecDepth 100000 in
set_option maxHeartbeats 4000000 in
theorem wp_X7_hangsOn {g : sh_G} {S : sh_S} {sz : Nat} {Q : Int32 → sh_S → Prop} {k i : Nat} (hk : sh_ok (7, k, i)) {a1 : Int32} {a2 : Int32} 
    (h : ((¬ (S (7, k, i) 10) = a1 → Q 0 S) ∧ ((S (7, k, i) 10) = a1 → ((¬ (S (7, k, i) 11) = a2 → Q 0 S) ∧ ((S (7, k, i) 11) = a2 → Q 1 S))))) :
    sh_Ci g mX7_hangsOn [sh_R (7, k, i), sh_I a1, sh_I a2] S sz Q := by
  refine sh_enter (ls := [(0, sh_R (7, k, i)), (1, sh_I a1), (2, sh_I a2)]) (by decide +kernel) (Nat.le_of_ble_eq_true rfl) rfl ?_
  refine sh_aload_n (pc := 0) dX7_hangsOn_0 rfl ?_
  refine sh_gf (pc := 1) dX7_hangsOn_1 fl_X7_57 cf_7 hk rfl rfl ?_
  refine sh_iload_n (pc := 4) dX7_hangsOn_4 rfl ?_
  refine sh_icmp_ne (tgt := 20) (pc := 5) dX7_hangsOn_5 (by decide) (fun hc1 => ?_) (fun hc1 => ?_)
  · have h := h.1 hc1
    refine sh_iconst (v := 0) (pc := 20) dX7_hangsOn_20 rfl ?_
    exact sh_ret_z (pc := 21) dX7_hangsOn_21 rfl rfl ⟨rfl, rfl⟩ h
  · have h := h.2 hc1
    refine sh_aload_n (pc := 8) dX7_hangsOn_8 rfl ?_
    refine sh_gf (pc := 9) dX7_hangsOn_9 fl_X7_60 cf_7 hk rfl rfl ?_
    refine sh_iload_n (pc := 12) dX7_hangsOn_12 rfl ?_
    refine sh_icmp_ne (tgt := 20) (pc := 13) dX7_hangsOn_13 (by decide) (fun hc2 => ?_) (fun hc2 => ?_)
    · have h := h.1 hc2
      refine sh_iconst (v := 0) (pc := 20) dX7_hangsOn_20 rfl ?_
      exact sh_ret_z (pc := 21) dX7_hangsOn_21 rfl rfl ⟨rfl, rfl⟩ h
    · have h := h.2 hc2
      refine sh_iconst (v := 1) (pc := 16) dX7_hangsOn_16 rfl ?_
      refine sh_goto (tgt := 21) (pc := 17) dX7_hangsOn_17 (by decide) ?_
      exact sh_ret_z (pc := 21) dX7_hangsOn_21 rfl rfl ⟨rfl, rfl⟩ h

set_option maxRecDepth 100000 in
set_option maxHeartbeats 4000000 in
theorem wp_X6_toolOnHook {g : sh_G} {S : sh_S} {sz : Nat} {Q : Int32 → sh_S → Prop} {k : Nat} (hk : sh_ok (6, k, 0)) {a1 : Int32} {a2 : Int32} 
    (h : (sh_Ci g mX6_isHook [sh_R (6, k, 0), sh_I a1, sh_I a2] S sz (fun r2 S1 => ((¬ r2 = 0 → (∃ (Iv4 : Int32 → sh_S → Prop) (mu4 : Int32 → sh_S → Nat), Iv4 0 S1 ∧ ∀ (v5 : Int32) (S6 : sh_S), Iv4 v5 S6 → (((S6 (6, k, 0) 3) ≤ v5 → Q (-1000004) S6) ∧ (¬ (S6 (6, k, 0) 3) ≤ v5 → (sh_Ci g mX6_hasTool [sh_R (6, k, 0), sh_I v5] S6 sz (fun r9 S8 => ((r9 = 0 → (∀ x11 : Int32, x11 = v5 + 1 → (Iv4 x11 S8 ∧ mu4 x11 S8 < mu4 v5 S6))) ∧ (¬ r9 = 0 → (vp_in v5 20 ∧ (sh_Ci g mX7_hangsOn [sh_R (7, k, (v5.toNatClampNeg)), sh_I a1, sh_I a2] S8 sz (fun r14 S13 => ((r14 = 0 → (∀ x16 : Int32, x16 = v5 + 1 → (Iv4 x16 S13 ∧ mu4 x16 S13 < mu4 v5 S6))) ∧ (¬ r14 = 0 → Q v5 S13))))))))))))) ∧ (r2 = 0 → Q (-1000001) S1))))) :
    sh_Ci g mX6_toolOnHook [sh_R (6, k, 0), sh_I a1, sh_I a2] S sz Q := by
  refine sh_enter (ls := [(0, sh_R (6, k, 0)), (1, sh_I a1), (2, sh_I a2)]) (by decide +kernel) (Nat.le_of_ble_eq_true rfl) rfl ?_
  refine sh_aload_n (pc := 0) dX6_toolOnHook_0 rfl ?_
  refine sh_iload_n (pc := 1) dX6_toolOnHook_1 rfl ?_
  refine sh_iload_n (pc := 2) dX6_toolOnHook_2 rfl ?_
  refine sh_ci (N := mX6_isHook) (pc := 3) dX6_toolOnHook_3 ml_X6_121 h mf_X6_isHook iv_X6_isHook ⟨Nat.le_of_ble_eq_true rfl, Nat.le_of_ble_eq_true rfl⟩ rfl rfl (Nat.le_of_ble_eq_true rfl) hk rfl (show vwCl[6]? = some (RX6, TX6, 5) from rfl) rfl (fun r2 S1 h => ?_)
  refine sh_if_ne (tgt := 12) (pc := 6) dX6_toolOnHook_6 (by decide) (fun hc3 => ?_) (fun hc3 => ?_)
  · have h := h.1 hc3
    refine sh_iconst (v := 0) (pc := 12) dX6_toolOnHook_12 rfl ?_
    refine sh_istore_n (ls' := [(3, sh_I 0), (0, sh_R (6, k, 0)), (1, sh_I a1), (2, sh_I a2)]) (pc := 13) dX6_toolOnHook_13 (by decide) rfl ?_
    obtain ⟨Iv4, mu4, h0, hs4⟩ := h
    refine sh_pick [1, 2, 3, 0] rfl ?_
    refine sh_lp2 Iv4 mu4 (fun v5 S6 => sh_V g mX6_toolOnHook 0 0 14 [(0, sh_R (6, k, 0)), (1, sh_I a1), (2, sh_I a2), (3, sh_I v5)] [] (sh_St S6) sz (sh_ti sz Q)) (fun v5 S6 hI4 ih4 => ?_) _ _ h0
    have h := hs4 v5 S6 hI4
    clear h0
    refine sh_iload_n (pc := 14) dX6_toolOnHook_14 rfl ?_
    refine sh_aload_n (pc := 15) dX6_toolOnHook_15 rfl ?_
    refine sh_gf (pc := 16) dX6_toolOnHook_16 fl_X6_45 cf_6 hk rfl rfl ?_
    refine sh_icmp_ge (tgt := 52) (pc := 19) dX6_toolOnHook_19 (by decide) (fun hc7 => ?_) (fun hc7 => ?_)
    · have h := h.1 hc7
      refine sh_ldc (v := (-1000004)) (pc := 52) dX6_toolOnHook_52 kc_X6_144 ?_
      exact sh_ret_i (pc := 54) dX6_toolOnHook_54 rfl ⟨rfl, rfl⟩ h
    · have h := h.2 hc7
      refine sh_aload_n (pc := 22) dX6_toolOnHook_22 rfl ?_
      refine sh_iload_n (pc := 23) dX6_toolOnHook_23 rfl ?_
      refine sh_ci (N := mX6_hasTool) (pc := 24) dX6_toolOnHook_24 ml_X6_88 h mf_X6_hasTool iv_X6_hasTool ⟨Nat.le_of_ble_eq_true rfl, Nat.le_of_ble_eq_true rfl⟩ rfl rfl (Nat.le_of_ble_eq_true rfl) hk rfl (show vwCl[6]? = some (RX6, TX6, 5) from rfl) rfl (fun r9 S8 h => ?_)
      refine sh_if_eq (tgt := 46) (pc := 27) dX6_toolOnHook_27 (by decide) (fun hc10 => ?_) (fun hc10 => ?_)
      · have h := h.1 hc10
        obtain ⟨x11, hx11⟩ : ∃ y : Int32, y = v5 + 1 := ⟨_, rfl⟩
        have h := h x11 hx11
        refine sh_iinc (v := x11) (ls' := [(3, sh_I x11), (0, sh_R (6, k, 0)), (1, sh_I a1), (2, sh_I a2)]) (pc := 46) dX6_toolOnHook_46 rfl hx11.symm (by decide) rfl ?_
        refine sh_goto (tgt := 14) (pc := 49) dX6_toolOnHook_49 (by decide) ?_
        refine sh_pick [1, 2, 3, 0] rfl ?_
        exact ih4 _ _ h.1 h.2
      · have h := h.2 hc10
        refine sh_aload_n (pc := 30) dX6_toolOnHook_30 rfl ?_
        refine sh_gf (pc := 31) dX6_toolOnHook_31 fl_X6_24 cf_6 hk rfl rfl ?_
        refine sh_iload_n (pc := 34) dX6_toolOnHook_34 rfl ?_
        obtain ⟨hi12, h⟩ := h
        refine sh_aa (o' := (7, k, (v5.toNatClampNeg))) (pc := 35) dX6_toolOnHook_35 (by decide) hk rfl hi12 rfl ?_
        refine sh_iload_n (pc := 36) dX6_toolOnHook_36 rfl ?_
        refine sh_iload_n (pc := 37) dX6_toolOnHook_37 rfl ?_
        refine sh_ci (N := mX7_hangsOn) (pc := 38) dX6_toolOnHook_38 ml_X6_141 h mf_X7_hangsOn iv_X7_hangsOn ⟨Nat.le_of_ble_eq_true rfl, Nat.le_of_ble_eq_true rfl⟩ rfl rfl (Nat.le_of_ble_eq_true rfl) ⟨hk.1, vp_lt hi12⟩ rfl (show vwCl[7]? = some (RX7, TX7, 14) from rfl) rfl (fun r14 S13 h => ?_)
        refine sh_if_eq (tgt := 46) (pc := 41) dX6_toolOnHook_41 (by decide) (fun hc15 => ?_) (fun hc15 => ?_)
        · have h := h.1 hc15
          obtain ⟨x16, hx16⟩ : ∃ y : Int32, y = v5 + 1 := ⟨_, rfl⟩
          have h := h x16 hx16
          refine sh_iinc (v := x16) (ls' := [(3, sh_I x16), (0, sh_R (6, k, 0)), (1, sh_I a1), (2, sh_I a2)]) (pc := 46) dX6_toolOnHook_46 rfl hx16.symm (by decide) rfl ?_
          refine sh_goto (tgt := 14) (pc := 49) dX6_toolOnHook_49 (by decide) ?_
          refine sh_pick [1, 2, 3, 0] rfl ?_
          exact ih4 _ _ h.1 h.2
        · have h := h.2 hc15
          refine sh_iload_n (pc := 44) dX6_toolOnHook_44 rfl ?_
          exact sh_ret_i (pc := 45) dX6_toolOnHook_45 rfl ⟨rfl, rfl⟩ h
  · have h := h.2 hc3
    refine sh_ldc (v := (-1000001)) (pc := 9) dX6_toolOnHook_9 kc_X6_58 ?_
    exact sh_ret_i (pc := 11) dX6_toolOnHook_11 rfl ⟨rfl, rfl⟩ h

set_option maxRecDepth 100000 in
set_option maxHeartbeats 4000000 in
theorem wp_X6_countTaken {g : sh_G} {S : sh_S} {sz : Nat} {Q : Int32 → sh_S → Prop} {k : Nat} (hk : sh_ok (6, k, 0)) {a1 : Int32} 
    (h : (∃ (Iv1 : Int32 → Int32 → sh_S → Prop) (mu1 : Int32 → Int32 → sh_S → Nat), Iv1 0 0 S ∧ ∀ (v2 : Int32) (v3 : Int32) (S4 : sh_S), Iv1 v2 v3 S4 → (((S4 (6, k, 0) 3) ≤ v3 → Q v2 S4) ∧ (¬ (S4 (6, k, 0) 3) ≤ v3 → (sh_Ci g mX6_hasTool [sh_R (6, k, 0), sh_I v3] S4 sz (fun r7 S6 => ((r7 = 0 → (∀ x9 : Int32, x9 = v3 + 1 → (Iv1 v2 x9 S6 ∧ mu1 v2 x9 S6 < mu1 v2 v3 S4))) ∧ (¬ r7 = 0 → (vp_in v3 20 ∧ ((¬ (S6 (7, k, (v3.toNatClampNeg)) 10) = a1 → (∀ x12 : Int32, x12 = v3 + 1 → (Iv1 v2 x12 S6 ∧ mu1 v2 x12 S6 < mu1 v2 v3 S4))) ∧ ((S6 (7, k, (v3.toNatClampNeg)) 10) = a1 → (∀ x13 : Int32, x13 = v2 + 1 → (∀ x14 : Int32, x14 = v3 + 1 → (Iv1 x13 x14 S6 ∧ mu1 x13 x14 S6 < mu1 v2 v3 S4)))))))))))))) :
    sh_Ci g mX6_countTaken [sh_R (6, k, 0), sh_I a1] S sz Q := by
  refine sh_enter (ls := [(0, sh_R (6, k, 0)), (1, sh_I a1)]) (by decide +kernel) (Nat.le_of_ble_eq_true rfl) rfl ?_
  refine sh_iconst (v := 0) (pc := 0) dX6_countTaken_0 rfl ?_
  refine sh_istore_n (ls' := [(2, sh_I 0), (0, sh_R (6, k, 0)), (1, sh_I a1)]) (pc := 1) dX6_countTaken_1 (by decide) rfl ?_
  refine sh_iconst (v := 0) (pc := 2) dX6_countTaken_2 rfl ?_
  refine sh_istore_n (ls' := [(3, sh_I 0), (2, sh_I 0), (0, sh_R (6, k, 0)), (1, sh_I a1)]) (pc := 3) dX6_countTaken_3 (by decide) rfl ?_
  obtain ⟨Iv1, mu1, h0, hs1⟩ := h
  refine sh_pick [2, 3, 1, 0] rfl ?_
  refine sh_lp3 Iv1 mu1 (fun v2 v3 S4 => sh_V g mX6_countTaken 0 0 4 [(0, sh_R (6, k, 0)), (1, sh_I a1), (2, sh_I v2), (3, sh_I v3)] [] (sh_St S4) sz (sh_ti sz Q)) (fun v2 v3 S4 hI1 ih1 => ?_) _ _ _ h0
  have h := hs1 v2 v3 S4 hI1
  clear h0
  refine sh_iload_n (pc := 4) dX6_countTaken_4 rfl ?_
  refine sh_aload_n (pc := 5) dX6_countTaken_5 rfl ?_
  refine sh_gf (pc := 6) dX6_countTaken_6 fl_X6_45 cf_6 hk rfl rfl ?_
  refine sh_icmp_ge (tgt := 42) (pc := 9) dX6_countTaken_9 (by decide) (fun hc5 => ?_) (fun hc5 => ?_)
  · have h := h.1 hc5
    refine sh_iload_n (pc := 42) dX6_countTaken_42 rfl ?_
    exact sh_ret_i (pc := 43) dX6_countTaken_43 rfl ⟨rfl, rfl⟩ h
  · have h := h.2 hc5
    refine sh_aload_n (pc := 12) dX6_countTaken_12 rfl ?_
    refine sh_iload_n (pc := 13) dX6_countTaken_13 rfl ?_
    refine sh_ci (N := mX6_hasTool) (pc := 14) dX6_countTaken_14 ml_X6_88 h mf_X6_hasTool iv_X6_hasTool ⟨Nat.le_of_ble_eq_true rfl, Nat.le_of_ble_eq_true rfl⟩ rfl rfl (Nat.le_of_ble_eq_true rfl) hk rfl (show vwCl[6]? = some (RX6, TX6, 5) from rfl) rfl (fun r7 S6 h => ?_)
    refine sh_if_eq (tgt := 36) (pc := 17) dX6_countTaken_17 (by decide) (fun hc8 => ?_) (fun hc8 => ?_)
    · have h := h.1 hc8
      obtain ⟨x9, hx9⟩ : ∃ y : Int32, y = v3 + 1 := ⟨_, rfl⟩
      have h := h x9 hx9
      refine sh_iinc (v := x9) (ls' := [(3, sh_I x9), (0, sh_R (6, k, 0)), (1, sh_I a1), (2, sh_I v2)]) (pc := 36) dX6_countTaken_36 rfl hx9.symm (by decide) rfl ?_
      refine sh_goto (tgt := 4) (pc := 39) dX6_countTaken_39 (by decide) ?_
      refine sh_pick [1, 2, 3, 0] rfl ?_
      exact ih1 _ _ _ h.1 h.2
    · have h := h.2 hc8
      refine sh_aload_n (pc := 20) dX6_countTaken_20 rfl ?_
      refine sh_gf (pc := 21) dX6_countTaken_21 fl_X6_24 cf_6 hk rfl rfl ?_
      refine sh_iload_n (pc := 24) dX6_countTaken_24 rfl ?_
      obtain ⟨hi10, h⟩ := h
      refine sh_aa (o' := (7, k, (v3.toNatClampNeg))) (pc := 25) dX6_countTaken_25 (by decide) hk rfl hi10 rfl ?_
      refine sh_gf (pc := 26) dX6_countTaken_26 fl_X6_128 cf_7 ⟨hk.1, vp_lt hi10⟩ rfl rfl ?_
      refine sh_iload_n (pc := 29) dX6_countTaken_29 rfl ?_
      refine sh_icmp_ne (tgt := 36) (pc := 30) dX6_countTaken_30 (by decide) (fun hc11 => ?_) (fun hc11 => ?_)
      · have h := h.1 hc11
        obtain ⟨x12, hx12⟩ : ∃ y : Int32, y = v3 + 1 := ⟨_, rfl⟩
        have h := h x12 hx12
        refine sh_iinc (v := x12) (ls' := [(3, sh_I x12), (0, sh_R (6, k, 0)), (1, sh_I a1), (2, sh_I v2)]) (pc := 36) dX6_countTaken_36 rfl hx12.symm (by decide) rfl ?_
        refine sh_goto (tgt := 4) (pc := 39) dX6_countTaken_39 (by decide) ?_
        refine sh_pick [1, 2, 3, 0] rfl ?_
        exact ih1 _ _ _ h.1 h.2
      · have h := h.2 hc11
        obtain ⟨x13, hx13⟩ : ∃ y : Int32, y = v2 + 1 := ⟨_, rfl⟩
        have h := h x13 hx13
        refine sh_iinc (v := x13) (ls' := [(2, sh_I x13), (0, sh_R (6, k, 0)), (1, sh_I a1), (3, sh_I v3)]) (pc := 33) dX6_countTaken_33 rfl hx13.symm (by decide) rfl ?_
        obtain ⟨x14, hx14⟩ : ∃ y : Int32, y = v3 + 1 := ⟨_, rfl⟩
        have h := h x14 hx14
        refine sh_iinc (v := x14) (ls' := [(3, sh_I x14), (2, sh_I x13), (0, sh_R (6, k, 0)), (1, sh_I a1)]) (pc := 36) dX6_countTaken_36 rfl hx14.symm (by decide) rfl ?_
        refine sh_goto (tgt := 4) (pc := 39) dX6_countTaken_39 (by decide) ?_
        refine sh_pick [2, 3, 1, 0] rfl ?_
        exact ih1 _ _ _ h.1 h.2

set_option maxRecDepth 100000 in
set_option maxHeartbeats 4000000 in
theorem wp_X6_hangTool {g : sh_G} {S : sh_S} {sz : Nat} {Q : Int32 → sh_S → Prop} {k : Nat} (hk : sh_ok (6, k, 0)) {a1 : Int32} {a2 : Int32} {a3 : Int32} 
    (h : (sh_Ci g mX6_hasTool [sh_R (6, k, 0), sh_I a1] S sz (fun r2 S1 => ((r2 = 0 → Q (-1000001) S1) ∧ (¬ r2 = 0 → (sh_Ci g mX6_isHook [sh_R (6, k, 0), sh_I a2, sh_I a3] S1 sz (fun r5 S4 => ((¬ r5 = 0 → (vp_in a1 20 ∧ ((a2 = 2 → ((¬ (S4 (7, k, (a1.toNatClampNeg)) 4) = 0 → Q (-1000002) S4) ∧ ((S4 (7, k, (a1.toNatClampNeg)) 4) = 0 → ((¬ (S4 (7, k, (a1.toNatClampNeg)) 10) = (-1) → Q (-1000002) S4) ∧ ((S4 (7, k, (a1.toNatClampNeg)) 10) = (-1) → (sh_Ci g mX6_toolOnHook [sh_R (6, k, 0), sh_I a2, sh_I a3] S4 sz (fun r12 S11 => ((0 ≤ r12 → Q (-1000002) S11) ∧ (¬ 0 ≤ r12 → (∀ S15 : sh_S, S15 = sh_sr S11 (7, k, (a1.toNatClampNeg)) (upd (S11 (7, k, (a1.toNatClampNeg))) 10 a2) → (∀ S16 : sh_S, S16 = sh_sr S15 (7, k, (a1.toNatClampNeg)) (upd (S15 (7, k, (a1.toNatClampNeg))) 11 a3) → (sh_Ci g mX6_countTaken [sh_R (6, k, 0), sh_I a2] S16 sz (fun r18 S17 => Q r18 S17))))))))))))) ∧ (¬ a2 = 2 → ((¬ a2 = (S4 (7, k, (a1.toNatClampNeg)) 0) → ((¬ (S4 (7, k, (a1.toNatClampNeg)) 4) = 0 → Q (-1000002) S4) ∧ ((S4 (7, k, (a1.toNatClampNeg)) 4) = 0 → ((¬ (S4 (7, k, (a1.toNatClampNeg)) 10) = (-1) → Q (-1000002) S4) ∧ ((S4 (7, k, (a1.toNatClampNeg)) 10) = (-1) → (sh_Ci g mX6_toolOnHook [sh_R (6, k, 0), sh_I a2, sh_I a3] S4 sz (fun r23 S22 => ((0 ≤ r23 → Q (-1000002) S22) ∧ (¬ 0 ≤ r23 → Q (-1000002) S22))))))))) ∧ (a2 = (S4 (7, k, (a1.toNatClampNeg)) 0) → ((¬ (S4 (7, k, (a1.toNatClampNeg)) 4) = 0 → Q (-1000002) S4) ∧ ((S4 (7, k, (a1.toNatClampNeg)) 4) = 0 → ((¬ (S4 (7, k, (a1.toNatClampNeg)) 10) = (-1) → Q (-1000002) S4) ∧ ((S4 (7, k, (a1.toNatClampNeg)) 10) = (-1) → (sh_Ci g mX6_toolOnHook [sh_R (6, k, 0), sh_I a2, sh_I a3] S4 sz (fun r29 S28 => ((0 ≤ r29 → Q (-1000002) S28) ∧ (¬ 0 ≤ r29 → (∀ S32 : sh_S, S32 = sh_sr S28 (7, k, (a1.toNatClampNeg)) (upd (S28 (7, k, (a1.toNatClampNeg))) 10 a2) → (∀ S33 : sh_S, S33 = sh_sr S32 (7, k, (a1.toNatClampNeg)) (upd (S32 (7, k, (a1.toNatClampNeg))) 11 a3) → (sh_Ci g mX6_countTaken [sh_R (6, k, 0), sh_I a2] S33 sz (fun r35 S34 => Q r35 S34)))))))))))))))))) ∧ (r5 = 0 → Q (-1000001) S4))))))))) :
    sh_Ci g mX6_hangTool [sh_R (6, k, 0), sh_I a1, sh_I a2, sh_I a3] S sz Q := by
  refine sh_enter (ls := [(0, sh_R (6, k, 0)), (1, sh_I a1), (2, sh_I a2), (3, sh_I a3)]) (by decide +kernel) (Nat.le_of_ble_eq_true rfl) rfl ?_
  refine sh_aload_n (pc := 0) dX6_hangTool_0 rfl ?_
  refine sh_iload_n (pc := 1) dX6_hangTool_1 rfl ?_
  refine sh_ci (N := mX6_hasTool) (pc := 2) dX6_hangTool_2 ml_X6_88 h mf_X6_hasTool iv_X6_hasTool ⟨Nat.le_of_ble_eq_true rfl, Nat.le_of_ble_eq_true rfl⟩ rfl rfl (Nat.le_of_ble_eq_true rfl) hk rfl (show vwCl[6]? = some (RX6, TX6, 5) from rfl) rfl (fun r2 S1 h => ?_)
  refine sh_if_eq (tgt := 17) (pc := 5) dX6_hangTool_5 (by decide) (fun hc3 => ?_) (fun hc3 => ?_)
  · have h := h.1 hc3
    refine sh_ldc (v := (-1000001)) (pc := 17) dX6_hangTool_17 kc_X6_58 ?_
    exact sh_ret_i (pc := 19) dX6_hangTool_19 rfl ⟨rfl, rfl⟩ h
  · have h := h.2 hc3
    refine sh_aload_n (pc := 8) dX6_hangTool_8 rfl ?_
    refine sh_iload_n (pc := 9) dX6_hangTool_9 rfl ?_
    refine sh_iload_n (pc := 10) dX6_hangTool_10 rfl ?_
    refine sh_ci (N := mX6_isHook) (pc := 11) dX6_hangTool_11 ml_X6_121 h mf_X6_isHook iv_X6_isHook ⟨Nat.le_of_ble_eq_true rfl, Nat.le_of_ble_eq_true rfl⟩ rfl rfl (Nat.le_of_ble_eq_true rfl) hk rfl (show vwCl[6]? = some (RX6, TX6, 5) from rfl) rfl (fun r5 S4 h => ?_)
    refine sh_if_ne (tgt := 20) (pc := 14) dX6_hangTool_14 (by decide) (fun hc6 => ?_) (fun hc6 => ?_)
    · have h := h.1 hc6
      refine sh_aload_n (pc := 20) dX6_hangTool_20 rfl ?_
      refine sh_gf (pc := 21) dX6_hangTool_21 fl_X6_24 cf_6 hk rfl rfl ?_
      refine sh_iload_n (pc := 24) dX6_hangTool_24 rfl ?_
      obtain ⟨hi7, h⟩ := h
      refine sh_aa (o' := (7, k, (a1.toNatClampNeg))) (pc := 25) dX6_hangTool_25 (by decide) hk rfl hi7 rfl ?_
      refine sh_astore (ls' := [(4, sh_R (7, k, (a1.toNatClampNeg))), (0, sh_R (6, k, 0)), (1, sh_I a1), (2, sh_I a2), (3, sh_I a3)]) (pc := 26) dX6_hangTool_26 (by decide) rfl ?_
      refine sh_iload_n (pc := 28) dX6_hangTool_28 rfl ?_
      refine sh_iconst (v := 2) (pc := 29) dX6_hangTool_29 rfl ?_
      refine sh_icmp_eq (tgt := 42) (pc := 30) dX6_hangTool_30 (by decide) (fun hc8 => ?_) (fun hc8 => ?_)
      · have h := h.1 hc8
        refine sh_iconst (v := 1) (pc := 42) dX6_hangTool_42 rfl ?_
        refine sh_goto (tgt := 47) (pc := 43) dX6_hangTool_43 (by decide) ?_
        refine sh_istore (ls' := [(5, sh_I 1), (4, sh_R (7, k, (a1.toNatClampNeg))), (0, sh_R (6, k, 0)), (1, sh_I a1), (2, sh_I a2), (3, sh_I a3)]) (pc := 47) dX6_hangTool_47 (by decide) rfl ?_
        refine sh_aload (pc := 49) dX6_hangTool_49 rfl ?_
        refine sh_gf (pc := 51) dX6_hangTool_51 fl_X6_94 cf_7 ⟨hk.1, vp_lt hi7⟩ rfl rfl ?_
        refine sh_if_ne (tgt := 80) (pc := 54) dX6_hangTool_54 (by decide) (fun hc9 => ?_) (fun hc9 => ?_)
        · have h := h.1 hc9
          refine sh_ldc (v := (-1000002)) (pc := 80) dX6_hangTool_80 kc_X6_84 ?_
          exact sh_ret_i (pc := 82) dX6_hangTool_82 rfl ⟨rfl, rfl⟩ h
        · have h := h.2 hc9
          refine sh_aload (pc := 57) dX6_hangTool_57 rfl ?_
          refine sh_gf (pc := 59) dX6_hangTool_59 fl_X6_128 cf_7 ⟨hk.1, vp_lt hi7⟩ rfl rfl ?_
          refine sh_iconst (v := (-1)) (pc := 62) dX6_hangTool_62 rfl ?_
          refine sh_icmp_ne (tgt := 80) (pc := 63) dX6_hangTool_63 (by decide) (fun hc10 => ?_) (fun hc10 => ?_)
          · have h := h.1 hc10
            refine sh_ldc (v := (-1000002)) (pc := 80) dX6_hangTool_80 kc_X6_84 ?_
            exact sh_ret_i (pc := 82) dX6_hangTool_82 rfl ⟨rfl, rfl⟩ h
          · have h := h.2 hc10
            refine sh_aload_n (pc := 66) dX6_hangTool_66 rfl ?_
            refine sh_iload_n (pc := 67) dX6_hangTool_67 rfl ?_
            refine sh_iload_n (pc := 68) dX6_hangTool_68 rfl ?_
            refine sh_ci (N := mX6_toolOnHook) (pc := 69) dX6_hangTool_69 ml_X6_131 h mf_X6_toolOnHook iv_X6_toolOnHook ⟨Nat.le_of_ble_eq_true rfl, Nat.le_of_ble_eq_true rfl⟩ rfl rfl (Nat.le_of_ble_eq_true rfl) hk rfl (show vwCl[6]? = some (RX6, TX6, 5) from rfl) rfl (fun r12 S11 h => ?_)
            refine sh_if_ge (tgt := 80) (pc := 72) dX6_hangTool_72 (by decide) (fun hc13 => ?_) (fun hc13 => ?_)
            · have h := h.1 hc13
              refine sh_ldc (v := (-1000002)) (pc := 80) dX6_hangTool_80 kc_X6_84 ?_
              exact sh_ret_i (pc := 82) dX6_hangTool_82 rfl ⟨rfl, rfl⟩ h
            · have h := h.2 hc13
              refine sh_iload (pc := 75) dX6_hangTool_75 rfl ?_
              refine sh_if_ne (tgt := 83) (pc := 77) dX6_hangTool_77 (by decide) (fun hc14 => ?_) (fun hc14 => ?_)
              · skip
                refine sh_aload (pc := 83) dX6_hangTool_83 rfl ?_
                refine sh_iload_n (pc := 85) dX6_hangTool_85 rfl ?_
                refine sh_pfi (pc := 86) dX6_hangTool_86 fl_X6_128 cf_7 ft_7_10 ⟨hk.1, vp_lt hi7⟩ rfl (Nat.le_of_ble_eq_true rfl) rfl ?_
                refine sh_topS (fun S15 hS15 => ?_)
                have h := h S15 hS15
                refine sh_aload (pc := 89) dX6_hangTool_89 rfl ?_
                refine sh_iload_n (pc := 91) dX6_hangTool_91 rfl ?_
                refine sh_pfi (pc := 92) dX6_hangTool_92 fl_X6_135 cf_7 ft_7_11 ⟨hk.1, vp_lt hi7⟩ rfl (Nat.le_of_ble_eq_true rfl) rfl ?_
                refine sh_topS (fun S16 hS16 => ?_)
                have h := h S16 hS16
                refine sh_aload_n (pc := 95) dX6_hangTool_95 rfl ?_
                refine sh_iload_n (pc := 96) dX6_hangTool_96 rfl ?_
                refine sh_ci (N := mX6_countTaken) (pc := 97) dX6_hangTool_97 ml_X6_138 h mf_X6_countTaken iv_X6_countTaken ⟨Nat.le_of_ble_eq_true rfl, Nat.le_of_ble_eq_true rfl⟩ rfl rfl (Nat.le_of_ble_eq_true rfl) hk rfl (show vwCl[6]? = some (RX6, TX6, 5) from rfl) rfl (fun r18 S17 h => ?_)
                exact sh_ret_i (pc := 100) dX6_hangTool_100 rfl ⟨rfl, rfl⟩ h
              · exact absurd hc14 (by decide)
      · have h := h.2 hc8
        refine sh_iload_n (pc := 33) dX6_hangTool_33 rfl ?_
        refine sh_aload (pc := 34) dX6_hangTool_34 rfl ?_
        refine sh_gf (pc := 36) dX6_hangTool_36 fl_X6_125 cf_7 ⟨hk.1, vp_lt hi7⟩ rfl rfl ?_
        refine sh_icmp_ne (tgt := 46) (pc := 39) dX6_hangTool_39 (by decide) (fun hc19 => ?_) (fun hc19 => ?_)
        · have h := h.1 hc19
          refine sh_iconst (v := 0) (pc := 46) dX6_hangTool_46 rfl ?_
          refine sh_istore (ls' := [(5, sh_I 0), (4, sh_R (7, k, (a1.toNatClampNeg))), (0, sh_R (6, k, 0)), (1, sh_I a1), (2, sh_I a2), (3, sh_I a3)]) (pc := 47) dX6_hangTool_47 (by decide) rfl ?_
          refine sh_aload (pc := 49) dX6_hangTool_49 rfl ?_
          refine sh_gf (pc := 51) dX6_hangTool_51 fl_X6_94 cf_7 ⟨hk.1, vp_lt hi7⟩ rfl rfl ?_
          refine sh_if_ne (tgt := 80) (pc := 54) dX6_hangTool_54 (by decide) (fun hc20 => ?_) (fun hc20 => ?_)
          · have h := h.1 hc20
            refine sh_ldc (v := (-1000002)) (pc := 80) dX6_hangTool_80 kc_X6_84 ?_
            exact sh_ret_i (pc := 82) dX6_hangTool_82 rfl ⟨rfl, rfl⟩ h
          · have h := h.2 hc20
            refine sh_aload (pc := 57) dX6_hangTool_57 rfl ?_
            refine sh_gf (pc := 59) dX6_hangTool_59 fl_X6_128 cf_7 ⟨hk.1, vp_lt hi7⟩ rfl rfl ?_
            refine sh_iconst (v := (-1)) (pc := 62) dX6_hangTool_62 rfl ?_
            refine sh_icmp_ne (tgt := 80) (pc := 63) dX6_hangTool_63 (by decide) (fun hc21 => ?_) (fun hc21 => ?_)
            · have h := h.1 hc21
              refine sh_ldc (v := (-1000002)) (pc := 80) dX6_hangTool_80 kc_X6_84 ?_
              exact sh_ret_i (pc := 82) dX6_hangTool_82 rfl ⟨rfl, rfl⟩ h
            · have h := h.2 hc21
              refine sh_aload_n (pc := 66) dX6_hangTool_66 rfl ?_
              refine sh_iload_n (pc := 67) dX6_hangTool_67 rfl ?_
              refine sh_iload_n (pc := 68) dX6_hangTool_68 rfl ?_
              refine sh_ci (N := mX6_toolOnHook) (pc := 69) dX6_hangTool_69 ml_X6_131 h mf_X6_toolOnHook iv_X6_toolOnHook ⟨Nat.le_of_ble_eq_true rfl, Nat.le_of_ble_eq_true rfl⟩ rfl rfl (Nat.le_of_ble_eq_true rfl) hk rfl (show vwCl[6]? = some (RX6, TX6, 5) from rfl) rfl (fun r23 S22 h => ?_)
              refine sh_if_ge (tgt := 80) (pc := 72) dX6_hangTool_72 (by decide) (fun hc24 => ?_) (fun hc24 => ?_)
              · have h := h.1 hc24
                refine sh_ldc (v := (-1000002)) (pc := 80) dX6_hangTool_80 kc_X6_84 ?_
                exact sh_ret_i (pc := 82) dX6_hangTool_82 rfl ⟨rfl, rfl⟩ h
              · have h := h.2 hc24
                refine sh_iload (pc := 75) dX6_hangTool_75 rfl ?_
                refine sh_if_ne (tgt := 83) (pc := 77) dX6_hangTool_77 (by decide) (fun hc25 => ?_) (fun hc25 => ?_)
                · exact absurd hc25 (by decide)
                · skip
                  refine sh_ldc (v := (-1000002)) (pc := 80) dX6_hangTool_80 kc_X6_84 ?_
                  exact sh_ret_i (pc := 82) dX6_hangTool_82 rfl ⟨rfl, rfl⟩ h
        · have h := h.2 hc19
          refine sh_iconst (v := 1) (pc := 42) dX6_hangTool_42 rfl ?_
          refine sh_goto (tgt := 47) (pc := 43) dX6_hangTool_43 (by decide) ?_
          refine sh_istore (ls' := [(5, sh_I 1), (4, sh_R (7, k, (a1.toNatClampNeg))), (0, sh_R (6, k, 0)), (1, sh_I a1), (2, sh_I a2), (3, sh_I a3)]) (pc := 47) dX6_hangTool_47 (by decide) rfl ?_
          refine sh_aload (pc := 49) dX6_hangTool_49 rfl ?_
          refine sh_gf (pc := 51) dX6_hangTool_51 fl_X6_94 cf_7 ⟨hk.1, vp_lt hi7⟩ rfl rfl ?_
          refine sh_if_ne (tgt := 80) (pc := 54) dX6_hangTool_54 (by decide) (fun hc26 => ?_) (fun hc26 => ?_)
          · have h := h.1 hc26
            refine sh_ldc (v := (-1000002)) (pc := 80) dX6_hangTool_80 kc_X6_84 ?_
            exact sh_ret_i (pc := 82) dX6_hangTool_82 rfl ⟨rfl, rfl⟩ h
          · have h := h.2 hc26
            refine sh_aload (pc := 57) dX6_hangTool_57 rfl ?_
            refine sh_gf (pc := 59) dX6_hangTool_59 fl_X6_128 cf_7 ⟨hk.1, vp_lt hi7⟩ rfl rfl ?_
            refine sh_iconst (v := (-1)) (pc := 62) dX6_hangTool_62 rfl ?_
            refine sh_icmp_ne (tgt := 80) (pc := 63) dX6_hangTool_63 (by decide) (fun hc27 => ?_) (fun hc27 => ?_)
            · have h := h.1 hc27
              refine sh_ldc (v := (-1000002)) (pc := 80) dX6_hangTool_80 kc_X6_84 ?_
              exact sh_ret_i (pc := 82) dX6_hangTool_82 rfl ⟨rfl, rfl⟩ h
            · have h := h.2 hc27
              refine sh_aload_n (pc := 66) dX6_hangTool_66 rfl ?_
              refine sh_iload_n (pc := 67) dX6_hangTool_67 rfl ?_
              refine sh_iload_n (pc := 68) dX6_hangTool_68 rfl ?_
              refine sh_ci (N := mX6_toolOnHook) (pc := 69) dX6_hangTool_69 ml_X6_131 h mf_X6_toolOnHook iv_X6_toolOnHook ⟨Nat.le_of_ble_eq_true rfl, Nat.le_of_ble_eq_true rfl⟩ rfl rfl (Nat.le_of_ble_eq_true rfl) hk rfl (show vwCl[6]? = some (RX6, TX6, 5) from rfl) rfl (fun r29 S28 h => ?_)
              refine sh_if_ge (tgt := 80) (pc := 72) dX6_hangTool_72 (by decide) (fun hc30 => ?_) (fun hc30 => ?_)
              · have h := h.1 hc30
                refine sh_ldc (v := (-1000002)) (pc := 80) dX6_hangTool_80 kc_X6_84 ?_
                exact sh_ret_i (pc := 82) dX6_hangTool_82 rfl ⟨rfl, rfl⟩ h
              · have h := h.2 hc30
                refine sh_iload (pc := 75) dX6_hangTool_75 rfl ?_
                refine sh_if_ne (tgt := 83) (pc := 77) dX6_hangTool_77 (by decide) (fun hc31 => ?_) (fun hc31 => ?_)
                · skip
                  refine sh_aload (pc := 83) dX6_hangTool_83 rfl ?_
                  refine sh_iload_n (pc := 85) dX6_hangTool_85 rfl ?_
                  refine sh_pfi (pc := 86) dX6_hangTool_86 fl_X6_128 cf_7 ft_7_10 ⟨hk.1, vp_lt hi7⟩ rfl (Nat.le_of_ble_eq_true rfl) rfl ?_
                  refine sh_topS (fun S32 hS32 => ?_)
                  have h := h S32 hS32
                  refine sh_aload (pc := 89) dX6_hangTool_89 rfl ?_
                  refine sh_iload_n (pc := 91) dX6_hangTool_91 rfl ?_
                  refine sh_pfi (pc := 92) dX6_hangTool_92 fl_X6_135 cf_7 ft_7_11 ⟨hk.1, vp_lt hi7⟩ rfl (Nat.le_of_ble_eq_true rfl) rfl ?_
                  refine sh_topS (fun S33 hS33 => ?_)
                  have h := h S33 hS33
                  refine sh_aload_n (pc := 95) dX6_hangTool_95 rfl ?_
                  refine sh_iload_n (pc := 96) dX6_hangTool_96 rfl ?_
                  refine sh_ci (N := mX6_countTaken) (pc := 97) dX6_hangTool_97 ml_X6_138 h mf_X6_countTaken iv_X6_countTaken ⟨Nat.le_of_ble_eq_true rfl, Nat.le_of_ble_eq_true rfl⟩ rfl rfl (Nat.le_of_ble_eq_true rfl) hk rfl (show vwCl[6]? = some (RX6, TX6, 5) from rfl) rfl (fun r35 S34 h => ?_)
                  exact sh_ret_i (pc := 100) dX6_hangTool_100 rfl ⟨rfl, rfl⟩ h
                · exact absurd hc31 (by decide)
    · have h := h.2 hc6
      refine sh_ldc (v := (-1000001)) (pc := 17) dX6_hangTool_17 kc_X6_58 ?_
      exact sh_ret_i (pc := 19) dX6_hangTool_19 rfl ⟨rfl, rfl⟩ h

set_option maxRecDepth 100000 in
set_option maxHeartbeats 4000000 in
theorem wp_X7_tell {g : sh_G} {S : sh_S} {sz : Nat} {Q : Int32 → sh_S → Prop} {k i : Nat} (hk : sh_ok (7, k, i)) {a1 : Int32} 
    (h : (((S (7, k, i) 4) = 0 → ((a1 = 0 → Q (S (7, k, i) 0) S) ∧ (¬ a1 = 0 → ((a1 = 1 → Q (S (7, k, i) 1) S) ∧ (¬ a1 = 1 → ((a1 = 2 → Q (S (7, k, i) 2) S) ∧ (¬ a1 = 2 → ((a1 = 3 → Q (S (7, k, i) 4) S) ∧ (¬ a1 = 3 → ((a1 = 4 → Q (-1000004) S) ∧ (¬ a1 = 4 → ((a1 = 5 → Q (-1000004) S) ∧ (¬ a1 = 5 → ((a1 = 6 → (sh_Ci g mX8_thousandths [sh_F ((S (7, k, i) 3).toUInt32)] S sz (fun r12 S11 => Q r12 S11))) ∧ (¬ a1 = 6 → ((a1 = 7 → Q (S (7, k, i) 9) S) ∧ (¬ a1 = 7 → ((a1 = 8 → ((¬ (S (7, k, i) 10) = (-1) → Q ((10 * (S (7, k, i) 10)) + (S (7, k, i) 11)) S) ∧ ((S (7, k, i) 10) = (-1) → Q (-1000004) S))) ∧ (¬ a1 = 8 → Q (-1000001) S))))))))))))))))))) ∧ (¬ (S (7, k, i) 4) = 0 → (((S (7, k, i) 4) = 4 → ((a1 = 0 → Q (S (7, k, i) 0) S) ∧ (¬ a1 = 0 → ((a1 = 1 → Q (S (7, k, i) 1) S) ∧ (¬ a1 = 1 → ((a1 = 2 → Q (S (7, k, i) 2) S) ∧ (¬ a1 = 2 → ((a1 = 3 → Q (S (7, k, i) 4) S) ∧ (¬ a1 = 3 → ((a1 = 4 → Q (-1000004) S) ∧ (¬ a1 = 4 → ((a1 = 5 → Q (-1000004) S) ∧ (¬ a1 = 5 → ((a1 = 6 → (sh_Ci g mX8_thousandths [sh_F ((S (7, k, i) 3).toUInt32)] S sz (fun r27 S26 => Q r27 S26))) ∧ (¬ a1 = 6 → ((a1 = 7 → Q (S (7, k, i) 9) S) ∧ (¬ a1 = 7 → ((a1 = 8 → ((¬ (S (7, k, i) 10) = (-1) → Q ((10 * (S (7, k, i) 10)) + (S (7, k, i) 11)) S) ∧ ((S (7, k, i) 10) = (-1) → Q (-1000004) S))) ∧ (¬ a1 = 8 → Q (-1000001) S))))))))))))))))))) ∧ (¬ (S (7, k, i) 4) = 4 → ((a1 = 0 → Q (S (7, k, i) 0) S) ∧ (¬ a1 = 0 → ((a1 = 1 → Q (S (7, k, i) 1) S) ∧ (¬ a1 = 1 → ((a1 = 2 → Q (S (7, k, i) 2) S) ∧ (¬ a1 = 2 → ((a1 = 3 → Q (S (7, k, i) 4) S) ∧ (¬ a1 = 3 → ((a1 = 4 → Q (S (7, k, i) 5) S) ∧ (¬ a1 = 4 → ((a1 = 5 → Q (S (7, k, i) 7) S) ∧ (¬ a1 = 5 → ((a1 = 6 → (sh_Ci g mX8_thousandths [sh_F ((S (7, k, i) 3).toUInt32)] S sz (fun r41 S40 => Q r41 S40))) ∧ (¬ a1 = 6 → ((a1 = 7 → Q (S (7, k, i) 9) S) ∧ (¬ a1 = 7 → ((a1 = 8 → ((¬ (S (7, k, i) 10) = (-1) → Q ((10 * (S (7, k, i) 10)) + (S (7, k, i) 11)) S) ∧ ((S (7, k, i) 10) = (-1) → Q (-1000004) S))) ∧ (¬ a1 = 8 → Q (-1000001) S))))))))))))))))))))))) :
    sh_Ci g mX7_tell [sh_R (7, k, i), sh_I a1] S sz Q := by
  refine sh_enter (ls := [(0, sh_R (7, k, i)), (1, sh_I a1)]) (by decide +kernel) (Nat.le_of_ble_eq_true rfl) rfl ?_
  refine sh_aload_n (pc := 0) dX7_tell_0 rfl ?_
  refine sh_gf (pc := 1) dX7_tell_1 fl_X7_39 cf_7 hk rfl rfl ?_
  refine sh_if_eq (tgt := 19) (pc := 4) dX7_tell_4 (by decide) (fun hc1 => ?_) (fun hc1 => ?_)
  · have h := h.1 hc1
    refine sh_iconst (v := 0) (pc := 19) dX7_tell_19 rfl ?_
    refine sh_istore_n (ls' := [(2, sh_I 0), (0, sh_R (7, k, i)), (1, sh_I a1)]) (pc := 20) dX7_tell_20 (by decide) rfl ?_
    refine sh_iload_n (pc := 21) dX7_tell_21 rfl ?_
    by_cases hc2 : a1 = 0
    · have h := h.1 hc2
      refine sh_tin 0 (pc := 22) (tgt := 72) dX7_tell_22 hc2 (by decide) (by decide) rfl (by decide) ?_
      refine sh_aload_n (pc := 72) dX7_tell_72 rfl ?_
      refine sh_gf (pc := 73) dX7_tell_73 fl_X7_25 cf_7 hk rfl rfl ?_
      exact sh_ret_i (pc := 76) dX7_tell_76 rfl ⟨rfl, rfl⟩ h
    · have h := h.2 hc2
      by_cases hc3 : a1 = 1
      · have h := h.1 hc3
        refine sh_tin 1 (pc := 22) (tgt := 77) dX7_tell_22 hc3 (by decide) (by decide) rfl (by decide) ?_
        refine sh_aload_n (pc := 77) dX7_tell_77 rfl ?_
        refine sh_gf (pc := 78) dX7_tell_78 fl_X7_29 cf_7 hk rfl rfl ?_
        exact sh_ret_i (pc := 81) dX7_tell_81 rfl ⟨rfl, rfl⟩ h
      · have h := h.2 hc3
        by_cases hc4 : a1 = 2
        · have h := h.1 hc4
          refine sh_tin 2 (pc := 22) (tgt := 82) dX7_tell_22 hc4 (by decide) (by decide) rfl (by decide) ?_
          refine sh_aload_n (pc := 82) dX7_tell_82 rfl ?_
          refine sh_gf (pc := 83) dX7_tell_83 fl_X7_32 cf_7 hk rfl rfl ?_
          exact sh_ret_i (pc := 86) dX7_tell_86 rfl ⟨rfl, rfl⟩ h
        · have h := h.2 hc4
          by_cases hc5 : a1 = 3
          · have h := h.1 hc5
            refine sh_tin 3 (pc := 22) (tgt := 87) dX7_tell_22 hc5 (by decide) (by decide) rfl (by decide) ?_
            refine sh_aload_n (pc := 87) dX7_tell_87 rfl ?_
            refine sh_gf (pc := 88) dX7_tell_88 fl_X7_39 cf_7 hk rfl rfl ?_
            exact sh_ret_i (pc := 91) dX7_tell_91 rfl ⟨rfl, rfl⟩ h
          · have h := h.2 hc5
            by_cases hc6 : a1 = 4
            · have h := h.1 hc6
              refine sh_tin 4 (pc := 22) (tgt := 92) dX7_tell_22 hc6 (by decide) (by decide) rfl (by decide) ?_
              refine sh_iload_n (pc := 92) dX7_tell_92 rfl ?_
              refine sh_if_eq (tgt := 103) (pc := 93) dX7_tell_93 (by decide) (fun hc7 => ?_) (fun hc7 => ?_)
              · skip
                refine sh_ldc (v := (-1000004)) (pc := 103) dX7_tell_103 kc_X7_89 ?_
                exact sh_ret_i (pc := 105) dX7_tell_105 rfl ⟨rfl, rfl⟩ h
              · exact absurd hc7 (by decide)
            · have h := h.2 hc6
              by_cases hc8 : a1 = 5
              · have h := h.1 hc8
                refine sh_tin 5 (pc := 22) (tgt := 106) dX7_tell_22 hc8 (by decide) (by decide) rfl (by decide) ?_
                refine sh_iload_n (pc := 106) dX7_tell_106 rfl ?_
                refine sh_if_eq (tgt := 117) (pc := 107) dX7_tell_107 (by decide) (fun hc9 => ?_) (fun hc9 => ?_)
                · skip
                  refine sh_ldc (v := (-1000004)) (pc := 117) dX7_tell_117 kc_X7_89 ?_
                  exact sh_ret_i (pc := 119) dX7_tell_119 rfl ⟨rfl, rfl⟩ h
                · exact absurd hc9 (by decide)
              · have h := h.2 hc8
                by_cases hc10 : a1 = 6
                · have h := h.1 hc10
                  refine sh_tin 6 (pc := 22) (tgt := 120) dX7_tell_22 hc10 (by decide) (by decide) rfl (by decide) ?_
                  refine sh_aload_n (pc := 120) dX7_tell_120 rfl ?_
                  refine sh_gf (pc := 121) dX7_tell_121 fl_X7_35 cf_7 hk rfl rfl ?_
                  refine sh_siN (N := mX8_thousandths) (pc := 124) dX7_tell_124 nl_X7_90 h mf_X8_thousandths is_X8_thousandths ⟨Nat.le_of_ble_eq_true rfl, Nat.le_of_ble_eq_true rfl⟩ rfl rfl (Nat.le_of_ble_eq_true rfl) (fun r12 S11 h => ?_)
                  exact sh_ret_i (pc := 127) dX7_tell_127 rfl ⟨rfl, rfl⟩ h
                · have h := h.2 hc10
                  by_cases hc13 : a1 = 7
                  · have h := h.1 hc13
                    refine sh_tin 7 (pc := 22) (tgt := 128) dX7_tell_22 hc13 (by decide) (by decide) rfl (by decide) ?_
                    refine sh_aload_n (pc := 128) dX7_tell_128 rfl ?_
                    refine sh_gf (pc := 129) dX7_tell_129 fl_X7_54 cf_7 hk rfl rfl ?_
                    exact sh_ret_i (pc := 132) dX7_tell_132 rfl ⟨rfl, rfl⟩ h
                  · have h := h.2 hc13
                    by_cases hc14 : a1 = 8
                    · have h := h.1 hc14
                      refine sh_tin 8 (pc := 22) (tgt := 133) dX7_tell_22 hc14 (by decide) (by decide) rfl (by decide) ?_
                      refine sh_aload_n (pc := 133) dX7_tell_133 rfl ?_
                      refine sh_gf (pc := 134) dX7_tell_134 fl_X7_57 cf_7 hk rfl rfl ?_
                      refine sh_iconst (v := (-1)) (pc := 137) dX7_tell_137 rfl ?_
                      refine sh_icmp_ne (tgt := 146) (pc := 138) dX7_tell_138 (by decide) (fun hc15 => ?_) (fun hc15 => ?_)
                      · have h := h.1 hc15
                        refine sh_bipush (v := 10) (pc := 146) dX7_tell_146 rfl ?_
                        refine sh_aload_n (pc := 148) dX7_tell_148 rfl ?_
                        refine sh_gf (pc := 149) dX7_tell_149 fl_X7_57 cf_7 hk rfl rfl ?_
                        refine sh_imul (pc := 152) dX7_tell_152 ?_
                        refine sh_aload_n (pc := 153) dX7_tell_153 rfl ?_
                        refine sh_gf (pc := 154) dX7_tell_154 fl_X7_60 cf_7 hk rfl rfl ?_
                        refine sh_iadd (pc := 157) dX7_tell_157 ?_
                        exact sh_ret_i (pc := 158) dX7_tell_158 rfl ⟨rfl, rfl⟩ h
                      · have h := h.2 hc15
                        refine sh_ldc (v := (-1000004)) (pc := 141) dX7_tell_141 kc_X7_89 ?_
                        refine sh_goto (tgt := 158) (pc := 143) dX7_tell_143 (by decide) ?_
                        exact sh_ret_i (pc := 158) dX7_tell_158 rfl ⟨rfl, rfl⟩ h
                    · have h := h.2 hc14
                      refine sh_tout 0 9 (pc := 22) (tgt := 159) dX7_tell_22 (by decide) (by decide) (lt_s (lt_s (lt_s (lt_s (lt_s (lt_s (lt_s (lt_s (lt_s lt_0 hc2) hc3) hc4) hc5) hc6) hc8) hc10) hc13) hc14) (by decide) ?_
                      refine sh_ldc (v := (-1000001)) (pc := 159) dX7_tell_159 kc_X7_94 ?_
                      exact sh_ret_i (pc := 161) dX7_tell_161 rfl ⟨rfl, rfl⟩ h
  · have h := h.2 hc1
    refine sh_aload_n (pc := 7) dX7_tell_7 rfl ?_
    refine sh_gf (pc := 8) dX7_tell_8 fl_X7_39 cf_7 hk rfl rfl ?_
    refine sh_iconst (v := 4) (pc := 11) dX7_tell_11 rfl ?_
    refine sh_icmp_eq (tgt := 19) (pc := 12) dX7_tell_12 (by decide) (fun hc16 => ?_) (fun hc16 => ?_)
    · have h := h.1 hc16
      refine sh_iconst (v := 0) (pc := 19) dX7_tell_19 rfl ?_
      refine sh_istore_n (ls' := [(2, sh_I 0), (0, sh_R (7, k, i)), (1, sh_I a1)]) (pc := 20) dX7_tell_20 (by decide) rfl ?_
      refine sh_iload_n (pc := 21) dX7_tell_21 rfl ?_
      by_cases hc17 : a1 = 0
      · have h := h.1 hc17
        refine sh_tin 0 (pc := 22) (tgt := 72) dX7_tell_22 hc17 (by decide) (by decide) rfl (by decide) ?_
        refine sh_aload_n (pc := 72) dX7_tell_72 rfl ?_
        refine sh_gf (pc := 73) dX7_tell_73 fl_X7_25 cf_7 hk rfl rfl ?_
        exact sh_ret_i (pc := 76) dX7_tell_76 rfl ⟨rfl, rfl⟩ h
      · have h := h.2 hc17
        by_cases hc18 : a1 = 1
        · have h := h.1 hc18
          refine sh_tin 1 (pc := 22) (tgt := 77) dX7_tell_22 hc18 (by decide) (by decide) rfl (by decide) ?_
          refine sh_aload_n (pc := 77) dX7_tell_77 rfl ?_
          refine sh_gf (pc := 78) dX7_tell_78 fl_X7_29 cf_7 hk rfl rfl ?_
          exact sh_ret_i (pc := 81) dX7_tell_81 rfl ⟨rfl, rfl⟩ h
        · have h := h.2 hc18
          by_cases hc19 : a1 = 2
          · have h := h.1 hc19
            refine sh_tin 2 (pc := 22) (tgt := 82) dX7_tell_22 hc19 (by decide) (by decide) rfl (by decide) ?_
            refine sh_aload_n (pc := 82) dX7_tell_82 rfl ?_
            refine sh_gf (pc := 83) dX7_tell_83 fl_X7_32 cf_7 hk rfl rfl ?_
            exact sh_ret_i (pc := 86) dX7_tell_86 rfl ⟨rfl, rfl⟩ h
          · have h := h.2 hc19
            by_cases hc20 : a1 = 3
            · have h := h.1 hc20
              refine sh_tin 3 (pc := 22) (tgt := 87) dX7_tell_22 hc20 (by decide) (by decide) rfl (by decide) ?_
              refine sh_aload_n (pc := 87) dX7_tell_87 rfl ?_
              refine sh_gf (pc := 88) dX7_tell_88 fl_X7_39 cf_7 hk rfl rfl ?_
              exact sh_ret_i (pc := 91) dX7_tell_91 rfl ⟨rfl, rfl⟩ h
            · have h := h.2 hc20
              by_cases hc21 : a1 = 4
              · have h := h.1 hc21
                refine sh_tin 4 (pc := 22) (tgt := 92) dX7_tell_22 hc21 (by decide) (by decide) rfl (by decide) ?_
                refine sh_iload_n (pc := 92) dX7_tell_92 rfl ?_
                refine sh_if_eq (tgt := 103) (pc := 93) dX7_tell_93 (by decide) (fun hc22 => ?_) (fun hc22 => ?_)
                · skip
                  refine sh_ldc (v := (-1000004)) (pc := 103) dX7_tell_103 kc_X7_89 ?_
                  exact sh_ret_i (pc := 105) dX7_tell_105 rfl ⟨rfl, rfl⟩ h
                · exact absurd hc22 (by decide)
              · have h := h.2 hc21
                by_cases hc23 : a1 = 5
                · have h := h.1 hc23
                  refine sh_tin 5 (pc := 22) (tgt := 106) dX7_tell_22 hc23 (by decide) (by decide) rfl (by decide) ?_
                  refine sh_iload_n (pc := 106) dX7_tell_106 rfl ?_
                  refine sh_if_eq (tgt := 117) (pc := 107) dX7_tell_107 (by decide) (fun hc24 => ?_) (fun hc24 => ?_)
                  · skip
                    refine sh_ldc (v := (-1000004)) (pc := 117) dX7_tell_117 kc_X7_89 ?_
                    exact sh_ret_i (pc := 119) dX7_tell_119 rfl ⟨rfl, rfl⟩ h
                  · exact absurd hc24 (by decide)
                · have h := h.2 hc23
                  by_cases hc25 : a1 = 6
                  · have h := h.1 hc25
                    refine sh_tin 6 (pc := 22) (tgt := 120) dX7_tell_22 hc25 (by decide) (by decide) rfl (by decide) ?_
                    refine sh_aload_n (pc := 120) dX7_tell_120 rfl ?_
                    refine sh_gf (pc := 121) dX7_tell_121 fl_X7_35 cf_7 hk rfl rfl ?_
                    refine sh_siN (N := mX8_thousandths) (pc := 124) dX7_tell_124 nl_X7_90 h mf_X8_thousandths is_X8_thousandths ⟨Nat.le_of_ble_eq_true rfl, Nat.le_of_ble_eq_true rfl⟩ rfl rfl (Nat.le_of_ble_eq_true rfl) (fun r27 S26 h => ?_)
                    exact sh_ret_i (pc := 127) dX7_tell_127 rfl ⟨rfl, rfl⟩ h
                  · have h := h.2 hc25
                    by_cases hc28 : a1 = 7
                    · have h := h.1 hc28
                      refine sh_tin 7 (pc := 22) (tgt := 128) dX7_tell_22 hc28 (by decide) (by decide) rfl (by decide) ?_
                      refine sh_aload_n (pc := 128) dX7_tell_128 rfl ?_
                      refine sh_gf (pc := 129) dX7_tell_129 fl_X7_54 cf_7 hk rfl rfl ?_
                      exact sh_ret_i (pc := 132) dX7_tell_132 rfl ⟨rfl, rfl⟩ h
                    · have h := h.2 hc28
                      by_cases hc29 : a1 = 8
                      · have h := h.1 hc29
                        refine sh_tin 8 (pc := 22) (tgt := 133) dX7_tell_22 hc29 (by decide) (by decide) rfl (by decide) ?_
                        refine sh_aload_n (pc := 133) dX7_tell_133 rfl ?_
                        refine sh_gf (pc := 134) dX7_tell_134 fl_X7_57 cf_7 hk rfl rfl ?_
                        refine sh_iconst (v := (-1)) (pc := 137) dX7_tell_137 rfl ?_
                        refine sh_icmp_ne (tgt := 146) (pc := 138) dX7_tell_138 (by decide) (fun hc30 => ?_) (fun hc30 => ?_)
                        · have h := h.1 hc30
                          refine sh_bipush (v := 10) (pc := 146) dX7_tell_146 rfl ?_
                          refine sh_aload_n (pc := 148) dX7_tell_148 rfl ?_
                          refine sh_gf (pc := 149) dX7_tell_149 fl_X7_57 cf_7 hk rfl rfl ?_
                          refine sh_imul (pc := 152) dX7_tell_152 ?_
                          refine sh_aload_n (pc := 153) dX7_tell_153 rfl ?_
                          refine sh_gf (pc := 154) dX7_tell_154 fl_X7_60 cf_7 hk rfl rfl ?_
                          refine sh_iadd (pc := 157) dX7_tell_157 ?_
                          exact sh_ret_i (pc := 158) dX7_tell_158 rfl ⟨rfl, rfl⟩ h
                        · have h := h.2 hc30
                          refine sh_ldc (v := (-1000004)) (pc := 141) dX7_tell_141 kc_X7_89 ?_
                          refine sh_goto (tgt := 158) (pc := 143) dX7_tell_143 (by decide) ?_
                          exact sh_ret_i (pc := 158) dX7_tell_158 rfl ⟨rfl, rfl⟩ h
                      · have h := h.2 hc29
                        refine sh_tout 0 9 (pc := 22) (tgt := 159) dX7_tell_22 (by decide) (by decide) (lt_s (lt_s (lt_s (lt_s (lt_s (lt_s (lt_s (lt_s (lt_s lt_0 hc17) hc18) hc19) hc20) hc21) hc23) hc25) hc28) hc29) (by decide) ?_
                        refine sh_ldc (v := (-1000001)) (pc := 159) dX7_tell_159 kc_X7_94 ?_
                        exact sh_ret_i (pc := 161) dX7_tell_161 rfl ⟨rfl, rfl⟩ h
    · have h := h.2 hc16
      refine sh_iconst (v := 1) (pc := 15) dX7_tell_15 rfl ?_
      refine sh_goto (tgt := 20) (pc := 16) dX7_tell_16 (by decide) ?_
      refine sh_istore_n (ls' := [(2, sh_I 1), (0, sh_R (7, k, i)), (1, sh_I a1)]) (pc := 20) dX7_tell_20 (by decide) rfl ?_
      refine sh_iload_n (pc := 21) dX7_tell_21 rfl ?_
      by_cases hc31 : a1 = 0
      · have h := h.1 hc31
        refine sh_tin 0 (pc := 22) (tgt := 72) dX7_tell_22 hc31 (by decide) (by decide) rfl (by decide) ?_
        refine sh_aload_n (pc := 72) dX7_tell_72 rfl ?_
        refine sh_gf (pc := 73) dX7_tell_73 fl_X7_25 cf_7 hk rfl rfl ?_
        exact sh_ret_i (pc := 76) dX7_tell_76 rfl ⟨rfl, rfl⟩ h
      · have h := h.2 hc31
        by_cases hc32 : a1 = 1
        · have h := h.1 hc32
          refine sh_tin 1 (pc := 22) (tgt := 77) dX7_tell_22 hc32 (by decide) (by decide) rfl (by decide) ?_
          refine sh_aload_n (pc := 77) dX7_tell_77 rfl ?_
          refine sh_gf (pc := 78) dX7_tell_78 fl_X7_29 cf_7 hk rfl rfl ?_
          exact sh_ret_i (pc := 81) dX7_tell_81 rfl ⟨rfl, rfl⟩ h
        · have h := h.2 hc32
          by_cases hc33 : a1 = 2
          · have h := h.1 hc33
            refine sh_tin 2 (pc := 22) (tgt := 82) dX7_tell_22 hc33 (by decide) (by decide) rfl (by decide) ?_
            refine sh_aload_n (pc := 82) dX7_tell_82 rfl ?_
            refine sh_gf (pc := 83) dX7_tell_83 fl_X7_32 cf_7 hk rfl rfl ?_
            exact sh_ret_i (pc := 86) dX7_tell_86 rfl ⟨rfl, rfl⟩ h
          · have h := h.2 hc33
            by_cases hc34 : a1 = 3
            · have h := h.1 hc34
              refine sh_tin 3 (pc := 22) (tgt := 87) dX7_tell_22 hc34 (by decide) (by decide) rfl (by decide) ?_
              refine sh_aload_n (pc := 87) dX7_tell_87 rfl ?_
              refine sh_gf (pc := 88) dX7_tell_88 fl_X7_39 cf_7 hk rfl rfl ?_
              exact sh_ret_i (pc := 91) dX7_tell_91 rfl ⟨rfl, rfl⟩ h
            · have h := h.2 hc34
              by_cases hc35 : a1 = 4
              · have h := h.1 hc35
                refine sh_tin 4 (pc := 22) (tgt := 92) dX7_tell_22 hc35 (by decide) (by decide) rfl (by decide) ?_
                refine sh_iload_n (pc := 92) dX7_tell_92 rfl ?_
                refine sh_if_eq (tgt := 103) (pc := 93) dX7_tell_93 (by decide) (fun hc36 => ?_) (fun hc36 => ?_)
                · exact absurd hc36 (by decide)
                · skip
                  refine sh_aload_n (pc := 96) dX7_tell_96 rfl ?_
                  refine sh_gf (pc := 97) dX7_tell_97 fl_X7_42 cf_7 hk rfl rfl ?_
                  refine sh_goto (tgt := 105) (pc := 100) dX7_tell_100 (by decide) ?_
                  exact sh_ret_i (pc := 105) dX7_tell_105 rfl ⟨rfl, rfl⟩ h
              · have h := h.2 hc35
                by_cases hc37 : a1 = 5
                · have h := h.1 hc37
                  refine sh_tin 5 (pc := 22) (tgt := 106) dX7_tell_22 hc37 (by decide) (by decide) rfl (by decide) ?_
                  refine sh_iload_n (pc := 106) dX7_tell_106 rfl ?_
                  refine sh_if_eq (tgt := 117) (pc := 107) dX7_tell_107 (by decide) (fun hc38 => ?_) (fun hc38 => ?_)
                  · exact absurd hc38 (by decide)
                  · skip
                    refine sh_aload_n (pc := 110) dX7_tell_110 rfl ?_
                    refine sh_gf (pc := 111) dX7_tell_111 fl_X7_48 cf_7 hk rfl rfl ?_
                    refine sh_goto (tgt := 119) (pc := 114) dX7_tell_114 (by decide) ?_
                    exact sh_ret_i (pc := 119) dX7_tell_119 rfl ⟨rfl, rfl⟩ h
                · have h := h.2 hc37
                  by_cases hc39 : a1 = 6
                  · have h := h.1 hc39
                    refine sh_tin 6 (pc := 22) (tgt := 120) dX7_tell_22 hc39 (by decide) (by decide) rfl (by decide) ?_
                    refine sh_aload_n (pc := 120) dX7_tell_120 rfl ?_
                    refine sh_gf (pc := 121) dX7_tell_121 fl_X7_35 cf_7 hk rfl rfl ?_
                    refine sh_siN (N := mX8_thousandths) (pc := 124) dX7_tell_124 nl_X7_90 h mf_X8_thousandths is_X8_thousandths ⟨Nat.le_of_ble_eq_true rfl, Nat.le_of_ble_eq_true rfl⟩ rfl rfl (Nat.le_of_ble_eq_true rfl) (fun r41 S40 h => ?_)
                    exact sh_ret_i (pc := 127) dX7_tell_127 rfl ⟨rfl, rfl⟩ h
                  · have h := h.2 hc39
                    by_cases hc42 : a1 = 7
                    · have h := h.1 hc42
                      refine sh_tin 7 (pc := 22) (tgt := 128) dX7_tell_22 hc42 (by decide) (by decide) rfl (by decide) ?_
                      refine sh_aload_n (pc := 128) dX7_tell_128 rfl ?_
                      refine sh_gf (pc := 129) dX7_tell_129 fl_X7_54 cf_7 hk rfl rfl ?_
                      exact sh_ret_i (pc := 132) dX7_tell_132 rfl ⟨rfl, rfl⟩ h
                    · have h := h.2 hc42
                      by_cases hc43 : a1 = 8
                      · have h := h.1 hc43
                        refine sh_tin 8 (pc := 22) (tgt := 133) dX7_tell_22 hc43 (by decide) (by decide) rfl (by decide) ?_
                        refine sh_aload_n (pc := 133) dX7_tell_133 rfl ?_
                        refine sh_gf (pc := 134) dX7_tell_134 fl_X7_57 cf_7 hk rfl rfl ?_
                        refine sh_iconst (v := (-1)) (pc := 137) dX7_tell_137 rfl ?_
                        refine sh_icmp_ne (tgt := 146) (pc := 138) dX7_tell_138 (by decide) (fun hc44 => ?_) (fun hc44 => ?_)
                        · have h := h.1 hc44
                          refine sh_bipush (v := 10) (pc := 146) dX7_tell_146 rfl ?_
                          refine sh_aload_n (pc := 148) dX7_tell_148 rfl ?_
                          refine sh_gf (pc := 149) dX7_tell_149 fl_X7_57 cf_7 hk rfl rfl ?_
                          refine sh_imul (pc := 152) dX7_tell_152 ?_
                          refine sh_aload_n (pc := 153) dX7_tell_153 rfl ?_
                          refine sh_gf (pc := 154) dX7_tell_154 fl_X7_60 cf_7 hk rfl rfl ?_
                          refine sh_iadd (pc := 157) dX7_tell_157 ?_
                          exact sh_ret_i (pc := 158) dX7_tell_158 rfl ⟨rfl, rfl⟩ h
                        · have h := h.2 hc44
                          refine sh_ldc (v := (-1000004)) (pc := 141) dX7_tell_141 kc_X7_89 ?_
                          refine sh_goto (tgt := 158) (pc := 143) dX7_tell_143 (by decide) ?_
                          exact sh_ret_i (pc := 158) dX7_tell_158 rfl ⟨rfl, rfl⟩ h
                      · have h := h.2 hc43
                        refine sh_tout 0 9 (pc := 22) (tgt := 159) dX7_tell_22 (by decide) (by decide) (lt_s (lt_s (lt_s (lt_s (lt_s (lt_s (lt_s (lt_s (lt_s lt_0 hc31) hc32) hc33) hc34) hc35) hc37) hc39) hc42) hc43) (by decide) ?_
                        refine sh_ldc (v := (-1000001)) (pc := 159) dX7_tell_159 kc_X7_94 ?_
                        exact sh_ret_i (pc := 161) dX7_tell_161 rfl ⟨rfl, rfl⟩ h

set_option maxRecDepth 100000 in
set_option maxHeartbeats 4000000 in
theorem wp_X6_tellOfTool {g : sh_G} {S : sh_S} {sz : Nat} {Q : Int32 → sh_S → Prop} {k : Nat} (hk : sh_ok (6, k, 0)) {a1 : Int32} {a2 : Int32} 
    (h : (sh_Ci g mX6_hasTool [sh_R (6, k, 0), sh_I a1] S sz (fun r2 S1 => ((r2 = 0 → Q (-1000001) S1) ∧ (¬ r2 = 0 → (vp_in a1 20 ∧ (sh_Ci g mX7_tell [sh_R (7, k, (a1.toNatClampNeg)), sh_I a2] S1 sz (fun r6 S5 => Q r6 S5)))))))) :
    sh_Ci g mX6_tellOfTool [sh_R (6, k, 0), sh_I a1, sh_I a2] S sz Q := by
  refine sh_enter (ls := [(0, sh_R (6, k, 0)), (1, sh_I a1), (2, sh_I a2)]) (by decide +kernel) (Nat.le_of_ble_eq_true rfl) rfl ?_
  refine sh_aload_n (pc := 0) dX6_tellOfTool_0 rfl ?_
  refine sh_iload_n (pc := 1) dX6_tellOfTool_1 rfl ?_
  refine sh_ci (N := mX6_hasTool) (pc := 2) dX6_tellOfTool_2 ml_X6_88 h mf_X6_hasTool iv_X6_hasTool ⟨Nat.le_of_ble_eq_true rfl, Nat.le_of_ble_eq_true rfl⟩ rfl rfl (Nat.le_of_ble_eq_true rfl) hk rfl (show vwCl[6]? = some (RX6, TX6, 5) from rfl) rfl (fun r2 S1 h => ?_)
  refine sh_if_eq (tgt := 21) (pc := 5) dX6_tellOfTool_5 (by decide) (fun hc3 => ?_) (fun hc3 => ?_)
  · have h := h.1 hc3
    refine sh_ldc (v := (-1000001)) (pc := 21) dX6_tellOfTool_21 kc_X6_58 ?_
    exact sh_ret_i (pc := 23) dX6_tellOfTool_23 rfl ⟨rfl, rfl⟩ h
  · have h := h.2 hc3
    refine sh_aload_n (pc := 8) dX6_tellOfTool_8 rfl ?_
    refine sh_gf (pc := 9) dX6_tellOfTool_9 fl_X6_24 cf_6 hk rfl rfl ?_
    refine sh_iload_n (pc := 12) dX6_tellOfTool_12 rfl ?_
    obtain ⟨hi4, h⟩ := h
    refine sh_aa (o' := (7, k, (a1.toNatClampNeg))) (pc := 13) dX6_tellOfTool_13 (by decide) hk rfl hi4 rfl ?_
    refine sh_iload_n (pc := 14) dX6_tellOfTool_14 rfl ?_
    refine sh_ci (N := mX7_tell) (pc := 15) dX6_tellOfTool_15 ml_X6_171 h mf_X7_tell iv_X7_tell ⟨Nat.le_of_ble_eq_true rfl, Nat.le_of_ble_eq_true rfl⟩ rfl rfl (Nat.le_of_ble_eq_true rfl) ⟨hk.1, vp_lt hi4⟩ rfl (show vwCl[7]? = some (RX7, TX7, 14) from rfl) rfl (fun r6 S5 h => ?_)
    refine sh_goto (tgt := 23) (pc := 18) dX6_tellOfTool_18 (by decide) ?_
    exact sh_ret_i (pc := 23) dX6_tellOfTool_23 rfl ⟨rfl, rfl⟩ h

set_option maxRecDepth 100000 in
set_option maxHeartbeats 4000000 in
theorem wp_X8_floatBits {g : sh_G} {S : sh_S} {sz : Nat} {Q : Int32 → sh_S → Prop} {a1 : UInt32} 
    (h : (∃ (Iv1 : UInt32 → Int32 → Prop) (mu1 : UInt32 → Int32 → Nat), Iv1 a1 127 ∧ ∀ (v2 : UInt32) (v3 : Int32), Iv1 v2 v3 → ((0 ≤ (Op.cmpValue (FP.fcmp v2 FP.fconst1) .g) → (vf_n32 (FP.fsub v2 FP.fconst1) ∧ (∀ f7 : UInt32, f7 = (FP.fsub v2 FP.fconst1) → (vf_n32 (FP.fmul f7 1258291200) ∧ (∀ f9 : UInt32, f9 = (FP.fmul f7 1258291200) → Q ((v3 <<< (23 &&& 31)) + (FP.f2i f9)) S))))) ∧ (¬ 0 ≤ (Op.cmpValue (FP.fcmp v2 FP.fconst1) .g) → ((v3 ≤ 1 → (vf_n32 (FP.fsub v2 FP.fconst1) ∧ (∀ f12 : UInt32, f12 = (FP.fsub v2 FP.fconst1) → (vf_n32 (FP.fmul f12 1258291200) ∧ (∀ f14 : UInt32, f14 = (FP.fmul f12 1258291200) → Q ((v3 <<< (23 &&& 31)) + (FP.f2i f14)) S))))) ∧ (¬ v3 ≤ 1 → (vf_n32 (FP.fmul v2 FP.fconst2) ∧ (∀ f16 : UInt32, f16 = (FP.fmul v2 FP.fconst2) → (∀ x17 : Int32, x17 = v3 + (-1) → (Iv1 f16 x17 ∧ mu1 f16 x17 < mu1 v2 v3)))))))))) :
    sh_Ci g mX8_floatBits [sh_F a1] S sz Q := by
  refine sh_enter (ls := [(0, sh_F a1)]) (by decide +kernel) (Nat.le_of_ble_eq_true rfl) rfl ?_
  refine sh_fload_n (pc := 0) dX8_floatBits_0 rfl ?_
  refine sh_fstore_n (ls' := [(1, sh_F a1), (0, sh_F a1)]) (pc := 1) dX8_floatBits_1 (by decide) rfl ?_
  refine sh_bipush (v := 127) (pc := 2) dX8_floatBits_2 rfl ?_
  refine sh_istore_n (ls' := [(2, sh_I 127), (1, sh_F a1), (0, sh_F a1)]) (pc := 4) dX8_floatBits_4 (by decide) rfl ?_
  obtain ⟨Iv1, mu1, h0, hs1⟩ := h
  refine sh_pick [2, 1, 0] rfl ?_
  refine sh_lp2 Iv1 mu1 (fun v2 v3 => sh_V g mX8_floatBits 0 0 5 [(0, sh_F a1), (1, sh_F v2), (2, sh_I v3)] [] (sh_St S) sz (sh_ti sz Q)) (fun v2 v3 hI1 ih1 => ?_) _ _ h0
  have h := hs1 v2 v3 hI1
  clear h0
  refine sh_fload_n (pc := 5) dX8_floatBits_5 rfl ?_
  refine sh_fconst1 (pc := 6) dX8_floatBits_6 ?_
  refine sh_fcmp (pc := 7) dX8_floatBits_7 ?_
  refine sh_if_ge (tgt := 26) (pc := 8) dX8_floatBits_8 (by decide) (fun hc5 => ?_) (fun hc5 => ?_)
  · have h := h.1 hc5
    refine sh_iload_n (pc := 26) dX8_floatBits_26 rfl ?_
    refine sh_bipush (v := 23) (pc := 27) dX8_floatBits_27 rfl ?_
    refine sh_ishl (pc := 29) dX8_floatBits_29 ?_
    refine sh_fload_n (pc := 30) dX8_floatBits_30 rfl ?_
    refine sh_fconst1 (pc := 31) dX8_floatBits_31 ?_
    obtain ⟨hf6, h⟩ := h
    refine sh_fsub (pc := 32) dX8_floatBits_32 hf6 ?_
    refine sh_topF (fun f7 hf7 => ?_)
    have h := h f7 hf7
    refine sh_ldcf (v := 1258291200) (pc := 33) dX8_floatBits_33 kc_X8_187 ?_
    obtain ⟨hf8, h⟩ := h
    refine sh_fmul (pc := 35) dX8_floatBits_35 hf8 ?_
    refine sh_topF (fun f9 hf9 => ?_)
    have h := h f9 hf9
    refine sh_f2i (pc := 36) dX8_floatBits_36 ?_
    refine sh_iadd (pc := 37) dX8_floatBits_37 ?_
    exact sh_ret_i (pc := 38) dX8_floatBits_38 rfl ⟨rfl, rfl⟩ h
  · have h := h.2 hc5
    refine sh_iload_n (pc := 11) dX8_floatBits_11 rfl ?_
    refine sh_iconst (v := 1) (pc := 12) dX8_floatBits_12 rfl ?_
    refine sh_icmp_le (tgt := 26) (pc := 13) dX8_floatBits_13 (by decide) (fun hc10 => ?_) (fun hc10 => ?_)
    · have h := h.1 hc10
      refine sh_iload_n (pc := 26) dX8_floatBits_26 rfl ?_
      refine sh_bipush (v := 23) (pc := 27) dX8_floatBits_27 rfl ?_
      refine sh_ishl (pc := 29) dX8_floatBits_29 ?_
      refine sh_fload_n (pc := 30) dX8_floatBits_30 rfl ?_
      refine sh_fconst1 (pc := 31) dX8_floatBits_31 ?_
      obtain ⟨hf11, h⟩ := h
      refine sh_fsub (pc := 32) dX8_floatBits_32 hf11 ?_
      refine sh_topF (fun f12 hf12 => ?_)
      have h := h f12 hf12
      refine sh_ldcf (v := 1258291200) (pc := 33) dX8_floatBits_33 kc_X8_187 ?_
      obtain ⟨hf13, h⟩ := h
      refine sh_fmul (pc := 35) dX8_floatBits_35 hf13 ?_
      refine sh_topF (fun f14 hf14 => ?_)
      have h := h f14 hf14
      refine sh_f2i (pc := 36) dX8_floatBits_36 ?_
      refine sh_iadd (pc := 37) dX8_floatBits_37 ?_
      exact sh_ret_i (pc := 38) dX8_floatBits_38 rfl ⟨rfl, rfl⟩ h
    · have h := h.2 hc10
      refine sh_fload_n (pc := 16) dX8_floatBits_16 rfl ?_
      refine sh_fconst2 (pc := 17) dX8_floatBits_17 ?_
      obtain ⟨hf15, h⟩ := h
      refine sh_fmul (pc := 18) dX8_floatBits_18 hf15 ?_
      refine sh_topF (fun f16 hf16 => ?_)
      have h := h f16 hf16
      refine sh_fstore_n (ls' := [(1, sh_F f16), (0, sh_F a1), (2, sh_I v3)]) (pc := 19) dX8_floatBits_19 (by decide) rfl ?_
      obtain ⟨x17, hx17⟩ : ∃ y : Int32, y = v3 + (-1) := ⟨_, rfl⟩
      have h := h x17 hx17
      refine sh_iinc (v := x17) (ls' := [(2, sh_I x17), (1, sh_F f16), (0, sh_F a1)]) (pc := 20) dX8_floatBits_20 rfl hx17.symm (by decide) rfl ?_
      refine sh_goto (tgt := 5) (pc := 23) dX8_floatBits_23 (by decide) ?_
      refine sh_pick [2, 1, 0] rfl ?_
      exact ih1 _ _ h.1 h.2

set_option maxRecDepth 100000 in
set_option maxHeartbeats 4000000 in
theorem wp_X6_bitsOfTool {g : sh_G} {S : sh_S} {sz : Nat} {Q : Int32 → sh_S → Prop} {k : Nat} (hk : sh_ok (6, k, 0)) {a1 : Int32} 
    (h : (sh_Ci g mX6_hasTool [sh_R (6, k, 0), sh_I a1] S sz (fun r2 S1 => ((r2 = 0 → Q (-1000001) S1) ∧ (¬ r2 = 0 → (vp_in a1 20 ∧ (sh_Ci g mX8_floatBits [sh_F ((S1 (7, k, (a1.toNatClampNeg)) 3).toUInt32)] S1 sz (fun r6 S5 => Q r6 S5)))))))) :
    sh_Ci g mX6_bitsOfTool [sh_R (6, k, 0), sh_I a1] S sz Q := by
  refine sh_enter (ls := [(0, sh_R (6, k, 0)), (1, sh_I a1)]) (by decide +kernel) (Nat.le_of_ble_eq_true rfl) rfl ?_
  refine sh_aload_n (pc := 0) dX6_bitsOfTool_0 rfl ?_
  refine sh_iload_n (pc := 1) dX6_bitsOfTool_1 rfl ?_
  refine sh_ci (N := mX6_hasTool) (pc := 2) dX6_bitsOfTool_2 ml_X6_88 h mf_X6_hasTool iv_X6_hasTool ⟨Nat.le_of_ble_eq_true rfl, Nat.le_of_ble_eq_true rfl⟩ rfl rfl (Nat.le_of_ble_eq_true rfl) hk rfl (show vwCl[6]? = some (RX6, TX6, 5) from rfl) rfl (fun r2 S1 h => ?_)
  refine sh_if_eq (tgt := 23) (pc := 5) dX6_bitsOfTool_5 (by decide) (fun hc3 => ?_) (fun hc3 => ?_)
  · have h := h.1 hc3
    refine sh_ldc (v := (-1000001)) (pc := 23) dX6_bitsOfTool_23 kc_X6_58 ?_
    exact sh_ret_i (pc := 25) dX6_bitsOfTool_25 rfl ⟨rfl, rfl⟩ h
  · have h := h.2 hc3
    refine sh_aload_n (pc := 8) dX6_bitsOfTool_8 rfl ?_
    refine sh_gf (pc := 9) dX6_bitsOfTool_9 fl_X6_24 cf_6 hk rfl rfl ?_
    refine sh_iload_n (pc := 12) dX6_bitsOfTool_12 rfl ?_
    obtain ⟨hi4, h⟩ := h
    refine sh_aa (o' := (7, k, (a1.toNatClampNeg))) (pc := 13) dX6_bitsOfTool_13 (by decide) hk rfl hi4 rfl ?_
    refine sh_gf (pc := 14) dX6_bitsOfTool_14 fl_X6_174 cf_7 ⟨hk.1, vp_lt hi4⟩ rfl rfl ?_
    refine sh_siN (N := mX8_floatBits) (pc := 17) dX6_bitsOfTool_17 nl_X6_178 h mf_X8_floatBits is_X8_floatBits ⟨Nat.le_of_ble_eq_true rfl, Nat.le_of_ble_eq_true rfl⟩ rfl rfl (Nat.le_of_ble_eq_true rfl) (fun r6 S5 h => ?_)
    refine sh_goto (tgt := 25) (pc := 20) dX6_bitsOfTool_20 (by decide) ?_
    exact sh_ret_i (pc := 25) dX6_bitsOfTool_25 rfl ⟨rfl, rfl⟩ h

set_option maxRecDepth 100000 in
set_option maxHeartbeats 4000000 in
theorem wp_X6_foretellDullness {g : sh_G} {S : sh_S} {sz : Nat} {Q : Int32 → sh_S → Prop} {k : Nat} (hk : sh_ok (6, k, 0)) {a1 : Int32} {a2 : Int32} 
    (h : (sh_Ci g mX6_hasTool [sh_R (6, k, 0), sh_I a1] S sz (fun r2 S1 => ((r2 = 0 → Q (-1000001) S1) ∧ (¬ r2 = 0 → ((a2 < 1 → Q (-1000001) S1) ∧ (¬ a2 < 1 → ((a2 ≤ 200 → (vp_in a1 20 ∧ ((¬ (S1 (7, k, (a1.toNatClampNeg)) 4) = 4 → (vp_in a1 20 ∧ (sh_Cf g mX7_sharpnessBehind [sh_R (7, k, (a1.toNatClampNeg)), sh_I a2] S1 sz (fun f10 S9 => (sh_Ci g mX8_thousandths [sh_F f10] S9 sz (fun r12 S11 => Q r12 S11)))))) ∧ ((S1 (7, k, (a1.toNatClampNeg)) 4) = 4 → Q (-1000002) S1)))) ∧ (¬ a2 ≤ 200 → Q (-1000001) S1))))))))) :
    sh_Ci g mX6_foretellDullness [sh_R (6, k, 0), sh_I a1, sh_I a2] S sz Q := by
  refine sh_enter (ls := [(0, sh_R (6, k, 0)), (1, sh_I a1), (2, sh_I a2)]) (by decide +kernel) (Nat.le_of_ble_eq_true rfl) rfl ?_
  refine sh_aload_n (pc := 0) dX6_foretellDullness_0 rfl ?_
  refine sh_iload_n (pc := 1) dX6_foretellDullness_1 rfl ?_
  refine sh_ci (N := mX6_hasTool) (pc := 2) dX6_foretellDullness_2 ml_X6_88 h mf_X6_hasTool iv_X6_hasTool ⟨Nat.le_of_ble_eq_true rfl, Nat.le_of_ble_eq_true rfl⟩ rfl rfl (Nat.le_of_ble_eq_true rfl) hk rfl (show vwCl[6]? = some (RX6, TX6, 5) from rfl) rfl (fun r2 S1 h => ?_)
  refine sh_if_eq (tgt := 20) (pc := 5) dX6_foretellDullness_5 (by decide) (fun hc3 => ?_) (fun hc3 => ?_)
  · have h := h.1 hc3
    refine sh_ldc (v := (-1000001)) (pc := 20) dX6_foretellDullness_20 kc_X6_58 ?_
    exact sh_ret_i (pc := 22) dX6_foretellDullness_22 rfl ⟨rfl, rfl⟩ h
  · have h := h.2 hc3
    refine sh_iload_n (pc := 8) dX6_foretellDullness_8 rfl ?_
    refine sh_iconst (v := 1) (pc := 9) dX6_foretellDullness_9 rfl ?_
    refine sh_icmp_lt (tgt := 20) (pc := 10) dX6_foretellDullness_10 (by decide) (fun hc4 => ?_) (fun hc4 => ?_)
    · have h := h.1 hc4
      refine sh_ldc (v := (-1000001)) (pc := 20) dX6_foretellDullness_20 kc_X6_58 ?_
      exact sh_ret_i (pc := 22) dX6_foretellDullness_22 rfl ⟨rfl, rfl⟩ h
    · have h := h.2 hc4
      refine sh_iload_n (pc := 13) dX6_foretellDullness_13 rfl ?_
      refine sh_sipush (v := 200) (pc := 14) dX6_foretellDullness_14 rfl ?_
      refine sh_icmp_le (tgt := 23) (pc := 17) dX6_foretellDullness_17 (by decide) (fun hc5 => ?_) (fun hc5 => ?_)
      · have h := h.1 hc5
        refine sh_aload_n (pc := 23) dX6_foretellDullness_23 rfl ?_
        refine sh_gf (pc := 24) dX6_foretellDullness_24 fl_X6_24 cf_6 hk rfl rfl ?_
        refine sh_iload_n (pc := 27) dX6_foretellDullness_27 rfl ?_
        obtain ⟨hi6, h⟩ := h
        refine sh_aa (o' := (7, k, (a1.toNatClampNeg))) (pc := 28) dX6_foretellDullness_28 (by decide) hk rfl hi6 rfl ?_
        refine sh_gf (pc := 29) dX6_foretellDullness_29 fl_X6_94 cf_7 ⟨hk.1, vp_lt hi6⟩ rfl rfl ?_
        refine sh_iconst (v := 4) (pc := 32) dX6_foretellDullness_32 rfl ?_
        refine sh_icmp_ne (tgt := 39) (pc := 33) dX6_foretellDullness_33 (by decide) (fun hc7 => ?_) (fun hc7 => ?_)
        · have h := h.1 hc7
          refine sh_aload_n (pc := 39) dX6_foretellDullness_39 rfl ?_
          refine sh_gf (pc := 40) dX6_foretellDullness_40 fl_X6_24 cf_6 hk rfl rfl ?_
          refine sh_iload_n (pc := 43) dX6_foretellDullness_43 rfl ?_
          obtain ⟨hi8, h⟩ := h
          refine sh_aa (o' := (7, k, (a1.toNatClampNeg))) (pc := 44) dX6_foretellDullness_44 (by decide) hk rfl hi8 rfl ?_
          refine sh_iload_n (pc := 45) dX6_foretellDullness_45 rfl ?_
          refine sh_cf (N := mX7_sharpnessBehind) (pc := 46) dX6_foretellDullness_46 ml_X6_182 h mf_X7_sharpnessBehind iv_X7_sharpnessBehind ⟨Nat.le_of_ble_eq_true rfl, Nat.le_of_ble_eq_true rfl⟩ rfl rfl (Nat.le_of_ble_eq_true rfl) ⟨hk.1, vp_lt hi8⟩ rfl (show vwCl[7]? = some (RX7, TX7, 14) from rfl) rfl (fun f10 S9 h => ?_)
          refine sh_siN (N := mX8_thousandths) (pc := 49) dX6_foretellDullness_49 nl_X6_186 h mf_X8_thousandths is_X8_thousandths ⟨Nat.le_of_ble_eq_true rfl, Nat.le_of_ble_eq_true rfl⟩ rfl rfl (Nat.le_of_ble_eq_true rfl) (fun r12 S11 h => ?_)
          exact sh_ret_i (pc := 52) dX6_foretellDullness_52 rfl ⟨rfl, rfl⟩ h
        · have h := h.2 hc7
          refine sh_ldc (v := (-1000002)) (pc := 36) dX6_foretellDullness_36 kc_X6_84 ?_
          exact sh_ret_i (pc := 38) dX6_foretellDullness_38 rfl ⟨rfl, rfl⟩ h
      · have h := h.2 hc5
        refine sh_ldc (v := (-1000001)) (pc := 20) dX6_foretellDullness_20 kc_X6_58 ?_
        exact sh_ret_i (pc := 22) dX6_foretellDullness_22 rfl ⟨rfl, rfl⟩ h

set_option maxRecDepth 100000 in
set_option maxHeartbeats 4000000 in
theorem wp_X6_meanSharpness {g : sh_G} {S : sh_S} {sz : Nat} {Q : Int32 → sh_S → Prop} {k : Nat} (hk : sh_ok (6, k, 0)) {a1 : Int32} 
    (h : ((a1 = 0 → (∀ d2 : UInt64, d2 = FP.dconst0 → (∃ (Iv3 : UInt64 → Int32 → Int32 → sh_S → Prop) (mu3 : UInt64 → Int32 → Int32 → sh_S → Nat), Iv3 d2 0 0 S ∧ ∀ (v4 : UInt64) (v5 : Int32) (v6 : Int32) (S7 : sh_S), Iv3 v4 v5 v6 S7 → (((S7 (6, k, 0) 3) ≤ v6 → ((¬ v5 = 0 → (vf_n64 (FP.ddiv v4 (FP.i2d v5)) ∧ (∀ d11 : UInt64, d11 = (FP.ddiv v4 (FP.i2d v5)) → (vf_n64 (FP.dmul d11 4652007308841189376) ∧ (∀ d13 : UInt64, d13 = (FP.dmul d11 4652007308841189376) → Q (FP.d2i d13) S7))))) ∧ (v5 = 0 → Q (-1000004) S7))) ∧ (¬ (S7 (6, k, 0) 3) ≤ v6 → (sh_Ci g mX6_hasTool [sh_R (6, k, 0), sh_I v6] S7 sz (fun r15 S14 => ((r15 = 0 → (∀ x17 : Int32, x17 = v6 + 1 → (Iv3 v4 v5 x17 S14 ∧ mu3 v4 v5 x17 S14 < mu3 v4 v5 v6 S7))) ∧ (¬ r15 = 0 → (vp_in v6 20 ∧ ((¬ (S14 (7, k, (v6.toNatClampNeg)) 0) = a1 → (∀ x20 : Int32, x20 = v6 + 1 → (Iv3 v4 v5 x20 S14 ∧ mu3 v4 v5 x20 S14 < mu3 v4 v5 v6 S7))) ∧ ((S14 (7, k, (v6.toNatClampNeg)) 0) = a1 → (vp_in v6 20 ∧ ((¬ (S14 (7, k, (v6.toNatClampNeg)) 4) = 0 → (∀ x23 : Int32, x23 = v6 + 1 → (Iv3 v4 v5 x23 S14 ∧ mu3 v4 v5 x23 S14 < mu3 v4 v5 v6 S7))) ∧ ((S14 (7, k, (v6.toNatClampNeg)) 4) = 0 → (vp_in v6 20 ∧ (vf_n64 (FP.f2d ((S14 (7, k, (v6.toNatClampNeg)) 3).toUInt32)) ∧ (vf_n64 (FP.dadd v4 (FP.f2d ((S14 (7, k, (v6.toNatClampNeg)) 3).toUInt32))) ∧ (∀ d27 : UInt64, d27 = (FP.dadd v4 (FP.f2d ((S14 (7, k, (v6.toNatClampNeg)) 3).toUInt32))) → (∀ x28 : Int32, x28 = v5 + 1 → (∀ x29 : Int32, x29 = v6 + 1 → (Iv3 d27 x28 x29 S14 ∧ mu3 d27 x28 x29 S14 < mu3 v4 v5 v6 S7)))))))))))))))))))))) ∧ (¬ a1 = 0 → ((a1 = 1 → (∀ d31 : UInt64, d31 = FP.dconst0 → (∃ (Iv32 : UInt64 → Int32 → Int32 → sh_S → Prop) (mu32 : UInt64 → Int32 → Int32 → sh_S → Nat), Iv32 d31 0 0 S ∧ ∀ (v33 : UInt64) (v34 : Int32) (v35 : Int32) (S36 : sh_S), Iv32 v33 v34 v35 S36 → (((S36 (6, k, 0) 3) ≤ v35 → ((¬ v34 = 0 → (vf_n64 (FP.ddiv v33 (FP.i2d v34)) ∧ (∀ d40 : UInt64, d40 = (FP.ddiv v33 (FP.i2d v34)) → (vf_n64 (FP.dmul d40 4652007308841189376) ∧ (∀ d42 : UInt64, d42 = (FP.dmul d40 4652007308841189376) → Q (FP.d2i d42) S36))))) ∧ (v34 = 0 → Q (-1000004) S36))) ∧ (¬ (S36 (6, k, 0) 3) ≤ v35 → (sh_Ci g mX6_hasTool [sh_R (6, k, 0), sh_I v35] S36 sz (fun r44 S43 => ((r44 = 0 → (∀ x46 : Int32, x46 = v35 + 1 → (Iv32 v33 v34 x46 S43 ∧ mu32 v33 v34 x46 S43 < mu32 v33 v34 v35 S36))) ∧ (¬ r44 = 0 → (vp_in v35 20 ∧ ((¬ (S43 (7, k, (v35.toNatClampNeg)) 0) = a1 → (∀ x49 : Int32, x49 = v35 + 1 → (Iv32 v33 v34 x49 S43 ∧ mu32 v33 v34 x49 S43 < mu32 v33 v34 v35 S36))) ∧ ((S43 (7, k, (v35.toNatClampNeg)) 0) = a1 → (vp_in v35 20 ∧ ((¬ (S43 (7, k, (v35.toNatClampNeg)) 4) = 0 → (∀ x52 : Int32, x52 = v35 + 1 → (Iv32 v33 v34 x52 S43 ∧ mu32 v33 v34 x52 S43 < mu32 v33 v34 v35 S36))) ∧ ((S43 (7, k, (v35.toNatClampNeg)) 4) = 0 → (vp_in v35 20 ∧ (vf_n64 (FP.f2d ((S43 (7, k, (v35.toNatClampNeg)) 3).toUInt32)) ∧ (vf_n64 (FP.dadd v33 (FP.f2d ((S43 (7, k, (v35.toNatClampNeg)) 3).toUInt32))) ∧ (∀ d56 : UInt64, d56 = (FP.dadd v33 (FP.f2d ((S43 (7, k, (v35.toNatClampNeg)) 3).toUInt32))) → (∀ x57 : Int32, x57 = v34 + 1 → (∀ x58 : Int32, x58 = v35 + 1 → (Iv32 d56 x57 x58 S43 ∧ mu32 d56 x57 x58 S43 < mu32 v33 v34 v35 S36)))))))))))))))))))))) ∧ (¬ a1 = 1 → Q (-1000001) S))))) :
    sh_Ci g mX6_meanSharpness [sh_R (6, k, 0), sh_I a1] S sz Q := by
  refine sh_enter (ls := [(0, sh_R (6, k, 0)), (1, sh_I a1)]) (by decide +kernel) (Nat.le_of_ble_eq_true rfl) rfl ?_
  refine sh_iload_n (pc := 0) dX6_meanSharpness_0 rfl ?_
  refine sh_if_eq (tgt := 12) (pc := 1) dX6_meanSharpness_1 (by decide) (fun hc1 => ?_) (fun hc1 => ?_)
  · have h := h.1 hc1
    refine sh_dconst0 (pc := 12) dX6_meanSharpness_12 ?_
    refine sh_topD (fun d2 hd2 => ?_)
    have h := h d2 hd2
    refine sh_dstore_n (ls' := [(2, sh_Dv d2), (0, sh_R (6, k, 0)), (1, sh_I a1)]) (pc := 13) dX6_meanSharpness_13 (by decide) rfl ?_
    refine sh_iconst (v := 0) (pc := 14) dX6_meanSharpness_14 rfl ?_
    refine sh_istore (ls' := [(4, sh_I 0), (2, sh_Dv d2), (0, sh_R (6, k, 0)), (1, sh_I a1)]) (pc := 15) dX6_meanSharpness_15 (by decide) rfl ?_
    refine sh_iconst (v := 0) (pc := 17) dX6_meanSharpness_17 rfl ?_
    refine sh_istore (ls' := [(5, sh_I 0), (4, sh_I 0), (2, sh_Dv d2), (0, sh_R (6, k, 0)), (1, sh_I a1)]) (pc := 18) dX6_meanSharpness_18 (by decide) rfl ?_
    obtain ⟨Iv3, mu3, h0, hs3⟩ := h
    refine sh_pick [3, 4, 2, 1, 0] rfl ?_
    refine sh_lp4 Iv3 mu3 (fun v4 v5 v6 S7 => sh_V g mX6_meanSharpness 0 0 20 [(0, sh_R (6, k, 0)), (1, sh_I a1), (2, sh_Dv v4), (4, sh_I v5), (5, sh_I v6)] [] (sh_St S7) sz (sh_ti sz Q)) (fun v4 v5 v6 S7 hI3 ih3 => ?_) _ _ _ _ h0
    have h := hs3 v4 v5 v6 S7 hI3
    clear h0
    refine sh_iload (pc := 20) dX6_meanSharpness_20 rfl ?_
    refine sh_aload_n (pc := 22) dX6_meanSharpness_22 rfl ?_
    refine sh_gf (pc := 23) dX6_meanSharpness_23 fl_X6_45 cf_6 hk rfl rfl ?_
    refine sh_icmp_ge (tgt := 88) (pc := 26) dX6_meanSharpness_26 (by decide) (fun hc8 => ?_) (fun hc8 => ?_)
    · have h := h.1 hc8
      refine sh_iload (pc := 88) dX6_meanSharpness_88 rfl ?_
      refine sh_if_ne (tgt := 98) (pc := 90) dX6_meanSharpness_90 (by decide) (fun hc9 => ?_) (fun hc9 => ?_)
      · have h := h.1 hc9
        refine sh_dload_n (pc := 98) dX6_meanSharpness_98 rfl ?_
        refine sh_iload (pc := 99) dX6_meanSharpness_99 rfl ?_
        refine sh_i2d (pc := 101) dX6_meanSharpness_101 ?_
        obtain ⟨hf10, h⟩ := h
        refine sh_ddiv (pc := 102) dX6_meanSharpness_102 hf10 ?_
        refine sh_topD (fun d11 hd11 => ?_)
        have h := h d11 hd11
        refine sh_ldc2d (v := 4652007308841189376) (pc := 103) dX6_meanSharpness_103 kc_X6_189 ?_
        obtain ⟨hf12, h⟩ := h
        refine sh_dmul (pc := 106) dX6_meanSharpness_106 hf12 ?_
        refine sh_topD (fun d13 hd13 => ?_)
        have h := h d13 hd13
        refine sh_d2i (pc := 107) dX6_meanSharpness_107 ?_
        exact sh_ret_i (pc := 108) dX6_meanSharpness_108 rfl ⟨rfl, rfl⟩ h
      · have h := h.2 hc9
        refine sh_ldc (v := (-1000004)) (pc := 93) dX6_meanSharpness_93 kc_X6_144 ?_
        refine sh_goto (tgt := 108) (pc := 95) dX6_meanSharpness_95 (by decide) ?_
        exact sh_ret_i (pc := 108) dX6_meanSharpness_108 rfl ⟨rfl, rfl⟩ h
    · have h := h.2 hc8
      refine sh_aload_n (pc := 29) dX6_meanSharpness_29 rfl ?_
      refine sh_iload (pc := 30) dX6_meanSharpness_30 rfl ?_
      refine sh_ci (N := mX6_hasTool) (pc := 32) dX6_meanSharpness_32 ml_X6_88 h mf_X6_hasTool iv_X6_hasTool ⟨Nat.le_of_ble_eq_true rfl, Nat.le_of_ble_eq_true rfl⟩ rfl rfl (Nat.le_of_ble_eq_true rfl) hk rfl (show vwCl[6]? = some (RX6, TX6, 5) from rfl) rfl (fun r15 S14 h => ?_)
      refine sh_if_eq (tgt := 82) (pc := 35) dX6_meanSharpness_35 (by decide) (fun hc16 => ?_) (fun hc16 => ?_)
      · have h := h.1 hc16
        obtain ⟨x17, hx17⟩ : ∃ y : Int32, y = v6 + 1 := ⟨_, rfl⟩
        have h := h x17 hx17
        refine sh_iinc (v := x17) (ls' := [(5, sh_I x17), (0, sh_R (6, k, 0)), (1, sh_I a1), (2, sh_Dv v4), (4, sh_I v5)]) (pc := 82) dX6_meanSharpness_82 rfl hx17.symm (by decide) rfl ?_
        refine sh_goto (tgt := 20) (pc := 85) dX6_meanSharpness_85 (by decide) ?_
        refine sh_pick [1, 2, 3, 4, 0] rfl ?_
        exact ih3 _ _ _ _ h.1 h.2
      · have h := h.2 hc16
        refine sh_aload_n (pc := 38) dX6_meanSharpness_38 rfl ?_
        refine sh_gf (pc := 39) dX6_meanSharpness_39 fl_X6_24 cf_6 hk rfl rfl ?_
        refine sh_iload (pc := 42) dX6_meanSharpness_42 rfl ?_
        obtain ⟨hi18, h⟩ := h
        refine sh_aa (o' := (7, k, (v6.toNatClampNeg))) (pc := 44) dX6_meanSharpness_44 (by decide) hk rfl hi18 rfl ?_
        refine sh_gf (pc := 45) dX6_meanSharpness_45 fl_X6_125 cf_7 ⟨hk.1, vp_lt hi18⟩ rfl rfl ?_
        refine sh_iload_n (pc := 48) dX6_meanSharpness_48 rfl ?_
        refine sh_icmp_ne (tgt := 82) (pc := 49) dX6_meanSharpness_49 (by decide) (fun hc19 => ?_) (fun hc19 => ?_)
        · have h := h.1 hc19
          obtain ⟨x20, hx20⟩ : ∃ y : Int32, y = v6 + 1 := ⟨_, rfl⟩
          have h := h x20 hx20
          refine sh_iinc (v := x20) (ls' := [(5, sh_I x20), (0, sh_R (6, k, 0)), (1, sh_I a1), (2, sh_Dv v4), (4, sh_I v5)]) (pc := 82) dX6_meanSharpness_82 rfl hx20.symm (by decide) rfl ?_
          refine sh_goto (tgt := 20) (pc := 85) dX6_meanSharpness_85 (by decide) ?_
          refine sh_pick [1, 2, 3, 4, 0] rfl ?_
          exact ih3 _ _ _ _ h.1 h.2
        · have h := h.2 hc19
          refine sh_aload_n (pc := 52) dX6_meanSharpness_52 rfl ?_
          refine sh_gf (pc := 53) dX6_meanSharpness_53 fl_X6_24 cf_6 hk rfl rfl ?_
          refine sh_iload (pc := 56) dX6_meanSharpness_56 rfl ?_
          obtain ⟨hi21, h⟩ := h
          refine sh_aa (o' := (7, k, (v6.toNatClampNeg))) (pc := 58) dX6_meanSharpness_58 (by decide) hk rfl hi21 rfl ?_
          refine sh_gf (pc := 59) dX6_meanSharpness_59 fl_X6_94 cf_7 ⟨hk.1, vp_lt hi21⟩ rfl rfl ?_
          refine sh_if_ne (tgt := 82) (pc := 62) dX6_meanSharpness_62 (by decide) (fun hc22 => ?_) (fun hc22 => ?_)
          · have h := h.1 hc22
            obtain ⟨x23, hx23⟩ : ∃ y : Int32, y = v6 + 1 := ⟨_, rfl⟩
            have h := h x23 hx23
            refine sh_iinc (v := x23) (ls' := [(5, sh_I x23), (0, sh_R (6, k, 0)), (1, sh_I a1), (2, sh_Dv v4), (4, sh_I v5)]) (pc := 82) dX6_meanSharpness_82 rfl hx23.symm (by decide) rfl ?_
            refine sh_goto (tgt := 20) (pc := 85) dX6_meanSharpness_85 (by decide) ?_
            refine sh_pick [1, 2, 3, 4, 0] rfl ?_
            exact ih3 _ _ _ _ h.1 h.2
          · have h := h.2 hc22
            refine sh_dload_n (pc := 65) dX6_meanSharpness_65 rfl ?_
            refine sh_aload_n (pc := 66) dX6_meanSharpness_66 rfl ?_
            refine sh_gf (pc := 67) dX6_meanSharpness_67 fl_X6_24 cf_6 hk rfl rfl ?_
            refine sh_iload (pc := 70) dX6_meanSharpness_70 rfl ?_
            obtain ⟨hi24, h⟩ := h
            refine sh_aa (o' := (7, k, (v6.toNatClampNeg))) (pc := 72) dX6_meanSharpness_72 (by decide) hk rfl hi24 rfl ?_
            refine sh_gf (pc := 73) dX6_meanSharpness_73 fl_X6_174 cf_7 ⟨hk.1, vp_lt hi24⟩ rfl rfl ?_
            obtain ⟨hf25, h⟩ := h
            refine sh_f2d (pc := 76) dX6_meanSharpness_76 hf25 ?_
            obtain ⟨hf26, h⟩ := h
            refine sh_dadd (pc := 77) dX6_meanSharpness_77 hf26 ?_
            refine sh_topD (fun d27 hd27 => ?_)
            have h := h d27 hd27
            refine sh_dstore_n (ls' := [(2, sh_Dv d27), (0, sh_R (6, k, 0)), (1, sh_I a1), (4, sh_I v5), (5, sh_I v6)]) (pc := 78) dX6_meanSharpness_78 (by decide) rfl ?_
            obtain ⟨x28, hx28⟩ : ∃ y : Int32, y = v5 + 1 := ⟨_, rfl⟩
            have h := h x28 hx28
            refine sh_iinc (v := x28) (ls' := [(4, sh_I x28), (2, sh_Dv d27), (0, sh_R (6, k, 0)), (1, sh_I a1), (5, sh_I v6)]) (pc := 79) dX6_meanSharpness_79 rfl hx28.symm (by decide) rfl ?_
            obtain ⟨x29, hx29⟩ : ∃ y : Int32, y = v6 + 1 := ⟨_, rfl⟩
            have h := h x29 hx29
            refine sh_iinc (v := x29) (ls' := [(5, sh_I x29), (4, sh_I x28), (2, sh_Dv d27), (0, sh_R (6, k, 0)), (1, sh_I a1)]) (pc := 82) dX6_meanSharpness_82 rfl hx29.symm (by decide) rfl ?_
            refine sh_goto (tgt := 20) (pc := 85) dX6_meanSharpness_85 (by decide) ?_
            refine sh_pick [3, 4, 2, 1, 0] rfl ?_
            exact ih3 _ _ _ _ h.1 h.2
  · have h := h.2 hc1
    refine sh_iload_n (pc := 4) dX6_meanSharpness_4 rfl ?_
    refine sh_iconst (v := 1) (pc := 5) dX6_meanSharpness_5 rfl ?_
    refine sh_icmp_eq (tgt := 12) (pc := 6) dX6_meanSharpness_6 (by decide) (fun hc30 => ?_) (fun hc30 => ?_)
    · have h := h.1 hc30
      refine sh_dconst0 (pc := 12) dX6_meanSharpness_12 ?_
      refine sh_topD (fun d31 hd31 => ?_)
      have h := h d31 hd31
      refine sh_dstore_n (ls' := [(2, sh_Dv d31), (0, sh_R (6, k, 0)), (1, sh_I a1)]) (pc := 13) dX6_meanSharpness_13 (by decide) rfl ?_
      refine sh_iconst (v := 0) (pc := 14) dX6_meanSharpness_14 rfl ?_
      refine sh_istore (ls' := [(4, sh_I 0), (2, sh_Dv d31), (0, sh_R (6, k, 0)), (1, sh_I a1)]) (pc := 15) dX6_meanSharpness_15 (by decide) rfl ?_
      refine sh_iconst (v := 0) (pc := 17) dX6_meanSharpness_17 rfl ?_
      refine sh_istore (ls' := [(5, sh_I 0), (4, sh_I 0), (2, sh_Dv d31), (0, sh_R (6, k, 0)), (1, sh_I a1)]) (pc := 18) dX6_meanSharpness_18 (by decide) rfl ?_
      obtain ⟨Iv32, mu32, h0, hs32⟩ := h
      refine sh_pick [3, 4, 2, 1, 0] rfl ?_
      refine sh_lp4 Iv32 mu32 (fun v33 v34 v35 S36 => sh_V g mX6_meanSharpness 0 0 20 [(0, sh_R (6, k, 0)), (1, sh_I a1), (2, sh_Dv v33), (4, sh_I v34), (5, sh_I v35)] [] (sh_St S36) sz (sh_ti sz Q)) (fun v33 v34 v35 S36 hI32 ih32 => ?_) _ _ _ _ h0
      have h := hs32 v33 v34 v35 S36 hI32
      clear h0
      refine sh_iload (pc := 20) dX6_meanSharpness_20 rfl ?_
      refine sh_aload_n (pc := 22) dX6_meanSharpness_22 rfl ?_
      refine sh_gf (pc := 23) dX6_meanSharpness_23 fl_X6_45 cf_6 hk rfl rfl ?_
      refine sh_icmp_ge (tgt := 88) (pc := 26) dX6_meanSharpness_26 (by decide) (fun hc37 => ?_) (fun hc37 => ?_)
      · have h := h.1 hc37
        refine sh_iload (pc := 88) dX6_meanSharpness_88 rfl ?_
        refine sh_if_ne (tgt := 98) (pc := 90) dX6_meanSharpness_90 (by decide) (fun hc38 => ?_) (fun hc38 => ?_)
        · have h := h.1 hc38
          refine sh_dload_n (pc := 98) dX6_meanSharpness_98 rfl ?_
          refine sh_iload (pc := 99) dX6_meanSharpness_99 rfl ?_
          refine sh_i2d (pc := 101) dX6_meanSharpness_101 ?_
          obtain ⟨hf39, h⟩ := h
          refine sh_ddiv (pc := 102) dX6_meanSharpness_102 hf39 ?_
          refine sh_topD (fun d40 hd40 => ?_)
          have h := h d40 hd40
          refine sh_ldc2d (v := 4652007308841189376) (pc := 103) dX6_meanSharpness_103 kc_X6_189 ?_
          obtain ⟨hf41, h⟩ := h
          refine sh_dmul (pc := 106) dX6_meanSharpness_106 hf41 ?_
          refine sh_topD (fun d42 hd42 => ?_)
          have h := h d42 hd42
          refine sh_d2i (pc := 107) dX6_meanSharpness_107 ?_
          exact sh_ret_i (pc := 108) dX6_meanSharpness_108 rfl ⟨rfl, rfl⟩ h
        · have h := h.2 hc38
          refine sh_ldc (v := (-1000004)) (pc := 93) dX6_meanSharpness_93 kc_X6_144 ?_
          refine sh_goto (tgt := 108) (pc := 95) dX6_meanSharpness_95 (by decide) ?_
          exact sh_ret_i (pc := 108) dX6_meanSharpness_108 rfl ⟨rfl, rfl⟩ h
      · have h := h.2 hc37
        refine sh_aload_n (pc := 29) dX6_meanSharpness_29 rfl ?_
        refine sh_iload (pc := 30) dX6_meanSharpness_30 rfl ?_
        refine sh_ci (N := mX6_hasTool) (pc := 32) dX6_meanSharpness_32 ml_X6_88 h mf_X6_hasTool iv_X6_hasTool ⟨Nat.le_of_ble_eq_true rfl, Nat.le_of_ble_eq_true rfl⟩ rfl rfl (Nat.le_of_ble_eq_true rfl) hk rfl (show vwCl[6]? = some (RX6, TX6, 5) from rfl) rfl (fun r44 S43 h => ?_)
        refine sh_if_eq (tgt := 82) (pc := 35) dX6_meanSharpness_35 (by decide) (fun hc45 => ?_) (fun hc45 => ?_)
        · have h := h.1 hc45
          obtain ⟨x46, hx46⟩ : ∃ y : Int32, y = v35 + 1 := ⟨_, rfl⟩
          have h := h x46 hx46
          refine sh_iinc (v := x46) (ls' := [(5, sh_I x46), (0, sh_R (6, k, 0)), (1, sh_I a1), (2, sh_Dv v33), (4, sh_I v34)]) (pc := 82) dX6_meanSharpness_82 rfl hx46.symm (by decide) rfl ?_
          refine sh_goto (tgt := 20) (pc := 85) dX6_meanSharpness_85 (by decide) ?_
          refine sh_pick [1, 2, 3, 4, 0] rfl ?_
          exact ih32 _ _ _ _ h.1 h.2
        · have h := h.2 hc45
          refine sh_aload_n (pc := 38) dX6_meanSharpness_38 rfl ?_
          refine sh_gf (pc := 39) dX6_meanSharpness_39 fl_X6_24 cf_6 hk rfl rfl ?_
          refine sh_iload (pc := 42) dX6_meanSharpness_42 rfl ?_
          obtain ⟨hi47, h⟩ := h
          refine sh_aa (o' := (7, k, (v35.toNatClampNeg))) (pc := 44) dX6_meanSharpness_44 (by decide) hk rfl hi47 rfl ?_
          refine sh_gf (pc := 45) dX6_meanSharpness_45 fl_X6_125 cf_7 ⟨hk.1, vp_lt hi47⟩ rfl rfl ?_
          refine sh_iload_n (pc := 48) dX6_meanSharpness_48 rfl ?_
          refine sh_icmp_ne (tgt := 82) (pc := 49) dX6_meanSharpness_49 (by decide) (fun hc48 => ?_) (fun hc48 => ?_)
          · have h := h.1 hc48
            obtain ⟨x49, hx49⟩ : ∃ y : Int32, y = v35 + 1 := ⟨_, rfl⟩
            have h := h x49 hx49
            refine sh_iinc (v := x49) (ls' := [(5, sh_I x49), (0, sh_R (6, k, 0)), (1, sh_I a1), (2, sh_Dv v33), (4, sh_I v34)]) (pc := 82) dX6_meanSharpness_82 rfl hx49.symm (by decide) rfl ?_
            refine sh_goto (tgt := 20) (pc := 85) dX6_meanSharpness_85 (by decide) ?_
            refine sh_pick [1, 2, 3, 4, 0] rfl ?_
            exact ih32 _ _ _ _ h.1 h.2
          · have h := h.2 hc48
            refine sh_aload_n (pc := 52) dX6_meanSharpness_52 rfl ?_
            refine sh_gf (pc := 53) dX6_meanSharpness_53 fl_X6_24 cf_6 hk rfl rfl ?_
            refine sh_iload (pc := 56) dX6_meanSharpness_56 rfl ?_
            obtain ⟨hi50, h⟩ := h
            refine sh_aa (o' := (7, k, (v35.toNatClampNeg))) (pc := 58) dX6_meanSharpness_58 (by decide) hk rfl hi50 rfl ?_
            refine sh_gf (pc := 59) dX6_meanSharpness_59 fl_X6_94 cf_7 ⟨hk.1, vp_lt hi50⟩ rfl rfl ?_
            refine sh_if_ne (tgt := 82) (pc := 62) dX6_meanSharpness_62 (by decide) (fun hc51 => ?_) (fun hc51 => ?_)
            · have h := h.1 hc51
              obtain ⟨x52, hx52⟩ : ∃ y : Int32, y = v35 + 1 := ⟨_, rfl⟩
              have h := h x52 hx52
              refine sh_iinc (v := x52) (ls' := [(5, sh_I x52), (0, sh_R (6, k, 0)), (1, sh_I a1), (2, sh_Dv v33), (4, sh_I v34)]) (pc := 82) dX6_meanSharpness_82 rfl hx52.symm (by decide) rfl ?_
              refine sh_goto (tgt := 20) (pc := 85) dX6_meanSharpness_85 (by decide) ?_
              refine sh_pick [1, 2, 3, 4, 0] rfl ?_
              exact ih32 _ _ _ _ h.1 h.2
            · have h := h.2 hc51
              refine sh_dload_n (pc := 65) dX6_meanSharpness_65 rfl ?_
              refine sh_aload_n (pc := 66) dX6_meanSharpness_66 rfl ?_
              refine sh_gf (pc := 67) dX6_meanSharpness_67 fl_X6_24 cf_6 hk rfl rfl ?_
              refine sh_iload (pc := 70) dX6_meanSharpness_70 rfl ?_
              obtain ⟨hi53, h⟩ := h
              refine sh_aa (o' := (7, k, (v35.toNatClampNeg))) (pc := 72) dX6_meanSharpness_72 (by decide) hk rfl hi53 rfl ?_
              refine sh_gf (pc := 73) dX6_meanSharpness_73 fl_X6_174 cf_7 ⟨hk.1, vp_lt hi53⟩ rfl rfl ?_
              obtain ⟨hf54, h⟩ := h
              refine sh_f2d (pc := 76) dX6_meanSharpness_76 hf54 ?_
              obtain ⟨hf55, h⟩ := h
              refine sh_dadd (pc := 77) dX6_meanSharpness_77 hf55 ?_
              refine sh_topD (fun d56 hd56 => ?_)
              have h := h d56 hd56
              refine sh_dstore_n (ls' := [(2, sh_Dv d56), (0, sh_R (6, k, 0)), (1, sh_I a1), (4, sh_I v34), (5, sh_I v35)]) (pc := 78) dX6_meanSharpness_78 (by decide) rfl ?_
              obtain ⟨x57, hx57⟩ : ∃ y : Int32, y = v34 + 1 := ⟨_, rfl⟩
              have h := h x57 hx57
              refine sh_iinc (v := x57) (ls' := [(4, sh_I x57), (2, sh_Dv d56), (0, sh_R (6, k, 0)), (1, sh_I a1), (5, sh_I v35)]) (pc := 79) dX6_meanSharpness_79 rfl hx57.symm (by decide) rfl ?_
              obtain ⟨x58, hx58⟩ : ∃ y : Int32, y = v35 + 1 := ⟨_, rfl⟩
              have h := h x58 hx58
              refine sh_iinc (v := x58) (ls' := [(5, sh_I x58), (4, sh_I x57), (2, sh_Dv d56), (0, sh_R (6, k, 0)), (1, sh_I a1)]) (pc := 82) dX6_meanSharpness_82 rfl hx58.symm (by decide) rfl ?_
              refine sh_goto (tgt := 20) (pc := 85) dX6_meanSharpness_85 (by decide) ?_
              refine sh_pick [3, 4, 2, 1, 0] rfl ?_
              exact ih32 _ _ _ _ h.1 h.2
    · have h := h.2 hc30
      refine sh_ldc (v := (-1000001)) (pc := 9) dX6_meanSharpness_9 kc_X6_58 ?_
      exact sh_ret_i (pc := 11) dX6_meanSharpness_11 rfl ⟨rfl, rfl⟩ h

set_option maxRecDepth 100000 in
set_option maxHeartbeats 4000000 in
theorem wp_X6_loseTool {g : sh_G} {S : sh_S} {sz : Nat} {Q : Int32 → sh_S → Prop} {k : Nat} (hk : sh_ok (6, k, 0)) {a1 : Int32} 
    (h : (sh_Ci g mX6_hasTool [sh_R (6, k, 0), sh_I a1] S sz (fun r2 S1 => ((¬ r2 = 0 → (vp_in a1 20 ∧ ((¬ (S1 (7, k, (a1.toNatClampNeg)) 4) = 1 → Q (-1000002) S1) ∧ ((S1 (7, k, (a1.toNatClampNeg)) 4) = 1 → (sh_Ci g mX2_callPanel [sh_R (2, k, 0), sh_I (S1 (7, k, (a1.toNatClampNeg)) 5), sh_R (4, k, (a1.toNatClampNeg))] S1 sz (fun r7 S6 => ((¬ r7 = 0 → (∀ S9 : sh_S, S9 = sh_sr S6 (7, k, (a1.toNatClampNeg)) (upd (S6 (7, k, (a1.toNatClampNeg))) 4 2) → Q (S9 (13, k, (a1.toNatClampNeg)) 0) S9)) ∧ (r7 = 0 → Q (-1000002) S6)))))))) ∧ (r2 = 0 → Q (-1000001) S1))))) :
    sh_Ci g mX6_loseTool [sh_R (6, k, 0), sh_I a1] S sz Q := by
  refine sh_enter (ls := [(0, sh_R (6, k, 0)), (1, sh_I a1)]) (by decide +kernel) (Nat.le_of_ble_eq_true rfl) rfl ?_
  refine sh_aload_n (pc := 0) dX6_loseTool_0 rfl ?_
  refine sh_iload_n (pc := 1) dX6_loseTool_1 rfl ?_
  refine sh_ci (N := mX6_hasTool) (pc := 2) dX6_loseTool_2 ml_X6_88 h mf_X6_hasTool iv_X6_hasTool ⟨Nat.le_of_ble_eq_true rfl, Nat.le_of_ble_eq_true rfl⟩ rfl rfl (Nat.le_of_ble_eq_true rfl) hk rfl (show vwCl[6]? = some (RX6, TX6, 5) from rfl) rfl (fun r2 S1 h => ?_)
  refine sh_if_ne (tgt := 11) (pc := 5) dX6_loseTool_5 (by decide) (fun hc3 => ?_) (fun hc3 => ?_)
  · have h := h.1 hc3
    refine sh_aload_n (pc := 11) dX6_loseTool_11 rfl ?_
    refine sh_gf (pc := 12) dX6_loseTool_12 fl_X6_24 cf_6 hk rfl rfl ?_
    refine sh_iload_n (pc := 15) dX6_loseTool_15 rfl ?_
    obtain ⟨hi4, h⟩ := h
    refine sh_aa (o' := (7, k, (a1.toNatClampNeg))) (pc := 16) dX6_loseTool_16 (by decide) hk rfl hi4 rfl ?_
    refine sh_astore_n (ls' := [(2, sh_R (7, k, (a1.toNatClampNeg))), (0, sh_R (6, k, 0)), (1, sh_I a1)]) (pc := 17) dX6_loseTool_17 (by decide) rfl ?_
    refine sh_aload_n (pc := 18) dX6_loseTool_18 rfl ?_
    refine sh_gf (pc := 19) dX6_loseTool_19 fl_X6_94 cf_7 ⟨hk.1, vp_lt hi4⟩ rfl rfl ?_
    refine sh_iconst (v := 1) (pc := 22) dX6_loseTool_22 rfl ?_
    refine sh_icmp_ne (tgt := 44) (pc := 23) dX6_loseTool_23 (by decide) (fun hc5 => ?_) (fun hc5 => ?_)
    · have h := h.1 hc5
      refine sh_ldc (v := (-1000002)) (pc := 44) dX6_loseTool_44 kc_X6_84 ?_
      exact sh_ret_i (pc := 46) dX6_loseTool_46 rfl ⟨rfl, rfl⟩ h
    · have h := h.2 hc5
      refine sh_aload_n (pc := 26) dX6_loseTool_26 rfl ?_
      refine sh_gf (pc := 27) dX6_loseTool_27 fl_X6_18 cf_6 hk rfl rfl ?_
      refine sh_aload_n (pc := 30) dX6_loseTool_30 rfl ?_
      refine sh_gf (pc := 31) dX6_loseTool_31 fl_X6_155 cf_7 ⟨hk.1, vp_lt hi4⟩ rfl rfl ?_
      refine sh_aload_n (pc := 34) dX6_loseTool_34 rfl ?_
      refine sh_gf (pc := 35) dX6_loseTool_35 fl_X6_97 cf_7 ⟨hk.1, vp_lt hi4⟩ rfl rfl ?_
      refine sh_ci (N := mX2_callPanel) (pc := 38) dX6_loseTool_38 ml_X6_212 h mf_X2_callPanel iv_X2_callPanel ⟨Nat.le_of_ble_eq_true rfl, Nat.le_of_ble_eq_true rfl⟩ rfl rfl (Nat.le_of_ble_eq_true rfl) hk rfl (show vwCl[2]? = some (RX2, TX2, 5) from rfl) rfl (fun r7 S6 h => ?_)
      refine sh_if_ne (tgt := 47) (pc := 41) dX6_loseTool_41 (by decide) (fun hc8 => ?_) (fun hc8 => ?_)
      · have h := h.1 hc8
        refine sh_aload_n (pc := 47) dX6_loseTool_47 rfl ?_
        refine sh_iconst (v := 2) (pc := 48) dX6_loseTool_48 rfl ?_
        refine sh_pfi (pc := 49) dX6_loseTool_49 fl_X6_94 cf_7 ft_7_4 ⟨hk.1, vp_lt hi4⟩ rfl (Nat.le_of_ble_eq_true rfl) rfl ?_
        refine sh_topS (fun S9 hS9 => ?_)
        have h := h S9 hS9
        refine sh_aload_n (pc := 52) dX6_loseTool_52 rfl ?_
        refine sh_gf (pc := 53) dX6_loseTool_53 fl_X6_97 cf_7 ⟨hk.1, vp_lt hi4⟩ rfl rfl ?_
        refine sh_gf (pc := 56) dX6_loseTool_56 fl_X6_216 cf_4 ⟨hk.1, vp_lt hi4⟩ rfl rfl ?_
        refine sh_iconst (v := 0) (pc := 59) dX6_loseTool_59 rfl ?_
        refine sh_ia (pc := 60) dX6_loseTool_60 ⟨hk.1, vp_lt hi4⟩ rfl (vp_in_iff.mpr ⟨by decide, by decide⟩) ?_
        exact sh_ret_i (pc := 61) dX6_loseTool_61 rfl ⟨rfl, rfl⟩ h
      · have h := h.2 hc8
        refine sh_ldc (v := (-1000002)) (pc := 44) dX6_loseTool_44 kc_X6_84 ?_
        exact sh_ret_i (pc := 46) dX6_loseTool_46 rfl ⟨rfl, rfl⟩ h
  · have h := h.2 hc3
    refine sh_ldc (v := (-1000001)) (pc := 8) dX6_loseTool_8 kc_X6_58 ?_
    exact sh_ret_i (pc := 10) dX6_loseTool_10 rfl ⟨rfl, rfl⟩ h

set_option maxRecDepth 100000 in
set_option maxHeartbeats 4000000 in
theorem wp_X7_vanish {g : sh_G} {S : sh_S} {sz : Nat} {Q : sh_S → Prop} {k i : Nat} (hk : sh_ok (7, k, i)) 
    (h : (∀ S1 : sh_S, S1 = sh_sr S (7, k, i) (upd (S (7, k, i)) 4 4) → (∀ S2 : sh_S, S2 = sh_sr S1 (5, k, i) (upd (S1 (5, k, i)) 0 0) → Q S2))) :
    sh_Cu g mX7_vanish [sh_R (7, k, i)] S sz Q := by
  refine sh_enter (ls := [(0, sh_R (7, k, i))]) (by decide +kernel) (Nat.le_of_ble_eq_true rfl) rfl ?_
  refine sh_aload_n (pc := 0) dX7_vanish_0 rfl ?_
  refine sh_iconst (v := 4) (pc := 1) dX7_vanish_1 rfl ?_
  refine sh_pfi (pc := 2) dX7_vanish_2 fl_X7_39 cf_7 ft_7_4 hk rfl (Nat.le_of_ble_eq_true rfl) rfl ?_
  refine sh_topS (fun S1 hS1 => ?_)
  have h := h S1 hS1
  refine sh_aload_n (pc := 5) dX7_vanish_5 rfl ?_
  refine sh_gf (pc := 6) dX7_vanish_6 fl_X7_21 cf_7 hk rfl rfl ?_
  refine sh_iconst (v := 0) (pc := 9) dX7_vanish_9 rfl ?_
  refine sh_pfz (pc := 10) dX7_vanish_10 fl_X7_70 cf_5 ft_5_0 (by decide) hk rfl (Nat.le_of_ble_eq_true rfl) rfl ?_
  refine sh_topS (fun S2 hS2 => ?_)
  have h := h S2 hS2
  exact sh_ret_u (pc := 13) dX7_vanish_13 rfl ⟨rfl, rfl⟩ h

set_option maxRecDepth 100000 in
set_option maxHeartbeats 4000000 in
theorem wp_X6_settleLoss {g : sh_G} {S : sh_S} {sz : Nat} {Q : sh_S → Prop} {k : Nat} (hk : sh_ok (6, k, 0)) {k1 i1 : Nat} (hk1 : sh_ok (7, k1, i1)) {a2 : Int32} 
    (h : ((¬ a2 = 1 → ((¬ a2 = 2 → (sh_Ci g mX2_has [sh_R (2, k, 0), sh_I (S (7, k1, i1) 5)] S sz (fun r4 S3 => ((r4 = 0 → ((¬ a2 = 1 → (sh_Cu g mX2_share [sh_R (2, k, 0), sh_I 0, sh_I 1, sh_I (S3 (7, k1, i1) 5)] S3 sz (fun S7 => (sh_Cu g mX7_vanish [sh_R (7, k1, i1)] S7 sz (fun S8 => Q S8))))) ∧ (a2 = 1 → (sh_Cu g mX2_share [sh_R (2, k, 0), sh_I 0, sh_I 1, sh_I (-1)] S3 sz (fun S9 => (sh_Cu g mX7_vanish [sh_R (7, k1, i1)] S9 sz (fun S10 => Q S10))))))) ∧ (¬ r4 = 0 → (vp_in (S3 (7, k1, i1) 5) 10 ∧ (sh_Cu g mX1_charge [sh_R (1, k, ((S3 (7, k1, i1) 5).toNatClampNeg)), sh_I 1, sh_I ((S3 (7, k1, i1) 1) - 0)] S3 sz (fun S12 => ((¬ a2 = 1 → (sh_Cu g mX2_share [sh_R (2, k, 0), sh_I 0, sh_I 1, sh_I (S12 (7, k1, i1) 5)] S12 sz (fun S14 => (sh_Cu g mX7_vanish [sh_R (7, k1, i1)] S14 sz (fun S15 => Q S15))))) ∧ (a2 = 1 → (sh_Cu g mX2_share [sh_R (2, k, 0), sh_I 0, sh_I 1, sh_I (-1)] S12 sz (fun S16 => (sh_Cu g mX7_vanish [sh_R (7, k1, i1)] S16 sz (fun S17 => Q S17)))))))))))))) ∧ (a2 = 2 → (∀ x18 : Int32, x18 = ((S (7, k1, i1) 1) / 2) → (sh_Ci g mX2_has [sh_R (2, k, 0), sh_I (S (7, k1, i1) 5)] S sz (fun r20 S19 => ((r20 = 0 → ((¬ a2 = 1 → (sh_Cu g mX2_share [sh_R (2, k, 0), sh_I x18, sh_I 1, sh_I (S19 (7, k1, i1) 5)] S19 sz (fun S23 => (sh_Cu g mX7_vanish [sh_R (7, k1, i1)] S23 sz (fun S24 => Q S24))))) ∧ (a2 = 1 → (sh_Cu g mX2_share [sh_R (2, k, 0), sh_I x18, sh_I 1, sh_I (-1)] S19 sz (fun S25 => (sh_Cu g mX7_vanish [sh_R (7, k1, i1)] S25 sz (fun S26 => Q S26))))))) ∧ (¬ r20 = 0 → (vp_in (S19 (7, k1, i1) 5) 10 ∧ (sh_Cu g mX1_charge [sh_R (1, k, ((S19 (7, k1, i1) 5).toNatClampNeg)), sh_I 1, sh_I ((S19 (7, k1, i1) 1) - x18)] S19 sz (fun S28 => ((¬ a2 = 1 → (sh_Cu g mX2_share [sh_R (2, k, 0), sh_I x18, sh_I 1, sh_I (S28 (7, k1, i1) 5)] S28 sz (fun S30 => (sh_Cu g mX7_vanish [sh_R (7, k1, i1)] S30 sz (fun S31 => Q S31))))) ∧ (a2 = 1 → (sh_Cu g mX2_share [sh_R (2, k, 0), sh_I x18, sh_I 1, sh_I (-1)] S28 sz (fun S32 => (sh_Cu g mX7_vanish [sh_R (7, k1, i1)] S32 sz (fun S33 => Q S33))))))))))))))))) ∧ (a2 = 1 → (∀ x34 : Int32, x34 = (S (7, k1, i1) 1) → (sh_Ci g mX2_has [sh_R (2, k, 0), sh_I (S (7, k1, i1) 5)] S sz (fun r36 S35 => ((r36 = 0 → ((¬ a2 = 1 → (sh_Cu g mX2_share [sh_R (2, k, 0), sh_I x34, sh_I 1, sh_I (S35 (7, k1, i1) 5)] S35 sz (fun S39 => (sh_Cu g mX7_vanish [sh_R (7, k1, i1)] S39 sz (fun S40 => Q S40))))) ∧ (a2 = 1 → (sh_Cu g mX2_share [sh_R (2, k, 0), sh_I x34, sh_I 1, sh_I (-1)] S35 sz (fun S41 => (sh_Cu g mX7_vanish [sh_R (7, k1, i1)] S41 sz (fun S42 => Q S42))))))) ∧ (¬ r36 = 0 → (vp_in (S35 (7, k1, i1) 5) 10 ∧ (sh_Cu g mX1_charge [sh_R (1, k, ((S35 (7, k1, i1) 5).toNatClampNeg)), sh_I 1, sh_I ((S35 (7, k1, i1) 1) - x34)] S35 sz (fun S44 => ((¬ a2 = 1 → (sh_Cu g mX2_share [sh_R (2, k, 0), sh_I x34, sh_I 1, sh_I (S44 (7, k1, i1) 5)] S44 sz (fun S46 => (sh_Cu g mX7_vanish [sh_R (7, k1, i1)] S46 sz (fun S47 => Q S47))))) ∧ (a2 = 1 → (sh_Cu g mX2_share [sh_R (2, k, 0), sh_I x34, sh_I 1, sh_I (-1)] S44 sz (fun S48 => (sh_Cu g mX7_vanish [sh_R (7, k1, i1)] S48 sz (fun S49 => Q S49))))))))))))))))) :
    sh_Cu g mX6_settleLoss [sh_R (6, k, 0), sh_R (7, k1, i1), sh_I a2] S sz Q := by
  refine sh_enter (ls := [(0, sh_R (6, k, 0)), (1, sh_R (7, k1, i1)), (2, sh_I a2)]) (by decide +kernel) (Nat.le_of_ble_eq_true rfl) rfl ?_
  refine sh_iconst (v := 0) (pc := 0) dX6_settleLoss_0 rfl ?_
  refine sh_istore_n (ls' := [(3, sh_I 0), (0, sh_R (6, k, 0)), (1, sh_R (7, k1, i1)), (2, sh_I a2)]) (pc := 1) dX6_settleLoss_1 (by decide) rfl ?_
  refine sh_iload_n (pc := 2) dX6_settleLoss_2 rfl ?_
  refine sh_iconst (v := 1) (pc := 3) dX6_settleLoss_3 rfl ?_
  refine sh_icmp_ne (tgt := 15) (pc := 4) dX6_settleLoss_4 (by decide) (fun hc1 => ?_) (fun hc1 => ?_)
  · have h := h.1 hc1
    refine sh_iload_n (pc := 15) dX6_settleLoss_15 rfl ?_
    refine sh_iconst (v := 2) (pc := 16) dX6_settleLoss_16 rfl ?_
    refine sh_icmp_ne (tgt := 27) (pc := 17) dX6_settleLoss_17 (by decide) (fun hc2 => ?_) (fun hc2 => ?_)
    · have h := h.1 hc2
      refine sh_aload_n (pc := 27) dX6_settleLoss_27 rfl ?_
      refine sh_gf (pc := 28) dX6_settleLoss_28 fl_X6_18 cf_6 hk rfl rfl ?_
      refine sh_aload_n (pc := 31) dX6_settleLoss_31 rfl ?_
      refine sh_gf (pc := 32) dX6_settleLoss_32 fl_X6_155 cf_7 hk1 rfl rfl ?_
      refine sh_ci (N := mX2_has) (pc := 35) dX6_settleLoss_35 ml_X6_59 h mf_X2_has iv_X2_has ⟨Nat.le_of_ble_eq_true rfl, Nat.le_of_ble_eq_true rfl⟩ rfl rfl (Nat.le_of_ble_eq_true rfl) hk rfl (show vwCl[2]? = some (RX2, TX2, 5) from rfl) rfl (fun r4 S3 h => ?_)
      refine sh_if_eq (tgt := 63) (pc := 38) dX6_settleLoss_38 (by decide) (fun hc5 => ?_) (fun hc5 => ?_)
      · have h := h.1 hc5
        refine sh_aload_n (pc := 63) dX6_settleLoss_63 rfl ?_
        refine sh_gf (pc := 64) dX6_settleLoss_64 fl_X6_18 cf_6 hk rfl rfl ?_
        refine sh_iload_n (pc := 67) dX6_settleLoss_67 rfl ?_
        refine sh_iconst (v := 1) (pc := 68) dX6_settleLoss_68 rfl ?_
        refine sh_iload_n (pc := 69) dX6_settleLoss_69 rfl ?_
        refine sh_iconst (v := 1) (pc := 70) dX6_settleLoss_70 rfl ?_
        refine sh_icmp_ne (tgt := 78) (pc := 71) dX6_settleLoss_71 (by decide) (fun hc6 => ?_) (fun hc6 => ?_)
        · have h := h.1 hc6
          refine sh_aload_n (pc := 78) dX6_settleLoss_78 rfl ?_
          refine sh_gf (pc := 79) dX6_settleLoss_79 fl_X6_155 cf_7 hk1 rfl rfl ?_
          refine sh_cu (N := mX2_share) (pc := 82) dX6_settleLoss_82 ml_X6_232 h mf_X2_share iv_X2_share ⟨Nat.le_of_ble_eq_true rfl, Nat.le_of_ble_eq_true rfl⟩ rfl rfl (Nat.le_of_ble_eq_true rfl) hk rfl (show vwCl[2]? = some (RX2, TX2, 5) from rfl) rfl (fun S7 h => ?_)
          refine sh_aload_n (pc := 85) dX6_settleLoss_85 rfl ?_
          refine sh_cu (N := mX7_vanish) (pc := 86) dX6_settleLoss_86 ml_X6_235 h mf_X7_vanish iv_X7_vanish ⟨Nat.le_of_ble_eq_true rfl, Nat.le_of_ble_eq_true rfl⟩ rfl rfl (Nat.le_of_ble_eq_true rfl) hk1 rfl (show vwCl[7]? = some (RX7, TX7, 14) from rfl) rfl (fun S8 h => ?_)
          exact sh_ret_u (pc := 89) dX6_settleLoss_89 rfl ⟨rfl, rfl⟩ h
        · have h := h.2 hc6
          refine sh_iconst (v := (-1)) (pc := 74) dX6_settleLoss_74 rfl ?_
          refine sh_goto (tgt := 82) (pc := 75) dX6_settleLoss_75 (by decide) ?_
          refine sh_cu (N := mX2_share) (pc := 82) dX6_settleLoss_82 ml_X6_232 h mf_X2_share iv_X2_share ⟨Nat.le_of_ble_eq_true rfl, Nat.le_of_ble_eq_true rfl⟩ rfl rfl (Nat.le_of_ble_eq_true rfl) hk rfl (show vwCl[2]? = some (RX2, TX2, 5) from rfl) rfl (fun S9 h => ?_)
          refine sh_aload_n (pc := 85) dX6_settleLoss_85 rfl ?_
          refine sh_cu (N := mX7_vanish) (pc := 86) dX6_settleLoss_86 ml_X6_235 h mf_X7_vanish iv_X7_vanish ⟨Nat.le_of_ble_eq_true rfl, Nat.le_of_ble_eq_true rfl⟩ rfl rfl (Nat.le_of_ble_eq_true rfl) hk1 rfl (show vwCl[7]? = some (RX7, TX7, 14) from rfl) rfl (fun S10 h => ?_)
          exact sh_ret_u (pc := 89) dX6_settleLoss_89 rfl ⟨rfl, rfl⟩ h
      · have h := h.2 hc5
        refine sh_aload_n (pc := 41) dX6_settleLoss_41 rfl ?_
        refine sh_gf (pc := 42) dX6_settleLoss_42 fl_X6_18 cf_6 hk rfl rfl ?_
        refine sh_gf (pc := 45) dX6_settleLoss_45 fl_X6_63 cf_2 hk rfl rfl ?_
        refine sh_aload_n (pc := 48) dX6_settleLoss_48 rfl ?_
        refine sh_gf (pc := 49) dX6_settleLoss_49 fl_X6_155 cf_7 hk1 rfl rfl ?_
        obtain ⟨hi11, h⟩ := h
        refine sh_aa (o' := (1, k, ((S3 (7, k1, i1) 5).toNatClampNeg))) (pc := 52) dX6_settleLoss_52 (by decide) hk rfl hi11 rfl ?_
        refine sh_iconst (v := 1) (pc := 53) dX6_settleLoss_53 rfl ?_
        refine sh_aload_n (pc := 54) dX6_settleLoss_54 rfl ?_
        refine sh_gf (pc := 55) dX6_settleLoss_55 fl_X6_229 cf_7 hk1 rfl rfl ?_
        refine sh_iload_n (pc := 58) dX6_settleLoss_58 rfl ?_
        refine sh_isub (pc := 59) dX6_settleLoss_59 ?_
        refine sh_cu (N := mX1_charge) (pc := 60) dX6_settleLoss_60 ml_X6_163 h mf_X1_charge iv_X1_charge ⟨Nat.le_of_ble_eq_true rfl, Nat.le_of_ble_eq_true rfl⟩ rfl rfl (Nat.le_of_ble_eq_true rfl) ⟨hk.1, vp_lt hi11⟩ rfl (show vwCl[1]? = some (RX1, TX1, 1) from rfl) rfl (fun S12 h => ?_)
        refine sh_aload_n (pc := 63) dX6_settleLoss_63 rfl ?_
        refine sh_gf (pc := 64) dX6_settleLoss_64 fl_X6_18 cf_6 hk rfl rfl ?_
        refine sh_iload_n (pc := 67) dX6_settleLoss_67 rfl ?_
        refine sh_iconst (v := 1) (pc := 68) dX6_settleLoss_68 rfl ?_
        refine sh_iload_n (pc := 69) dX6_settleLoss_69 rfl ?_
        refine sh_iconst (v := 1) (pc := 70) dX6_settleLoss_70 rfl ?_
        refine sh_icmp_ne (tgt := 78) (pc := 71) dX6_settleLoss_71 (by decide) (fun hc13 => ?_) (fun hc13 => ?_)
        · have h := h.1 hc13
          refine sh_aload_n (pc := 78) dX6_settleLoss_78 rfl ?_
          refine sh_gf (pc := 79) dX6_settleLoss_79 fl_X6_155 cf_7 hk1 rfl rfl ?_
          refine sh_cu (N := mX2_share) (pc := 82) dX6_settleLoss_82 ml_X6_232 h mf_X2_share iv_X2_share ⟨Nat.le_of_ble_eq_true rfl, Nat.le_of_ble_eq_true rfl⟩ rfl rfl (Nat.le_of_ble_eq_true rfl) hk rfl (show vwCl[2]? = some (RX2, TX2, 5) from rfl) rfl (fun S14 h => ?_)
          refine sh_aload_n (pc := 85) dX6_settleLoss_85 rfl ?_
          refine sh_cu (N := mX7_vanish) (pc := 86) dX6_settleLoss_86 ml_X6_235 h mf_X7_vanish iv_X7_vanish ⟨Nat.le_of_ble_eq_true rfl, Nat.le_of_ble_eq_true rfl⟩ rfl rfl (Nat.le_of_ble_eq_true rfl) hk1 rfl (show vwCl[7]? = some (RX7, TX7, 14) from rfl) rfl (fun S15 h => ?_)
          exact sh_ret_u (pc := 89) dX6_settleLoss_89 rfl ⟨rfl, rfl⟩ h
        · have h := h.2 hc13
          refine sh_iconst (v := (-1)) (pc := 74) dX6_settleLoss_74 rfl ?_
          refine sh_goto (tgt := 82) (pc := 75) dX6_settleLoss_75 (by decide) ?_
          refine sh_cu (N := mX2_share) (pc := 82) dX6_settleLoss_82 ml_X6_232 h mf_X2_share iv_X2_share ⟨Nat.le_of_ble_eq_true rfl, Nat.le_of_ble_eq_true rfl⟩ rfl rfl (Nat.le_of_ble_eq_true rfl) hk rfl (show vwCl[2]? = some (RX2, TX2, 5) from rfl) rfl (fun S16 h => ?_)
          refine sh_aload_n (pc := 85) dX6_settleLoss_85 rfl ?_
          refine sh_cu (N := mX7_vanish) (pc := 86) dX6_settleLoss_86 ml_X6_235 h mf_X7_vanish iv_X7_vanish ⟨Nat.le_of_ble_eq_true rfl, Nat.le_of_ble_eq_true rfl⟩ rfl rfl (Nat.le_of_ble_eq_true rfl) hk1 rfl (show vwCl[7]? = some (RX7, TX7, 14) from rfl) rfl (fun S17 h => ?_)
          exact sh_ret_u (pc := 89) dX6_settleLoss_89 rfl ⟨rfl, rfl⟩ h
    · have h := h.2 hc2
      refine sh_aload_n (pc := 20) dX6_settleLoss_20 rfl ?_
      refine sh_gf (pc := 21) dX6_settleLoss_21 fl_X6_229 cf_7 hk1 rfl rfl ?_
      refine sh_iconst (v := 2) (pc := 24) dX6_settleLoss_24 rfl ?_
      refine sh_idiv (pc := 25) dX6_settleLoss_25 (by decide) ?_
      refine sh_topI (fun x18 hx18 => ?_)
      have h := h x18 hx18
      refine sh_istore_n (ls' := [(3, sh_I x18), (0, sh_R (6, k, 0)), (1, sh_R (7, k1, i1)), (2, sh_I a2)]) (pc := 26) dX6_settleLoss_26 (by decide) rfl ?_
      refine sh_aload_n (pc := 27) dX6_settleLoss_27 rfl ?_
      refine sh_gf (pc := 28) dX6_settleLoss_28 fl_X6_18 cf_6 hk rfl rfl ?_
      refine sh_aload_n (pc := 31) dX6_settleLoss_31 rfl ?_
      refine sh_gf (pc := 32) dX6_settleLoss_32 fl_X6_155 cf_7 hk1 rfl rfl ?_
      refine sh_ci (N := mX2_has) (pc := 35) dX6_settleLoss_35 ml_X6_59 h mf_X2_has iv_X2_has ⟨Nat.le_of_ble_eq_true rfl, Nat.le_of_ble_eq_true rfl⟩ rfl rfl (Nat.le_of_ble_eq_true rfl) hk rfl (show vwCl[2]? = some (RX2, TX2, 5) from rfl) rfl (fun r20 S19 h => ?_)
      refine sh_if_eq (tgt := 63) (pc := 38) dX6_settleLoss_38 (by decide) (fun hc21 => ?_) (fun hc21 => ?_)
      · have h := h.1 hc21
        refine sh_aload_n (pc := 63) dX6_settleLoss_63 rfl ?_
        refine sh_gf (pc := 64) dX6_settleLoss_64 fl_X6_18 cf_6 hk rfl rfl ?_
        refine sh_iload_n (pc := 67) dX6_settleLoss_67 rfl ?_
        refine sh_iconst (v := 1) (pc := 68) dX6_settleLoss_68 rfl ?_
        refine sh_iload_n (pc := 69) dX6_settleLoss_69 rfl ?_
        refine sh_iconst (v := 1) (pc := 70) dX6_settleLoss_70 rfl ?_
        refine sh_icmp_ne (tgt := 78) (pc := 71) dX6_settleLoss_71 (by decide) (fun hc22 => ?_) (fun hc22 => ?_)
        · have h := h.1 hc22
          refine sh_aload_n (pc := 78) dX6_settleLoss_78 rfl ?_
          refine sh_gf (pc := 79) dX6_settleLoss_79 fl_X6_155 cf_7 hk1 rfl rfl ?_
          refine sh_cu (N := mX2_share) (pc := 82) dX6_settleLoss_82 ml_X6_232 h mf_X2_share iv_X2_share ⟨Nat.le_of_ble_eq_true rfl, Nat.le_of_ble_eq_true rfl⟩ rfl rfl (Nat.le_of_ble_eq_true rfl) hk rfl (show vwCl[2]? = some (RX2, TX2, 5) from rfl) rfl (fun S23 h => ?_)
          refine sh_aload_n (pc := 85) dX6_settleLoss_85 rfl ?_
          refine sh_cu (N := mX7_vanish) (pc := 86) dX6_settleLoss_86 ml_X6_235 h mf_X7_vanish iv_X7_vanish ⟨Nat.le_of_ble_eq_true rfl, Nat.le_of_ble_eq_true rfl⟩ rfl rfl (Nat.le_of_ble_eq_true rfl) hk1 rfl (show vwCl[7]? = some (RX7, TX7, 14) from rfl) rfl (fun S24 h => ?_)
          exact sh_ret_u (pc := 89) dX6_settleLoss_89 rfl ⟨rfl, rfl⟩ h
        · have h := h.2 hc22
          refine sh_iconst (v := (-1)) (pc := 74) dX6_settleLoss_74 rfl ?_
          refine sh_goto (tgt := 82) (pc := 75) dX6_settleLoss_75 (by decide) ?_
          refine sh_cu (N := mX2_share) (pc := 82) dX6_settleLoss_82 ml_X6_232 h mf_X2_share iv_X2_share ⟨Nat.le_of_ble_eq_true rfl, Nat.le_of_ble_eq_true rfl⟩ rfl rfl (Nat.le_of_ble_eq_true rfl) hk rfl (show vwCl[2]? = some (RX2, TX2, 5) from rfl) rfl (fun S25 h => ?_)
          refine sh_aload_n (pc := 85) dX6_settleLoss_85 rfl ?_
          refine sh_cu (N := mX7_vanish) (pc := 86) dX6_settleLoss_86 ml_X6_235 h mf_X7_vanish iv_X7_vanish ⟨Nat.le_of_ble_eq_true rfl, Nat.le_of_ble_eq_true rfl⟩ rfl rfl (Nat.le_of_ble_eq_true rfl) hk1 rfl (show vwCl[7]? = some (RX7, TX7, 14) from rfl) rfl (fun S26 h => ?_)
          exact sh_ret_u (pc := 89) dX6_settleLoss_89 rfl ⟨rfl, rfl⟩ h
      · have h := h.2 hc21
        refine sh_aload_n (pc := 41) dX6_settleLoss_41 rfl ?_
        refine sh_gf (pc := 42) dX6_settleLoss_42 fl_X6_18 cf_6 hk rfl rfl ?_
        refine sh_gf (pc := 45) dX6_settleLoss_45 fl_X6_63 cf_2 hk rfl rfl ?_
        refine sh_aload_n (pc := 48) dX6_settleLoss_48 rfl ?_
        refine sh_gf (pc := 49) dX6_settleLoss_49 fl_X6_155 cf_7 hk1 rfl rfl ?_
        obtain ⟨hi27, h⟩ := h
        refine sh_aa (o' := (1, k, ((S19 (7, k1, i1) 5).toNatClampNeg))) (pc := 52) dX6_settleLoss_52 (by decide) hk rfl hi27 rfl ?_
        refine sh_iconst (v := 1) (pc := 53) dX6_settleLoss_53 rfl ?_
        refine sh_aload_n (pc := 54) dX6_settleLoss_54 rfl ?_
        refine sh_gf (pc := 55) dX6_settleLoss_55 fl_X6_229 cf_7 hk1 rfl rfl ?_
        refine sh_iload_n (pc := 58) dX6_settleLoss_58 rfl ?_
        refine sh_isub (pc := 59) dX6_settleLoss_59 ?_
        refine sh_cu (N := mX1_charge) (pc := 60) dX6_settleLoss_60 ml_X6_163 h mf_X1_charge iv_X1_charge ⟨Nat.le_of_ble_eq_true rfl, Nat.le_of_ble_eq_true rfl⟩ rfl rfl (Nat.le_of_ble_eq_true rfl) ⟨hk.1, vp_lt hi27⟩ rfl (show vwCl[1]? = some (RX1, TX1, 1) from rfl) rfl (fun S28 h => ?_)
        refine sh_aload_n (pc := 63) dX6_settleLoss_63 rfl ?_
        refine sh_gf (pc := 64) dX6_settleLoss_64 fl_X6_18 cf_6 hk rfl rfl ?_
        refine sh_iload_n (pc := 67) dX6_settleLoss_67 rfl ?_
        refine sh_iconst (v := 1) (pc := 68) dX6_settleLoss_68 rfl ?_
        refine sh_iload_n (pc := 69) dX6_settleLoss_69 rfl ?_
        refine sh_iconst (v := 1) (pc := 70) dX6_settleLoss_70 rfl ?_
        refine sh_icmp_ne (tgt := 78) (pc := 71) dX6_settleLoss_71 (by decide) (fun hc29 => ?_) (fun hc29 => ?_)
        · have h := h.1 hc29
          refine sh_aload_n (pc := 78) dX6_settleLoss_78 rfl ?_
          refine sh_gf (pc := 79) dX6_settleLoss_79 fl_X6_155 cf_7 hk1 rfl rfl ?_
          refine sh_cu (N := mX2_share) (pc := 82) dX6_settleLoss_82 ml_X6_232 h mf_X2_share iv_X2_share ⟨Nat.le_of_ble_eq_true rfl, Nat.le_of_ble_eq_true rfl⟩ rfl rfl (Nat.le_of_ble_eq_true rfl) hk rfl (show vwCl[2]? = some (RX2, TX2, 5) from rfl) rfl (fun S30 h => ?_)
          refine sh_aload_n (pc := 85) dX6_settleLoss_85 rfl ?_
          refine sh_cu (N := mX7_vanish) (pc := 86) dX6_settleLoss_86 ml_X6_235 h mf_X7_vanish iv_X7_vanish ⟨Nat.le_of_ble_eq_true rfl, Nat.le_of_ble_eq_true rfl⟩ rfl rfl (Nat.le_of_ble_eq_true rfl) hk1 rfl (show vwCl[7]? = some (RX7, TX7, 14) from rfl) rfl (fun S31 h => ?_)
          exact sh_ret_u (pc := 89) dX6_settleLoss_89 rfl ⟨rfl, rfl⟩ h
        · have h := h.2 hc29
          refine sh_iconst (v := (-1)) (pc := 74) dX6_settleLoss_74 rfl ?_
          refine sh_goto (tgt := 82) (pc := 75) dX6_settleLoss_75 (by decide) ?_
          refine sh_cu (N := mX2_share) (pc := 82) dX6_settleLoss_82 ml_X6_232 h mf_X2_share iv_X2_share ⟨Nat.le_of_ble_eq_true rfl, Nat.le_of_ble_eq_true rfl⟩ rfl rfl (Nat.le_of_ble_eq_true rfl) hk rfl (show vwCl[2]? = some (RX2, TX2, 5) from rfl) rfl (fun S32 h => ?_)
          refine sh_aload_n (pc := 85) dX6_settleLoss_85 rfl ?_
          refine sh_cu (N := mX7_vanish) (pc := 86) dX6_settleLoss_86 ml_X6_235 h mf_X7_vanish iv_X7_vanish ⟨Nat.le_of_ble_eq_true rfl, Nat.le_of_ble_eq_true rfl⟩ rfl rfl (Nat.le_of_ble_eq_true rfl) hk1 rfl (show vwCl[7]? = some (RX7, TX7, 14) from rfl) rfl (fun S33 h => ?_)
          exact sh_ret_u (pc := 89) dX6_settleLoss_89 rfl ⟨rfl, rfl⟩ h
  · have h := h.2 hc1
    refine sh_aload_n (pc := 7) dX6_settleLoss_7 rfl ?_
    refine sh_gf (pc := 8) dX6_settleLoss_8 fl_X6_229 cf_7 hk1 rfl rfl ?_
    refine sh_topI (fun x34 hx34 => ?_)
    have h := h x34 hx34
    refine sh_istore_n (ls' := [(3, sh_I x34), (0, sh_R (6, k, 0)), (1, sh_R (7, k1, i1)), (2, sh_I a2)]) (pc := 11) dX6_settleLoss_11 (by decide) rfl ?_
    refine sh_goto (tgt := 27) (pc := 12) dX6_settleLoss_12 (by decide) ?_
    refine sh_aload_n (pc := 27) dX6_settleLoss_27 rfl ?_
    refine sh_gf (pc := 28) dX6_settleLoss_28 fl_X6_18 cf_6 hk rfl rfl ?_
    refine sh_aload_n (pc := 31) dX6_settleLoss_31 rfl ?_
    refine sh_gf (pc := 32) dX6_settleLoss_32 fl_X6_155 cf_7 hk1 rfl rfl ?_
    refine sh_ci (N := mX2_has) (pc := 35) dX6_settleLoss_35 ml_X6_59 h mf_X2_has iv_X2_has ⟨Nat.le_of_ble_eq_true rfl, Nat.le_of_ble_eq_true rfl⟩ rfl rfl (Nat.le_of_ble_eq_true rfl) hk rfl (show vwCl[2]? = some (RX2, TX2, 5) from rfl) rfl (fun r36 S35 h => ?_)
    refine sh_if_eq (tgt := 63) (pc := 38) dX6_settleLoss_38 (by decide) (fun hc37 => ?_) (fun hc37 => ?_)
    · have h := h.1 hc37
      refine sh_aload_n (pc := 63) dX6_settleLoss_63 rfl ?_
      refine sh_gf (pc := 64) dX6_settleLoss_64 fl_X6_18 cf_6 hk rfl rfl ?_
      refine sh_iload_n (pc := 67) dX6_settleLoss_67 rfl ?_
      refine sh_iconst (v := 1) (pc := 68) dX6_settleLoss_68 rfl ?_
      refine sh_iload_n (pc := 69) dX6_settleLoss_69 rfl ?_
      refine sh_iconst (v := 1) (pc := 70) dX6_settleLoss_70 rfl ?_
      refine sh_icmp_ne (tgt := 78) (pc := 71) dX6_settleLoss_71 (by decide) (fun hc38 => ?_) (fun hc38 => ?_)
      · have h := h.1 hc38
        refine sh_aload_n (pc := 78) dX6_settleLoss_78 rfl ?_
        refine sh_gf (pc := 79) dX6_settleLoss_79 fl_X6_155 cf_7 hk1 rfl rfl ?_
        refine sh_cu (N := mX2_share) (pc := 82) dX6_settleLoss_82 ml_X6_232 h mf_X2_share iv_X2_share ⟨Nat.le_of_ble_eq_true rfl, Nat.le_of_ble_eq_true rfl⟩ rfl rfl (Nat.le_of_ble_eq_true rfl) hk rfl (show vwCl[2]? = some (RX2, TX2, 5) from rfl) rfl (fun S39 h => ?_)
        refine sh_aload_n (pc := 85) dX6_settleLoss_85 rfl ?_
        refine sh_cu (N := mX7_vanish) (pc := 86) dX6_settleLoss_86 ml_X6_235 h mf_X7_vanish iv_X7_vanish ⟨Nat.le_of_ble_eq_true rfl, Nat.le_of_ble_eq_true rfl⟩ rfl rfl (Nat.le_of_ble_eq_true rfl) hk1 rfl (show vwCl[7]? = some (RX7, TX7, 14) from rfl) rfl (fun S40 h => ?_)
        exact sh_ret_u (pc := 89) dX6_settleLoss_89 rfl ⟨rfl, rfl⟩ h
      · have h := h.2 hc38
        refine sh_iconst (v := (-1)) (pc := 74) dX6_settleLoss_74 rfl ?_
        refine sh_goto (tgt := 82) (pc := 75) dX6_settleLoss_75 (by decide) ?_
        refine sh_cu (N := mX2_share) (pc := 82) dX6_settleLoss_82 ml_X6_232 h mf_X2_share iv_X2_share ⟨Nat.le_of_ble_eq_true rfl, Nat.le_of_ble_eq_true rfl⟩ rfl rfl (Nat.le_of_ble_eq_true rfl) hk rfl (show vwCl[2]? = some (RX2, TX2, 5) from rfl) rfl (fun S41 h => ?_)
        refine sh_aload_n (pc := 85) dX6_settleLoss_85 rfl ?_
        refine sh_cu (N := mX7_vanish) (pc := 86) dX6_settleLoss_86 ml_X6_235 h mf_X7_vanish iv_X7_vanish ⟨Nat.le_of_ble_eq_true rfl, Nat.le_of_ble_eq_true rfl⟩ rfl rfl (Nat.le_of_ble_eq_true rfl) hk1 rfl (show vwCl[7]? = some (RX7, TX7, 14) from rfl) rfl (fun S42 h => ?_)
        exact sh_ret_u (pc := 89) dX6_settleLoss_89 rfl ⟨rfl, rfl⟩ h
    · have h := h.2 hc37
      refine sh_aload_n (pc := 41) dX6_settleLoss_41 rfl ?_
      refine sh_gf (pc := 42) dX6_settleLoss_42 fl_X6_18 cf_6 hk rfl rfl ?_
      refine sh_gf (pc := 45) dX6_settleLoss_45 fl_X6_63 cf_2 hk rfl rfl ?_
      refine sh_aload_n (pc := 48) dX6_settleLoss_48 rfl ?_
      refine sh_gf (pc := 49) dX6_settleLoss_49 fl_X6_155 cf_7 hk1 rfl rfl ?_
      obtain ⟨hi43, h⟩ := h
      refine sh_aa (o' := (1, k, ((S35 (7, k1, i1) 5).toNatClampNeg))) (pc := 52) dX6_settleLoss_52 (by decide) hk rfl hi43 rfl ?_
      refine sh_iconst (v := 1) (pc := 53) dX6_settleLoss_53 rfl ?_
      refine sh_aload_n (pc := 54) dX6_settleLoss_54 rfl ?_
      refine sh_gf (pc := 55) dX6_settleLoss_55 fl_X6_229 cf_7 hk1 rfl rfl ?_
      refine sh_iload_n (pc := 58) dX6_settleLoss_58 rfl ?_
      refine sh_isub (pc := 59) dX6_settleLoss_59 ?_
      refine sh_cu (N := mX1_charge) (pc := 60) dX6_settleLoss_60 ml_X6_163 h mf_X1_charge iv_X1_charge ⟨Nat.le_of_ble_eq_true rfl, Nat.le_of_ble_eq_true rfl⟩ rfl rfl (Nat.le_of_ble_eq_true rfl) ⟨hk.1, vp_lt hi43⟩ rfl (show vwCl[1]? = some (RX1, TX1, 1) from rfl) rfl (fun S44 h => ?_)
      refine sh_aload_n (pc := 63) dX6_settleLoss_63 rfl ?_
      refine sh_gf (pc := 64) dX6_settleLoss_64 fl_X6_18 cf_6 hk rfl rfl ?_
      refine sh_iload_n (pc := 67) dX6_settleLoss_67 rfl ?_
      refine sh_iconst (v := 1) (pc := 68) dX6_settleLoss_68 rfl ?_
      refine sh_iload_n (pc := 69) dX6_settleLoss_69 rfl ?_
      refine sh_iconst (v := 1) (pc := 70) dX6_settleLoss_70 rfl ?_
      refine sh_icmp_ne (tgt := 78) (pc := 71) dX6_settleLoss_71 (by decide) (fun hc45 => ?_) (fun hc45 => ?_)
      · have h := h.1 hc45
        refine sh_aload_n (pc := 78) dX6_settleLoss_78 rfl ?_
        refine sh_gf (pc := 79) dX6_settleLoss_79 fl_X6_155 cf_7 hk1 rfl rfl ?_
        refine sh_cu (N := mX2_share) (pc := 82) dX6_settleLoss_82 ml_X6_232 h mf_X2_share iv_X2_share ⟨Nat.le_of_ble_eq_true rfl, Nat.le_of_ble_eq_true rfl⟩ rfl rfl (Nat.le_of_ble_eq_true rfl) hk rfl (show vwCl[2]? = some (RX2, TX2, 5) from rfl) rfl (fun S46 h => ?_)
        refine sh_aload_n (pc := 85) dX6_settleLoss_85 rfl ?_
        refine sh_cu (N := mX7_vanish) (pc := 86) dX6_settleLoss_86 ml_X6_235 h mf_X7_vanish iv_X7_vanish ⟨Nat.le_of_ble_eq_true rfl, Nat.le_of_ble_eq_true rfl⟩ rfl rfl (Nat.le_of_ble_eq_true rfl) hk1 rfl (show vwCl[7]? = some (RX7, TX7, 14) from rfl) rfl (fun S47 h => ?_)
        exact sh_ret_u (pc := 89) dX6_settleLoss_89 rfl ⟨rfl, rfl⟩ h
      · have h := h.2 hc45
        refine sh_iconst (v := (-1)) (pc := 74) dX6_settleLoss_74 rfl ?_
        refine sh_goto (tgt := 82) (pc := 75) dX6_settleLoss_75 (by decide) ?_
        refine sh_cu (N := mX2_share) (pc := 82) dX6_settleLoss_82 ml_X6_232 h mf_X2_share iv_X2_share ⟨Nat.le_of_ble_eq_true rfl, Nat.le_of_ble_eq_true rfl⟩ rfl rfl (Nat.le_of_ble_eq_true rfl) hk rfl (show vwCl[2]? = some (RX2, TX2, 5) from rfl) rfl (fun S48 h => ?_)
        refine sh_aload_n (pc := 85) dX6_settleLoss_85 rfl ?_
        refine sh_cu (N := mX7_vanish) (pc := 86) dX6_settleLoss_86 ml_X6_235 h mf_X7_vanish iv_X7_vanish ⟨Nat.le_of_ble_eq_true rfl, Nat.le_of_ble_eq_true rfl⟩ rfl rfl (Nat.le_of_ble_eq_true rfl) hk1 rfl (show vwCl[7]? = some (RX7, TX7, 14) from rfl) rfl (fun S49 h => ?_)
        exact sh_ret_u (pc := 89) dX6_settleLoss_89 rfl ⟨rfl, rfl⟩ h

set_option maxRecDepth 100000 in
set_option maxHeartbeats 4000000 in
theorem wp_X6_hearPanel {g : sh_G} {S : sh_S} {sz : Nat} {Q : Int32 → sh_S → Prop} {k : Nat} (hk : sh_ok (6, k, 0)) {a1 : Int32} {a2 : Int32} {a3 : Int32} 
    (h : (sh_Ci g mX6_hasTool [sh_R (6, k, 0), sh_I a1] S sz (fun r2 S1 => ((r2 = 0 → Q (-1000001) S1) ∧ (¬ r2 = 0 → (sh_Ci g mX2_has [sh_R (2, k, 0), sh_I a2] S1 sz (fun r5 S4 => ((r5 = 0 → Q (-1000001) S4) ∧ (¬ r5 = 0 → ((a3 < 0 → Q (-1000001) S4) ∧ (¬ a3 < 0 → ((a3 ≤ 2 → (vp_in a1 20 ∧ ((¬ (S4 (7, k, (a1.toNatClampNeg)) 4) = 2 → Q (-1000002) S4) ∧ ((S4 (7, k, (a1.toNatClampNeg)) 4) = 2 → (sh_Ci g mX4_hears [sh_R (4, k, (a1.toNatClampNeg)), sh_I a2, sh_I a3] S4 sz (fun r12 S11 => ((¬ r12 = 0 → (sh_Ci g mX4_decision [sh_R (4, k, (a1.toNatClampNeg))] S11 sz (fun r15 S14 => ((r15 = 3 → Q r15 S14) ∧ (¬ r15 = 3 → (sh_Cu g mX6_settleLoss [sh_R (6, k, 0), sh_R (7, k, (a1.toNatClampNeg)), sh_I r15] S14 sz (fun S17 => Q r15 S17))))))) ∧ (r12 = 0 → Q (-1000002) S11)))))))) ∧ (¬ a3 ≤ 2 → Q (-1000001) S4))))))))))))) :
    sh_Ci g mX6_hearPanel [sh_R (6, k, 0), sh_I a1, sh_I a2, sh_I a3] S sz Q := by
  refine sh_enter (ls := [(0, sh_R (6, k, 0)), (1, sh_I a1), (2, sh_I a2), (3, sh_I a3)]) (by decide +kernel) (Nat.le_of_ble_eq_true rfl) rfl ?_
  refine sh_aload_n (pc := 0) dX6_hearPanel_0 rfl ?_
  refine sh_iload_n (pc := 1) dX6_hearPanel_1 rfl ?_
  refine sh_ci (N := mX6_hasTool) (pc := 2) dX6_hearPanel_2 ml_X6_88 h mf_X6_hasTool iv_X6_hasTool ⟨Nat.le_of_ble_eq_true rfl, Nat.le_of_ble_eq_true rfl⟩ rfl rfl (Nat.le_of_ble_eq_true rfl) hk rfl (show vwCl[6]? = some (RX6, TX6, 5) from rfl) rfl (fun r2 S1 h => ?_)
  refine sh_if_eq (tgt := 28) (pc := 5) dX6_hearPanel_5 (by decide) (fun hc3 => ?_) (fun hc3 => ?_)
  · have h := h.1 hc3
    refine sh_ldc (v := (-1000001)) (pc := 28) dX6_hearPanel_28 kc_X6_58 ?_
    exact sh_ret_i (pc := 30) dX6_hearPanel_30 rfl ⟨rfl, rfl⟩ h
  · have h := h.2 hc3
    refine sh_aload_n (pc := 8) dX6_hearPanel_8 rfl ?_
    refine sh_gf (pc := 9) dX6_hearPanel_9 fl_X6_18 cf_6 hk rfl rfl ?_
    refine sh_iload_n (pc := 12) dX6_hearPanel_12 rfl ?_
    refine sh_ci (N := mX2_has) (pc := 13) dX6_hearPanel_13 ml_X6_59 h mf_X2_has iv_X2_has ⟨Nat.le_of_ble_eq_true rfl, Nat.le_of_ble_eq_true rfl⟩ rfl rfl (Nat.le_of_ble_eq_true rfl) hk rfl (show vwCl[2]? = some (RX2, TX2, 5) from rfl) rfl (fun r5 S4 h => ?_)
    refine sh_if_eq (tgt := 28) (pc := 16) dX6_hearPanel_16 (by decide) (fun hc6 => ?_) (fun hc6 => ?_)
    · have h := h.1 hc6
      refine sh_ldc (v := (-1000001)) (pc := 28) dX6_hearPanel_28 kc_X6_58 ?_
      exact sh_ret_i (pc := 30) dX6_hearPanel_30 rfl ⟨rfl, rfl⟩ h
    · have h := h.2 hc6
      refine sh_iload_n (pc := 19) dX6_hearPanel_19 rfl ?_
      refine sh_if_lt (tgt := 28) (pc := 20) dX6_hearPanel_20 (by decide) (fun hc7 => ?_) (fun hc7 => ?_)
      · have h := h.1 hc7
        refine sh_ldc (v := (-1000001)) (pc := 28) dX6_hearPanel_28 kc_X6_58 ?_
        exact sh_ret_i (pc := 30) dX6_hearPanel_30 rfl ⟨rfl, rfl⟩ h
      · have h := h.2 hc7
        refine sh_iload_n (pc := 23) dX6_hearPanel_23 rfl ?_
        refine sh_iconst (v := 2) (pc := 24) dX6_hearPanel_24 rfl ?_
        refine sh_icmp_le (tgt := 31) (pc := 25) dX6_hearPanel_25 (by decide) (fun hc8 => ?_) (fun hc8 => ?_)
        · have h := h.1 hc8
          refine sh_aload_n (pc := 31) dX6_hearPanel_31 rfl ?_
          refine sh_gf (pc := 32) dX6_hearPanel_32 fl_X6_24 cf_6 hk rfl rfl ?_
          refine sh_iload_n (pc := 35) dX6_hearPanel_35 rfl ?_
          obtain ⟨hi9, h⟩ := h
          refine sh_aa (o' := (7, k, (a1.toNatClampNeg))) (pc := 36) dX6_hearPanel_36 (by decide) hk rfl hi9 rfl ?_
          refine sh_astore (ls' := [(4, sh_R (7, k, (a1.toNatClampNeg))), (0, sh_R (6, k, 0)), (1, sh_I a1), (2, sh_I a2), (3, sh_I a3)]) (pc := 37) dX6_hearPanel_37 (by decide) rfl ?_
          refine sh_aload (pc := 39) dX6_hearPanel_39 rfl ?_
          refine sh_gf (pc := 41) dX6_hearPanel_41 fl_X6_94 cf_7 ⟨hk.1, vp_lt hi9⟩ rfl rfl ?_
          refine sh_iconst (v := 2) (pc := 44) dX6_hearPanel_44 rfl ?_
          refine sh_icmp_ne (tgt := 61) (pc := 45) dX6_hearPanel_45 (by decide) (fun hc10 => ?_) (fun hc10 => ?_)
          · have h := h.1 hc10
            refine sh_ldc (v := (-1000002)) (pc := 61) dX6_hearPanel_61 kc_X6_84 ?_
            exact sh_ret_i (pc := 63) dX6_hearPanel_63 rfl ⟨rfl, rfl⟩ h
          · have h := h.2 hc10
            refine sh_aload (pc := 48) dX6_hearPanel_48 rfl ?_
            refine sh_gf (pc := 50) dX6_hearPanel_50 fl_X6_97 cf_7 ⟨hk.1, vp_lt hi9⟩ rfl rfl ?_
            refine sh_iload_n (pc := 53) dX6_hearPanel_53 rfl ?_
            refine sh_iload_n (pc := 54) dX6_hearPanel_54 rfl ?_
            refine sh_ci (N := mX4_hears) (pc := 55) dX6_hearPanel_55 ml_X6_219 h mf_X4_hears iv_X4_hears ⟨Nat.le_of_ble_eq_true rfl, Nat.le_of_ble_eq_true rfl⟩ rfl rfl (Nat.le_of_ble_eq_true rfl) ⟨hk.1, vp_lt hi9⟩ rfl (show vwCl[4]? = some (RX4, TX4, 3) from rfl) rfl (fun r12 S11 h => ?_)
            refine sh_if_ne (tgt := 64) (pc := 58) dX6_hearPanel_58 (by decide) (fun hc13 => ?_) (fun hc13 => ?_)
            · have h := h.1 hc13
              refine sh_aload (pc := 64) dX6_hearPanel_64 rfl ?_
              refine sh_gf (pc := 66) dX6_hearPanel_66 fl_X6_97 cf_7 ⟨hk.1, vp_lt hi9⟩ rfl rfl ?_
              refine sh_ci (N := mX4_decision) (pc := 69) dX6_hearPanel_69 ml_X6_222 h mf_X4_decision iv_X4_decision ⟨Nat.le_of_ble_eq_true rfl, Nat.le_of_ble_eq_true rfl⟩ rfl rfl (Nat.le_of_ble_eq_true rfl) ⟨hk.1, vp_lt hi9⟩ rfl (show vwCl[4]? = some (RX4, TX4, 3) from rfl) rfl (fun r15 S14 h => ?_)
              refine sh_istore (ls' := [(5, sh_I r15), (4, sh_R (7, k, (a1.toNatClampNeg))), (0, sh_R (6, k, 0)), (1, sh_I a1), (2, sh_I a2), (3, sh_I a3)]) (pc := 72) dX6_hearPanel_72 (by decide) rfl ?_
              refine sh_iload (pc := 74) dX6_hearPanel_74 rfl ?_
              refine sh_iconst (v := 3) (pc := 76) dX6_hearPanel_76 rfl ?_
              refine sh_icmp_eq (tgt := 88) (pc := 77) dX6_hearPanel_77 (by decide) (fun hc16 => ?_) (fun hc16 => ?_)
              · have h := h.1 hc16
                refine sh_iload (pc := 88) dX6_hearPanel_88 rfl ?_
                exact sh_ret_i (pc := 90) dX6_hearPanel_90 rfl ⟨rfl, rfl⟩ h
              · have h := h.2 hc16
                refine sh_aload_n (pc := 80) dX6_hearPanel_80 rfl ?_
                refine sh_aload (pc := 81) dX6_hearPanel_81 rfl ?_
                refine sh_iload (pc := 83) dX6_hearPanel_83 rfl ?_
                refine sh_cu (N := mX6_settleLoss) (pc := 85) dX6_hearPanel_85 ml_X6_225 h mf_X6_settleLoss iv_X6_settleLoss ⟨Nat.le_of_ble_eq_true rfl, Nat.le_of_ble_eq_true rfl⟩ rfl rfl (Nat.le_of_ble_eq_true rfl) hk rfl (show vwCl[6]? = some (RX6, TX6, 5) from rfl) rfl (fun S17 h => ?_)
                refine sh_iload (pc := 88) dX6_hearPanel_88 rfl ?_
                exact sh_ret_i (pc := 90) dX6_hearPanel_90 rfl ⟨rfl, rfl⟩ h
            · have h := h.2 hc13
              refine sh_ldc (v := (-1000002)) (pc := 61) dX6_hearPanel_61 kc_X6_84 ?_
              exact sh_ret_i (pc := 63) dX6_hearPanel_63 rfl ⟨rfl, rfl⟩ h
        · have h := h.2 hc8
          refine sh_ldc (v := (-1000001)) (pc := 28) dX6_hearPanel_28 kc_X6_58 ?_
          exact sh_ret_i (pc := 30) dX6_hearPanel_30 rfl ⟨rfl, rfl⟩ h

set_option maxRecDepth 100000 in
set_option maxHeartbeats 4000000 in
theorem wp_X6_findTool {g : sh_G} {S : sh_S} {sz : Nat} {Q : Int32 → sh_S → Prop} {k : Nat} (hk : sh_ok (6, k, 0)) {a1 : Int32} 
    (h : (sh_Ci g mX6_hasTool [sh_R (6, k, 0), sh_I a1] S sz (fun r2 S1 => ((¬ r2 = 0 → (vp_in a1 20 ∧ (((S1 (7, k, (a1.toNatClampNeg)) 4) = 2 → (vp_in a1 20 ∧ (∀ S7 : sh_S, S7 = sh_sr S1 (7, k, (a1.toNatClampNeg)) (upd (S1 (7, k, (a1.toNatClampNeg))) 4 0) → (vp_in a1 20 ∧ (sh_Ci g mX4_countOfSpeakers [sh_R (4, k, (a1.toNatClampNeg))] S7 sz (fun r10 S9 => Q r10 S9)))))) ∧ (¬ (S1 (7, k, (a1.toNatClampNeg)) 4) = 2 → Q (-1000002) S1)))) ∧ (r2 = 0 → Q (-1000001) S1))))) :
    sh_Ci g mX6_findTool [sh_R (6, k, 0), sh_I a1] S sz Q := by
  refine sh_enter (ls := [(0, sh_R (6, k, 0)), (1, sh_I a1)]) (by decide +kernel) (Nat.le_of_ble_eq_true rfl) rfl ?_
  refine sh_aload_n (pc := 0) dX6_findTool_0 rfl ?_
  refine sh_iload_n (pc := 1) dX6_findTool_1 rfl ?_
  refine sh_ci (N := mX6_hasTool) (pc := 2) dX6_findTool_2 ml_X6_88 h mf_X6_hasTool iv_X6_hasTool ⟨Nat.le_of_ble_eq_true rfl, Nat.le_of_ble_eq_true rfl⟩ rfl rfl (Nat.le_of_ble_eq_true rfl) hk rfl (show vwCl[6]? = some (RX6, TX6, 5) from rfl) rfl (fun r2 S1 h => ?_)
  refine sh_if_ne (tgt := 11) (pc := 5) dX6_findTool_5 (by decide) (fun hc3 => ?_) (fun hc3 => ?_)
  · have h := h.1 hc3
    refine sh_aload_n (pc := 11) dX6_findTool_11 rfl ?_
    refine sh_gf (pc := 12) dX6_findTool_12 fl_X6_24 cf_6 hk rfl rfl ?_
    refine sh_iload_n (pc := 15) dX6_findTool_15 rfl ?_
    obtain ⟨hi4, h⟩ := h
    refine sh_aa (o' := (7, k, (a1.toNatClampNeg))) (pc := 16) dX6_findTool_16 (by decide) hk rfl hi4 rfl ?_
    refine sh_gf (pc := 17) dX6_findTool_17 fl_X6_94 cf_7 ⟨hk.1, vp_lt hi4⟩ rfl rfl ?_
    refine sh_iconst (v := 2) (pc := 20) dX6_findTool_20 rfl ?_
    refine sh_icmp_eq (tgt := 27) (pc := 21) dX6_findTool_21 (by decide) (fun hc5 => ?_) (fun hc5 => ?_)
    · have h := h.1 hc5
      refine sh_aload_n (pc := 27) dX6_findTool_27 rfl ?_
      refine sh_gf (pc := 28) dX6_findTool_28 fl_X6_24 cf_6 hk rfl rfl ?_
      refine sh_iload_n (pc := 31) dX6_findTool_31 rfl ?_
      obtain ⟨hi6, h⟩ := h
      refine sh_aa (o' := (7, k, (a1.toNatClampNeg))) (pc := 32) dX6_findTool_32 (by decide) hk rfl hi6 rfl ?_
      refine sh_iconst (v := 0) (pc := 33) dX6_findTool_33 rfl ?_
      refine sh_pfi (pc := 34) dX6_findTool_34 fl_X6_94 cf_7 ft_7_4 ⟨hk.1, vp_lt hi6⟩ rfl (Nat.le_of_ble_eq_true rfl) rfl ?_
      refine sh_topS (fun S7 hS7 => ?_)
      have h := h S7 hS7
      refine sh_aload_n (pc := 37) dX6_findTool_37 rfl ?_
      refine sh_gf (pc := 38) dX6_findTool_38 fl_X6_24 cf_6 hk rfl rfl ?_
      refine sh_iload_n (pc := 41) dX6_findTool_41 rfl ?_
      obtain ⟨hi8, h⟩ := h
      refine sh_aa (o' := (7, k, (a1.toNatClampNeg))) (pc := 42) dX6_findTool_42 (by decide) hk rfl hi8 rfl ?_
      refine sh_gf (pc := 43) dX6_findTool_43 fl_X6_97 cf_7 ⟨hk.1, vp_lt hi8⟩ rfl rfl ?_
      refine sh_ci (N := mX4_countOfSpeakers) (pc := 46) dX6_findTool_46 ml_X6_238 h mf_X4_countOfSpeakers iv_X4_countOfSpeakers ⟨Nat.le_of_ble_eq_true rfl, Nat.le_of_ble_eq_true rfl⟩ rfl rfl (Nat.le_of_ble_eq_true rfl) ⟨hk.1, vp_lt hi8⟩ rfl (show vwCl[4]? = some (RX4, TX4, 3) from rfl) rfl (fun r10 S9 h => ?_)
      exact sh_ret_i (pc := 49) dX6_findTool_49 rfl ⟨rfl, rfl⟩ h
    · have h := h.2 hc5
      refine sh_ldc (v := (-1000002)) (pc := 24) dX6_findTool_24 kc_X6_84 ?_
      exact sh_ret_i (pc := 26) dX6_findTool_26 rfl ⟨rfl, rfl⟩ h
  · have h := h.2 hc3
    refine sh_ldc (v := (-1000001)) (pc := 8) dX6_findTool_8 kc_X6_58 ?_
    exact sh_ret_i (pc := 10) dX6_findTool_10 rfl ⟨rfl, rfl⟩ h

set_option maxRecDepth 100000 in
set_option maxHeartbeats 4000000 in
theorem wp_X6_tellOfPanel {g : sh_G} {S : sh_S} {sz : Nat} {Q : Int32 → sh_S → Prop} {k : Nat} (hk : sh_ok (6, k, 0)) {a1 : Int32} {a2 : Int32} {a3 : Int32} 
    (h : (sh_Ci g mX6_hasTool [sh_R (6, k, 0), sh_I a1] S sz (fun r2 S1 => ((r2 = 0 → Q (-1000001) S1) ∧ (¬ r2 = 0 → ((a2 < 0 → Q (-1000001) S1) ∧ (¬ a2 < 0 → ((3 ≤ a2 → Q (-1000001) S1) ∧ (¬ 3 ≤ a2 → ((a3 < 0 → Q (-1000001) S1) ∧ (¬ a3 < 0 → ((a3 ≤ 1 → (vp_in a1 20 ∧ (((S1 (7, k, (a1.toNatClampNeg)) 4) = 2 → (vp_in a1 20 ∧ ((¬ a3 = 0 → (vp_in a2 3 ∧ ((¬ (S1 (14, k, (a1.toNatClampNeg)) (a2.toNatClampNeg)) = (-1) → (vp_in a2 3 ∧ Q (S1 (14, k, (a1.toNatClampNeg)) (a2.toNatClampNeg)) S1)) ∧ ((S1 (14, k, (a1.toNatClampNeg)) (a2.toNatClampNeg)) = (-1) → Q (-1000004) S1)))) ∧ (a3 = 0 → (vp_in a2 3 ∧ Q (S1 (13, k, (a1.toNatClampNeg)) (a2.toNatClampNeg)) S1))))) ∧ (¬ (S1 (7, k, (a1.toNatClampNeg)) 4) = 2 → Q (-1000004) S1)))) ∧ (¬ a3 ≤ 1 → Q (-1000001) S1))))))))))))) :
    sh_Ci g mX6_tellOfPanel [sh_R (6, k, 0), sh_I a1, sh_I a2, sh_I a3] S sz Q := by
  refine sh_enter (ls := [(0, sh_R (6, k, 0)), (1, sh_I a1), (2, sh_I a2), (3, sh_I a3)]) (by decide +kernel) (Nat.le_of_ble_eq_true rfl) rfl ?_
  refine sh_aload_n (pc := 0) dX6_tellOfPanel_0 rfl ?_
  refine sh_iload_n (pc := 1) dX6_tellOfPanel_1 rfl ?_
  refine sh_ci (N := mX6_hasTool) (pc := 2) dX6_tellOfPanel_2 ml_X6_88 h mf_X6_hasTool iv_X6_hasTool ⟨Nat.le_of_ble_eq_true rfl, Nat.le_of_ble_eq_true rfl⟩ rfl rfl (Nat.le_of_ble_eq_true rfl) hk rfl (show vwCl[6]? = some (RX6, TX6, 5) from rfl) rfl (fun r2 S1 h => ?_)
  refine sh_if_eq (tgt := 26) (pc := 5) dX6_tellOfPanel_5 (by decide) (fun hc3 => ?_) (fun hc3 => ?_)
  · have h := h.1 hc3
    refine sh_ldc (v := (-1000001)) (pc := 26) dX6_tellOfPanel_26 kc_X6_58 ?_
    exact sh_ret_i (pc := 28) dX6_tellOfPanel_28 rfl ⟨rfl, rfl⟩ h
  · have h := h.2 hc3
    refine sh_iload_n (pc := 8) dX6_tellOfPanel_8 rfl ?_
    refine sh_if_lt (tgt := 26) (pc := 9) dX6_tellOfPanel_9 (by decide) (fun hc4 => ?_) (fun hc4 => ?_)
    · have h := h.1 hc4
      refine sh_ldc (v := (-1000001)) (pc := 26) dX6_tellOfPanel_26 kc_X6_58 ?_
      exact sh_ret_i (pc := 28) dX6_tellOfPanel_28 rfl ⟨rfl, rfl⟩ h
    · have h := h.2 hc4
      refine sh_iload_n (pc := 12) dX6_tellOfPanel_12 rfl ?_
      refine sh_iconst (v := 3) (pc := 13) dX6_tellOfPanel_13 rfl ?_
      refine sh_icmp_ge (tgt := 26) (pc := 14) dX6_tellOfPanel_14 (by decide) (fun hc5 => ?_) (fun hc5 => ?_)
      · have h := h.1 hc5
        refine sh_ldc (v := (-1000001)) (pc := 26) dX6_tellOfPanel_26 kc_X6_58 ?_
        exact sh_ret_i (pc := 28) dX6_tellOfPanel_28 rfl ⟨rfl, rfl⟩ h
      · have h := h.2 hc5
        refine sh_iload_n (pc := 17) dX6_tellOfPanel_17 rfl ?_
        refine sh_if_lt (tgt := 26) (pc := 18) dX6_tellOfPanel_18 (by decide) (fun hc6 => ?_) (fun hc6 => ?_)
        · have h := h.1 hc6
          refine sh_ldc (v := (-1000001)) (pc := 26) dX6_tellOfPanel_26 kc_X6_58 ?_
          exact sh_ret_i (pc := 28) dX6_tellOfPanel_28 rfl ⟨rfl, rfl⟩ h
        · have h := h.2 hc6
          refine sh_iload_n (pc := 21) dX6_tellOfPanel_21 rfl ?_
          refine sh_iconst (v := 1) (pc := 22) dX6_tellOfPanel_22 rfl ?_
          refine sh_icmp_le (tgt := 29) (pc := 23) dX6_tellOfPanel_23 (by decide) (fun hc7 => ?_) (fun hc7 => ?_)
          · have h := h.1 hc7
            refine sh_aload_n (pc := 29) dX6_tellOfPanel_29 rfl ?_
            refine sh_gf (pc := 30) dX6_tellOfPanel_30 fl_X6_24 cf_6 hk rfl rfl ?_
            refine sh_iload_n (pc := 33) dX6_tellOfPanel_33 rfl ?_
            obtain ⟨hi8, h⟩ := h
            refine sh_aa (o' := (7, k, (a1.toNatClampNeg))) (pc := 34) dX6_tellOfPanel_34 (by decide) hk rfl hi8 rfl ?_
            refine sh_gf (pc := 35) dX6_tellOfPanel_35 fl_X6_94 cf_7 ⟨hk.1, vp_lt hi8⟩ rfl rfl ?_
            refine sh_iconst (v := 2) (pc := 38) dX6_tellOfPanel_38 rfl ?_
            refine sh_icmp_eq (tgt := 45) (pc := 39) dX6_tellOfPanel_39 (by decide) (fun hc9 => ?_) (fun hc9 => ?_)
            · have h := h.1 hc9
              refine sh_aload_n (pc := 45) dX6_tellOfPanel_45 rfl ?_
              refine sh_gf (pc := 46) dX6_tellOfPanel_46 fl_X6_24 cf_6 hk rfl rfl ?_
              refine sh_iload_n (pc := 49) dX6_tellOfPanel_49 rfl ?_
              obtain ⟨hi10, h⟩ := h
              refine sh_aa (o' := (7, k, (a1.toNatClampNeg))) (pc := 50) dX6_tellOfPanel_50 (by decide) hk rfl hi10 rfl ?_
              refine sh_gf (pc := 51) dX6_tellOfPanel_51 fl_X6_97 cf_7 ⟨hk.1, vp_lt hi10⟩ rfl rfl ?_
              refine sh_astore (ls' := [(4, sh_R (4, k, (a1.toNatClampNeg))), (0, sh_R (6, k, 0)), (1, sh_I a1), (2, sh_I a2), (3, sh_I a3)]) (pc := 54) dX6_tellOfPanel_54 (by decide) rfl ?_
              refine sh_iload_n (pc := 56) dX6_tellOfPanel_56 rfl ?_
              refine sh_if_ne (tgt := 68) (pc := 57) dX6_tellOfPanel_57 (by decide) (fun hc11 => ?_) (fun hc11 => ?_)
              · have h := h.1 hc11
                refine sh_aload (pc := 68) dX6_tellOfPanel_68 rfl ?_
                refine sh_gf (pc := 70) dX6_tellOfPanel_70 fl_X6_241 cf_4 ⟨hk.1, vp_lt hi10⟩ rfl rfl ?_
                refine sh_iload_n (pc := 73) dX6_tellOfPanel_73 rfl ?_
                obtain ⟨hi12, h⟩ := h
                refine sh_ia (pc := 74) dX6_tellOfPanel_74 ⟨hk.1, vp_lt hi10⟩ rfl hi12 ?_
                refine sh_iconst (v := (-1)) (pc := 75) dX6_tellOfPanel_75 rfl ?_
                refine sh_icmp_ne (tgt := 84) (pc := 76) dX6_tellOfPanel_76 (by decide) (fun hc13 => ?_) (fun hc13 => ?_)
                · have h := h.1 hc13
                  refine sh_aload (pc := 84) dX6_tellOfPanel_84 rfl ?_
                  refine sh_gf (pc := 86) dX6_tellOfPanel_86 fl_X6_241 cf_4 ⟨hk.1, vp_lt hi10⟩ rfl rfl ?_
                  refine sh_iload_n (pc := 89) dX6_tellOfPanel_89 rfl ?_
                  obtain ⟨hi14, h⟩ := h
                  refine sh_ia (pc := 90) dX6_tellOfPanel_90 ⟨hk.1, vp_lt hi10⟩ rfl hi14 ?_
                  exact sh_ret_i (pc := 91) dX6_tellOfPanel_91 rfl ⟨rfl, rfl⟩ h
                · have h := h.2 hc13
                  refine sh_ldc (v := (-1000004)) (pc := 79) dX6_tellOfPanel_79 kc_X6_144 ?_
                  refine sh_goto (tgt := 91) (pc := 81) dX6_tellOfPanel_81 (by decide) ?_
                  exact sh_ret_i (pc := 91) dX6_tellOfPanel_91 rfl ⟨rfl, rfl⟩ h
              · have h := h.2 hc11
                refine sh_aload (pc := 60) dX6_tellOfPanel_60 rfl ?_
                refine sh_gf (pc := 62) dX6_tellOfPanel_62 fl_X6_216 cf_4 ⟨hk.1, vp_lt hi10⟩ rfl rfl ?_
                refine sh_iload_n (pc := 65) dX6_tellOfPanel_65 rfl ?_
                obtain ⟨hi15, h⟩ := h
                refine sh_ia (pc := 66) dX6_tellOfPanel_66 ⟨hk.1, vp_lt hi10⟩ rfl hi15 ?_
                exact sh_ret_i (pc := 67) dX6_tellOfPanel_67 rfl ⟨rfl, rfl⟩ h
            · have h := h.2 hc9
              refine sh_ldc (v := (-1000004)) (pc := 42) dX6_tellOfPanel_42 kc_X6_144 ?_
              exact sh_ret_i (pc := 44) dX6_tellOfPanel_44 rfl ⟨rfl, rfl⟩ h
          · have h := h.2 hc7
            refine sh_ldc (v := (-1000001)) (pc := 26) dX6_tellOfPanel_26 kc_X6_58 ?_
            exact sh_ret_i (pc := 28) dX6_tellOfPanel_28 rfl ⟨rfl, rfl⟩ h

set_option maxRecDepth 100000 in
set_option maxHeartbeats 4000000 in
theorem wp_X6_openProposal {g : sh_G} {S : sh_S} {sz : Nat} {Q : Int32 → sh_S → Prop} {k : Nat} (hk : sh_ok (6, k, 0)) {a1 : Int32} {a2 : Int32} {a3 : Int32} 
    (h : (sh_Ci g mX6_hasTool [sh_R (6, k, 0), sh_I a1] S sz (fun r2 S1 => ((r2 = 0 → Q (-1000001) S1) ∧ (¬ r2 = 0 → ((a2 < 1 → Q (-1000001) S1) ∧ (¬ a2 < 1 → ((400 < a2 → Q (-1000001) S1) ∧ (¬ 400 < a2 → ((a3 < 1 → Q (-1000001) S1) ∧ (¬ a3 < 1 → (vp_in a1 20 ∧ ((a3 ≤ (S1 (7, k, (a1.toNatClampNeg)) 2) → (vp_in a1 20 ∧ (((S1 (7, k, (a1.toNatClampNeg)) 4) = 4 → Q (-1000002) S1) ∧ (¬ (S1 (7, k, (a1.toNatClampNeg)) 4) = 4 → ((¬ (S1 (5, k, (a1.toNatClampNeg)) 0) = 0 → Q (-1000002) S1) ∧ ((S1 (5, k, (a1.toNatClampNeg)) 0) = 0 → (sh_Ci g mX2_countNotGone [sh_R (2, k, 0), sh_I (-1)] S1 sz (fun r13 S12 => ((¬ r13 = 0 → (sh_Cu g mX5_begin [sh_R (5, k, (a1.toNatClampNeg)), sh_I a2, sh_I a3, sh_I ((S12 (6, k, 0) 4) + (S12 (15, k, 0) 6))] S12 sz (fun S16 => Q (S16 (5, k, (a1.toNatClampNeg)) 3) S16))) ∧ (r13 = 0 → Q (-1000002) S12)))))))))) ∧ (¬ a3 ≤ (S1 (7, k, (a1.toNatClampNeg)) 2) → Q (-1000001) S1)))))))))))))) :
    sh_Ci g mX6_openProposal [sh_R (6, k, 0), sh_I a1, sh_I a2, sh_I a3] S sz Q := by
  refine sh_enter (ls := [(0, sh_R (6, k, 0)), (1, sh_I a1), (2, sh_I a2), (3, sh_I a3)]) (by decide +kernel) (Nat.le_of_ble_eq_true rfl) rfl ?_
  refine sh_aload_n (pc := 0) dX6_openProposal_0 rfl ?_
  refine sh_iload_n (pc := 1) dX6_openProposal_1 rfl ?_
  refine sh_ci (N := mX6_hasTool) (pc := 2) dX6_openProposal_2 ml_X6_88 h mf_X6_hasTool iv_X6_hasTool ⟨Nat.le_of_ble_eq_true rfl, Nat.le_of_ble_eq_true rfl⟩ rfl rfl (Nat.le_of_ble_eq_true rfl) hk rfl (show vwCl[6]? = some (RX6, TX6, 5) from rfl) rfl (fun r2 S1 h => ?_)
  refine sh_if_eq (tgt := 38) (pc := 5) dX6_openProposal_5 (by decide) (fun hc3 => ?_) (fun hc3 => ?_)
  · have h := h.1 hc3
    refine sh_ldc (v := (-1000001)) (pc := 38) dX6_openProposal_38 kc_X6_58 ?_
    exact sh_ret_i (pc := 40) dX6_openProposal_40 rfl ⟨rfl, rfl⟩ h
  · have h := h.2 hc3
    refine sh_iload_n (pc := 8) dX6_openProposal_8 rfl ?_
    refine sh_iconst (v := 1) (pc := 9) dX6_openProposal_9 rfl ?_
    refine sh_icmp_lt (tgt := 38) (pc := 10) dX6_openProposal_10 (by decide) (fun hc4 => ?_) (fun hc4 => ?_)
    · have h := h.1 hc4
      refine sh_ldc (v := (-1000001)) (pc := 38) dX6_openProposal_38 kc_X6_58 ?_
      exact sh_ret_i (pc := 40) dX6_openProposal_40 rfl ⟨rfl, rfl⟩ h
    · have h := h.2 hc4
      refine sh_iload_n (pc := 13) dX6_openProposal_13 rfl ?_
      refine sh_sipush (v := 400) (pc := 14) dX6_openProposal_14 rfl ?_
      refine sh_icmp_gt (tgt := 38) (pc := 17) dX6_openProposal_17 (by decide) (fun hc5 => ?_) (fun hc5 => ?_)
      · have h := h.1 hc5
        refine sh_ldc (v := (-1000001)) (pc := 38) dX6_openProposal_38 kc_X6_58 ?_
        exact sh_ret_i (pc := 40) dX6_openProposal_40 rfl ⟨rfl, rfl⟩ h
      · have h := h.2 hc5
        refine sh_iload_n (pc := 20) dX6_openProposal_20 rfl ?_
        refine sh_iconst (v := 1) (pc := 21) dX6_openProposal_21 rfl ?_
        refine sh_icmp_lt (tgt := 38) (pc := 22) dX6_openProposal_22 (by decide) (fun hc6 => ?_) (fun hc6 => ?_)
        · have h := h.1 hc6
          refine sh_ldc (v := (-1000001)) (pc := 38) dX6_openProposal_38 kc_X6_58 ?_
          exact sh_ret_i (pc := 40) dX6_openProposal_40 rfl ⟨rfl, rfl⟩ h
        · have h := h.2 hc6
          refine sh_iload_n (pc := 25) dX6_openProposal_25 rfl ?_
          refine sh_aload_n (pc := 26) dX6_openProposal_26 rfl ?_
          refine sh_gf (pc := 27) dX6_openProposal_27 fl_X6_24 cf_6 hk rfl rfl ?_
          refine sh_iload_n (pc := 30) dX6_openProposal_30 rfl ?_
          obtain ⟨hi7, h⟩ := h
          refine sh_aa (o' := (7, k, (a1.toNatClampNeg))) (pc := 31) dX6_openProposal_31 (by decide) hk rfl hi7 rfl ?_
          refine sh_gf (pc := 32) dX6_openProposal_32 fl_X6_244 cf_7 ⟨hk.1, vp_lt hi7⟩ rfl rfl ?_
          refine sh_icmp_le (tgt := 41) (pc := 35) dX6_openProposal_35 (by decide) (fun hc8 => ?_) (fun hc8 => ?_)
          · have h := h.1 hc8
            refine sh_aload_n (pc := 41) dX6_openProposal_41 rfl ?_
            refine sh_gf (pc := 42) dX6_openProposal_42 fl_X6_24 cf_6 hk rfl rfl ?_
            refine sh_iload_n (pc := 45) dX6_openProposal_45 rfl ?_
            obtain ⟨hi9, h⟩ := h
            refine sh_aa (o' := (7, k, (a1.toNatClampNeg))) (pc := 46) dX6_openProposal_46 (by decide) hk rfl hi9 rfl ?_
            refine sh_astore (ls' := [(4, sh_R (7, k, (a1.toNatClampNeg))), (0, sh_R (6, k, 0)), (1, sh_I a1), (2, sh_I a2), (3, sh_I a3)]) (pc := 47) dX6_openProposal_47 (by decide) rfl ?_
            refine sh_aload (pc := 49) dX6_openProposal_49 rfl ?_
            refine sh_gf (pc := 51) dX6_openProposal_51 fl_X6_94 cf_7 ⟨hk.1, vp_lt hi9⟩ rfl rfl ?_
            refine sh_iconst (v := 4) (pc := 54) dX6_openProposal_54 rfl ?_
            refine sh_icmp_eq (tgt := 80) (pc := 55) dX6_openProposal_55 (by decide) (fun hc10 => ?_) (fun hc10 => ?_)
            · have h := h.1 hc10
              refine sh_ldc (v := (-1000002)) (pc := 80) dX6_openProposal_80 kc_X6_84 ?_
              exact sh_ret_i (pc := 82) dX6_openProposal_82 rfl ⟨rfl, rfl⟩ h
            · have h := h.2 hc10
              refine sh_aload (pc := 58) dX6_openProposal_58 rfl ?_
              refine sh_gf (pc := 60) dX6_openProposal_60 fl_X6_247 cf_7 ⟨hk.1, vp_lt hi9⟩ rfl rfl ?_
              refine sh_gf (pc := 63) dX6_openProposal_63 fl_X6_251 cf_5 ⟨hk.1, vp_lt hi9⟩ rfl rfl ?_
              refine sh_if_ne (tgt := 80) (pc := 66) dX6_openProposal_66 (by decide) (fun hc11 => ?_) (fun hc11 => ?_)
              · have h := h.1 hc11
                refine sh_ldc (v := (-1000002)) (pc := 80) dX6_openProposal_80 kc_X6_84 ?_
                exact sh_ret_i (pc := 82) dX6_openProposal_82 rfl ⟨rfl, rfl⟩ h
              · have h := h.2 hc11
                refine sh_aload_n (pc := 69) dX6_openProposal_69 rfl ?_
                refine sh_gf (pc := 70) dX6_openProposal_70 fl_X6_18 cf_6 hk rfl rfl ?_
                refine sh_iconst (v := (-1)) (pc := 73) dX6_openProposal_73 rfl ?_
                refine sh_ci (N := mX2_countNotGone) (pc := 74) dX6_openProposal_74 ml_X6_80 h mf_X2_countNotGone iv_X2_countNotGone ⟨Nat.le_of_ble_eq_true rfl, Nat.le_of_ble_eq_true rfl⟩ rfl rfl (Nat.le_of_ble_eq_true rfl) hk rfl (show vwCl[2]? = some (RX2, TX2, 5) from rfl) rfl (fun r13 S12 h => ?_)
                refine sh_if_ne (tgt := 83) (pc := 77) dX6_openProposal_77 (by decide) (fun hc14 => ?_) (fun hc14 => ?_)
                · have h := h.1 hc14
                  refine sh_aload (pc := 83) dX6_openProposal_83 rfl ?_
                  refine sh_gf (pc := 85) dX6_openProposal_85 fl_X6_247 cf_7 ⟨hk.1, vp_lt hi9⟩ rfl rfl ?_
                  refine sh_iload_n (pc := 88) dX6_openProposal_88 rfl ?_
                  refine sh_iload_n (pc := 89) dX6_openProposal_89 rfl ?_
                  refine sh_aload_n (pc := 90) dX6_openProposal_90 rfl ?_
                  refine sh_gf (pc := 91) dX6_openProposal_91 fl_X6_49 cf_6 hk rfl rfl ?_
                  refine sh_aload_n (pc := 94) dX6_openProposal_94 rfl ?_
                  refine sh_gf (pc := 95) dX6_openProposal_95 fl_X6_9 cf_6 hk rfl rfl ?_
                  refine sh_bipush (v := 6) (pc := 98) dX6_openProposal_98 rfl ?_
                  refine sh_ia (pc := 100) dX6_openProposal_100 hk rfl (vp_in_iff.mpr ⟨by decide, by decide⟩) ?_
                  refine sh_iadd (pc := 101) dX6_openProposal_101 ?_
                  refine sh_cu (N := mX5_begin) (pc := 102) dX6_openProposal_102 ml_X6_257 h mf_X5_begin iv_X5_begin ⟨Nat.le_of_ble_eq_true rfl, Nat.le_of_ble_eq_true rfl⟩ rfl rfl (Nat.le_of_ble_eq_true rfl) ⟨hk.1, vp_lt hi9⟩ rfl (show vwCl[5]? = some (RX5, TX5, 7) from rfl) rfl (fun S16 h => ?_)
                  refine sh_aload (pc := 105) dX6_openProposal_105 rfl ?_
                  refine sh_gf (pc := 107) dX6_openProposal_107 fl_X6_247 cf_7 ⟨hk.1, vp_lt hi9⟩ rfl rfl ?_
                  refine sh_gf (pc := 110) dX6_openProposal_110 fl_X6_258 cf_5 ⟨hk.1, vp_lt hi9⟩ rfl rfl ?_
                  exact sh_ret_i (pc := 113) dX6_openProposal_113 rfl ⟨rfl, rfl⟩ h
                · have h := h.2 hc14
                  refine sh_ldc (v := (-1000002)) (pc := 80) dX6_openProposal_80 kc_X6_84 ?_
                  exact sh_ret_i (pc := 82) dX6_openProposal_82 rfl ⟨rfl, rfl⟩ h
          · have h := h.2 hc8
            refine sh_ldc (v := (-1000001)) (pc := 38) dX6_openProposal_38 kc_X6_58 ?_
            exact sh_ret_i (pc := 40) dX6_openProposal_40 rfl ⟨rfl, rfl⟩ h

set_option maxRecDepth 100000 in
set_option maxHeartbeats 4000000 in
theorem wp_X6_takeVote {g : sh_G} {S : sh_S} {sz : Nat} {Q : Int32 → sh_S → Prop} {k : Nat} (hk : sh_ok (6, k, 0)) {a1 : Int32} {a2 : Int32} {a3 : Int32} 
    (h : (sh_Ci g mX6_hasTool [sh_R (6, k, 0), sh_I a1] S sz (fun r2 S1 => ((r2 = 0 → Q (-1000001) S1) ∧ (¬ r2 = 0 → (sh_Ci g mX2_has [sh_R (2, k, 0), sh_I a2] S1 sz (fun r5 S4 => ((r5 = 0 → Q (-1000001) S4) ∧ (¬ r5 = 0 → ((a3 < 0 → Q (-1000001) S4) ∧ (¬ a3 < 0 → ((a3 ≤ 1 → (vp_in a1 20 ∧ (((S4 (5, k, (a1.toNatClampNeg)) 0) = 0 → Q (-1000002) S4) ∧ (¬ (S4 (5, k, (a1.toNatClampNeg)) 0) = 0 → (vp_in a2 10 ∧ (sh_Ci g mX1_isGone [sh_R (1, k, (a2.toNatClampNeg))] S4 sz (fun r13 S12 => ((¬ r13 = 0 → Q (-1000002) S12) ∧ (r13 = 0 → (sh_Ci g mX5_hasVoteOf [sh_R (5, k, (a1.toNatClampNeg)), sh_I a2] S12 sz (fun r16 S15 => ((r16 = 0 → ((¬ a3 = 1 → (sh_Cu g mX5_countVote [sh_R (5, k, (a1.toNatClampNeg)), sh_I a2, sh_I 0] S15 sz (fun S19 => (sh_Ci g mX2_countNotGone [sh_R (2, k, 0), sh_I (-1)] S19 sz (fun r21 S20 => (sh_Ci g mX5_outcome [sh_R (5, k, (a1.toNatClampNeg)), sh_I r21] S20 sz (fun r23 S22 => ((¬ r23 = 1 → ((¬ r23 = 2 → (∀ S26 : sh_S, S26 = sh_sr S22 (5, k, (a1.toNatClampNeg)) (upd (S22 (5, k, (a1.toNatClampNeg))) 0 0) → Q r23 S26)) ∧ (r23 = 2 → (∀ S27 : sh_S, S27 = sh_sr S22 (5, k, (a1.toNatClampNeg)) (upd (S22 (5, k, (a1.toNatClampNeg))) 0 1) → Q r23 S27)))) ∧ (r23 = 1 → (sh_Cu g mX2_share [sh_R (2, k, 0), sh_I (S22 (5, k, (a1.toNatClampNeg)) 1), sh_I 2, sh_I (-1)] S22 sz (fun S28 => (vp_in a1 20 ∧ (∀ S30 : sh_S, S30 = sh_sr S28 (7, k, (a1.toNatClampNeg)) (upd (S28 (7, k, (a1.toNatClampNeg))) 2 (((S28 (7, k, (a1.toNatClampNeg)) 2) - (S28 (5, k, (a1.toNatClampNeg)) 2)))) → ((¬ r23 = 2 → (∀ S32 : sh_S, S32 = sh_sr S30 (5, k, (a1.toNatClampNeg)) (upd (S30 (5, k, (a1.toNatClampNeg))) 0 0) → Q r23 S32)) ∧ (r23 = 2 → (∀ S33 : sh_S, S33 = sh_sr S30 (5, k, (a1.toNatClampNeg)) (upd (S30 (5, k, (a1.toNatClampNeg))) 0 1) → Q r23 S33)))))))))))))))) ∧ (a3 = 1 → (sh_Cu g mX5_countVote [sh_R (5, k, (a1.toNatClampNeg)), sh_I a2, sh_I 1] S15 sz (fun S34 => (sh_Ci g mX2_countNotGone [sh_R (2, k, 0), sh_I (-1)] S34 sz (fun r36 S35 => (sh_Ci g mX5_outcome [sh_R (5, k, (a1.toNatClampNeg)), sh_I r36] S35 sz (fun r38 S37 => ((¬ r38 = 1 → ((¬ r38 = 2 → (∀ S41 : sh_S, S41 = sh_sr S37 (5, k, (a1.toNatClampNeg)) (upd (S37 (5, k, (a1.toNatClampNeg))) 0 0) → Q r38 S41)) ∧ (r38 = 2 → (∀ S42 : sh_S, S42 = sh_sr S37 (5, k, (a1.toNatClampNeg)) (upd (S37 (5, k, (a1.toNatClampNeg))) 0 1) → Q r38 S42)))) ∧ (r38 = 1 → (sh_Cu g mX2_share [sh_R (2, k, 0), sh_I (S37 (5, k, (a1.toNatClampNeg)) 1), sh_I 2, sh_I (-1)] S37 sz (fun S43 => (vp_in a1 20 ∧ (∀ S45 : sh_S, S45 = sh_sr S43 (7, k, (a1.toNatClampNeg)) (upd (S43 (7, k, (a1.toNatClampNeg))) 2 (((S43 (7, k, (a1.toNatClampNeg)) 2) - (S43 (5, k, (a1.toNatClampNeg)) 2)))) → ((¬ r38 = 2 → (∀ S47 : sh_S, S47 = sh_sr S45 (5, k, (a1.toNatClampNeg)) (upd (S45 (5, k, (a1.toNatClampNeg))) 0 0) → Q r38 S47)) ∧ (r38 = 2 → (∀ S48 : sh_S, S48 = sh_sr S45 (5, k, (a1.toNatClampNeg)) (upd (S45 (5, k, (a1.toNatClampNeg))) 0 1) → Q r38 S48)))))))))))))))))) ∧ (¬ r16 = 0 → Q (-1000002) S15))))))))))))) ∧ (¬ a3 ≤ 1 → Q (-1000001) S4))))))))))))) :
    sh_Ci g mX6_takeVote [sh_R (6, k, 0), sh_I a1, sh_I a2, sh_I a3] S sz Q := by
  refine sh_enter (ls := [(0, sh_R (6, k, 0)), (1, sh_I a1), (2, sh_I a2), (3, sh_I a3)]) (by decide +kernel) (Nat.le_of_ble_eq_true rfl) rfl ?_
  refine sh_aload_n (pc := 0) dX6_takeVote_0 rfl ?_
  refine sh_iload_n (pc := 1) dX6_takeVote_1 rfl ?_
  refine sh_ci (N := mX6_hasTool) (pc := 2) dX6_takeVote_2 ml_X6_88 h mf_X6_hasTool iv_X6_hasTool ⟨Nat.le_of_ble_eq_true rfl, Nat.le_of_ble_eq_true rfl⟩ rfl rfl (Nat.le_of_ble_eq_true rfl) hk rfl (show vwCl[6]? = some (RX6, TX6, 5) from rfl) rfl (fun r2 S1 h => ?_)
  refine sh_if_eq (tgt := 28) (pc := 5) dX6_takeVote_5 (by decide) (fun hc3 => ?_) (fun hc3 => ?_)
  · have h := h.1 hc3
    refine sh_ldc (v := (-1000001)) (pc := 28) dX6_takeVote_28 kc_X6_58 ?_
    exact sh_ret_i (pc := 30) dX6_takeVote_30 rfl ⟨rfl, rfl⟩ h
  · have h := h.2 hc3
    refine sh_aload_n (pc := 8) dX6_takeVote_8 rfl ?_
    refine sh_gf (pc := 9) dX6_takeVote_9 fl_X6_18 cf_6 hk rfl rfl ?_
    refine sh_iload_n (pc := 12) dX6_takeVote_12 rfl ?_
    refine sh_ci (N := mX2_has) (pc := 13) dX6_takeVote_13 ml_X6_59 h mf_X2_has iv_X2_has ⟨Nat.le_of_ble_eq_true rfl, Nat.le_of_ble_eq_true rfl⟩ rfl rfl (Nat.le_of_ble_eq_true rfl) hk rfl (show vwCl[2]? = some (RX2, TX2, 5) from rfl) rfl (fun r5 S4 h => ?_)
    refine sh_if_eq (tgt := 28) (pc := 16) dX6_takeVote_16 (by decide) (fun hc6 => ?_) (fun hc6 => ?_)
    · have h := h.1 hc6
      refine sh_ldc (v := (-1000001)) (pc := 28) dX6_takeVote_28 kc_X6_58 ?_
      exact sh_ret_i (pc := 30) dX6_takeVote_30 rfl ⟨rfl, rfl⟩ h
    · have h := h.2 hc6
      refine sh_iload_n (pc := 19) dX6_takeVote_19 rfl ?_
      refine sh_if_lt (tgt := 28) (pc := 20) dX6_takeVote_20 (by decide) (fun hc7 => ?_) (fun hc7 => ?_)
      · have h := h.1 hc7
        refine sh_ldc (v := (-1000001)) (pc := 28) dX6_takeVote_28 kc_X6_58 ?_
        exact sh_ret_i (pc := 30) dX6_takeVote_30 rfl ⟨rfl, rfl⟩ h
      · have h := h.2 hc7
        refine sh_iload_n (pc := 23) dX6_takeVote_23 rfl ?_
        refine sh_iconst (v := 1) (pc := 24) dX6_takeVote_24 rfl ?_
        refine sh_icmp_le (tgt := 31) (pc := 25) dX6_takeVote_25 (by decide) (fun hc8 => ?_) (fun hc8 => ?_)
        · have h := h.1 hc8
          refine sh_aload_n (pc := 31) dX6_takeVote_31 rfl ?_
          refine sh_gf (pc := 32) dX6_takeVote_32 fl_X6_24 cf_6 hk rfl rfl ?_
          refine sh_iload_n (pc := 35) dX6_takeVote_35 rfl ?_
          obtain ⟨hi9, h⟩ := h
          refine sh_aa (o' := (7, k, (a1.toNatClampNeg))) (pc := 36) dX6_takeVote_36 (by decide) hk rfl hi9 rfl ?_
          refine sh_gf (pc := 37) dX6_takeVote_37 fl_X6_247 cf_7 ⟨hk.1, vp_lt hi9⟩ rfl rfl ?_
          refine sh_astore (ls' := [(4, sh_R (5, k, (a1.toNatClampNeg))), (0, sh_R (6, k, 0)), (1, sh_I a1), (2, sh_I a2), (3, sh_I a3)]) (pc := 40) dX6_takeVote_40 (by decide) rfl ?_
          refine sh_aload (pc := 42) dX6_takeVote_42 rfl ?_
          refine sh_gf (pc := 44) dX6_takeVote_44 fl_X6_251 cf_5 ⟨hk.1, vp_lt hi9⟩ rfl rfl ?_
          refine sh_if_eq (tgt := 74) (pc := 47) dX6_takeVote_47 (by decide) (fun hc10 => ?_) (fun hc10 => ?_)
          · have h := h.1 hc10
            refine sh_ldc (v := (-1000002)) (pc := 74) dX6_takeVote_74 kc_X6_84 ?_
            exact sh_ret_i (pc := 76) dX6_takeVote_76 rfl ⟨rfl, rfl⟩ h
          · have h := h.2 hc10
            refine sh_aload_n (pc := 50) dX6_takeVote_50 rfl ?_
            refine sh_gf (pc := 51) dX6_takeVote_51 fl_X6_18 cf_6 hk rfl rfl ?_
            refine sh_gf (pc := 54) dX6_takeVote_54 fl_X6_63 cf_2 hk rfl rfl ?_
            refine sh_iload_n (pc := 57) dX6_takeVote_57 rfl ?_
            obtain ⟨hi11, h⟩ := h
            refine sh_aa (o' := (1, k, (a2.toNatClampNeg))) (pc := 58) dX6_takeVote_58 (by decide) hk rfl hi11 rfl ?_
            refine sh_ci (N := mX1_isGone) (pc := 59) dX6_takeVote_59 ml_X6_67 h mf_X1_isGone iv_X1_isGone ⟨Nat.le_of_ble_eq_true rfl, Nat.le_of_ble_eq_true rfl⟩ rfl rfl (Nat.le_of_ble_eq_true rfl) ⟨hk.1, vp_lt hi11⟩ rfl (show vwCl[1]? = some (RX1, TX1, 1) from rfl) rfl (fun r13 S12 h => ?_)
            refine sh_if_ne (tgt := 74) (pc := 62) dX6_takeVote_62 (by decide) (fun hc14 => ?_) (fun hc14 => ?_)
            · have h := h.1 hc14
              refine sh_ldc (v := (-1000002)) (pc := 74) dX6_takeVote_74 kc_X6_84 ?_
              exact sh_ret_i (pc := 76) dX6_takeVote_76 rfl ⟨rfl, rfl⟩ h
            · have h := h.2 hc14
              refine sh_aload (pc := 65) dX6_takeVote_65 rfl ?_
              refine sh_iload_n (pc := 67) dX6_takeVote_67 rfl ?_
              refine sh_ci (N := mX5_hasVoteOf) (pc := 68) dX6_takeVote_68 ml_X6_261 h mf_X5_hasVoteOf iv_X5_hasVoteOf ⟨Nat.le_of_ble_eq_true rfl, Nat.le_of_ble_eq_true rfl⟩ rfl rfl (Nat.le_of_ble_eq_true rfl) ⟨hk.1, vp_lt hi9⟩ rfl (show vwCl[5]? = some (RX5, TX5, 7) from rfl) rfl (fun r16 S15 h => ?_)
              refine sh_if_eq (tgt := 77) (pc := 71) dX6_takeVote_71 (by decide) (fun hc17 => ?_) (fun hc17 => ?_)
              · have h := h.1 hc17
                refine sh_aload (pc := 77) dX6_takeVote_77 rfl ?_
                refine sh_iload_n (pc := 79) dX6_takeVote_79 rfl ?_
                refine sh_iload_n (pc := 80) dX6_takeVote_80 rfl ?_
                refine sh_iconst (v := 1) (pc := 81) dX6_takeVote_81 rfl ?_
                refine sh_icmp_ne (tgt := 89) (pc := 82) dX6_takeVote_82 (by decide) (fun hc18 => ?_) (fun hc18 => ?_)
                · have h := h.1 hc18
                  refine sh_iconst (v := 0) (pc := 89) dX6_takeVote_89 rfl ?_
                  refine sh_cu (N := mX5_countVote) (pc := 90) dX6_takeVote_90 ml_X6_264 h mf_X5_countVote iv_X5_countVote ⟨Nat.le_of_ble_eq_true rfl, Nat.le_of_ble_eq_true rfl⟩ rfl rfl (Nat.le_of_ble_eq_true rfl) ⟨hk.1, vp_lt hi9⟩ rfl (show vwCl[5]? = some (RX5, TX5, 7) from rfl) rfl (fun S19 h => ?_)
                  refine sh_aload (pc := 93) dX6_takeVote_93 rfl ?_
                  refine sh_aload_n (pc := 95) dX6_takeVote_95 rfl ?_
                  refine sh_gf (pc := 96) dX6_takeVote_96 fl_X6_18 cf_6 hk rfl rfl ?_
                  refine sh_iconst (v := (-1)) (pc := 99) dX6_takeVote_99 rfl ?_
                  refine sh_ci (N := mX2_countNotGone) (pc := 100) dX6_takeVote_100 ml_X6_80 h mf_X2_countNotGone iv_X2_countNotGone ⟨Nat.le_of_ble_eq_true rfl, Nat.le_of_ble_eq_true rfl⟩ rfl rfl (Nat.le_of_ble_eq_true rfl) hk rfl (show vwCl[2]? = some (RX2, TX2, 5) from rfl) rfl (fun r21 S20 h => ?_)
                  refine sh_ci (N := mX5_outcome) (pc := 103) dX6_takeVote_103 ml_X6_268 h mf_X5_outcome iv_X5_outcome ⟨Nat.le_of_ble_eq_true rfl, Nat.le_of_ble_eq_true rfl⟩ rfl rfl (Nat.le_of_ble_eq_true rfl) ⟨hk.1, vp_lt hi9⟩ rfl (show vwCl[5]? = some (RX5, TX5, 7) from rfl) rfl (fun r23 S22 h => ?_)
                  refine sh_istore (ls' := [(5, sh_I r23), (4, sh_R (5, k, (a1.toNatClampNeg))), (0, sh_R (6, k, 0)), (1, sh_I a1), (2, sh_I a2), (3, sh_I a3)]) (pc := 106) dX6_takeVote_106 (by decide) rfl ?_
                  refine sh_iload (pc := 108) dX6_takeVote_108 rfl ?_
                  refine sh_iconst (v := 1) (pc := 110) dX6_takeVote_110 rfl ?_
                  refine sh_icmp_ne (tgt := 147) (pc := 111) dX6_takeVote_111 (by decide) (fun hc24 => ?_) (fun hc24 => ?_)
                  · have h := h.1 hc24
                    refine sh_aload (pc := 147) dX6_takeVote_147 rfl ?_
                    refine sh_iload (pc := 149) dX6_takeVote_149 rfl ?_
                    refine sh_iconst (v := 2) (pc := 151) dX6_takeVote_151 rfl ?_
                    refine sh_icmp_ne (tgt := 159) (pc := 152) dX6_takeVote_152 (by decide) (fun hc25 => ?_) (fun hc25 => ?_)
                    · have h := h.1 hc25
                      refine sh_iconst (v := 0) (pc := 159) dX6_takeVote_159 rfl ?_
                      refine sh_pfz (pc := 160) dX6_takeVote_160 fl_X6_251 cf_5 ft_5_0 (by decide) ⟨hk.1, vp_lt hi9⟩ rfl (Nat.le_of_ble_eq_true rfl) rfl ?_
                      refine sh_topS (fun S26 hS26 => ?_)
                      have h := h S26 hS26
                      refine sh_iload (pc := 163) dX6_takeVote_163 rfl ?_
                      exact sh_ret_i (pc := 165) dX6_takeVote_165 rfl ⟨rfl, rfl⟩ h
                    · have h := h.2 hc25
                      refine sh_iconst (v := 1) (pc := 155) dX6_takeVote_155 rfl ?_
                      refine sh_goto (tgt := 160) (pc := 156) dX6_takeVote_156 (by decide) ?_
                      refine sh_pfz (pc := 160) dX6_takeVote_160 fl_X6_251 cf_5 ft_5_0 (by decide) ⟨hk.1, vp_lt hi9⟩ rfl (Nat.le_of_ble_eq_true rfl) rfl ?_
                      refine sh_topS (fun S27 hS27 => ?_)
                      have h := h S27 hS27
                      refine sh_iload (pc := 163) dX6_takeVote_163 rfl ?_
                      exact sh_ret_i (pc := 165) dX6_takeVote_165 rfl ⟨rfl, rfl⟩ h
                  · have h := h.2 hc24
                    refine sh_aload_n (pc := 114) dX6_takeVote_114 rfl ?_
                    refine sh_gf (pc := 115) dX6_takeVote_115 fl_X6_18 cf_6 hk rfl rfl ?_
                    refine sh_aload (pc := 118) dX6_takeVote_118 rfl ?_
                    refine sh_gf (pc := 120) dX6_takeVote_120 fl_X6_271 cf_5 ⟨hk.1, vp_lt hi9⟩ rfl rfl ?_
                    refine sh_iconst (v := 2) (pc := 123) dX6_takeVote_123 rfl ?_
                    refine sh_iconst (v := (-1)) (pc := 124) dX6_takeVote_124 rfl ?_
                    refine sh_cu (N := mX2_share) (pc := 125) dX6_takeVote_125 ml_X6_232 h mf_X2_share iv_X2_share ⟨Nat.le_of_ble_eq_true rfl, Nat.le_of_ble_eq_true rfl⟩ rfl rfl (Nat.le_of_ble_eq_true rfl) hk rfl (show vwCl[2]? = some (RX2, TX2, 5) from rfl) rfl (fun S28 h => ?_)
                    refine sh_aload_n (pc := 128) dX6_takeVote_128 rfl ?_
                    refine sh_gf (pc := 129) dX6_takeVote_129 fl_X6_24 cf_6 hk rfl rfl ?_
                    refine sh_iload_n (pc := 132) dX6_takeVote_132 rfl ?_
                    obtain ⟨hi29, h⟩ := h
                    refine sh_aa (o' := (7, k, (a1.toNatClampNeg))) (pc := 133) dX6_takeVote_133 (by decide) hk rfl hi29 rfl ?_
                    refine sh_dup (pc := 134) dX6_takeVote_134 rfl ?_
                    refine sh_gf (pc := 135) dX6_takeVote_135 fl_X6_244 cf_7 ⟨hk.1, vp_lt hi29⟩ rfl rfl ?_
                    refine sh_aload (pc := 138) dX6_takeVote_138 rfl ?_
                    refine sh_gf (pc := 140) dX6_takeVote_140 fl_X6_274 cf_5 ⟨hk.1, vp_lt hi9⟩ rfl rfl ?_
                    refine sh_isub (pc := 143) dX6_takeVote_143 ?_
                    refine sh_pfi (pc := 144) dX6_takeVote_144 fl_X6_244 cf_7 ft_7_2 ⟨hk.1, vp_lt hi29⟩ rfl (Nat.le_of_ble_eq_true rfl) rfl ?_
                    refine sh_topS (fun S30 hS30 => ?_)
                    have h := h S30 hS30
                    refine sh_aload (pc := 147) dX6_takeVote_147 rfl ?_
                    refine sh_iload (pc := 149) dX6_takeVote_149 rfl ?_
                    refine sh_iconst (v := 2) (pc := 151) dX6_takeVote_151 rfl ?_
                    refine sh_icmp_ne (tgt := 159) (pc := 152) dX6_takeVote_152 (by decide) (fun hc31 => ?_) (fun hc31 => ?_)
                    · have h := h.1 hc31
                      refine sh_iconst (v := 0) (pc := 159) dX6_takeVote_159 rfl ?_
                      refine sh_pfz (pc := 160) dX6_takeVote_160 fl_X6_251 cf_5 ft_5_0 (by decide) ⟨hk.1, vp_lt hi9⟩ rfl (Nat.le_of_ble_eq_true rfl) rfl ?_
                      refine sh_topS (fun S32 hS32 => ?_)
                      have h := h S32 hS32
                      refine sh_iload (pc := 163) dX6_takeVote_163 rfl ?_
                      exact sh_ret_i (pc := 165) dX6_takeVote_165 rfl ⟨rfl, rfl⟩ h
                    · have h := h.2 hc31
                      refine sh_iconst (v := 1) (pc := 155) dX6_takeVote_155 rfl ?_
                      refine sh_goto (tgt := 160) (pc := 156) dX6_takeVote_156 (by decide) ?_
                      refine sh_pfz (pc := 160) dX6_takeVote_160 fl_X6_251 cf_5 ft_5_0 (by decide) ⟨hk.1, vp_lt hi9⟩ rfl (Nat.le_of_ble_eq_true rfl) rfl ?_
                      refine sh_topS (fun S33 hS33 => ?_)
                      have h := h S33 hS33
                      refine sh_iload (pc := 163) dX6_takeVote_163 rfl ?_
                      exact sh_ret_i (pc := 165) dX6_takeVote_165 rfl ⟨rfl, rfl⟩ h
                · have h := h.2 hc18
                  refine sh_iconst (v := 1) (pc := 85) dX6_takeVote_85 rfl ?_
                  refine sh_goto (tgt := 90) (pc := 86) dX6_takeVote_86 (by decide) ?_
                  refine sh_cu (N := mX5_countVote) (pc := 90) dX6_takeVote_90 ml_X6_264 h mf_X5_countVote iv_X5_countVote ⟨Nat.le_of_ble_eq_true rfl, Nat.le_of_ble_eq_true rfl⟩ rfl rfl (Nat.le_of_ble_eq_true rfl) ⟨hk.1, vp_lt hi9⟩ rfl (show vwCl[5]? = some (RX5, TX5, 7) from rfl) rfl (fun S34 h => ?_)
                  refine sh_aload (pc := 93) dX6_takeVote_93 rfl ?_
                  refine sh_aload_n (pc := 95) dX6_takeVote_95 rfl ?_
                  refine sh_gf (pc := 96) dX6_takeVote_96 fl_X6_18 cf_6 hk rfl rfl ?_
                  refine sh_iconst (v := (-1)) (pc := 99) dX6_takeVote_99 rfl ?_
                  refine sh_ci (N := mX2_countNotGone) (pc := 100) dX6_takeVote_100 ml_X6_80 h mf_X2_countNotGone iv_X2_countNotGone ⟨Nat.le_of_ble_eq_true rfl, Nat.le_of_ble_eq_true rfl⟩ rfl rfl (Nat.le_of_ble_eq_true rfl) hk rfl (show vwCl[2]? = some (RX2, TX2, 5) from rfl) rfl (fun r36 S35 h => ?_)
                  refine sh_ci (N := mX5_outcome) (pc := 103) dX6_takeVote_103 ml_X6_268 h mf_X5_outcome iv_X5_outcome ⟨Nat.le_of_ble_eq_true rfl, Nat.le_of_ble_eq_true rfl⟩ rfl rfl (Nat.le_of_ble_eq_true rfl) ⟨hk.1, vp_lt hi9⟩ rfl (show vwCl[5]? = some (RX5, TX5, 7) from rfl) rfl (fun r38 S37 h => ?_)
                  refine sh_istore (ls' := [(5, sh_I r38), (4, sh_R (5, k, (a1.toNatClampNeg))), (0, sh_R (6, k, 0)), (1, sh_I a1), (2, sh_I a2), (3, sh_I a3)]) (pc := 106) dX6_takeVote_106 (by decide) rfl ?_
                  refine sh_iload (pc := 108) dX6_takeVote_108 rfl ?_
                  refine sh_iconst (v := 1) (pc := 110) dX6_takeVote_110 rfl ?_
                  refine sh_icmp_ne (tgt := 147) (pc := 111) dX6_takeVote_111 (by decide) (fun hc39 => ?_) (fun hc39 => ?_)
                  · have h := h.1 hc39
                    refine sh_aload (pc := 147) dX6_takeVote_147 rfl ?_
                    refine sh_iload (pc := 149) dX6_takeVote_149 rfl ?_
                    refine sh_iconst (v := 2) (pc := 151) dX6_takeVote_151 rfl ?_
                    refine sh_icmp_ne (tgt := 159) (pc := 152) dX6_takeVote_152 (by decide) (fun hc40 => ?_) (fun hc40 => ?_)
                    · have h := h.1 hc40
                      refine sh_iconst (v := 0) (pc := 159) dX6_takeVote_159 rfl ?_
                      refine sh_pfz (pc := 160) dX6_takeVote_160 fl_X6_251 cf_5 ft_5_0 (by decide) ⟨hk.1, vp_lt hi9⟩ rfl (Nat.le_of_ble_eq_true rfl) rfl ?_
                      refine sh_topS (fun S41 hS41 => ?_)
                      have h := h S41 hS41
                      refine sh_iload (pc := 163) dX6_takeVote_163 rfl ?_
                      exact sh_ret_i (pc := 165) dX6_takeVote_165 rfl ⟨rfl, rfl⟩ h
                    · have h := h.2 hc40
                      refine sh_iconst (v := 1) (pc := 155) dX6_takeVote_155 rfl ?_
                      refine sh_goto (tgt := 160) (pc := 156) dX6_takeVote_156 (by decide) ?_
                      refine sh_pfz (pc := 160) dX6_takeVote_160 fl_X6_251 cf_5 ft_5_0 (by decide) ⟨hk.1, vp_lt hi9⟩ rfl (Nat.le_of_ble_eq_true rfl) rfl ?_
                      refine sh_topS (fun S42 hS42 => ?_)
                      have h := h S42 hS42
                      refine sh_iload (pc := 163) dX6_takeVote_163 rfl ?_
                      exact sh_ret_i (pc := 165) dX6_takeVote_165 rfl ⟨rfl, rfl⟩ h
                  · have h := h.2 hc39
                    refine sh_aload_n (pc := 114) dX6_takeVote_114 rfl ?_
                    refine sh_gf (pc := 115) dX6_takeVote_115 fl_X6_18 cf_6 hk rfl rfl ?_
                    refine sh_aload (pc := 118) dX6_takeVote_118 rfl ?_
                    refine sh_gf (pc := 120) dX6_takeVote_120 fl_X6_271 cf_5 ⟨hk.1, vp_lt hi9⟩ rfl rfl ?_
                    refine sh_iconst (v := 2) (pc := 123) dX6_takeVote_123 rfl ?_
                    refine sh_iconst (v := (-1)) (pc := 124) dX6_takeVote_124 rfl ?_
                    refine sh_cu (N := mX2_share) (pc := 125) dX6_takeVote_125 ml_X6_232 h mf_X2_share iv_X2_share ⟨Nat.le_of_ble_eq_true rfl, Nat.le_of_ble_eq_true rfl⟩ rfl rfl (Nat.le_of_ble_eq_true rfl) hk rfl (show vwCl[2]? = some (RX2, TX2, 5) from rfl) rfl (fun S43 h => ?_)
                    refine sh_aload_n (pc := 128) dX6_takeVote_128 rfl ?_
                    refine sh_gf (pc := 129) dX6_takeVote_129 fl_X6_24 cf_6 hk rfl rfl ?_
                    refine sh_iload_n (pc := 132) dX6_takeVote_132 rfl ?_
                    obtain ⟨hi44, h⟩ := h
                    refine sh_aa (o' := (7, k, (a1.toNatClampNeg))) (pc := 133) dX6_takeVote_133 (by decide) hk rfl hi44 rfl ?_
                    refine sh_dup (pc := 134) dX6_takeVote_134 rfl ?_
                    refine sh_gf (pc := 135) dX6_takeVote_135 fl_X6_244 cf_7 ⟨hk.1, vp_lt hi44⟩ rfl rfl ?_
                    refine sh_aload (pc := 138) dX6_takeVote_138 rfl ?_
                    refine sh_gf (pc := 140) dX6_takeVote_140 fl_X6_274 cf_5 ⟨hk.1, vp_lt hi9⟩ rfl rfl ?_
                    refine sh_isub (pc := 143) dX6_takeVote_143 ?_
                    refine sh_pfi (pc := 144) dX6_takeVote_144 fl_X6_244 cf_7 ft_7_2 ⟨hk.1, vp_lt hi44⟩ rfl (Nat.le_of_ble_eq_true rfl) rfl ?_
                    refine sh_topS (fun S45 hS45 => ?_)
                    have h := h S45 hS45
                    refine sh_aload (pc := 147) dX6_takeVote_147 rfl ?_
                    refine sh_iload (pc := 149) dX6_takeVote_149 rfl ?_
                    refine sh_iconst (v := 2) (pc := 151) dX6_takeVote_151 rfl ?_
                    refine sh_icmp_ne (tgt := 159) (pc := 152) dX6_takeVote_152 (by decide) (fun hc46 => ?_) (fun hc46 => ?_)
                    · have h := h.1 hc46
                      refine sh_iconst (v := 0) (pc := 159) dX6_takeVote_159 rfl ?_
                      refine sh_pfz (pc := 160) dX6_takeVote_160 fl_X6_251 cf_5 ft_5_0 (by decide) ⟨hk.1, vp_lt hi9⟩ rfl (Nat.le_of_ble_eq_true rfl) rfl ?_
                      refine sh_topS (fun S47 hS47 => ?_)
                      have h := h S47 hS47
                      refine sh_iload (pc := 163) dX6_takeVote_163 rfl ?_
                      exact sh_ret_i (pc := 165) dX6_takeVote_165 rfl ⟨rfl, rfl⟩ h
                    · have h := h.2 hc46
                      refine sh_iconst (v := 1) (pc := 155) dX6_takeVote_155 rfl ?_
                      refine sh_goto (tgt := 160) (pc := 156) dX6_takeVote_156 (by decide) ?_
                      refine sh_pfz (pc := 160) dX6_takeVote_160 fl_X6_251 cf_5 ft_5_0 (by decide) ⟨hk.1, vp_lt hi9⟩ rfl (Nat.le_of_ble_eq_true rfl) rfl ?_
                      refine sh_topS (fun S48 hS48 => ?_)
                      have h := h S48 hS48
                      refine sh_iload (pc := 163) dX6_takeVote_163 rfl ?_
                      exact sh_ret_i (pc := 165) dX6_takeVote_165 rfl ⟨rfl, rfl⟩ h
              · have h := h.2 hc17
                refine sh_ldc (v := (-1000002)) (pc := 74) dX6_takeVote_74 kc_X6_84 ?_
                exact sh_ret_i (pc := 76) dX6_takeVote_76 rfl ⟨rfl, rfl⟩ h
        · have h := h.2 hc8
          refine sh_ldc (v := (-1000001)) (pc := 28) dX6_takeVote_28 kc_X6_58 ?_
          exact sh_ret_i (pc := 30) dX6_takeVote_30 rfl ⟨rfl, rfl⟩ h

set_option maxRecDepth 100000 in
set_option maxHeartbeats 4000000 in
theorem wp_X6_tellOfProposal {g : sh_G} {S : sh_S} {sz : Nat} {Q : Int32 → sh_S → Prop} {k : Nat} (hk : sh_ok (6, k, 0)) {a1 : Int32} {a2 : Int32} 
    (h : (sh_Ci g mX6_hasTool [sh_R (6, k, 0), sh_I a1] S sz (fun r2 S1 => ((r2 = 0 → Q (-1000001) S1) ∧ (¬ r2 = 0 → ((a2 < 0 → Q (-1000001) S1) ∧ (¬ a2 < 0 → ((a2 ≤ 4 → (vp_in a1 20 ∧ (((S1 (5, k, (a1.toNatClampNeg)) 0) = 0 → Q (-1000004) S1) ∧ (¬ (S1 (5, k, (a1.toNatClampNeg)) 0) = 0 → (sh_Ci g mX5_tell [sh_R (5, k, (a1.toNatClampNeg)), sh_I a2] S1 sz (fun r9 S8 => Q r9 S8)))))) ∧ (¬ a2 ≤ 4 → Q (-1000001) S1))))))))) :
    sh_Ci g mX6_tellOfProposal [sh_R (6, k, 0), sh_I a1, sh_I a2] S sz Q := by
  refine sh_enter (ls := [(0, sh_R (6, k, 0)), (1, sh_I a1), (2, sh_I a2)]) (by decide +kernel) (Nat.le_of_ble_eq_true rfl) rfl ?_
  refine sh_aload_n (pc := 0) dX6_tellOfProposal_0 rfl ?_
  refine sh_iload_n (pc := 1) dX6_tellOfProposal_1 rfl ?_
  refine sh_ci (N := mX6_hasTool) (pc := 2) dX6_tellOfProposal_2 ml_X6_88 h mf_X6_hasTool iv_X6_hasTool ⟨Nat.le_of_ble_eq_true rfl, Nat.le_of_ble_eq_true rfl⟩ rfl rfl (Nat.le_of_ble_eq_true rfl) hk rfl (show vwCl[6]? = some (RX6, TX6, 5) from rfl) rfl (fun r2 S1 h => ?_)
  refine sh_if_eq (tgt := 17) (pc := 5) dX6_tellOfProposal_5 (by decide) (fun hc3 => ?_) (fun hc3 => ?_)
  · have h := h.1 hc3
    refine sh_ldc (v := (-1000001)) (pc := 17) dX6_tellOfProposal_17 kc_X6_58 ?_
    exact sh_ret_i (pc := 19) dX6_tellOfProposal_19 rfl ⟨rfl, rfl⟩ h
  · have h := h.2 hc3
    refine sh_iload_n (pc := 8) dX6_tellOfProposal_8 rfl ?_
    refine sh_if_lt (tgt := 17) (pc := 9) dX6_tellOfProposal_9 (by decide) (fun hc4 => ?_) (fun hc4 => ?_)
    · have h := h.1 hc4
      refine sh_ldc (v := (-1000001)) (pc := 17) dX6_tellOfProposal_17 kc_X6_58 ?_
      exact sh_ret_i (pc := 19) dX6_tellOfProposal_19 rfl ⟨rfl, rfl⟩ h
    · have h := h.2 hc4
      refine sh_iload_n (pc := 12) dX6_tellOfProposal_12 rfl ?_
      refine sh_iconst (v := 4) (pc := 13) dX6_tellOfProposal_13 rfl ?_
      refine sh_icmp_le (tgt := 20) (pc := 14) dX6_tellOfProposal_14 (by decide) (fun hc5 => ?_) (fun hc5 => ?_)
      · have h := h.1 hc5
        refine sh_aload_n (pc := 20) dX6_tellOfProposal_20 rfl ?_
        refine sh_gf (pc := 21) dX6_tellOfProposal_21 fl_X6_24 cf_6 hk rfl rfl ?_
        refine sh_iload_n (pc := 24) dX6_tellOfProposal_24 rfl ?_
        obtain ⟨hi6, h⟩ := h
        refine sh_aa (o' := (7, k, (a1.toNatClampNeg))) (pc := 25) dX6_tellOfProposal_25 (by decide) hk rfl hi6 rfl ?_
        refine sh_gf (pc := 26) dX6_tellOfProposal_26 fl_X6_247 cf_7 ⟨hk.1, vp_lt hi6⟩ rfl rfl ?_
        refine sh_astore_n (ls' := [(3, sh_R (5, k, (a1.toNatClampNeg))), (0, sh_R (6, k, 0)), (1, sh_I a1), (2, sh_I a2)]) (pc := 29) dX6_tellOfProposal_29 (by decide) rfl ?_
        refine sh_aload_n (pc := 30) dX6_tellOfProposal_30 rfl ?_
        refine sh_gf (pc := 31) dX6_tellOfProposal_31 fl_X6_251 cf_5 ⟨hk.1, vp_lt hi6⟩ rfl rfl ?_
        refine sh_if_eq (tgt := 45) (pc := 34) dX6_tellOfProposal_34 (by decide) (fun hc7 => ?_) (fun hc7 => ?_)
        · have h := h.1 hc7
          refine sh_ldc (v := (-1000004)) (pc := 45) dX6_tellOfProposal_45 kc_X6_144 ?_
          exact sh_ret_i (pc := 47) dX6_tellOfProposal_47 rfl ⟨rfl, rfl⟩ h
        · have h := h.2 hc7
          refine sh_aload_n (pc := 37) dX6_tellOfProposal_37 rfl ?_
          refine sh_iload_n (pc := 38) dX6_tellOfProposal_38 rfl ?_
          refine sh_ci (N := mX5_tell) (pc := 39) dX6_tellOfProposal_39 ml_X6_277 h mf_X5_tell iv_X5_tell ⟨Nat.le_of_ble_eq_true rfl, Nat.le_of_ble_eq_true rfl⟩ rfl rfl (Nat.le_of_ble_eq_true rfl) ⟨hk.1, vp_lt hi6⟩ rfl (show vwCl[5]? = some (RX5, TX5, 7) from rfl) rfl (fun r9 S8 h => ?_)
          refine sh_goto (tgt := 47) (pc := 42) dX6_tellOfProposal_42 (by decide) ?_
          exact sh_ret_i (pc := 47) dX6_tellOfProposal_47 rfl ⟨rfl, rfl⟩ h
      · have h := h.2 hc5
        refine sh_ldc (v := (-1000001)) (pc := 17) dX6_tellOfProposal_17 kc_X6_58 ?_
        exact sh_ret_i (pc := 19) dX6_tellOfProposal_19 rfl ⟨rfl, rfl⟩ h

set_option maxRecDepth 100000 in
set_option maxHeartbeats 4000000 in
theorem wp_X6_lendToShed {g : sh_G} {S : sh_S} {sz : Nat} {Q : Int32 → sh_S → Prop} {k : Nat} (hk : sh_ok (6, k, 0)) {a1 : Int32} {a2 : Int32} {a3 : Int32} {a4 : Int32} 
    (h : (sh_Ci g mX6_hasTool [sh_R (6, k, 0), sh_I a1] S sz (fun r2 S1 => ((r2 = 0 → Q (-1000001) S1) ∧ (¬ r2 = 0 → ((a2 < 0 → Q (-1000001) S1) ∧ (¬ a2 < 0 → ((4 ≤ a2 → Q (-1000001) S1) ∧ (¬ 4 ≤ a2 → ((a3 < 1 → Q (-1000001) S1) ∧ (¬ a3 < 1 → ((60 < a3 → Q (-1000001) S1) ∧ (¬ 60 < a3 → ((a4 < 0 → Q (-1000001) S1) ∧ (¬ a4 < 0 → ((a4 ≤ 40 → (vp_in a1 20 ∧ (((S1 (7, k, (a1.toNatClampNeg)) 4) = 0 → (vp_in a1 20 ∧ (sh_Cu g mX7_goOut [sh_R (7, k, (a1.toNatClampNeg)), sh_I 3, sh_I a2, sh_I (S1 (6, k, 0) 4), sh_I a3] S1 sz (fun S13 => (vp_in a1 20 ∧ (∀ S15 : sh_S, S15 = sh_sr S13 (7, k, (a1.toNatClampNeg)) (upd (S13 (7, k, (a1.toNatClampNeg))) 8 a4) → (vp_in a1 20 ∧ Q (S15 (7, k, (a1.toNatClampNeg)) 7) S15))))))) ∧ (¬ (S1 (7, k, (a1.toNatClampNeg)) 4) = 0 → Q (-1000002) S1)))) ∧ (¬ a4 ≤ 40 → Q (-1000001) S1))))))))))))))))) :
    sh_Ci g mX6_lendToShed [sh_R (6, k, 0), sh_I a1, sh_I a2, sh_I a3, sh_I a4] S sz Q := by
  refine sh_enter (ls := [(0, sh_R (6, k, 0)), (1, sh_I a1), (2, sh_I a2), (3, sh_I a3), (4, sh_I a4)]) (by decide +kernel) (Nat.le_of_ble_eq_true rfl) rfl ?_
  refine sh_aload_n (pc := 0) dX6_lendToShed_0 rfl ?_
  refine sh_iload_n (pc := 1) dX6_lendToShed_1 rfl ?_
  refine sh_ci (N := mX6_hasTool) (pc := 2) dX6_lendToShed_2 ml_X6_88 h mf_X6_hasTool iv_X6_hasTool ⟨Nat.le_of_ble_eq_true rfl, Nat.le_of_ble_eq_true rfl⟩ rfl rfl (Nat.le_of_ble_eq_true rfl) hk rfl (show vwCl[6]? = some (RX6, TX6, 5) from rfl) rfl (fun r2 S1 h => ?_)
  refine sh_if_eq (tgt := 40) (pc := 5) dX6_lendToShed_5 (by decide) (fun hc3 => ?_) (fun hc3 => ?_)
  · have h := h.1 hc3
    refine sh_ldc (v := (-1000001)) (pc := 40) dX6_lendToShed_40 kc_X6_58 ?_
    exact sh_ret_i (pc := 42) dX6_lendToShed_42 rfl ⟨rfl, rfl⟩ h
  · have h := h.2 hc3
    refine sh_iload_n (pc := 8) dX6_lendToShed_8 rfl ?_
    refine sh_if_lt (tgt := 40) (pc := 9) dX6_lendToShed_9 (by decide) (fun hc4 => ?_) (fun hc4 => ?_)
    · have h := h.1 hc4
      refine sh_ldc (v := (-1000001)) (pc := 40) dX6_lendToShed_40 kc_X6_58 ?_
      exact sh_ret_i (pc := 42) dX6_lendToShed_42 rfl ⟨rfl, rfl⟩ h
    · have h := h.2 hc4
      refine sh_iload_n (pc := 12) dX6_lendToShed_12 rfl ?_
      refine sh_iconst (v := 4) (pc := 13) dX6_lendToShed_13 rfl ?_
      refine sh_icmp_ge (tgt := 40) (pc := 14) dX6_lendToShed_14 (by decide) (fun hc5 => ?_) (fun hc5 => ?_)
      · have h := h.1 hc5
        refine sh_ldc (v := (-1000001)) (pc := 40) dX6_lendToShed_40 kc_X6_58 ?_
        exact sh_ret_i (pc := 42) dX6_lendToShed_42 rfl ⟨rfl, rfl⟩ h
      · have h := h.2 hc5
        refine sh_iload_n (pc := 17) dX6_lendToShed_17 rfl ?_
        refine sh_iconst (v := 1) (pc := 18) dX6_lendToShed_18 rfl ?_
        refine sh_icmp_lt (tgt := 40) (pc := 19) dX6_lendToShed_19 (by decide) (fun hc6 => ?_) (fun hc6 => ?_)
        · have h := h.1 hc6
          refine sh_ldc (v := (-1000001)) (pc := 40) dX6_lendToShed_40 kc_X6_58 ?_
          exact sh_ret_i (pc := 42) dX6_lendToShed_42 rfl ⟨rfl, rfl⟩ h
        · have h := h.2 hc6
          refine sh_iload_n (pc := 22) dX6_lendToShed_22 rfl ?_
          refine sh_bipush (v := 60) (pc := 23) dX6_lendToShed_23 rfl ?_
          refine sh_icmp_gt (tgt := 40) (pc := 25) dX6_lendToShed_25 (by decide) (fun hc7 => ?_) (fun hc7 => ?_)
          · have h := h.1 hc7
            refine sh_ldc (v := (-1000001)) (pc := 40) dX6_lendToShed_40 kc_X6_58 ?_
            exact sh_ret_i (pc := 42) dX6_lendToShed_42 rfl ⟨rfl, rfl⟩ h
          · have h := h.2 hc7
            refine sh_iload (pc := 28) dX6_lendToShed_28 rfl ?_
            refine sh_if_lt (tgt := 40) (pc := 30) dX6_lendToShed_30 (by decide) (fun hc8 => ?_) (fun hc8 => ?_)
            · have h := h.1 hc8
              refine sh_ldc (v := (-1000001)) (pc := 40) dX6_lendToShed_40 kc_X6_58 ?_
              exact sh_ret_i (pc := 42) dX6_lendToShed_42 rfl ⟨rfl, rfl⟩ h
            · have h := h.2 hc8
              refine sh_iload (pc := 33) dX6_lendToShed_33 rfl ?_
              refine sh_bipush (v := 40) (pc := 35) dX6_lendToShed_35 rfl ?_
              refine sh_icmp_le (tgt := 43) (pc := 37) dX6_lendToShed_37 (by decide) (fun hc9 => ?_) (fun hc9 => ?_)
              · have h := h.1 hc9
                refine sh_aload_n (pc := 43) dX6_lendToShed_43 rfl ?_
                refine sh_gf (pc := 44) dX6_lendToShed_44 fl_X6_24 cf_6 hk rfl rfl ?_
                refine sh_iload_n (pc := 47) dX6_lendToShed_47 rfl ?_
                obtain ⟨hi10, h⟩ := h
                refine sh_aa (o' := (7, k, (a1.toNatClampNeg))) (pc := 48) dX6_lendToShed_48 (by decide) hk rfl hi10 rfl ?_
                refine sh_gf (pc := 49) dX6_lendToShed_49 fl_X6_94 cf_7 ⟨hk.1, vp_lt hi10⟩ rfl rfl ?_
                refine sh_if_eq (tgt := 58) (pc := 52) dX6_lendToShed_52 (by decide) (fun hc11 => ?_) (fun hc11 => ?_)
                · have h := h.1 hc11
                  refine sh_aload_n (pc := 58) dX6_lendToShed_58 rfl ?_
                  refine sh_gf (pc := 59) dX6_lendToShed_59 fl_X6_24 cf_6 hk rfl rfl ?_
                  refine sh_iload_n (pc := 62) dX6_lendToShed_62 rfl ?_
                  obtain ⟨hi12, h⟩ := h
                  refine sh_aa (o' := (7, k, (a1.toNatClampNeg))) (pc := 63) dX6_lendToShed_63 (by decide) hk rfl hi12 rfl ?_
                  refine sh_iconst (v := 3) (pc := 64) dX6_lendToShed_64 rfl ?_
                  refine sh_iload_n (pc := 65) dX6_lendToShed_65 rfl ?_
                  refine sh_aload_n (pc := 66) dX6_lendToShed_66 rfl ?_
                  refine sh_gf (pc := 67) dX6_lendToShed_67 fl_X6_49 cf_6 hk rfl rfl ?_
                  refine sh_iload_n (pc := 70) dX6_lendToShed_70 rfl ?_
                  refine sh_cu (N := mX7_goOut) (pc := 71) dX6_lendToShed_71 ml_X6_148 h mf_X7_goOut iv_X7_goOut ⟨Nat.le_of_ble_eq_true rfl, Nat.le_of_ble_eq_true rfl⟩ rfl rfl (Nat.le_of_ble_eq_true rfl) ⟨hk.1, vp_lt hi12⟩ rfl (show vwCl[7]? = some (RX7, TX7, 14) from rfl) rfl (fun S13 h => ?_)
                  refine sh_aload_n (pc := 74) dX6_lendToShed_74 rfl ?_
                  refine sh_gf (pc := 75) dX6_lendToShed_75 fl_X6_24 cf_6 hk rfl rfl ?_
                  refine sh_iload_n (pc := 78) dX6_lendToShed_78 rfl ?_
                  obtain ⟨hi14, h⟩ := h
                  refine sh_aa (o' := (7, k, (a1.toNatClampNeg))) (pc := 79) dX6_lendToShed_79 (by decide) hk rfl hi14 rfl ?_
                  refine sh_iload (pc := 80) dX6_lendToShed_80 rfl ?_
                  refine sh_pfi (pc := 82) dX6_lendToShed_82 fl_X6_278 cf_7 ft_7_8 ⟨hk.1, vp_lt hi14⟩ rfl (Nat.le_of_ble_eq_true rfl) rfl ?_
                  refine sh_topS (fun S15 hS15 => ?_)
                  have h := h S15 hS15
                  refine sh_aload_n (pc := 85) dX6_lendToShed_85 rfl ?_
                  refine sh_gf (pc := 86) dX6_lendToShed_86 fl_X6_24 cf_6 hk rfl rfl ?_
                  refine sh_iload_n (pc := 89) dX6_lendToShed_89 rfl ?_
                  obtain ⟨hi16, h⟩ := h
                  refine sh_aa (o' := (7, k, (a1.toNatClampNeg))) (pc := 90) dX6_lendToShed_90 (by decide) hk rfl hi16 rfl ?_
                  refine sh_gf (pc := 91) dX6_lendToShed_91 fl_X6_152 cf_7 ⟨hk.1, vp_lt hi16⟩ rfl rfl ?_
                  exact sh_ret_i (pc := 94) dX6_lendToShed_94 rfl ⟨rfl, rfl⟩ h
                · have h := h.2 hc11
                  refine sh_ldc (v := (-1000002)) (pc := 55) dX6_lendToShed_55 kc_X6_84 ?_
                  exact sh_ret_i (pc := 57) dX6_lendToShed_57 rfl ⟨rfl, rfl⟩ h
              · have h := h.2 hc9
                refine sh_ldc (v := (-1000001)) (pc := 40) dX6_lendToShed_40 kc_X6_58 ?_
                exact sh_ret_i (pc := 42) dX6_lendToShed_42 rfl ⟨rfl, rfl⟩ h

set_option maxRecDepth 100000 in
set_option maxHeartbeats 4000000 in
theorem wp_X6_takeFromShed {g : sh_G} {S : sh_S} {sz : Nat} {Q : Int32 → sh_S → Prop} {k : Nat} (hk : sh_ok (6, k, 0)) {a1 : Int32} 
    (h : (sh_Ci g mX6_hasTool [sh_R (6, k, 0), sh_I a1] S sz (fun r2 S1 => ((¬ r2 = 0 → (vp_in a1 20 ∧ ((¬ (S1 (7, k, (a1.toNatClampNeg)) 4) = 3 → Q (-1000002) S1) ∧ ((S1 (7, k, (a1.toNatClampNeg)) 4) = 3 → (sh_Ci g mX2_countNotGone [sh_R (2, k, 0), sh_I (-1)] S1 sz (fun r7 S6 => ((¬ r7 = 0 → (sh_Ci g mX7_daysOut [sh_R (7, k, (a1.toNatClampNeg)), sh_I (S6 (6, k, 0) 4)] S6 sz (fun r10 S9 => (∀ x11 : Int32, x11 = (if 0 < (r10 - ((S9 (7, k, (a1.toNatClampNeg)) 7) - (S9 (7, k, (a1.toNatClampNeg)) 6))) then (r10 - ((S9 (7, k, (a1.toNatClampNeg)) 7) - (S9 (7, k, (a1.toNatClampNeg)) 6))) else 0) → (∀ x12 : Int32, x12 = ((S9 (7, k, (a1.toNatClampNeg)) 8) * (r10 + x11)) → (sh_Cu g mX2_share [sh_R (2, k, 0), sh_I x12, sh_I 3, sh_I (-1)] S9 sz (fun S13 => (sh_Cu g mX7_comeIn [sh_R (7, k, (a1.toNatClampNeg)), sh_I (S13 (6, k, 0) 4)] S13 sz (fun S14 => Q x12 S14))))))))) ∧ (r7 = 0 → Q (-1000002) S6)))))))) ∧ (r2 = 0 → Q (-1000001) S1))))) :
    sh_Ci g mX6_takeFromShed [sh_R (6, k, 0), sh_I a1] S sz Q := by
  refine sh_enter (ls := [(0, sh_R (6, k, 0)), (1, sh_I a1)]) (by decide +kernel) (Nat.le_of_ble_eq_true rfl) rfl ?_
  refine sh_aload_n (pc := 0) dX6_takeFromShed_0 rfl ?_
  refine sh_iload_n (pc := 1) dX6_takeFromShed_1 rfl ?_
  refine sh_ci (N := mX6_hasTool) (pc := 2) dX6_takeFromShed_2 ml_X6_88 h mf_X6_hasTool iv_X6_hasTool ⟨Nat.le_of_ble_eq_true rfl, Nat.le_of_ble_eq_true rfl⟩ rfl rfl (Nat.le_of_ble_eq_true rfl) hk rfl (show vwCl[6]? = some (RX6, TX6, 5) from rfl) rfl (fun r2 S1 h => ?_)
  refine sh_if_ne (tgt := 11) (pc := 5) dX6_takeFromShed_5 (by decide) (fun hc3 => ?_) (fun hc3 => ?_)
  · have h := h.1 hc3
    refine sh_aload_n (pc := 11) dX6_takeFromShed_11 rfl ?_
    refine sh_gf (pc := 12) dX6_takeFromShed_12 fl_X6_24 cf_6 hk rfl rfl ?_
    refine sh_iload_n (pc := 15) dX6_takeFromShed_15 rfl ?_
    obtain ⟨hi4, h⟩ := h
    refine sh_aa (o' := (7, k, (a1.toNatClampNeg))) (pc := 16) dX6_takeFromShed_16 (by decide) hk rfl hi4 rfl ?_
    refine sh_astore_n (ls' := [(2, sh_R (7, k, (a1.toNatClampNeg))), (0, sh_R (6, k, 0)), (1, sh_I a1)]) (pc := 17) dX6_takeFromShed_17 (by decide) rfl ?_
    refine sh_aload_n (pc := 18) dX6_takeFromShed_18 rfl ?_
    refine sh_gf (pc := 19) dX6_takeFromShed_19 fl_X6_94 cf_7 ⟨hk.1, vp_lt hi4⟩ rfl rfl ?_
    refine sh_iconst (v := 3) (pc := 22) dX6_takeFromShed_22 rfl ?_
    refine sh_icmp_ne (tgt := 37) (pc := 23) dX6_takeFromShed_23 (by decide) (fun hc5 => ?_) (fun hc5 => ?_)
    · have h := h.1 hc5
      refine sh_ldc (v := (-1000002)) (pc := 37) dX6_takeFromShed_37 kc_X6_84 ?_
      exact sh_ret_i (pc := 39) dX6_takeFromShed_39 rfl ⟨rfl, rfl⟩ h
    · have h := h.2 hc5
      refine sh_aload_n (pc := 26) dX6_takeFromShed_26 rfl ?_
      refine sh_gf (pc := 27) dX6_takeFromShed_27 fl_X6_18 cf_6 hk rfl rfl ?_
      refine sh_iconst (v := (-1)) (pc := 30) dX6_takeFromShed_30 rfl ?_
      refine sh_ci (N := mX2_countNotGone) (pc := 31) dX6_takeFromShed_31 ml_X6_80 h mf_X2_countNotGone iv_X2_countNotGone ⟨Nat.le_of_ble_eq_true rfl, Nat.le_of_ble_eq_true rfl⟩ rfl rfl (Nat.le_of_ble_eq_true rfl) hk rfl (show vwCl[2]? = some (RX2, TX2, 5) from rfl) rfl (fun r7 S6 h => ?_)
      refine sh_if_ne (tgt := 40) (pc := 34) dX6_takeFromShed_34 (by decide) (fun hc8 => ?_) (fun hc8 => ?_)
      · have h := h.1 hc8
        refine sh_aload_n (pc := 40) dX6_takeFromShed_40 rfl ?_
        refine sh_aload_n (pc := 41) dX6_takeFromShed_41 rfl ?_
        refine sh_gf (pc := 42) dX6_takeFromShed_42 fl_X6_49 cf_6 hk rfl rfl ?_
        refine sh_ci (N := mX7_daysOut) (pc := 45) dX6_takeFromShed_45 ml_X6_281 h mf_X7_daysOut iv_X7_daysOut ⟨Nat.le_of_ble_eq_true rfl, Nat.le_of_ble_eq_true rfl⟩ rfl rfl (Nat.le_of_ble_eq_true rfl) ⟨hk.1, vp_lt hi4⟩ rfl (show vwCl[7]? = some (RX7, TX7, 14) from rfl) rfl (fun r10 S9 h => ?_)
        refine sh_istore_n (ls' := [(3, sh_I r10), (2, sh_R (7, k, (a1.toNatClampNeg))), (0, sh_R (6, k, 0)), (1, sh_I a1)]) (pc := 48) dX6_takeFromShed_48 (by decide) rfl ?_
        refine sh_iconst (v := 0) (pc := 49) dX6_takeFromShed_49 rfl ?_
        refine sh_iload_n (pc := 50) dX6_takeFromShed_50 rfl ?_
        refine sh_aload_n (pc := 51) dX6_takeFromShed_51 rfl ?_
        refine sh_gf (pc := 52) dX6_takeFromShed_52 fl_X6_152 cf_7 ⟨hk.1, vp_lt hi4⟩ rfl rfl ?_
        refine sh_aload_n (pc := 55) dX6_takeFromShed_55 rfl ?_
        refine sh_gf (pc := 56) dX6_takeFromShed_56 fl_X6_284 cf_7 ⟨hk.1, vp_lt hi4⟩ rfl rfl ?_
        refine sh_isub (pc := 59) dX6_takeFromShed_59 ?_
        refine sh_isub (pc := 60) dX6_takeFromShed_60 ?_
        refine sh_max (pc := 61) dX6_takeFromShed_61 ml_X6_158 jw_max.1 jw_max.2.1 jw_max.2.2 (Nat.le_of_ble_eq_true rfl) (Nat.le_of_ble_eq_true rfl) ⟨Nat.le_refl _, Nat.le_refl _⟩ ?_
        refine sh_topI (fun x11 hx11 => ?_)
        have h := h x11 hx11
        refine sh_istore (ls' := [(4, sh_I x11), (3, sh_I r10), (2, sh_R (7, k, (a1.toNatClampNeg))), (0, sh_R (6, k, 0)), (1, sh_I a1)]) (pc := 64) dX6_takeFromShed_64 (by decide) rfl ?_
        refine sh_aload_n (pc := 66) dX6_takeFromShed_66 rfl ?_
        refine sh_gf (pc := 67) dX6_takeFromShed_67 fl_X6_278 cf_7 ⟨hk.1, vp_lt hi4⟩ rfl rfl ?_
        refine sh_iload_n (pc := 70) dX6_takeFromShed_70 rfl ?_
        refine sh_iload (pc := 71) dX6_takeFromShed_71 rfl ?_
        refine sh_iadd (pc := 73) dX6_takeFromShed_73 ?_
        refine sh_imul (pc := 74) dX6_takeFromShed_74 ?_
        refine sh_topI (fun x12 hx12 => ?_)
        have h := h x12 hx12
        refine sh_istore (ls' := [(5, sh_I x12), (4, sh_I x11), (3, sh_I r10), (2, sh_R (7, k, (a1.toNatClampNeg))), (0, sh_R (6, k, 0)), (1, sh_I a1)]) (pc := 75) dX6_takeFromShed_75 (by decide) rfl ?_
        refine sh_aload_n (pc := 77) dX6_takeFromShed_77 rfl ?_
        refine sh_gf (pc := 78) dX6_takeFromShed_78 fl_X6_18 cf_6 hk rfl rfl ?_
        refine sh_iload (pc := 81) dX6_takeFromShed_81 rfl ?_
        refine sh_iconst (v := 3) (pc := 83) dX6_takeFromShed_83 rfl ?_
        refine sh_iconst (v := (-1)) (pc := 84) dX6_takeFromShed_84 rfl ?_
        refine sh_cu (N := mX2_share) (pc := 85) dX6_takeFromShed_85 ml_X6_232 h mf_X2_share iv_X2_share ⟨Nat.le_of_ble_eq_true rfl, Nat.le_of_ble_eq_true rfl⟩ rfl rfl (Nat.le_of_ble_eq_true rfl) hk rfl (show vwCl[2]? = some (RX2, TX2, 5) from rfl) rfl (fun S13 h => ?_)
        refine sh_aload_n (pc := 88) dX6_takeFromShed_88 rfl ?_
        refine sh_aload_n (pc := 89) dX6_takeFromShed_89 rfl ?_
        refine sh_gf (pc := 90) dX6_takeFromShed_90 fl_X6_49 cf_6 hk rfl rfl ?_
        refine sh_cu (N := mX7_comeIn) (pc := 93) dX6_takeFromShed_93 ml_X6_167 h mf_X7_comeIn iv_X7_comeIn ⟨Nat.le_of_ble_eq_true rfl, Nat.le_of_ble_eq_true rfl⟩ rfl rfl (Nat.le_of_ble_eq_true rfl) ⟨hk.1, vp_lt hi4⟩ rfl (show vwCl[7]? = some (RX7, TX7, 14) from rfl) rfl (fun S14 h => ?_)
        refine sh_iload (pc := 96) dX6_takeFromShed_96 rfl ?_
        exact sh_ret_i (pc := 98) dX6_takeFromShed_98 rfl ⟨rfl, rfl⟩ h
      · have h := h.2 hc8
        refine sh_ldc (v := (-1000002)) (pc := 37) dX6_takeFromShed_37 kc_X6_84 ?_
        exact sh_ret_i (pc := 39) dX6_takeFromShed_39 rfl ⟨rfl, rfl⟩ h
  · have h := h.2 hc3
    refine sh_ldc (v := (-1000001)) (pc := 8) dX6_takeFromShed_8 kc_X6_58 ?_
    exact sh_ret_i (pc := 10) dX6_takeFromShed_10 rfl ⟨rfl, rfl⟩ h

set_option maxRecDepth 100000 in
set_option maxHeartbeats 4000000 in
theorem wp_X6_beginDay {g : sh_G} {S : sh_S} {sz : Nat} {Q : sh_S → Prop} {k : Nat} (hk : sh_ok (6, k, 0)) 
    (h : (∀ S1 : sh_S, S1 = sh_sr S (6, k, 0) (upd (S (6, k, 0)) 4 (((S (6, k, 0) 4) + 1))) → ((¬ ((S1 (6, k, 0) 4) - ((S1 (6, k, 0) 4) / 30) * 30) = 0 → (∃ (Iv3 : Int32 → sh_S → Prop) (mu3 : Int32 → sh_S → Nat), Iv3 0 S1 ∧ ∀ (v4 : Int32) (S5 : sh_S), Iv3 v4 S5 → ((20 ≤ v4 → Q S5) ∧ (¬ 20 ≤ v4 → (vp_in v4 20 ∧ (((S5 (6, k, 0) 4) ≤ (S5 (5, k, (v4.toNatClampNeg)) 3) → (∀ x9 : Int32, x9 = v4 + 1 → (Iv3 x9 S5 ∧ mu3 x9 S5 < mu3 v4 S5))) ∧ (¬ (S5 (6, k, 0) 4) ≤ (S5 (5, k, (v4.toNatClampNeg)) 3) → (vp_in v4 20 ∧ (∀ S11 : sh_S, S11 = sh_sr S5 (5, k, (v4.toNatClampNeg)) (upd (S5 (5, k, (v4.toNatClampNeg))) 0 0) → (∀ x12 : Int32, x12 = v4 + 1 → (Iv3 x12 S11 ∧ mu3 x12 S11 < mu3 v4 S5))))))))))) ∧ (((S1 (6, k, 0) 4) - ((S1 (6, k, 0) 4) / 30) * 30) = 0 → (sh_Cu g mX2_chargeEach [sh_R (2, k, 0), sh_I 0, sh_I (S1 (15, k, 0) 0)] S1 sz (fun S14 => (∃ (Iv15 : Int32 → sh_S → Prop) (mu15 : Int32 → sh_S → Nat), Iv15 0 S14 ∧ ∀ (v16 : Int32) (S17 : sh_S), Iv15 v16 S17 → ((20 ≤ v16 → Q S17) ∧ (¬ 20 ≤ v16 → (vp_in v16 20 ∧ (((S17 (6, k, 0) 4) ≤ (S17 (5, k, (v16.toNatClampNeg)) 3) → (∀ x21 : Int32, x21 = v16 + 1 → (Iv15 x21 S17 ∧ mu15 x21 S17 < mu15 v16 S17))) ∧ (¬ (S17 (6, k, 0) 4) ≤ (S17 (5, k, (v16.toNatClampNeg)) 3) → (vp_in v16 20 ∧ (∀ S23 : sh_S, S23 = sh_sr S17 (5, k, (v16.toNatClampNeg)) (upd (S17 (5, k, (v16.toNatClampNeg))) 0 0) → (∀ x24 : Int32, x24 = v16 + 1 → (Iv15 x24 S23 ∧ mu15 x24 S23 < mu15 v16 S17)))))))))))))))) :
    sh_Cu g mX6_beginDay [sh_R (6, k, 0)] S sz Q := by
  refine sh_enter (ls := [(0, sh_R (6, k, 0))]) (by decide +kernel) (Nat.le_of_ble_eq_true rfl) rfl ?_
  refine sh_aload_n (pc := 0) dX6_beginDay_0 rfl ?_
  refine sh_dup (pc := 1) dX6_beginDay_1 rfl ?_
  refine sh_gf (pc := 2) dX6_beginDay_2 fl_X6_49 cf_6 hk rfl rfl ?_
  refine sh_iconst (v := 1) (pc := 5) dX6_beginDay_5 rfl ?_
  refine sh_iadd (pc := 6) dX6_beginDay_6 ?_
  refine sh_pfi (pc := 7) dX6_beginDay_7 fl_X6_49 cf_6 ft_6_4 hk rfl (Nat.le_of_ble_eq_true rfl) rfl ?_
  refine sh_topS (fun S1 hS1 => ?_)
  have h := h S1 hS1
  refine sh_aload_n (pc := 10) dX6_beginDay_10 rfl ?_
  refine sh_gf (pc := 11) dX6_beginDay_11 fl_X6_49 cf_6 hk rfl rfl ?_
  refine sh_bipush (v := 30) (pc := 14) dX6_beginDay_14 rfl ?_
  refine sh_irem (pc := 16) dX6_beginDay_16 (by decide) ?_
  refine sh_if_ne (tgt := 34) (pc := 17) dX6_beginDay_17 (by decide) (fun hc2 => ?_) (fun hc2 => ?_)
  · have h := h.1 hc2
    refine sh_iconst (v := 0) (pc := 34) dX6_beginDay_34 rfl ?_
    refine sh_istore_n (ls' := [(1, sh_I 0), (0, sh_R (6, k, 0))]) (pc := 35) dX6_beginDay_35 (by decide) rfl ?_
    obtain ⟨Iv3, mu3, h0, hs3⟩ := h
    refine sh_pick [1, 0] rfl ?_
    refine sh_lp2 Iv3 mu3 (fun v4 S5 => sh_V g mX6_beginDay 0 0 36 [(0, sh_R (6, k, 0)), (1, sh_I v4)] [] (sh_St S5) sz (sh_tu sz Q)) (fun v4 S5 hI3 ih3 => ?_) _ _ h0
    have h := hs3 v4 S5 hI3
    clear h0
    refine sh_iload_n (pc := 36) dX6_beginDay_36 rfl ?_
    refine sh_bipush (v := 20) (pc := 37) dX6_beginDay_37 rfl ?_
    refine sh_icmp_ge (tgt := 80) (pc := 39) dX6_beginDay_39 (by decide) (fun hc6 => ?_) (fun hc6 => ?_)
    · have h := h.1 hc6
      exact sh_ret_u (pc := 80) dX6_beginDay_80 rfl ⟨rfl, rfl⟩ h
    · have h := h.2 hc6
      refine sh_aload_n (pc := 42) dX6_beginDay_42 rfl ?_
      refine sh_gf (pc := 43) dX6_beginDay_43 fl_X6_49 cf_6 hk rfl rfl ?_
      refine sh_aload_n (pc := 46) dX6_beginDay_46 rfl ?_
      refine sh_gf (pc := 47) dX6_beginDay_47 fl_X6_24 cf_6 hk rfl rfl ?_
      refine sh_iload_n (pc := 50) dX6_beginDay_50 rfl ?_
      obtain ⟨hi7, h⟩ := h
      refine sh_aa (o' := (7, k, (v4.toNatClampNeg))) (pc := 51) dX6_beginDay_51 (by decide) hk rfl hi7 rfl ?_
      refine sh_gf (pc := 52) dX6_beginDay_52 fl_X6_247 cf_7 ⟨hk.1, vp_lt hi7⟩ rfl rfl ?_
      refine sh_gf (pc := 55) dX6_beginDay_55 fl_X6_258 cf_5 ⟨hk.1, vp_lt hi7⟩ rfl rfl ?_
      refine sh_icmp_le (tgt := 74) (pc := 58) dX6_beginDay_58 (by decide) (fun hc8 => ?_) (fun hc8 => ?_)
      · have h := h.1 hc8
        obtain ⟨x9, hx9⟩ : ∃ y : Int32, y = v4 + 1 := ⟨_, rfl⟩
        have h := h x9 hx9
        refine sh_iinc (v := x9) (ls' := [(1, sh_I x9), (0, sh_R (6, k, 0))]) (pc := 74) dX6_beginDay_74 rfl hx9.symm (by decide) rfl ?_
        refine sh_goto (tgt := 36) (pc := 77) dX6_beginDay_77 (by decide) ?_
        refine sh_pick [1, 0] rfl ?_
        exact ih3 _ _ h.1 h.2
      · have h := h.2 hc8
        refine sh_aload_n (pc := 61) dX6_beginDay_61 rfl ?_
        refine sh_gf (pc := 62) dX6_beginDay_62 fl_X6_24 cf_6 hk rfl rfl ?_
        refine sh_iload_n (pc := 65) dX6_beginDay_65 rfl ?_
        obtain ⟨hi10, h⟩ := h
        refine sh_aa (o' := (7, k, (v4.toNatClampNeg))) (pc := 66) dX6_beginDay_66 (by decide) hk rfl hi10 rfl ?_
        refine sh_gf (pc := 67) dX6_beginDay_67 fl_X6_247 cf_7 ⟨hk.1, vp_lt hi10⟩ rfl rfl ?_
        refine sh_iconst (v := 0) (pc := 70) dX6_beginDay_70 rfl ?_
        refine sh_pfz (pc := 71) dX6_beginDay_71 fl_X6_251 cf_5 ft_5_0 (by decide) ⟨hk.1, vp_lt hi10⟩ rfl (Nat.le_of_ble_eq_true rfl) rfl ?_
        refine sh_topS (fun S11 hS11 => ?_)
        have h := h S11 hS11
        obtain ⟨x12, hx12⟩ : ∃ y : Int32, y = v4 + 1 := ⟨_, rfl⟩
        have h := h x12 hx12
        refine sh_iinc (v := x12) (ls' := [(1, sh_I x12), (0, sh_R (6, k, 0))]) (pc := 74) dX6_beginDay_74 rfl hx12.symm (by decide) rfl ?_
        refine sh_goto (tgt := 36) (pc := 77) dX6_beginDay_77 (by decide) ?_
        refine sh_pick [1, 0] rfl ?_
        exact ih3 _ _ h.1 h.2
  · have h := h.2 hc2
    refine sh_aload_n (pc := 20) dX6_beginDay_20 rfl ?_
    refine sh_gf (pc := 21) dX6_beginDay_21 fl_X6_18 cf_6 hk rfl rfl ?_
    refine sh_iconst (v := 0) (pc := 24) dX6_beginDay_24 rfl ?_
    refine sh_aload_n (pc := 25) dX6_beginDay_25 rfl ?_
    refine sh_gf (pc := 26) dX6_beginDay_26 fl_X6_9 cf_6 hk rfl rfl ?_
    refine sh_iconst (v := 0) (pc := 29) dX6_beginDay_29 rfl ?_
    refine sh_ia (pc := 30) dX6_beginDay_30 hk rfl (vp_in_iff.mpr ⟨by decide, by decide⟩) ?_
    refine sh_cu (N := mX2_chargeEach) (pc := 31) dX6_beginDay_31 ml_X6_290 h mf_X2_chargeEach iv_X2_chargeEach ⟨Nat.le_of_ble_eq_true rfl, Nat.le_of_ble_eq_true rfl⟩ rfl rfl (Nat.le_of_ble_eq_true rfl) hk rfl (show vwCl[2]? = some (RX2, TX2, 5) from rfl) rfl (fun S14 h => ?_)
    refine sh_iconst (v := 0) (pc := 34) dX6_beginDay_34 rfl ?_
    refine sh_istore_n (ls' := [(1, sh_I 0), (0, sh_R (6, k, 0))]) (pc := 35) dX6_beginDay_35 (by decide) rfl ?_
    obtain ⟨Iv15, mu15, h0, hs15⟩ := h
    refine sh_pick [1, 0] rfl ?_
    refine sh_lp2 Iv15 mu15 (fun v16 S17 => sh_V g mX6_beginDay 0 0 36 [(0, sh_R (6, k, 0)), (1, sh_I v16)] [] (sh_St S17) sz (sh_tu sz Q)) (fun v16 S17 hI15 ih15 => ?_) _ _ h0
    have h := hs15 v16 S17 hI15
    clear h0
    refine sh_iload_n (pc := 36) dX6_beginDay_36 rfl ?_
    refine sh_bipush (v := 20) (pc := 37) dX6_beginDay_37 rfl ?_
    refine sh_icmp_ge (tgt := 80) (pc := 39) dX6_beginDay_39 (by decide) (fun hc18 => ?_) (fun hc18 => ?_)
    · have h := h.1 hc18
      exact sh_ret_u (pc := 80) dX6_beginDay_80 rfl ⟨rfl, rfl⟩ h
    · have h := h.2 hc18
      refine sh_aload_n (pc := 42) dX6_beginDay_42 rfl ?_
      refine sh_gf (pc := 43) dX6_beginDay_43 fl_X6_49 cf_6 hk rfl rfl ?_
      refine sh_aload_n (pc := 46) dX6_beginDay_46 rfl ?_
      refine sh_gf (pc := 47) dX6_beginDay_47 fl_X6_24 cf_6 hk rfl rfl ?_
      refine sh_iload_n (pc := 50) dX6_beginDay_50 rfl ?_
      obtain ⟨hi19, h⟩ := h
      refine sh_aa (o' := (7, k, (v16.toNatClampNeg))) (pc := 51) dX6_beginDay_51 (by decide) hk rfl hi19 rfl ?_
      refine sh_gf (pc := 52) dX6_beginDay_52 fl_X6_247 cf_7 ⟨hk.1, vp_lt hi19⟩ rfl rfl ?_
      refine sh_gf (pc := 55) dX6_beginDay_55 fl_X6_258 cf_5 ⟨hk.1, vp_lt hi19⟩ rfl rfl ?_
      refine sh_icmp_le (tgt := 74) (pc := 58) dX6_beginDay_58 (by decide) (fun hc20 => ?_) (fun hc20 => ?_)
      · have h := h.1 hc20
        obtain ⟨x21, hx21⟩ : ∃ y : Int32, y = v16 + 1 := ⟨_, rfl⟩
        have h := h x21 hx21
        refine sh_iinc (v := x21) (ls' := [(1, sh_I x21), (0, sh_R (6, k, 0))]) (pc := 74) dX6_beginDay_74 rfl hx21.symm (by decide) rfl ?_
        refine sh_goto (tgt := 36) (pc := 77) dX6_beginDay_77 (by decide) ?_
        refine sh_pick [1, 0] rfl ?_
        exact ih15 _ _ h.1 h.2
      · have h := h.2 hc20
        refine sh_aload_n (pc := 61) dX6_beginDay_61 rfl ?_
        refine sh_gf (pc := 62) dX6_beginDay_62 fl_X6_24 cf_6 hk rfl rfl ?_
        refine sh_iload_n (pc := 65) dX6_beginDay_65 rfl ?_
        obtain ⟨hi22, h⟩ := h
        refine sh_aa (o' := (7, k, (v16.toNatClampNeg))) (pc := 66) dX6_beginDay_66 (by decide) hk rfl hi22 rfl ?_
        refine sh_gf (pc := 67) dX6_beginDay_67 fl_X6_247 cf_7 ⟨hk.1, vp_lt hi22⟩ rfl rfl ?_
        refine sh_iconst (v := 0) (pc := 70) dX6_beginDay_70 rfl ?_
        refine sh_pfz (pc := 71) dX6_beginDay_71 fl_X6_251 cf_5 ft_5_0 (by decide) ⟨hk.1, vp_lt hi22⟩ rfl (Nat.le_of_ble_eq_true rfl) rfl ?_
        refine sh_topS (fun S23 hS23 => ?_)
        have h := h S23 hS23
        obtain ⟨x24, hx24⟩ : ∃ y : Int32, y = v16 + 1 := ⟨_, rfl⟩
        have h := h x24 hx24
        refine sh_iinc (v := x24) (ls' := [(1, sh_I x24), (0, sh_R (6, k, 0))]) (pc := 74) dX6_beginDay_74 rfl hx24.symm (by decide) rfl ?_
        refine sh_goto (tgt := 36) (pc := 77) dX6_beginDay_77 (by decide) ?_
        refine sh_pick [1, 0] rfl ?_
        exact ih15 _ _ h.1 h.2

set_option maxRecDepth 100000 in
set_option maxHeartbeats 4000000 in
theorem wp_X6_letDaysPass {g : sh_G} {S : sh_S} {sz : Nat} {Q : Int32 → sh_S → Prop} {k : Nat} (hk : sh_ok (6, k, 0)) {a1 : Int32} 
    (h : ((a1 < 1 → Q (-1000001) S) ∧ (¬ a1 < 1 → ((a1 ≤ 60 → ((((S (6, k, 0) 4) + a1) ≤ 3000 → (∃ (Iv4 : Int32 → sh_S → Prop) (mu4 : Int32 → sh_S → Nat), Iv4 0 S ∧ ∀ (v5 : Int32) (S6 : sh_S), Iv4 v5 S6 → ((a1 ≤ v5 → Q (S6 (6, k, 0) 4) S6) ∧ (¬ a1 ≤ v5 → (sh_Cu g mX6_beginDay [sh_R (6, k, 0)] S6 sz (fun S8 => (∀ x9 : Int32, x9 = v5 + 1 → (Iv4 x9 S8 ∧ mu4 x9 S8 < mu4 v5 S6)))))))) ∧ (¬ ((S (6, k, 0) 4) + a1) ≤ 3000 → Q (-1000003) S))) ∧ (¬ a1 ≤ 60 → Q (-1000001) S))))) :
    sh_Ci g mX6_letDaysPass [sh_R (6, k, 0), sh_I a1] S sz Q := by
  refine sh_enter (ls := [(0, sh_R (6, k, 0)), (1, sh_I a1)]) (by decide +kernel) (Nat.le_of_ble_eq_true rfl) rfl ?_
  refine sh_iload_n (pc := 0) dX6_letDaysPass_0 rfl ?_
  refine sh_iconst (v := 1) (pc := 1) dX6_letDaysPass_1 rfl ?_
  refine sh_icmp_lt (tgt := 11) (pc := 2) dX6_letDaysPass_2 (by decide) (fun hc1 => ?_) (fun hc1 => ?_)
  · have h := h.1 hc1
    refine sh_ldc (v := (-1000001)) (pc := 11) dX6_letDaysPass_11 kc_X6_58 ?_
    exact sh_ret_i (pc := 13) dX6_letDaysPass_13 rfl ⟨rfl, rfl⟩ h
  · have h := h.2 hc1
    refine sh_iload_n (pc := 5) dX6_letDaysPass_5 rfl ?_
    refine sh_bipush (v := 60) (pc := 6) dX6_letDaysPass_6 rfl ?_
    refine sh_icmp_le (tgt := 14) (pc := 8) dX6_letDaysPass_8 (by decide) (fun hc2 => ?_) (fun hc2 => ?_)
    · have h := h.1 hc2
      refine sh_aload_n (pc := 14) dX6_letDaysPass_14 rfl ?_
      refine sh_gf (pc := 15) dX6_letDaysPass_15 fl_X6_49 cf_6 hk rfl rfl ?_
      refine sh_iload_n (pc := 18) dX6_letDaysPass_18 rfl ?_
      refine sh_iadd (pc := 19) dX6_letDaysPass_19 ?_
      refine sh_sipush (v := 3000) (pc := 20) dX6_letDaysPass_20 rfl ?_
      refine sh_icmp_le (tgt := 29) (pc := 23) dX6_letDaysPass_23 (by decide) (fun hc3 => ?_) (fun hc3 => ?_)
      · have h := h.1 hc3
        refine sh_iconst (v := 0) (pc := 29) dX6_letDaysPass_29 rfl ?_
        refine sh_istore_n (ls' := [(2, sh_I 0), (0, sh_R (6, k, 0)), (1, sh_I a1)]) (pc := 30) dX6_letDaysPass_30 (by decide) rfl ?_
        obtain ⟨Iv4, mu4, h0, hs4⟩ := h
        refine sh_pick [1, 2, 0] rfl ?_
        refine sh_lp2 Iv4 mu4 (fun v5 S6 => sh_V g mX6_letDaysPass 0 0 31 [(0, sh_R (6, k, 0)), (1, sh_I a1), (2, sh_I v5)] [] (sh_St S6) sz (sh_ti sz Q)) (fun v5 S6 hI4 ih4 => ?_) _ _ h0
        have h := hs4 v5 S6 hI4
        clear h0
        refine sh_iload_n (pc := 31) dX6_letDaysPass_31 rfl ?_
        refine sh_iload_n (pc := 32) dX6_letDaysPass_32 rfl ?_
        refine sh_icmp_ge (tgt := 46) (pc := 33) dX6_letDaysPass_33 (by decide) (fun hc7 => ?_) (fun hc7 => ?_)
        · have h := h.1 hc7
          refine sh_aload_n (pc := 46) dX6_letDaysPass_46 rfl ?_
          refine sh_gf (pc := 47) dX6_letDaysPass_47 fl_X6_49 cf_6 hk rfl rfl ?_
          exact sh_ret_i (pc := 50) dX6_letDaysPass_50 rfl ⟨rfl, rfl⟩ h
        · have h := h.2 hc7
          refine sh_aload_n (pc := 36) dX6_letDaysPass_36 rfl ?_
          refine sh_cu (N := mX6_beginDay) (pc := 37) dX6_letDaysPass_37 ml_X6_287 h mf_X6_beginDay iv_X6_beginDay ⟨Nat.le_of_ble_eq_true rfl, Nat.le_of_ble_eq_true rfl⟩ rfl rfl (Nat.le_of_ble_eq_true rfl) hk rfl (show vwCl[6]? = some (RX6, TX6, 5) from rfl) rfl (fun S8 h => ?_)
          obtain ⟨x9, hx9⟩ : ∃ y : Int32, y = v5 + 1 := ⟨_, rfl⟩
          have h := h x9 hx9
          refine sh_iinc (v := x9) (ls' := [(2, sh_I x9), (0, sh_R (6, k, 0)), (1, sh_I a1)]) (pc := 40) dX6_letDaysPass_40 rfl hx9.symm (by decide) rfl ?_
          refine sh_goto (tgt := 31) (pc := 43) dX6_letDaysPass_43 (by decide) ?_
          refine sh_pick [1, 2, 0] rfl ?_
          exact ih4 _ _ h.1 h.2
      · have h := h.2 hc3
        refine sh_ldc (v := (-1000003)) (pc := 26) dX6_letDaysPass_26 kc_X6_116 ?_
        exact sh_ret_i (pc := 28) dX6_letDaysPass_28 rfl ⟨rfl, rfl⟩ h
    · have h := h.2 hc2
      refine sh_ldc (v := (-1000001)) (pc := 11) dX6_letDaysPass_11 kc_X6_58 ?_
      exact sh_ret_i (pc := 13) dX6_letDaysPass_13 rfl ⟨rfl, rfl⟩ h

set_option maxRecDepth 100000 in
set_option maxHeartbeats 4000000 in
theorem wp_X6_countAtPlace {g : sh_G} {S : sh_S} {sz : Nat} {Q : Int32 → sh_S → Prop} {k : Nat} (hk : sh_ok (6, k, 0)) {a1 : Int32} 
    (h : (∃ (Iv1 : Int32 → Int32 → sh_S → Prop) (mu1 : Int32 → Int32 → sh_S → Nat), Iv1 0 0 S ∧ ∀ (v2 : Int32) (v3 : Int32) (S4 : sh_S), Iv1 v2 v3 S4 → (((S4 (6, k, 0) 3) ≤ v3 → Q v2 S4) ∧ (¬ (S4 (6, k, 0) 3) ≤ v3 → (sh_Ci g mX6_hasTool [sh_R (6, k, 0), sh_I v3] S4 sz (fun r7 S6 => ((r7 = 0 → (∀ x9 : Int32, x9 = v3 + 1 → (Iv1 v2 x9 S6 ∧ mu1 v2 x9 S6 < mu1 v2 v3 S4))) ∧ (¬ r7 = 0 → (vp_in v3 20 ∧ ((¬ (S6 (7, k, (v3.toNatClampNeg)) 4) = a1 → (∀ x12 : Int32, x12 = v3 + 1 → (Iv1 v2 x12 S6 ∧ mu1 v2 x12 S6 < mu1 v2 v3 S4))) ∧ ((S6 (7, k, (v3.toNatClampNeg)) 4) = a1 → (∀ x13 : Int32, x13 = v2 + 1 → (∀ x14 : Int32, x14 = v3 + 1 → (Iv1 x13 x14 S6 ∧ mu1 x13 x14 S6 < mu1 v2 v3 S4)))))))))))))) :
    sh_Ci g mX6_countAtPlace [sh_R (6, k, 0), sh_I a1] S sz Q := by
  refine sh_enter (ls := [(0, sh_R (6, k, 0)), (1, sh_I a1)]) (by decide +kernel) (Nat.le_of_ble_eq_true rfl) rfl ?_
  refine sh_iconst (v := 0) (pc := 0) dX6_countAtPlace_0 rfl ?_
  refine sh_istore_n (ls' := [(2, sh_I 0), (0, sh_R (6, k, 0)), (1, sh_I a1)]) (pc := 1) dX6_countAtPlace_1 (by decide) rfl ?_
  refine sh_iconst (v := 0) (pc := 2) dX6_countAtPlace_2 rfl ?_
  refine sh_istore_n (ls' := [(3, sh_I 0), (2, sh_I 0), (0, sh_R (6, k, 0)), (1, sh_I a1)]) (pc := 3) dX6_countAtPlace_3 (by decide) rfl ?_
  obtain ⟨Iv1, mu1, h0, hs1⟩ := h
  refine sh_pick [2, 3, 1, 0] rfl ?_
  refine sh_lp3 Iv1 mu1 (fun v2 v3 S4 => sh_V g mX6_countAtPlace 0 0 4 [(0, sh_R (6, k, 0)), (1, sh_I a1), (2, sh_I v2), (3, sh_I v3)] [] (sh_St S4) sz (sh_ti sz Q)) (fun v2 v3 S4 hI1 ih1 => ?_) _ _ _ h0
  have h := hs1 v2 v3 S4 hI1
  clear h0
  refine sh_iload_n (pc := 4) dX6_countAtPlace_4 rfl ?_
  refine sh_aload_n (pc := 5) dX6_countAtPlace_5 rfl ?_
  refine sh_gf (pc := 6) dX6_countAtPlace_6 fl_X6_45 cf_6 hk rfl rfl ?_
  refine sh_icmp_ge (tgt := 42) (pc := 9) dX6_countAtPlace_9 (by decide) (fun hc5 => ?_) (fun hc5 => ?_)
  · have h := h.1 hc5
    refine sh_iload_n (pc := 42) dX6_countAtPlace_42 rfl ?_
    exact sh_ret_i (pc := 43) dX6_countAtPlace_43 rfl ⟨rfl, rfl⟩ h
  · have h := h.2 hc5
    refine sh_aload_n (pc := 12) dX6_countAtPlace_12 rfl ?_
    refine sh_iload_n (pc := 13) dX6_countAtPlace_13 rfl ?_
    refine sh_ci (N := mX6_hasTool) (pc := 14) dX6_countAtPlace_14 ml_X6_88 h mf_X6_hasTool iv_X6_hasTool ⟨Nat.le_of_ble_eq_true rfl, Nat.le_of_ble_eq_true rfl⟩ rfl rfl (Nat.le_of_ble_eq_true rfl) hk rfl (show vwCl[6]? = some (RX6, TX6, 5) from rfl) rfl (fun r7 S6 h => ?_)
    refine sh_if_eq (tgt := 36) (pc := 17) dX6_countAtPlace_17 (by decide) (fun hc8 => ?_) (fun hc8 => ?_)
    · have h := h.1 hc8
      obtain ⟨x9, hx9⟩ : ∃ y : Int32, y = v3 + 1 := ⟨_, rfl⟩
      have h := h x9 hx9
      refine sh_iinc (v := x9) (ls' := [(3, sh_I x9), (0, sh_R (6, k, 0)), (1, sh_I a1), (2, sh_I v2)]) (pc := 36) dX6_countAtPlace_36 rfl hx9.symm (by decide) rfl ?_
      refine sh_goto (tgt := 4) (pc := 39) dX6_countAtPlace_39 (by decide) ?_
      refine sh_pick [1, 2, 3, 0] rfl ?_
      exact ih1 _ _ _ h.1 h.2
    · have h := h.2 hc8
      refine sh_aload_n (pc := 20) dX6_countAtPlace_20 rfl ?_
      refine sh_gf (pc := 21) dX6_countAtPlace_21 fl_X6_24 cf_6 hk rfl rfl ?_
      refine sh_iload_n (pc := 24) dX6_countAtPlace_24 rfl ?_
      obtain ⟨hi10, h⟩ := h
      refine sh_aa (o' := (7, k, (v3.toNatClampNeg))) (pc := 25) dX6_countAtPlace_25 (by decide) hk rfl hi10 rfl ?_
      refine sh_gf (pc := 26) dX6_countAtPlace_26 fl_X6_94 cf_7 ⟨hk.1, vp_lt hi10⟩ rfl rfl ?_
      refine sh_iload_n (pc := 29) dX6_countAtPlace_29 rfl ?_
      refine sh_icmp_ne (tgt := 36) (pc := 30) dX6_countAtPlace_30 (by decide) (fun hc11 => ?_) (fun hc11 => ?_)
      · have h := h.1 hc11
        obtain ⟨x12, hx12⟩ : ∃ y : Int32, y = v3 + 1 := ⟨_, rfl⟩
        have h := h x12 hx12
        refine sh_iinc (v := x12) (ls' := [(3, sh_I x12), (0, sh_R (6, k, 0)), (1, sh_I a1), (2, sh_I v2)]) (pc := 36) dX6_countAtPlace_36 rfl hx12.symm (by decide) rfl ?_
        refine sh_goto (tgt := 4) (pc := 39) dX6_countAtPlace_39 (by decide) ?_
        refine sh_pick [1, 2, 3, 0] rfl ?_
        exact ih1 _ _ _ h.1 h.2
      · have h := h.2 hc11
        obtain ⟨x13, hx13⟩ : ∃ y : Int32, y = v2 + 1 := ⟨_, rfl⟩
        have h := h x13 hx13
        refine sh_iinc (v := x13) (ls' := [(2, sh_I x13), (0, sh_R (6, k, 0)), (1, sh_I a1), (3, sh_I v3)]) (pc := 33) dX6_countAtPlace_33 rfl hx13.symm (by decide) rfl ?_
        obtain ⟨x14, hx14⟩ : ∃ y : Int32, y = v3 + 1 := ⟨_, rfl⟩
        have h := h x14 hx14
        refine sh_iinc (v := x14) (ls' := [(3, sh_I x14), (2, sh_I x13), (0, sh_R (6, k, 0)), (1, sh_I a1)]) (pc := 36) dX6_countAtPlace_36 rfl hx14.symm (by decide) rfl ?_
        refine sh_goto (tgt := 4) (pc := 39) dX6_countAtPlace_39 (by decide) ?_
        refine sh_pick [2, 3, 1, 0] rfl ?_
        exact ih1 _ _ _ h.1 h.2

set_option maxRecDepth 100000 in
set_option maxHeartbeats 4000000 in
theorem wp_X6_countProposals {g : sh_G} {S : sh_S} {sz : Nat} {Q : Int32 → sh_S → Prop} {k : Nat} (hk : sh_ok (6, k, 0)) 
    (h : (∃ (Iv1 : Int32 → Int32 → sh_S → Prop) (mu1 : Int32 → Int32 → sh_S → Nat), Iv1 0 0 S ∧ ∀ (v2 : Int32) (v3 : Int32) (S4 : sh_S), Iv1 v2 v3 S4 → (((S4 (6, k, 0) 3) ≤ v3 → Q v2 S4) ∧ (¬ (S4 (6, k, 0) 3) ≤ v3 → (sh_Ci g mX6_hasTool [sh_R (6, k, 0), sh_I v3] S4 sz (fun r7 S6 => ((r7 = 0 → (∀ x9 : Int32, x9 = v3 + 1 → (Iv1 v2 x9 S6 ∧ mu1 v2 x9 S6 < mu1 v2 v3 S4))) ∧ (¬ r7 = 0 → (vp_in v3 20 ∧ (((S6 (5, k, (v3.toNatClampNeg)) 0) = 0 → (∀ x12 : Int32, x12 = v3 + 1 → (Iv1 v2 x12 S6 ∧ mu1 v2 x12 S6 < mu1 v2 v3 S4))) ∧ (¬ (S6 (5, k, (v3.toNatClampNeg)) 0) = 0 → (∀ x13 : Int32, x13 = v2 + 1 → (∀ x14 : Int32, x14 = v3 + 1 → (Iv1 x13 x14 S6 ∧ mu1 x13 x14 S6 < mu1 v2 v3 S4)))))))))))))) :
    sh_Ci g mX6_countProposals [sh_R (6, k, 0)] S sz Q := by
  refine sh_enter (ls := [(0, sh_R (6, k, 0))]) (by decide +kernel) (Nat.le_of_ble_eq_true rfl) rfl ?_
  refine sh_iconst (v := 0) (pc := 0) dX6_countProposals_0 rfl ?_
  refine sh_istore_n (ls' := [(1, sh_I 0), (0, sh_R (6, k, 0))]) (pc := 1) dX6_countProposals_1 (by decide) rfl ?_
  refine sh_iconst (v := 0) (pc := 2) dX6_countProposals_2 rfl ?_
  refine sh_istore_n (ls' := [(2, sh_I 0), (1, sh_I 0), (0, sh_R (6, k, 0))]) (pc := 3) dX6_countProposals_3 (by decide) rfl ?_
  obtain ⟨Iv1, mu1, h0, hs1⟩ := h
  refine sh_pick [2, 1, 0] rfl ?_
  refine sh_lp3 Iv1 mu1 (fun v2 v3 S4 => sh_V g mX6_countProposals 0 0 4 [(0, sh_R (6, k, 0)), (1, sh_I v2), (2, sh_I v3)] [] (sh_St S4) sz (sh_ti sz Q)) (fun v2 v3 S4 hI1 ih1 => ?_) _ _ _ h0
  have h := hs1 v2 v3 S4 hI1
  clear h0
  refine sh_iload_n (pc := 4) dX6_countProposals_4 rfl ?_
  refine sh_aload_n (pc := 5) dX6_countProposals_5 rfl ?_
  refine sh_gf (pc := 6) dX6_countProposals_6 fl_X6_45 cf_6 hk rfl rfl ?_
  refine sh_icmp_ge (tgt := 44) (pc := 9) dX6_countProposals_9 (by decide) (fun hc5 => ?_) (fun hc5 => ?_)
  · have h := h.1 hc5
    refine sh_iload_n (pc := 44) dX6_countProposals_44 rfl ?_
    exact sh_ret_i (pc := 45) dX6_countProposals_45 rfl ⟨rfl, rfl⟩ h
  · have h := h.2 hc5
    refine sh_aload_n (pc := 12) dX6_countProposals_12 rfl ?_
    refine sh_iload_n (pc := 13) dX6_countProposals_13 rfl ?_
    refine sh_ci (N := mX6_hasTool) (pc := 14) dX6_countProposals_14 ml_X6_88 h mf_X6_hasTool iv_X6_hasTool ⟨Nat.le_of_ble_eq_true rfl, Nat.le_of_ble_eq_true rfl⟩ rfl rfl (Nat.le_of_ble_eq_true rfl) hk rfl (show vwCl[6]? = some (RX6, TX6, 5) from rfl) rfl (fun r7 S6 h => ?_)
    refine sh_if_eq (tgt := 38) (pc := 17) dX6_countProposals_17 (by decide) (fun hc8 => ?_) (fun hc8 => ?_)
    · have h := h.1 hc8
      obtain ⟨x9, hx9⟩ : ∃ y : Int32, y = v3 + 1 := ⟨_, rfl⟩
      have h := h x9 hx9
      refine sh_iinc (v := x9) (ls' := [(2, sh_I x9), (0, sh_R (6, k, 0)), (1, sh_I v2)]) (pc := 38) dX6_countProposals_38 rfl hx9.symm (by decide) rfl ?_
      refine sh_goto (tgt := 4) (pc := 41) dX6_countProposals_41 (by decide) ?_
      refine sh_pick [1, 2, 0] rfl ?_
      exact ih1 _ _ _ h.1 h.2
    · have h := h.2 hc8
      refine sh_aload_n (pc := 20) dX6_countProposals_20 rfl ?_
      refine sh_gf (pc := 21) dX6_countProposals_21 fl_X6_24 cf_6 hk rfl rfl ?_
      refine sh_iload_n (pc := 24) dX6_countProposals_24 rfl ?_
      obtain ⟨hi10, h⟩ := h
      refine sh_aa (o' := (7, k, (v3.toNatClampNeg))) (pc := 25) dX6_countProposals_25 (by decide) hk rfl hi10 rfl ?_
      refine sh_gf (pc := 26) dX6_countProposals_26 fl_X6_247 cf_7 ⟨hk.1, vp_lt hi10⟩ rfl rfl ?_
      refine sh_gf (pc := 29) dX6_countProposals_29 fl_X6_251 cf_5 ⟨hk.1, vp_lt hi10⟩ rfl rfl ?_
      refine sh_if_eq (tgt := 38) (pc := 32) dX6_countProposals_32 (by decide) (fun hc11 => ?_) (fun hc11 => ?_)
      · have h := h.1 hc11
        obtain ⟨x12, hx12⟩ : ∃ y : Int32, y = v3 + 1 := ⟨_, rfl⟩
        have h := h x12 hx12
        refine sh_iinc (v := x12) (ls' := [(2, sh_I x12), (0, sh_R (6, k, 0)), (1, sh_I v2)]) (pc := 38) dX6_countProposals_38 rfl hx12.symm (by decide) rfl ?_
        refine sh_goto (tgt := 4) (pc := 41) dX6_countProposals_41 (by decide) ?_
        refine sh_pick [1, 2, 0] rfl ?_
        exact ih1 _ _ _ h.1 h.2
      · have h := h.2 hc11
        obtain ⟨x13, hx13⟩ : ∃ y : Int32, y = v2 + 1 := ⟨_, rfl⟩
        have h := h x13 hx13
        refine sh_iinc (v := x13) (ls' := [(1, sh_I x13), (0, sh_R (6, k, 0)), (2, sh_I v3)]) (pc := 35) dX6_countProposals_35 rfl hx13.symm (by decide) rfl ?_
        obtain ⟨x14, hx14⟩ : ∃ y : Int32, y = v3 + 1 := ⟨_, rfl⟩
        have h := h x14 hx14
        refine sh_iinc (v := x14) (ls' := [(2, sh_I x14), (1, sh_I x13), (0, sh_R (6, k, 0))]) (pc := 38) dX6_countProposals_38 rfl hx14.symm (by decide) rfl ?_
        refine sh_goto (tgt := 4) (pc := 41) dX6_countProposals_41 (by decide) ?_
        refine sh_pick [2, 1, 0] rfl ?_
        exact ih1 _ _ _ h.1 h.2

set_option maxRecDepth 100000 in
set_option maxHeartbeats 4000000 in
theorem wp_X6_tellCount {g : sh_G} {S : sh_S} {sz : Nat} {Q : Int32 → sh_S → Prop} {k : Nat} (hk : sh_ok (6, k, 0)) {a1 : Int32} 
    (h : ((a1 < 0 → ((a1 < 3 → ((¬ a1 = 8 → ((¬ a1 = 9 → ((a1 < 20 → Q (-1000001) S) ∧ (¬ a1 < 20 → ((27 ≤ a1 → Q (-1000001) S) ∧ (¬ 27 ≤ a1 → (vp_in (a1 - 20) 7 ∧ Q (S (15, k, 0) ((a1 - 20).toNatClampNeg)) S)))))) ∧ (a1 = 9 → Q (S (6, k, 0) 4) S))) ∧ (a1 = 8 → (sh_Ci g mX6_countProposals [sh_R (6, k, 0)] S sz (fun r9 S8 => Q r9 S8))))) ∧ (¬ a1 < 3 → ((8 ≤ a1 → ((¬ a1 = 8 → ((¬ a1 = 9 → ((a1 < 20 → Q (-1000001) S) ∧ (¬ a1 < 20 → ((27 ≤ a1 → Q (-1000001) S) ∧ (¬ 27 ≤ a1 → (vp_in (a1 - 20) 7 ∧ Q (S (15, k, 0) ((a1 - 20).toNatClampNeg)) S)))))) ∧ (a1 = 9 → Q (S (6, k, 0) 4) S))) ∧ (a1 = 8 → (sh_Ci g mX6_countProposals [sh_R (6, k, 0)] S sz (fun r17 S16 => Q r17 S16))))) ∧ (¬ 8 ≤ a1 → (sh_Ci g mX6_countAtPlace [sh_R (6, k, 0), sh_I (a1 - 3)] S sz (fun r19 S18 => Q r19 S18))))))) ∧ (¬ a1 < 0 → ((2 < a1 → ((a1 < 3 → ((¬ a1 = 8 → ((¬ a1 = 9 → ((a1 < 20 → Q (-1000001) S) ∧ (¬ a1 < 20 → ((27 ≤ a1 → Q (-1000001) S) ∧ (¬ 27 ≤ a1 → (vp_in (a1 - 20) 7 ∧ Q (S (15, k, 0) ((a1 - 20).toNatClampNeg)) S)))))) ∧ (a1 = 9 → Q (S (6, k, 0) 4) S))) ∧ (a1 = 8 → (sh_Ci g mX6_countProposals [sh_R (6, k, 0)] S sz (fun r28 S27 => Q r28 S27))))) ∧ (¬ a1 < 3 → ((8 ≤ a1 → ((¬ a1 = 8 → ((¬ a1 = 9 → ((a1 < 20 → Q (-1000001) S) ∧ (¬ a1 < 20 → ((27 ≤ a1 → Q (-1000001) S) ∧ (¬ 27 ≤ a1 → (vp_in (a1 - 20) 7 ∧ Q (S (15, k, 0) ((a1 - 20).toNatClampNeg)) S)))))) ∧ (a1 = 9 → Q (S (6, k, 0) 4) S))) ∧ (a1 = 8 → (sh_Ci g mX6_countProposals [sh_R (6, k, 0)] S sz (fun r36 S35 => Q r36 S35))))) ∧ (¬ 8 ≤ a1 → (sh_Ci g mX6_countAtPlace [sh_R (6, k, 0), sh_I (a1 - 3)] S sz (fun r38 S37 => Q r38 S37))))))) ∧ (¬ 2 < a1 → (sh_Ci g mX2_countWithStatus [sh_R (2, k, 0), sh_I a1] S sz (fun r40 S39 => Q r40 S39))))))) :
    sh_Ci g mX6_tellCount [sh_R (6, k, 0), sh_I a1] S sz Q := by
  refine sh_enter (ls := [(0, sh_R (6, k, 0)), (1, sh_I a1)]) (by decide +kernel) (Nat.le_of_ble_eq_true rfl) rfl ?_
  refine sh_iload_n (pc := 0) dX6_tellCount_0 rfl ?_
  refine sh_if_lt (tgt := 18) (pc := 1) dX6_tellCount_1 (by decide) (fun hc1 => ?_) (fun hc1 => ?_)
  · have h := h.1 hc1
    refine sh_iload_n (pc := 18) dX6_tellCount_18 rfl ?_
    refine sh_iconst (v := 3) (pc := 19) dX6_tellCount_19 rfl ?_
    refine sh_icmp_lt (tgt := 37) (pc := 20) dX6_tellCount_20 (by decide) (fun hc2 => ?_) (fun hc2 => ?_)
    · have h := h.1 hc2
      refine sh_iload_n (pc := 37) dX6_tellCount_37 rfl ?_
      refine sh_bipush (v := 8) (pc := 38) dX6_tellCount_38 rfl ?_
      refine sh_icmp_ne (tgt := 48) (pc := 40) dX6_tellCount_40 (by decide) (fun hc3 => ?_) (fun hc3 => ?_)
      · have h := h.1 hc3
        refine sh_iload_n (pc := 48) dX6_tellCount_48 rfl ?_
        refine sh_bipush (v := 9) (pc := 49) dX6_tellCount_49 rfl ?_
        refine sh_icmp_ne (tgt := 59) (pc := 51) dX6_tellCount_51 (by decide) (fun hc4 => ?_) (fun hc4 => ?_)
        · have h := h.1 hc4
          refine sh_iload_n (pc := 59) dX6_tellCount_59 rfl ?_
          refine sh_bipush (v := 20) (pc := 60) dX6_tellCount_60 rfl ?_
          refine sh_icmp_lt (tgt := 83) (pc := 62) dX6_tellCount_62 (by decide) (fun hc5 => ?_) (fun hc5 => ?_)
          · have h := h.1 hc5
            refine sh_ldc (v := (-1000001)) (pc := 83) dX6_tellCount_83 kc_X6_58 ?_
            exact sh_ret_i (pc := 85) dX6_tellCount_85 rfl ⟨rfl, rfl⟩ h
          · have h := h.2 hc5
            refine sh_iload_n (pc := 65) dX6_tellCount_65 rfl ?_
            refine sh_bipush (v := 27) (pc := 66) dX6_tellCount_66 rfl ?_
            refine sh_icmp_ge (tgt := 83) (pc := 68) dX6_tellCount_68 (by decide) (fun hc6 => ?_) (fun hc6 => ?_)
            · have h := h.1 hc6
              refine sh_ldc (v := (-1000001)) (pc := 83) dX6_tellCount_83 kc_X6_58 ?_
              exact sh_ret_i (pc := 85) dX6_tellCount_85 rfl ⟨rfl, rfl⟩ h
            · have h := h.2 hc6
              refine sh_aload_n (pc := 71) dX6_tellCount_71 rfl ?_
              refine sh_gf (pc := 72) dX6_tellCount_72 fl_X6_9 cf_6 hk rfl rfl ?_
              refine sh_iload_n (pc := 75) dX6_tellCount_75 rfl ?_
              refine sh_bipush (v := 20) (pc := 76) dX6_tellCount_76 rfl ?_
              refine sh_isub (pc := 78) dX6_tellCount_78 ?_
              obtain ⟨hi7, h⟩ := h
              refine sh_ia (pc := 79) dX6_tellCount_79 hk rfl hi7 ?_
              refine sh_goto (tgt := 85) (pc := 80) dX6_tellCount_80 (by decide) ?_
              exact sh_ret_i (pc := 85) dX6_tellCount_85 rfl ⟨rfl, rfl⟩ h
        · have h := h.2 hc4
          refine sh_aload_n (pc := 54) dX6_tellCount_54 rfl ?_
          refine sh_gf (pc := 55) dX6_tellCount_55 fl_X6_49 cf_6 hk rfl rfl ?_
          exact sh_ret_i (pc := 58) dX6_tellCount_58 rfl ⟨rfl, rfl⟩ h
      · have h := h.2 hc3
        refine sh_aload_n (pc := 43) dX6_tellCount_43 rfl ?_
        refine sh_ci (N := mX6_countProposals) (pc := 44) dX6_tellCount_44 ml_X6_299 h mf_X6_countProposals iv_X6_countProposals ⟨Nat.le_of_ble_eq_true rfl, Nat.le_of_ble_eq_true rfl⟩ rfl rfl (Nat.le_of_ble_eq_true rfl) hk rfl (show vwCl[6]? = some (RX6, TX6, 5) from rfl) rfl (fun r9 S8 h => ?_)
        exact sh_ret_i (pc := 47) dX6_tellCount_47 rfl ⟨rfl, rfl⟩ h
    · have h := h.2 hc2
      refine sh_iload_n (pc := 23) dX6_tellCount_23 rfl ?_
      refine sh_bipush (v := 8) (pc := 24) dX6_tellCount_24 rfl ?_
      refine sh_icmp_ge (tgt := 37) (pc := 26) dX6_tellCount_26 (by decide) (fun hc10 => ?_) (fun hc10 => ?_)
      · have h := h.1 hc10
        refine sh_iload_n (pc := 37) dX6_tellCount_37 rfl ?_
        refine sh_bipush (v := 8) (pc := 38) dX6_tellCount_38 rfl ?_
        refine sh_icmp_ne (tgt := 48) (pc := 40) dX6_tellCount_40 (by decide) (fun hc11 => ?_) (fun hc11 => ?_)
        · have h := h.1 hc11
          refine sh_iload_n (pc := 48) dX6_tellCount_48 rfl ?_
          refine sh_bipush (v := 9) (pc := 49) dX6_tellCount_49 rfl ?_
          refine sh_icmp_ne (tgt := 59) (pc := 51) dX6_tellCount_51 (by decide) (fun hc12 => ?_) (fun hc12 => ?_)
          · have h := h.1 hc12
            refine sh_iload_n (pc := 59) dX6_tellCount_59 rfl ?_
            refine sh_bipush (v := 20) (pc := 60) dX6_tellCount_60 rfl ?_
            refine sh_icmp_lt (tgt := 83) (pc := 62) dX6_tellCount_62 (by decide) (fun hc13 => ?_) (fun hc13 => ?_)
            · have h := h.1 hc13
              refine sh_ldc (v := (-1000001)) (pc := 83) dX6_tellCount_83 kc_X6_58 ?_
              exact sh_ret_i (pc := 85) dX6_tellCount_85 rfl ⟨rfl, rfl⟩ h
            · have h := h.2 hc13
              refine sh_iload_n (pc := 65) dX6_tellCount_65 rfl ?_
              refine sh_bipush (v := 27) (pc := 66) dX6_tellCount_66 rfl ?_
              refine sh_icmp_ge (tgt := 83) (pc := 68) dX6_tellCount_68 (by decide) (fun hc14 => ?_) (fun hc14 => ?_)
              · have h := h.1 hc14
                refine sh_ldc (v := (-1000001)) (pc := 83) dX6_tellCount_83 kc_X6_58 ?_
                exact sh_ret_i (pc := 85) dX6_tellCount_85 rfl ⟨rfl, rfl⟩ h
              · have h := h.2 hc14
                refine sh_aload_n (pc := 71) dX6_tellCount_71 rfl ?_
                refine sh_gf (pc := 72) dX6_tellCount_72 fl_X6_9 cf_6 hk rfl rfl ?_
                refine sh_iload_n (pc := 75) dX6_tellCount_75 rfl ?_
                refine sh_bipush (v := 20) (pc := 76) dX6_tellCount_76 rfl ?_
                refine sh_isub (pc := 78) dX6_tellCount_78 ?_
                obtain ⟨hi15, h⟩ := h
                refine sh_ia (pc := 79) dX6_tellCount_79 hk rfl hi15 ?_
                refine sh_goto (tgt := 85) (pc := 80) dX6_tellCount_80 (by decide) ?_
                exact sh_ret_i (pc := 85) dX6_tellCount_85 rfl ⟨rfl, rfl⟩ h
          · have h := h.2 hc12
            refine sh_aload_n (pc := 54) dX6_tellCount_54 rfl ?_
            refine sh_gf (pc := 55) dX6_tellCount_55 fl_X6_49 cf_6 hk rfl rfl ?_
            exact sh_ret_i (pc := 58) dX6_tellCount_58 rfl ⟨rfl, rfl⟩ h
        · have h := h.2 hc11
          refine sh_aload_n (pc := 43) dX6_tellCount_43 rfl ?_
          refine sh_ci (N := mX6_countProposals) (pc := 44) dX6_tellCount_44 ml_X6_299 h mf_X6_countProposals iv_X6_countProposals ⟨Nat.le_of_ble_eq_true rfl, Nat.le_of_ble_eq_true rfl⟩ rfl rfl (Nat.le_of_ble_eq_true rfl) hk rfl (show vwCl[6]? = some (RX6, TX6, 5) from rfl) rfl (fun r17 S16 h => ?_)
          exact sh_ret_i (pc := 47) dX6_tellCount_47 rfl ⟨rfl, rfl⟩ h
      · have h := h.2 hc10
        refine sh_aload_n (pc := 29) dX6_tellCount_29 rfl ?_
        refine sh_iload_n (pc := 30) dX6_tellCount_30 rfl ?_
        refine sh_iconst (v := 3) (pc := 31) dX6_tellCount_31 rfl ?_
        refine sh_isub (pc := 32) dX6_tellCount_32 ?_
        refine sh_ci (N := mX6_countAtPlace) (pc := 33) dX6_tellCount_33 ml_X6_296 h mf_X6_countAtPlace iv_X6_countAtPlace ⟨Nat.le_of_ble_eq_true rfl, Nat.le_of_ble_eq_true rfl⟩ rfl rfl (Nat.le_of_ble_eq_true rfl) hk rfl (show vwCl[6]? = some (RX6, TX6, 5) from rfl) rfl (fun r19 S18 h => ?_)
        exact sh_ret_i (pc := 36) dX6_tellCount_36 rfl ⟨rfl, rfl⟩ h
  · have h := h.2 hc1
    refine sh_iload_n (pc := 4) dX6_tellCount_4 rfl ?_
    refine sh_iconst (v := 2) (pc := 5) dX6_tellCount_5 rfl ?_
    refine sh_icmp_gt (tgt := 18) (pc := 6) dX6_tellCount_6 (by decide) (fun hc20 => ?_) (fun hc20 => ?_)
    · have h := h.1 hc20
      refine sh_iload_n (pc := 18) dX6_tellCount_18 rfl ?_
      refine sh_iconst (v := 3) (pc := 19) dX6_tellCount_19 rfl ?_
      refine sh_icmp_lt (tgt := 37) (pc := 20) dX6_tellCount_20 (by decide) (fun hc21 => ?_) (fun hc21 => ?_)
      · have h := h.1 hc21
        refine sh_iload_n (pc := 37) dX6_tellCount_37 rfl ?_
        refine sh_bipush (v := 8) (pc := 38) dX6_tellCount_38 rfl ?_
        refine sh_icmp_ne (tgt := 48) (pc := 40) dX6_tellCount_40 (by decide) (fun hc22 => ?_) (fun hc22 => ?_)
        · have h := h.1 hc22
          refine sh_iload_n (pc := 48) dX6_tellCount_48 rfl ?_
          refine sh_bipush (v := 9) (pc := 49) dX6_tellCount_49 rfl ?_
          refine sh_icmp_ne (tgt := 59) (pc := 51) dX6_tellCount_51 (by decide) (fun hc23 => ?_) (fun hc23 => ?_)
          · have h := h.1 hc23
            refine sh_iload_n (pc := 59) dX6_tellCount_59 rfl ?_
            refine sh_bipush (v := 20) (pc := 60) dX6_tellCount_60 rfl ?_
            refine sh_icmp_lt (tgt := 83) (pc := 62) dX6_tellCount_62 (by decide) (fun hc24 => ?_) (fun hc24 => ?_)
            · have h := h.1 hc24
              refine sh_ldc (v := (-1000001)) (pc := 83) dX6_tellCount_83 kc_X6_58 ?_
              exact sh_ret_i (pc := 85) dX6_tellCount_85 rfl ⟨rfl, rfl⟩ h
            · have h := h.2 hc24
              refine sh_iload_n (pc := 65) dX6_tellCount_65 rfl ?_
              refine sh_bipush (v := 27) (pc := 66) dX6_tellCount_66 rfl ?_
              refine sh_icmp_ge (tgt := 83) (pc := 68) dX6_tellCount_68 (by decide) (fun hc25 => ?_) (fun hc25 => ?_)
              · have h := h.1 hc25
                refine sh_ldc (v := (-1000001)) (pc := 83) dX6_tellCount_83 kc_X6_58 ?_
                exact sh_ret_i (pc := 85) dX6_tellCount_85 rfl ⟨rfl, rfl⟩ h
              · have h := h.2 hc25
                refine sh_aload_n (pc := 71) dX6_tellCount_71 rfl ?_
                refine sh_gf (pc := 72) dX6_tellCount_72 fl_X6_9 cf_6 hk rfl rfl ?_
                refine sh_iload_n (pc := 75) dX6_tellCount_75 rfl ?_
                refine sh_bipush (v := 20) (pc := 76) dX6_tellCount_76 rfl ?_
                refine sh_isub (pc := 78) dX6_tellCount_78 ?_
                obtain ⟨hi26, h⟩ := h
                refine sh_ia (pc := 79) dX6_tellCount_79 hk rfl hi26 ?_
                refine sh_goto (tgt := 85) (pc := 80) dX6_tellCount_80 (by decide) ?_
                exact sh_ret_i (pc := 85) dX6_tellCount_85 rfl ⟨rfl, rfl⟩ h
          · have h := h.2 hc23
            refine sh_aload_n (pc := 54) dX6_tellCount_54 rfl ?_
            refine sh_gf (pc := 55) dX6_tellCount_55 fl_X6_49 cf_6 hk rfl rfl ?_
            exact sh_ret_i (pc := 58) dX6_tellCount_58 rfl ⟨rfl, rfl⟩ h
        · have h := h.2 hc22
          refine sh_aload_n (pc := 43) dX6_tellCount_43 rfl ?_
          refine sh_ci (N := mX6_countProposals) (pc := 44) dX6_tellCount_44 ml_X6_299 h mf_X6_countProposals iv_X6_countProposals ⟨Nat.le_of_ble_eq_true rfl, Nat.le_of_ble_eq_true rfl⟩ rfl rfl (Nat.le_of_ble_eq_true rfl) hk rfl (show vwCl[6]? = some (RX6, TX6, 5) from rfl) rfl (fun r28 S27 h => ?_)
          exact sh_ret_i (pc := 47) dX6_tellCount_47 rfl ⟨rfl, rfl⟩ h
      · have h := h.2 hc21
        refine sh_iload_n (pc := 23) dX6_tellCount_23 rfl ?_
        refine sh_bipush (v := 8) (pc := 24) dX6_tellCount_24 rfl ?_
        refine sh_icmp_ge (tgt := 37) (pc := 26) dX6_tellCount_26 (by decide) (fun hc29 => ?_) (fun hc29 => ?_)
        · have h := h.1 hc29
          refine sh_iload_n (pc := 37) dX6_tellCount_37 rfl ?_
          refine sh_bipush (v := 8) (pc := 38) dX6_tellCount_38 rfl ?_
          refine sh_icmp_ne (tgt := 48) (pc := 40) dX6_tellCount_40 (by decide) (fun hc30 => ?_) (fun hc30 => ?_)
          · have h := h.1 hc30
            refine sh_iload_n (pc := 48) dX6_tellCount_48 rfl ?_
            refine sh_bipush (v := 9) (pc := 49) dX6_tellCount_49 rfl ?_
            refine sh_icmp_ne (tgt := 59) (pc := 51) dX6_tellCount_51 (by decide) (fun hc31 => ?_) (fun hc31 => ?_)
            · have h := h.1 hc31
              refine sh_iload_n (pc := 59) dX6_tellCount_59 rfl ?_
              refine sh_bipush (v := 20) (pc := 60) dX6_tellCount_60 rfl ?_
              refine sh_icmp_lt (tgt := 83) (pc := 62) dX6_tellCount_62 (by decide) (fun hc32 => ?_) (fun hc32 => ?_)
              · have h := h.1 hc32
                refine sh_ldc (v := (-1000001)) (pc := 83) dX6_tellCount_83 kc_X6_58 ?_
                exact sh_ret_i (pc := 85) dX6_tellCount_85 rfl ⟨rfl, rfl⟩ h
              · have h := h.2 hc32
                refine sh_iload_n (pc := 65) dX6_tellCount_65 rfl ?_
                refine sh_bipush (v := 27) (pc := 66) dX6_tellCount_66 rfl ?_
                refine sh_icmp_ge (tgt := 83) (pc := 68) dX6_tellCount_68 (by decide) (fun hc33 => ?_) (fun hc33 => ?_)
                · have h := h.1 hc33
                  refine sh_ldc (v := (-1000001)) (pc := 83) dX6_tellCount_83 kc_X6_58 ?_
                  exact sh_ret_i (pc := 85) dX6_tellCount_85 rfl ⟨rfl, rfl⟩ h
                · have h := h.2 hc33
                  refine sh_aload_n (pc := 71) dX6_tellCount_71 rfl ?_
                  refine sh_gf (pc := 72) dX6_tellCount_72 fl_X6_9 cf_6 hk rfl rfl ?_
                  refine sh_iload_n (pc := 75) dX6_tellCount_75 rfl ?_
                  refine sh_bipush (v := 20) (pc := 76) dX6_tellCount_76 rfl ?_
                  refine sh_isub (pc := 78) dX6_tellCount_78 ?_
                  obtain ⟨hi34, h⟩ := h
                  refine sh_ia (pc := 79) dX6_tellCount_79 hk rfl hi34 ?_
                  refine sh_goto (tgt := 85) (pc := 80) dX6_tellCount_80 (by decide) ?_
                  exact sh_ret_i (pc := 85) dX6_tellCount_85 rfl ⟨rfl, rfl⟩ h
            · have h := h.2 hc31
              refine sh_aload_n (pc := 54) dX6_tellCount_54 rfl ?_
              refine sh_gf (pc := 55) dX6_tellCount_55 fl_X6_49 cf_6 hk rfl rfl ?_
              exact sh_ret_i (pc := 58) dX6_tellCount_58 rfl ⟨rfl, rfl⟩ h
          · have h := h.2 hc30
            refine sh_aload_n (pc := 43) dX6_tellCount_43 rfl ?_
            refine sh_ci (N := mX6_countProposals) (pc := 44) dX6_tellCount_44 ml_X6_299 h mf_X6_countProposals iv_X6_countProposals ⟨Nat.le_of_ble_eq_true rfl, Nat.le_of_ble_eq_true rfl⟩ rfl rfl (Nat.le_of_ble_eq_true rfl) hk rfl (show vwCl[6]? = some (RX6, TX6, 5) from rfl) rfl (fun r36 S35 h => ?_)
            exact sh_ret_i (pc := 47) dX6_tellCount_47 rfl ⟨rfl, rfl⟩ h
        · have h := h.2 hc29
          refine sh_aload_n (pc := 29) dX6_tellCount_29 rfl ?_
          refine sh_iload_n (pc := 30) dX6_tellCount_30 rfl ?_
          refine sh_iconst (v := 3) (pc := 31) dX6_tellCount_31 rfl ?_
          refine sh_isub (pc := 32) dX6_tellCount_32 ?_
          refine sh_ci (N := mX6_countAtPlace) (pc := 33) dX6_tellCount_33 ml_X6_296 h mf_X6_countAtPlace iv_X6_countAtPlace ⟨Nat.le_of_ble_eq_true rfl, Nat.le_of_ble_eq_true rfl⟩ rfl rfl (Nat.le_of_ble_eq_true rfl) hk rfl (show vwCl[6]? = some (RX6, TX6, 5) from rfl) rfl (fun r38 S37 h => ?_)
          exact sh_ret_i (pc := 36) dX6_tellCount_36 rfl ⟨rfl, rfl⟩ h
    · have h := h.2 hc20
      refine sh_aload_n (pc := 9) dX6_tellCount_9 rfl ?_
      refine sh_gf (pc := 10) dX6_tellCount_10 fl_X6_18 cf_6 hk rfl rfl ?_
      refine sh_iload_n (pc := 13) dX6_tellCount_13 rfl ?_
      refine sh_ci (N := mX2_countWithStatus) (pc := 14) dX6_tellCount_14 ml_X6_293 h mf_X2_countWithStatus iv_X2_countWithStatus ⟨Nat.le_of_ble_eq_true rfl, Nat.le_of_ble_eq_true rfl⟩ rfl rfl (Nat.le_of_ble_eq_true rfl) hk rfl (show vwCl[2]? = some (RX2, TX2, 5) from rfl) rfl (fun r40 S39 h => ?_)
      exact sh_ret_i (pc := 17) dX6_tellCount_17 rfl ⟨rfl, rfl⟩ h

set_option maxRecDepth 100000 in
set_option maxHeartbeats 4000000 in
theorem wp_X8_changed {g : sh_G} {S : sh_S} {sz : Nat} {Q : Int32 → sh_S → Prop} {a1 : Int32} 
    (h : ((a1 < 0 → Q a1 S) ∧ (¬ a1 < 0 → (sh_Cu g mX0_keepCopy [sh_R (0, 0, 0)] S sz (fun S2 => Q a1 S2))))) :
    sh_Ci g mX8_changed [sh_R (8, 0, 0), sh_I a1] S sz Q := by
  refine sh_enter (ls := [(0, sh_R (8, 0, 0)), (1, sh_I a1)]) (by decide +kernel) (Nat.le_of_ble_eq_true rfl) rfl ?_
  refine sh_iload_n (pc := 0) dX8_changed_0 rfl ?_
  refine sh_if_lt (tgt := 11) (pc := 1) dX8_changed_1 (by decide) (fun hc1 => ?_) (fun hc1 => ?_)
  · have h := h.1 hc1
    refine sh_iload_n (pc := 11) dX8_changed_11 rfl ?_
    exact sh_ret_i (pc := 12) dX8_changed_12 rfl ⟨rfl, rfl⟩ h
  · have h := h.2 hc1
    refine sh_aload_n (pc := 4) dX8_changed_4 rfl ?_
    refine sh_gf (pc := 5) dX8_changed_5 fl_X8_22 cf_8 ok_8_0 rfl rfl ?_
    refine sh_cu (N := mX0_keepCopy) (pc := 8) dX8_changed_8 ml_X8_183 h mf_X0_keepCopy iv_X0_keepCopy ⟨Nat.le_of_ble_eq_true rfl, Nat.le_of_ble_eq_true rfl⟩ rfl rfl (Nat.le_of_ble_eq_true rfl) ok_0_0 rfl (show vwCl[0]? = some (RX0, TX0, 2) from rfl) rfl (fun S2 h => ?_)
    refine sh_iload_n (pc := 11) dX8_changed_11 rfl ?_
    exact sh_ret_i (pc := 12) dX8_changed_12 rfl ⟨rfl, rfl⟩ h

set_option maxRecDepth 100000 in
set_option maxHeartbeats 4000000 in
theorem wp_X8_set {g : sh_G} {S : sh_S} {sz : Nat} {Q : Int32 → sh_S → Prop} {a1 : Int32} {a2 : Int32} 
    (h : (sh_Cu g mX0_copyPresent [sh_R (0, 0, 0), sh_R (6, 0, 0)] S sz (fun S1 => (sh_Ci g mX6_changeSetting [sh_R (6, 0, 0), sh_I a1, sh_I a2] S1 sz (fun r3 S2 => (sh_Ci g mX8_changed [sh_R (8, 0, 0), sh_I r3] S2 sz (fun r5 S4 => Q r5 S4))))))) :
    sh_Ci g mX8_set [sh_R (8, 0, 0), sh_I a1, sh_I a2] S sz Q := by
  refine sh_enter (ls := [(0, sh_R (8, 0, 0)), (1, sh_I a1), (2, sh_I a2)]) (by decide +kernel) (Nat.le_of_ble_eq_true rfl) rfl ?_
  refine sh_aload_n (pc := 0) dX8_set_0 rfl ?_
  refine sh_gf (pc := 1) dX8_set_1 fl_X8_22 cf_8 ok_8_0 rfl rfl ?_
  refine sh_aload_n (pc := 4) dX8_set_4 rfl ?_
  refine sh_gf (pc := 5) dX8_set_5 fl_X8_10 cf_8 ok_8_0 rfl rfl ?_
  refine sh_cu (N := mX0_copyPresent) (pc := 8) dX8_set_8 ml_X8_33 h mf_X0_copyPresent iv_X0_copyPresent ⟨Nat.le_of_ble_eq_true rfl, Nat.le_of_ble_eq_true rfl⟩ rfl rfl (Nat.le_of_ble_eq_true rfl) ok_0_0 rfl (show vwCl[0]? = some (RX0, TX0, 2) from rfl) rfl (fun S1 h => ?_)
  refine sh_aload_n (pc := 11) dX8_set_11 rfl ?_
  refine sh_aload_n (pc := 12) dX8_set_12 rfl ?_
  refine sh_gf (pc := 13) dX8_set_13 fl_X8_10 cf_8 ok_8_0 rfl rfl ?_
  refine sh_iload_n (pc := 16) dX8_set_16 rfl ?_
  refine sh_iload_n (pc := 17) dX8_set_17 rfl ?_
  refine sh_ci (N := mX6_changeSetting) (pc := 18) dX8_set_18 ml_X8_37 h mf_X6_changeSetting iv_X6_changeSetting ⟨Nat.le_of_ble_eq_true rfl, Nat.le_of_ble_eq_true rfl⟩ rfl rfl (Nat.le_of_ble_eq_true rfl) ok_6_0 rfl (show vwCl[6]? = some (RX6, TX6, 5) from rfl) rfl (fun r3 S2 h => ?_)
  refine sh_ci (N := mX8_changed) (pc := 21) dX8_set_21 ml_X8_41 h mf_X8_changed iv_X8_changed ⟨Nat.le_of_ble_eq_true rfl, Nat.le_of_ble_eq_true rfl⟩ rfl rfl (Nat.le_of_ble_eq_true rfl) ok_8_0 rfl (show vwCl[8]? = some (RX8, TX8, 4) from rfl) rfl (fun r5 S4 h => ?_)
  exact sh_ret_i (pc := 24) dX8_set_24 rfl ⟨rfl, rfl⟩ h

set_option maxRecDepth 100000 in
set_option maxHeartbeats 4000000 in
theorem wp_X8_member {g : sh_G} {S : sh_S} {sz : Nat} {Q : Int32 → sh_S → Prop} 
    (h : (sh_Cu g mX0_copyPresent [sh_R (0, 0, 0), sh_R (6, 0, 0)] S sz (fun S1 => (sh_Ci g mX2_join [sh_R (2, 0, 0)] S1 sz (fun r3 S2 => (sh_Ci g mX8_changed [sh_R (8, 0, 0), sh_I r3] S2 sz (fun r5 S4 => Q r5 S4))))))) :
    sh_Ci g mX8_member [sh_R (8, 0, 0)] S sz Q := by
  refine sh_enter (ls := [(0, sh_R (8, 0, 0))]) (by decide +kernel) (Nat.le_of_ble_eq_true rfl) rfl ?_
  refine sh_aload_n (pc := 0) dX8_member_0 rfl ?_
  refine sh_gf (pc := 1) dX8_member_1 fl_X8_22 cf_8 ok_8_0 rfl rfl ?_
  refine sh_aload_n (pc := 4) dX8_member_4 rfl ?_
  refine sh_gf (pc := 5) dX8_member_5 fl_X8_10 cf_8 ok_8_0 rfl rfl ?_
  refine sh_cu (N := mX0_copyPresent) (pc := 8) dX8_member_8 ml_X8_33 h mf_X0_copyPresent iv_X0_copyPresent ⟨Nat.le_of_ble_eq_true rfl, Nat.le_of_ble_eq_true rfl⟩ rfl rfl (Nat.le_of_ble_eq_true rfl) ok_0_0 rfl (show vwCl[0]? = some (RX0, TX0, 2) from rfl) rfl (fun S1 h => ?_)
  refine sh_aload_n (pc := 11) dX8_member_11 rfl ?_
  refine sh_aload_n (pc := 12) dX8_member_12 rfl ?_
  refine sh_gf (pc := 13) dX8_member_13 fl_X8_10 cf_8 ok_8_0 rfl rfl ?_
  refine sh_gf (pc := 16) dX8_member_16 fl_X8_45 cf_6 ok_6_0 rfl rfl ?_
  refine sh_ci (N := mX2_join) (pc := 19) dX8_member_19 ml_X8_49 h mf_X2_join iv_X2_join ⟨Nat.le_of_ble_eq_true rfl, Nat.le_of_ble_eq_true rfl⟩ rfl rfl (Nat.le_of_ble_eq_true rfl) ok_6_0 rfl (show vwCl[2]? = some (RX2, TX2, 5) from rfl) rfl (fun r3 S2 h => ?_)
  refine sh_ci (N := mX8_changed) (pc := 22) dX8_member_22 ml_X8_41 h mf_X8_changed iv_X8_changed ⟨Nat.le_of_ble_eq_true rfl, Nat.le_of_ble_eq_true rfl⟩ rfl rfl (Nat.le_of_ble_eq_true rfl) ok_8_0 rfl (show vwCl[8]? = some (RX8, TX8, 4) from rfl) rfl (fun r5 S4 h => ?_)
  exact sh_ret_i (pc := 25) dX8_member_25 rfl ⟨rfl, rfl⟩ h

set_option maxRecDepth 100000 in
set_option maxHeartbeats 4000000 in
theorem wp_X8_away {g : sh_G} {S : sh_S} {sz : Nat} {Q : Int32 → sh_S → Prop} {a1 : Int32} {a2 : Int32} 
    (h : (sh_Cu g mX0_copyPresent [sh_R (0, 0, 0), sh_R (6, 0, 0)] S sz (fun S1 => (sh_Ci g mX2_putAway [sh_R (2, 0, 0), sh_I a1, sh_I a2] S1 sz (fun r3 S2 => (sh_Ci g mX8_changed [sh_R (8, 0, 0), sh_I r3] S2 sz (fun r5 S4 => Q r5 S4))))))) :
    sh_Ci g mX8_away [sh_R (8, 0, 0), sh_I a1, sh_I a2] S sz Q := by
  refine sh_enter (ls := [(0, sh_R (8, 0, 0)), (1, sh_I a1), (2, sh_I a2)]) (by decide +kernel) (Nat.le_of_ble_eq_true rfl) rfl ?_
  refine sh_aload_n (pc := 0) dX8_away_0 rfl ?_
  refine sh_gf (pc := 1) dX8_away_1 fl_X8_22 cf_8 ok_8_0 rfl rfl ?_
  refine sh_aload_n (pc := 4) dX8_away_4 rfl ?_
  refine sh_gf (pc := 5) dX8_away_5 fl_X8_10 cf_8 ok_8_0 rfl rfl ?_
  refine sh_cu (N := mX0_copyPresent) (pc := 8) dX8_away_8 ml_X8_33 h mf_X0_copyPresent iv_X0_copyPresent ⟨Nat.le_of_ble_eq_true rfl, Nat.le_of_ble_eq_true rfl⟩ rfl rfl (Nat.le_of_ble_eq_true rfl) ok_0_0 rfl (show vwCl[0]? = some (RX0, TX0, 2) from rfl) rfl (fun S1 h => ?_)
  refine sh_aload_n (pc := 11) dX8_away_11 rfl ?_
  refine sh_aload_n (pc := 12) dX8_away_12 rfl ?_
  refine sh_gf (pc := 13) dX8_away_13 fl_X8_10 cf_8 ok_8_0 rfl rfl ?_
  refine sh_gf (pc := 16) dX8_away_16 fl_X8_45 cf_6 ok_6_0 rfl rfl ?_
  refine sh_iload_n (pc := 19) dX8_away_19 rfl ?_
  refine sh_iload_n (pc := 20) dX8_away_20 rfl ?_
  refine sh_ci (N := mX2_putAway) (pc := 21) dX8_away_21 ml_X8_55 h mf_X2_putAway iv_X2_putAway ⟨Nat.le_of_ble_eq_true rfl, Nat.le_of_ble_eq_true rfl⟩ rfl rfl (Nat.le_of_ble_eq_true rfl) ok_6_0 rfl (show vwCl[2]? = some (RX2, TX2, 5) from rfl) rfl (fun r3 S2 h => ?_)
  refine sh_ci (N := mX8_changed) (pc := 24) dX8_away_24 ml_X8_41 h mf_X8_changed iv_X8_changed ⟨Nat.le_of_ble_eq_true rfl, Nat.le_of_ble_eq_true rfl⟩ rfl rfl (Nat.le_of_ble_eq_true rfl) ok_8_0 rfl (show vwCl[8]? = some (RX8, TX8, 4) from rfl) rfl (fun r5 S4 h => ?_)
  exact sh_ret_i (pc := 27) dX8_away_27 rfl ⟨rfl, rfl⟩ h

set_option maxRecDepth 100000 in
set_option maxHeartbeats 4000000 in
theorem wp_X8_leave {g : sh_G} {S : sh_S} {sz : Nat} {Q : Int32 → sh_S → Prop} {a1 : Int32} 
    (h : (sh_Cu g mX0_copyPresent [sh_R (0, 0, 0), sh_R (6, 0, 0)] S sz (fun S1 => (sh_Ci g mX6_letLeave [sh_R (6, 0, 0), sh_I a1] S1 sz (fun r3 S2 => (sh_Ci g mX8_changed [sh_R (8, 0, 0), sh_I r3] S2 sz (fun r5 S4 => Q r5 S4))))))) :
    sh_Ci g mX8_leave [sh_R (8, 0, 0), sh_I a1] S sz Q := by
  refine sh_enter (ls := [(0, sh_R (8, 0, 0)), (1, sh_I a1)]) (by decide +kernel) (Nat.le_of_ble_eq_true rfl) rfl ?_
  refine sh_aload_n (pc := 0) dX8_leave_0 rfl ?_
  refine sh_gf (pc := 1) dX8_leave_1 fl_X8_22 cf_8 ok_8_0 rfl rfl ?_
  refine sh_aload_n (pc := 4) dX8_leave_4 rfl ?_
  refine sh_gf (pc := 5) dX8_leave_5 fl_X8_10 cf_8 ok_8_0 rfl rfl ?_
  refine sh_cu (N := mX0_copyPresent) (pc := 8) dX8_leave_8 ml_X8_33 h mf_X0_copyPresent iv_X0_copyPresent ⟨Nat.le_of_ble_eq_true rfl, Nat.le_of_ble_eq_true rfl⟩ rfl rfl (Nat.le_of_ble_eq_true rfl) ok_0_0 rfl (show vwCl[0]? = some (RX0, TX0, 2) from rfl) rfl (fun S1 h => ?_)
  refine sh_aload_n (pc := 11) dX8_leave_11 rfl ?_
  refine sh_aload_n (pc := 12) dX8_leave_12 rfl ?_
  refine sh_gf (pc := 13) dX8_leave_13 fl_X8_10 cf_8 ok_8_0 rfl rfl ?_
  refine sh_iload_n (pc := 16) dX8_leave_16 rfl ?_
  refine sh_ci (N := mX6_letLeave) (pc := 17) dX8_leave_17 ml_X8_58 h mf_X6_letLeave iv_X6_letLeave ⟨Nat.le_of_ble_eq_true rfl, Nat.le_of_ble_eq_true rfl⟩ rfl rfl (Nat.le_of_ble_eq_true rfl) ok_6_0 rfl (show vwCl[6]? = some (RX6, TX6, 5) from rfl) rfl (fun r3 S2 h => ?_)
  refine sh_ci (N := mX8_changed) (pc := 20) dX8_leave_20 ml_X8_41 h mf_X8_changed iv_X8_changed ⟨Nat.le_of_ble_eq_true rfl, Nat.le_of_ble_eq_true rfl⟩ rfl rfl (Nat.le_of_ble_eq_true rfl) ok_8_0 rfl (show vwCl[8]? = some (RX8, TX8, 4) from rfl) rfl (fun r5 S4 h => ?_)
  exact sh_ret_i (pc := 23) dX8_leave_23 rfl ⟨rfl, rfl⟩ h

set_option maxRecDepth 100000 in
set_option maxHeartbeats 4000000 in
theorem wp_X8_give {g : sh_G} {S : sh_S} {sz : Nat} {Q : Int32 → sh_S → Prop} {a1 : Int32} {a2 : Int32} 
    (h : (sh_Cu g mX0_copyPresent [sh_R (0, 0, 0), sh_R (6, 0, 0)] S sz (fun S1 => (sh_Ci g mX2_takeGift [sh_R (2, 0, 0), sh_I a1, sh_I a2] S1 sz (fun r3 S2 => (sh_Ci g mX8_changed [sh_R (8, 0, 0), sh_I r3] S2 sz (fun r5 S4 => Q r5 S4))))))) :
    sh_Ci g mX8_give [sh_R (8, 0, 0), sh_I a1, sh_I a2] S sz Q := by
  refine sh_enter (ls := [(0, sh_R (8, 0, 0)), (1, sh_I a1), (2, sh_I a2)]) (by decide +kernel) (Nat.le_of_ble_eq_true rfl) rfl ?_
  refine sh_aload_n (pc := 0) dX8_give_0 rfl ?_
  refine sh_gf (pc := 1) dX8_give_1 fl_X8_22 cf_8 ok_8_0 rfl rfl ?_
  refine sh_aload_n (pc := 4) dX8_give_4 rfl ?_
  refine sh_gf (pc := 5) dX8_give_5 fl_X8_10 cf_8 ok_8_0 rfl rfl ?_
  refine sh_cu (N := mX0_copyPresent) (pc := 8) dX8_give_8 ml_X8_33 h mf_X0_copyPresent iv_X0_copyPresent ⟨Nat.le_of_ble_eq_true rfl, Nat.le_of_ble_eq_true rfl⟩ rfl rfl (Nat.le_of_ble_eq_true rfl) ok_0_0 rfl (show vwCl[0]? = some (RX0, TX0, 2) from rfl) rfl (fun S1 h => ?_)
  refine sh_aload_n (pc := 11) dX8_give_11 rfl ?_
  refine sh_aload_n (pc := 12) dX8_give_12 rfl ?_
  refine sh_gf (pc := 13) dX8_give_13 fl_X8_10 cf_8 ok_8_0 rfl rfl ?_
  refine sh_gf (pc := 16) dX8_give_16 fl_X8_45 cf_6 ok_6_0 rfl rfl ?_
  refine sh_iload_n (pc := 19) dX8_give_19 rfl ?_
  refine sh_iload_n (pc := 20) dX8_give_20 rfl ?_
  refine sh_ci (N := mX2_takeGift) (pc := 21) dX8_give_21 ml_X8_61 h mf_X2_takeGift iv_X2_takeGift ⟨Nat.le_of_ble_eq_true rfl, Nat.le_of_ble_eq_true rfl⟩ rfl rfl (Nat.le_of_ble_eq_true rfl) ok_6_0 rfl (show vwCl[2]? = some (RX2, TX2, 5) from rfl) rfl (fun r3 S2 h => ?_)
  refine sh_ci (N := mX8_changed) (pc := 24) dX8_give_24 ml_X8_41 h mf_X8_changed iv_X8_changed ⟨Nat.le_of_ble_eq_true rfl, Nat.le_of_ble_eq_true rfl⟩ rfl rfl (Nat.le_of_ble_eq_true rfl) ok_8_0 rfl (show vwCl[8]? = some (RX8, TX8, 4) from rfl) rfl (fun r5 S4 h => ?_)
  exact sh_ret_i (pc := 27) dX8_give_27 rfl ⟨rfl, rfl⟩ h

set_option maxRecDepth 100000 in
set_option maxHeartbeats 4000000 in
theorem wp_X8_memberOf {g : sh_G} {S : sh_S} {sz : Nat} {Q : Int32 → sh_S → Prop} {a1 : Int32} {a2 : Int32} 
    (h : (sh_Ci g mX6_tellOfMember [sh_R (6, 0, 0), sh_I a1, sh_I a2] S sz (fun r2 S1 => Q r2 S1))) :
    sh_Ci g mX8_memberOf [sh_R (8, 0, 0), sh_I a1, sh_I a2] S sz Q := by
  refine sh_enter (ls := [(0, sh_R (8, 0, 0)), (1, sh_I a1), (2, sh_I a2)]) (by decide +kernel) (Nat.le_of_ble_eq_true rfl) rfl ?_
  refine sh_aload_n (pc := 0) dX8_memberOf_0 rfl ?_
  refine sh_gf (pc := 1) dX8_memberOf_1 fl_X8_10 cf_8 ok_8_0 rfl rfl ?_
  refine sh_iload_n (pc := 4) dX8_memberOf_4 rfl ?_
  refine sh_iload_n (pc := 5) dX8_memberOf_5 rfl ?_
  refine sh_ci (N := mX6_tellOfMember) (pc := 6) dX8_memberOf_6 ml_X8_64 h mf_X6_tellOfMember iv_X6_tellOfMember ⟨Nat.le_of_ble_eq_true rfl, Nat.le_of_ble_eq_true rfl⟩ rfl rfl (Nat.le_of_ble_eq_true rfl) ok_6_0 rfl (show vwCl[6]? = some (RX6, TX6, 5) from rfl) rfl (fun r2 S1 h => ?_)
  exact sh_ret_i (pc := 9) dX8_memberOf_9 rfl ⟨rfl, rfl⟩ h

set_option maxRecDepth 100000 in
set_option maxHeartbeats 4000000 in
theorem wp_X8_account {g : sh_G} {S : sh_S} {sz : Nat} {Q : Int32 → sh_S → Prop} {a1 : Int32} 
    (h : (sh_Ci g mX2_tellOfAll [sh_R (2, 0, 0), sh_I a1] S sz (fun r2 S1 => Q r2 S1))) :
    sh_Ci g mX8_account [sh_R (8, 0, 0), sh_I a1] S sz Q := by
  refine sh_enter (ls := [(0, sh_R (8, 0, 0)), (1, sh_I a1)]) (by decide +kernel) (Nat.le_of_ble_eq_true rfl) rfl ?_
  refine sh_aload_n (pc := 0) dX8_account_0 rfl ?_
  refine sh_gf (pc := 1) dX8_account_1 fl_X8_10 cf_8 ok_8_0 rfl rfl ?_
  refine sh_gf (pc := 4) dX8_account_4 fl_X8_45 cf_6 ok_6_0 rfl rfl ?_
  refine sh_iload_n (pc := 7) dX8_account_7 rfl ?_
  refine sh_ci (N := mX2_tellOfAll) (pc := 8) dX8_account_8 ml_X8_67 h mf_X2_tellOfAll iv_X2_tellOfAll ⟨Nat.le_of_ble_eq_true rfl, Nat.le_of_ble_eq_true rfl⟩ rfl rfl (Nat.le_of_ble_eq_true rfl) ok_6_0 rfl (show vwCl[2]? = some (RX2, TX2, 5) from rfl) rfl (fun r2 S1 h => ?_)
  exact sh_ret_i (pc := 11) dX8_account_11 rfl ⟨rfl, rfl⟩ h

set_option maxRecDepth 100000 in
set_option maxHeartbeats 4000000 in
theorem wp_X8_debtorAt {g : sh_G} {S : sh_S} {sz : Nat} {Q : Int32 → sh_S → Prop} {a1 : Int32} 
    (h : (sh_Ci g mX2_debtorInOrder [sh_R (2, 0, 0), sh_I a1] S sz (fun r2 S1 => Q r2 S1))) :
    sh_Ci g mX8_debtorAt [sh_R (8, 0, 0), sh_I a1] S sz Q := by
  refine sh_enter (ls := [(0, sh_R (8, 0, 0)), (1, sh_I a1)]) (by decide +kernel) (Nat.le_of_ble_eq_true rfl) rfl ?_
  refine sh_aload_n (pc := 0) dX8_debtorAt_0 rfl ?_
  refine sh_gf (pc := 1) dX8_debtorAt_1 fl_X8_10 cf_8 ok_8_0 rfl rfl ?_
  refine sh_gf (pc := 4) dX8_debtorAt_4 fl_X8_45 cf_6 ok_6_0 rfl rfl ?_
  refine sh_iload_n (pc := 7) dX8_debtorAt_7 rfl ?_
  refine sh_ci (N := mX2_debtorInOrder) (pc := 8) dX8_debtorAt_8 ml_X8_70 h mf_X2_debtorInOrder iv_X2_debtorInOrder ⟨Nat.le_of_ble_eq_true rfl, Nat.le_of_ble_eq_true rfl⟩ rfl rfl (Nat.le_of_ble_eq_true rfl) ok_6_0 rfl (show vwCl[2]? = some (RX2, TX2, 5) from rfl) rfl (fun r2 S1 h => ?_)
  exact sh_ret_i (pc := 11) dX8_debtorAt_11 rfl ⟨rfl, rfl⟩ h

set_option maxRecDepth 100000 in
set_option maxHeartbeats 4000000 in
theorem wp_X8_tool {g : sh_G} {S : sh_S} {sz : Nat} {Q : Int32 → sh_S → Prop} {a1 : Int32} {a2 : Int32} {a3 : Int32} 
    (h : (sh_Cu g mX0_copyPresent [sh_R (0, 0, 0), sh_R (6, 0, 0)] S sz (fun S1 => (sh_Ci g mX6_addTool [sh_R (6, 0, 0), sh_I a1, sh_I a2, sh_I a3] S1 sz (fun r3 S2 => (sh_Ci g mX8_changed [sh_R (8, 0, 0), sh_I r3] S2 sz (fun r5 S4 => Q r5 S4))))))) :
    sh_Ci g mX8_tool [sh_R (8, 0, 0), sh_I a1, sh_I a2, sh_I a3] S sz Q := by
  refine sh_enter (ls := [(0, sh_R (8, 0, 0)), (1, sh_I a1), (2, sh_I a2), (3, sh_I a3)]) (by decide +kernel) (Nat.le_of_ble_eq_true rfl) rfl ?_
  refine sh_aload_n (pc := 0) dX8_tool_0 rfl ?_
  refine sh_gf (pc := 1) dX8_tool_1 fl_X8_22 cf_8 ok_8_0 rfl rfl ?_
  refine sh_aload_n (pc := 4) dX8_tool_4 rfl ?_
  refine sh_gf (pc := 5) dX8_tool_5 fl_X8_10 cf_8 ok_8_0 rfl rfl ?_
  refine sh_cu (N := mX0_copyPresent) (pc := 8) dX8_tool_8 ml_X8_33 h mf_X0_copyPresent iv_X0_copyPresent ⟨Nat.le_of_ble_eq_true rfl, Nat.le_of_ble_eq_true rfl⟩ rfl rfl (Nat.le_of_ble_eq_true rfl) ok_0_0 rfl (show vwCl[0]? = some (RX0, TX0, 2) from rfl) rfl (fun S1 h => ?_)
  refine sh_aload_n (pc := 11) dX8_tool_11 rfl ?_
  refine sh_aload_n (pc := 12) dX8_tool_12 rfl ?_
  refine sh_gf (pc := 13) dX8_tool_13 fl_X8_10 cf_8 ok_8_0 rfl rfl ?_
  refine sh_iload_n (pc := 16) dX8_tool_16 rfl ?_
  refine sh_iload_n (pc := 17) dX8_tool_17 rfl ?_
  refine sh_iload_n (pc := 18) dX8_tool_18 rfl ?_
  refine sh_ci (N := mX6_addTool) (pc := 19) dX8_tool_19 ml_X8_73 h mf_X6_addTool iv_X6_addTool ⟨Nat.le_of_ble_eq_true rfl, Nat.le_of_ble_eq_true rfl⟩ rfl rfl (Nat.le_of_ble_eq_true rfl) ok_6_0 rfl (show vwCl[6]? = some (RX6, TX6, 5) from rfl) rfl (fun r3 S2 h => ?_)
  refine sh_ci (N := mX8_changed) (pc := 22) dX8_tool_22 ml_X8_41 h mf_X8_changed iv_X8_changed ⟨Nat.le_of_ble_eq_true rfl, Nat.le_of_ble_eq_true rfl⟩ rfl rfl (Nat.le_of_ble_eq_true rfl) ok_8_0 rfl (show vwCl[8]? = some (RX8, TX8, 4) from rfl) rfl (fun r5 S4 h => ?_)
  exact sh_ret_i (pc := 25) dX8_tool_25 rfl ⟨rfl, rfl⟩ h

set_option maxRecDepth 100000 in
set_option maxHeartbeats 4000000 in
theorem wp_X8_hang {g : sh_G} {S : sh_S} {sz : Nat} {Q : Int32 → sh_S → Prop} {a1 : Int32} {a2 : Int32} {a3 : Int32} 
    (h : (sh_Cu g mX0_copyPresent [sh_R (0, 0, 0), sh_R (6, 0, 0)] S sz (fun S1 => (sh_Ci g mX6_hangTool [sh_R (6, 0, 0), sh_I a1, sh_I a2, sh_I a3] S1 sz (fun r3 S2 => (sh_Ci g mX8_changed [sh_R (8, 0, 0), sh_I r3] S2 sz (fun r5 S4 => Q r5 S4))))))) :
    sh_Ci g mX8_hang [sh_R (8, 0, 0), sh_I a1, sh_I a2, sh_I a3] S sz Q := by
  refine sh_enter (ls := [(0, sh_R (8, 0, 0)), (1, sh_I a1), (2, sh_I a2), (3, sh_I a3)]) (by decide +kernel) (Nat.le_of_ble_eq_true rfl) rfl ?_
  refine sh_aload_n (pc := 0) dX8_hang_0 rfl ?_
  refine sh_gf (pc := 1) dX8_hang_1 fl_X8_22 cf_8 ok_8_0 rfl rfl ?_
  refine sh_aload_n (pc := 4) dX8_hang_4 rfl ?_
  refine sh_gf (pc := 5) dX8_hang_5 fl_X8_10 cf_8 ok_8_0 rfl rfl ?_
  refine sh_cu (N := mX0_copyPresent) (pc := 8) dX8_hang_8 ml_X8_33 h mf_X0_copyPresent iv_X0_copyPresent ⟨Nat.le_of_ble_eq_true rfl, Nat.le_of_ble_eq_true rfl⟩ rfl rfl (Nat.le_of_ble_eq_true rfl) ok_0_0 rfl (show vwCl[0]? = some (RX0, TX0, 2) from rfl) rfl (fun S1 h => ?_)
  refine sh_aload_n (pc := 11) dX8_hang_11 rfl ?_
  refine sh_aload_n (pc := 12) dX8_hang_12 rfl ?_
  refine sh_gf (pc := 13) dX8_hang_13 fl_X8_10 cf_8 ok_8_0 rfl rfl ?_
  refine sh_iload_n (pc := 16) dX8_hang_16 rfl ?_
  refine sh_iload_n (pc := 17) dX8_hang_17 rfl ?_
  refine sh_iload_n (pc := 18) dX8_hang_18 rfl ?_
  refine sh_ci (N := mX6_hangTool) (pc := 19) dX8_hang_19 ml_X8_77 h mf_X6_hangTool iv_X6_hangTool ⟨Nat.le_of_ble_eq_true rfl, Nat.le_of_ble_eq_true rfl⟩ rfl rfl (Nat.le_of_ble_eq_true rfl) ok_6_0 rfl (show vwCl[6]? = some (RX6, TX6, 5) from rfl) rfl (fun r3 S2 h => ?_)
  refine sh_ci (N := mX8_changed) (pc := 22) dX8_hang_22 ml_X8_41 h mf_X8_changed iv_X8_changed ⟨Nat.le_of_ble_eq_true rfl, Nat.le_of_ble_eq_true rfl⟩ rfl rfl (Nat.le_of_ble_eq_true rfl) ok_8_0 rfl (show vwCl[8]? = some (RX8, TX8, 4) from rfl) rfl (fun r5 S4 h => ?_)
  exact sh_ret_i (pc := 25) dX8_hang_25 rfl ⟨rfl, rfl⟩ h

set_option maxRecDepth 100000 in
set_option maxHeartbeats 4000000 in
theorem wp_X8_borrow {g : sh_G} {S : sh_S} {sz : Nat} {Q : Int32 → sh_S → Prop} {a1 : Int32} {a2 : Int32} 
    (h : (sh_Cu g mX0_copyPresent [sh_R (0, 0, 0), sh_R (6, 0, 0)] S sz (fun S1 => (sh_Ci g mX6_lendToMember [sh_R (6, 0, 0), sh_I a1, sh_I a2] S1 sz (fun r3 S2 => (sh_Ci g mX8_changed [sh_R (8, 0, 0), sh_I r3] S2 sz (fun r5 S4 => Q r5 S4))))))) :
    sh_Ci g mX8_borrow [sh_R (8, 0, 0), sh_I a1, sh_I a2] S sz Q := by
  refine sh_enter (ls := [(0, sh_R (8, 0, 0)), (1, sh_I a1), (2, sh_I a2)]) (by decide +kernel) (Nat.le_of_ble_eq_true rfl) rfl ?_
  refine sh_aload_n (pc := 0) dX8_borrow_0 rfl ?_
  refine sh_gf (pc := 1) dX8_borrow_1 fl_X8_22 cf_8 ok_8_0 rfl rfl ?_
  refine sh_aload_n (pc := 4) dX8_borrow_4 rfl ?_
  refine sh_gf (pc := 5) dX8_borrow_5 fl_X8_10 cf_8 ok_8_0 rfl rfl ?_
  refine sh_cu (N := mX0_copyPresent) (pc := 8) dX8_borrow_8 ml_X8_33 h mf_X0_copyPresent iv_X0_copyPresent ⟨Nat.le_of_ble_eq_true rfl, Nat.le_of_ble_eq_true rfl⟩ rfl rfl (Nat.le_of_ble_eq_true rfl) ok_0_0 rfl (show vwCl[0]? = some (RX0, TX0, 2) from rfl) rfl (fun S1 h => ?_)
  refine sh_aload_n (pc := 11) dX8_borrow_11 rfl ?_
  refine sh_aload_n (pc := 12) dX8_borrow_12 rfl ?_
  refine sh_gf (pc := 13) dX8_borrow_13 fl_X8_10 cf_8 ok_8_0 rfl rfl ?_
  refine sh_iload_n (pc := 16) dX8_borrow_16 rfl ?_
  refine sh_iload_n (pc := 17) dX8_borrow_17 rfl ?_
  refine sh_ci (N := mX6_lendToMember) (pc := 18) dX8_borrow_18 ml_X8_80 h mf_X6_lendToMember iv_X6_lendToMember ⟨Nat.le_of_ble_eq_true rfl, Nat.le_of_ble_eq_true rfl⟩ rfl rfl (Nat.le_of_ble_eq_true rfl) ok_6_0 rfl (show vwCl[6]? = some (RX6, TX6, 5) from rfl) rfl (fun r3 S2 h => ?_)
  refine sh_ci (N := mX8_changed) (pc := 21) dX8_borrow_21 ml_X8_41 h mf_X8_changed iv_X8_changed ⟨Nat.le_of_ble_eq_true rfl, Nat.le_of_ble_eq_true rfl⟩ rfl rfl (Nat.le_of_ble_eq_true rfl) ok_8_0 rfl (show vwCl[8]? = some (RX8, TX8, 4) from rfl) rfl (fun r5 S4 h => ?_)
  exact sh_ret_i (pc := 24) dX8_borrow_24 rfl ⟨rfl, rfl⟩ h

set_option maxRecDepth 100000 in
set_option maxHeartbeats 4000000 in
theorem wp_X8_giveBack {g : sh_G} {S : sh_S} {sz : Nat} {Q : Int32 → sh_S → Prop} {a1 : Int32} 
    (h : (sh_Cu g mX0_copyPresent [sh_R (0, 0, 0), sh_R (6, 0, 0)] S sz (fun S1 => (sh_Ci g mX6_takeBack [sh_R (6, 0, 0), sh_I a1] S1 sz (fun r3 S2 => (sh_Ci g mX8_changed [sh_R (8, 0, 0), sh_I r3] S2 sz (fun r5 S4 => Q r5 S4))))))) :
    sh_Ci g mX8_giveBack [sh_R (8, 0, 0), sh_I a1] S sz Q := by
  refine sh_enter (ls := [(0, sh_R (8, 0, 0)), (1, sh_I a1)]) (by decide +kernel) (Nat.le_of_ble_eq_true rfl) rfl ?_
  refine sh_aload_n (pc := 0) dX8_giveBack_0 rfl ?_
  refine sh_gf (pc := 1) dX8_giveBack_1 fl_X8_22 cf_8 ok_8_0 rfl rfl ?_
  refine sh_aload_n (pc := 4) dX8_giveBack_4 rfl ?_
  refine sh_gf (pc := 5) dX8_giveBack_5 fl_X8_10 cf_8 ok_8_0 rfl rfl ?_
  refine sh_cu (N := mX0_copyPresent) (pc := 8) dX8_giveBack_8 ml_X8_33 h mf_X0_copyPresent iv_X0_copyPresent ⟨Nat.le_of_ble_eq_true rfl, Nat.le_of_ble_eq_true rfl⟩ rfl rfl (Nat.le_of_ble_eq_true rfl) ok_0_0 rfl (show vwCl[0]? = some (RX0, TX0, 2) from rfl) rfl (fun S1 h => ?_)
  refine sh_aload_n (pc := 11) dX8_giveBack_11 rfl ?_
  refine sh_aload_n (pc := 12) dX8_giveBack_12 rfl ?_
  refine sh_gf (pc := 13) dX8_giveBack_13 fl_X8_10 cf_8 ok_8_0 rfl rfl ?_
  refine sh_iload_n (pc := 16) dX8_giveBack_16 rfl ?_
  refine sh_ci (N := mX6_takeBack) (pc := 17) dX8_giveBack_17 ml_X8_83 h mf_X6_takeBack iv_X6_takeBack ⟨Nat.le_of_ble_eq_true rfl, Nat.le_of_ble_eq_true rfl⟩ rfl rfl (Nat.le_of_ble_eq_true rfl) ok_6_0 rfl (show vwCl[6]? = some (RX6, TX6, 5) from rfl) rfl (fun r3 S2 h => ?_)
  refine sh_ci (N := mX8_changed) (pc := 20) dX8_giveBack_20 ml_X8_41 h mf_X8_changed iv_X8_changed ⟨Nat.le_of_ble_eq_true rfl, Nat.le_of_ble_eq_true rfl⟩ rfl rfl (Nat.le_of_ble_eq_true rfl) ok_8_0 rfl (show vwCl[8]? = some (RX8, TX8, 4) from rfl) rfl (fun r5 S4 h => ?_)
  exact sh_ret_i (pc := 23) dX8_giveBack_23 rfl ⟨rfl, rfl⟩ h

set_option maxRecDepth 100000 in
set_option maxHeartbeats 4000000 in
theorem wp_X8_toolOf {g : sh_G} {S : sh_S} {sz : Nat} {Q : Int32 → sh_S → Prop} {a1 : Int32} {a2 : Int32} 
    (h : (sh_Ci g mX6_tellOfTool [sh_R (6, 0, 0), sh_I a1, sh_I a2] S sz (fun r2 S1 => Q r2 S1))) :
    sh_Ci g mX8_toolOf [sh_R (8, 0, 0), sh_I a1, sh_I a2] S sz Q := by
  refine sh_enter (ls := [(0, sh_R (8, 0, 0)), (1, sh_I a1), (2, sh_I a2)]) (by decide +kernel) (Nat.le_of_ble_eq_true rfl) rfl ?_
  refine sh_aload_n (pc := 0) dX8_toolOf_0 rfl ?_
  refine sh_gf (pc := 1) dX8_toolOf_1 fl_X8_10 cf_8 ok_8_0 rfl rfl ?_
  refine sh_iload_n (pc := 4) dX8_toolOf_4 rfl ?_
  refine sh_iload_n (pc := 5) dX8_toolOf_5 rfl ?_
  refine sh_ci (N := mX6_tellOfTool) (pc := 6) dX8_toolOf_6 ml_X8_86 h mf_X6_tellOfTool iv_X6_tellOfTool ⟨Nat.le_of_ble_eq_true rfl, Nat.le_of_ble_eq_true rfl⟩ rfl rfl (Nat.le_of_ble_eq_true rfl) ok_6_0 rfl (show vwCl[6]? = some (RX6, TX6, 5) from rfl) rfl (fun r2 S1 h => ?_)
  exact sh_ret_i (pc := 9) dX8_toolOf_9 rfl ⟨rfl, rfl⟩ h

set_option maxRecDepth 100000 in
set_option maxHeartbeats 4000000 in
theorem wp_X8_bits {g : sh_G} {S : sh_S} {sz : Nat} {Q : Int32 → sh_S → Prop} {a1 : Int32} 
    (h : (sh_Ci g mX6_bitsOfTool [sh_R (6, 0, 0), sh_I a1] S sz (fun r2 S1 => Q r2 S1))) :
    sh_Ci g mX8_bits [sh_R (8, 0, 0), sh_I a1] S sz Q := by
  refine sh_enter (ls := [(0, sh_R (8, 0, 0)), (1, sh_I a1)]) (by decide +kernel) (Nat.le_of_ble_eq_true rfl) rfl ?_
  refine sh_aload_n (pc := 0) dX8_bits_0 rfl ?_
  refine sh_gf (pc := 1) dX8_bits_1 fl_X8_10 cf_8 ok_8_0 rfl rfl ?_
  refine sh_iload_n (pc := 4) dX8_bits_4 rfl ?_
  refine sh_ci (N := mX6_bitsOfTool) (pc := 5) dX8_bits_5 ml_X8_89 h mf_X6_bitsOfTool iv_X6_bitsOfTool ⟨Nat.le_of_ble_eq_true rfl, Nat.le_of_ble_eq_true rfl⟩ rfl rfl (Nat.le_of_ble_eq_true rfl) ok_6_0 rfl (show vwCl[6]? = some (RX6, TX6, 5) from rfl) rfl (fun r2 S1 h => ?_)
  exact sh_ret_i (pc := 8) dX8_bits_8 rfl ⟨rfl, rfl⟩ h

set_option maxRecDepth 100000 in
set_option maxHeartbeats 4000000 in
theorem wp_X8_dullBehind {g : sh_G} {S : sh_S} {sz : Nat} {Q : Int32 → sh_S → Prop} {a1 : Int32} {a2 : Int32} 
    (h : (sh_Ci g mX6_foretellDullness [sh_R (6, 0, 0), sh_I a1, sh_I a2] S sz (fun r2 S1 => Q r2 S1))) :
    sh_Ci g mX8_dullBehind [sh_R (8, 0, 0), sh_I a1, sh_I a2] S sz Q := by
  refine sh_enter (ls := [(0, sh_R (8, 0, 0)), (1, sh_I a1), (2, sh_I a2)]) (by decide +kernel) (Nat.le_of_ble_eq_true rfl) rfl ?_
  refine sh_aload_n (pc := 0) dX8_dullBehind_0 rfl ?_
  refine sh_gf (pc := 1) dX8_dullBehind_1 fl_X8_10 cf_8 ok_8_0 rfl rfl ?_
  refine sh_iload_n (pc := 4) dX8_dullBehind_4 rfl ?_
  refine sh_iload_n (pc := 5) dX8_dullBehind_5 rfl ?_
  refine sh_ci (N := mX6_foretellDullness) (pc := 6) dX8_dullBehind_6 ml_X8_92 h mf_X6_foretellDullness iv_X6_foretellDullness ⟨Nat.le_of_ble_eq_true rfl, Nat.le_of_ble_eq_true rfl⟩ rfl rfl (Nat.le_of_ble_eq_true rfl) ok_6_0 rfl (show vwCl[6]? = some (RX6, TX6, 5) from rfl) rfl (fun r2 S1 h => ?_)
  exact sh_ret_i (pc := 9) dX8_dullBehind_9 rfl ⟨rfl, rfl⟩ h

set_option maxRecDepth 100000 in
set_option maxHeartbeats 4000000 in
theorem wp_X8_mean {g : sh_G} {S : sh_S} {sz : Nat} {Q : Int32 → sh_S → Prop} {a1 : Int32} 
    (h : (sh_Ci g mX6_meanSharpness [sh_R (6, 0, 0), sh_I a1] S sz (fun r2 S1 => Q r2 S1))) :
    sh_Ci g mX8_mean [sh_R (8, 0, 0), sh_I a1] S sz Q := by
  refine sh_enter (ls := [(0, sh_R (8, 0, 0)), (1, sh_I a1)]) (by decide +kernel) (Nat.le_of_ble_eq_true rfl) rfl ?_
  refine sh_aload_n (pc := 0) dX8_mean_0 rfl ?_
  refine sh_gf (pc := 1) dX8_mean_1 fl_X8_10 cf_8 ok_8_0 rfl rfl ?_
  refine sh_iload_n (pc := 4) dX8_mean_4 rfl ?_
  refine sh_ci (N := mX6_meanSharpness) (pc := 5) dX8_mean_5 ml_X8_95 h mf_X6_meanSharpness iv_X6_meanSharpness ⟨Nat.le_of_ble_eq_true rfl, Nat.le_of_ble_eq_true rfl⟩ rfl rfl (Nat.le_of_ble_eq_true rfl) ok_6_0 rfl (show vwCl[6]? = some (RX6, TX6, 5) from rfl) rfl (fun r2 S1 h => ?_)
  exact sh_ret_i (pc := 8) dX8_mean_8 rfl ⟨rfl, rfl⟩ h

set_option maxRecDepth 100000 in
set_option maxHeartbeats 4000000 in
theorem wp_X8_hookAt {g : sh_G} {S : sh_S} {sz : Nat} {Q : Int32 → sh_S → Prop} {a1 : Int32} {a2 : Int32} 
    (h : (sh_Ci g mX6_toolOnHook [sh_R (6, 0, 0), sh_I a1, sh_I a2] S sz (fun r2 S1 => Q r2 S1))) :
    sh_Ci g mX8_hookAt [sh_R (8, 0, 0), sh_I a1, sh_I a2] S sz Q := by
  refine sh_enter (ls := [(0, sh_R (8, 0, 0)), (1, sh_I a1), (2, sh_I a2)]) (by decide +kernel) (Nat.le_of_ble_eq_true rfl) rfl ?_
  refine sh_aload_n (pc := 0) dX8_hookAt_0 rfl ?_
  refine sh_gf (pc := 1) dX8_hookAt_1 fl_X8_10 cf_8 ok_8_0 rfl rfl ?_
  refine sh_iload_n (pc := 4) dX8_hookAt_4 rfl ?_
  refine sh_iload_n (pc := 5) dX8_hookAt_5 rfl ?_
  refine sh_ci (N := mX6_toolOnHook) (pc := 6) dX8_hookAt_6 ml_X8_98 h mf_X6_toolOnHook iv_X6_toolOnHook ⟨Nat.le_of_ble_eq_true rfl, Nat.le_of_ble_eq_true rfl⟩ rfl rfl (Nat.le_of_ble_eq_true rfl) ok_6_0 rfl (show vwCl[6]? = some (RX6, TX6, 5) from rfl) rfl (fun r2 S1 h => ?_)
  exact sh_ret_i (pc := 9) dX8_hookAt_9 rfl ⟨rfl, rfl⟩ h

set_option maxRecDepth 100000 in
set_option maxHeartbeats 4000000 in
theorem wp_X8_sharpen {g : sh_G} {S : sh_S} {sz : Nat} {Q : Int32 → sh_S → Prop} 
    (h : (sh_Cu g mX0_copyPresent [sh_R (0, 0, 0), sh_R (6, 0, 0)] S sz (fun S1 => (sh_Ci g mX6_sharpenDullest [sh_R (6, 0, 0)] S1 sz (fun r3 S2 => (sh_Ci g mX8_changed [sh_R (8, 0, 0), sh_I r3] S2 sz (fun r5 S4 => Q r5 S4))))))) :
    sh_Ci g mX8_sharpen [sh_R (8, 0, 0)] S sz Q := by
  refine sh_enter (ls := [(0, sh_R (8, 0, 0))]) (by decide +kernel) (Nat.le_of_ble_eq_true rfl) rfl ?_
  refine sh_aload_n (pc := 0) dX8_sharpen_0 rfl ?_
  refine sh_gf (pc := 1) dX8_sharpen_1 fl_X8_22 cf_8 ok_8_0 rfl rfl ?_
  refine sh_aload_n (pc := 4) dX8_sharpen_4 rfl ?_
  refine sh_gf (pc := 5) dX8_sharpen_5 fl_X8_10 cf_8 ok_8_0 rfl rfl ?_
  refine sh_cu (N := mX0_copyPresent) (pc := 8) dX8_sharpen_8 ml_X8_33 h mf_X0_copyPresent iv_X0_copyPresent ⟨Nat.le_of_ble_eq_true rfl, Nat.le_of_ble_eq_true rfl⟩ rfl rfl (Nat.le_of_ble_eq_true rfl) ok_0_0 rfl (show vwCl[0]? = some (RX0, TX0, 2) from rfl) rfl (fun S1 h => ?_)
  refine sh_aload_n (pc := 11) dX8_sharpen_11 rfl ?_
  refine sh_aload_n (pc := 12) dX8_sharpen_12 rfl ?_
  refine sh_gf (pc := 13) dX8_sharpen_13 fl_X8_10 cf_8 ok_8_0 rfl rfl ?_
  refine sh_ci (N := mX6_sharpenDullest) (pc := 16) dX8_sharpen_16 ml_X8_101 h mf_X6_sharpenDullest iv_X6_sharpenDullest ⟨Nat.le_of_ble_eq_true rfl, Nat.le_of_ble_eq_true rfl⟩ rfl rfl (Nat.le_of_ble_eq_true rfl) ok_6_0 rfl (show vwCl[6]? = some (RX6, TX6, 5) from rfl) rfl (fun r3 S2 h => ?_)
  refine sh_ci (N := mX8_changed) (pc := 19) dX8_sharpen_19 ml_X8_41 h mf_X8_changed iv_X8_changed ⟨Nat.le_of_ble_eq_true rfl, Nat.le_of_ble_eq_true rfl⟩ rfl rfl (Nat.le_of_ble_eq_true rfl) ok_8_0 rfl (show vwCl[8]? = some (RX8, TX8, 4) from rfl) rfl (fun r5 S4 h => ?_)
  exact sh_ret_i (pc := 22) dX8_sharpen_22 rfl ⟨rfl, rfl⟩ h

set_option maxRecDepth 100000 in
set_option maxHeartbeats 4000000 in
theorem wp_X8_swap {g : sh_G} {S : sh_S} {sz : Nat} {Q : Int32 → sh_S → Prop} {a1 : Int32} {a2 : Int32} 
    (h : (sh_Cu g mX0_copyPresent [sh_R (0, 0, 0), sh_R (6, 0, 0)] S sz (fun S1 => (sh_Ci g mX2_swapTurns [sh_R (2, 0, 0), sh_I a1, sh_I a2] S1 sz (fun r3 S2 => (sh_Ci g mX8_changed [sh_R (8, 0, 0), sh_I r3] S2 sz (fun r5 S4 => Q r5 S4))))))) :
    sh_Ci g mX8_swap [sh_R (8, 0, 0), sh_I a1, sh_I a2] S sz Q := by
  refine sh_enter (ls := [(0, sh_R (8, 0, 0)), (1, sh_I a1), (2, sh_I a2)]) (by decide +kernel) (Nat.le_of_ble_eq_true rfl) rfl ?_
  refine sh_aload_n (pc := 0) dX8_swap_0 rfl ?_
  refine sh_gf (pc := 1) dX8_swap_1 fl_X8_22 cf_8 ok_8_0 rfl rfl ?_
  refine sh_aload_n (pc := 4) dX8_swap_4 rfl ?_
  refine sh_gf (pc := 5) dX8_swap_5 fl_X8_10 cf_8 ok_8_0 rfl rfl ?_
  refine sh_cu (N := mX0_copyPresent) (pc := 8) dX8_swap_8 ml_X8_33 h mf_X0_copyPresent iv_X0_copyPresent ⟨Nat.le_of_ble_eq_true rfl, Nat.le_of_ble_eq_true rfl⟩ rfl rfl (Nat.le_of_ble_eq_true rfl) ok_0_0 rfl (show vwCl[0]? = some (RX0, TX0, 2) from rfl) rfl (fun S1 h => ?_)
  refine sh_aload_n (pc := 11) dX8_swap_11 rfl ?_
  refine sh_aload_n (pc := 12) dX8_swap_12 rfl ?_
  refine sh_gf (pc := 13) dX8_swap_13 fl_X8_10 cf_8 ok_8_0 rfl rfl ?_
  refine sh_gf (pc := 16) dX8_swap_16 fl_X8_45 cf_6 ok_6_0 rfl rfl ?_
  refine sh_iload_n (pc := 19) dX8_swap_19 rfl ?_
  refine sh_iload_n (pc := 20) dX8_swap_20 rfl ?_
  refine sh_ci (N := mX2_swapTurns) (pc := 21) dX8_swap_21 ml_X8_104 h mf_X2_swapTurns iv_X2_swapTurns ⟨Nat.le_of_ble_eq_true rfl, Nat.le_of_ble_eq_true rfl⟩ rfl rfl (Nat.le_of_ble_eq_true rfl) ok_6_0 rfl (show vwCl[2]? = some (RX2, TX2, 5) from rfl) rfl (fun r3 S2 h => ?_)
  refine sh_ci (N := mX8_changed) (pc := 24) dX8_swap_24 ml_X8_41 h mf_X8_changed iv_X8_changed ⟨Nat.le_of_ble_eq_true rfl, Nat.le_of_ble_eq_true rfl⟩ rfl rfl (Nat.le_of_ble_eq_true rfl) ok_8_0 rfl (show vwCl[8]? = some (RX8, TX8, 4) from rfl) rfl (fun r5 S4 h => ?_)
  exact sh_ret_i (pc := 27) dX8_swap_27 rfl ⟨rfl, rfl⟩ h

set_option maxRecDepth 100000 in
set_option maxHeartbeats 4000000 in
theorem wp_X8_turnAt {g : sh_G} {S : sh_S} {sz : Nat} {Q : Int32 → sh_S → Prop} {a1 : Int32} 
    (h : (sh_Ci g mX2_memberInTurn [sh_R (2, 0, 0), sh_I a1] S sz (fun r2 S1 => Q r2 S1))) :
    sh_Ci g mX8_turnAt [sh_R (8, 0, 0), sh_I a1] S sz Q := by
  refine sh_enter (ls := [(0, sh_R (8, 0, 0)), (1, sh_I a1)]) (by decide +kernel) (Nat.le_of_ble_eq_true rfl) rfl ?_
  refine sh_aload_n (pc := 0) dX8_turnAt_0 rfl ?_
  refine sh_gf (pc := 1) dX8_turnAt_1 fl_X8_10 cf_8 ok_8_0 rfl rfl ?_
  refine sh_gf (pc := 4) dX8_turnAt_4 fl_X8_45 cf_6 ok_6_0 rfl rfl ?_
  refine sh_iload_n (pc := 7) dX8_turnAt_7 rfl ?_
  refine sh_ci (N := mX2_memberInTurn) (pc := 8) dX8_turnAt_8 ml_X8_107 h mf_X2_memberInTurn iv_X2_memberInTurn ⟨Nat.le_of_ble_eq_true rfl, Nat.le_of_ble_eq_true rfl⟩ rfl rfl (Nat.le_of_ble_eq_true rfl) ok_6_0 rfl (show vwCl[2]? = some (RX2, TX2, 5) from rfl) rfl (fun r2 S1 h => ?_)
  exact sh_ret_i (pc := 11) dX8_turnAt_11 rfl ⟨rfl, rfl⟩ h

set_option maxRecDepth 100000 in
set_option maxHeartbeats 4000000 in
theorem wp_X8_dullAt {g : sh_G} {S : sh_S} {sz : Nat} {Q : Int32 → sh_S → Prop} {a1 : Int32} 
    (h : (sh_Ci g mX6_cutterInOrder [sh_R (6, 0, 0), sh_I a1] S sz (fun r2 S1 => Q r2 S1))) :
    sh_Ci g mX8_dullAt [sh_R (8, 0, 0), sh_I a1] S sz Q := by
  refine sh_enter (ls := [(0, sh_R (8, 0, 0)), (1, sh_I a1)]) (by decide +kernel) (Nat.le_of_ble_eq_true rfl) rfl ?_
  refine sh_aload_n (pc := 0) dX8_dullAt_0 rfl ?_
  refine sh_gf (pc := 1) dX8_dullAt_1 fl_X8_10 cf_8 ok_8_0 rfl rfl ?_
  refine sh_iload_n (pc := 4) dX8_dullAt_4 rfl ?_
  refine sh_ci (N := mX6_cutterInOrder) (pc := 5) dX8_dullAt_5 ml_X8_110 h mf_X6_cutterInOrder iv_X6_cutterInOrder ⟨Nat.le_of_ble_eq_true rfl, Nat.le_of_ble_eq_true rfl⟩ rfl rfl (Nat.le_of_ble_eq_true rfl) ok_6_0 rfl (show vwCl[6]? = some (RX6, TX6, 5) from rfl) rfl (fun r2 S1 h => ?_)
  exact sh_ret_i (pc := 8) dX8_dullAt_8 rfl ⟨rfl, rfl⟩ h

set_option maxRecDepth 100000 in
set_option maxHeartbeats 4000000 in
theorem wp_X8_lose {g : sh_G} {S : sh_S} {sz : Nat} {Q : Int32 → sh_S → Prop} {a1 : Int32} 
    (h : (sh_Cu g mX0_copyPresent [sh_R (0, 0, 0), sh_R (6, 0, 0)] S sz (fun S1 => (sh_Ci g mX6_loseTool [sh_R (6, 0, 0), sh_I a1] S1 sz (fun r3 S2 => (sh_Ci g mX8_changed [sh_R (8, 0, 0), sh_I r3] S2 sz (fun r5 S4 => Q r5 S4))))))) :
    sh_Ci g mX8_lose [sh_R (8, 0, 0), sh_I a1] S sz Q := by
  refine sh_enter (ls := [(0, sh_R (8, 0, 0)), (1, sh_I a1)]) (by decide +kernel) (Nat.le_of_ble_eq_true rfl) rfl ?_
  refine sh_aload_n (pc := 0) dX8_lose_0 rfl ?_
  refine sh_gf (pc := 1) dX8_lose_1 fl_X8_22 cf_8 ok_8_0 rfl rfl ?_
  refine sh_aload_n (pc := 4) dX8_lose_4 rfl ?_
  refine sh_gf (pc := 5) dX8_lose_5 fl_X8_10 cf_8 ok_8_0 rfl rfl ?_
  refine sh_cu (N := mX0_copyPresent) (pc := 8) dX8_lose_8 ml_X8_33 h mf_X0_copyPresent iv_X0_copyPresent ⟨Nat.le_of_ble_eq_true rfl, Nat.le_of_ble_eq_true rfl⟩ rfl rfl (Nat.le_of_ble_eq_true rfl) ok_0_0 rfl (show vwCl[0]? = some (RX0, TX0, 2) from rfl) rfl (fun S1 h => ?_)
  refine sh_aload_n (pc := 11) dX8_lose_11 rfl ?_
  refine sh_aload_n (pc := 12) dX8_lose_12 rfl ?_
  refine sh_gf (pc := 13) dX8_lose_13 fl_X8_10 cf_8 ok_8_0 rfl rfl ?_
  refine sh_iload_n (pc := 16) dX8_lose_16 rfl ?_
  refine sh_ci (N := mX6_loseTool) (pc := 17) dX8_lose_17 ml_X8_113 h mf_X6_loseTool iv_X6_loseTool ⟨Nat.le_of_ble_eq_true rfl, Nat.le_of_ble_eq_true rfl⟩ rfl rfl (Nat.le_of_ble_eq_true rfl) ok_6_0 rfl (show vwCl[6]? = some (RX6, TX6, 5) from rfl) rfl (fun r3 S2 h => ?_)
  refine sh_ci (N := mX8_changed) (pc := 20) dX8_lose_20 ml_X8_41 h mf_X8_changed iv_X8_changed ⟨Nat.le_of_ble_eq_true rfl, Nat.le_of_ble_eq_true rfl⟩ rfl rfl (Nat.le_of_ble_eq_true rfl) ok_8_0 rfl (show vwCl[8]? = some (RX8, TX8, 4) from rfl) rfl (fun r5 S4 h => ?_)
  exact sh_ret_i (pc := 23) dX8_lose_23 rfl ⟨rfl, rfl⟩ h

set_option maxRecDepth 100000 in
set_option maxHeartbeats 4000000 in
theorem wp_X8_say {g : sh_G} {S : sh_S} {sz : Nat} {Q : Int32 → sh_S → Prop} {a1 : Int32} {a2 : Int32} {a3 : Int32} 
    (h : (sh_Cu g mX0_copyPresent [sh_R (0, 0, 0), sh_R (6, 0, 0)] S sz (fun S1 => (sh_Ci g mX6_hearPanel [sh_R (6, 0, 0), sh_I a1, sh_I a2, sh_I a3] S1 sz (fun r3 S2 => (sh_Ci g mX8_changed [sh_R (8, 0, 0), sh_I r3] S2 sz (fun r5 S4 => Q r5 S4))))))) :
    sh_Ci g mX8_say [sh_R (8, 0, 0), sh_I a1, sh_I a2, sh_I a3] S sz Q := by
  refine sh_enter (ls := [(0, sh_R (8, 0, 0)), (1, sh_I a1), (2, sh_I a2), (3, sh_I a3)]) (by decide +kernel) (Nat.le_of_ble_eq_true rfl) rfl ?_
  refine sh_aload_n (pc := 0) dX8_say_0 rfl ?_
  refine sh_gf (pc := 1) dX8_say_1 fl_X8_22 cf_8 ok_8_0 rfl rfl ?_
  refine sh_aload_n (pc := 4) dX8_say_4 rfl ?_
  refine sh_gf (pc := 5) dX8_say_5 fl_X8_10 cf_8 ok_8_0 rfl rfl ?_
  refine sh_cu (N := mX0_copyPresent) (pc := 8) dX8_say_8 ml_X8_33 h mf_X0_copyPresent iv_X0_copyPresent ⟨Nat.le_of_ble_eq_true rfl, Nat.le_of_ble_eq_true rfl⟩ rfl rfl (Nat.le_of_ble_eq_true rfl) ok_0_0 rfl (show vwCl[0]? = some (RX0, TX0, 2) from rfl) rfl (fun S1 h => ?_)
  refine sh_aload_n (pc := 11) dX8_say_11 rfl ?_
  refine sh_aload_n (pc := 12) dX8_say_12 rfl ?_
  refine sh_gf (pc := 13) dX8_say_13 fl_X8_10 cf_8 ok_8_0 rfl rfl ?_
  refine sh_iload_n (pc := 16) dX8_say_16 rfl ?_
  refine sh_iload_n (pc := 17) dX8_say_17 rfl ?_
  refine sh_iload_n (pc := 18) dX8_say_18 rfl ?_
  refine sh_ci (N := mX6_hearPanel) (pc := 19) dX8_say_19 ml_X8_116 h mf_X6_hearPanel iv_X6_hearPanel ⟨Nat.le_of_ble_eq_true rfl, Nat.le_of_ble_eq_true rfl⟩ rfl rfl (Nat.le_of_ble_eq_true rfl) ok_6_0 rfl (show vwCl[6]? = some (RX6, TX6, 5) from rfl) rfl (fun r3 S2 h => ?_)
  refine sh_ci (N := mX8_changed) (pc := 22) dX8_say_22 ml_X8_41 h mf_X8_changed iv_X8_changed ⟨Nat.le_of_ble_eq_true rfl, Nat.le_of_ble_eq_true rfl⟩ rfl rfl (Nat.le_of_ble_eq_true rfl) ok_8_0 rfl (show vwCl[8]? = some (RX8, TX8, 4) from rfl) rfl (fun r5 S4 h => ?_)
  exact sh_ret_i (pc := 25) dX8_say_25 rfl ⟨rfl, rfl⟩ h

set_option maxRecDepth 100000 in
set_option maxHeartbeats 4000000 in
theorem wp_X8_find {g : sh_G} {S : sh_S} {sz : Nat} {Q : Int32 → sh_S → Prop} {a1 : Int32} 
    (h : (sh_Cu g mX0_copyPresent [sh_R (0, 0, 0), sh_R (6, 0, 0)] S sz (fun S1 => (sh_Ci g mX6_findTool [sh_R (6, 0, 0), sh_I a1] S1 sz (fun r3 S2 => (sh_Ci g mX8_changed [sh_R (8, 0, 0), sh_I r3] S2 sz (fun r5 S4 => Q r5 S4))))))) :
    sh_Ci g mX8_find [sh_R (8, 0, 0), sh_I a1] S sz Q := by
  refine sh_enter (ls := [(0, sh_R (8, 0, 0)), (1, sh_I a1)]) (by decide +kernel) (Nat.le_of_ble_eq_true rfl) rfl ?_
  refine sh_aload_n (pc := 0) dX8_find_0 rfl ?_
  refine sh_gf (pc := 1) dX8_find_1 fl_X8_22 cf_8 ok_8_0 rfl rfl ?_
  refine sh_aload_n (pc := 4) dX8_find_4 rfl ?_
  refine sh_gf (pc := 5) dX8_find_5 fl_X8_10 cf_8 ok_8_0 rfl rfl ?_
  refine sh_cu (N := mX0_copyPresent) (pc := 8) dX8_find_8 ml_X8_33 h mf_X0_copyPresent iv_X0_copyPresent ⟨Nat.le_of_ble_eq_true rfl, Nat.le_of_ble_eq_true rfl⟩ rfl rfl (Nat.le_of_ble_eq_true rfl) ok_0_0 rfl (show vwCl[0]? = some (RX0, TX0, 2) from rfl) rfl (fun S1 h => ?_)
  refine sh_aload_n (pc := 11) dX8_find_11 rfl ?_
  refine sh_aload_n (pc := 12) dX8_find_12 rfl ?_
  refine sh_gf (pc := 13) dX8_find_13 fl_X8_10 cf_8 ok_8_0 rfl rfl ?_
  refine sh_iload_n (pc := 16) dX8_find_16 rfl ?_
  refine sh_ci (N := mX6_findTool) (pc := 17) dX8_find_17 ml_X8_119 h mf_X6_findTool iv_X6_findTool ⟨Nat.le_of_ble_eq_true rfl, Nat.le_of_ble_eq_true rfl⟩ rfl rfl (Nat.le_of_ble_eq_true rfl) ok_6_0 rfl (show vwCl[6]? = some (RX6, TX6, 5) from rfl) rfl (fun r3 S2 h => ?_)
  refine sh_ci (N := mX8_changed) (pc := 20) dX8_find_20 ml_X8_41 h mf_X8_changed iv_X8_changed ⟨Nat.le_of_ble_eq_true rfl, Nat.le_of_ble_eq_true rfl⟩ rfl rfl (Nat.le_of_ble_eq_true rfl) ok_8_0 rfl (show vwCl[8]? = some (RX8, TX8, 4) from rfl) rfl (fun r5 S4 h => ?_)
  exact sh_ret_i (pc := 23) dX8_find_23 rfl ⟨rfl, rfl⟩ h

set_option maxRecDepth 100000 in
set_option maxHeartbeats 4000000 in
theorem wp_X8_panelAt {g : sh_G} {S : sh_S} {sz : Nat} {Q : Int32 → sh_S → Prop} {a1 : Int32} {a2 : Int32} {a3 : Int32} 
    (h : (sh_Ci g mX6_tellOfPanel [sh_R (6, 0, 0), sh_I a1, sh_I a2, sh_I a3] S sz (fun r2 S1 => Q r2 S1))) :
    sh_Ci g mX8_panelAt [sh_R (8, 0, 0), sh_I a1, sh_I a2, sh_I a3] S sz Q := by
  refine sh_enter (ls := [(0, sh_R (8, 0, 0)), (1, sh_I a1), (2, sh_I a2), (3, sh_I a3)]) (by decide +kernel) (Nat.le_of_ble_eq_true rfl) rfl ?_
  refine sh_aload_n (pc := 0) dX8_panelAt_0 rfl ?_
  refine sh_gf (pc := 1) dX8_panelAt_1 fl_X8_10 cf_8 ok_8_0 rfl rfl ?_
  refine sh_iload_n (pc := 4) dX8_panelAt_4 rfl ?_
  refine sh_iload_n (pc := 5) dX8_panelAt_5 rfl ?_
  refine sh_iload_n (pc := 6) dX8_panelAt_6 rfl ?_
  refine sh_ci (N := mX6_tellOfPanel) (pc := 7) dX8_panelAt_7 ml_X8_122 h mf_X6_tellOfPanel iv_X6_tellOfPanel ⟨Nat.le_of_ble_eq_true rfl, Nat.le_of_ble_eq_true rfl⟩ rfl rfl (Nat.le_of_ble_eq_true rfl) ok_6_0 rfl (show vwCl[6]? = some (RX6, TX6, 5) from rfl) rfl (fun r2 S1 h => ?_)
  exact sh_ret_i (pc := 10) dX8_panelAt_10 rfl ⟨rfl, rfl⟩ h

set_option maxRecDepth 100000 in
set_option maxHeartbeats 4000000 in
theorem wp_X8_propose {g : sh_G} {S : sh_S} {sz : Nat} {Q : Int32 → sh_S → Prop} {a1 : Int32} {a2 : Int32} {a3 : Int32} 
    (h : (sh_Cu g mX0_copyPresent [sh_R (0, 0, 0), sh_R (6, 0, 0)] S sz (fun S1 => (sh_Ci g mX6_openProposal [sh_R (6, 0, 0), sh_I a1, sh_I a2, sh_I a3] S1 sz (fun r3 S2 => (sh_Ci g mX8_changed [sh_R (8, 0, 0), sh_I r3] S2 sz (fun r5 S4 => Q r5 S4))))))) :
    sh_Ci g mX8_propose [sh_R (8, 0, 0), sh_I a1, sh_I a2, sh_I a3] S sz Q := by
  refine sh_enter (ls := [(0, sh_R (8, 0, 0)), (1, sh_I a1), (2, sh_I a2), (3, sh_I a3)]) (by decide +kernel) (Nat.le_of_ble_eq_true rfl) rfl ?_
  refine sh_aload_n (pc := 0) dX8_propose_0 rfl ?_
  refine sh_gf (pc := 1) dX8_propose_1 fl_X8_22 cf_8 ok_8_0 rfl rfl ?_
  refine sh_aload_n (pc := 4) dX8_propose_4 rfl ?_
  refine sh_gf (pc := 5) dX8_propose_5 fl_X8_10 cf_8 ok_8_0 rfl rfl ?_
  refine sh_cu (N := mX0_copyPresent) (pc := 8) dX8_propose_8 ml_X8_33 h mf_X0_copyPresent iv_X0_copyPresent ⟨Nat.le_of_ble_eq_true rfl, Nat.le_of_ble_eq_true rfl⟩ rfl rfl (Nat.le_of_ble_eq_true rfl) ok_0_0 rfl (show vwCl[0]? = some (RX0, TX0, 2) from rfl) rfl (fun S1 h => ?_)
  refine sh_aload_n (pc := 11) dX8_propose_11 rfl ?_
  refine sh_aload_n (pc := 12) dX8_propose_12 rfl ?_
  refine sh_gf (pc := 13) dX8_propose_13 fl_X8_10 cf_8 ok_8_0 rfl rfl ?_
  refine sh_iload_n (pc := 16) dX8_propose_16 rfl ?_
  refine sh_iload_n (pc := 17) dX8_propose_17 rfl ?_
  refine sh_iload_n (pc := 18) dX8_propose_18 rfl ?_
  refine sh_ci (N := mX6_openProposal) (pc := 19) dX8_propose_19 ml_X8_125 h mf_X6_openProposal iv_X6_openProposal ⟨Nat.le_of_ble_eq_true rfl, Nat.le_of_ble_eq_true rfl⟩ rfl rfl (Nat.le_of_ble_eq_true rfl) ok_6_0 rfl (show vwCl[6]? = some (RX6, TX6, 5) from rfl) rfl (fun r3 S2 h => ?_)
  refine sh_ci (N := mX8_changed) (pc := 22) dX8_propose_22 ml_X8_41 h mf_X8_changed iv_X8_changed ⟨Nat.le_of_ble_eq_true rfl, Nat.le_of_ble_eq_true rfl⟩ rfl rfl (Nat.le_of_ble_eq_true rfl) ok_8_0 rfl (show vwCl[8]? = some (RX8, TX8, 4) from rfl) rfl (fun r5 S4 h => ?_)
  exact sh_ret_i (pc := 25) dX8_propose_25 rfl ⟨rfl, rfl⟩ h

set_option maxRecDepth 100000 in
set_option maxHeartbeats 4000000 in
theorem wp_X8_vote {g : sh_G} {S : sh_S} {sz : Nat} {Q : Int32 → sh_S → Prop} {a1 : Int32} {a2 : Int32} {a3 : Int32} 
    (h : (sh_Cu g mX0_copyPresent [sh_R (0, 0, 0), sh_R (6, 0, 0)] S sz (fun S1 => (sh_Ci g mX6_takeVote [sh_R (6, 0, 0), sh_I a1, sh_I a2, sh_I a3] S1 sz (fun r3 S2 => (sh_Ci g mX8_changed [sh_R (8, 0, 0), sh_I r3] S2 sz (fun r5 S4 => Q r5 S4))))))) :
    sh_Ci g mX8_vote [sh_R (8, 0, 0), sh_I a1, sh_I a2, sh_I a3] S sz Q := by
  refine sh_enter (ls := [(0, sh_R (8, 0, 0)), (1, sh_I a1), (2, sh_I a2), (3, sh_I a3)]) (by decide +kernel) (Nat.le_of_ble_eq_true rfl) rfl ?_
  refine sh_aload_n (pc := 0) dX8_vote_0 rfl ?_
  refine sh_gf (pc := 1) dX8_vote_1 fl_X8_22 cf_8 ok_8_0 rfl rfl ?_
  refine sh_aload_n (pc := 4) dX8_vote_4 rfl ?_
  refine sh_gf (pc := 5) dX8_vote_5 fl_X8_10 cf_8 ok_8_0 rfl rfl ?_
  refine sh_cu (N := mX0_copyPresent) (pc := 8) dX8_vote_8 ml_X8_33 h mf_X0_copyPresent iv_X0_copyPresent ⟨Nat.le_of_ble_eq_true rfl, Nat.le_of_ble_eq_true rfl⟩ rfl rfl (Nat.le_of_ble_eq_true rfl) ok_0_0 rfl (show vwCl[0]? = some (RX0, TX0, 2) from rfl) rfl (fun S1 h => ?_)
  refine sh_aload_n (pc := 11) dX8_vote_11 rfl ?_
  refine sh_aload_n (pc := 12) dX8_vote_12 rfl ?_
  refine sh_gf (pc := 13) dX8_vote_13 fl_X8_10 cf_8 ok_8_0 rfl rfl ?_
  refine sh_iload_n (pc := 16) dX8_vote_16 rfl ?_
  refine sh_iload_n (pc := 17) dX8_vote_17 rfl ?_
  refine sh_iload_n (pc := 18) dX8_vote_18 rfl ?_
  refine sh_ci (N := mX6_takeVote) (pc := 19) dX8_vote_19 ml_X8_128 h mf_X6_takeVote iv_X6_takeVote ⟨Nat.le_of_ble_eq_true rfl, Nat.le_of_ble_eq_true rfl⟩ rfl rfl (Nat.le_of_ble_eq_true rfl) ok_6_0 rfl (show vwCl[6]? = some (RX6, TX6, 5) from rfl) rfl (fun r3 S2 h => ?_)
  refine sh_ci (N := mX8_changed) (pc := 22) dX8_vote_22 ml_X8_41 h mf_X8_changed iv_X8_changed ⟨Nat.le_of_ble_eq_true rfl, Nat.le_of_ble_eq_true rfl⟩ rfl rfl (Nat.le_of_ble_eq_true rfl) ok_8_0 rfl (show vwCl[8]? = some (RX8, TX8, 4) from rfl) rfl (fun r5 S4 h => ?_)
  exact sh_ret_i (pc := 25) dX8_vote_25 rfl ⟨rfl, rfl⟩ h

set_option maxRecDepth 100000 in
set_option maxHeartbeats 4000000 in
theorem wp_X8_proposalOf {g : sh_G} {S : sh_S} {sz : Nat} {Q : Int32 → sh_S → Prop} {a1 : Int32} {a2 : Int32} 
    (h : (sh_Ci g mX6_tellOfProposal [sh_R (6, 0, 0), sh_I a1, sh_I a2] S sz (fun r2 S1 => Q r2 S1))) :
    sh_Ci g mX8_proposalOf [sh_R (8, 0, 0), sh_I a1, sh_I a2] S sz Q := by
  refine sh_enter (ls := [(0, sh_R (8, 0, 0)), (1, sh_I a1), (2, sh_I a2)]) (by decide +kernel) (Nat.le_of_ble_eq_true rfl) rfl ?_
  refine sh_aload_n (pc := 0) dX8_proposalOf_0 rfl ?_
  refine sh_gf (pc := 1) dX8_proposalOf_1 fl_X8_10 cf_8 ok_8_0 rfl rfl ?_
  refine sh_iload_n (pc := 4) dX8_proposalOf_4 rfl ?_
  refine sh_iload_n (pc := 5) dX8_proposalOf_5 rfl ?_
  refine sh_ci (N := mX6_tellOfProposal) (pc := 6) dX8_proposalOf_6 ml_X8_131 h mf_X6_tellOfProposal iv_X6_tellOfProposal ⟨Nat.le_of_ble_eq_true rfl, Nat.le_of_ble_eq_true rfl⟩ rfl rfl (Nat.le_of_ble_eq_true rfl) ok_6_0 rfl (show vwCl[6]? = some (RX6, TX6, 5) from rfl) rfl (fun r2 S1 h => ?_)
  exact sh_ret_i (pc := 9) dX8_proposalOf_9 rfl ⟨rfl, rfl⟩ h

set_option maxRecDepth 100000 in
set_option maxHeartbeats 4000000 in
theorem wp_X8_lendOut {g : sh_G} {S : sh_S} {sz : Nat} {Q : Int32 → sh_S → Prop} {a1 : Int32} {a2 : Int32} {a3 : Int32} {a4 : Int32} 
    (h : (sh_Cu g mX0_copyPresent [sh_R (0, 0, 0), sh_R (6, 0, 0)] S sz (fun S1 => (sh_Ci g mX6_lendToShed [sh_R (6, 0, 0), sh_I a1, sh_I a2, sh_I a3, sh_I a4] S1 sz (fun r3 S2 => (sh_Ci g mX8_changed [sh_R (8, 0, 0), sh_I r3] S2 sz (fun r5 S4 => Q r5 S4))))))) :
    sh_Ci g mX8_lendOut [sh_R (8, 0, 0), sh_I a1, sh_I a2, sh_I a3, sh_I a4] S sz Q := by
  refine sh_enter (ls := [(0, sh_R (8, 0, 0)), (1, sh_I a1), (2, sh_I a2), (3, sh_I a3), (4, sh_I a4)]) (by decide +kernel) (Nat.le_of_ble_eq_true rfl) rfl ?_
  refine sh_aload_n (pc := 0) dX8_lendOut_0 rfl ?_
  refine sh_gf (pc := 1) dX8_lendOut_1 fl_X8_22 cf_8 ok_8_0 rfl rfl ?_
  refine sh_aload_n (pc := 4) dX8_lendOut_4 rfl ?_
  refine sh_gf (pc := 5) dX8_lendOut_5 fl_X8_10 cf_8 ok_8_0 rfl rfl ?_
  refine sh_cu (N := mX0_copyPresent) (pc := 8) dX8_lendOut_8 ml_X8_33 h mf_X0_copyPresent iv_X0_copyPresent ⟨Nat.le_of_ble_eq_true rfl, Nat.le_of_ble_eq_true rfl⟩ rfl rfl (Nat.le_of_ble_eq_true rfl) ok_0_0 rfl (show vwCl[0]? = some (RX0, TX0, 2) from rfl) rfl (fun S1 h => ?_)
  refine sh_aload_n (pc := 11) dX8_lendOut_11 rfl ?_
  refine sh_aload_n (pc := 12) dX8_lendOut_12 rfl ?_
  refine sh_gf (pc := 13) dX8_lendOut_13 fl_X8_10 cf_8 ok_8_0 rfl rfl ?_
  refine sh_iload_n (pc := 16) dX8_lendOut_16 rfl ?_
  refine sh_iload_n (pc := 17) dX8_lendOut_17 rfl ?_
  refine sh_iload_n (pc := 18) dX8_lendOut_18 rfl ?_
  refine sh_iload (pc := 19) dX8_lendOut_19 rfl ?_
  refine sh_ci (N := mX6_lendToShed) (pc := 21) dX8_lendOut_21 ml_X8_134 h mf_X6_lendToShed iv_X6_lendToShed ⟨Nat.le_of_ble_eq_true rfl, Nat.le_of_ble_eq_true rfl⟩ rfl rfl (Nat.le_of_ble_eq_true rfl) ok_6_0 rfl (show vwCl[6]? = some (RX6, TX6, 5) from rfl) rfl (fun r3 S2 h => ?_)
  refine sh_ci (N := mX8_changed) (pc := 24) dX8_lendOut_24 ml_X8_41 h mf_X8_changed iv_X8_changed ⟨Nat.le_of_ble_eq_true rfl, Nat.le_of_ble_eq_true rfl⟩ rfl rfl (Nat.le_of_ble_eq_true rfl) ok_8_0 rfl (show vwCl[8]? = some (RX8, TX8, 4) from rfl) rfl (fun r5 S4 h => ?_)
  exact sh_ret_i (pc := 27) dX8_lendOut_27 rfl ⟨rfl, rfl⟩ h

set_option maxRecDepth 100000 in
set_option maxHeartbeats 4000000 in
theorem wp_X8_comeBack {g : sh_G} {S : sh_S} {sz : Nat} {Q : Int32 → sh_S → Prop} {a1 : Int32} 
    (h : (sh_Cu g mX0_copyPresent [sh_R (0, 0, 0), sh_R (6, 0, 0)] S sz (fun S1 => (sh_Ci g mX6_takeFromShed [sh_R (6, 0, 0), sh_I a1] S1 sz (fun r3 S2 => (sh_Ci g mX8_changed [sh_R (8, 0, 0), sh_I r3] S2 sz (fun r5 S4 => Q r5 S4))))))) :
    sh_Ci g mX8_comeBack [sh_R (8, 0, 0), sh_I a1] S sz Q := by
  refine sh_enter (ls := [(0, sh_R (8, 0, 0)), (1, sh_I a1)]) (by decide +kernel) (Nat.le_of_ble_eq_true rfl) rfl ?_
  refine sh_aload_n (pc := 0) dX8_comeBack_0 rfl ?_
  refine sh_gf (pc := 1) dX8_comeBack_1 fl_X8_22 cf_8 ok_8_0 rfl rfl ?_
  refine sh_aload_n (pc := 4) dX8_comeBack_4 rfl ?_
  refine sh_gf (pc := 5) dX8_comeBack_5 fl_X8_10 cf_8 ok_8_0 rfl rfl ?_
  refine sh_cu (N := mX0_copyPresent) (pc := 8) dX8_comeBack_8 ml_X8_33 h mf_X0_copyPresent iv_X0_copyPresent ⟨Nat.le_of_ble_eq_true rfl, Nat.le_of_ble_eq_true rfl⟩ rfl rfl (Nat.le_of_ble_eq_true rfl) ok_0_0 rfl (show vwCl[0]? = some (RX0, TX0, 2) from rfl) rfl (fun S1 h => ?_)
  refine sh_aload_n (pc := 11) dX8_comeBack_11 rfl ?_
  refine sh_aload_n (pc := 12) dX8_comeBack_12 rfl ?_
  refine sh_gf (pc := 13) dX8_comeBack_13 fl_X8_10 cf_8 ok_8_0 rfl rfl ?_
  refine sh_iload_n (pc := 16) dX8_comeBack_16 rfl ?_
  refine sh_ci (N := mX6_takeFromShed) (pc := 17) dX8_comeBack_17 ml_X8_138 h mf_X6_takeFromShed iv_X6_takeFromShed ⟨Nat.le_of_ble_eq_true rfl, Nat.le_of_ble_eq_true rfl⟩ rfl rfl (Nat.le_of_ble_eq_true rfl) ok_6_0 rfl (show vwCl[6]? = some (RX6, TX6, 5) from rfl) rfl (fun r3 S2 h => ?_)
  refine sh_ci (N := mX8_changed) (pc := 20) dX8_comeBack_20 ml_X8_41 h mf_X8_changed iv_X8_changed ⟨Nat.le_of_ble_eq_true rfl, Nat.le_of_ble_eq_true rfl⟩ rfl rfl (Nat.le_of_ble_eq_true rfl) ok_8_0 rfl (show vwCl[8]? = some (RX8, TX8, 4) from rfl) rfl (fun r5 S4 h => ?_)
  exact sh_ret_i (pc := 23) dX8_comeBack_23 rfl ⟨rfl, rfl⟩ h

set_option maxRecDepth 100000 in
set_option maxHeartbeats 4000000 in
theorem wp_X8_pass {g : sh_G} {S : sh_S} {sz : Nat} {Q : Int32 → sh_S → Prop} {a1 : Int32} 
    (h : (sh_Cu g mX0_copyPresent [sh_R (0, 0, 0), sh_R (6, 0, 0)] S sz (fun S1 => (sh_Ci g mX6_letDaysPass [sh_R (6, 0, 0), sh_I a1] S1 sz (fun r3 S2 => (sh_Ci g mX8_changed [sh_R (8, 0, 0), sh_I r3] S2 sz (fun r5 S4 => Q r5 S4))))))) :
    sh_Ci g mX8_pass [sh_R (8, 0, 0), sh_I a1] S sz Q := by
  refine sh_enter (ls := [(0, sh_R (8, 0, 0)), (1, sh_I a1)]) (by decide +kernel) (Nat.le_of_ble_eq_true rfl) rfl ?_
  refine sh_aload_n (pc := 0) dX8_pass_0 rfl ?_
  refine sh_gf (pc := 1) dX8_pass_1 fl_X8_22 cf_8 ok_8_0 rfl rfl ?_
  refine sh_aload_n (pc := 4) dX8_pass_4 rfl ?_
  refine sh_gf (pc := 5) dX8_pass_5 fl_X8_10 cf_8 ok_8_0 rfl rfl ?_
  refine sh_cu (N := mX0_copyPresent) (pc := 8) dX8_pass_8 ml_X8_33 h mf_X0_copyPresent iv_X0_copyPresent ⟨Nat.le_of_ble_eq_true rfl, Nat.le_of_ble_eq_true rfl⟩ rfl rfl (Nat.le_of_ble_eq_true rfl) ok_0_0 rfl (show vwCl[0]? = some (RX0, TX0, 2) from rfl) rfl (fun S1 h => ?_)
  refine sh_aload_n (pc := 11) dX8_pass_11 rfl ?_
  refine sh_aload_n (pc := 12) dX8_pass_12 rfl ?_
  refine sh_gf (pc := 13) dX8_pass_13 fl_X8_10 cf_8 ok_8_0 rfl rfl ?_
  refine sh_iload_n (pc := 16) dX8_pass_16 rfl ?_
  refine sh_ci (N := mX6_letDaysPass) (pc := 17) dX8_pass_17 ml_X8_141 h mf_X6_letDaysPass iv_X6_letDaysPass ⟨Nat.le_of_ble_eq_true rfl, Nat.le_of_ble_eq_true rfl⟩ rfl rfl (Nat.le_of_ble_eq_true rfl) ok_6_0 rfl (show vwCl[6]? = some (RX6, TX6, 5) from rfl) rfl (fun r3 S2 h => ?_)
  refine sh_ci (N := mX8_changed) (pc := 20) dX8_pass_20 ml_X8_41 h mf_X8_changed iv_X8_changed ⟨Nat.le_of_ble_eq_true rfl, Nat.le_of_ble_eq_true rfl⟩ rfl rfl (Nat.le_of_ble_eq_true rfl) ok_8_0 rfl (show vwCl[8]? = some (RX8, TX8, 4) from rfl) rfl (fun r5 S4 h => ?_)
  exact sh_ret_i (pc := 23) dX8_pass_23 rfl ⟨rfl, rfl⟩ h

set_option maxRecDepth 100000 in
set_option maxHeartbeats 4000000 in
theorem wp_X8_count {g : sh_G} {S : sh_S} {sz : Nat} {Q : Int32 → sh_S → Prop} {a1 : Int32} 
    (h : ((¬ a1 = 10 → ((¬ a1 = 11 → (sh_Ci g mX6_tellCount [sh_R (6, 0, 0), sh_I a1] S sz (fun r4 S3 => Q r4 S3))) ∧ (a1 = 11 → Q (S (3, 0, 0) 1) S))) ∧ (a1 = 10 → Q (S (0, 0, 0) 1) S))) :
    sh_Ci g mX8_count [sh_R (8, 0, 0), sh_I a1] S sz Q := by
  refine sh_enter (ls := [(0, sh_R (8, 0, 0)), (1, sh_I a1)]) (by decide +kernel) (Nat.le_of_ble_eq_true rfl) rfl ?_
  refine sh_iload_n (pc := 0) dX8_count_0 rfl ?_
  refine sh_bipush (v := 10) (pc := 1) dX8_count_1 rfl ?_
  refine sh_icmp_ne (tgt := 14) (pc := 3) dX8_count_3 (by decide) (fun hc1 => ?_) (fun hc1 => ?_)
  · have h := h.1 hc1
    refine sh_iload_n (pc := 14) dX8_count_14 rfl ?_
    refine sh_bipush (v := 11) (pc := 15) dX8_count_15 rfl ?_
    refine sh_icmp_ne (tgt := 28) (pc := 17) dX8_count_17 (by decide) (fun hc2 => ?_) (fun hc2 => ?_)
    · have h := h.1 hc2
      refine sh_aload_n (pc := 28) dX8_count_28 rfl ?_
      refine sh_gf (pc := 29) dX8_count_29 fl_X8_10 cf_8 ok_8_0 rfl rfl ?_
      refine sh_iload_n (pc := 32) dX8_count_32 rfl ?_
      refine sh_ci (N := mX6_tellCount) (pc := 33) dX8_count_33 ml_X8_151 h mf_X6_tellCount iv_X6_tellCount ⟨Nat.le_of_ble_eq_true rfl, Nat.le_of_ble_eq_true rfl⟩ rfl rfl (Nat.le_of_ble_eq_true rfl) ok_6_0 rfl (show vwCl[6]? = some (RX6, TX6, 5) from rfl) rfl (fun r4 S3 h => ?_)
      exact sh_ret_i (pc := 36) dX8_count_36 rfl ⟨rfl, rfl⟩ h
    · have h := h.2 hc2
      refine sh_aload_n (pc := 20) dX8_count_20 rfl ?_
      refine sh_gf (pc := 21) dX8_count_21 fl_X8_29 cf_8 ok_8_0 rfl rfl ?_
      refine sh_gf (pc := 24) dX8_count_24 fl_X8_148 cf_3 ok_3_0 rfl rfl ?_
      exact sh_ret_i (pc := 27) dX8_count_27 rfl ⟨rfl, rfl⟩ h
  · have h := h.2 hc1
    refine sh_aload_n (pc := 6) dX8_count_6 rfl ?_
    refine sh_gf (pc := 7) dX8_count_7 fl_X8_22 cf_8 ok_8_0 rfl rfl ?_
    refine sh_gf (pc := 10) dX8_count_10 fl_X8_144 cf_0 ok_0_0 rfl rfl ?_
    exact sh_ret_i (pc := 13) dX8_count_13 rfl ⟨rfl, rfl⟩ h

set_option maxRecDepth 100000 in
set_option maxHeartbeats 4000000 in
theorem wp_X8_undo {g : sh_G} {S : sh_S} {sz : Nat} {Q : Int32 → sh_S → Prop} 
    (h : (sh_Ci g mX0_restore [sh_R (0, 0, 0), sh_R (6, 0, 0)] S sz (fun r2 S1 => Q r2 S1))) :
    sh_Ci g mX8_undo [sh_R (8, 0, 0)] S sz Q := by
  refine sh_enter (ls := [(0, sh_R (8, 0, 0))]) (by decide +kernel) (Nat.le_of_ble_eq_true rfl) rfl ?_
  refine sh_aload_n (pc := 0) dX8_undo_0 rfl ?_
  refine sh_gf (pc := 1) dX8_undo_1 fl_X8_22 cf_8 ok_8_0 rfl rfl ?_
  refine sh_aload_n (pc := 4) dX8_undo_4 rfl ?_
  refine sh_gf (pc := 5) dX8_undo_5 fl_X8_10 cf_8 ok_8_0 rfl rfl ?_
  refine sh_ci (N := mX0_restore) (pc := 8) dX8_undo_8 ml_X8_154 h mf_X0_restore iv_X0_restore ⟨Nat.le_of_ble_eq_true rfl, Nat.le_of_ble_eq_true rfl⟩ rfl rfl (Nat.le_of_ble_eq_true rfl) ok_0_0 rfl (show vwCl[0]? = some (RX0, TX0, 2) from rfl) rfl (fun r2 S1 h => ?_)
  exact sh_ret_i (pc := 11) dX8_undo_11 rfl ⟨rfl, rfl⟩ h

set_option maxRecDepth 100000 in
set_option maxHeartbeats 4000000 in
theorem wp_X8_type {g : sh_G} {S : sh_S} {sz : Nat} {Q : Int32 → sh_S → Prop} {a1 : Int32} 
    (h : (sh_Ci g mX3_append [sh_R (3, 0, 0), sh_I a1] S sz (fun r2 S1 => Q r2 S1))) :
    sh_Ci g mX8_type [sh_R (8, 0, 0), sh_I a1] S sz Q := by
  refine sh_enter (ls := [(0, sh_R (8, 0, 0)), (1, sh_I a1)]) (by decide +kernel) (Nat.le_of_ble_eq_true rfl) rfl ?_
  refine sh_aload_n (pc := 0) dX8_type_0 rfl ?_
  refine sh_gf (pc := 1) dX8_type_1 fl_X8_29 cf_8 ok_8_0 rfl rfl ?_
  refine sh_iload_n (pc := 4) dX8_type_4 rfl ?_
  refine sh_ci (N := mX3_append) (pc := 5) dX8_type_5 ml_X8_158 h mf_X3_append iv_X3_append ⟨Nat.le_of_ble_eq_true rfl, Nat.le_of_ble_eq_true rfl⟩ rfl rfl (Nat.le_of_ble_eq_true rfl) ok_3_0 rfl (show vwCl[3]? = some (RX3, TX3, 6) from rfl) rfl (fun r2 S1 h => ?_)
  exact sh_ret_i (pc := 8) dX8_type_8 rfl ⟨rfl, rfl⟩ h

set_option maxRecDepth 100000 in
set_option maxHeartbeats 4000000 in
theorem wp_X8_clearText {g : sh_G} {S : sh_S} {sz : Nat} {Q : Int32 → sh_S → Prop} 
    (h : (sh_Ci g mX3_empty [sh_R (3, 0, 0)] S sz (fun r2 S1 => Q r2 S1))) :
    sh_Ci g mX8_clearText [sh_R (8, 0, 0)] S sz Q := by
  refine sh_enter (ls := [(0, sh_R (8, 0, 0))]) (by decide +kernel) (Nat.le_of_ble_eq_true rfl) rfl ?_
  refine sh_aload_n (pc := 0) dX8_clearText_0 rfl ?_
  refine sh_gf (pc := 1) dX8_clearText_1 fl_X8_29 cf_8 ok_8_0 rfl rfl ?_
  refine sh_ci (N := mX3_empty) (pc := 4) dX8_clearText_4 ml_X8_161 h mf_X3_empty iv_X3_empty ⟨Nat.le_of_ble_eq_true rfl, Nat.le_of_ble_eq_true rfl⟩ rfl rfl (Nat.le_of_ble_eq_true rfl) ok_3_0 rfl (show vwCl[3]? = some (RX3, TX3, 6) from rfl) rfl (fun r2 S1 h => ?_)
  exact sh_ret_i (pc := 7) dX8_clearText_7 rfl ⟨rfl, rfl⟩ h

set_option maxRecDepth 100000 in
set_option maxHeartbeats 4000000 in
theorem wp_X8_fault {g : sh_G} {S : sh_S} {sz : Nat} {Q : Int32 → sh_S → Prop} {a1 : Int32} 
    (h : ((a1 = 0 → (sh_Cu g mX3_tryOn [sh_R (3, 0, 0), sh_R (6, 1, 0), sh_R (6, 0, 0)] S sz (fun S2 => ((¬ (S2 (3, 0, 0) 4) = 0 → ((¬ a1 = 0 → Q (S2 (3, 0, 0) 4) S2) ∧ (a1 = 0 → Q (S2 (3, 0, 0) 3) S2))) ∧ ((S2 (3, 0, 0) 4) = 0 → Q (-1000004) S2))))) ∧ (¬ a1 = 0 → ((a1 = 1 → (sh_Cu g mX3_tryOn [sh_R (3, 0, 0), sh_R (6, 1, 0), sh_R (6, 0, 0)] S sz (fun S6 => ((¬ (S6 (3, 0, 0) 4) = 0 → ((¬ a1 = 0 → Q (S6 (3, 0, 0) 4) S6) ∧ (a1 = 0 → Q (S6 (3, 0, 0) 3) S6))) ∧ ((S6 (3, 0, 0) 4) = 0 → Q (-1000004) S6))))) ∧ (¬ a1 = 1 → Q (-1000001) S))))) :
    sh_Ci g mX8_fault [sh_R (8, 0, 0), sh_I a1] S sz Q := by
  refine sh_enter (ls := [(0, sh_R (8, 0, 0)), (1, sh_I a1)]) (by decide +kernel) (Nat.le_of_ble_eq_true rfl) rfl ?_
  refine sh_iload_n (pc := 0) dX8_fault_0 rfl ?_
  refine sh_if_eq (tgt := 12) (pc := 1) dX8_fault_1 (by decide) (fun hc1 => ?_) (fun hc1 => ?_)
  · have h := h.1 hc1
    refine sh_aload_n (pc := 12) dX8_fault_12 rfl ?_
    refine sh_gf (pc := 13) dX8_fault_13 fl_X8_29 cf_8 ok_8_0 rfl rfl ?_
    refine sh_aload_n (pc := 16) dX8_fault_16 rfl ?_
    refine sh_gf (pc := 17) dX8_fault_17 fl_X8_16 cf_8 ok_8_0 rfl rfl ?_
    refine sh_aload_n (pc := 20) dX8_fault_20 rfl ?_
    refine sh_gf (pc := 21) dX8_fault_21 fl_X8_10 cf_8 ok_8_0 rfl rfl ?_
    refine sh_cu (N := mX3_tryOn) (pc := 24) dX8_fault_24 ml_X8_165 h mf_X3_tryOn iv_X3_tryOn ⟨Nat.le_of_ble_eq_true rfl, Nat.le_of_ble_eq_true rfl⟩ rfl rfl (Nat.le_of_ble_eq_true rfl) ok_3_0 rfl (show vwCl[3]? = some (RX3, TX3, 6) from rfl) rfl (fun S2 h => ?_)
    refine sh_aload_n (pc := 27) dX8_fault_27 rfl ?_
    refine sh_gf (pc := 28) dX8_fault_28 fl_X8_29 cf_8 ok_8_0 rfl rfl ?_
    refine sh_gf (pc := 31) dX8_fault_31 fl_X8_169 cf_3 ok_3_0 rfl rfl ?_
    refine sh_if_ne (tgt := 40) (pc := 34) dX8_fault_34 (by decide) (fun hc3 => ?_) (fun hc3 => ?_)
    · have h := h.1 hc3
      refine sh_iload_n (pc := 40) dX8_fault_40 rfl ?_
      refine sh_if_ne (tgt := 54) (pc := 41) dX8_fault_41 (by decide) (fun hc4 => ?_) (fun hc4 => ?_)
      · have h := h.1 hc4
        refine sh_aload_n (pc := 54) dX8_fault_54 rfl ?_
        refine sh_gf (pc := 55) dX8_fault_55 fl_X8_29 cf_8 ok_8_0 rfl rfl ?_
        refine sh_gf (pc := 58) dX8_fault_58 fl_X8_169 cf_3 ok_3_0 rfl rfl ?_
        exact sh_ret_i (pc := 61) dX8_fault_61 rfl ⟨rfl, rfl⟩ h
      · have h := h.2 hc4
        refine sh_aload_n (pc := 44) dX8_fault_44 rfl ?_
        refine sh_gf (pc := 45) dX8_fault_45 fl_X8_29 cf_8 ok_8_0 rfl rfl ?_
        refine sh_gf (pc := 48) dX8_fault_48 fl_X8_173 cf_3 ok_3_0 rfl rfl ?_
        refine sh_goto (tgt := 61) (pc := 51) dX8_fault_51 (by decide) ?_
        exact sh_ret_i (pc := 61) dX8_fault_61 rfl ⟨rfl, rfl⟩ h
    · have h := h.2 hc3
      refine sh_ldc (v := (-1000004)) (pc := 37) dX8_fault_37 kc_X8_172 ?_
      exact sh_ret_i (pc := 39) dX8_fault_39 rfl ⟨rfl, rfl⟩ h
  · have h := h.2 hc1
    refine sh_iload_n (pc := 4) dX8_fault_4 rfl ?_
    refine sh_iconst (v := 1) (pc := 5) dX8_fault_5 rfl ?_
    refine sh_icmp_eq (tgt := 12) (pc := 6) dX8_fault_6 (by decide) (fun hc5 => ?_) (fun hc5 => ?_)
    · have h := h.1 hc5
      refine sh_aload_n (pc := 12) dX8_fault_12 rfl ?_
      refine sh_gf (pc := 13) dX8_fault_13 fl_X8_29 cf_8 ok_8_0 rfl rfl ?_
      refine sh_aload_n (pc := 16) dX8_fault_16 rfl ?_
      refine sh_gf (pc := 17) dX8_fault_17 fl_X8_16 cf_8 ok_8_0 rfl rfl ?_
      refine sh_aload_n (pc := 20) dX8_fault_20 rfl ?_
      refine sh_gf (pc := 21) dX8_fault_21 fl_X8_10 cf_8 ok_8_0 rfl rfl ?_
      refine sh_cu (N := mX3_tryOn) (pc := 24) dX8_fault_24 ml_X8_165 h mf_X3_tryOn iv_X3_tryOn ⟨Nat.le_of_ble_eq_true rfl, Nat.le_of_ble_eq_true rfl⟩ rfl rfl (Nat.le_of_ble_eq_true rfl) ok_3_0 rfl (show vwCl[3]? = some (RX3, TX3, 6) from rfl) rfl (fun S6 h => ?_)
      refine sh_aload_n (pc := 27) dX8_fault_27 rfl ?_
      refine sh_gf (pc := 28) dX8_fault_28 fl_X8_29 cf_8 ok_8_0 rfl rfl ?_
      refine sh_gf (pc := 31) dX8_fault_31 fl_X8_169 cf_3 ok_3_0 rfl rfl ?_
      refine sh_if_ne (tgt := 40) (pc := 34) dX8_fault_34 (by decide) (fun hc7 => ?_) (fun hc7 => ?_)
      · have h := h.1 hc7
        refine sh_iload_n (pc := 40) dX8_fault_40 rfl ?_
        refine sh_if_ne (tgt := 54) (pc := 41) dX8_fault_41 (by decide) (fun hc8 => ?_) (fun hc8 => ?_)
        · have h := h.1 hc8
          refine sh_aload_n (pc := 54) dX8_fault_54 rfl ?_
          refine sh_gf (pc := 55) dX8_fault_55 fl_X8_29 cf_8 ok_8_0 rfl rfl ?_
          refine sh_gf (pc := 58) dX8_fault_58 fl_X8_169 cf_3 ok_3_0 rfl rfl ?_
          exact sh_ret_i (pc := 61) dX8_fault_61 rfl ⟨rfl, rfl⟩ h
        · have h := h.2 hc8
          refine sh_aload_n (pc := 44) dX8_fault_44 rfl ?_
          refine sh_gf (pc := 45) dX8_fault_45 fl_X8_29 cf_8 ok_8_0 rfl rfl ?_
          refine sh_gf (pc := 48) dX8_fault_48 fl_X8_173 cf_3 ok_3_0 rfl rfl ?_
          refine sh_goto (tgt := 61) (pc := 51) dX8_fault_51 (by decide) ?_
          exact sh_ret_i (pc := 61) dX8_fault_61 rfl ⟨rfl, rfl⟩ h
      · have h := h.2 hc7
        refine sh_ldc (v := (-1000004)) (pc := 37) dX8_fault_37 kc_X8_172 ?_
        exact sh_ret_i (pc := 39) dX8_fault_39 rfl ⟨rfl, rfl⟩ h
    · have h := h.2 hc5
      refine sh_ldc (v := (-1000001)) (pc := 9) dX8_fault_9 kc_X8_164 ?_
      exact sh_ret_i (pc := 11) dX8_fault_11 rfl ⟨rfl, rfl⟩ h

set_option maxRecDepth 100000 in
set_option maxHeartbeats 4000000 in
theorem wp_X8_play {g : sh_G} {S : sh_S} {sz : Nat} {Q : Int32 → sh_S → Prop} 
    (h : (sh_Cu g mX3_tryOn [sh_R (3, 0, 0), sh_R (6, 1, 0), sh_R (6, 0, 0)] S sz (fun S1 => (((S1 (3, 0, 0) 4) = 0 → (sh_Cu g mX0_copyPresent [sh_R (0, 0, 0), sh_R (6, 0, 0)] S1 sz (fun S3 => (sh_Cu g mX6_copyFrom [sh_R (6, 0, 0), sh_R (6, 1, 0)] S3 sz (fun S4 => (sh_Ci g mX8_changed [sh_R (8, 0, 0), sh_I (S4 (3, 0, 0) 5)] S4 sz (fun r6 S5 => Q r6 S5))))))) ∧ (¬ (S1 (3, 0, 0) 4) = 0 → Q (-1000002) S1))))) :
    sh_Ci g mX8_play [sh_R (8, 0, 0)] S sz Q := by
  refine sh_enter (ls := [(0, sh_R (8, 0, 0))]) (by decide +kernel) (Nat.le_of_ble_eq_true rfl) rfl ?_
  refine sh_aload_n (pc := 0) dX8_play_0 rfl ?_
  refine sh_gf (pc := 1) dX8_play_1 fl_X8_29 cf_8 ok_8_0 rfl rfl ?_
  refine sh_aload_n (pc := 4) dX8_play_4 rfl ?_
  refine sh_gf (pc := 5) dX8_play_5 fl_X8_16 cf_8 ok_8_0 rfl rfl ?_
  refine sh_aload_n (pc := 8) dX8_play_8 rfl ?_
  refine sh_gf (pc := 9) dX8_play_9 fl_X8_10 cf_8 ok_8_0 rfl rfl ?_
  refine sh_cu (N := mX3_tryOn) (pc := 12) dX8_play_12 ml_X8_165 h mf_X3_tryOn iv_X3_tryOn ⟨Nat.le_of_ble_eq_true rfl, Nat.le_of_ble_eq_true rfl⟩ rfl rfl (Nat.le_of_ble_eq_true rfl) ok_3_0 rfl (show vwCl[3]? = some (RX3, TX3, 6) from rfl) rfl (fun S1 h => ?_)
  refine sh_aload_n (pc := 15) dX8_play_15 rfl ?_
  refine sh_gf (pc := 16) dX8_play_16 fl_X8_29 cf_8 ok_8_0 rfl rfl ?_
  refine sh_gf (pc := 19) dX8_play_19 fl_X8_169 cf_3 ok_3_0 rfl rfl ?_
  refine sh_if_eq (tgt := 28) (pc := 22) dX8_play_22 (by decide) (fun hc2 => ?_) (fun hc2 => ?_)
  · have h := h.1 hc2
    refine sh_aload_n (pc := 28) dX8_play_28 rfl ?_
    refine sh_gf (pc := 29) dX8_play_29 fl_X8_22 cf_8 ok_8_0 rfl rfl ?_
    refine sh_aload_n (pc := 32) dX8_play_32 rfl ?_
    refine sh_gf (pc := 33) dX8_play_33 fl_X8_10 cf_8 ok_8_0 rfl rfl ?_
    refine sh_cu (N := mX0_copyPresent) (pc := 36) dX8_play_36 ml_X8_33 h mf_X0_copyPresent iv_X0_copyPresent ⟨Nat.le_of_ble_eq_true rfl, Nat.le_of_ble_eq_true rfl⟩ rfl rfl (Nat.le_of_ble_eq_true rfl) ok_0_0 rfl (show vwCl[0]? = some (RX0, TX0, 2) from rfl) rfl (fun S3 h => ?_)
    refine sh_aload_n (pc := 39) dX8_play_39 rfl ?_
    refine sh_gf (pc := 40) dX8_play_40 fl_X8_10 cf_8 ok_8_0 rfl rfl ?_
    refine sh_aload_n (pc := 43) dX8_play_43 rfl ?_
    refine sh_gf (pc := 44) dX8_play_44 fl_X8_16 cf_8 ok_8_0 rfl rfl ?_
    refine sh_cu (N := mX6_copyFrom) (pc := 47) dX8_play_47 ml_X8_177 h mf_X6_copyFrom iv_X6_copyFrom ⟨Nat.le_of_ble_eq_true rfl, Nat.le_of_ble_eq_true rfl⟩ rfl rfl (Nat.le_of_ble_eq_true rfl) ok_6_0 rfl (show vwCl[6]? = some (RX6, TX6, 5) from rfl) rfl (fun S4 h => ?_)
    refine sh_aload_n (pc := 50) dX8_play_50 rfl ?_
    refine sh_aload_n (pc := 51) dX8_play_51 rfl ?_
    refine sh_gf (pc := 52) dX8_play_52 fl_X8_29 cf_8 ok_8_0 rfl rfl ?_
    refine sh_gf (pc := 55) dX8_play_55 fl_X8_180 cf_3 ok_3_0 rfl rfl ?_
    refine sh_ci (N := mX8_changed) (pc := 58) dX8_play_58 ml_X8_41 h mf_X8_changed iv_X8_changed ⟨Nat.le_of_ble_eq_true rfl, Nat.le_of_ble_eq_true rfl⟩ rfl rfl (Nat.le_of_ble_eq_true rfl) ok_8_0 rfl (show vwCl[8]? = some (RX8, TX8, 4) from rfl) rfl (fun r6 S5 h => ?_)
    exact sh_ret_i (pc := 61) dX8_play_61 rfl ⟨rfl, rfl⟩ h
  · have h := h.2 hc2
    refine sh_ldc (v := (-1000002)) (pc := 25) dX8_play_25 kc_X8_176 ?_
    exact sh_ret_i (pc := 27) dX8_play_27 rfl ⟨rfl, rfl⟩ h

set_option maxRecDepth 100000 in
set_option maxHeartbeats 4000000 in
theorem wp_Jxf58ca_isNaN_12338 {g : sh_G} {S : sh_S} {sz : Nat} {Q : Int32 → sh_S → Prop} {a1 : UInt32} 
    (h : (((Op.cmpValue (FP.fcmp a1 a1) .l) = 0 → Q 0 S) ∧ (¬ (Op.cmpValue (FP.fcmp a1 a1) .l) = 0 → Q 1 S))) :
    sh_Ci g mJxf58ca_isNaN_12338 [sh_F a1] S sz Q := by
  refine sh_enterF (ls := [(0, sh_F a1)]) (by decide +kernel) (Nat.le_of_ble_eq_true rfl) rfl ?_
  refine sh_fload_n (pc := 0) dJxf58ca_isNaN_12338_0 rfl ?_
  refine sh_fload_n (pc := 1) dJxf58ca_isNaN_12338_1 rfl ?_
  refine sh_fcmp (pc := 2) dJxf58ca_isNaN_12338_2 ?_
  refine sh_if_eq (tgt := 10) (pc := 3) dJxf58ca_isNaN_12338_3 (by decide) (fun hc1 => ?_) (fun hc1 => ?_)
  · have h := h.1 hc1
    refine sh_iconst (v := 0) (pc := 10) dJxf58ca_isNaN_12338_10 rfl ?_
    exact sh_ret_z (pc := 11) dJxf58ca_isNaN_12338_11 rfl rfl ⟨rfl, rfl⟩ h
  · have h := h.2 hc1
    refine sh_iconst (v := 1) (pc := 6) dJxf58ca_isNaN_12338_6 rfl ?_
    refine sh_goto (tgt := 11) (pc := 7) dJxf58ca_isNaN_12338_7 (by decide) ?_
    exact sh_ret_z (pc := 11) dJxf58ca_isNaN_12338_11 rfl rfl ⟨rfl, rfl⟩ h

set_option maxRecDepth 100000 in
set_option maxHeartbeats 4000000 in
theorem wp_Jxf58ca_floatToIntBits_5c35a {g : sh_G} {S : sh_S} {sz : Nat} {Q : Int32 → sh_S → Prop} {a1 : UInt32} 
    (h : (sh_Ci g mJxf58ca_isNaN_12338 [sh_F a1] S sz (fun r2 S1 => ((¬ r2 = 0 → Q 2143289344 S1) ∧ (r2 = 0 → Q ((a1).toInt32) S1))))) :
    sh_Ci g mJxf58ca_floatToIntBits_5c35a [sh_F a1] S sz Q := by
  refine sh_enterF (ls := [(0, sh_F a1)]) (by decide +kernel) (Nat.le_of_ble_eq_true rfl) rfl ?_
  refine sh_fload_n (pc := 0) dJxf58ca_floatToIntBits_5c35a_0 rfl ?_
  refine sh_si (N := mJxf58ca_isNaN_12338) (pc := 1) dJxf58ca_floatToIntBits_5c35a_1 ml_Jxf58ca_59 h mf_Jxf58ca_isNaN_12338 is_Jxf58ca_isNaN_12338 ⟨Nat.le_of_ble_eq_true rfl, Nat.le_of_ble_eq_true rfl⟩ rfl rfl (Nat.le_of_ble_eq_true rfl) (fun r2 S1 h => ?_)
  refine sh_if_ne (tgt := 12) (pc := 4) dJxf58ca_floatToIntBits_5c35a_4 (by decide) (fun hc3 => ?_) (fun hc3 => ?_)
  · have h := h.1 hc3
    refine sh_ldc (v := 2143289344) (pc := 12) dJxf58ca_floatToIntBits_5c35a_12 kc_Jxf58ca_77 ?_
    exact sh_ret_i (pc := 14) dJxf58ca_floatToIntBits_5c35a_14 rfl ⟨rfl, rfl⟩ h
  · have h := h.2 hc3
    refine sh_fload_n (pc := 7) dJxf58ca_floatToIntBits_5c35a_7 rfl ?_
    refine sh_f2raw (pc := 8) dJxf58ca_floatToIntBits_5c35a_8 ml_Jxf58ca_74 jw_raw.1 jw_raw.2.1 jw_raw.2.2 (Nat.le_of_ble_eq_true rfl) (Nat.le_of_ble_eq_true rfl) ?_
    exact sh_ret_i (pc := 11) dJxf58ca_floatToIntBits_5c35a_11 rfl ⟨rfl, rfl⟩ h
