/-! printed by a text program of ours out of the decode rows: what must hold so that a call returns with Q -/
set_option maxRecDepth 100000 in
set_option maxHeartbeats 4000000 in
theorem wp_X9_in {g : sh_G} {S : sh_S} {sz : Nat} {Q : Int32 → sh_S → Prop} {a1 : Int32} {a2 : Int32} {a3 : Int32} 
    (h : ((a1 < a2 → Q 0 S) ∧ (¬ a1 < a2 → ((a3 < a1 → Q 0 S) ∧ (¬ a3 < a1 → Q 1 S))))) :
    sh_Ci g mX9_in [sh_I a1, sh_I a2, sh_I a3] S sz Q := by
  refine sh_enter (ls := [(0, sh_I a1), (1, sh_I a2), (2, sh_I a3)]) (by decide +kernel) (Nat.le_of_ble_eq_true rfl) rfl ?_
  refine sh_iload_n (pc := 0) dX9_in_0 rfl ?_
  refine sh_iload_n (pc := 1) dX9_in_1 rfl ?_
  refine sh_icmp_lt (tgt := 14) (pc := 2) dX9_in_2 (by decide) (fun hc1 => ?_) (fun hc1 => ?_)
  · have h := h.1 hc1
    refine sh_iconst (v := 0) (pc := 14) dX9_in_14 rfl ?_
    exact sh_ret_z (pc := 15) dX9_in_15 rfl rfl ⟨rfl, rfl⟩ h
  · have h := h.2 hc1
    refine sh_iload_n (pc := 5) dX9_in_5 rfl ?_
    refine sh_iload_n (pc := 6) dX9_in_6 rfl ?_
    refine sh_icmp_gt (tgt := 14) (pc := 7) dX9_in_7 (by decide) (fun hc2 => ?_) (fun hc2 => ?_)
    · have h := h.1 hc2
      refine sh_iconst (v := 0) (pc := 14) dX9_in_14 rfl ?_
      exact sh_ret_z (pc := 15) dX9_in_15 rfl rfl ⟨rfl, rfl⟩ h
    · have h := h.2 hc2
      refine sh_iconst (v := 1) (pc := 10) dX9_in_10 rfl ?_
      refine sh_goto (tgt := 15) (pc := 11) dX9_in_11 (by decide) ?_
      exact sh_ret_z (pc := 15) dX9_in_15 rfl rfl ⟨rfl, rfl⟩ h

set_option maxRecDepth 100000 in
set_option maxHeartbeats 4000000 in
theorem wp_X9_bring {g : sh_G} {S : sh_S} {sz : Nat} {Q : sh_S → Prop} {o1 : sh_O} {n1 : Nat} (hk1 : sh_ok o1) (hr1 : ∀ r, sh_ct o1 r = .inr (.inl (n1, r))) {a2 : Int32} {o3 : sh_O} {n3 : Nat} (hk3 : sh_ok o3) (hr3 : ∀ r, sh_ct o3 r = .inr (.inl (n3, r))) {a4 : Int32} 
    (h : (∃ (Iv1 : Int32 → sh_S → Prop) (mu1 : Int32 → sh_S → Nat), Iv1 0 S ∧ ∀ (v2 : Int32) (S3 : sh_S), Iv1 v2 S3 → ((602 ≤ v2 → Q S3) ∧ (¬ 602 ≤ v2 → (vp_in (a2 + v2) n1 ∧ (vp_in (a4 + v2) n3 ∧ (∀ S7 : sh_S, S7 = sh_sr S3 o3 (upd (S3 o3) ((a4 + v2).toNatClampNeg) (S3 o1 ((a2 + v2).toNatClampNeg))) → (∀ x8 : Int32, x8 = v2 + 1 → (Iv1 x8 S7 ∧ mu1 x8 S7 < mu1 v2 S3))))))))) :
    sh_Cu g mX9_bring [sh_R o1, sh_I a2, sh_R o3, sh_I a4] S sz Q := by
  refine sh_enter (ls := [(0, sh_R o1), (1, sh_I a2), (2, sh_R o3), (3, sh_I a4)]) (by decide +kernel) (Nat.le_of_ble_eq_true rfl) rfl ?_
  refine sh_iconst (v := 0) (pc := 0) dX9_bring_0 rfl ?_
  refine sh_istore (ls' := [(4, sh_I 0), (0, sh_R o1), (1, sh_I a2), (2, sh_R o3), (3, sh_I a4)]) (pc := 1) dX9_bring_1 (by decide) rfl ?_
  obtain ⟨Iv1, mu1, h0, hs1⟩ := h
  refine sh_pick [1, 2, 3, 4, 0] rfl ?_
  refine sh_lp2 Iv1 mu1 (fun v2 S3 => sh_V g mX9_bring 0 0 3 [(0, sh_R o1), (1, sh_I a2), (2, sh_R o3), (3, sh_I a4), (4, sh_I v2)] [] (sh_St S3) sz (sh_tu sz Q)) (fun v2 S3 hI1 ih1 => ?_) _ _ h0
  have h := hs1 v2 S3 hI1
  clear h0
  refine sh_iload (pc := 3) dX9_bring_3 rfl ?_
  refine sh_sipush (v := 602) (pc := 5) dX9_bring_5 rfl ?_
  refine sh_icmp_ge (tgt := 29) (pc := 8) dX9_bring_8 (by decide) (fun hc4 => ?_) (fun hc4 => ?_)
  · have h := h.1 hc4
    exact sh_ret_u (pc := 29) dX9_bring_29 rfl ⟨rfl, rfl⟩ h
  · have h := h.2 hc4
    refine sh_aload_n (pc := 11) dX9_bring_11 rfl ?_
    refine sh_iload_n (pc := 12) dX9_bring_12 rfl ?_
    refine sh_iload (pc := 13) dX9_bring_13 rfl ?_
    refine sh_iadd (pc := 15) dX9_bring_15 ?_
    refine sh_aload_n (pc := 16) dX9_bring_16 rfl ?_
    refine sh_iload_n (pc := 17) dX9_bring_17 rfl ?_
    refine sh_iload (pc := 18) dX9_bring_18 rfl ?_
    refine sh_iadd (pc := 20) dX9_bring_20 ?_
    obtain ⟨hi5, h⟩ := h
    refine sh_ia (pc := 21) dX9_bring_21 hk1 (hr1 _) hi5 ?_
    obtain ⟨hi6, h⟩ := h
    refine sh_is (pc := 22) dX9_bring_22 hk3 (hr3 _) hi6 (hr3 _) ?_
    refine sh_topS (fun S7 hS7 => ?_)
    have h := h S7 hS7
    obtain ⟨x8, hx8⟩ : ∃ y : Int32, y = v2 + 1 := ⟨_, rfl⟩
    have h := h x8 hx8
    refine sh_iinc (v := x8) (ls' := [(4, sh_I x8), (0, sh_R o1), (1, sh_I a2), (2, sh_R o3), (3, sh_I a4)]) (pc := 23) dX9_bring_23 rfl hx8.symm (by decide) rfl ?_
    refine sh_goto (tgt := 3) (pc := 26) dX9_bring_26 (by decide) ?_
    refine sh_pick [1, 2, 3, 4, 0] rfl ?_
    exact ih1 _ _ h.1 h.2

set_option maxRecDepth 100000 in
set_option maxHeartbeats 4000000 in
theorem wp_X9_hold {g : sh_G} {S : sh_S} {sz : Nat} {Q : sh_S → Prop} 
    (h : (sh_Cu g mX9_bring [sh_R (19, 0, 0), sh_I 0, sh_R (20, 0, 0), sh_I 0] S sz (fun S1 => Q S1))) :
    sh_Cu g mX9_hold [sh_R (9, 0, 0)] S sz Q := by
  refine sh_enter (ls := [(0, sh_R (9, 0, 0))]) (by decide +kernel) (Nat.le_of_ble_eq_true rfl) rfl ?_
  refine sh_aload_n (pc := 0) dX9_hold_0 rfl ?_
  refine sh_gf (pc := 1) dX9_hold_1 fl_X9_7 cf_9 ok_9_0 rfl rfl ?_
  refine sh_iconst (v := 0) (pc := 4) dX9_hold_4 rfl ?_
  refine sh_aload_n (pc := 5) dX9_hold_5 rfl ?_
  refine sh_gf (pc := 6) dX9_hold_6 fl_X9_13 cf_9 ok_9_0 rfl rfl ?_
  refine sh_iconst (v := 0) (pc := 9) dX9_hold_9 rfl ?_
  refine sh_su (N := mX9_bring) (pc := 10) dX9_hold_10 ml_X9_28 h mf_X9_bring is_X9_bring ⟨Nat.le_of_ble_eq_true rfl, Nat.le_of_ble_eq_true rfl⟩ rfl rfl (Nat.le_of_ble_eq_true rfl) (fun S1 h => ?_)
  exact sh_ret_u (pc := 13) dX9_hold_13 rfl ⟨rfl, rfl⟩ h

set_option maxRecDepth 100000 in
set_option maxHeartbeats 4000000 in
theorem wp_X9_ends {g : sh_G} {S : sh_S} {sz : Nat} {Q : Int32 → sh_S → Prop} {a1 : Int32} 
    (h : (((-1000001) < a1 → ((¬ (S (9, 0, 0) 4) = 4 → (sh_Cu g mX9_bring [sh_R (20, 0, 0), sh_I 0, sh_R (22, 0, 0), sh_I (602 * (S (9, 0, 0) 4))] S sz (fun S3 => (∀ S4 : sh_S, S4 = sh_sr S3 (9, 0, 0) (upd (S3 (9, 0, 0)) 4 (((S3 (9, 0, 0) 4) + 1))) → Q a1 S4)))) ∧ ((S (9, 0, 0) 4) = 4 → (∃ (Iv5 : Int32 → sh_S → Prop) (mu5 : Int32 → sh_S → Nat), Iv5 0 S ∧ ∀ (v6 : Int32) (S7 : sh_S), Iv5 v6 S7 → ((1806 ≤ v6 → (∀ S9 : sh_S, S9 = sh_sr S7 (9, 0, 0) (upd (S7 (9, 0, 0)) 4 (((S7 (9, 0, 0) 4) - 1))) → (sh_Cu g mX9_bring [sh_R (20, 0, 0), sh_I 0, sh_R (22, 0, 0), sh_I (602 * (S9 (9, 0, 0) 4))] S9 sz (fun S10 => (∀ S11 : sh_S, S11 = sh_sr S10 (9, 0, 0) (upd (S10 (9, 0, 0)) 4 (((S10 (9, 0, 0) 4) + 1))) → Q a1 S11))))) ∧ (¬ 1806 ≤ v6 → (vp_in (v6 + 602) 2408 ∧ (vp_in v6 2408 ∧ (∀ S14 : sh_S, S14 = sh_sr S7 (22, 0, 0) (upd (S7 (22, 0, 0)) (v6.toNatClampNeg) (S7 (22, 0, 0) ((v6 + 602).toNatClampNeg))) → (∀ x15 : Int32, x15 = v6 + 1 → (Iv5 x15 S14 ∧ mu5 x15 S14 < mu5 v6 S7))))))))))) ∧ (¬ (-1000001) < a1 → ((a1 < (-1000004) → ((¬ (S (9, 0, 0) 4) = 4 → (sh_Cu g mX9_bring [sh_R (20, 0, 0), sh_I 0, sh_R (22, 0, 0), sh_I (602 * (S (9, 0, 0) 4))] S sz (fun S18 => (∀ S19 : sh_S, S19 = sh_sr S18 (9, 0, 0) (upd (S18 (9, 0, 0)) 4 (((S18 (9, 0, 0) 4) + 1))) → Q a1 S19)))) ∧ ((S (9, 0, 0) 4) = 4 → (∃ (Iv20 : Int32 → sh_S → Prop) (mu20 : Int32 → sh_S → Nat), Iv20 0 S ∧ ∀ (v21 : Int32) (S22 : sh_S), Iv20 v21 S22 → ((1806 ≤ v21 → (∀ S24 : sh_S, S24 = sh_sr S22 (9, 0, 0) (upd (S22 (9, 0, 0)) 4 (((S22 (9, 0, 0) 4) - 1))) → (sh_Cu g mX9_bring [sh_R (20, 0, 0), sh_I 0, sh_R (22, 0, 0), sh_I (602 * (S24 (9, 0, 0) 4))] S24 sz (fun S25 => (∀ S26 : sh_S, S26 = sh_sr S25 (9, 0, 0) (upd (S25 (9, 0, 0)) 4 (((S25 (9, 0, 0) 4) + 1))) → Q a1 S26))))) ∧ (¬ 1806 ≤ v21 → (vp_in (v21 + 602) 2408 ∧ (vp_in v21 2408 ∧ (∀ S29 : sh_S, S29 = sh_sr S22 (22, 0, 0) (upd (S22 (22, 0, 0)) (v21.toNatClampNeg) (S22 (22, 0, 0) ((v21 + 602).toNatClampNeg))) → (∀ x30 : Int32, x30 = v21 + 1 → (Iv20 x30 S29 ∧ mu20 x30 S29 < mu20 v21 S22))))))))))) ∧ (¬ a1 < (-1000004) → Q a1 S))))) :
    sh_Ci g mX9_ends [sh_R (9, 0, 0), sh_I a1] S sz Q := by
  refine sh_enter (ls := [(0, sh_R (9, 0, 0)), (1, sh_I a1)]) (by decide +kernel) (Nat.le_of_ble_eq_true rfl) rfl ?_
  refine sh_iload_n (pc := 0) dX9_ends_0 rfl ?_
  refine sh_ldc (v := (-1000001)) (pc := 1) dX9_ends_1 kc_X9_32 ?_
  refine sh_icmp_gt (tgt := 14) (pc := 3) dX9_ends_3 (by decide) (fun hc1 => ?_) (fun hc1 => ?_)
  · have h := h.1 hc1
    refine sh_aload_n (pc := 14) dX9_ends_14 rfl ?_
    refine sh_gf (pc := 15) dX9_ends_15 fl_X9_34 cf_9 ok_9_0 rfl rfl ?_
    refine sh_iconst (v := 4) (pc := 18) dX9_ends_18 rfl ?_
    refine sh_icmp_ne (tgt := 63) (pc := 19) dX9_ends_19 (by decide) (fun hc2 => ?_) (fun hc2 => ?_)
    · have h := h.1 hc2
      refine sh_aload_n (pc := 63) dX9_ends_63 rfl ?_
      refine sh_gf (pc := 64) dX9_ends_64 fl_X9_13 cf_9 ok_9_0 rfl rfl ?_
      refine sh_iconst (v := 0) (pc := 67) dX9_ends_67 rfl ?_
      refine sh_aload_n (pc := 68) dX9_ends_68 rfl ?_
      refine sh_gf (pc := 69) dX9_ends_69 fl_X9_19 cf_9 ok_9_0 rfl rfl ?_
      refine sh_sipush (v := 602) (pc := 72) dX9_ends_72 rfl ?_
      refine sh_aload_n (pc := 75) dX9_ends_75 rfl ?_
      refine sh_gf (pc := 76) dX9_ends_76 fl_X9_34 cf_9 ok_9_0 rfl rfl ?_
      refine sh_imul (pc := 79) dX9_ends_79 ?_
      refine sh_su (N := mX9_bring) (pc := 80) dX9_ends_80 ml_X9_28 h mf_X9_bring is_X9_bring ⟨Nat.le_of_ble_eq_true rfl, Nat.le_of_ble_eq_true rfl⟩ rfl rfl (Nat.le_of_ble_eq_true rfl) (fun S3 h => ?_)
      refine sh_aload_n (pc := 83) dX9_ends_83 rfl ?_
      refine sh_dup (pc := 84) dX9_ends_84 rfl ?_
      refine sh_gf (pc := 85) dX9_ends_85 fl_X9_34 cf_9 ok_9_0 rfl rfl ?_
      refine sh_iconst (v := 1) (pc := 88) dX9_ends_88 rfl ?_
      refine sh_iadd (pc := 89) dX9_ends_89 ?_
      refine sh_pfi (pc := 90) dX9_ends_90 fl_X9_34 cf_9 ft_9_4 ok_9_0 rfl (Nat.le_of_ble_eq_true rfl) rfl ?_
      refine sh_topS (fun S4 hS4 => ?_)
      have h := h S4 hS4
      refine sh_iload_n (pc := 93) dX9_ends_93 rfl ?_
      exact sh_ret_i (pc := 94) dX9_ends_94 rfl ⟨rfl, rfl⟩ h
    · have h := h.2 hc2
      refine sh_iconst (v := 0) (pc := 22) dX9_ends_22 rfl ?_
      refine sh_istore_n (ls' := [(2, sh_I 0), (0, sh_R (9, 0, 0)), (1, sh_I a1)]) (pc := 23) dX9_ends_23 (by decide) rfl ?_
      obtain ⟨Iv5, mu5, h0, hs5⟩ := h
      refine sh_pick [1, 2, 0] rfl ?_
      refine sh_lp2 Iv5 mu5 (fun v6 S7 => sh_V g mX9_ends 0 0 24 [(0, sh_R (9, 0, 0)), (1, sh_I a1), (2, sh_I v6)] [] (sh_St S7) sz (sh_ti sz Q)) (fun v6 S7 hI5 ih5 => ?_) _ _ h0
      have h := hs5 v6 S7 hI5
      clear h0
      refine sh_iload_n (pc := 24) dX9_ends_24 rfl ?_
      refine sh_sipush (v := 1806) (pc := 25) dX9_ends_25 rfl ?_
      refine sh_icmp_ge (tgt := 53) (pc := 28) dX9_ends_28 (by decide) (fun hc8 => ?_) (fun hc8 => ?_)
      · have h := h.1 hc8
        refine sh_aload_n (pc := 53) dX9_ends_53 rfl ?_
        refine sh_dup (pc := 54) dX9_ends_54 rfl ?_
        refine sh_gf (pc := 55) dX9_ends_55 fl_X9_34 cf_9 ok_9_0 rfl rfl ?_
        refine sh_iconst (v := 1) (pc := 58) dX9_ends_58 rfl ?_
        refine sh_isub (pc := 59) dX9_ends_59 ?_
        refine sh_pfi (pc := 60) dX9_ends_60 fl_X9_34 cf_9 ft_9_4 ok_9_0 rfl (Nat.le_of_ble_eq_true rfl) rfl ?_
        refine sh_topS (fun S9 hS9 => ?_)
        have h := h S9 hS9
        refine sh_aload_n (pc := 63) dX9_ends_63 rfl ?_
        refine sh_gf (pc := 64) dX9_ends_64 fl_X9_13 cf_9 ok_9_0 rfl rfl ?_
        refine sh_iconst (v := 0) (pc := 67) dX9_ends_67 rfl ?_
        refine sh_aload_n (pc := 68) dX9_ends_68 rfl ?_
        refine sh_gf (pc := 69) dX9_ends_69 fl_X9_19 cf_9 ok_9_0 rfl rfl ?_
        refine sh_sipush (v := 602) (pc := 72) dX9_ends_72 rfl ?_
        refine sh_aload_n (pc := 75) dX9_ends_75 rfl ?_
        refine sh_gf (pc := 76) dX9_ends_76 fl_X9_34 cf_9 ok_9_0 rfl rfl ?_
        refine sh_imul (pc := 79) dX9_ends_79 ?_
        refine sh_su (N := mX9_bring) (pc := 80) dX9_ends_80 ml_X9_28 h mf_X9_bring is_X9_bring ⟨Nat.le_of_ble_eq_true rfl, Nat.le_of_ble_eq_true rfl⟩ rfl rfl (Nat.le_of_ble_eq_true rfl) (fun S10 h => ?_)
        refine sh_aload_n (pc := 83) dX9_ends_83 rfl ?_
        refine sh_dup (pc := 84) dX9_ends_84 rfl ?_
        refine sh_gf (pc := 85) dX9_ends_85 fl_X9_34 cf_9 ok_9_0 rfl rfl ?_
        refine sh_iconst (v := 1) (pc := 88) dX9_ends_88 rfl ?_
        refine sh_iadd (pc := 89) dX9_ends_89 ?_
        refine sh_pfi (pc := 90) dX9_ends_90 fl_X9_34 cf_9 ft_9_4 ok_9_0 rfl (Nat.le_of_ble_eq_true rfl) rfl ?_
        refine sh_topS (fun S11 hS11 => ?_)
        have h := h S11 hS11
        refine sh_iload_n (pc := 93) dX9_ends_93 rfl ?_
        exact sh_ret_i (pc := 94) dX9_ends_94 rfl ⟨rfl, rfl⟩ h
      · have h := h.2 hc8
        refine sh_aload_n (pc := 31) dX9_ends_31 rfl ?_
        refine sh_gf (pc := 32) dX9_ends_32 fl_X9_19 cf_9 ok_9_0 rfl rfl ?_
        refine sh_iload_n (pc := 35) dX9_ends_35 rfl ?_
        refine sh_aload_n (pc := 36) dX9_ends_36 rfl ?_
        refine sh_gf (pc := 37) dX9_ends_37 fl_X9_19 cf_9 ok_9_0 rfl rfl ?_
        refine sh_iload_n (pc := 40) dX9_ends_40 rfl ?_
        refine sh_sipush (v := 602) (pc := 41) dX9_ends_41 rfl ?_
        refine sh_iadd (pc := 44) dX9_ends_44 ?_
        obtain ⟨hi12, h⟩ := h
        refine sh_ia (pc := 45) dX9_ends_45 ok_22_0 rfl hi12 ?_
        obtain ⟨hi13, h⟩ := h
        refine sh_is (pc := 46) dX9_ends_46 ok_22_0 rfl hi13 rfl ?_
        refine sh_topS (fun S14 hS14 => ?_)
        have h := h S14 hS14
        obtain ⟨x15, hx15⟩ : ∃ y : Int32, y = v6 + 1 := ⟨_, rfl⟩
        have h := h x15 hx15
        refine sh_iinc (v := x15) (ls' := [(2, sh_I x15), (0, sh_R (9, 0, 0)), (1, sh_I a1)]) (pc := 47) dX9_ends_47 rfl hx15.symm (by decide) rfl ?_
        refine sh_goto (tgt := 24) (pc := 50) dX9_ends_50 (by decide) ?_
        refine sh_pick [1, 2, 0] rfl ?_
        exact ih5 _ _ h.1 h.2
  · have h := h.2 hc1
    refine sh_iload_n (pc := 6) dX9_ends_6 rfl ?_
    refine sh_ldc (v := (-1000004)) (pc := 7) dX9_ends_7 kc_X9_33 ?_
    refine sh_icmp_lt (tgt := 14) (pc := 9) dX9_ends_9 (by decide) (fun hc16 => ?_) (fun hc16 => ?_)
    · have h := h.1 hc16
      refine sh_aload_n (pc := 14) dX9_ends_14 rfl ?_
      refine sh_gf (pc := 15) dX9_ends_15 fl_X9_34 cf_9 ok_9_0 rfl rfl ?_
      refine sh_iconst (v := 4) (pc := 18) dX9_ends_18 rfl ?_
      refine sh_icmp_ne (tgt := 63) (pc := 19) dX9_ends_19 (by decide) (fun hc17 => ?_) (fun hc17 => ?_)
      · have h := h.1 hc17
        refine sh_aload_n (pc := 63) dX9_ends_63 rfl ?_
        refine sh_gf (pc := 64) dX9_ends_64 fl_X9_13 cf_9 ok_9_0 rfl rfl ?_
        refine sh_iconst (v := 0) (pc := 67) dX9_ends_67 rfl ?_
        refine sh_aload_n (pc := 68) dX9_ends_68 rfl ?_
        refine sh_gf (pc := 69) dX9_ends_69 fl_X9_19 cf_9 ok_9_0 rfl rfl ?_
        refine sh_sipush (v := 602) (pc := 72) dX9_ends_72 rfl ?_
        refine sh_aload_n (pc := 75) dX9_ends_75 rfl ?_
        refine sh_gf (pc := 76) dX9_ends_76 fl_X9_34 cf_9 ok_9_0 rfl rfl ?_
        refine sh_imul (pc := 79) dX9_ends_79 ?_
        refine sh_su (N := mX9_bring) (pc := 80) dX9_ends_80 ml_X9_28 h mf_X9_bring is_X9_bring ⟨Nat.le_of_ble_eq_true rfl, Nat.le_of_ble_eq_true rfl⟩ rfl rfl (Nat.le_of_ble_eq_true rfl) (fun S18 h => ?_)
        refine sh_aload_n (pc := 83) dX9_ends_83 rfl ?_
        refine sh_dup (pc := 84) dX9_ends_84 rfl ?_
        refine sh_gf (pc := 85) dX9_ends_85 fl_X9_34 cf_9 ok_9_0 rfl rfl ?_
        refine sh_iconst (v := 1) (pc := 88) dX9_ends_88 rfl ?_
        refine sh_iadd (pc := 89) dX9_ends_89 ?_
        refine sh_pfi (pc := 90) dX9_ends_90 fl_X9_34 cf_9 ft_9_4 ok_9_0 rfl (Nat.le_of_ble_eq_true rfl) rfl ?_
        refine sh_topS (fun S19 hS19 => ?_)
        have h := h S19 hS19
        refine sh_iload_n (pc := 93) dX9_ends_93 rfl ?_
        exact sh_ret_i (pc := 94) dX9_ends_94 rfl ⟨rfl, rfl⟩ h
      · have h := h.2 hc17
        refine sh_iconst (v := 0) (pc := 22) dX9_ends_22 rfl ?_
        refine sh_istore_n (ls' := [(2, sh_I 0), (0, sh_R (9, 0, 0)), (1, sh_I a1)]) (pc := 23) dX9_ends_23 (by decide) rfl ?_
        obtain ⟨Iv20, mu20, h0, hs20⟩ := h
        refine sh_pick [1, 2, 0] rfl ?_
        refine sh_lp2 Iv20 mu20 (fun v21 S22 => sh_V g mX9_ends 0 0 24 [(0, sh_R (9, 0, 0)), (1, sh_I a1), (2, sh_I v21)] [] (sh_St S22) sz (sh_ti sz Q)) (fun v21 S22 hI20 ih20 => ?_) _ _ h0
        have h := hs20 v21 S22 hI20
        clear h0
        refine sh_iload_n (pc := 24) dX9_ends_24 rfl ?_
        refine sh_sipush (v := 1806) (pc := 25) dX9_ends_25 rfl ?_
        refine sh_icmp_ge (tgt := 53) (pc := 28) dX9_ends_28 (by decide) (fun hc23 => ?_) (fun hc23 => ?_)
        · have h := h.1 hc23
          refine sh_aload_n (pc := 53) dX9_ends_53 rfl ?_
          refine sh_dup (pc := 54) dX9_ends_54 rfl ?_
          refine sh_gf (pc := 55) dX9_ends_55 fl_X9_34 cf_9 ok_9_0 rfl rfl ?_
          refine sh_iconst (v := 1) (pc := 58) dX9_ends_58 rfl ?_
          refine sh_isub (pc := 59) dX9_ends_59 ?_
          refine sh_pfi (pc := 60) dX9_ends_60 fl_X9_34 cf_9 ft_9_4 ok_9_0 rfl (Nat.le_of_ble_eq_true rfl) rfl ?_
          refine sh_topS (fun S24 hS24 => ?_)
          have h := h S24 hS24
          refine sh_aload_n (pc := 63) dX9_ends_63 rfl ?_
          refine sh_gf (pc := 64) dX9_ends_64 fl_X9_13 cf_9 ok_9_0 rfl rfl ?_
          refine sh_iconst (v := 0) (pc := 67) dX9_ends_67 rfl ?_
          refine sh_aload_n (pc := 68) dX9_ends_68 rfl ?_
          refine sh_gf (pc := 69) dX9_ends_69 fl_X9_19 cf_9 ok_9_0 rfl rfl ?_
          refine sh_sipush (v := 602) (pc := 72) dX9_ends_72 rfl ?_
          refine sh_aload_n (pc := 75) dX9_ends_75 rfl ?_
          refine sh_gf (pc := 76) dX9_ends_76 fl_X9_34 cf_9 ok_9_0 rfl rfl ?_
          refine sh_imul (pc := 79) dX9_ends_79 ?_
          refine sh_su (N := mX9_bring) (pc := 80) dX9_ends_80 ml_X9_28 h mf_X9_bring is_X9_bring ⟨Nat.le_of_ble_eq_true rfl, Nat.le_of_ble_eq_true rfl⟩ rfl rfl (Nat.le_of_ble_eq_true rfl) (fun S25 h => ?_)
          refine sh_aload_n (pc := 83) dX9_ends_83 rfl ?_
          refine sh_dup (pc := 84) dX9_ends_84 rfl ?_
          refine sh_gf (pc := 85) dX9_ends_85 fl_X9_34 cf_9 ok_9_0 rfl rfl ?_
          refine sh_iconst (v := 1) (pc := 88) dX9_ends_88 rfl ?_
          refine sh_iadd (pc := 89) dX9_ends_89 ?_
          refine sh_pfi (pc := 90) dX9_ends_90 fl_X9_34 cf_9 ft_9_4 ok_9_0 rfl (Nat.le_of_ble_eq_true rfl) rfl ?_
          refine sh_topS (fun S26 hS26 => ?_)
          have h := h S26 hS26
          refine sh_iload_n (pc := 93) dX9_ends_93 rfl ?_
          exact sh_ret_i (pc := 94) dX9_ends_94 rfl ⟨rfl, rfl⟩ h
        · have h := h.2 hc23
          refine sh_aload_n (pc := 31) dX9_ends_31 rfl ?_
          refine sh_gf (pc := 32) dX9_ends_32 fl_X9_19 cf_9 ok_9_0 rfl rfl ?_
          refine sh_iload_n (pc := 35) dX9_ends_35 rfl ?_
          refine sh_aload_n (pc := 36) dX9_ends_36 rfl ?_
          refine sh_gf (pc := 37) dX9_ends_37 fl_X9_19 cf_9 ok_9_0 rfl rfl ?_
          refine sh_iload_n (pc := 40) dX9_ends_40 rfl ?_
          refine sh_sipush (v := 602) (pc := 41) dX9_ends_41 rfl ?_
          refine sh_iadd (pc := 44) dX9_ends_44 ?_
          obtain ⟨hi27, h⟩ := h
          refine sh_ia (pc := 45) dX9_ends_45 ok_22_0 rfl hi27 ?_
          obtain ⟨hi28, h⟩ := h
          refine sh_is (pc := 46) dX9_ends_46 ok_22_0 rfl hi28 rfl ?_
          refine sh_topS (fun S29 hS29 => ?_)
          have h := h S29 hS29
          obtain ⟨x30, hx30⟩ : ∃ y : Int32, y = v21 + 1 := ⟨_, rfl⟩
          have h := h x30 hx30
          refine sh_iinc (v := x30) (ls' := [(2, sh_I x30), (0, sh_R (9, 0, 0)), (1, sh_I a1)]) (pc := 47) dX9_ends_47 rfl hx30.symm (by decide) rfl ?_
          refine sh_goto (tgt := 24) (pc := 50) dX9_ends_50 (by decide) ?_
          refine sh_pick [1, 2, 0] rfl ?_
          exact ih20 _ _ h.1 h.2
    · have h := h.2 hc16
      refine sh_iload_n (pc := 12) dX9_ends_12 rfl ?_
      exact sh_ret_i (pc := 13) dX9_ends_13 rfl ⟨rfl, rfl⟩ h

set_option maxRecDepth 100000 in
set_option maxHeartbeats 4000000 in
theorem wp_X9_isMember {g : sh_G} {S : sh_S} {sz : Nat} {Q : Int32 → sh_S → Prop} {a1 : Int32} 
    (h : (sh_Ci g mX9_in [sh_I a1, sh_I 0, sh_I ((S (19, 0, 0) 8) - 1)] S sz (fun r3 S2 => (narrow .boolean (.int r3) = .int r3 ∧ Q r3 S2)))) :
    sh_Ci g mX9_isMember [sh_R (9, 0, 0), sh_I a1] S sz Q := by
  refine sh_enter (ls := [(0, sh_R (9, 0, 0)), (1, sh_I a1)]) (by decide +kernel) (Nat.le_of_ble_eq_true rfl) rfl ?_
  refine sh_iload_n (pc := 0) dX9_isMember_0 rfl ?_
  refine sh_iconst (v := 0) (pc := 1) dX9_isMember_1 rfl ?_
  refine sh_aload_n (pc := 2) dX9_isMember_2 rfl ?_
  refine sh_gf (pc := 3) dX9_isMember_3 fl_X9_7 cf_9 ok_9_0 rfl rfl ?_
  refine sh_bipush (v := 8) (pc := 6) dX9_isMember_6 rfl ?_
  refine sh_ia (pc := 8) dX9_isMember_8 ok_19_0 rfl (vp_in_iff.mpr ⟨by decide, by decide⟩) ?_
  refine sh_iconst (v := 1) (pc := 9) dX9_isMember_9 rfl ?_
  refine sh_isub (pc := 10) dX9_isMember_10 ?_
  refine sh_si (N := mX9_in) (pc := 11) dX9_isMember_11 ml_X9_38 h mf_X9_in is_X9_in ⟨Nat.le_of_ble_eq_true rfl, Nat.le_of_ble_eq_true rfl⟩ rfl rfl (Nat.le_of_ble_eq_true rfl) (fun r3 S2 h => ?_)
  exact sh_ret_z (pc := 14) dX9_isMember_14 rfl h.1 ⟨rfl, rfl⟩ h.2

set_option maxRecDepth 100000 in
set_option maxHeartbeats 4000000 in
theorem wp_X9_isTool {g : sh_G} {S : sh_S} {sz : Nat} {Q : Int32 → sh_S → Prop} {a1 : Int32} 
    (h : (sh_Ci g mX9_in [sh_I a1, sh_I 0, sh_I ((S (19, 0, 0) 9) - 1)] S sz (fun r3 S2 => (narrow .boolean (.int r3) = .int r3 ∧ Q r3 S2)))) :
    sh_Ci g mX9_isTool [sh_R (9, 0, 0), sh_I a1] S sz Q := by
  refine sh_enter (ls := [(0, sh_R (9, 0, 0)), (1, sh_I a1)]) (by decide +kernel) (Nat.le_of_ble_eq_true rfl) rfl ?_
  refine sh_iload_n (pc := 0) dX9_isTool_0 rfl ?_
  refine sh_iconst (v := 0) (pc := 1) dX9_isTool_1 rfl ?_
  refine sh_aload_n (pc := 2) dX9_isTool_2 rfl ?_
  refine sh_gf (pc := 3) dX9_isTool_3 fl_X9_7 cf_9 ok_9_0 rfl rfl ?_
  refine sh_bipush (v := 9) (pc := 6) dX9_isTool_6 rfl ?_
  refine sh_ia (pc := 8) dX9_isTool_8 ok_19_0 rfl (vp_in_iff.mpr ⟨by decide, by decide⟩) ?_
  refine sh_iconst (v := 1) (pc := 9) dX9_isTool_9 rfl ?_
  refine sh_isub (pc := 10) dX9_isTool_10 ?_
  refine sh_si (N := mX9_in) (pc := 11) dX9_isTool_11 ml_X9_38 h mf_X9_in is_X9_in ⟨Nat.le_of_ble_eq_true rfl, Nat.le_of_ble_eq_true rfl⟩ rfl rfl (Nat.le_of_ble_eq_true rfl) (fun r3 S2 h => ?_)
  exact sh_ret_z (pc := 14) dX9_isTool_14 rfl h.1 ⟨rfl, rfl⟩ h.2

set_option maxRecDepth 100000 in
set_option maxHeartbeats 4000000 in
theorem wp_X9_of {g : sh_G} {S : sh_S} {sz : Nat} {Q : Int32 → sh_S → Prop} {a1 : Int32} {a2 : Int32} 
    (h : (vp_in ((22 + (12 * a1)) + a2) 602 ∧ Q (S (19, 0, 0) (((22 + (12 * a1)) + a2).toNatClampNeg)) S)) :
    sh_Ci g mX9_of [sh_R (9, 0, 0), sh_I a1, sh_I a2] S sz Q := by
  refine sh_enter (ls := [(0, sh_R (9, 0, 0)), (1, sh_I a1), (2, sh_I a2)]) (by decide +kernel) (Nat.le_of_ble_eq_true rfl) rfl ?_
  refine sh_aload_n (pc := 0) dX9_of_0 rfl ?_
  refine sh_gf (pc := 1) dX9_of_1 fl_X9_7 cf_9 ok_9_0 rfl rfl ?_
  refine sh_bipush (v := 22) (pc := 4) dX9_of_4 rfl ?_
  refine sh_bipush (v := 12) (pc := 6) dX9_of_6 rfl ?_
  refine sh_iload_n (pc := 8) dX9_of_8 rfl ?_
  refine sh_imul (pc := 9) dX9_of_9 ?_
  refine sh_iadd (pc := 10) dX9_of_10 ?_
  refine sh_iload_n (pc := 11) dX9_of_11 rfl ?_
  refine sh_iadd (pc := 12) dX9_of_12 ?_
  obtain ⟨hi1, h⟩ := h
  refine sh_ia (pc := 13) dX9_of_13 ok_19_0 rfl hi1 ?_
  exact sh_ret_i (pc := 14) dX9_of_14 rfl ⟨rfl, rfl⟩ h

set_option maxRecDepth 100000 in
set_option maxHeartbeats 4000000 in
theorem wp_X9_more {g : sh_G} {S : sh_S} {sz : Nat} {Q : sh_S → Prop} {a1 : Int32} {a2 : Int32} {a3 : Int32} 
    (h : (vp_in ((22 + (12 * a1)) + a2) 602 ∧ (vp_in ((22 + (12 * a1)) + a2) 602 ∧ (∀ S3 : sh_S, S3 = sh_sr S (19, 0, 0) (upd (S (19, 0, 0)) (((22 + (12 * a1)) + a2).toNatClampNeg) ((S (19, 0, 0) (((22 + (12 * a1)) + a2).toNatClampNeg)) + a3)) → Q S3)))) :
    sh_Cu g mX9_more [sh_R (9, 0, 0), sh_I a1, sh_I a2, sh_I a3] S sz Q := by
  refine sh_enter (ls := [(0, sh_R (9, 0, 0)), (1, sh_I a1), (2, sh_I a2), (3, sh_I a3)]) (by decide +kernel) (Nat.le_of_ble_eq_true rfl) rfl ?_
  refine sh_aload_n (pc := 0) dX9_more_0 rfl ?_
  refine sh_gf (pc := 1) dX9_more_1 fl_X9_7 cf_9 ok_9_0 rfl rfl ?_
  refine sh_bipush (v := 22) (pc := 4) dX9_more_4 rfl ?_
  refine sh_bipush (v := 12) (pc := 6) dX9_more_6 rfl ?_
  refine sh_iload_n (pc := 8) dX9_more_8 rfl ?_
  refine sh_imul (pc := 9) dX9_more_9 ?_
  refine sh_iadd (pc := 10) dX9_more_10 ?_
  refine sh_iload_n (pc := 11) dX9_more_11 rfl ?_
  refine sh_iadd (pc := 12) dX9_more_12 ?_
  refine sh_dup2 (pc := 13) dX9_more_13 rfl rfl ?_
  obtain ⟨hi1, h⟩ := h
  refine sh_ia (pc := 14) dX9_more_14 ok_19_0 rfl hi1 ?_
  refine sh_iload_n (pc := 15) dX9_more_15 rfl ?_
  refine sh_iadd (pc := 16) dX9_more_16 ?_
  obtain ⟨hi2, h⟩ := h
  refine sh_is (pc := 17) dX9_more_17 ok_19_0 rfl hi2 rfl ?_
  refine sh_topS (fun S3 hS3 => ?_)
  have h := h S3 hS3
  exact sh_ret_u (pc := 18) dX9_more_18 rfl ⟨rfl, rfl⟩ h

set_option maxRecDepth 100000 in
set_option maxHeartbeats 4000000 in
theorem wp_X9_its {g : sh_G} {S : sh_S} {sz : Nat} {Q : Int32 → sh_S → Prop} {a1 : Int32} {a2 : Int32} 
    (h : (vp_in ((142 + (23 * a1)) + a2) 602 ∧ Q (S (19, 0, 0) (((142 + (23 * a1)) + a2).toNatClampNeg)) S)) :
    sh_Ci g mX9_its [sh_R (9, 0, 0), sh_I a1, sh_I a2] S sz Q := by
  refine sh_enter (ls := [(0, sh_R (9, 0, 0)), (1, sh_I a1), (2, sh_I a2)]) (by decide +kernel) (Nat.le_of_ble_eq_true rfl) rfl ?_
  refine sh_aload_n (pc := 0) dX9_its_0 rfl ?_
  refine sh_gf (pc := 1) dX9_its_1 fl_X9_7 cf_9 ok_9_0 rfl rfl ?_
  refine sh_sipush (v := 142) (pc := 4) dX9_its_4 rfl ?_
  refine sh_bipush (v := 23) (pc := 7) dX9_its_7 rfl ?_
  refine sh_iload_n (pc := 9) dX9_its_9 rfl ?_
  refine sh_imul (pc := 10) dX9_its_10 ?_
  refine sh_iadd (pc := 11) dX9_its_11 ?_
  refine sh_iload_n (pc := 12) dX9_its_12 rfl ?_
  refine sh_iadd (pc := 13) dX9_its_13 ?_
  obtain ⟨hi1, h⟩ := h
  refine sh_ia (pc := 14) dX9_its_14 ok_19_0 rfl hi1 ?_
  exact sh_ret_i (pc := 15) dX9_its_15 rfl ⟨rfl, rfl⟩ h

set_option maxRecDepth 100000 in
set_option maxHeartbeats 4000000 in
theorem wp_X9_lay {g : sh_G} {S : sh_S} {sz : Nat} {Q : sh_S → Prop} {a1 : Int32} {a2 : Int32} {a3 : Int32} 
    (h : (vp_in ((142 + (23 * a1)) + a2) 602 ∧ (∀ S2 : sh_S, S2 = sh_sr S (19, 0, 0) (upd (S (19, 0, 0)) (((142 + (23 * a1)) + a2).toNatClampNeg) a3) → Q S2))) :
    sh_Cu g mX9_lay [sh_R (9, 0, 0), sh_I a1, sh_I a2, sh_I a3] S sz Q := by
  refine sh_enter (ls := [(0, sh_R (9, 0, 0)), (1, sh_I a1), (2, sh_I a2), (3, sh_I a3)]) (by decide +kernel) (Nat.le_of_ble_eq_true rfl) rfl ?_
  refine sh_aload_n (pc := 0) dX9_lay_0 rfl ?_
  refine sh_gf (pc := 1) dX9_lay_1 fl_X9_7 cf_9 ok_9_0 rfl rfl ?_
  refine sh_sipush (v := 142) (pc := 4) dX9_lay_4 rfl ?_
  refine sh_bipush (v := 23) (pc := 7) dX9_lay_7 rfl ?_
  refine sh_iload_n (pc := 9) dX9_lay_9 rfl ?_
  refine sh_imul (pc := 10) dX9_lay_10 ?_
  refine sh_iadd (pc := 11) dX9_lay_11 ?_
  refine sh_iload_n (pc := 12) dX9_lay_12 rfl ?_
  refine sh_iadd (pc := 13) dX9_lay_13 ?_
  refine sh_iload_n (pc := 14) dX9_lay_14 rfl ?_
  obtain ⟨hi1, h⟩ := h
  refine sh_is (pc := 15) dX9_lay_15 ok_19_0 rfl hi1 rfl ?_
  refine sh_topS (fun S2 hS2 => ?_)
  have h := h S2 hS2
  exact sh_ret_u (pc := 16) dX9_lay_16 rfl ⟨rfl, rfl⟩ h

set_option maxRecDepth 100000 in
set_option maxHeartbeats 4000000 in
theorem wp_X9_gains {g : sh_G} {S : sh_S} {sz : Nat} {Q : sh_S → Prop} {a1 : Int32} {a2 : Int32} {a3 : Int32} 
    (h : (sh_Cu g mX9_more [sh_R (9, 0, 0), sh_I a1, sh_I a3, sh_I a2] S sz (fun S1 => (∃ (Iv2 : Int32 → Int32 → sh_S → Prop) (mu2 : Int32 → Int32 → sh_S → Nat), Iv2 a2 0 S1 ∧ ∀ (v3 : Int32) (v4 : Int32) (S5 : sh_S), Iv2 v3 v4 S5 → ((3 ≤ v4 → (sh_Cu g mX9_more [sh_R (9, 0, 0), sh_I a1, sh_I 3, sh_I v3] S5 sz (fun S7 => Q S7))) ∧ (¬ 3 ≤ v4 → (sh_Ci g mX9_of [sh_R (9, 0, 0), sh_I a1, sh_I (8 + v4)] S5 sz (fun r9 S8 => ((r9 ≤ v3 → (sh_Ci g mX9_of [sh_R (9, 0, 0), sh_I a1, sh_I (8 + v4)] S8 sz (fun r12 S11 => (sh_Cu g mX9_more [sh_R (9, 0, 0), sh_I a1, sh_I (8 + v4), sh_I (-r12)] S11 sz (fun S13 => (sh_Cu g mX9_more [sh_R (9, 0, 0), sh_I a1, sh_I (5 + v4), sh_I r12] S13 sz (fun S14 => (∀ x15 : Int32, x15 = (v3 - r12) → (∀ x16 : Int32, x16 = v4 + 1 → (Iv2 x15 x16 S14 ∧ mu2 x15 x16 S14 < mu2 v3 v4 S5)))))))))) ∧ (¬ r9 ≤ v3 → (sh_Cu g mX9_more [sh_R (9, 0, 0), sh_I a1, sh_I (8 + v4), sh_I (-v3)] S8 sz (fun S17 => (sh_Cu g mX9_more [sh_R (9, 0, 0), sh_I a1, sh_I (5 + v4), sh_I v3] S17 sz (fun S18 => (∀ x19 : Int32, x19 = (v3 - v3) → (∀ x20 : Int32, x20 = v4 + 1 → (Iv2 x19 x20 S18 ∧ mu2 x19 x20 S18 < mu2 v3 v4 S5))))))))))))))))) :
    sh_Cu g mX9_gains [sh_R (9, 0, 0), sh_I a1, sh_I a2, sh_I a3] S sz Q := by
  refine sh_enter (ls := [(0, sh_R (9, 0, 0)), (1, sh_I a1), (2, sh_I a2), (3, sh_I a3)]) (by decide +kernel) (Nat.le_of_ble_eq_true rfl) rfl ?_
  refine sh_iload_n (pc := 0) dX9_gains_0 rfl ?_
  refine sh_istore (ls' := [(4, sh_I a2), (0, sh_R (9, 0, 0)), (1, sh_I a1), (2, sh_I a2), (3, sh_I a3)]) (pc := 1) dX9_gains_1 (by decide) rfl ?_
  refine sh_aload_n (pc := 3) dX9_gains_3 rfl ?_
  refine sh_iload_n (pc := 4) dX9_gains_4 rfl ?_
  refine sh_iload_n (pc := 5) dX9_gains_5 rfl ?_
  refine sh_iload_n (pc := 6) dX9_gains_6 rfl ?_
  refine sh_cu (N := mX9_more) (pc := 7) dX9_gains_7 ml_X9_42 h mf_X9_more iv_X9_more ⟨Nat.le_of_ble_eq_true rfl, Nat.le_of_ble_eq_true rfl⟩ rfl rfl (Nat.le_of_ble_eq_true rfl) ok_9_0 rfl (show vwCl[9]? = some (RX9, TX9, 14) from rfl) rfl (fun S1 h => ?_)
  refine sh_iconst (v := 0) (pc := 10) dX9_gains_10 rfl ?_
  refine sh_istore (ls' := [(5, sh_I 0), (4, sh_I a2), (0, sh_R (9, 0, 0)), (1, sh_I a1), (2, sh_I a2), (3, sh_I a3)]) (pc := 11) dX9_gains_11 (by decide) rfl ?_
  obtain ⟨Iv2, mu2, h0, hs2⟩ := h
  refine sh_pick [2, 3, 4, 5, 1, 0] rfl ?_
  refine sh_lp3 Iv2 mu2 (fun v3 v4 S5 => sh_V g mX9_gains 0 0 13 [(0, sh_R (9, 0, 0)), (1, sh_I a1), (2, sh_I a2), (3, sh_I a3), (4, sh_I v3), (5, sh_I v4)] [] (sh_St S5) sz (sh_tu sz Q)) (fun v3 v4 S5 hI2 ih2 => ?_) _ _ _ h0
  have h := hs2 v3 v4 S5 hI2
  clear h0
  refine sh_iload (pc := 13) dX9_gains_13 rfl ?_
  refine sh_iconst (v := 3) (pc := 15) dX9_gains_15 rfl ?_
  refine sh_icmp_ge (tgt := 88) (pc := 16) dX9_gains_16 (by decide) (fun hc6 => ?_) (fun hc6 => ?_)
  · have h := h.1 hc6
    refine sh_aload_n (pc := 88) dX9_gains_88 rfl ?_
    refine sh_iload_n (pc := 89) dX9_gains_89 rfl ?_
    refine sh_iconst (v := 3) (pc := 90) dX9_gains_90 rfl ?_
    refine sh_iload (pc := 91) dX9_gains_91 rfl ?_
    refine sh_cu (N := mX9_more) (pc := 93) dX9_gains_93 ml_X9_42 h mf_X9_more iv_X9_more ⟨Nat.le_of_ble_eq_true rfl, Nat.le_of_ble_eq_true rfl⟩ rfl rfl (Nat.le_of_ble_eq_true rfl) ok_9_0 rfl (show vwCl[9]? = some (RX9, TX9, 14) from rfl) rfl (fun S7 h => ?_)
    exact sh_ret_u (pc := 96) dX9_gains_96 rfl ⟨rfl, rfl⟩ h
  · have h := h.2 hc6
    refine sh_iload (pc := 19) dX9_gains_19 rfl ?_
    refine sh_aload_n (pc := 21) dX9_gains_21 rfl ?_
    refine sh_iload_n (pc := 22) dX9_gains_22 rfl ?_
    refine sh_bipush (v := 8) (pc := 23) dX9_gains_23 rfl ?_
    refine sh_iload (pc := 25) dX9_gains_25 rfl ?_
    refine sh_iadd (pc := 27) dX9_gains_27 ?_
    refine sh_ci (N := mX9_of) (pc := 28) dX9_gains_28 ml_X9_46 h mf_X9_of iv_X9_of ⟨Nat.le_of_ble_eq_true rfl, Nat.le_of_ble_eq_true rfl⟩ rfl rfl (Nat.le_of_ble_eq_true rfl) ok_9_0 rfl (show vwCl[9]? = some (RX9, TX9, 14) from rfl) rfl (fun r9 S8 h => ?_)
    refine sh_icmp_ge (tgt := 39) (pc := 31) dX9_gains_31 (by decide) (fun hc10 => ?_) (fun hc10 => ?_)
    · have h := h.1 hc10
      refine sh_aload_n (pc := 39) dX9_gains_39 rfl ?_
      refine sh_iload_n (pc := 40) dX9_gains_40 rfl ?_
      refine sh_bipush (v := 8) (pc := 41) dX9_gains_41 rfl ?_
      refine sh_iload (pc := 43) dX9_gains_43 rfl ?_
      refine sh_iadd (pc := 45) dX9_gains_45 ?_
      refine sh_ci (N := mX9_of) (pc := 46) dX9_gains_46 ml_X9_46 h mf_X9_of iv_X9_of ⟨Nat.le_of_ble_eq_true rfl, Nat.le_of_ble_eq_true rfl⟩ rfl rfl (Nat.le_of_ble_eq_true rfl) ok_9_0 rfl (show vwCl[9]? = some (RX9, TX9, 14) from rfl) rfl (fun r12 S11 h => ?_)
      refine sh_istore (ls' := [(6, sh_I r12), (0, sh_R (9, 0, 0)), (1, sh_I a1), (2, sh_I a2), (3, sh_I a3), (4, sh_I v3), (5, sh_I v4)]) (pc := 49) dX9_gains_49 (by decide) rfl ?_
      refine sh_aload_n (pc := 51) dX9_gains_51 rfl ?_
      refine sh_iload_n (pc := 52) dX9_gains_52 rfl ?_
      refine sh_bipush (v := 8) (pc := 53) dX9_gains_53 rfl ?_
      refine sh_iload (pc := 55) dX9_gains_55 rfl ?_
      refine sh_iadd (pc := 57) dX9_gains_57 ?_
      refine sh_iload (pc := 58) dX9_gains_58 rfl ?_
      refine sh_ineg (pc := 60) dX9_gains_60 ?_
      refine sh_cu (N := mX9_more) (pc := 61) dX9_gains_61 ml_X9_42 h mf_X9_more iv_X9_more ⟨Nat.le_of_ble_eq_true rfl, Nat.le_of_ble_eq_true rfl⟩ rfl rfl (Nat.le_of_ble_eq_true rfl) ok_9_0 rfl (show vwCl[9]? = some (RX9, TX9, 14) from rfl) rfl (fun S13 h => ?_)
      refine sh_aload_n (pc := 64) dX9_gains_64 rfl ?_
      refine sh_iload_n (pc := 65) dX9_gains_65 rfl ?_
      refine sh_iconst (v := 5) (pc := 66) dX9_gains_66 rfl ?_
      refine sh_iload (pc := 67) dX9_gains_67 rfl ?_
      refine sh_iadd (pc := 69) dX9_gains_69 ?_
      refine sh_iload (pc := 70) dX9_gains_70 rfl ?_
      refine sh_cu (N := mX9_more) (pc := 72) dX9_gains_72 ml_X9_42 h mf_X9_more iv_X9_more ⟨Nat.le_of_ble_eq_true rfl, Nat.le_of_ble_eq_true rfl⟩ rfl rfl (Nat.le_of_ble_eq_true rfl) ok_9_0 rfl (show vwCl[9]? = some (RX9, TX9, 14) from rfl) rfl (fun S14 h => ?_)
      refine sh_iload (pc := 75) dX9_gains_75 rfl ?_
      refine sh_iload (pc := 77) dX9_gains_77 rfl ?_
      refine sh_isub (pc := 79) dX9_gains_79 ?_
      refine sh_topI (fun x15 hx15 => ?_)
      have h := h x15 hx15
      refine sh_istore (ls' := [(4, sh_I x15), (6, sh_I r12), (0, sh_R (9, 0, 0)), (1, sh_I a1), (2, sh_I a2), (3, sh_I a3), (5, sh_I v4)]) (pc := 80) dX9_gains_80 (by decide) rfl ?_
      obtain ⟨x16, hx16⟩ : ∃ y : Int32, y = v4 + 1 := ⟨_, rfl⟩
      have h := h x16 hx16
      refine sh_iinc (v := x16) (ls' := [(5, sh_I x16), (4, sh_I x15), (6, sh_I r12), (0, sh_R (9, 0, 0)), (1, sh_I a1), (2, sh_I a2), (3, sh_I a3)]) (pc := 82) dX9_gains_82 rfl hx16.symm (by decide) rfl ?_
      refine sh_goto (tgt := 13) (pc := 85) dX9_gains_85 (by decide) ?_
      refine sh_pick [3, 4, 5, 6, 1, 0] rfl ?_
      exact ih2 _ _ _ h.1 h.2
    · have h := h.2 hc10
      refine sh_iload (pc := 34) dX9_gains_34 rfl ?_
      refine sh_goto (tgt := 49) (pc := 36) dX9_gains_36 (by decide) ?_
      refine sh_istore (ls' := [(6, sh_I v3), (0, sh_R (9, 0, 0)), (1, sh_I a1), (2, sh_I a2), (3, sh_I a3), (4, sh_I v3), (5, sh_I v4)]) (pc := 49) dX9_gains_49 (by decide) rfl ?_
      refine sh_aload_n (pc := 51) dX9_gains_51 rfl ?_
      refine sh_iload_n (pc := 52) dX9_gains_52 rfl ?_
      refine sh_bipush (v := 8) (pc := 53) dX9_gains_53 rfl ?_
      refine sh_iload (pc := 55) dX9_gains_55 rfl ?_
      refine sh_iadd (pc := 57) dX9_gains_57 ?_
      refine sh_iload (pc := 58) dX9_gains_58 rfl ?_
      refine sh_ineg (pc := 60) dX9_gains_60 ?_
      refine sh_cu (N := mX9_more) (pc := 61) dX9_gains_61 ml_X9_42 h mf_X9_more iv_X9_more ⟨Nat.le_of_ble_eq_true rfl, Nat.le_of_ble_eq_true rfl⟩ rfl rfl (Nat.le_of_ble_eq_true rfl) ok_9_0 rfl (show vwCl[9]? = some (RX9, TX9, 14) from rfl) rfl (fun S17 h => ?_)
      refine sh_aload_n (pc := 64) dX9_gains_64 rfl ?_
      refine sh_iload_n (pc := 65) dX9_gains_65 rfl ?_
      refine sh_iconst (v := 5) (pc := 66) dX9_gains_66 rfl ?_
      refine sh_iload (pc := 67) dX9_gains_67 rfl ?_
      refine sh_iadd (pc := 69) dX9_gains_69 ?_
      refine sh_iload (pc := 70) dX9_gains_70 rfl ?_
      refine sh_cu (N := mX9_more) (pc := 72) dX9_gains_72 ml_X9_42 h mf_X9_more iv_X9_more ⟨Nat.le_of_ble_eq_true rfl, Nat.le_of_ble_eq_true rfl⟩ rfl rfl (Nat.le_of_ble_eq_true rfl) ok_9_0 rfl (show vwCl[9]? = some (RX9, TX9, 14) from rfl) rfl (fun S18 h => ?_)
      refine sh_iload (pc := 75) dX9_gains_75 rfl ?_
      refine sh_iload (pc := 77) dX9_gains_77 rfl ?_
      refine sh_isub (pc := 79) dX9_gains_79 ?_
      refine sh_topI (fun x19 hx19 => ?_)
      have h := h x19 hx19
      refine sh_istore (ls' := [(4, sh_I x19), (6, sh_I v3), (0, sh_R (9, 0, 0)), (1, sh_I a1), (2, sh_I a2), (3, sh_I a3), (5, sh_I v4)]) (pc := 80) dX9_gains_80 (by decide) rfl ?_
      obtain ⟨x20, hx20⟩ : ∃ y : Int32, y = v4 + 1 := ⟨_, rfl⟩
      have h := h x20 hx20
      refine sh_iinc (v := x20) (ls' := [(5, sh_I x20), (4, sh_I x19), (6, sh_I v3), (0, sh_R (9, 0, 0)), (1, sh_I a1), (2, sh_I a2), (3, sh_I a3)]) (pc := 82) dX9_gains_82 rfl hx20.symm (by decide) rfl ?_
      refine sh_goto (tgt := 13) (pc := 85) dX9_gains_85 (by decide) ?_
      refine sh_pick [3, 4, 5, 6, 1, 0] rfl ?_
      exact ih2 _ _ _ h.1 h.2

set_option maxRecDepth 100000 in
set_option maxHeartbeats 4000000 in
theorem wp_X9_charges {g : sh_G} {S : sh_S} {sz : Nat} {Q : sh_S → Prop} {a1 : Int32} {a2 : Int32} {a3 : Int32} 
    (h : (sh_Ci g mX9_of [sh_R (9, 0, 0), sh_I a1, sh_I 3] S sz (fun r2 S1 => ((r2 ≤ a2 → (sh_Ci g mX9_of [sh_R (9, 0, 0), sh_I a1, sh_I 3] S1 sz (fun r5 S4 => (sh_Cu g mX9_more [sh_R (9, 0, 0), sh_I a1, sh_I 3, sh_I (-r5)] S4 sz (fun S6 => (sh_Cu g mX9_more [sh_R (9, 0, 0), sh_I a1, sh_I (5 + a3), sh_I r5] S6 sz (fun S7 => (sh_Cu g mX9_more [sh_R (9, 0, 0), sh_I a1, sh_I (8 + a3), sh_I (a2 - r5)] S7 sz (fun S8 => Q S8))))))))) ∧ (¬ r2 ≤ a2 → (sh_Cu g mX9_more [sh_R (9, 0, 0), sh_I a1, sh_I 3, sh_I (-a2)] S1 sz (fun S9 => (sh_Cu g mX9_more [sh_R (9, 0, 0), sh_I a1, sh_I (5 + a3), sh_I a2] S9 sz (fun S10 => (sh_Cu g mX9_more [sh_R (9, 0, 0), sh_I a1, sh_I (8 + a3), sh_I (a2 - a2)] S10 sz (fun S11 => Q S11))))))))))) :
    sh_Cu g mX9_charges [sh_R (9, 0, 0), sh_I a1, sh_I a2, sh_I a3] S sz Q := by
  refine sh_enter (ls := [(0, sh_R (9, 0, 0)), (1, sh_I a1), (2, sh_I a2), (3, sh_I a3)]) (by decide +kernel) (Nat.le_of_ble_eq_true rfl) rfl ?_
  refine sh_iload_n (pc := 0) dX9_charges_0 rfl ?_
  refine sh_aload_n (pc := 1) dX9_charges_1 rfl ?_
  refine sh_iload_n (pc := 2) dX9_charges_2 rfl ?_
  refine sh_iconst (v := 3) (pc := 3) dX9_charges_3 rfl ?_
  refine sh_ci (N := mX9_of) (pc := 4) dX9_charges_4 ml_X9_46 h mf_X9_of iv_X9_of ⟨Nat.le_of_ble_eq_true rfl, Nat.le_of_ble_eq_true rfl⟩ rfl rfl (Nat.le_of_ble_eq_true rfl) ok_9_0 rfl (show vwCl[9]? = some (RX9, TX9, 14) from rfl) rfl (fun r2 S1 h => ?_)
  refine sh_icmp_ge (tgt := 14) (pc := 7) dX9_charges_7 (by decide) (fun hc3 => ?_) (fun hc3 => ?_)
  · have h := h.1 hc3
    refine sh_aload_n (pc := 14) dX9_charges_14 rfl ?_
    refine sh_iload_n (pc := 15) dX9_charges_15 rfl ?_
    refine sh_iconst (v := 3) (pc := 16) dX9_charges_16 rfl ?_
    refine sh_ci (N := mX9_of) (pc := 17) dX9_charges_17 ml_X9_46 h mf_X9_of iv_X9_of ⟨Nat.le_of_ble_eq_true rfl, Nat.le_of_ble_eq_true rfl⟩ rfl rfl (Nat.le_of_ble_eq_true rfl) ok_9_0 rfl (show vwCl[9]? = some (RX9, TX9, 14) from rfl) rfl (fun r5 S4 h => ?_)
    refine sh_istore (ls' := [(4, sh_I r5), (0, sh_R (9, 0, 0)), (1, sh_I a1), (2, sh_I a2), (3, sh_I a3)]) (pc := 20) dX9_charges_20 (by decide) rfl ?_
    refine sh_aload_n (pc := 22) dX9_charges_22 rfl ?_
    refine sh_iload_n (pc := 23) dX9_charges_23 rfl ?_
    refine sh_iconst (v := 3) (pc := 24) dX9_charges_24 rfl ?_
    refine sh_iload (pc := 25) dX9_charges_25 rfl ?_
    refine sh_ineg (pc := 27) dX9_charges_27 ?_
    refine sh_cu (N := mX9_more) (pc := 28) dX9_charges_28 ml_X9_42 h mf_X9_more iv_X9_more ⟨Nat.le_of_ble_eq_true rfl, Nat.le_of_ble_eq_true rfl⟩ rfl rfl (Nat.le_of_ble_eq_true rfl) ok_9_0 rfl (show vwCl[9]? = some (RX9, TX9, 14) from rfl) rfl (fun S6 h => ?_)
    refine sh_aload_n (pc := 31) dX9_charges_31 rfl ?_
    refine sh_iload_n (pc := 32) dX9_charges_32 rfl ?_
    refine sh_iconst (v := 5) (pc := 33) dX9_charges_33 rfl ?_
    refine sh_iload_n (pc := 34) dX9_charges_34 rfl ?_
    refine sh_iadd (pc := 35) dX9_charges_35 ?_
    refine sh_iload (pc := 36) dX9_charges_36 rfl ?_
    refine sh_cu (N := mX9_more) (pc := 38) dX9_charges_38 ml_X9_42 h mf_X9_more iv_X9_more ⟨Nat.le_of_ble_eq_true rfl, Nat.le_of_ble_eq_true rfl⟩ rfl rfl (Nat.le_of_ble_eq_true rfl) ok_9_0 rfl (show vwCl[9]? = some (RX9, TX9, 14) from rfl) rfl (fun S7 h => ?_)
    refine sh_aload_n (pc := 41) dX9_charges_41 rfl ?_
    refine sh_iload_n (pc := 42) dX9_charges_42 rfl ?_
    refine sh_bipush (v := 8) (pc := 43) dX9_charges_43 rfl ?_
    refine sh_iload_n (pc := 45) dX9_charges_45 rfl ?_
    refine sh_iadd (pc := 46) dX9_charges_46 ?_
    refine sh_iload_n (pc := 47) dX9_charges_47 rfl ?_
    refine sh_iload (pc := 48) dX9_charges_48 rfl ?_
    refine sh_isub (pc := 50) dX9_charges_50 ?_
    refine sh_cu (N := mX9_more) (pc := 51) dX9_charges_51 ml_X9_42 h mf_X9_more iv_X9_more ⟨Nat.le_of_ble_eq_true rfl, Nat.le_of_ble_eq_true rfl⟩ rfl rfl (Nat.le_of_ble_eq_true rfl) ok_9_0 rfl (show vwCl[9]? = some (RX9, TX9, 14) from rfl) rfl (fun S8 h => ?_)
    exact sh_ret_u (pc := 54) dX9_charges_54 rfl ⟨rfl, rfl⟩ h
  · have h := h.2 hc3
    refine sh_iload_n (pc := 10) dX9_charges_10 rfl ?_
    refine sh_goto (tgt := 20) (pc := 11) dX9_charges_11 (by decide) ?_
    refine sh_istore (ls' := [(4, sh_I a2), (0, sh_R (9, 0, 0)), (1, sh_I a1), (2, sh_I a2), (3, sh_I a3)]) (pc := 20) dX9_charges_20 (by decide) rfl ?_
    refine sh_aload_n (pc := 22) dX9_charges_22 rfl ?_
    refine sh_iload_n (pc := 23) dX9_charges_23 rfl ?_
    refine sh_iconst (v := 3) (pc := 24) dX9_charges_24 rfl ?_
    refine sh_iload (pc := 25) dX9_charges_25 rfl ?_
    refine sh_ineg (pc := 27) dX9_charges_27 ?_
    refine sh_cu (N := mX9_more) (pc := 28) dX9_charges_28 ml_X9_42 h mf_X9_more iv_X9_more ⟨Nat.le_of_ble_eq_true rfl, Nat.le_of_ble_eq_true rfl⟩ rfl rfl (Nat.le_of_ble_eq_true rfl) ok_9_0 rfl (show vwCl[9]? = some (RX9, TX9, 14) from rfl) rfl (fun S9 h => ?_)
    refine sh_aload_n (pc := 31) dX9_charges_31 rfl ?_
    refine sh_iload_n (pc := 32) dX9_charges_32 rfl ?_
    refine sh_iconst (v := 5) (pc := 33) dX9_charges_33 rfl ?_
    refine sh_iload_n (pc := 34) dX9_charges_34 rfl ?_
    refine sh_iadd (pc := 35) dX9_charges_35 ?_
    refine sh_iload (pc := 36) dX9_charges_36 rfl ?_
    refine sh_cu (N := mX9_more) (pc := 38) dX9_charges_38 ml_X9_42 h mf_X9_more iv_X9_more ⟨Nat.le_of_ble_eq_true rfl, Nat.le_of_ble_eq_true rfl⟩ rfl rfl (Nat.le_of_ble_eq_true rfl) ok_9_0 rfl (show vwCl[9]? = some (RX9, TX9, 14) from rfl) rfl (fun S10 h => ?_)
    refine sh_aload_n (pc := 41) dX9_charges_41 rfl ?_
    refine sh_iload_n (pc := 42) dX9_charges_42 rfl ?_
    refine sh_bipush (v := 8) (pc := 43) dX9_charges_43 rfl ?_
    refine sh_iload_n (pc := 45) dX9_charges_45 rfl ?_
    refine sh_iadd (pc := 46) dX9_charges_46 ?_
    refine sh_iload_n (pc := 47) dX9_charges_47 rfl ?_
    refine sh_iload (pc := 48) dX9_charges_48 rfl ?_
    refine sh_isub (pc := 50) dX9_charges_50 ?_
    refine sh_cu (N := mX9_more) (pc := 51) dX9_charges_51 ml_X9_42 h mf_X9_more iv_X9_more ⟨Nat.le_of_ble_eq_true rfl, Nat.le_of_ble_eq_true rfl⟩ rfl rfl (Nat.le_of_ble_eq_true rfl) ok_9_0 rfl (show vwCl[9]? = some (RX9, TX9, 14) from rfl) rfl (fun S11 h => ?_)
    exact sh_ret_u (pc := 54) dX9_charges_54 rfl ⟨rfl, rfl⟩ h

set_option maxRecDepth 100000 in
set_option maxHeartbeats 4000000 in
theorem wp_X9_shares {g : sh_G} {S : sh_S} {sz : Nat} {Q : Int32 → sh_S → Prop} {a1 : Int32} {a2 : Int32} 
    (h : (((S (19, 0, 0) 8) ≤ a1 → Q 0 S) ∧ (¬ (S (19, 0, 0) 8) ≤ a1 → ((a1 = a2 → Q 0 S) ∧ (¬ a1 = a2 → (sh_Ci g mX9_of [sh_R (9, 0, 0), sh_I a1, sh_I 0] S sz (fun r5 S4 => ((r5 = 2 → Q 0 S4) ∧ (¬ r5 = 2 → Q 1 S4))))))))) :
    sh_Ci g mX9_shares [sh_R (9, 0, 0), sh_I a1, sh_I a2] S sz Q := by
  refine sh_enter (ls := [(0, sh_R (9, 0, 0)), (1, sh_I a1), (2, sh_I a2)]) (by decide +kernel) (Nat.le_of_ble_eq_true rfl) rfl ?_
  refine sh_iload_n (pc := 0) dX9_shares_0 rfl ?_
  refine sh_aload_n (pc := 1) dX9_shares_1 rfl ?_
  refine sh_gf (pc := 2) dX9_shares_2 fl_X9_7 cf_9 ok_9_0 rfl rfl ?_
  refine sh_bipush (v := 8) (pc := 5) dX9_shares_5 rfl ?_
  refine sh_ia (pc := 7) dX9_shares_7 ok_19_0 rfl (vp_in_iff.mpr ⟨by decide, by decide⟩) ?_
  refine sh_icmp_ge (tgt := 30) (pc := 8) dX9_shares_8 (by decide) (fun hc2 => ?_) (fun hc2 => ?_)
  · have h := h.1 hc2
    refine sh_iconst (v := 0) (pc := 30) dX9_shares_30 rfl ?_
    exact sh_ret_z (pc := 31) dX9_shares_31 rfl rfl ⟨rfl, rfl⟩ h
  · have h := h.2 hc2
    refine sh_iload_n (pc := 11) dX9_shares_11 rfl ?_
    refine sh_iload_n (pc := 12) dX9_shares_12 rfl ?_
    refine sh_icmp_eq (tgt := 30) (pc := 13) dX9_shares_13 (by decide) (fun hc3 => ?_) (fun hc3 => ?_)
    · have h := h.1 hc3
      refine sh_iconst (v := 0) (pc := 30) dX9_shares_30 rfl ?_
      exact sh_ret_z (pc := 31) dX9_shares_31 rfl rfl ⟨rfl, rfl⟩ h
    · have h := h.2 hc3
      refine sh_aload_n (pc := 16) dX9_shares_16 rfl ?_
      refine sh_iload_n (pc := 17) dX9_shares_17 rfl ?_
      refine sh_iconst (v := 0) (pc := 18) dX9_shares_18 rfl ?_
      refine sh_ci (N := mX9_of) (pc := 19) dX9_shares_19 ml_X9_46 h mf_X9_of iv_X9_of ⟨Nat.le_of_ble_eq_true rfl, Nat.le_of_ble_eq_true rfl⟩ rfl rfl (Nat.le_of_ble_eq_true rfl) ok_9_0 rfl (show vwCl[9]? = some (RX9, TX9, 14) from rfl) rfl (fun r5 S4 h => ?_)
      refine sh_iconst (v := 2) (pc := 22) dX9_shares_22 rfl ?_
      refine sh_icmp_eq (tgt := 30) (pc := 23) dX9_shares_23 (by decide) (fun hc6 => ?_) (fun hc6 => ?_)
      · have h := h.1 hc6
        refine sh_iconst (v := 0) (pc := 30) dX9_shares_30 rfl ?_
        exact sh_ret_z (pc := 31) dX9_shares_31 rfl rfl ⟨rfl, rfl⟩ h
      · have h := h.2 hc6
        refine sh_iconst (v := 1) (pc := 26) dX9_shares_26 rfl ?_
        refine sh_goto (tgt := 31) (pc := 27) dX9_shares_27 (by decide) ?_
        exact sh_ret_z (pc := 31) dX9_shares_31 rfl rfl ⟨rfl, rfl⟩ h

set_option maxRecDepth 100000 in
set_option maxHeartbeats 4000000 in
theorem wp_X9_sharing {g : sh_G} {S : sh_S} {sz : Nat} {Q : Int32 → sh_S → Prop} {a1 : Int32} 
    (h : (∃ (Iv1 : Int32 → Int32 → sh_S → Prop) (mu1 : Int32 → Int32 → sh_S → Nat), Iv1 0 0 S ∧ ∀ (v2 : Int32) (v3 : Int32) (S4 : sh_S), Iv1 v2 v3 S4 → (((S4 (19, 0, 0) 8) ≤ v3 → Q v2 S4) ∧ (¬ (S4 (19, 0, 0) 8) ≤ v3 → (sh_Ci g mX9_shares [sh_R (9, 0, 0), sh_I v3, sh_I a1] S4 sz (fun r8 S7 => ((r8 = 0 → (∀ x10 : Int32, x10 = (v2 + 0) → (∀ x11 : Int32, x11 = v3 + 1 → (Iv1 x10 x11 S7 ∧ mu1 x10 x11 S7 < mu1 v2 v3 S4)))) ∧ (¬ r8 = 0 → (∀ x12 : Int32, x12 = (v2 + 1) → (∀ x13 : Int32, x13 = v3 + 1 → (Iv1 x12 x13 S7 ∧ mu1 x12 x13 S7 < mu1 v2 v3 S4))))))))))) :
    sh_Ci g mX9_sharing [sh_R (9, 0, 0), sh_I a1] S sz Q := by
  refine sh_enter (ls := [(0, sh_R (9, 0, 0)), (1, sh_I a1)]) (by decide +kernel) (Nat.le_of_ble_eq_true rfl) rfl ?_
  refine sh_iconst (v := 0) (pc := 0) dX9_sharing_0 rfl ?_
  refine sh_istore_n (ls' := [(2, sh_I 0), (0, sh_R (9, 0, 0)), (1, sh_I a1)]) (pc := 1) dX9_sharing_1 (by decide) rfl ?_
  refine sh_iconst (v := 0) (pc := 2) dX9_sharing_2 rfl ?_
  refine sh_istore_n (ls' := [(3, sh_I 0), (2, sh_I 0), (0, sh_R (9, 0, 0)), (1, sh_I a1)]) (pc := 3) dX9_sharing_3 (by decide) rfl ?_
  obtain ⟨Iv1, mu1, h0, hs1⟩ := h
  refine sh_pick [2, 3, 1, 0] rfl ?_
  refine sh_lp3 Iv1 mu1 (fun v2 v3 S4 => sh_V g mX9_sharing 0 0 4 [(0, sh_R (9, 0, 0)), (1, sh_I a1), (2, sh_I v2), (3, sh_I v3)] [] (sh_St S4) sz (sh_ti sz Q)) (fun v2 v3 S4 hI1 ih1 => ?_) _ _ _ h0
  have h := hs1 v2 v3 S4 hI1
  clear h0
  refine sh_iload_n (pc := 4) dX9_sharing_4 rfl ?_
  refine sh_aload_n (pc := 5) dX9_sharing_5 rfl ?_
  refine sh_gf (pc := 6) dX9_sharing_6 fl_X9_7 cf_9 ok_9_0 rfl rfl ?_
  refine sh_bipush (v := 8) (pc := 9) dX9_sharing_9 rfl ?_
  refine sh_ia (pc := 11) dX9_sharing_11 ok_19_0 rfl (vp_in_iff.mpr ⟨by decide, by decide⟩) ?_
  refine sh_icmp_ge (tgt := 38) (pc := 12) dX9_sharing_12 (by decide) (fun hc6 => ?_) (fun hc6 => ?_)
  · have h := h.1 hc6
    refine sh_iload_n (pc := 38) dX9_sharing_38 rfl ?_
    exact sh_ret_i (pc := 39) dX9_sharing_39 rfl ⟨rfl, rfl⟩ h
  · have h := h.2 hc6
    refine sh_iload_n (pc := 15) dX9_sharing_15 rfl ?_
    refine sh_aload_n (pc := 16) dX9_sharing_16 rfl ?_
    refine sh_iload_n (pc := 17) dX9_sharing_17 rfl ?_
    refine sh_iload_n (pc := 18) dX9_sharing_18 rfl ?_
    refine sh_ci (N := mX9_shares) (pc := 19) dX9_sharing_19 ml_X9_50 h mf_X9_shares iv_X9_shares ⟨Nat.le_of_ble_eq_true rfl, Nat.le_of_ble_eq_true rfl⟩ rfl rfl (Nat.le_of_ble_eq_true rfl) ok_9_0 rfl (show vwCl[9]? = some (RX9, TX9, 14) from rfl) rfl (fun r8 S7 h => ?_)
    refine sh_if_eq (tgt := 29) (pc := 22) dX9_sharing_22 (by decide) (fun hc9 => ?_) (fun hc9 => ?_)
    · have h := h.1 hc9
      refine sh_iconst (v := 0) (pc := 29) dX9_sharing_29 rfl ?_
      refine sh_iadd (pc := 30) dX9_sharing_30 ?_
      refine sh_topI (fun x10 hx10 => ?_)
      have h := h x10 hx10
      refine sh_istore_n (ls' := [(2, sh_I x10), (0, sh_R (9, 0, 0)), (1, sh_I a1), (3, sh_I v3)]) (pc := 31) dX9_sharing_31 (by decide) rfl ?_
      obtain ⟨x11, hx11⟩ : ∃ y : Int32, y = v3 + 1 := ⟨_, rfl⟩
      have h := h x11 hx11
      refine sh_iinc (v := x11) (ls' := [(3, sh_I x11), (2, sh_I x10), (0, sh_R (9, 0, 0)), (1, sh_I a1)]) (pc := 32) dX9_sharing_32 rfl hx11.symm (by decide) rfl ?_
      refine sh_goto (tgt := 4) (pc := 35) dX9_sharing_35 (by decide) ?_
      refine sh_pick [2, 3, 1, 0] rfl ?_
      exact ih1 _ _ _ h.1 h.2
    · have h := h.2 hc9
      refine sh_iconst (v := 1) (pc := 25) dX9_sharing_25 rfl ?_
      refine sh_goto (tgt := 30) (pc := 26) dX9_sharing_26 (by decide) ?_
      refine sh_iadd (pc := 30) dX9_sharing_30 ?_
      refine sh_topI (fun x12 hx12 => ?_)
      have h := h x12 hx12
      refine sh_istore_n (ls' := [(2, sh_I x12), (0, sh_R (9, 0, 0)), (1, sh_I a1), (3, sh_I v3)]) (pc := 31) dX9_sharing_31 (by decide) rfl ?_
      obtain ⟨x13, hx13⟩ : ∃ y : Int32, y = v3 + 1 := ⟨_, rfl⟩
      have h := h x13 hx13
      refine sh_iinc (v := x13) (ls' := [(3, sh_I x13), (2, sh_I x12), (0, sh_R (9, 0, 0)), (1, sh_I a1)]) (pc := 32) dX9_sharing_32 rfl hx13.symm (by decide) rfl ?_
      refine sh_goto (tgt := 4) (pc := 35) dX9_sharing_35 (by decide) ?_
      refine sh_pick [2, 3, 1, 0] rfl ?_
      exact ih1 _ _ _ h.1 h.2

set_option maxRecDepth 100000 in
set_option maxHeartbeats 4000000 in
theorem wp_X9_shared {g : sh_G} {S : sh_S} {sz : Nat} {Q : sh_S → Prop} {a1 : Int32} {a2 : Int32} {a3 : Int32} 
    (h : (sh_Ci g mX9_sharing [sh_R (9, 0, 0), sh_I a2] S sz (fun r2 S1 => (¬ r2 = 0 ∧ (∀ x4 : Int32, x4 = (a1 - (a1 / r2) * r2) → (∀ x6 : Int32, x6 = (S1 (19, 0, 0) 10) → (∃ (Iv7 : Int32 → Int32 → sh_S → Prop) (mu7 : Int32 → Int32 → sh_S → Nat), Iv7 x4 0 S1 ∧ ∀ (v8 : Int32) (v9 : Int32) (S10 : sh_S), Iv7 v8 v9 S10 → ((10 ≤ v9 → Q S10) ∧ (¬ 10 ≤ v9 → (∀ x12 : Int32, x12 = ((x6 + v9) - ((x6 + v9) / 10) * 10) → (sh_Ci g mX9_shares [sh_R (9, 0, 0), sh_I x12, sh_I a2] S10 sz (fun r14 S13 => ((r14 = 0 → (∀ x16 : Int32, x16 = v9 + 1 → (Iv7 v8 x16 S13 ∧ mu7 v8 x16 S13 < mu7 v8 v9 S10))) ∧ (¬ r14 = 0 → (¬ r2 = 0 ∧ ((v8 ≤ 0 → (∀ x19 : Int32, x19 = ((a1 / r2) + 0) → ((v8 ≤ 0 → (∀ S23 : sh_S, S23 = sh_sr S13 (19, 0, 0) (upd (S13 (19, 0, 0)) 10 (S13 (19, 0, 0) 10)) → (∀ x24 : Int32, x24 = v8 + (-1) → ((0 ≤ a3 → (sh_Cu g mX9_charges [sh_R (9, 0, 0), sh_I x12, sh_I x19, sh_I a3] S23 sz (fun S26 => (∀ x27 : Int32, x27 = v9 + 1 → (Iv7 x24 x27 S26 ∧ mu7 x24 x27 S26 < mu7 v8 v9 S10))))) ∧ (¬ 0 ≤ a3 → (sh_Cu g mX9_gains [sh_R (9, 0, 0), sh_I x12, sh_I x19, sh_I 2] S23 sz (fun S28 => (∀ x29 : Int32, x29 = v9 + 1 → (Iv7 x24 x29 S28 ∧ mu7 x24 x29 S28 < mu7 v8 v9 S10))))))))) ∧ (¬ v8 ≤ 0 → (∀ S31 : sh_S, S31 = sh_sr S13 (19, 0, 0) (upd (S13 (19, 0, 0)) 10 ((x12 + 1) - ((x12 + 1) / 10) * 10)) → (∀ x32 : Int32, x32 = v8 + (-1) → ((0 ≤ a3 → (sh_Cu g mX9_charges [sh_R (9, 0, 0), sh_I x12, sh_I x19, sh_I a3] S31 sz (fun S34 => (∀ x35 : Int32, x35 = v9 + 1 → (Iv7 x32 x35 S34 ∧ mu7 x32 x35 S34 < mu7 v8 v9 S10))))) ∧ (¬ 0 ≤ a3 → (sh_Cu g mX9_gains [sh_R (9, 0, 0), sh_I x12, sh_I x19, sh_I 2] S31 sz (fun S36 => (∀ x37 : Int32, x37 = v9 + 1 → (Iv7 x32 x37 S36 ∧ mu7 x32 x37 S36 < mu7 v8 v9 S10)))))))))))) ∧ (¬ v8 ≤ 0 → (∀ x38 : Int32, x38 = ((a1 / r2) + 1) → ((v8 ≤ 0 → (∀ S42 : sh_S, S42 = sh_sr S13 (19, 0, 0) (upd (S13 (19, 0, 0)) 10 (S13 (19, 0, 0) 10)) → (∀ x43 : Int32, x43 = v8 + (-1) → ((0 ≤ a3 → (sh_Cu g mX9_charges [sh_R (9, 0, 0), sh_I x12, sh_I x38, sh_I a3] S42 sz (fun S45 => (∀ x46 : Int32, x46 = v9 + 1 → (Iv7 x43 x46 S45 ∧ mu7 x43 x46 S45 < mu7 v8 v9 S10))))) ∧ (¬ 0 ≤ a3 → (sh_Cu g mX9_gains [sh_R (9, 0, 0), sh_I x12, sh_I x38, sh_I 2] S42 sz (fun S47 => (∀ x48 : Int32, x48 = v9 + 1 → (Iv7 x43 x48 S47 ∧ mu7 x43 x48 S47 < mu7 v8 v9 S10))))))))) ∧ (¬ v8 ≤ 0 → (∀ S50 : sh_S, S50 = sh_sr S13 (19, 0, 0) (upd (S13 (19, 0, 0)) 10 ((x12 + 1) - ((x12 + 1) / 10) * 10)) → (∀ x51 : Int32, x51 = v8 + (-1) → ((0 ≤ a3 → (sh_Cu g mX9_charges [sh_R (9, 0, 0), sh_I x12, sh_I x38, sh_I a3] S50 sz (fun S53 => (∀ x54 : Int32, x54 = v9 + 1 → (Iv7 x51 x54 S53 ∧ mu7 x51 x54 S53 < mu7 v8 v9 S10))))) ∧ (¬ 0 ≤ a3 → (sh_Cu g mX9_gains [sh_R (9, 0, 0), sh_I x12, sh_I x38, sh_I 2] S50 sz (fun S55 => (∀ x56 : Int32, x56 = v9 + 1 → (Iv7 x51 x56 S55 ∧ mu7 x51 x56 S55 < mu7 v8 v9 S10)))))))))))))))))))))))))))) :
    sh_Cu g mX9_shared [sh_R (9, 0, 0), sh_I a1, sh_I a2, sh_I a3] S sz Q := by
  refine sh_enter (ls := [(0, sh_R (9, 0, 0)), (1, sh_I a1), (2, sh_I a2), (3, sh_I a3)]) (by decide +kernel) (Nat.le_of_ble_eq_true rfl) rfl ?_
  refine sh_aload_n (pc := 0) dX9_shared_0 rfl ?_
  refine sh_iload_n (pc := 1) dX9_shared_1 rfl ?_
  refine sh_ci (N := mX9_sharing) (pc := 2) dX9_shared_2 ml_X9_54 h mf_X9_sharing iv_X9_sharing ⟨Nat.le_of_ble_eq_true rfl, Nat.le_of_ble_eq_true rfl⟩ rfl rfl (Nat.le_of_ble_eq_true rfl) ok_9_0 rfl (show vwCl[9]? = some (RX9, TX9, 14) from rfl) rfl (fun r2 S1 h => ?_)
  refine sh_istore (ls' := [(4, sh_I r2), (0, sh_R (9, 0, 0)), (1, sh_I a1), (2, sh_I a2), (3, sh_I a3)]) (pc := 5) dX9_shared_5 (by decide) rfl ?_
  refine sh_iload_n (pc := 7) dX9_shared_7 rfl ?_
  refine sh_iload (pc := 8) dX9_shared_8 rfl ?_
  obtain ⟨hd3, h⟩ := h
  refine sh_irem (pc := 10) dX9_shared_10 hd3 ?_
  refine sh_topI (fun x4 hx4 => ?_)
  have h := h x4 hx4
  refine sh_istore (ls' := [(5, sh_I x4), (4, sh_I r2), (0, sh_R (9, 0, 0)), (1, sh_I a1), (2, sh_I a2), (3, sh_I a3)]) (pc := 11) dX9_shared_11 (by decide) rfl ?_
  refine sh_aload_n (pc := 13) dX9_shared_13 rfl ?_
  refine sh_gf (pc := 14) dX9_shared_14 fl_X9_7 cf_9 ok_9_0 rfl rfl ?_
  refine sh_bipush (v := 10) (pc := 17) dX9_shared_17 rfl ?_
  refine sh_ia (pc := 19) dX9_shared_19 ok_19_0 rfl (vp_in_iff.mpr ⟨by decide, by decide⟩) ?_
  refine sh_topI (fun x6 hx6 => ?_)
  have h := h x6 hx6
  refine sh_istore (ls' := [(6, sh_I x6), (5, sh_I x4), (4, sh_I r2), (0, sh_R (9, 0, 0)), (1, sh_I a1), (2, sh_I a2), (3, sh_I a3)]) (pc := 20) dX9_shared_20 (by decide) rfl ?_
  refine sh_iconst (v := 0) (pc := 22) dX9_shared_22 rfl ?_
  refine sh_istore (ls' := [(7, sh_I 0), (6, sh_I x6), (5, sh_I x4), (4, sh_I r2), (0, sh_R (9, 0, 0)), (1, sh_I a1), (2, sh_I a2), (3, sh_I a3)]) (pc := 23) dX9_shared_23 (by decide) rfl ?_
  obtain ⟨Iv7, mu7, h0, hs7⟩ := h
  refine sh_pick [4, 5, 6, 7, 3, 2, 1, 0] rfl ?_
  refine sh_lp3 Iv7 mu7 (fun v8 v9 S10 => sh_V g mX9_shared 0 0 25 [(0, sh_R (9, 0, 0)), (1, sh_I a1), (2, sh_I a2), (3, sh_I a3), (4, sh_I r2), (5, sh_I v8), (6, sh_I x6), (7, sh_I v9)] [] (sh_St S10) sz (sh_tu sz Q)) (fun v8 v9 S10 hI7 ih7 => ?_) _ _ _ h0
  have h := hs7 v8 v9 S10 hI7
  clear h0
  refine sh_iload (pc := 25) dX9_shared_25 rfl ?_
  refine sh_bipush (v := 10) (pc := 27) dX9_shared_27 rfl ?_
  refine sh_icmp_ge (tgt := 132) (pc := 29) dX9_shared_29 (by decide) (fun hc11 => ?_) (fun hc11 => ?_)
  · have h := h.1 hc11
    exact sh_ret_u (pc := 132) dX9_shared_132 rfl ⟨rfl, rfl⟩ h
  · have h := h.2 hc11
    refine sh_iload (pc := 32) dX9_shared_32 rfl ?_
    refine sh_iload (pc := 34) dX9_shared_34 rfl ?_
    refine sh_iadd (pc := 36) dX9_shared_36 ?_
    refine sh_bipush (v := 10) (pc := 37) dX9_shared_37 rfl ?_
    refine sh_irem (pc := 39) dX9_shared_39 (by decide) ?_
    refine sh_topI (fun x12 hx12 => ?_)
    have h := h x12 hx12
    refine sh_istore (ls' := [(8, sh_I x12), (0, sh_R (9, 0, 0)), (1, sh_I a1), (2, sh_I a2), (3, sh_I a3), (4, sh_I r2), (5, sh_I v8), (6, sh_I x6), (7, sh_I v9)]) (pc := 40) dX9_shared_40 (by decide) rfl ?_
    refine sh_aload_n (pc := 42) dX9_shared_42 rfl ?_
    refine sh_iload (pc := 43) dX9_shared_43 rfl ?_
    refine sh_iload_n (pc := 45) dX9_shared_45 rfl ?_
    refine sh_ci (N := mX9_shares) (pc := 46) dX9_shared_46 ml_X9_50 h mf_X9_shares iv_X9_shares ⟨Nat.le_of_ble_eq_true rfl, Nat.le_of_ble_eq_true rfl⟩ rfl rfl (Nat.le_of_ble_eq_true rfl) ok_9_0 rfl (show vwCl[9]? = some (RX9, TX9, 14) from rfl) rfl (fun r14 S13 h => ?_)
    refine sh_if_eq (tgt := 126) (pc := 49) dX9_shared_49 (by decide) (fun hc15 => ?_) (fun hc15 => ?_)
    · have h := h.1 hc15
      obtain ⟨x16, hx16⟩ : ∃ y : Int32, y = v9 + 1 := ⟨_, rfl⟩
      have h := h x16 hx16
      refine sh_iinc (v := x16) (ls' := [(7, sh_I x16), (8, sh_I x12), (0, sh_R (9, 0, 0)), (1, sh_I a1), (2, sh_I a2), (3, sh_I a3), (4, sh_I r2), (5, sh_I v8), (6, sh_I x6)]) (pc := 126) dX9_shared_126 rfl hx16.symm (by decide) rfl ?_
      refine sh_goto (tgt := 25) (pc := 129) dX9_shared_129 (by decide) ?_
      refine sh_pick [2, 3, 4, 5, 6, 7, 8, 0] rfl ?_
      exact ih7 _ _ _ h.1 h.2
    · have h := h.2 hc15
      refine sh_iload_n (pc := 52) dX9_shared_52 rfl ?_
      refine sh_iload (pc := 53) dX9_shared_53 rfl ?_
      obtain ⟨hd17, h⟩ := h
      refine sh_idiv (pc := 55) dX9_shared_55 hd17 ?_
      refine sh_iload (pc := 56) dX9_shared_56 rfl ?_
      refine sh_if_le (tgt := 65) (pc := 58) dX9_shared_58 (by decide) (fun hc18 => ?_) (fun hc18 => ?_)
      · have h := h.1 hc18
        refine sh_iconst (v := 0) (pc := 65) dX9_shared_65 rfl ?_
        refine sh_iadd (pc := 66) dX9_shared_66 ?_
        refine sh_topI (fun x19 hx19 => ?_)
        have h := h x19 hx19
        refine sh_istore (ls' := [(9, sh_I x19), (8, sh_I x12), (0, sh_R (9, 0, 0)), (1, sh_I a1), (2, sh_I a2), (3, sh_I a3), (4, sh_I r2), (5, sh_I v8), (6, sh_I x6), (7, sh_I v9)]) (pc := 67) dX9_shared_67 (by decide) rfl ?_
        refine sh_aload_n (pc := 69) dX9_shared_69 rfl ?_
        refine sh_gf (pc := 70) dX9_shared_70 fl_X9_7 cf_9 ok_9_0 rfl rfl ?_
        refine sh_bipush (v := 10) (pc := 73) dX9_shared_73 rfl ?_
        refine sh_iload (pc := 75) dX9_shared_75 rfl ?_
        refine sh_if_le (tgt := 90) (pc := 77) dX9_shared_77 (by decide) (fun hc20 => ?_) (fun hc20 => ?_)
        · have h := h.1 hc20
          refine sh_aload_n (pc := 90) dX9_shared_90 rfl ?_
          refine sh_gf (pc := 91) dX9_shared_91 fl_X9_7 cf_9 ok_9_0 rfl rfl ?_
          refine sh_bipush (v := 10) (pc := 94) dX9_shared_94 rfl ?_
          refine sh_ia (pc := 96) dX9_shared_96 ok_19_0 rfl (vp_in_iff.mpr ⟨by decide, by decide⟩) ?_
          refine sh_is (pc := 97) dX9_shared_97 ok_19_0 rfl (vp_in_iff.mpr ⟨by decide, by decide⟩) rfl ?_
          refine sh_topS (fun S23 hS23 => ?_)
          have h := h S23 hS23
          obtain ⟨x24, hx24⟩ : ∃ y : Int32, y = v8 + (-1) := ⟨_, rfl⟩
          have h := h x24 hx24
          refine sh_iinc (v := x24) (ls' := [(5, sh_I x24), (9, sh_I x19), (8, sh_I x12), (0, sh_R (9, 0, 0)), (1, sh_I a1), (2, sh_I a2), (3, sh_I a3), (4, sh_I r2), (6, sh_I x6), (7, sh_I v9)]) (pc := 98) dX9_shared_98 rfl hx24.symm (by decide) rfl ?_
          refine sh_iload_n (pc := 101) dX9_shared_101 rfl ?_
          refine sh_if_ge (tgt := 117) (pc := 102) dX9_shared_102 (by decide) (fun hc25 => ?_) (fun hc25 => ?_)
          · have h := h.1 hc25
            refine sh_aload_n (pc := 117) dX9_shared_117 rfl ?_
            refine sh_iload (pc := 118) dX9_shared_118 rfl ?_
            refine sh_iload (pc := 120) dX9_shared_120 rfl ?_
            refine sh_iload_n (pc := 122) dX9_shared_122 rfl ?_
            refine sh_cu (N := mX9_charges) (pc := 123) dX9_shared_123 ml_X9_61 h mf_X9_charges iv_X9_charges ⟨Nat.le_of_ble_eq_true rfl, Nat.le_of_ble_eq_true rfl⟩ rfl rfl (Nat.le_of_ble_eq_true rfl) ok_9_0 rfl (show vwCl[9]? = some (RX9, TX9, 14) from rfl) rfl (fun S26 h => ?_)
            obtain ⟨x27, hx27⟩ : ∃ y : Int32, y = v9 + 1 := ⟨_, rfl⟩
            have h := h x27 hx27
            refine sh_iinc (v := x27) (ls' := [(7, sh_I x27), (5, sh_I x24), (9, sh_I x19), (8, sh_I x12), (0, sh_R (9, 0, 0)), (1, sh_I a1), (2, sh_I a2), (3, sh_I a3), (4, sh_I r2), (6, sh_I x6)]) (pc := 126) dX9_shared_126 rfl hx27.symm (by decide) rfl ?_
            refine sh_goto (tgt := 25) (pc := 129) dX9_shared_129 (by decide) ?_
            refine sh_pick [4, 5, 6, 7, 8, 1, 9, 0] rfl ?_
            exact ih7 _ _ _ h.1 h.2
          · have h := h.2 hc25
            refine sh_aload_n (pc := 105) dX9_shared_105 rfl ?_
            refine sh_iload (pc := 106) dX9_shared_106 rfl ?_
            refine sh_iload (pc := 108) dX9_shared_108 rfl ?_
            refine sh_iconst (v := 2) (pc := 110) dX9_shared_110 rfl ?_
            refine sh_cu (N := mX9_gains) (pc := 111) dX9_shared_111 ml_X9_58 h mf_X9_gains iv_X9_gains ⟨Nat.le_of_ble_eq_true rfl, Nat.le_of_ble_eq_true rfl⟩ rfl rfl (Nat.le_of_ble_eq_true rfl) ok_9_0 rfl (show vwCl[9]? = some (RX9, TX9, 14) from rfl) rfl (fun S28 h => ?_)
            refine sh_goto (tgt := 126) (pc := 114) dX9_shared_114 (by decide) ?_
            obtain ⟨x29, hx29⟩ : ∃ y : Int32, y = v9 + 1 := ⟨_, rfl⟩
            have h := h x29 hx29
            refine sh_iinc (v := x29) (ls' := [(7, sh_I x29), (5, sh_I x24), (9, sh_I x19), (8, sh_I x12), (0, sh_R (9, 0, 0)), (1, sh_I a1), (2, sh_I a2), (3, sh_I a3), (4, sh_I r2), (6, sh_I x6)]) (pc := 126) dX9_shared_126 rfl hx29.symm (by decide) rfl ?_
            refine sh_goto (tgt := 25) (pc := 129) dX9_shared_129 (by decide) ?_
            refine sh_pick [4, 5, 6, 7, 8, 1, 9, 0] rfl ?_
            exact ih7 _ _ _ h.1 h.2
        · have h := h.2 hc20
          refine sh_iload (pc := 80) dX9_shared_80 rfl ?_
          refine sh_iconst (v := 1) (pc := 82) dX9_shared_82 rfl ?_
          refine sh_iadd (pc := 83) dX9_shared_83 ?_
          refine sh_bipush (v := 10) (pc := 84) dX9_shared_84 rfl ?_
          refine sh_irem (pc := 86) dX9_shared_86 (by decide) ?_
          refine sh_goto (tgt := 97) (pc := 87) dX9_shared_87 (by decide) ?_
          refine sh_is (pc := 97) dX9_shared_97 ok_19_0 rfl (vp_in_iff.mpr ⟨by decide, by decide⟩) rfl ?_
          refine sh_topS (fun S31 hS31 => ?_)
          have h := h S31 hS31
          obtain ⟨x32, hx32⟩ : ∃ y : Int32, y = v8 + (-1) := ⟨_, rfl⟩
          have h := h x32 hx32
          refine sh_iinc (v := x32) (ls' := [(5, sh_I x32), (9, sh_I x19), (8, sh_I x12), (0, sh_R (9, 0, 0)), (1, sh_I a1), (2, sh_I a2), (3, sh_I a3), (4, sh_I r2), (6, sh_I x6), (7, sh_I v9)]) (pc := 98) dX9_shared_98 rfl hx32.symm (by decide) rfl ?_
          refine sh_iload_n (pc := 101) dX9_shared_101 rfl ?_
          refine sh_if_ge (tgt := 117) (pc := 102) dX9_shared_102 (by decide) (fun hc33 => ?_) (fun hc33 => ?_)
          · have h := h.1 hc33
            refine sh_aload_n (pc := 117) dX9_shared_117 rfl ?_
            refine sh_iload (pc := 118) dX9_shared_118 rfl ?_
            refine sh_iload (pc := 120) dX9_shared_120 rfl ?_
            refine sh_iload_n (pc := 122) dX9_shared_122 rfl ?_
            refine sh_cu (N := mX9_charges) (pc := 123) dX9_shared_123 ml_X9_61 h mf_X9_charges iv_X9_charges ⟨Nat.le_of_ble_eq_true rfl, Nat.le_of_ble_eq_true rfl⟩ rfl rfl (Nat.le_of_ble_eq_true rfl) ok_9_0 rfl (show vwCl[9]? = some (RX9, TX9, 14) from rfl) rfl (fun S34 h => ?_)
            obtain ⟨x35, hx35⟩ : ∃ y : Int32, y = v9 + 1 := ⟨_, rfl⟩
            have h := h x35 hx35
            refine sh_iinc (v := x35) (ls' := [(7, sh_I x35), (5, sh_I x32), (9, sh_I x19), (8, sh_I x12), (0, sh_R (9, 0, 0)), (1, sh_I a1), (2, sh_I a2), (3, sh_I a3), (4, sh_I r2), (6, sh_I x6)]) (pc := 126) dX9_shared_126 rfl hx35.symm (by decide) rfl ?_
            refine sh_goto (tgt := 25) (pc := 129) dX9_shared_129 (by decide) ?_
            refine sh_pick [4, 5, 6, 7, 8, 1, 9, 0] rfl ?_
            exact ih7 _ _ _ h.1 h.2
          · have h := h.2 hc33
            refine sh_aload_n (pc := 105) dX9_shared_105 rfl ?_
            refine sh_iload (pc := 106) dX9_shared_106 rfl ?_
            refine sh_iload (pc := 108) dX9_shared_108 rfl ?_
            refine sh_iconst (v := 2) (pc := 110) dX9_shared_110 rfl ?_
            refine sh_cu (N := mX9_gains) (pc := 111) dX9_shared_111 ml_X9_58 h mf_X9_gains iv_X9_gains ⟨Nat.le_of_ble_eq_true rfl, Nat.le_of_ble_eq_true rfl⟩ rfl rfl (Nat.le_of_ble_eq_true rfl) ok_9_0 rfl (show vwCl[9]? = some (RX9, TX9, 14) from rfl) rfl (fun S36 h => ?_)
            refine sh_goto (tgt := 126) (pc := 114) dX9_shared_114 (by decide) ?_
            obtain ⟨x37, hx37⟩ : ∃ y : Int32, y = v9 + 1 := ⟨_, rfl⟩
            have h := h x37 hx37
            refine sh_iinc (v := x37) (ls' := [(7, sh_I x37), (5, sh_I x32), (9, sh_I x19), (8, sh_I x12), (0, sh_R (9, 0, 0)), (1, sh_I a1), (2, sh_I a2), (3, sh_I a3), (4, sh_I r2), (6, sh_I x6)]) (pc := 126) dX9_shared_126 rfl hx37.symm (by decide) rfl ?_
            refine sh_goto (tgt := 25) (pc := 129) dX9_shared_129 (by decide) ?_
            refine sh_pick [4, 5, 6, 7, 8, 1, 9, 0] rfl ?_
            exact ih7 _ _ _ h.1 h.2
      · have h := h.2 hc18
        refine sh_iconst (v := 1) (pc := 61) dX9_shared_61 rfl ?_
        refine sh_goto (tgt := 66) (pc := 62) dX9_shared_62 (by decide) ?_
        refine sh_iadd (pc := 66) dX9_shared_66 ?_
        refine sh_topI (fun x38 hx38 => ?_)
        have h := h x38 hx38
        refine sh_istore (ls' := [(9, sh_I x38), (8, sh_I x12), (0, sh_R (9, 0, 0)), (1, sh_I a1), (2, sh_I a2), (3, sh_I a3), (4, sh_I r2), (5, sh_I v8), (6, sh_I x6), (7, sh_I v9)]) (pc := 67) dX9_shared_67 (by decide) rfl ?_
        refine sh_aload_n (pc := 69) dX9_shared_69 rfl ?_
        refine sh_gf (pc := 70) dX9_shared_70 fl_X9_7 cf_9 ok_9_0 rfl rfl ?_
        refine sh_bipush (v := 10) (pc := 73) dX9_shared_73 rfl ?_
        refine sh_iload (pc := 75) dX9_shared_75 rfl ?_
        refine sh_if_le (tgt := 90) (pc := 77) dX9_shared_77 (by decide) (fun hc39 => ?_) (fun hc39 => ?_)
        · have h := h.1 hc39
          refine sh_aload_n (pc := 90) dX9_shared_90 rfl ?_
          refine sh_gf (pc := 91) dX9_shared_91 fl_X9_7 cf_9 ok_9_0 rfl rfl ?_
          refine sh_bipush (v := 10) (pc := 94) dX9_shared_94 rfl ?_
          refine sh_ia (pc := 96) dX9_shared_96 ok_19_0 rfl (vp_in_iff.mpr ⟨by decide, by decide⟩) ?_
          refine sh_is (pc := 97) dX9_shared_97 ok_19_0 rfl (vp_in_iff.mpr ⟨by decide, by decide⟩) rfl ?_
          refine sh_topS (fun S42 hS42 => ?_)
          have h := h S42 hS42
          obtain ⟨x43, hx43⟩ : ∃ y : Int32, y = v8 + (-1) := ⟨_, rfl⟩
          have h := h x43 hx43
          refine sh_iinc (v := x43) (ls' := [(5, sh_I x43), (9, sh_I x38), (8, sh_I x12), (0, sh_R (9, 0, 0)), (1, sh_I a1), (2, sh_I a2), (3, sh_I a3), (4, sh_I r2), (6, sh_I x6), (7, sh_I v9)]) (pc := 98) dX9_shared_98 rfl hx43.symm (by decide) rfl ?_
          refine sh_iload_n (pc := 101) dX9_shared_101 rfl ?_
          refine sh_if_ge (tgt := 117) (pc := 102) dX9_shared_102 (by decide) (fun hc44 => ?_) (fun hc44 => ?_)
          · have h := h.1 hc44
            refine sh_aload_n (pc := 117) dX9_shared_117 rfl ?_
            refine sh_iload (pc := 118) dX9_shared_118 rfl ?_
            refine sh_iload (pc := 120) dX9_shared_120 rfl ?_
            refine sh_iload_n (pc := 122) dX9_shared_122 rfl ?_
            refine sh_cu (N := mX9_charges) (pc := 123) dX9_shared_123 ml_X9_61 h mf_X9_charges iv_X9_charges ⟨Nat.le_of_ble_eq_true rfl, Nat.le_of_ble_eq_true rfl⟩ rfl rfl (Nat.le_of_ble_eq_true rfl) ok_9_0 rfl (show vwCl[9]? = some (RX9, TX9, 14) from rfl) rfl (fun S45 h => ?_)
            obtain ⟨x46, hx46⟩ : ∃ y : Int32, y = v9 + 1 := ⟨_, rfl⟩
            have h := h x46 hx46
            refine sh_iinc (v := x46) (ls' := [(7, sh_I x46), (5, sh_I x43), (9, sh_I x38), (8, sh_I x12), (0, sh_R (9, 0, 0)), (1, sh_I a1), (2, sh_I a2), (3, sh_I a3), (4, sh_I r2), (6, sh_I x6)]) (pc := 126) dX9_shared_126 rfl hx46.symm (by decide) rfl ?_
            refine sh_goto (tgt := 25) (pc := 129) dX9_shared_129 (by decide) ?_
            refine sh_pick [4, 5, 6, 7, 8, 1, 9, 0] rfl ?_
            exact ih7 _ _ _ h.1 h.2
          · have h := h.2 hc44
            refine sh_aload_n (pc := 105) dX9_shared_105 rfl ?_
            refine sh_iload (pc := 106) dX9_shared_106 rfl ?_
            refine sh_iload (pc := 108) dX9_shared_108 rfl ?_
            refine sh_iconst (v := 2) (pc := 110) dX9_shared_110 rfl ?_
            refine sh_cu (N := mX9_gains) (pc := 111) dX9_shared_111 ml_X9_58 h mf_X9_gains iv_X9_gains ⟨Nat.le_of_ble_eq_true rfl, Nat.le_of_ble_eq_true rfl⟩ rfl rfl (Nat.le_of_ble_eq_true rfl) ok_9_0 rfl (show vwCl[9]? = some (RX9, TX9, 14) from rfl) rfl (fun S47 h => ?_)
            refine sh_goto (tgt := 126) (pc := 114) dX9_shared_114 (by decide) ?_
            obtain ⟨x48, hx48⟩ : ∃ y : Int32, y = v9 + 1 := ⟨_, rfl⟩
            have h := h x48 hx48
            refine sh_iinc (v := x48) (ls' := [(7, sh_I x48), (5, sh_I x43), (9, sh_I x38), (8, sh_I x12), (0, sh_R (9, 0, 0)), (1, sh_I a1), (2, sh_I a2), (3, sh_I a3), (4, sh_I r2), (6, sh_I x6)]) (pc := 126) dX9_shared_126 rfl hx48.symm (by decide) rfl ?_
            refine sh_goto (tgt := 25) (pc := 129) dX9_shared_129 (by decide) ?_
            refine sh_pick [4, 5, 6, 7, 8, 1, 9, 0] rfl ?_
            exact ih7 _ _ _ h.1 h.2
        · have h := h.2 hc39
          refine sh_iload (pc := 80) dX9_shared_80 rfl ?_
          refine sh_iconst (v := 1) (pc := 82) dX9_shared_82 rfl ?_
          refine sh_iadd (pc := 83) dX9_shared_83 ?_
          refine sh_bipush (v := 10) (pc := 84) dX9_shared_84 rfl ?_
          refine sh_irem (pc := 86) dX9_shared_86 (by decide) ?_
          refine sh_goto (tgt := 97) (pc := 87) dX9_shared_87 (by decide) ?_
          refine sh_is (pc := 97) dX9_shared_97 ok_19_0 rfl (vp_in_iff.mpr ⟨by decide, by decide⟩) rfl ?_
          refine sh_topS (fun S50 hS50 => ?_)
          have h := h S50 hS50
          obtain ⟨x51, hx51⟩ : ∃ y : Int32, y = v8 + (-1) := ⟨_, rfl⟩
          have h := h x51 hx51
          refine sh_iinc (v := x51) (ls' := [(5, sh_I x51), (9, sh_I x38), (8, sh_I x12), (0, sh_R (9, 0, 0)), (1, sh_I a1), (2, sh_I a2), (3, sh_I a3), (4, sh_I r2), (6, sh_I x6), (7, sh_I v9)]) (pc := 98) dX9_shared_98 rfl hx51.symm (by decide) rfl ?_
          refine sh_iload_n (pc := 101) dX9_shared_101 rfl ?_
          refine sh_if_ge (tgt := 117) (pc := 102) dX9_shared_102 (by decide) (fun hc52 => ?_) (fun hc52 => ?_)
          · have h := h.1 hc52
            refine sh_aload_n (pc := 117) dX9_shared_117 rfl ?_
            refine sh_iload (pc := 118) dX9_shared_118 rfl ?_
            refine sh_iload (pc := 120) dX9_shared_120 rfl ?_
            refine sh_iload_n (pc := 122) dX9_shared_122 rfl ?_
            refine sh_cu (N := mX9_charges) (pc := 123) dX9_shared_123 ml_X9_61 h mf_X9_charges iv_X9_charges ⟨Nat.le_of_ble_eq_true rfl, Nat.le_of_ble_eq_true rfl⟩ rfl rfl (Nat.le_of_ble_eq_true rfl) ok_9_0 rfl (show vwCl[9]? = some (RX9, TX9, 14) from rfl) rfl (fun S53 h => ?_)
            obtain ⟨x54, hx54⟩ : ∃ y : Int32, y = v9 + 1 := ⟨_, rfl⟩
            have h := h x54 hx54
            refine sh_iinc (v := x54) (ls' := [(7, sh_I x54), (5, sh_I x51), (9, sh_I x38), (8, sh_I x12), (0, sh_R (9, 0, 0)), (1, sh_I a1), (2, sh_I a2), (3, sh_I a3), (4, sh_I r2), (6, sh_I x6)]) (pc := 126) dX9_shared_126 rfl hx54.symm (by decide) rfl ?_
            refine sh_goto (tgt := 25) (pc := 129) dX9_shared_129 (by decide) ?_
            refine sh_pick [4, 5, 6, 7, 8, 1, 9, 0] rfl ?_
            exact ih7 _ _ _ h.1 h.2
          · have h := h.2 hc52
            refine sh_aload_n (pc := 105) dX9_shared_105 rfl ?_
            refine sh_iload (pc := 106) dX9_shared_106 rfl ?_
            refine sh_iload (pc := 108) dX9_shared_108 rfl ?_
            refine sh_iconst (v := 2) (pc := 110) dX9_shared_110 rfl ?_
            refine sh_cu (N := mX9_gains) (pc := 111) dX9_shared_111 ml_X9_58 h mf_X9_gains iv_X9_gains ⟨Nat.le_of_ble_eq_true rfl, Nat.le_of_ble_eq_true rfl⟩ rfl rfl (Nat.le_of_ble_eq_true rfl) ok_9_0 rfl (show vwCl[9]? = some (RX9, TX9, 14) from rfl) rfl (fun S55 h => ?_)
            refine sh_goto (tgt := 126) (pc := 114) dX9_shared_114 (by decide) ?_
            obtain ⟨x56, hx56⟩ : ∃ y : Int32, y = v9 + 1 := ⟨_, rfl⟩
            have h := h x56 hx56
            refine sh_iinc (v := x56) (ls' := [(7, sh_I x56), (5, sh_I x51), (9, sh_I x38), (8, sh_I x12), (0, sh_R (9, 0, 0)), (1, sh_I a1), (2, sh_I a2), (3, sh_I a3), (4, sh_I r2), (6, sh_I x6)]) (pc := 126) dX9_shared_126 rfl hx56.symm (by decide) rfl ?_
            refine sh_goto (tgt := 25) (pc := 129) dX9_shared_129 (by decide) ?_
            refine sh_pick [4, 5, 6, 7, 8, 1, 9, 0] rfl ?_
            exact ih7 _ _ _ h.1 h.2

set_option maxRecDepth 100000 in
set_option maxHeartbeats 4000000 in
theorem wp_X9_openOf {g : sh_G} {S : sh_S} {sz : Nat} {Q : Int32 → sh_S → Prop} {a1 : Int32} 
    (h : (sh_Ci g mX9_of [sh_R (9, 0, 0), sh_I a1, sh_I 8] S sz (fun r2 S1 => (sh_Ci g mX9_of [sh_R (9, 0, 0), sh_I a1, sh_I 9] S1 sz (fun r4 S3 => (sh_Ci g mX9_of [sh_R (9, 0, 0), sh_I a1, sh_I 10] S3 sz (fun r6 S5 => Q ((r2 + r4) + r6) S5))))))) :
    sh_Ci g mX9_openOf [sh_R (9, 0, 0), sh_I a1] S sz Q := by
  refine sh_enter (ls := [(0, sh_R (9, 0, 0)), (1, sh_I a1)]) (by decide +kernel) (Nat.le_of_ble_eq_true rfl) rfl ?_
  refine sh_aload_n (pc := 0) dX9_openOf_0 rfl ?_
  refine sh_iload_n (pc := 1) dX9_openOf_1 rfl ?_
  refine sh_bipush (v := 8) (pc := 2) dX9_openOf_2 rfl ?_
  refine sh_ci (N := mX9_of) (pc := 4) dX9_openOf_4 ml_X9_46 h mf_X9_of iv_X9_of ⟨Nat.le_of_ble_eq_true rfl, Nat.le_of_ble_eq_true rfl⟩ rfl rfl (Nat.le_of_ble_eq_true rfl) ok_9_0 rfl (show vwCl[9]? = some (RX9, TX9, 14) from rfl) rfl (fun r2 S1 h => ?_)
  refine sh_aload_n (pc := 7) dX9_openOf_7 rfl ?_
  refine sh_iload_n (pc := 8) dX9_openOf_8 rfl ?_
  refine sh_bipush (v := 9) (pc := 9) dX9_openOf_9 rfl ?_
  refine sh_ci (N := mX9_of) (pc := 11) dX9_openOf_11 ml_X9_46 h mf_X9_of iv_X9_of ⟨Nat.le_of_ble_eq_true rfl, Nat.le_of_ble_eq_true rfl⟩ rfl rfl (Nat.le_of_ble_eq_true rfl) ok_9_0 rfl (show vwCl[9]? = some (RX9, TX9, 14) from rfl) rfl (fun r4 S3 h => ?_)
  refine sh_iadd (pc := 14) dX9_openOf_14 ?_
  refine sh_aload_n (pc := 15) dX9_openOf_15 rfl ?_
  refine sh_iload_n (pc := 16) dX9_openOf_16 rfl ?_
  refine sh_bipush (v := 10) (pc := 17) dX9_openOf_17 rfl ?_
  refine sh_ci (N := mX9_of) (pc := 19) dX9_openOf_19 ml_X9_46 h mf_X9_of iv_X9_of ⟨Nat.le_of_ble_eq_true rfl, Nat.le_of_ble_eq_true rfl⟩ rfl rfl (Nat.le_of_ble_eq_true rfl) ok_9_0 rfl (show vwCl[9]? = some (RX9, TX9, 14) from rfl) rfl (fun r6 S5 h => ?_)
  refine sh_iadd (pc := 22) dX9_openOf_22 ?_
  exact sh_ret_i (pc := 23) dX9_openOf_23 rfl ⟨rfl, rfl⟩ h

set_option maxRecDepth 100000 in
set_option maxHeartbeats 4000000 in
theorem wp_X9_highest {g : sh_G} {S : sh_S} {sz : Nat} {Q : Int32 → sh_S → Prop} {a1 : Int32} 
    (h : ((a1 = 0 → Q 400 S) ∧ (¬ a1 = 0 → ((a1 = 1 → Q 60 S) ∧ (¬ a1 = 1 → ((a1 = 2 → Q 20 S) ∧ (¬ a1 = 2 → ((a1 = 3 → Q 40 S) ∧ (¬ a1 = 3 → ((a1 = 4 → Q 1000 S) ∧ (¬ a1 = 4 → ((a1 = 5 → Q 100 S) ∧ (¬ a1 = 5 → ((a1 = 6 → Q 60 S) ∧ (¬ a1 = 6 → Q 100 S))))))))))))))) :
    sh_Ci g mX9_highest [sh_I a1] S sz Q := by
  refine sh_enter (ls := [(0, sh_I a1)]) (by decide +kernel) (Nat.le_of_ble_eq_true rfl) rfl ?_
  refine sh_iload_n (pc := 0) dX9_highest_0 rfl ?_
  by_cases hc1 : a1 = 0
  · have h := h.1 hc1
    refine sh_tin 0 (pc := 1) (tgt := 44) dX9_highest_1 hc1 (by decide) (by decide) rfl (by decide) ?_
    refine sh_sipush (v := 400) (pc := 44) dX9_highest_44 rfl ?_
    exact sh_ret_i (pc := 47) dX9_highest_47 rfl ⟨rfl, rfl⟩ h
  · have h := h.2 hc1
    by_cases hc2 : a1 = 1
    · have h := h.1 hc2
      refine sh_tin 1 (pc := 1) (tgt := 48) dX9_highest_1 hc2 (by decide) (by decide) rfl (by decide) ?_
      refine sh_bipush (v := 60) (pc := 48) dX9_highest_48 rfl ?_
      exact sh_ret_i (pc := 50) dX9_highest_50 rfl ⟨rfl, rfl⟩ h
    · have h := h.2 hc2
      by_cases hc3 : a1 = 2
      · have h := h.1 hc3
        refine sh_tin 2 (pc := 1) (tgt := 51) dX9_highest_1 hc3 (by decide) (by decide) rfl (by decide) ?_
        refine sh_bipush (v := 20) (pc := 51) dX9_highest_51 rfl ?_
        exact sh_ret_i (pc := 53) dX9_highest_53 rfl ⟨rfl, rfl⟩ h
      · have h := h.2 hc3
        by_cases hc4 : a1 = 3
        · have h := h.1 hc4
          refine sh_tin 3 (pc := 1) (tgt := 54) dX9_highest_1 hc4 (by decide) (by decide) rfl (by decide) ?_
          refine sh_bipush (v := 40) (pc := 54) dX9_highest_54 rfl ?_
          exact sh_ret_i (pc := 56) dX9_highest_56 rfl ⟨rfl, rfl⟩ h
        · have h := h.2 hc4
          by_cases hc5 : a1 = 4
          · have h := h.1 hc5
            refine sh_tin 4 (pc := 1) (tgt := 57) dX9_highest_1 hc5 (by decide) (by decide) rfl (by decide) ?_
            refine sh_sipush (v := 1000) (pc := 57) dX9_highest_57 rfl ?_
            exact sh_ret_i (pc := 60) dX9_highest_60 rfl ⟨rfl, rfl⟩ h
          · have h := h.2 hc5
            by_cases hc6 : a1 = 5
            · have h := h.1 hc6
              refine sh_tin 5 (pc := 1) (tgt := 61) dX9_highest_1 hc6 (by decide) (by decide) rfl (by decide) ?_
              refine sh_bipush (v := 100) (pc := 61) dX9_highest_61 rfl ?_
              exact sh_ret_i (pc := 63) dX9_highest_63 rfl ⟨rfl, rfl⟩ h
            · have h := h.2 hc6
              by_cases hc7 : a1 = 6
              · have h := h.1 hc7
                refine sh_tin 6 (pc := 1) (tgt := 48) dX9_highest_1 hc7 (by decide) (by decide) rfl (by decide) ?_
                refine sh_bipush (v := 60) (pc := 48) dX9_highest_48 rfl ?_
                exact sh_ret_i (pc := 50) dX9_highest_50 rfl ⟨rfl, rfl⟩ h
              · have h := h.2 hc7
                refine sh_tout 0 7 (pc := 1) (tgt := 61) dX9_highest_1 (by decide) (by decide) (lt_s (lt_s (lt_s (lt_s (lt_s (lt_s (lt_s lt_0 hc1) hc2) hc3) hc4) hc5) hc6) hc7) (by decide) ?_
                refine sh_bipush (v := 100) (pc := 61) dX9_highest_61 rfl ?_
                exact sh_ret_i (pc := 63) dX9_highest_63 rfl ⟨rfl, rfl⟩ h

set_option maxRecDepth 100000 in
set_option maxHeartbeats 4000000 in
theorem wp_X9_set {g : sh_G} {S : sh_S} {sz : Nat} {Q : Int32 → sh_S → Prop} {a1 : Int32} {a2 : Int32} 
    (h : ((a1 = 1 → (sh_Ci g mX9_in [sh_I a1, sh_I 0, sh_I 6] S sz (fun r3 S2 => ((r3 = 0 → Q (-1000001) S2) ∧ (¬ r3 = 0 → (sh_Ci g mX9_highest [sh_I a1] S2 sz (fun r7 S6 => (sh_Ci g mX9_in [sh_I a2, sh_I 1, sh_I r7] S6 sz (fun r9 S8 => ((¬ r9 = 0 → (sh_Cu g mX9_hold [sh_R (9, 0, 0)] S8 sz (fun S11 => (vp_in a1 602 ∧ (∀ x13 : Int32, x13 = (S11 (19, 0, 0) (a1.toNatClampNeg)) → (vp_in a1 602 ∧ (∀ S15 : sh_S, S15 = sh_sr S11 (19, 0, 0) (upd (S11 (19, 0, 0)) (a1.toNatClampNeg) a2) → (sh_Ci g mX9_ends [sh_R (9, 0, 0), sh_I x13] S15 sz (fun r17 S16 => Q r17 S16))))))))) ∧ (r9 = 0 → Q (-1000001) S8))))))))))) ∧ (¬ a1 = 1 → ((¬ a1 = 6 → (sh_Ci g mX9_in [sh_I a1, sh_I 0, sh_I 6] S sz (fun r20 S19 => ((r20 = 0 → Q (-1000001) S19) ∧ (¬ r20 = 0 → (sh_Ci g mX9_highest [sh_I a1] S19 sz (fun r24 S23 => (sh_Ci g mX9_in [sh_I a2, sh_I 0, sh_I r24] S23 sz (fun r26 S25 => ((¬ r26 = 0 → (sh_Cu g mX9_hold [sh_R (9, 0, 0)] S25 sz (fun S28 => (vp_in a1 602 ∧ (∀ x30 : Int32, x30 = (S28 (19, 0, 0) (a1.toNatClampNeg)) → (vp_in a1 602 ∧ (∀ S32 : sh_S, S32 = sh_sr S28 (19, 0, 0) (upd (S28 (19, 0, 0)) (a1.toNatClampNeg) a2) → (sh_Ci g mX9_ends [sh_R (9, 0, 0), sh_I x30] S32 sz (fun r34 S33 => Q r34 S33))))))))) ∧ (r26 = 0 → Q (-1000001) S25))))))))))) ∧ (a1 = 6 → (sh_Ci g mX9_in [sh_I a1, sh_I 0, sh_I 6] S sz (fun r36 S35 => ((r36 = 0 → Q (-1000001) S35) ∧ (¬ r36 = 0 → (sh_Ci g mX9_highest [sh_I a1] S35 sz (fun r40 S39 => (sh_Ci g mX9_in [sh_I a2, sh_I 1, sh_I r40] S39 sz (fun r42 S41 => ((¬ r42 = 0 → (sh_Cu g mX9_hold [sh_R (9, 0, 0)] S41 sz (fun S44 => (vp_in a1 602 ∧ (∀ x46 : Int32, x46 = (S44 (19, 0, 0) (a1.toNatClampNeg)) → (vp_in a1 602 ∧ (∀ S48 : sh_S, S48 = sh_sr S44 (19, 0, 0) (upd (S44 (19, 0, 0)) (a1.toNatClampNeg) a2) → (sh_Ci g mX9_ends [sh_R (9, 0, 0), sh_I x46] S48 sz (fun r50 S49 => Q r50 S49))))))))) ∧ (r42 = 0 → Q (-1000001) S41))))))))))))))) :
    sh_Ci g mX9_set [sh_R (9, 0, 0), sh_I a1, sh_I a2] S sz Q := by
  refine sh_enter (ls := [(0, sh_R (9, 0, 0)), (1, sh_I a1), (2, sh_I a2)]) (by decide +kernel) (Nat.le_of_ble_eq_true rfl) rfl ?_
  refine sh_iload_n (pc := 0) dX9_set_0 rfl ?_
  refine sh_iconst (v := 1) (pc := 1) dX9_set_1 rfl ?_
  refine sh_icmp_eq (tgt := 11) (pc := 2) dX9_set_2 (by decide) (fun hc1 => ?_) (fun hc1 => ?_)
  · have h := h.1 hc1
    refine sh_iconst (v := 1) (pc := 11) dX9_set_11 rfl ?_
    refine sh_goto (tgt := 16) (pc := 12) dX9_set_12 (by decide) ?_
    refine sh_istore_n (ls' := [(3, sh_I 1), (0, sh_R (9, 0, 0)), (1, sh_I a1), (2, sh_I a2)]) (pc := 16) dX9_set_16 (by decide) rfl ?_
    refine sh_iload_n (pc := 17) dX9_set_17 rfl ?_
    refine sh_iconst (v := 0) (pc := 18) dX9_set_18 rfl ?_
    refine sh_bipush (v := 6) (pc := 19) dX9_set_19 rfl ?_
    refine sh_si (N := mX9_in) (pc := 21) dX9_set_21 ml_X9_38 h mf_X9_in is_X9_in ⟨Nat.le_of_ble_eq_true rfl, Nat.le_of_ble_eq_true rfl⟩ rfl rfl (Nat.le_of_ble_eq_true rfl) (fun r3 S2 h => ?_)
    refine sh_if_eq (tgt := 47) (pc := 24) dX9_set_24 (by decide) (fun hc4 => ?_) (fun hc4 => ?_)
    · have h := h.1 hc4
      refine sh_ldc (v := (-1000001)) (pc := 47) dX9_set_47 kc_X9_32 ?_
      exact sh_ret_i (pc := 49) dX9_set_49 rfl ⟨rfl, rfl⟩ h
    · have h := h.2 hc4
      refine sh_iload_n (pc := 27) dX9_set_27 rfl ?_
      refine sh_iload_n (pc := 28) dX9_set_28 rfl ?_
      refine sh_if_eq (tgt := 36) (pc := 29) dX9_set_29 (by decide) (fun hc5 => ?_) (fun hc5 => ?_)
      · exact absurd hc5 (by decide)
      · skip
        refine sh_iconst (v := 1) (pc := 32) dX9_set_32 rfl ?_
        refine sh_goto (tgt := 37) (pc := 33) dX9_set_33 (by decide) ?_
        refine sh_iload_n (pc := 37) dX9_set_37 rfl ?_
        refine sh_si (N := mX9_highest) (pc := 38) dX9_set_38 ml_X9_64 h mf_X9_highest is_X9_highest ⟨Nat.le_of_ble_eq_true rfl, Nat.le_of_ble_eq_true rfl⟩ rfl rfl (Nat.le_of_ble_eq_true rfl) (fun r7 S6 h => ?_)
        refine sh_si (N := mX9_in) (pc := 41) dX9_set_41 ml_X9_38 h mf_X9_in is_X9_in ⟨Nat.le_of_ble_eq_true rfl, Nat.le_of_ble_eq_true rfl⟩ rfl rfl (Nat.le_of_ble_eq_true rfl) (fun r9 S8 h => ?_)
        refine sh_if_ne (tgt := 50) (pc := 44) dX9_set_44 (by decide) (fun hc10 => ?_) (fun hc10 => ?_)
        · have h := h.1 hc10
          refine sh_aload_n (pc := 50) dX9_set_50 rfl ?_
          refine sh_cu (N := mX9_hold) (pc := 51) dX9_set_51 ml_X9_67 h mf_X9_hold iv_X9_hold ⟨Nat.le_of_ble_eq_true rfl, Nat.le_of_ble_eq_true rfl⟩ rfl rfl (Nat.le_of_ble_eq_true rfl) ok_9_0 rfl (show vwCl[9]? = some (RX9, TX9, 14) from rfl) rfl (fun S11 h => ?_)
          refine sh_aload_n (pc := 54) dX9_set_54 rfl ?_
          refine sh_gf (pc := 55) dX9_set_55 fl_X9_7 cf_9 ok_9_0 rfl rfl ?_
          refine sh_iload_n (pc := 58) dX9_set_58 rfl ?_
          obtain ⟨hi12, h⟩ := h
          refine sh_ia (pc := 59) dX9_set_59 ok_19_0 rfl hi12 ?_
          refine sh_topI (fun x13 hx13 => ?_)
          have h := h x13 hx13
          refine sh_istore (ls' := [(4, sh_I x13), (3, sh_I 1), (0, sh_R (9, 0, 0)), (1, sh_I a1), (2, sh_I a2)]) (pc := 60) dX9_set_60 (by decide) rfl ?_
          refine sh_aload_n (pc := 62) dX9_set_62 rfl ?_
          refine sh_gf (pc := 63) dX9_set_63 fl_X9_7 cf_9 ok_9_0 rfl rfl ?_
          refine sh_iload_n (pc := 66) dX9_set_66 rfl ?_
          refine sh_iload_n (pc := 67) dX9_set_67 rfl ?_
          obtain ⟨hi14, h⟩ := h
          refine sh_is (pc := 68) dX9_set_68 ok_19_0 rfl hi14 rfl ?_
          refine sh_topS (fun S15 hS15 => ?_)
          have h := h S15 hS15
          refine sh_aload_n (pc := 69) dX9_set_69 rfl ?_
          refine sh_iload (pc := 70) dX9_set_70 rfl ?_
          refine sh_ci (N := mX9_ends) (pc := 72) dX9_set_72 ml_X9_70 h mf_X9_ends iv_X9_ends ⟨Nat.le_of_ble_eq_true rfl, Nat.le_of_ble_eq_true rfl⟩ rfl rfl (Nat.le_of_ble_eq_true rfl) ok_9_0 rfl (show vwCl[9]? = some (RX9, TX9, 14) from rfl) rfl (fun r17 S16 h => ?_)
          exact sh_ret_i (pc := 75) dX9_set_75 rfl ⟨rfl, rfl⟩ h
        · have h := h.2 hc10
          refine sh_ldc (v := (-1000001)) (pc := 47) dX9_set_47 kc_X9_32 ?_
          exact sh_ret_i (pc := 49) dX9_set_49 rfl ⟨rfl, rfl⟩ h
  · have h := h.2 hc1
    refine sh_iload_n (pc := 5) dX9_set_5 rfl ?_
    refine sh_bipush (v := 6) (pc := 6) dX9_set_6 rfl ?_
    refine sh_icmp_ne (tgt := 15) (pc := 8) dX9_set_8 (by decide) (fun hc18 => ?_) (fun hc18 => ?_)
    · have h := h.1 hc18
      refine sh_iconst (v := 0) (pc := 15) dX9_set_15 rfl ?_
      refine sh_istore_n (ls' := [(3, sh_I 0), (0, sh_R (9, 0, 0)), (1, sh_I a1), (2, sh_I a2)]) (pc := 16) dX9_set_16 (by decide) rfl ?_
      refine sh_iload_n (pc := 17) dX9_set_17 rfl ?_
      refine sh_iconst (v := 0) (pc := 18) dX9_set_18 rfl ?_
      refine sh_bipush (v := 6) (pc := 19) dX9_set_19 rfl ?_
      refine sh_si (N := mX9_in) (pc := 21) dX9_set_21 ml_X9_38 h mf_X9_in is_X9_in ⟨Nat.le_of_ble_eq_true rfl, Nat.le_of_ble_eq_true rfl⟩ rfl rfl (Nat.le_of_ble_eq_true rfl) (fun r20 S19 h => ?_)
      refine sh_if_eq (tgt := 47) (pc := 24) dX9_set_24 (by decide) (fun hc21 => ?_) (fun hc21 => ?_)
      · have h := h.1 hc21
        refine sh_ldc (v := (-1000001)) (pc := 47) dX9_set_47 kc_X9_32 ?_
        exact sh_ret_i (pc := 49) dX9_set_49 rfl ⟨rfl, rfl⟩ h
      · have h := h.2 hc21
        refine sh_iload_n (pc := 27) dX9_set_27 rfl ?_
        refine sh_iload_n (pc := 28) dX9_set_28 rfl ?_
        refine sh_if_eq (tgt := 36) (pc := 29) dX9_set_29 (by decide) (fun hc22 => ?_) (fun hc22 => ?_)
        · skip
          refine sh_iconst (v := 0) (pc := 36) dX9_set_36 rfl ?_
          refine sh_iload_n (pc := 37) dX9_set_37 rfl ?_
          refine sh_si (N := mX9_highest) (pc := 38) dX9_set_38 ml_X9_64 h mf_X9_highest is_X9_highest ⟨Nat.le_of_ble_eq_true rfl, Nat.le_of_ble_eq_true rfl⟩ rfl rfl (Nat.le_of_ble_eq_true rfl) (fun r24 S23 h => ?_)
          refine sh_si (N := mX9_in) (pc := 41) dX9_set_41 ml_X9_38 h mf_X9_in is_X9_in ⟨Nat.le_of_ble_eq_true rfl, Nat.le_of_ble_eq_true rfl⟩ rfl rfl (Nat.le_of_ble_eq_true rfl) (fun r26 S25 h => ?_)
          refine sh_if_ne (tgt := 50) (pc := 44) dX9_set_44 (by decide) (fun hc27 => ?_) (fun hc27 => ?_)
          · have h := h.1 hc27
            refine sh_aload_n (pc := 50) dX9_set_50 rfl ?_
            refine sh_cu (N := mX9_hold) (pc := 51) dX9_set_51 ml_X9_67 h mf_X9_hold iv_X9_hold ⟨Nat.le_of_ble_eq_true rfl, Nat.le_of_ble_eq_true rfl⟩ rfl rfl (Nat.le_of_ble_eq_true rfl) ok_9_0 rfl (show vwCl[9]? = some (RX9, TX9, 14) from rfl) rfl (fun S28 h => ?_)
            refine sh_aload_n (pc := 54) dX9_set_54 rfl ?_
            refine sh_gf (pc := 55) dX9_set_55 fl_X9_7 cf_9 ok_9_0 rfl rfl ?_
            refine sh_iload_n (pc := 58) dX9_set_58 rfl ?_
            obtain ⟨hi29, h⟩ := h
            refine sh_ia (pc := 59) dX9_set_59 ok_19_0 rfl hi29 ?_
            refine sh_topI (fun x30 hx30 => ?_)
            have h := h x30 hx30
            refine sh_istore (ls' := [(4, sh_I x30), (3, sh_I 0), (0, sh_R (9, 0, 0)), (1, sh_I a1), (2, sh_I a2)]) (pc := 60) dX9_set_60 (by decide) rfl ?_
            refine sh_aload_n (pc := 62) dX9_set_62 rfl ?_
            refine sh_gf (pc := 63) dX9_set_63 fl_X9_7 cf_9 ok_9_0 rfl rfl ?_
            refine sh_iload_n (pc := 66) dX9_set_66 rfl ?_
            refine sh_iload_n (pc := 67) dX9_set_67 rfl ?_
            obtain ⟨hi31, h⟩ := h
            refine sh_is (pc := 68) dX9_set_68 ok_19_0 rfl hi31 rfl ?_
            refine sh_topS (fun S32 hS32 => ?_)
            have h := h S32 hS32
            refine sh_aload_n (pc := 69) dX9_set_69 rfl ?_
            refine sh_iload (pc := 70) dX9_set_70 rfl ?_
            refine sh_ci (N := mX9_ends) (pc := 72) dX9_set_72 ml_X9_70 h mf_X9_ends iv_X9_ends ⟨Nat.le_of_ble_eq_true rfl, Nat.le_of_ble_eq_true rfl⟩ rfl rfl (Nat.le_of_ble_eq_true rfl) ok_9_0 rfl (show vwCl[9]? = some (RX9, TX9, 14) from rfl) rfl (fun r34 S33 h => ?_)
            exact sh_ret_i (pc := 75) dX9_set_75 rfl ⟨rfl, rfl⟩ h
          · have h := h.2 hc27
            refine sh_ldc (v := (-1000001)) (pc := 47) dX9_set_47 kc_X9_32 ?_
            exact sh_ret_i (pc := 49) dX9_set_49 rfl ⟨rfl, rfl⟩ h
        · exact absurd hc22 (by decide)
    · have h := h.2 hc18
      refine sh_iconst (v := 1) (pc := 11) dX9_set_11 rfl ?_
      refine sh_goto (tgt := 16) (pc := 12) dX9_set_12 (by decide) ?_
      refine sh_istore_n (ls' := [(3, sh_I 1), (0, sh_R (9, 0, 0)), (1, sh_I a1), (2, sh_I a2)]) (pc := 16) dX9_set_16 (by decide) rfl ?_
      refine sh_iload_n (pc := 17) dX9_set_17 rfl ?_
      refine sh_iconst (v := 0) (pc := 18) dX9_set_18 rfl ?_
      refine sh_bipush (v := 6) (pc := 19) dX9_set_19 rfl ?_
      refine sh_si (N := mX9_in) (pc := 21) dX9_set_21 ml_X9_38 h mf_X9_in is_X9_in ⟨Nat.le_of_ble_eq_true rfl, Nat.le_of_ble_eq_true rfl⟩ rfl rfl (Nat.le_of_ble_eq_true rfl) (fun r36 S35 h => ?_)
      refine sh_if_eq (tgt := 47) (pc := 24) dX9_set_24 (by decide) (fun hc37 => ?_) (fun hc37 => ?_)
      · have h := h.1 hc37
        refine sh_ldc (v := (-1000001)) (pc := 47) dX9_set_47 kc_X9_32 ?_
        exact sh_ret_i (pc := 49) dX9_set_49 rfl ⟨rfl, rfl⟩ h
      · have h := h.2 hc37
        refine sh_iload_n (pc := 27) dX9_set_27 rfl ?_
        refine sh_iload_n (pc := 28) dX9_set_28 rfl ?_
        refine sh_if_eq (tgt := 36) (pc := 29) dX9_set_29 (by decide) (fun hc38 => ?_) (fun hc38 => ?_)
        · exact absurd hc38 (by decide)
        · skip
          refine sh_iconst (v := 1) (pc := 32) dX9_set_32 rfl ?_
          refine sh_goto (tgt := 37) (pc := 33) dX9_set_33 (by decide) ?_
          refine sh_iload_n (pc := 37) dX9_set_37 rfl ?_
          refine sh_si (N := mX9_highest) (pc := 38) dX9_set_38 ml_X9_64 h mf_X9_highest is_X9_highest ⟨Nat.le_of_ble_eq_true rfl, Nat.le_of_ble_eq_true rfl⟩ rfl rfl (Nat.le_of_ble_eq_true rfl) (fun r40 S39 h => ?_)
          refine sh_si (N := mX9_in) (pc := 41) dX9_set_41 ml_X9_38 h mf_X9_in is_X9_in ⟨Nat.le_of_ble_eq_true rfl, Nat.le_of_ble_eq_true rfl⟩ rfl rfl (Nat.le_of_ble_eq_true rfl) (fun r42 S41 h => ?_)
          refine sh_if_ne (tgt := 50) (pc := 44) dX9_set_44 (by decide) (fun hc43 => ?_) (fun hc43 => ?_)
          · have h := h.1 hc43
            refine sh_aload_n (pc := 50) dX9_set_50 rfl ?_
            refine sh_cu (N := mX9_hold) (pc := 51) dX9_set_51 ml_X9_67 h mf_X9_hold iv_X9_hold ⟨Nat.le_of_ble_eq_true rfl, Nat.le_of_ble_eq_true rfl⟩ rfl rfl (Nat.le_of_ble_eq_true rfl) ok_9_0 rfl (show vwCl[9]? = some (RX9, TX9, 14) from rfl) rfl (fun S44 h => ?_)
            refine sh_aload_n (pc := 54) dX9_set_54 rfl ?_
            refine sh_gf (pc := 55) dX9_set_55 fl_X9_7 cf_9 ok_9_0 rfl rfl ?_
            refine sh_iload_n (pc := 58) dX9_set_58 rfl ?_
            obtain ⟨hi45, h⟩ := h
            refine sh_ia (pc := 59) dX9_set_59 ok_19_0 rfl hi45 ?_
            refine sh_topI (fun x46 hx46 => ?_)
            have h := h x46 hx46
            refine sh_istore (ls' := [(4, sh_I x46), (3, sh_I 1), (0, sh_R (9, 0, 0)), (1, sh_I a1), (2, sh_I a2)]) (pc := 60) dX9_set_60 (by decide) rfl ?_
            refine sh_aload_n (pc := 62) dX9_set_62 rfl ?_
            refine sh_gf (pc := 63) dX9_set_63 fl_X9_7 cf_9 ok_9_0 rfl rfl ?_
            refine sh_iload_n (pc := 66) dX9_set_66 rfl ?_
            refine sh_iload_n (pc := 67) dX9_set_67 rfl ?_
            obtain ⟨hi47, h⟩ := h
            refine sh_is (pc := 68) dX9_set_68 ok_19_0 rfl hi47 rfl ?_
            refine sh_topS (fun S48 hS48 => ?_)
            have h := h S48 hS48
            refine sh_aload_n (pc := 69) dX9_set_69 rfl ?_
            refine sh_iload (pc := 70) dX9_set_70 rfl ?_
            refine sh_ci (N := mX9_ends) (pc := 72) dX9_set_72 ml_X9_70 h mf_X9_ends iv_X9_ends ⟨Nat.le_of_ble_eq_true rfl, Nat.le_of_ble_eq_true rfl⟩ rfl rfl (Nat.le_of_ble_eq_true rfl) ok_9_0 rfl (show vwCl[9]? = some (RX9, TX9, 14) from rfl) rfl (fun r50 S49 h => ?_)
            exact sh_ret_i (pc := 75) dX9_set_75 rfl ⟨rfl, rfl⟩ h
          · have h := h.2 hc43
            refine sh_ldc (v := (-1000001)) (pc := 47) dX9_set_47 kc_X9_32 ?_
            exact sh_ret_i (pc := 49) dX9_set_49 rfl ⟨rfl, rfl⟩ h

set_option maxRecDepth 100000 in
set_option maxHeartbeats 4000000 in
theorem wp_X9_member {g : sh_G} {S : sh_S} {sz : Nat} {Q : Int32 → sh_S → Prop} 
    (h : ((¬ (S (19, 0, 0) 8) = 10 → (sh_Cu g mX9_hold [sh_R (9, 0, 0)] S sz (fun S3 => (∀ x5 : Int32, x5 = (S3 (19, 0, 0) 8) → (vp_in (12 + (S3 (19, 0, 0) 11)) 602 ∧ (∀ S8 : sh_S, S8 = sh_sr S3 (19, 0, 0) (upd (S3 (19, 0, 0)) ((12 + (S3 (19, 0, 0) 11)).toNatClampNeg) x5) → (∀ S11 : sh_S, S11 = sh_sr S8 (19, 0, 0) (upd (S8 (19, 0, 0)) 11 ((S8 (19, 0, 0) 11) + 1)) → (∀ S14 : sh_S, S14 = sh_sr S11 (19, 0, 0) (upd (S11 (19, 0, 0)) 8 ((S11 (19, 0, 0) 8) + 1)) → (sh_Ci g mX9_ends [sh_R (9, 0, 0), sh_I x5] S14 sz (fun r16 S15 => Q r16 S15)))))))))) ∧ ((S (19, 0, 0) 8) = 10 → Q (-1000003) S))) :
    sh_Ci g mX9_member [sh_R (9, 0, 0)] S sz Q := by
  refine sh_enter (ls := [(0, sh_R (9, 0, 0))]) (by decide +kernel) (Nat.le_of_ble_eq_true rfl) rfl ?_
  refine sh_aload_n (pc := 0) dX9_member_0 rfl ?_
  refine sh_gf (pc := 1) dX9_member_1 fl_X9_7 cf_9 ok_9_0 rfl rfl ?_
  refine sh_bipush (v := 8) (pc := 4) dX9_member_4 rfl ?_
  refine sh_ia (pc := 6) dX9_member_6 ok_19_0 rfl (vp_in_iff.mpr ⟨by decide, by decide⟩) ?_
  refine sh_bipush (v := 10) (pc := 7) dX9_member_7 rfl ?_
  refine sh_icmp_ne (tgt := 15) (pc := 9) dX9_member_9 (by decide) (fun hc2 => ?_) (fun hc2 => ?_)
  · have h := h.1 hc2
    refine sh_aload_n (pc := 15) dX9_member_15 rfl ?_
    refine sh_cu (N := mX9_hold) (pc := 16) dX9_member_16 ml_X9_67 h mf_X9_hold iv_X9_hold ⟨Nat.le_of_ble_eq_true rfl, Nat.le_of_ble_eq_true rfl⟩ rfl rfl (Nat.le_of_ble_eq_true rfl) ok_9_0 rfl (show vwCl[9]? = some (RX9, TX9, 14) from rfl) rfl (fun S3 h => ?_)
    refine sh_aload_n (pc := 19) dX9_member_19 rfl ?_
    refine sh_gf (pc := 20) dX9_member_20 fl_X9_7 cf_9 ok_9_0 rfl rfl ?_
    refine sh_bipush (v := 8) (pc := 23) dX9_member_23 rfl ?_
    refine sh_ia (pc := 25) dX9_member_25 ok_19_0 rfl (vp_in_iff.mpr ⟨by decide, by decide⟩) ?_
    refine sh_topI (fun x5 hx5 => ?_)
    have h := h x5 hx5
    refine sh_istore_n (ls' := [(1, sh_I x5), (0, sh_R (9, 0, 0))]) (pc := 26) dX9_member_26 (by decide) rfl ?_
    refine sh_aload_n (pc := 27) dX9_member_27 rfl ?_
    refine sh_gf (pc := 28) dX9_member_28 fl_X9_7 cf_9 ok_9_0 rfl rfl ?_
    refine sh_bipush (v := 12) (pc := 31) dX9_member_31 rfl ?_
    refine sh_aload_n (pc := 33) dX9_member_33 rfl ?_
    refine sh_gf (pc := 34) dX9_member_34 fl_X9_7 cf_9 ok_9_0 rfl rfl ?_
    refine sh_bipush (v := 11) (pc := 37) dX9_member_37 rfl ?_
    refine sh_ia (pc := 39) dX9_member_39 ok_19_0 rfl (vp_in_iff.mpr ⟨by decide, by decide⟩) ?_
    refine sh_iadd (pc := 40) dX9_member_40 ?_
    refine sh_iload_n (pc := 41) dX9_member_41 rfl ?_
    obtain ⟨hi7, h⟩ := h
    refine sh_is (pc := 42) dX9_member_42 ok_19_0 rfl hi7 rfl ?_
    refine sh_topS (fun S8 hS8 => ?_)
    have h := h S8 hS8
    refine sh_aload_n (pc := 43) dX9_member_43 rfl ?_
    refine sh_gf (pc := 44) dX9_member_44 fl_X9_7 cf_9 ok_9_0 rfl rfl ?_
    refine sh_bipush (v := 11) (pc := 47) dX9_member_47 rfl ?_
    refine sh_dup2 (pc := 49) dX9_member_49 rfl rfl ?_
    refine sh_ia (pc := 50) dX9_member_50 ok_19_0 rfl (vp_in_iff.mpr ⟨by decide, by decide⟩) ?_
    refine sh_iconst (v := 1) (pc := 51) dX9_member_51 rfl ?_
    refine sh_iadd (pc := 52) dX9_member_52 ?_
    refine sh_is (pc := 53) dX9_member_53 ok_19_0 rfl (vp_in_iff.mpr ⟨by decide, by decide⟩) rfl ?_
    refine sh_topS (fun S11 hS11 => ?_)
    have h := h S11 hS11
    refine sh_aload_n (pc := 54) dX9_member_54 rfl ?_
    refine sh_gf (pc := 55) dX9_member_55 fl_X9_7 cf_9 ok_9_0 rfl rfl ?_
    refine sh_bipush (v := 8) (pc := 58) dX9_member_58 rfl ?_
    refine sh_dup2 (pc := 60) dX9_member_60 rfl rfl ?_
    refine sh_ia (pc := 61) dX9_member_61 ok_19_0 rfl (vp_in_iff.mpr ⟨by decide, by decide⟩) ?_
    refine sh_iconst (v := 1) (pc := 62) dX9_member_62 rfl ?_
    refine sh_iadd (pc := 63) dX9_member_63 ?_
    refine sh_is (pc := 64) dX9_member_64 ok_19_0 rfl (vp_in_iff.mpr ⟨by decide, by decide⟩) rfl ?_
    refine sh_topS (fun S14 hS14 => ?_)
    have h := h S14 hS14
    refine sh_aload_n (pc := 65) dX9_member_65 rfl ?_
    refine sh_iload_n (pc := 66) dX9_member_66 rfl ?_
    refine sh_ci (N := mX9_ends) (pc := 67) dX9_member_67 ml_X9_70 h mf_X9_ends iv_X9_ends ⟨Nat.le_of_ble_eq_true rfl, Nat.le_of_ble_eq_true rfl⟩ rfl rfl (Nat.le_of_ble_eq_true rfl) ok_9_0 rfl (show vwCl[9]? = some (RX9, TX9, 14) from rfl) rfl (fun r16 S15 h => ?_)
    exact sh_ret_i (pc := 70) dX9_member_70 rfl ⟨rfl, rfl⟩ h
  · have h := h.2 hc2
    refine sh_ldc (v := (-1000003)) (pc := 12) dX9_member_12 kc_X9_73 ?_
    exact sh_ret_i (pc := 14) dX9_member_14 rfl ⟨rfl, rfl⟩ h

set_option maxRecDepth 100000 in
set_option maxHeartbeats 4000000 in
theorem wp_X9_away {g : sh_G} {S : sh_S} {sz : Nat} {Q : Int32 → sh_S → Prop} {a1 : Int32} {a2 : Int32} 
    (h : (sh_Ci g mX9_isMember [sh_R (9, 0, 0), sh_I a1] S sz (fun r2 S1 => ((r2 = 0 → Q (-1000001) S1) ∧ (¬ r2 = 0 → (sh_Ci g mX9_in [sh_I a2, sh_I 0, sh_I 1] S1 sz (fun r5 S4 => ((¬ r5 = 0 → (sh_Ci g mX9_of [sh_R (9, 0, 0), sh_I a1, sh_I 0] S4 sz (fun r8 S7 => ((¬ r8 = 2 → (sh_Cu g mX9_hold [sh_R (9, 0, 0)] S7 sz (fun S10 => (sh_Ci g mX9_of [sh_R (9, 0, 0), sh_I a1, sh_I 0] S10 sz (fun r12 S11 => (vp_in ((22 + (12 * a1)) + 0) 602 ∧ (∀ S14 : sh_S, S14 = sh_sr S11 (19, 0, 0) (upd (S11 (19, 0, 0)) (((22 + (12 * a1)) + 0).toNatClampNeg) a2) → (sh_Ci g mX9_ends [sh_R (9, 0, 0), sh_I r12] S14 sz (fun r16 S15 => Q r16 S15))))))))) ∧ (r8 = 2 → Q (-1000002) S7))))) ∧ (r5 = 0 → Q (-1000001) S4))))))))) :
    sh_Ci g mX9_away [sh_R (9, 0, 0), sh_I a1, sh_I a2] S sz Q := by
  refine sh_enter (ls := [(0, sh_R (9, 0, 0)), (1, sh_I a1), (2, sh_I a2)]) (by decide +kernel) (Nat.le_of_ble_eq_true rfl) rfl ?_
  refine sh_aload_n (pc := 0) dX9_away_0 rfl ?_
  refine sh_iload_n (pc := 1) dX9_away_1 rfl ?_
  refine sh_ci (N := mX9_isMember) (pc := 2) dX9_away_2 ml_X9_74 h mf_X9_isMember iv_X9_isMember ⟨Nat.le_of_ble_eq_true rfl, Nat.le_of_ble_eq_true rfl⟩ rfl rfl (Nat.le_of_ble_eq_true rfl) ok_9_0 rfl (show vwCl[9]? = some (RX9, TX9, 14) from rfl) rfl (fun r2 S1 h => ?_)
  refine sh_if_eq (tgt := 17) (pc := 5) dX9_away_5 (by decide) (fun hc3 => ?_) (fun hc3 => ?_)
  · have h := h.1 hc3
    refine sh_ldc (v := (-1000001)) (pc := 17) dX9_away_17 kc_X9_32 ?_
    exact sh_ret_i (pc := 19) dX9_away_19 rfl ⟨rfl, rfl⟩ h
  · have h := h.2 hc3
    refine sh_iload_n (pc := 8) dX9_away_8 rfl ?_
    refine sh_iconst (v := 0) (pc := 9) dX9_away_9 rfl ?_
    refine sh_iconst (v := 1) (pc := 10) dX9_away_10 rfl ?_
    refine sh_si (N := mX9_in) (pc := 11) dX9_away_11 ml_X9_38 h mf_X9_in is_X9_in ⟨Nat.le_of_ble_eq_true rfl, Nat.le_of_ble_eq_true rfl⟩ rfl rfl (Nat.le_of_ble_eq_true rfl) (fun r5 S4 h => ?_)
    refine sh_if_ne (tgt := 20) (pc := 14) dX9_away_14 (by decide) (fun hc6 => ?_) (fun hc6 => ?_)
    · have h := h.1 hc6
      refine sh_aload_n (pc := 20) dX9_away_20 rfl ?_
      refine sh_iload_n (pc := 21) dX9_away_21 rfl ?_
      refine sh_iconst (v := 0) (pc := 22) dX9_away_22 rfl ?_
      refine sh_ci (N := mX9_of) (pc := 23) dX9_away_23 ml_X9_46 h mf_X9_of iv_X9_of ⟨Nat.le_of_ble_eq_true rfl, Nat.le_of_ble_eq_true rfl⟩ rfl rfl (Nat.le_of_ble_eq_true rfl) ok_9_0 rfl (show vwCl[9]? = some (RX9, TX9, 14) from rfl) rfl (fun r8 S7 h => ?_)
      refine sh_iconst (v := 2) (pc := 26) dX9_away_26 rfl ?_
      refine sh_icmp_ne (tgt := 33) (pc := 27) dX9_away_27 (by decide) (fun hc9 => ?_) (fun hc9 => ?_)
      · have h := h.1 hc9
        refine sh_aload_n (pc := 33) dX9_away_33 rfl ?_
        refine sh_cu (N := mX9_hold) (pc := 34) dX9_away_34 ml_X9_67 h mf_X9_hold iv_X9_hold ⟨Nat.le_of_ble_eq_true rfl, Nat.le_of_ble_eq_true rfl⟩ rfl rfl (Nat.le_of_ble_eq_true rfl) ok_9_0 rfl (show vwCl[9]? = some (RX9, TX9, 14) from rfl) rfl (fun S10 h => ?_)
        refine sh_aload_n (pc := 37) dX9_away_37 rfl ?_
        refine sh_iload_n (pc := 38) dX9_away_38 rfl ?_
        refine sh_iconst (v := 0) (pc := 39) dX9_away_39 rfl ?_
        refine sh_ci (N := mX9_of) (pc := 40) dX9_away_40 ml_X9_46 h mf_X9_of iv_X9_of ⟨Nat.le_of_ble_eq_true rfl, Nat.le_of_ble_eq_true rfl⟩ rfl rfl (Nat.le_of_ble_eq_true rfl) ok_9_0 rfl (show vwCl[9]? = some (RX9, TX9, 14) from rfl) rfl (fun r12 S11 h => ?_)
        refine sh_istore_n (ls' := [(3, sh_I r12), (0, sh_R (9, 0, 0)), (1, sh_I a1), (2, sh_I a2)]) (pc := 43) dX9_away_43 (by decide) rfl ?_
        refine sh_aload_n (pc := 44) dX9_away_44 rfl ?_
        refine sh_gf (pc := 45) dX9_away_45 fl_X9_7 cf_9 ok_9_0 rfl rfl ?_
        refine sh_bipush (v := 22) (pc := 48) dX9_away_48 rfl ?_
        refine sh_bipush (v := 12) (pc := 50) dX9_away_50 rfl ?_
        refine sh_iload_n (pc := 52) dX9_away_52 rfl ?_
        refine sh_imul (pc := 53) dX9_away_53 ?_
        refine sh_iadd (pc := 54) dX9_away_54 ?_
        refine sh_iconst (v := 0) (pc := 55) dX9_away_55 rfl ?_
        refine sh_iadd (pc := 56) dX9_away_56 ?_
        refine sh_iload_n (pc := 57) dX9_away_57 rfl ?_
        obtain ⟨hi13, h⟩ := h
        refine sh_is (pc := 58) dX9_away_58 ok_19_0 rfl hi13 rfl ?_
        refine sh_topS (fun S14 hS14 => ?_)
        have h := h S14 hS14
        refine sh_aload_n (pc := 59) dX9_away_59 rfl ?_
        refine sh_iload_n (pc := 60) dX9_away_60 rfl ?_
        refine sh_ci (N := mX9_ends) (pc := 61) dX9_away_61 ml_X9_70 h mf_X9_ends iv_X9_ends ⟨Nat.le_of_ble_eq_true rfl, Nat.le_of_ble_eq_true rfl⟩ rfl rfl (Nat.le_of_ble_eq_true rfl) ok_9_0 rfl (show vwCl[9]? = some (RX9, TX9, 14) from rfl) rfl (fun r16 S15 h => ?_)
        exact sh_ret_i (pc := 64) dX9_away_64 rfl ⟨rfl, rfl⟩ h
      · have h := h.2 hc9
        refine sh_ldc (v := (-1000002)) (pc := 30) dX9_away_30 kc_X9_78 ?_
        exact sh_ret_i (pc := 32) dX9_away_32 rfl ⟨rfl, rfl⟩ h
    · have h := h.2 hc6
      refine sh_ldc (v := (-1000001)) (pc := 17) dX9_away_17 kc_X9_32 ?_
      exact sh_ret_i (pc := 19) dX9_away_19 rfl ⟨rfl, rfl⟩ h

set_option maxRecDepth 100000 in
set_option maxHeartbeats 4000000 in
theorem wp_X9_toolsOf {g : sh_G} {S : sh_S} {sz : Nat} {Q : Int32 → sh_S → Prop} {a1 : Int32} {a2 : Int32} 
    (h : (∃ (Iv1 : Int32 → Int32 → sh_S → Prop) (mu1 : Int32 → Int32 → sh_S → Nat), Iv1 0 0 S ∧ ∀ (v2 : Int32) (v3 : Int32) (S4 : sh_S), Iv1 v2 v3 S4 → (((S4 (19, 0, 0) 9) ≤ v3 → Q v2 S4) ∧ (¬ (S4 (19, 0, 0) 9) ≤ v3 → (sh_Ci g mX9_its [sh_R (9, 0, 0), sh_I v3, sh_I 3] S4 sz (fun r8 S7 => ((r8 = 1 → (sh_Ci g mX9_its [sh_R (9, 0, 0), sh_I v3, sh_I 4] S7 sz (fun r12 S11 => ((¬ r12 = a1 → (∀ x14 : Int32, x14 = (v2 + 0) → (∀ x15 : Int32, x15 = v3 + 1 → (Iv1 x14 x15 S11 ∧ mu1 x14 x15 S11 < mu1 v2 v3 S4)))) ∧ (r12 = a1 → (∀ x16 : Int32, x16 = (v2 + 1) → (∀ x17 : Int32, x17 = v3 + 1 → (Iv1 x16 x17 S11 ∧ mu1 x16 x17 S11 < mu1 v2 v3 S4)))))))) ∧ (¬ r8 = 1 → ((a2 = 0 → (∀ x20 : Int32, x20 = (v2 + 0) → (∀ x21 : Int32, x21 = v3 + 1 → (Iv1 x20 x21 S7 ∧ mu1 x20 x21 S7 < mu1 v2 v3 S4)))) ∧ (¬ a2 = 0 → (sh_Ci g mX9_its [sh_R (9, 0, 0), sh_I v3, sh_I 3] S7 sz (fun r23 S22 => ((¬ r23 = 2 → (∀ x26 : Int32, x26 = (v2 + 0) → (∀ x27 : Int32, x27 = v3 + 1 → (Iv1 x26 x27 S22 ∧ mu1 x26 x27 S22 < mu1 v2 v3 S4)))) ∧ (r23 = 2 → (sh_Ci g mX9_its [sh_R (9, 0, 0), sh_I v3, sh_I 4] S22 sz (fun r30 S29 => ((¬ r30 = a1 → (∀ x32 : Int32, x32 = (v2 + 0) → (∀ x33 : Int32, x33 = v3 + 1 → (Iv1 x32 x33 S29 ∧ mu1 x32 x33 S29 < mu1 v2 v3 S4)))) ∧ (r30 = a1 → (∀ x34 : Int32, x34 = (v2 + 1) → (∀ x35 : Int32, x35 = v3 + 1 → (Iv1 x34 x35 S29 ∧ mu1 x34 x35 S29 < mu1 v2 v3 S4))))))))))))))))))))) :
    sh_Ci g mX9_toolsOf [sh_R (9, 0, 0), sh_I a1, sh_I a2] S sz Q := by
  refine sh_enter (ls := [(0, sh_R (9, 0, 0)), (1, sh_I a1), (2, sh_I a2)]) (by decide +kernel) (Nat.le_of_ble_eq_true rfl) rfl ?_
  refine sh_iconst (v := 0) (pc := 0) dX9_toolsOf_0 rfl ?_
  refine sh_istore_n (ls' := [(3, sh_I 0), (0, sh_R (9, 0, 0)), (1, sh_I a1), (2, sh_I a2)]) (pc := 1) dX9_toolsOf_1 (by decide) rfl ?_
  refine sh_iconst (v := 0) (pc := 2) dX9_toolsOf_2 rfl ?_
  refine sh_istore (ls' := [(4, sh_I 0), (3, sh_I 0), (0, sh_R (9, 0, 0)), (1, sh_I a1), (2, sh_I a2)]) (pc := 3) dX9_toolsOf_3 (by decide) rfl ?_
  obtain ⟨Iv1, mu1, h0, hs1⟩ := h
  refine sh_pick [2, 3, 4, 1, 0] rfl ?_
  refine sh_lp3 Iv1 mu1 (fun v2 v3 S4 => sh_V g mX9_toolsOf 0 0 5 [(0, sh_R (9, 0, 0)), (1, sh_I a1), (2, sh_I a2), (3, sh_I v2), (4, sh_I v3)] [] (sh_St S4) sz (sh_ti sz Q)) (fun v2 v3 S4 hI1 ih1 => ?_) _ _ _ h0
  have h := hs1 v2 v3 S4 hI1
  clear h0
  refine sh_iload (pc := 5) dX9_toolsOf_5 rfl ?_
  refine sh_aload_n (pc := 7) dX9_toolsOf_7 rfl ?_
  refine sh_gf (pc := 8) dX9_toolsOf_8 fl_X9_7 cf_9 ok_9_0 rfl rfl ?_
  refine sh_bipush (v := 9) (pc := 11) dX9_toolsOf_11 rfl ?_
  refine sh_ia (pc := 13) dX9_toolsOf_13 ok_19_0 rfl (vp_in_iff.mpr ⟨by decide, by decide⟩) ?_
  refine sh_icmp_ge (tgt := 80) (pc := 14) dX9_toolsOf_14 (by decide) (fun hc6 => ?_) (fun hc6 => ?_)
  · have h := h.1 hc6
    refine sh_iload_n (pc := 80) dX9_toolsOf_80 rfl ?_
    exact sh_ret_i (pc := 81) dX9_toolsOf_81 rfl ⟨rfl, rfl⟩ h
  · have h := h.2 hc6
    refine sh_aload_n (pc := 17) dX9_toolsOf_17 rfl ?_
    refine sh_iload (pc := 18) dX9_toolsOf_18 rfl ?_
    refine sh_iconst (v := 3) (pc := 20) dX9_toolsOf_20 rfl ?_
    refine sh_ci (N := mX9_its) (pc := 21) dX9_toolsOf_21 ml_X9_79 h mf_X9_its iv_X9_its ⟨Nat.le_of_ble_eq_true rfl, Nat.le_of_ble_eq_true rfl⟩ rfl rfl (Nat.le_of_ble_eq_true rfl) ok_9_0 rfl (show vwCl[9]? = some (RX9, TX9, 14) from rfl) rfl (fun r8 S7 h => ?_)
    refine sh_iconst (v := 1) (pc := 24) dX9_toolsOf_24 rfl ?_
    refine sh_icmp_eq (tgt := 43) (pc := 25) dX9_toolsOf_25 (by decide) (fun hc9 => ?_) (fun hc9 => ?_)
    · have h := h.1 hc9
      refine sh_iconst (v := 1) (pc := 43) dX9_toolsOf_43 rfl ?_
      refine sh_goto (tgt := 48) (pc := 44) dX9_toolsOf_44 (by decide) ?_
      refine sh_istore (ls' := [(5, sh_I 1), (0, sh_R (9, 0, 0)), (1, sh_I a1), (2, sh_I a2), (3, sh_I v2), (4, sh_I v3)]) (pc := 48) dX9_toolsOf_48 (by decide) rfl ?_
      refine sh_iload_n (pc := 50) dX9_toolsOf_50 rfl ?_
      refine sh_iload (pc := 51) dX9_toolsOf_51 rfl ?_
      refine sh_if_eq (tgt := 71) (pc := 53) dX9_toolsOf_53 (by decide) (fun hc10 => ?_) (fun hc10 => ?_)
      · exact absurd hc10 (by decide)
      · skip
        refine sh_aload_n (pc := 56) dX9_toolsOf_56 rfl ?_
        refine sh_iload (pc := 57) dX9_toolsOf_57 rfl ?_
        refine sh_iconst (v := 4) (pc := 59) dX9_toolsOf_59 rfl ?_
        refine sh_ci (N := mX9_its) (pc := 60) dX9_toolsOf_60 ml_X9_79 h mf_X9_its iv_X9_its ⟨Nat.le_of_ble_eq_true rfl, Nat.le_of_ble_eq_true rfl⟩ rfl rfl (Nat.le_of_ble_eq_true rfl) ok_9_0 rfl (show vwCl[9]? = some (RX9, TX9, 14) from rfl) rfl (fun r12 S11 h => ?_)
        refine sh_iload_n (pc := 63) dX9_toolsOf_63 rfl ?_
        refine sh_icmp_ne (tgt := 71) (pc := 64) dX9_toolsOf_64 (by decide) (fun hc13 => ?_) (fun hc13 => ?_)
        · have h := h.1 hc13
          refine sh_iconst (v := 0) (pc := 71) dX9_toolsOf_71 rfl ?_
          refine sh_iadd (pc := 72) dX9_toolsOf_72 ?_
          refine sh_topI (fun x14 hx14 => ?_)
          have h := h x14 hx14
          refine sh_istore_n (ls' := [(3, sh_I x14), (5, sh_I 1), (0, sh_R (9, 0, 0)), (1, sh_I a1), (2, sh_I a2), (4, sh_I v3)]) (pc := 73) dX9_toolsOf_73 (by decide) rfl ?_
          obtain ⟨x15, hx15⟩ : ∃ y : Int32, y = v3 + 1 := ⟨_, rfl⟩
          have h := h x15 hx15
          refine sh_iinc (v := x15) (ls' := [(4, sh_I x15), (3, sh_I x14), (5, sh_I 1), (0, sh_R (9, 0, 0)), (1, sh_I a1), (2, sh_I a2)]) (pc := 74) dX9_toolsOf_74 rfl hx15.symm (by decide) rfl ?_
          refine sh_goto (tgt := 5) (pc := 77) dX9_toolsOf_77 (by decide) ?_
          refine sh_pick [3, 4, 5, 1, 0] rfl ?_
          exact ih1 _ _ _ h.1 h.2
        · have h := h.2 hc13
          refine sh_iconst (v := 1) (pc := 67) dX9_toolsOf_67 rfl ?_
          refine sh_goto (tgt := 72) (pc := 68) dX9_toolsOf_68 (by decide) ?_
          refine sh_iadd (pc := 72) dX9_toolsOf_72 ?_
          refine sh_topI (fun x16 hx16 => ?_)
          have h := h x16 hx16
          refine sh_istore_n (ls' := [(3, sh_I x16), (5, sh_I 1), (0, sh_R (9, 0, 0)), (1, sh_I a1), (2, sh_I a2), (4, sh_I v3)]) (pc := 73) dX9_toolsOf_73 (by decide) rfl ?_
          obtain ⟨x17, hx17⟩ : ∃ y : Int32, y = v3 + 1 := ⟨_, rfl⟩
          have h := h x17 hx17
          refine sh_iinc (v := x17) (ls' := [(4, sh_I x17), (3, sh_I x16), (5, sh_I 1), (0, sh_R (9, 0, 0)), (1, sh_I a1), (2, sh_I a2)]) (pc := 74) dX9_toolsOf_74 rfl hx17.symm (by decide) rfl ?_
          refine sh_goto (tgt := 5) (pc := 77) dX9_toolsOf_77 (by decide) ?_
          refine sh_pick [3, 4, 5, 1, 0] rfl ?_
          exact ih1 _ _ _ h.1 h.2
    · have h := h.2 hc9
      refine sh_iload_n (pc := 28) dX9_toolsOf_28 rfl ?_
      refine sh_if_eq (tgt := 47) (pc := 29) dX9_toolsOf_29 (by decide) (fun hc18 => ?_) (fun hc18 => ?_)
      · have h := h.1 hc18
        refine sh_iconst (v := 0) (pc := 47) dX9_toolsOf_47 rfl ?_
        refine sh_istore (ls' := [(5, sh_I 0), (0, sh_R (9, 0, 0)), (1, sh_I a1), (2, sh_I a2), (3, sh_I v2), (4, sh_I v3)]) (pc := 48) dX9_toolsOf_48 (by decide) rfl ?_
        refine sh_iload_n (pc := 50) dX9_toolsOf_50 rfl ?_
        refine sh_iload (pc := 51) dX9_toolsOf_51 rfl ?_
        refine sh_if_eq (tgt := 71) (pc := 53) dX9_toolsOf_53 (by decide) (fun hc19 => ?_) (fun hc19 => ?_)
        · skip
          refine sh_iconst (v := 0) (pc := 71) dX9_toolsOf_71 rfl ?_
          refine sh_iadd (pc := 72) dX9_toolsOf_72 ?_
          refine sh_topI (fun x20 hx20 => ?_)
          have h := h x20 hx20
          refine sh_istore_n (ls' := [(3, sh_I x20), (5, sh_I 0), (0, sh_R (9, 0, 0)), (1, sh_I a1), (2, sh_I a2), (4, sh_I v3)]) (pc := 73) dX9_toolsOf_73 (by decide) rfl ?_
          obtain ⟨x21, hx21⟩ : ∃ y : Int32, y = v3 + 1 := ⟨_, rfl⟩
          have h := h x21 hx21
          refine sh_iinc (v := x21) (ls' := [(4, sh_I x21), (3, sh_I x20), (5, sh_I 0), (0, sh_R (9, 0, 0)), (1, sh_I a1), (2, sh_I a2)]) (pc := 74) dX9_toolsOf_74 rfl hx21.symm (by decide) rfl ?_
          refine sh_goto (tgt := 5) (pc := 77) dX9_toolsOf_77 (by decide) ?_
          refine sh_pick [3, 4, 5, 1, 0] rfl ?_
          exact ih1 _ _ _ h.1 h.2
        · exact absurd hc19 (by decide)
      · have h := h.2 hc18
        refine sh_aload_n (pc := 32) dX9_toolsOf_32 rfl ?_
        refine sh_iload (pc := 33) dX9_toolsOf_33 rfl ?_
        refine sh_iconst (v := 3) (pc := 35) dX9_toolsOf_35 rfl ?_
        refine sh_ci (N := mX9_its) (pc := 36) dX9_toolsOf_36 ml_X9_79 h mf_X9_its iv_X9_its ⟨Nat.le_of_ble_eq_true rfl, Nat.le_of_ble_eq_true rfl⟩ rfl rfl (Nat.le_of_ble_eq_true rfl) ok_9_0 rfl (show vwCl[9]? = some (RX9, TX9, 14) from rfl) rfl (fun r23 S22 h => ?_)
        refine sh_iconst (v := 2) (pc := 39) dX9_toolsOf_39 rfl ?_
        refine sh_icmp_ne (tgt := 47) (pc := 40) dX9_toolsOf_40 (by decide) (fun hc24 => ?_) (fun hc24 => ?_)
        · have h := h.1 hc24
          refine sh_iconst (v := 0) (pc := 47) dX9_toolsOf_47 rfl ?_
          refine sh_istore (ls' := [(5, sh_I 0), (0, sh_R (9, 0, 0)), (1, sh_I a1), (2, sh_I a2), (3, sh_I v2), (4, sh_I v3)]) (pc := 48) dX9_toolsOf_48 (by decide) rfl ?_
          refine sh_iload_n (pc := 50) dX9_toolsOf_50 rfl ?_
          refine sh_iload (pc := 51) dX9_toolsOf_51 rfl ?_
          refine sh_if_eq (tgt := 71) (pc := 53) dX9_toolsOf_53 (by decide) (fun hc25 => ?_) (fun hc25 => ?_)
          · skip
            refine sh_iconst (v := 0) (pc := 71) dX9_toolsOf_71 rfl ?_
            refine sh_iadd (pc := 72) dX9_toolsOf_72 ?_
            refine sh_topI (fun x26 hx26 => ?_)
            have h := h x26 hx26
            refine sh_istore_n (ls' := [(3, sh_I x26), (5, sh_I 0), (0, sh_R (9, 0, 0)), (1, sh_I a1), (2, sh_I a2), (4, sh_I v3)]) (pc := 73) dX9_toolsOf_73 (by decide) rfl ?_
            obtain ⟨x27, hx27⟩ : ∃ y : Int32, y = v3 + 1 := ⟨_, rfl⟩
            have h := h x27 hx27
            refine sh_iinc (v := x27) (ls' := [(4, sh_I x27), (3, sh_I x26), (5, sh_I 0), (0, sh_R (9, 0, 0)), (1, sh_I a1), (2, sh_I a2)]) (pc := 74) dX9_toolsOf_74 rfl hx27.symm (by decide) rfl ?_
            refine sh_goto (tgt := 5) (pc := 77) dX9_toolsOf_77 (by decide) ?_
            refine sh_pick [3, 4, 5, 1, 0] rfl ?_
            exact ih1 _ _ _ h.1 h.2
          · exact absurd hc25 (by decide)
        · have h := h.2 hc24
          refine sh_iconst (v := 1) (pc := 43) dX9_toolsOf_43 rfl ?_
          refine sh_goto (tgt := 48) (pc := 44) dX9_toolsOf_44 (by decide) ?_
          refine sh_istore (ls' := [(5, sh_I 1), (0, sh_R (9, 0, 0)), (1, sh_I a1), (2, sh_I a2), (3, sh_I v2), (4, sh_I v3)]) (pc := 48) dX9_toolsOf_48 (by decide) rfl ?_
          refine sh_iload_n (pc := 50) dX9_toolsOf_50 rfl ?_
          refine sh_iload (pc := 51) dX9_toolsOf_51 rfl ?_
          refine sh_if_eq (tgt := 71) (pc := 53) dX9_toolsOf_53 (by decide) (fun hc28 => ?_) (fun hc28 => ?_)
          · exact absurd hc28 (by decide)
          · skip
            refine sh_aload_n (pc := 56) dX9_toolsOf_56 rfl ?_
            refine sh_iload (pc := 57) dX9_toolsOf_57 rfl ?_
            refine sh_iconst (v := 4) (pc := 59) dX9_toolsOf_59 rfl ?_
            refine sh_ci (N := mX9_its) (pc := 60) dX9_toolsOf_60 ml_X9_79 h mf_X9_its iv_X9_its ⟨Nat.le_of_ble_eq_true rfl, Nat.le_of_ble_eq_true rfl⟩ rfl rfl (Nat.le_of_ble_eq_true rfl) ok_9_0 rfl (show vwCl[9]? = some (RX9, TX9, 14) from rfl) rfl (fun r30 S29 h => ?_)
            refine sh_iload_n (pc := 63) dX9_toolsOf_63 rfl ?_
            refine sh_icmp_ne (tgt := 71) (pc := 64) dX9_toolsOf_64 (by decide) (fun hc31 => ?_) (fun hc31 => ?_)
            · have h := h.1 hc31
              refine sh_iconst (v := 0) (pc := 71) dX9_toolsOf_71 rfl ?_
              refine sh_iadd (pc := 72) dX9_toolsOf_72 ?_
              refine sh_topI (fun x32 hx32 => ?_)
              have h := h x32 hx32
              refine sh_istore_n (ls' := [(3, sh_I x32), (5, sh_I 1), (0, sh_R (9, 0, 0)), (1, sh_I a1), (2, sh_I a2), (4, sh_I v3)]) (pc := 73) dX9_toolsOf_73 (by decide) rfl ?_
              obtain ⟨x33, hx33⟩ : ∃ y : Int32, y = v3 + 1 := ⟨_, rfl⟩
              have h := h x33 hx33
              refine sh_iinc (v := x33) (ls' := [(4, sh_I x33), (3, sh_I x32), (5, sh_I 1), (0, sh_R (9, 0, 0)), (1, sh_I a1), (2, sh_I a2)]) (pc := 74) dX9_toolsOf_74 rfl hx33.symm (by decide) rfl ?_
              refine sh_goto (tgt := 5) (pc := 77) dX9_toolsOf_77 (by decide) ?_
              refine sh_pick [3, 4, 5, 1, 0] rfl ?_
              exact ih1 _ _ _ h.1 h.2
            · have h := h.2 hc31
              refine sh_iconst (v := 1) (pc := 67) dX9_toolsOf_67 rfl ?_
              refine sh_goto (tgt := 72) (pc := 68) dX9_toolsOf_68 (by decide) ?_
              refine sh_iadd (pc := 72) dX9_toolsOf_72 ?_
              refine sh_topI (fun x34 hx34 => ?_)
              have h := h x34 hx34
              refine sh_istore_n (ls' := [(3, sh_I x34), (5, sh_I 1), (0, sh_R (9, 0, 0)), (1, sh_I a1), (2, sh_I a2), (4, sh_I v3)]) (pc := 73) dX9_toolsOf_73 (by decide) rfl ?_
              obtain ⟨x35, hx35⟩ : ∃ y : Int32, y = v3 + 1 := ⟨_, rfl⟩
              have h := h x35 hx35
              refine sh_iinc (v := x35) (ls' := [(4, sh_I x35), (3, sh_I x34), (5, sh_I 1), (0, sh_R (9, 0, 0)), (1, sh_I a1), (2, sh_I a2)]) (pc := 74) dX9_toolsOf_74 rfl hx35.symm (by decide) rfl ?_
              refine sh_goto (tgt := 5) (pc := 77) dX9_toolsOf_77 (by decide) ?_
              refine sh_pick [3, 4, 5, 1, 0] rfl ?_
              exact ih1 _ _ _ h.1 h.2

set_option maxRecDepth 100000 in
set_option maxHeartbeats 4000000 in
theorem wp_X9_placeIn {g : sh_G} {S : sh_S} {sz : Nat} {Q : Int32 → sh_S → Prop} {a1 : Int32} {a2 : Int32} 
    (h : (∃ (Iv1 : Int32 → sh_S → Prop) (mu1 : Int32 → sh_S → Nat), Iv1 0 S ∧ ∀ (v2 : Int32) (S3 : sh_S), Iv1 v2 S3 → ((3 ≤ v2 → Q (-1) S3) ∧ (¬ 3 ≤ v2 → (sh_Ci g mX9_its [sh_R (9, 0, 0), sh_I a1, sh_I (12 + v2)] S3 sz (fun r6 S5 => ((¬ r6 = a2 → (∀ x8 : Int32, x8 = v2 + 1 → (Iv1 x8 S5 ∧ mu1 x8 S5 < mu1 v2 S3))) ∧ (r6 = a2 → Q v2 S5)))))))) :
    sh_Ci g mX9_placeIn [sh_R (9, 0, 0), sh_I a1, sh_I a2] S sz Q := by
  refine sh_enter (ls := [(0, sh_R (9, 0, 0)), (1, sh_I a1), (2, sh_I a2)]) (by decide +kernel) (Nat.le_of_ble_eq_true rfl) rfl ?_
  refine sh_iconst (v := 0) (pc := 0) dX9_placeIn_0 rfl ?_
  refine sh_istore_n (ls' := [(3, sh_I 0), (0, sh_R (9, 0, 0)), (1, sh_I a1), (2, sh_I a2)]) (pc := 1) dX9_placeIn_1 (by decide) rfl ?_
  obtain ⟨Iv1, mu1, h0, hs1⟩ := h
  refine sh_pick [1, 2, 3, 0] rfl ?_
  refine sh_lp2 Iv1 mu1 (fun v2 S3 => sh_V g mX9_placeIn 0 0 2 [(0, sh_R (9, 0, 0)), (1, sh_I a1), (2, sh_I a2), (3, sh_I v2)] [] (sh_St S3) sz (sh_ti sz Q)) (fun v2 S3 hI1 ih1 => ?_) _ _ h0
  have h := hs1 v2 S3 hI1
  clear h0
  refine sh_iload_n (pc := 2) dX9_placeIn_2 rfl ?_
  refine sh_iconst (v := 3) (pc := 3) dX9_placeIn_3 rfl ?_
  refine sh_icmp_ge (tgt := 28) (pc := 4) dX9_placeIn_4 (by decide) (fun hc4 => ?_) (fun hc4 => ?_)
  · have h := h.1 hc4
    refine sh_iconst (v := (-1)) (pc := 28) dX9_placeIn_28 rfl ?_
    exact sh_ret_i (pc := 29) dX9_placeIn_29 rfl ⟨rfl, rfl⟩ h
  · have h := h.2 hc4
    refine sh_aload_n (pc := 7) dX9_placeIn_7 rfl ?_
    refine sh_iload_n (pc := 8) dX9_placeIn_8 rfl ?_
    refine sh_bipush (v := 12) (pc := 9) dX9_placeIn_9 rfl ?_
    refine sh_iload_n (pc := 11) dX9_placeIn_11 rfl ?_
    refine sh_iadd (pc := 12) dX9_placeIn_12 ?_
    refine sh_ci (N := mX9_its) (pc := 13) dX9_placeIn_13 ml_X9_79 h mf_X9_its iv_X9_its ⟨Nat.le_of_ble_eq_true rfl, Nat.le_of_ble_eq_true rfl⟩ rfl rfl (Nat.le_of_ble_eq_true rfl) ok_9_0 rfl (show vwCl[9]? = some (RX9, TX9, 14) from rfl) rfl (fun r6 S5 h => ?_)
    refine sh_iload_n (pc := 16) dX9_placeIn_16 rfl ?_
    refine sh_icmp_ne (tgt := 22) (pc := 17) dX9_placeIn_17 (by decide) (fun hc7 => ?_) (fun hc7 => ?_)
    · have h := h.1 hc7
      obtain ⟨x8, hx8⟩ : ∃ y : Int32, y = v2 + 1 := ⟨_, rfl⟩
      have h := h x8 hx8
      refine sh_iinc (v := x8) (ls' := [(3, sh_I x8), (0, sh_R (9, 0, 0)), (1, sh_I a1), (2, sh_I a2)]) (pc := 22) dX9_placeIn_22 rfl hx8.symm (by decide) rfl ?_
      refine sh_goto (tgt := 2) (pc := 25) dX9_placeIn_25 (by decide) ?_
      refine sh_pick [1, 2, 3, 0] rfl ?_
      exact ih1 _ _ h.1 h.2
    · have h := h.2 hc7
      refine sh_iload_n (pc := 20) dX9_placeIn_20 rfl ?_
      exact sh_ret_i (pc := 21) dX9_placeIn_21 rfl ⟨rfl, rfl⟩ h

set_option maxRecDepth 100000 in
set_option maxHeartbeats 4000000 in
theorem wp_X9_isInPanel {g : sh_G} {S : sh_S} {sz : Nat} {Q : Int32 → sh_S → Prop} {a1 : Int32} 
    (h : (∃ (Iv1 : Int32 → Int32 → sh_S → Prop) (mu1 : Int32 → Int32 → sh_S → Nat), Iv1 0 0 S ∧ ∀ (v2 : Int32) (v3 : Int32) (S4 : sh_S), Iv1 v2 v3 S4 → (((S4 (19, 0, 0) 9) ≤ v3 → (narrow .boolean (.int v2) = .int v2 ∧ Q v2 S4)) ∧ (¬ (S4 (19, 0, 0) 9) ≤ v3 → ((¬ v2 = 0 → (∀ x8 : Int32, x8 = v3 + 1 → (Iv1 1 x8 S4 ∧ mu1 1 x8 S4 < mu1 v2 v3 S4))) ∧ (v2 = 0 → (sh_Ci g mX9_its [sh_R (9, 0, 0), sh_I v3, sh_I 3] S4 sz (fun r10 S9 => ((¬ r10 = 2 → (∀ x12 : Int32, x12 = v3 + 1 → (Iv1 0 x12 S9 ∧ mu1 0 x12 S9 < mu1 v2 v3 S4))) ∧ (r10 = 2 → (sh_Ci g mX9_placeIn [sh_R (9, 0, 0), sh_I v3, sh_I a1] S9 sz (fun r14 S13 => ((r14 < 0 → (∀ x16 : Int32, x16 = v3 + 1 → (Iv1 0 x16 S13 ∧ mu1 0 x16 S13 < mu1 v2 v3 S4))) ∧ (¬ r14 < 0 → (∀ x17 : Int32, x17 = v3 + 1 → (Iv1 1 x17 S13 ∧ mu1 1 x17 S13 < mu1 v2 v3 S4)))))))))))))))) :
    sh_Ci g mX9_isInPanel [sh_R (9, 0, 0), sh_I a1] S sz Q := by
  refine sh_enter (ls := [(0, sh_R (9, 0, 0)), (1, sh_I a1)]) (by decide +kernel) (Nat.le_of_ble_eq_true rfl) rfl ?_
  refine sh_iconst (v := 0) (pc := 0) dX9_isInPanel_0 rfl ?_
  refine sh_istore_n (ls' := [(2, sh_I 0), (0, sh_R (9, 0, 0)), (1, sh_I a1)]) (pc := 1) dX9_isInPanel_1 (by decide) rfl ?_
  refine sh_iconst (v := 0) (pc := 2) dX9_isInPanel_2 rfl ?_
  refine sh_istore_n (ls' := [(3, sh_I 0), (2, sh_I 0), (0, sh_R (9, 0, 0)), (1, sh_I a1)]) (pc := 3) dX9_isInPanel_3 (by decide) rfl ?_
  obtain ⟨Iv1, mu1, h0, hs1⟩ := h
  refine sh_pick [2, 3, 1, 0] rfl ?_
  refine sh_lp3 Iv1 mu1 (fun v2 v3 S4 => sh_V g mX9_isInPanel 0 0 4 [(0, sh_R (9, 0, 0)), (1, sh_I a1), (2, sh_I v2), (3, sh_I v3)] [] (sh_St S4) sz (sh_ti sz Q)) (fun v2 v3 S4 hI1 ih1 => ?_) _ _ _ h0
  have h := hs1 v2 v3 S4 hI1
  clear h0
  refine sh_iload_n (pc := 4) dX9_isInPanel_4 rfl ?_
  refine sh_aload_n (pc := 5) dX9_isInPanel_5 rfl ?_
  refine sh_gf (pc := 6) dX9_isInPanel_6 fl_X9_7 cf_9 ok_9_0 rfl rfl ?_
  refine sh_bipush (v := 9) (pc := 9) dX9_isInPanel_9 rfl ?_
  refine sh_ia (pc := 11) dX9_isInPanel_11 ok_19_0 rfl (vp_in_iff.mpr ⟨by decide, by decide⟩) ?_
  refine sh_icmp_ge (tgt := 50) (pc := 12) dX9_isInPanel_12 (by decide) (fun hc6 => ?_) (fun hc6 => ?_)
  · have h := h.1 hc6
    refine sh_iload_n (pc := 50) dX9_isInPanel_50 rfl ?_
    exact sh_ret_z (pc := 51) dX9_isInPanel_51 rfl h.1 ⟨rfl, rfl⟩ h.2
  · have h := h.2 hc6
    refine sh_iload_n (pc := 15) dX9_isInPanel_15 rfl ?_
    refine sh_if_ne (tgt := 38) (pc := 16) dX9_isInPanel_16 (by decide) (fun hc7 => ?_) (fun hc7 => ?_)
    · have h := h.1 hc7
      refine sh_iconst (v := 1) (pc := 38) dX9_isInPanel_38 rfl ?_
      refine sh_goto (tgt := 43) (pc := 39) dX9_isInPanel_39 (by decide) ?_
      refine sh_istore_n (ls' := [(2, sh_I 1), (0, sh_R (9, 0, 0)), (1, sh_I a1), (3, sh_I v3)]) (pc := 43) dX9_isInPanel_43 (by decide) rfl ?_
      obtain ⟨x8, hx8⟩ : ∃ y : Int32, y = v3 + 1 := ⟨_, rfl⟩
      have h := h x8 hx8
      refine sh_iinc (v := x8) (ls' := [(3, sh_I x8), (2, sh_I 1), (0, sh_R (9, 0, 0)), (1, sh_I a1)]) (pc := 44) dX9_isInPanel_44 rfl hx8.symm (by decide) rfl ?_
      refine sh_goto (tgt := 4) (pc := 47) dX9_isInPanel_47 (by decide) ?_
      refine sh_pick [2, 3, 1, 0] rfl ?_
      exact ih1 _ _ _ h.1 h.2
    · have h := h.2 hc7
      refine sh_aload_n (pc := 19) dX9_isInPanel_19 rfl ?_
      refine sh_iload_n (pc := 20) dX9_isInPanel_20 rfl ?_
      refine sh_iconst (v := 3) (pc := 21) dX9_isInPanel_21 rfl ?_
      refine sh_ci (N := mX9_its) (pc := 22) dX9_isInPanel_22 ml_X9_79 h mf_X9_its iv_X9_its ⟨Nat.le_of_ble_eq_true rfl, Nat.le_of_ble_eq_true rfl⟩ rfl rfl (Nat.le_of_ble_eq_true rfl) ok_9_0 rfl (show vwCl[9]? = some (RX9, TX9, 14) from rfl) rfl (fun r10 S9 h => ?_)
      refine sh_iconst (v := 2) (pc := 25) dX9_isInPanel_25 rfl ?_
      refine sh_icmp_ne (tgt := 42) (pc := 26) dX9_isInPanel_26 (by decide) (fun hc11 => ?_) (fun hc11 => ?_)
      · have h := h.1 hc11
        refine sh_iconst (v := 0) (pc := 42) dX9_isInPanel_42 rfl ?_
        refine sh_istore_n (ls' := [(2, sh_I 0), (0, sh_R (9, 0, 0)), (1, sh_I a1), (3, sh_I v3)]) (pc := 43) dX9_isInPanel_43 (by decide) rfl ?_
        obtain ⟨x12, hx12⟩ : ∃ y : Int32, y = v3 + 1 := ⟨_, rfl⟩
        have h := h x12 hx12
        refine sh_iinc (v := x12) (ls' := [(3, sh_I x12), (2, sh_I 0), (0, sh_R (9, 0, 0)), (1, sh_I a1)]) (pc := 44) dX9_isInPanel_44 rfl hx12.symm (by decide) rfl ?_
        refine sh_goto (tgt := 4) (pc := 47) dX9_isInPanel_47 (by decide) ?_
        refine sh_pick [2, 3, 1, 0] rfl ?_
        exact ih1 _ _ _ h.1 h.2
      · have h := h.2 hc11
        refine sh_aload_n (pc := 29) dX9_isInPanel_29 rfl ?_
        refine sh_iload_n (pc := 30) dX9_isInPanel_30 rfl ?_
        refine sh_iload_n (pc := 31) dX9_isInPanel_31 rfl ?_
        refine sh_ci (N := mX9_placeIn) (pc := 32) dX9_isInPanel_32 ml_X9_82 h mf_X9_placeIn iv_X9_placeIn ⟨Nat.le_of_ble_eq_true rfl, Nat.le_of_ble_eq_true rfl⟩ rfl rfl (Nat.le_of_ble_eq_true rfl) ok_9_0 rfl (show vwCl[9]? = some (RX9, TX9, 14) from rfl) rfl (fun r14 S13 h => ?_)
        refine sh_if_lt (tgt := 42) (pc := 35) dX9_isInPanel_35 (by decide) (fun hc15 => ?_) (fun hc15 => ?_)
        · have h := h.1 hc15
          refine sh_iconst (v := 0) (pc := 42) dX9_isInPanel_42 rfl ?_
          refine sh_istore_n (ls' := [(2, sh_I 0), (0, sh_R (9, 0, 0)), (1, sh_I a1), (3, sh_I v3)]) (pc := 43) dX9_isInPanel_43 (by decide) rfl ?_
          obtain ⟨x16, hx16⟩ : ∃ y : Int32, y = v3 + 1 := ⟨_, rfl⟩
          have h := h x16 hx16
          refine sh_iinc (v := x16) (ls' := [(3, sh_I x16), (2, sh_I 0), (0, sh_R (9, 0, 0)), (1, sh_I a1)]) (pc := 44) dX9_isInPanel_44 rfl hx16.symm (by decide) rfl ?_
          refine sh_goto (tgt := 4) (pc := 47) dX9_isInPanel_47 (by decide) ?_
          refine sh_pick [2, 3, 1, 0] rfl ?_
          exact ih1 _ _ _ h.1 h.2
        · have h := h.2 hc15
          refine sh_iconst (v := 1) (pc := 38) dX9_isInPanel_38 rfl ?_
          refine sh_goto (tgt := 43) (pc := 39) dX9_isInPanel_39 (by decide) ?_
          refine sh_istore_n (ls' := [(2, sh_I 1), (0, sh_R (9, 0, 0)), (1, sh_I a1), (3, sh_I v3)]) (pc := 43) dX9_isInPanel_43 (by decide) rfl ?_
          obtain ⟨x17, hx17⟩ : ∃ y : Int32, y = v3 + 1 := ⟨_, rfl⟩
          have h := h x17 hx17
          refine sh_iinc (v := x17) (ls' := [(3, sh_I x17), (2, sh_I 1), (0, sh_R (9, 0, 0)), (1, sh_I a1)]) (pc := 44) dX9_isInPanel_44 rfl hx17.symm (by decide) rfl ?_
          refine sh_goto (tgt := 4) (pc := 47) dX9_isInPanel_47 (by decide) ?_
          refine sh_pick [2, 3, 1, 0] rfl ?_
          exact ih1 _ _ _ h.1 h.2

set_option maxRecDepth 100000 in
set_option maxHeartbeats 4000000 in
theorem wp_X9_turnOf {g : sh_G} {S : sh_S} {sz : Nat} {Q : Int32 → sh_S → Prop} {a1 : Int32} 
    (h : (∃ (Iv1 : Int32 → Prop) (mu1 : Int32 → Nat), Iv1 0 ∧ ∀ (v2 : Int32), Iv1 v2 → (((S (19, 0, 0) 11) ≤ v2 → Q (-1) S) ∧ (¬ (S (19, 0, 0) 11) ≤ v2 → (vp_in (12 + v2) 602 ∧ ((¬ (S (19, 0, 0) ((12 + v2).toNatClampNeg)) = a1 → (∀ x8 : Int32, x8 = v2 + 1 → (Iv1 x8 ∧ mu1 x8 < mu1 v2))) ∧ ((S (19, 0, 0) ((12 + v2).toNatClampNeg)) = a1 → Q v2 S))))))) :
    sh_Ci g mX9_turnOf [sh_R (9, 0, 0), sh_I a1] S sz Q := by
  refine sh_enter (ls := [(0, sh_R (9, 0, 0)), (1, sh_I a1)]) (by decide +kernel) (Nat.le_of_ble_eq_true rfl) rfl ?_
  refine sh_iconst (v := 0) (pc := 0) dX9_turnOf_0 rfl ?_
  refine sh_istore_n (ls' := [(2, sh_I 0), (0, sh_R (9, 0, 0)), (1, sh_I a1)]) (pc := 1) dX9_turnOf_1 (by decide) rfl ?_
  obtain ⟨Iv1, mu1, h0, hs1⟩ := h
  refine sh_pick [1, 2, 0] rfl ?_
  refine sh_lp1 Iv1 mu1 (fun v2 => sh_V g mX9_turnOf 0 0 2 [(0, sh_R (9, 0, 0)), (1, sh_I a1), (2, sh_I v2)] [] (sh_St S) sz (sh_ti sz Q)) (fun v2 hI1 ih1 => ?_) _ h0
  have h := hs1 v2 hI1
  clear h0
  refine sh_iload_n (pc := 2) dX9_turnOf_2 rfl ?_
  refine sh_aload_n (pc := 3) dX9_turnOf_3 rfl ?_
  refine sh_gf (pc := 4) dX9_turnOf_4 fl_X9_7 cf_9 ok_9_0 rfl rfl ?_
  refine sh_bipush (v := 11) (pc := 7) dX9_turnOf_7 rfl ?_
  refine sh_ia (pc := 9) dX9_turnOf_9 ok_19_0 rfl (vp_in_iff.mpr ⟨by decide, by decide⟩) ?_
  refine sh_icmp_ge (tgt := 34) (pc := 10) dX9_turnOf_10 (by decide) (fun hc5 => ?_) (fun hc5 => ?_)
  · have h := h.1 hc5
    refine sh_iconst (v := (-1)) (pc := 34) dX9_turnOf_34 rfl ?_
    exact sh_ret_i (pc := 35) dX9_turnOf_35 rfl ⟨rfl, rfl⟩ h
  · have h := h.2 hc5
    refine sh_aload_n (pc := 13) dX9_turnOf_13 rfl ?_
    refine sh_gf (pc := 14) dX9_turnOf_14 fl_X9_7 cf_9 ok_9_0 rfl rfl ?_
    refine sh_bipush (v := 12) (pc := 17) dX9_turnOf_17 rfl ?_
    refine sh_iload_n (pc := 19) dX9_turnOf_19 rfl ?_
    refine sh_iadd (pc := 20) dX9_turnOf_20 ?_
    obtain ⟨hi6, h⟩ := h
    refine sh_ia (pc := 21) dX9_turnOf_21 ok_19_0 rfl hi6 ?_
    refine sh_iload_n (pc := 22) dX9_turnOf_22 rfl ?_
    refine sh_icmp_ne (tgt := 28) (pc := 23) dX9_turnOf_23 (by decide) (fun hc7 => ?_) (fun hc7 => ?_)
    · have h := h.1 hc7
      obtain ⟨x8, hx8⟩ : ∃ y : Int32, y = v2 + 1 := ⟨_, rfl⟩
      have h := h x8 hx8
      refine sh_iinc (v := x8) (ls' := [(2, sh_I x8), (0, sh_R (9, 0, 0)), (1, sh_I a1)]) (pc := 28) dX9_turnOf_28 rfl hx8.symm (by decide) rfl ?_
      refine sh_goto (tgt := 2) (pc := 31) dX9_turnOf_31 (by decide) ?_
      refine sh_pick [1, 2, 0] rfl ?_
      exact ih1 _ h.1 h.2
    · have h := h.2 hc7
      refine sh_iload_n (pc := 26) dX9_turnOf_26 rfl ?_
      exact sh_ret_i (pc := 27) dX9_turnOf_27 rfl ⟨rfl, rfl⟩ h

set_option maxRecDepth 100000 in
set_option maxHeartbeats 4000000 in
theorem wp_X9_outOfTurns {g : sh_G} {S : sh_S} {sz : Nat} {Q : sh_S → Prop} {a1 : Int32} 
    (h : (sh_Ci g mX9_turnOf [sh_R (9, 0, 0), sh_I a1] S sz (fun r2 S1 => (∃ (Iv3 : Int32 → sh_S → Prop) (mu3 : Int32 → sh_S → Nat), Iv3 r2 S1 ∧ ∀ (v4 : Int32) (S5 : sh_S), Iv3 v4 S5 → ((((S5 (19, 0, 0) 11) - 1) ≤ v4 → (∀ S10 : sh_S, S10 = sh_sr S5 (19, 0, 0) (upd (S5 (19, 0, 0)) 11 ((S5 (19, 0, 0) 11) - 1)) → Q S10)) ∧ (¬ ((S5 (19, 0, 0) 11) - 1) ≤ v4 → (vp_in ((12 + v4) + 1) 602 ∧ (vp_in (12 + v4) 602 ∧ (∀ S13 : sh_S, S13 = sh_sr S5 (19, 0, 0) (upd (S5 (19, 0, 0)) ((12 + v4).toNatClampNeg) (S5 (19, 0, 0) (((12 + v4) + 1).toNatClampNeg))) → (∀ x14 : Int32, x14 = v4 + 1 → (Iv3 x14 S13 ∧ mu3 x14 S13 < mu3 v4 S5))))))))))) :
    sh_Cu g mX9_outOfTurns [sh_R (9, 0, 0), sh_I a1] S sz Q := by
  refine sh_enter (ls := [(0, sh_R (9, 0, 0)), (1, sh_I a1)]) (by decide +kernel) (Nat.le_of_ble_eq_true rfl) rfl ?_
  refine sh_aload_n (pc := 0) dX9_outOfTurns_0 rfl ?_
  refine sh_iload_n (pc := 1) dX9_outOfTurns_1 rfl ?_
  refine sh_ci (N := mX9_turnOf) (pc := 2) dX9_outOfTurns_2 ml_X9_85 h mf_X9_turnOf iv_X9_turnOf ⟨Nat.le_of_ble_eq_true rfl, Nat.le_of_ble_eq_true rfl⟩ rfl rfl (Nat.le_of_ble_eq_true rfl) ok_9_0 rfl (show vwCl[9]? = some (RX9, TX9, 14) from rfl) rfl (fun r2 S1 h => ?_)
  refine sh_istore_n (ls' := [(2, sh_I r2), (0, sh_R (9, 0, 0)), (1, sh_I a1)]) (pc := 5) dX9_outOfTurns_5 (by decide) rfl ?_
  obtain ⟨Iv3, mu3, h0, hs3⟩ := h
  refine sh_pick [1, 2, 0] rfl ?_
  refine sh_lp2 Iv3 mu3 (fun v4 S5 => sh_V g mX9_outOfTurns 0 0 6 [(0, sh_R (9, 0, 0)), (1, sh_I a1), (2, sh_I v4)] [] (sh_St S5) sz (sh_tu sz Q)) (fun v4 S5 hI3 ih3 => ?_) _ _ h0
  have h := hs3 v4 S5 hI3
  clear h0
  refine sh_iload_n (pc := 6) dX9_outOfTurns_6 rfl ?_
  refine sh_aload_n (pc := 7) dX9_outOfTurns_7 rfl ?_
  refine sh_gf (pc := 8) dX9_outOfTurns_8 fl_X9_7 cf_9 ok_9_0 rfl rfl ?_
  refine sh_bipush (v := 11) (pc := 11) dX9_outOfTurns_11 rfl ?_
  refine sh_ia (pc := 13) dX9_outOfTurns_13 ok_19_0 rfl (vp_in_iff.mpr ⟨by decide, by decide⟩) ?_
  refine sh_iconst (v := 1) (pc := 14) dX9_outOfTurns_14 rfl ?_
  refine sh_isub (pc := 15) dX9_outOfTurns_15 ?_
  refine sh_icmp_ge (tgt := 45) (pc := 16) dX9_outOfTurns_16 (by decide) (fun hc7 => ?_) (fun hc7 => ?_)
  · have h := h.1 hc7
    refine sh_aload_n (pc := 45) dX9_outOfTurns_45 rfl ?_
    refine sh_gf (pc := 46) dX9_outOfTurns_46 fl_X9_7 cf_9 ok_9_0 rfl rfl ?_
    refine sh_bipush (v := 11) (pc := 49) dX9_outOfTurns_49 rfl ?_
    refine sh_dup2 (pc := 51) dX9_outOfTurns_51 rfl rfl ?_
    refine sh_ia (pc := 52) dX9_outOfTurns_52 ok_19_0 rfl (vp_in_iff.mpr ⟨by decide, by decide⟩) ?_
    refine sh_iconst (v := 1) (pc := 53) dX9_outOfTurns_53 rfl ?_
    refine sh_isub (pc := 54) dX9_outOfTurns_54 ?_
    refine sh_is (pc := 55) dX9_outOfTurns_55 ok_19_0 rfl (vp_in_iff.mpr ⟨by decide, by decide⟩) rfl ?_
    refine sh_topS (fun S10 hS10 => ?_)
    have h := h S10 hS10
    exact sh_ret_u (pc := 56) dX9_outOfTurns_56 rfl ⟨rfl, rfl⟩ h
  · have h := h.2 hc7
    refine sh_aload_n (pc := 19) dX9_outOfTurns_19 rfl ?_
    refine sh_gf (pc := 20) dX9_outOfTurns_20 fl_X9_7 cf_9 ok_9_0 rfl rfl ?_
    refine sh_bipush (v := 12) (pc := 23) dX9_outOfTurns_23 rfl ?_
    refine sh_iload_n (pc := 25) dX9_outOfTurns_25 rfl ?_
    refine sh_iadd (pc := 26) dX9_outOfTurns_26 ?_
    refine sh_aload_n (pc := 27) dX9_outOfTurns_27 rfl ?_
    refine sh_gf (pc := 28) dX9_outOfTurns_28 fl_X9_7 cf_9 ok_9_0 rfl rfl ?_
    refine sh_bipush (v := 12) (pc := 31) dX9_outOfTurns_31 rfl ?_
    refine sh_iload_n (pc := 33) dX9_outOfTurns_33 rfl ?_
    refine sh_iadd (pc := 34) dX9_outOfTurns_34 ?_
    refine sh_iconst (v := 1) (pc := 35) dX9_outOfTurns_35 rfl ?_
    refine sh_iadd (pc := 36) dX9_outOfTurns_36 ?_
    obtain ⟨hi11, h⟩ := h
    refine sh_ia (pc := 37) dX9_outOfTurns_37 ok_19_0 rfl hi11 ?_
    obtain ⟨hi12, h⟩ := h
    refine sh_is (pc := 38) dX9_outOfTurns_38 ok_19_0 rfl hi12 rfl ?_
    refine sh_topS (fun S13 hS13 => ?_)
    have h := h S13 hS13
    obtain ⟨x14, hx14⟩ : ∃ y : Int32, y = v4 + 1 := ⟨_, rfl⟩
    have h := h x14 hx14
    refine sh_iinc (v := x14) (ls' := [(2, sh_I x14), (0, sh_R (9, 0, 0)), (1, sh_I a1)]) (pc := 39) dX9_outOfTurns_39 rfl hx14.symm (by decide) rfl ?_
    refine sh_goto (tgt := 6) (pc := 42) dX9_outOfTurns_42 (by decide) ?_
    refine sh_pick [1, 2, 0] rfl ?_
    exact ih3 _ _ h.1 h.2

set_option maxRecDepth 100000 in
set_option maxHeartbeats 4000000 in
theorem wp_X9_leave {g : sh_G} {S : sh_S} {sz : Nat} {Q : Int32 → sh_S → Prop} {a1 : Int32} 
    (h : (sh_Ci g mX9_isMember [sh_R (9, 0, 0), sh_I a1] S sz (fun r2 S1 => ((¬ r2 = 0 → (sh_Ci g mX9_of [sh_R (9, 0, 0), sh_I a1, sh_I 0] S1 sz (fun r5 S4 => ((r5 = 2 → Q (-1000002) S4) ∧ (¬ r5 = 2 → (sh_Ci g mX9_toolsOf [sh_R (9, 0, 0), sh_I a1, sh_I 1] S4 sz (fun r8 S7 => ((0 < r8 → Q (-1000002) S7) ∧ (¬ 0 < r8 → (sh_Ci g mX9_openOf [sh_R (9, 0, 0), sh_I a1] S7 sz (fun r11 S10 => ((0 < r11 → Q (-1000002) S10) ∧ (¬ 0 < r11 → (sh_Ci g mX9_isInPanel [sh_R (9, 0, 0), sh_I a1] S10 sz (fun r14 S13 => ((¬ r14 = 0 → Q (-1000002) S13) ∧ (r14 = 0 → (sh_Ci g mX9_sharing [sh_R (9, 0, 0), sh_I a1] S13 sz (fun r17 S16 => ((¬ r17 = 0 → (sh_Cu g mX9_hold [sh_R (9, 0, 0)] S16 sz (fun S19 => (sh_Ci g mX9_of [sh_R (9, 0, 0), sh_I a1, sh_I 3] S19 sz (fun r21 S20 => (sh_Cu g mX9_outOfTurns [sh_R (9, 0, 0), sh_I a1] S20 sz (fun S22 => (vp_in ((22 + (12 * a1)) + 0) 602 ∧ (∀ S24 : sh_S, S24 = sh_sr S22 (19, 0, 0) (upd (S22 (19, 0, 0)) (((22 + (12 * a1)) + 0).toNatClampNeg) 2) → (sh_Cu g mX9_more [sh_R (9, 0, 0), sh_I a1, sh_I 3, sh_I (-r21)] S24 sz (fun S25 => (sh_Cu g mX9_more [sh_R (9, 0, 0), sh_I a1, sh_I 4, sh_I r21] S25 sz (fun S26 => (sh_Cu g mX9_shared [sh_R (9, 0, 0), sh_I r21, sh_I a1, sh_I (-1)] S26 sz (fun S27 => (sh_Ci g mX9_ends [sh_R (9, 0, 0), sh_I r21] S27 sz (fun r29 S28 => Q r29 S28))))))))))))))))) ∧ (r17 = 0 → Q (-1000002) S16))))))))))))))))))))) ∧ (r2 = 0 → Q (-1000001) S1))))) :
    sh_Ci g mX9_leave [sh_R (9, 0, 0), sh_I a1] S sz Q := by
  refine sh_enter (ls := [(0, sh_R (9, 0, 0)), (1, sh_I a1)]) (by decide +kernel) (Nat.le_of_ble_eq_true rfl) rfl ?_
  refine sh_aload_n (pc := 0) dX9_leave_0 rfl ?_
  refine sh_iload_n (pc := 1) dX9_leave_1 rfl ?_
  refine sh_ci (N := mX9_isMember) (pc := 2) dX9_leave_2 ml_X9_74 h mf_X9_isMember iv_X9_isMember ⟨Nat.le_of_ble_eq_true rfl, Nat.le_of_ble_eq_true rfl⟩ rfl rfl (Nat.le_of_ble_eq_true rfl) ok_9_0 rfl (show vwCl[9]? = some (RX9, TX9, 14) from rfl) rfl (fun r2 S1 h => ?_)
  refine sh_if_ne (tgt := 11) (pc := 5) dX9_leave_5 (by decide) (fun hc3 => ?_) (fun hc3 => ?_)
  · have h := h.1 hc3
    refine sh_aload_n (pc := 11) dX9_leave_11 rfl ?_
    refine sh_iload_n (pc := 12) dX9_leave_12 rfl ?_
    refine sh_iconst (v := 0) (pc := 13) dX9_leave_13 rfl ?_
    refine sh_ci (N := mX9_of) (pc := 14) dX9_leave_14 ml_X9_46 h mf_X9_of iv_X9_of ⟨Nat.le_of_ble_eq_true rfl, Nat.le_of_ble_eq_true rfl⟩ rfl rfl (Nat.le_of_ble_eq_true rfl) ok_9_0 rfl (show vwCl[9]? = some (RX9, TX9, 14) from rfl) rfl (fun r5 S4 h => ?_)
    refine sh_iconst (v := 2) (pc := 17) dX9_leave_17 rfl ?_
    refine sh_icmp_eq (tgt := 54) (pc := 18) dX9_leave_18 (by decide) (fun hc6 => ?_) (fun hc6 => ?_)
    · have h := h.1 hc6
      refine sh_ldc (v := (-1000002)) (pc := 54) dX9_leave_54 kc_X9_78 ?_
      exact sh_ret_i (pc := 56) dX9_leave_56 rfl ⟨rfl, rfl⟩ h
    · have h := h.2 hc6
      refine sh_aload_n (pc := 21) dX9_leave_21 rfl ?_
      refine sh_iload_n (pc := 22) dX9_leave_22 rfl ?_
      refine sh_iconst (v := 1) (pc := 23) dX9_leave_23 rfl ?_
      refine sh_ci (N := mX9_toolsOf) (pc := 24) dX9_leave_24 ml_X9_88 h mf_X9_toolsOf iv_X9_toolsOf ⟨Nat.le_of_ble_eq_true rfl, Nat.le_of_ble_eq_true rfl⟩ rfl rfl (Nat.le_of_ble_eq_true rfl) ok_9_0 rfl (show vwCl[9]? = some (RX9, TX9, 14) from rfl) rfl (fun r8 S7 h => ?_)
      refine sh_if_gt (tgt := 54) (pc := 27) dX9_leave_27 (by decide) (fun hc9 => ?_) (fun hc9 => ?_)
      · have h := h.1 hc9
        refine sh_ldc (v := (-1000002)) (pc := 54) dX9_leave_54 kc_X9_78 ?_
        exact sh_ret_i (pc := 56) dX9_leave_56 rfl ⟨rfl, rfl⟩ h
      · have h := h.2 hc9
        refine sh_aload_n (pc := 30) dX9_leave_30 rfl ?_
        refine sh_iload_n (pc := 31) dX9_leave_31 rfl ?_
        refine sh_ci (N := mX9_openOf) (pc := 32) dX9_leave_32 ml_X9_92 h mf_X9_openOf iv_X9_openOf ⟨Nat.le_of_ble_eq_true rfl, Nat.le_of_ble_eq_true rfl⟩ rfl rfl (Nat.le_of_ble_eq_true rfl) ok_9_0 rfl (show vwCl[9]? = some (RX9, TX9, 14) from rfl) rfl (fun r11 S10 h => ?_)
        refine sh_if_gt (tgt := 54) (pc := 35) dX9_leave_35 (by decide) (fun hc12 => ?_) (fun hc12 => ?_)
        · have h := h.1 hc12
          refine sh_ldc (v := (-1000002)) (pc := 54) dX9_leave_54 kc_X9_78 ?_
          exact sh_ret_i (pc := 56) dX9_leave_56 rfl ⟨rfl, rfl⟩ h
        · have h := h.2 hc12
          refine sh_aload_n (pc := 38) dX9_leave_38 rfl ?_
          refine sh_iload_n (pc := 39) dX9_leave_39 rfl ?_
          refine sh_ci (N := mX9_isInPanel) (pc := 40) dX9_leave_40 ml_X9_95 h mf_X9_isInPanel iv_X9_isInPanel ⟨Nat.le_of_ble_eq_true rfl, Nat.le_of_ble_eq_true rfl⟩ rfl rfl (Nat.le_of_ble_eq_true rfl) ok_9_0 rfl (show vwCl[9]? = some (RX9, TX9, 14) from rfl) rfl (fun r14 S13 h => ?_)
          refine sh_if_ne (tgt := 54) (pc := 43) dX9_leave_43 (by decide) (fun hc15 => ?_) (fun hc15 => ?_)
          · have h := h.1 hc15
            refine sh_ldc (v := (-1000002)) (pc := 54) dX9_leave_54 kc_X9_78 ?_
            exact sh_ret_i (pc := 56) dX9_leave_56 rfl ⟨rfl, rfl⟩ h
          · have h := h.2 hc15
            refine sh_aload_n (pc := 46) dX9_leave_46 rfl ?_
            refine sh_iload_n (pc := 47) dX9_leave_47 rfl ?_
            refine sh_ci (N := mX9_sharing) (pc := 48) dX9_leave_48 ml_X9_54 h mf_X9_sharing iv_X9_sharing ⟨Nat.le_of_ble_eq_true rfl, Nat.le_of_ble_eq_true rfl⟩ rfl rfl (Nat.le_of_ble_eq_true rfl) ok_9_0 rfl (show vwCl[9]? = some (RX9, TX9, 14) from rfl) rfl (fun r17 S16 h => ?_)
            refine sh_if_ne (tgt := 57) (pc := 51) dX9_leave_51 (by decide) (fun hc18 => ?_) (fun hc18 => ?_)
            · have h := h.1 hc18
              refine sh_aload_n (pc := 57) dX9_leave_57 rfl ?_
              refine sh_cu (N := mX9_hold) (pc := 58) dX9_leave_58 ml_X9_67 h mf_X9_hold iv_X9_hold ⟨Nat.le_of_ble_eq_true rfl, Nat.le_of_ble_eq_true rfl⟩ rfl rfl (Nat.le_of_ble_eq_true rfl) ok_9_0 rfl (show vwCl[9]? = some (RX9, TX9, 14) from rfl) rfl (fun S19 h => ?_)
              refine sh_aload_n (pc := 61) dX9_leave_61 rfl ?_
              refine sh_iload_n (pc := 62) dX9_leave_62 rfl ?_
              refine sh_iconst (v := 3) (pc := 63) dX9_leave_63 rfl ?_
              refine sh_ci (N := mX9_of) (pc := 64) dX9_leave_64 ml_X9_46 h mf_X9_of iv_X9_of ⟨Nat.le_of_ble_eq_true rfl, Nat.le_of_ble_eq_true rfl⟩ rfl rfl (Nat.le_of_ble_eq_true rfl) ok_9_0 rfl (show vwCl[9]? = some (RX9, TX9, 14) from rfl) rfl (fun r21 S20 h => ?_)
              refine sh_istore_n (ls' := [(2, sh_I r21), (0, sh_R (9, 0, 0)), (1, sh_I a1)]) (pc := 67) dX9_leave_67 (by decide) rfl ?_
              refine sh_aload_n (pc := 68) dX9_leave_68 rfl ?_
              refine sh_iload_n (pc := 69) dX9_leave_69 rfl ?_
              refine sh_cu (N := mX9_outOfTurns) (pc := 70) dX9_leave_70 ml_X9_98 h mf_X9_outOfTurns iv_X9_outOfTurns ⟨Nat.le_of_ble_eq_true rfl, Nat.le_of_ble_eq_true rfl⟩ rfl rfl (Nat.le_of_ble_eq_true rfl) ok_9_0 rfl (show vwCl[9]? = some (RX9, TX9, 14) from rfl) rfl (fun S22 h => ?_)
              refine sh_aload_n (pc := 73) dX9_leave_73 rfl ?_
              refine sh_gf (pc := 74) dX9_leave_74 fl_X9_7 cf_9 ok_9_0 rfl rfl ?_
              refine sh_bipush (v := 22) (pc := 77) dX9_leave_77 rfl ?_
              refine sh_bipush (v := 12) (pc := 79) dX9_leave_79 rfl ?_
              refine sh_iload_n (pc := 81) dX9_leave_81 rfl ?_
              refine sh_imul (pc := 82) dX9_leave_82 ?_
              refine sh_iadd (pc := 83) dX9_leave_83 ?_
              refine sh_iconst (v := 0) (pc := 84) dX9_leave_84 rfl ?_
              refine sh_iadd (pc := 85) dX9_leave_85 ?_
              refine sh_iconst (v := 2) (pc := 86) dX9_leave_86 rfl ?_
              obtain ⟨hi23, h⟩ := h
              refine sh_is (pc := 87) dX9_leave_87 ok_19_0 rfl hi23 rfl ?_
              refine sh_topS (fun S24 hS24 => ?_)
              have h := h S24 hS24
              refine sh_aload_n (pc := 88) dX9_leave_88 rfl ?_
              refine sh_iload_n (pc := 89) dX9_leave_89 rfl ?_
              refine sh_iconst (v := 3) (pc := 90) dX9_leave_90 rfl ?_
              refine sh_iload_n (pc := 91) dX9_leave_91 rfl ?_
              refine sh_ineg (pc := 92) dX9_leave_92 ?_
              refine sh_cu (N := mX9_more) (pc := 93) dX9_leave_93 ml_X9_42 h mf_X9_more iv_X9_more ⟨Nat.le_of_ble_eq_true rfl, Nat.le_of_ble_eq_true rfl⟩ rfl rfl (Nat.le_of_ble_eq_true rfl) ok_9_0 rfl (show vwCl[9]? = some (RX9, TX9, 14) from rfl) rfl (fun S25 h => ?_)
              refine sh_aload_n (pc := 96) dX9_leave_96 rfl ?_
              refine sh_iload_n (pc := 97) dX9_leave_97 rfl ?_
              refine sh_iconst (v := 4) (pc := 98) dX9_leave_98 rfl ?_
              refine sh_iload_n (pc := 99) dX9_leave_99 rfl ?_
              refine sh_cu (N := mX9_more) (pc := 100) dX9_leave_100 ml_X9_42 h mf_X9_more iv_X9_more ⟨Nat.le_of_ble_eq_true rfl, Nat.le_of_ble_eq_true rfl⟩ rfl rfl (Nat.le_of_ble_eq_true rfl) ok_9_0 rfl (show vwCl[9]? = some (RX9, TX9, 14) from rfl) rfl (fun S26 h => ?_)
              refine sh_aload_n (pc := 103) dX9_leave_103 rfl ?_
              refine sh_iload_n (pc := 104) dX9_leave_104 rfl ?_
              refine sh_iload_n (pc := 105) dX9_leave_105 rfl ?_
              refine sh_iconst (v := (-1)) (pc := 106) dX9_leave_106 rfl ?_
              refine sh_cu (N := mX9_shared) (pc := 107) dX9_leave_107 ml_X9_102 h mf_X9_shared iv_X9_shared ⟨Nat.le_of_ble_eq_true rfl, Nat.le_of_ble_eq_true rfl⟩ rfl rfl (Nat.le_of_ble_eq_true rfl) ok_9_0 rfl (show vwCl[9]? = some (RX9, TX9, 14) from rfl) rfl (fun S27 h => ?_)
              refine sh_aload_n (pc := 110) dX9_leave_110 rfl ?_
              refine sh_iload_n (pc := 111) dX9_leave_111 rfl ?_
              refine sh_ci (N := mX9_ends) (pc := 112) dX9_leave_112 ml_X9_70 h mf_X9_ends iv_X9_ends ⟨Nat.le_of_ble_eq_true rfl, Nat.le_of_ble_eq_true rfl⟩ rfl rfl (Nat.le_of_ble_eq_true rfl) ok_9_0 rfl (show vwCl[9]? = some (RX9, TX9, 14) from rfl) rfl (fun r29 S28 h => ?_)
              exact sh_ret_i (pc := 115) dX9_leave_115 rfl ⟨rfl, rfl⟩ h
            · have h := h.2 hc18
              refine sh_ldc (v := (-1000002)) (pc := 54) dX9_leave_54 kc_X9_78 ?_
              exact sh_ret_i (pc := 56) dX9_leave_56 rfl ⟨rfl, rfl⟩ h
  · have h := h.2 hc3
    refine sh_ldc (v := (-1000001)) (pc := 8) dX9_leave_8 kc_X9_32 ?_
    exact sh_ret_i (pc := 10) dX9_leave_10 rfl ⟨rfl, rfl⟩ h

set_option maxRecDepth 100000 in
set_option maxHeartbeats 4000000 in
theorem wp_X9_noGift {g : sh_G} {S : sh_S} {sz : Nat} {Q : Int32 → sh_S → Prop} {a1 : Int32} {a2 : Int32} 
    (h : (sh_Ci g mX9_isMember [sh_R (9, 0, 0), sh_I a1] S sz (fun r2 S1 => ((¬ r2 = 0 → (sh_Ci g mX9_in [sh_I a2, sh_I 1, sh_I 400] S1 sz (fun r5 S4 => ((r5 = 0 → Q 3 S4) ∧ (¬ r5 = 0 → (sh_Ci g mX9_of [sh_R (9, 0, 0), sh_I a1, sh_I 0] S4 sz (fun r8 S7 => ((¬ r8 = 2 → Q 0 S7) ∧ (r8 = 2 → Q 3 S7))))))))) ∧ (r2 = 0 → Q 2 S1))))) :
    sh_Ci g mX9_noGift [sh_R (9, 0, 0), sh_I a1, sh_I a2] S sz Q := by
  refine sh_enter (ls := [(0, sh_R (9, 0, 0)), (1, sh_I a1), (2, sh_I a2)]) (by decide +kernel) (Nat.le_of_ble_eq_true rfl) rfl ?_
  refine sh_aload_n (pc := 0) dX9_noGift_0 rfl ?_
  refine sh_iload_n (pc := 1) dX9_noGift_1 rfl ?_
  refine sh_ci (N := mX9_isMember) (pc := 2) dX9_noGift_2 ml_X9_74 h mf_X9_isMember iv_X9_isMember ⟨Nat.le_of_ble_eq_true rfl, Nat.le_of_ble_eq_true rfl⟩ rfl rfl (Nat.le_of_ble_eq_true rfl) ok_9_0 rfl (show vwCl[9]? = some (RX9, TX9, 14) from rfl) rfl (fun r2 S1 h => ?_)
  refine sh_if_ne (tgt := 12) (pc := 5) dX9_noGift_5 (by decide) (fun hc3 => ?_) (fun hc3 => ?_)
  · have h := h.1 hc3
    refine sh_iload_n (pc := 12) dX9_noGift_12 rfl ?_
    refine sh_iconst (v := 1) (pc := 13) dX9_noGift_13 rfl ?_
    refine sh_sipush (v := 400) (pc := 14) dX9_noGift_14 rfl ?_
    refine sh_si (N := mX9_in) (pc := 17) dX9_noGift_17 ml_X9_38 h mf_X9_in is_X9_in ⟨Nat.le_of_ble_eq_true rfl, Nat.le_of_ble_eq_true rfl⟩ rfl rfl (Nat.le_of_ble_eq_true rfl) (fun r5 S4 h => ?_)
    refine sh_if_eq (tgt := 33) (pc := 20) dX9_noGift_20 (by decide) (fun hc6 => ?_) (fun hc6 => ?_)
    · have h := h.1 hc6
      refine sh_iconst (v := 3) (pc := 33) dX9_noGift_33 rfl ?_
      refine sh_goto (tgt := 38) (pc := 34) dX9_noGift_34 (by decide) ?_
      exact sh_ret_i (pc := 38) dX9_noGift_38 rfl ⟨rfl, rfl⟩ h
    · have h := h.2 hc6
      refine sh_aload_n (pc := 23) dX9_noGift_23 rfl ?_
      refine sh_iload_n (pc := 24) dX9_noGift_24 rfl ?_
      refine sh_iconst (v := 0) (pc := 25) dX9_noGift_25 rfl ?_
      refine sh_ci (N := mX9_of) (pc := 26) dX9_noGift_26 ml_X9_46 h mf_X9_of iv_X9_of ⟨Nat.le_of_ble_eq_true rfl, Nat.le_of_ble_eq_true rfl⟩ rfl rfl (Nat.le_of_ble_eq_true rfl) ok_9_0 rfl (show vwCl[9]? = some (RX9, TX9, 14) from rfl) rfl (fun r8 S7 h => ?_)
      refine sh_iconst (v := 2) (pc := 29) dX9_noGift_29 rfl ?_
      refine sh_icmp_ne (tgt := 37) (pc := 30) dX9_noGift_30 (by decide) (fun hc9 => ?_) (fun hc9 => ?_)
      · have h := h.1 hc9
        refine sh_iconst (v := 0) (pc := 37) dX9_noGift_37 rfl ?_
        exact sh_ret_i (pc := 38) dX9_noGift_38 rfl ⟨rfl, rfl⟩ h
      · have h := h.2 hc9
        refine sh_iconst (v := 3) (pc := 33) dX9_noGift_33 rfl ?_
        refine sh_goto (tgt := 38) (pc := 34) dX9_noGift_34 (by decide) ?_
        exact sh_ret_i (pc := 38) dX9_noGift_38 rfl ⟨rfl, rfl⟩ h
  · have h := h.2 hc3
    refine sh_iconst (v := 2) (pc := 8) dX9_noGift_8 rfl ?_
    refine sh_goto (tgt := 38) (pc := 9) dX9_noGift_9 (by decide) ?_
    exact sh_ret_i (pc := 38) dX9_noGift_38 rfl ⟨rfl, rfl⟩ h

set_option maxRecDepth 100000 in
set_option maxHeartbeats 4000000 in
theorem wp_X9_give {g : sh_G} {S : sh_S} {sz : Nat} {Q : Int32 → sh_S → Prop} {a1 : Int32} {a2 : Int32} 
    (h : (sh_Ci g mX9_isMember [sh_R (9, 0, 0), sh_I a1] S sz (fun r2 S1 => ((r2 = 0 → Q (-1000001) S1) ∧ (¬ r2 = 0 → (sh_Ci g mX9_in [sh_I a2, sh_I 1, sh_I 400] S1 sz (fun r5 S4 => ((¬ r5 = 0 → (sh_Ci g mX9_noGift [sh_R (9, 0, 0), sh_I a1, sh_I a2] S4 sz (fun r8 S7 => ((r8 = 0 → (sh_Cu g mX9_hold [sh_R (9, 0, 0)] S7 sz (fun S10 => (sh_Cu g mX9_gains [sh_R (9, 0, 0), sh_I a1, sh_I a2, sh_I 1] S10 sz (fun S11 => (sh_Ci g mX9_of [sh_R (9, 0, 0), sh_I a1, sh_I 3] S11 sz (fun r13 S12 => (sh_Ci g mX9_ends [sh_R (9, 0, 0), sh_I r13] S12 sz (fun r15 S14 => Q r15 S14))))))))) ∧ (¬ r8 = 0 → Q (-1000002) S7))))) ∧ (r5 = 0 → Q (-1000001) S4))))))))) :
    sh_Ci g mX9_give [sh_R (9, 0, 0), sh_I a1, sh_I a2] S sz Q := by
  refine sh_enter (ls := [(0, sh_R (9, 0, 0)), (1, sh_I a1), (2, sh_I a2)]) (by decide +kernel) (Nat.le_of_ble_eq_true rfl) rfl ?_
  refine sh_aload_n (pc := 0) dX9_give_0 rfl ?_
  refine sh_iload_n (pc := 1) dX9_give_1 rfl ?_
  refine sh_ci (N := mX9_isMember) (pc := 2) dX9_give_2 ml_X9_74 h mf_X9_isMember iv_X9_isMember ⟨Nat.le_of_ble_eq_true rfl, Nat.le_of_ble_eq_true rfl⟩ rfl rfl (Nat.le_of_ble_eq_true rfl) ok_9_0 rfl (show vwCl[9]? = some (RX9, TX9, 14) from rfl) rfl (fun r2 S1 h => ?_)
  refine sh_if_eq (tgt := 19) (pc := 5) dX9_give_5 (by decide) (fun hc3 => ?_) (fun hc3 => ?_)
  · have h := h.1 hc3
    refine sh_ldc (v := (-1000001)) (pc := 19) dX9_give_19 kc_X9_32 ?_
    exact sh_ret_i (pc := 21) dX9_give_21 rfl ⟨rfl, rfl⟩ h
  · have h := h.2 hc3
    refine sh_iload_n (pc := 8) dX9_give_8 rfl ?_
    refine sh_iconst (v := 1) (pc := 9) dX9_give_9 rfl ?_
    refine sh_sipush (v := 400) (pc := 10) dX9_give_10 rfl ?_
    refine sh_si (N := mX9_in) (pc := 13) dX9_give_13 ml_X9_38 h mf_X9_in is_X9_in ⟨Nat.le_of_ble_eq_true rfl, Nat.le_of_ble_eq_true rfl⟩ rfl rfl (Nat.le_of_ble_eq_true rfl) (fun r5 S4 h => ?_)
    refine sh_if_ne (tgt := 22) (pc := 16) dX9_give_16 (by decide) (fun hc6 => ?_) (fun hc6 => ?_)
    · have h := h.1 hc6
      refine sh_aload_n (pc := 22) dX9_give_22 rfl ?_
      refine sh_iload_n (pc := 23) dX9_give_23 rfl ?_
      refine sh_iload_n (pc := 24) dX9_give_24 rfl ?_
      refine sh_ci (N := mX9_noGift) (pc := 25) dX9_give_25 ml_X9_105 h mf_X9_noGift iv_X9_noGift ⟨Nat.le_of_ble_eq_true rfl, Nat.le_of_ble_eq_true rfl⟩ rfl rfl (Nat.le_of_ble_eq_true rfl) ok_9_0 rfl (show vwCl[9]? = some (RX9, TX9, 14) from rfl) rfl (fun r8 S7 h => ?_)
      refine sh_if_eq (tgt := 34) (pc := 28) dX9_give_28 (by decide) (fun hc9 => ?_) (fun hc9 => ?_)
      · have h := h.1 hc9
        refine sh_aload_n (pc := 34) dX9_give_34 rfl ?_
        refine sh_cu (N := mX9_hold) (pc := 35) dX9_give_35 ml_X9_67 h mf_X9_hold iv_X9_hold ⟨Nat.le_of_ble_eq_true rfl, Nat.le_of_ble_eq_true rfl⟩ rfl rfl (Nat.le_of_ble_eq_true rfl) ok_9_0 rfl (show vwCl[9]? = some (RX9, TX9, 14) from rfl) rfl (fun S10 h => ?_)
        refine sh_aload_n (pc := 38) dX9_give_38 rfl ?_
        refine sh_iload_n (pc := 39) dX9_give_39 rfl ?_
        refine sh_iload_n (pc := 40) dX9_give_40 rfl ?_
        refine sh_iconst (v := 1) (pc := 41) dX9_give_41 rfl ?_
        refine sh_cu (N := mX9_gains) (pc := 42) dX9_give_42 ml_X9_58 h mf_X9_gains iv_X9_gains ⟨Nat.le_of_ble_eq_true rfl, Nat.le_of_ble_eq_true rfl⟩ rfl rfl (Nat.le_of_ble_eq_true rfl) ok_9_0 rfl (show vwCl[9]? = some (RX9, TX9, 14) from rfl) rfl (fun S11 h => ?_)
        refine sh_aload_n (pc := 45) dX9_give_45 rfl ?_
        refine sh_aload_n (pc := 46) dX9_give_46 rfl ?_
        refine sh_iload_n (pc := 47) dX9_give_47 rfl ?_
        refine sh_iconst (v := 3) (pc := 48) dX9_give_48 rfl ?_
        refine sh_ci (N := mX9_of) (pc := 49) dX9_give_49 ml_X9_46 h mf_X9_of iv_X9_of ⟨Nat.le_of_ble_eq_true rfl, Nat.le_of_ble_eq_true rfl⟩ rfl rfl (Nat.le_of_ble_eq_true rfl) ok_9_0 rfl (show vwCl[9]? = some (RX9, TX9, 14) from rfl) rfl (fun r13 S12 h => ?_)
        refine sh_ci (N := mX9_ends) (pc := 52) dX9_give_52 ml_X9_70 h mf_X9_ends iv_X9_ends ⟨Nat.le_of_ble_eq_true rfl, Nat.le_of_ble_eq_true rfl⟩ rfl rfl (Nat.le_of_ble_eq_true rfl) ok_9_0 rfl (show vwCl[9]? = some (RX9, TX9, 14) from rfl) rfl (fun r15 S14 h => ?_)
        exact sh_ret_i (pc := 55) dX9_give_55 rfl ⟨rfl, rfl⟩ h
      · have h := h.2 hc9
        refine sh_ldc (v := (-1000002)) (pc := 31) dX9_give_31 kc_X9_78 ?_
        exact sh_ret_i (pc := 33) dX9_give_33 rfl ⟨rfl, rfl⟩ h
    · have h := h.2 hc6
      refine sh_ldc (v := (-1000001)) (pc := 19) dX9_give_19 kc_X9_32 ?_
      exact sh_ret_i (pc := 21) dX9_give_21 rfl ⟨rfl, rfl⟩ h

set_option maxRecDepth 100000 in
set_option maxHeartbeats 4000000 in
theorem wp_X9_memberOf {g : sh_G} {S : sh_S} {sz : Nat} {Q : Int32 → sh_S → Prop} {a1 : Int32} {a2 : Int32} 
    (h : (sh_Ci g mX9_isMember [sh_R (9, 0, 0), sh_I a1] S sz (fun r2 S1 => ((r2 = 0 → Q (-1000001) S1) ∧ (¬ r2 = 0 → (sh_Ci g mX9_in [sh_I a2, sh_I 0, sh_I 13] S1 sz (fun r5 S4 => ((¬ r5 = 0 → ((12 ≤ a2 → ((¬ a2 = 12 → (sh_Ci g mX9_of [sh_R (9, 0, 0), sh_I a1, sh_I 0] S4 sz (fun r10 S9 => ((¬ r10 = 2 → (sh_Ci g mX9_turnOf [sh_R (9, 0, 0), sh_I a1] S9 sz (fun r13 S12 => Q r13 S12))) ∧ (r10 = 2 → Q (-1000004) S9))))) ∧ (a2 = 12 → (sh_Ci g mX9_toolsOf [sh_R (9, 0, 0), sh_I a1, sh_I 0] S4 sz (fun r15 S14 => Q r15 S14))))) ∧ (¬ 12 ≤ a2 → (sh_Ci g mX9_of [sh_R (9, 0, 0), sh_I a1, sh_I a2] S4 sz (fun r17 S16 => Q r17 S16))))) ∧ (r5 = 0 → Q (-1000001) S4))))))))) :
    sh_Ci g mX9_memberOf [sh_R (9, 0, 0), sh_I a1, sh_I a2] S sz Q := by
  refine sh_enter (ls := [(0, sh_R (9, 0, 0)), (1, sh_I a1), (2, sh_I a2)]) (by decide +kernel) (Nat.le_of_ble_eq_true rfl) rfl ?_
  refine sh_aload_n (pc := 0) dX9_memberOf_0 rfl ?_
  refine sh_iload_n (pc := 1) dX9_memberOf_1 rfl ?_
  refine sh_ci (N := mX9_isMember) (pc := 2) dX9_memberOf_2 ml_X9_74 h mf_X9_isMember iv_X9_isMember ⟨Nat.le_of_ble_eq_true rfl, Nat.le_of_ble_eq_true rfl⟩ rfl rfl (Nat.le_of_ble_eq_true rfl) ok_9_0 rfl (show vwCl[9]? = some (RX9, TX9, 14) from rfl) rfl (fun r2 S1 h => ?_)
  refine sh_if_eq (tgt := 18) (pc := 5) dX9_memberOf_5 (by decide) (fun hc3 => ?_) (fun hc3 => ?_)
  · have h := h.1 hc3
    refine sh_ldc (v := (-1000001)) (pc := 18) dX9_memberOf_18 kc_X9_32 ?_
    exact sh_ret_i (pc := 20) dX9_memberOf_20 rfl ⟨rfl, rfl⟩ h
  · have h := h.2 hc3
    refine sh_iload_n (pc := 8) dX9_memberOf_8 rfl ?_
    refine sh_iconst (v := 0) (pc := 9) dX9_memberOf_9 rfl ?_
    refine sh_bipush (v := 13) (pc := 10) dX9_memberOf_10 rfl ?_
    refine sh_si (N := mX9_in) (pc := 12) dX9_memberOf_12 ml_X9_38 h mf_X9_in is_X9_in ⟨Nat.le_of_ble_eq_true rfl, Nat.le_of_ble_eq_true rfl⟩ rfl rfl (Nat.le_of_ble_eq_true rfl) (fun r5 S4 h => ?_)
    refine sh_if_ne (tgt := 21) (pc := 15) dX9_memberOf_15 (by decide) (fun hc6 => ?_) (fun hc6 => ?_)
    · have h := h.1 hc6
      refine sh_iload_n (pc := 21) dX9_memberOf_21 rfl ?_
      refine sh_bipush (v := 12) (pc := 22) dX9_memberOf_22 rfl ?_
      refine sh_icmp_ge (tgt := 34) (pc := 24) dX9_memberOf_24 (by decide) (fun hc7 => ?_) (fun hc7 => ?_)
      · have h := h.1 hc7
        refine sh_iload_n (pc := 34) dX9_memberOf_34 rfl ?_
        refine sh_bipush (v := 12) (pc := 35) dX9_memberOf_35 rfl ?_
        refine sh_icmp_ne (tgt := 47) (pc := 37) dX9_memberOf_37 (by decide) (fun hc8 => ?_) (fun hc8 => ?_)
        · have h := h.1 hc8
          refine sh_aload_n (pc := 47) dX9_memberOf_47 rfl ?_
          refine sh_iload_n (pc := 48) dX9_memberOf_48 rfl ?_
          refine sh_iconst (v := 0) (pc := 49) dX9_memberOf_49 rfl ?_
          refine sh_ci (N := mX9_of) (pc := 50) dX9_memberOf_50 ml_X9_46 h mf_X9_of iv_X9_of ⟨Nat.le_of_ble_eq_true rfl, Nat.le_of_ble_eq_true rfl⟩ rfl rfl (Nat.le_of_ble_eq_true rfl) ok_9_0 rfl (show vwCl[9]? = some (RX9, TX9, 14) from rfl) rfl (fun r10 S9 h => ?_)
          refine sh_iconst (v := 2) (pc := 53) dX9_memberOf_53 rfl ?_
          refine sh_icmp_ne (tgt := 62) (pc := 54) dX9_memberOf_54 (by decide) (fun hc11 => ?_) (fun hc11 => ?_)
          · have h := h.1 hc11
            refine sh_aload_n (pc := 62) dX9_memberOf_62 rfl ?_
            refine sh_iload_n (pc := 63) dX9_memberOf_63 rfl ?_
            refine sh_ci (N := mX9_turnOf) (pc := 64) dX9_memberOf_64 ml_X9_85 h mf_X9_turnOf iv_X9_turnOf ⟨Nat.le_of_ble_eq_true rfl, Nat.le_of_ble_eq_true rfl⟩ rfl rfl (Nat.le_of_ble_eq_true rfl) ok_9_0 rfl (show vwCl[9]? = some (RX9, TX9, 14) from rfl) rfl (fun r13 S12 h => ?_)
            exact sh_ret_i (pc := 67) dX9_memberOf_67 rfl ⟨rfl, rfl⟩ h
          · have h := h.2 hc11
            refine sh_ldc (v := (-1000004)) (pc := 57) dX9_memberOf_57 kc_X9_33 ?_
            refine sh_goto (tgt := 67) (pc := 59) dX9_memberOf_59 (by decide) ?_
            exact sh_ret_i (pc := 67) dX9_memberOf_67 rfl ⟨rfl, rfl⟩ h
        · have h := h.2 hc8
          refine sh_aload_n (pc := 40) dX9_memberOf_40 rfl ?_
          refine sh_iload_n (pc := 41) dX9_memberOf_41 rfl ?_
          refine sh_iconst (v := 0) (pc := 42) dX9_memberOf_42 rfl ?_
          refine sh_ci (N := mX9_toolsOf) (pc := 43) dX9_memberOf_43 ml_X9_88 h mf_X9_toolsOf iv_X9_toolsOf ⟨Nat.le_of_ble_eq_true rfl, Nat.le_of_ble_eq_true rfl⟩ rfl rfl (Nat.le_of_ble_eq_true rfl) ok_9_0 rfl (show vwCl[9]? = some (RX9, TX9, 14) from rfl) rfl (fun r15 S14 h => ?_)
          exact sh_ret_i (pc := 46) dX9_memberOf_46 rfl ⟨rfl, rfl⟩ h
      · have h := h.2 hc7
        refine sh_aload_n (pc := 27) dX9_memberOf_27 rfl ?_
        refine sh_iload_n (pc := 28) dX9_memberOf_28 rfl ?_
        refine sh_iload_n (pc := 29) dX9_memberOf_29 rfl ?_
        refine sh_ci (N := mX9_of) (pc := 30) dX9_memberOf_30 ml_X9_46 h mf_X9_of iv_X9_of ⟨Nat.le_of_ble_eq_true rfl, Nat.le_of_ble_eq_true rfl⟩ rfl rfl (Nat.le_of_ble_eq_true rfl) ok_9_0 rfl (show vwCl[9]? = some (RX9, TX9, 14) from rfl) rfl (fun r17 S16 h => ?_)
        exact sh_ret_i (pc := 33) dX9_memberOf_33 rfl ⟨rfl, rfl⟩ h
    · have h := h.2 hc6
      refine sh_ldc (v := (-1000001)) (pc := 18) dX9_memberOf_18 kc_X9_32 ?_
      exact sh_ret_i (pc := 20) dX9_memberOf_20 rfl ⟨rfl, rfl⟩ h

set_option maxRecDepth 100000 in
set_option maxHeartbeats 4000000 in
theorem wp_X9_account {g : sh_G} {S : sh_S} {sz : Nat} {Q : Int32 → sh_S → Prop} {a1 : Int32} 
    (h : (sh_Ci g mX9_in [sh_I a1, sh_I 1, sh_I 11] S sz (fun r2 S1 => ((¬ r2 = 0 → ((¬ a1 = 11 → (∃ (Iv5 : Int32 → Int32 → sh_S → Prop) (mu5 : Int32 → Int32 → sh_S → Nat), Iv5 0 0 S1 ∧ ∀ (v6 : Int32) (v7 : Int32) (S8 : sh_S), Iv5 v6 v7 S8 → (((S8 (19, 0, 0) 8) ≤ v7 → Q v6 S8) ∧ (¬ (S8 (19, 0, 0) 8) ≤ v7 → ((11 ≤ a1 → (∀ x12 : Int32, x12 = (v6 + 0) → (∀ x13 : Int32, x13 = v7 + 1 → (Iv5 x12 x13 S8 ∧ mu5 x12 x13 S8 < mu5 v6 v7 S8)))) ∧ (¬ 11 ≤ a1 → (sh_Ci g mX9_of [sh_R (9, 0, 0), sh_I v7, sh_I a1] S8 sz (fun r15 S14 => (∀ x16 : Int32, x16 = (v6 + r15) → (∀ x17 : Int32, x17 = v7 + 1 → (Iv5 x16 x17 S14 ∧ mu5 x16 x17 S14 < mu5 v6 v7 S8))))))))))) ∧ (a1 = 11 → (∀ x19 : Int32, x19 = (S1 (19, 0, 0) 10) → (∃ (Iv20 : Int32 → Int32 → sh_S → Prop) (mu20 : Int32 → Int32 → sh_S → Nat), Iv20 x19 0 S1 ∧ ∀ (v21 : Int32) (v22 : Int32) (S23 : sh_S), Iv20 v21 v22 S23 → (((S23 (19, 0, 0) 8) ≤ v22 → Q v21 S23) ∧ (¬ (S23 (19, 0, 0) 8) ≤ v22 → ((11 ≤ a1 → (∀ x27 : Int32, x27 = (v21 + 0) → (∀ x28 : Int32, x28 = v22 + 1 → (Iv20 x27 x28 S23 ∧ mu20 x27 x28 S23 < mu20 v21 v22 S23)))) ∧ (¬ 11 ≤ a1 → (sh_Ci g mX9_of [sh_R (9, 0, 0), sh_I v22, sh_I a1] S23 sz (fun r30 S29 => (∀ x31 : Int32, x31 = (v21 + r30) → (∀ x32 : Int32, x32 = v22 + 1 → (Iv20 x31 x32 S29 ∧ mu20 x31 x32 S29 < mu20 v21 v22 S23)))))))))))))) ∧ (r2 = 0 → Q (-1000001) S1))))) :
    sh_Ci g mX9_account [sh_R (9, 0, 0), sh_I a1] S sz Q := by
  refine sh_enter (ls := [(0, sh_R (9, 0, 0)), (1, sh_I a1)]) (by decide +kernel) (Nat.le_of_ble_eq_true rfl) rfl ?_
  refine sh_iload_n (pc := 0) dX9_account_0 rfl ?_
  refine sh_iconst (v := 1) (pc := 1) dX9_account_1 rfl ?_
  refine sh_bipush (v := 11) (pc := 2) dX9_account_2 rfl ?_
  refine sh_si (N := mX9_in) (pc := 4) dX9_account_4 ml_X9_38 h mf_X9_in is_X9_in ⟨Nat.le_of_ble_eq_true rfl, Nat.le_of_ble_eq_true rfl⟩ rfl rfl (Nat.le_of_ble_eq_true rfl) (fun r2 S1 h => ?_)
  refine sh_if_ne (tgt := 13) (pc := 7) dX9_account_7 (by decide) (fun hc3 => ?_) (fun hc3 => ?_)
  · have h := h.1 hc3
    refine sh_iload_n (pc := 13) dX9_account_13 rfl ?_
    refine sh_bipush (v := 11) (pc := 14) dX9_account_14 rfl ?_
    refine sh_icmp_ne (tgt := 29) (pc := 16) dX9_account_16 (by decide) (fun hc4 => ?_) (fun hc4 => ?_)
    · have h := h.1 hc4
      refine sh_iconst (v := 0) (pc := 29) dX9_account_29 rfl ?_
      refine sh_istore_n (ls' := [(2, sh_I 0), (0, sh_R (9, 0, 0)), (1, sh_I a1)]) (pc := 30) dX9_account_30 (by decide) rfl ?_
      refine sh_iconst (v := 0) (pc := 31) dX9_account_31 rfl ?_
      refine sh_istore_n (ls' := [(3, sh_I 0), (2, sh_I 0), (0, sh_R (9, 0, 0)), (1, sh_I a1)]) (pc := 32) dX9_account_32 (by decide) rfl ?_
      obtain ⟨Iv5, mu5, h0, hs5⟩ := h
      refine sh_pick [2, 3, 1, 0] rfl ?_
      refine sh_lp3 Iv5 mu5 (fun v6 v7 S8 => sh_V g mX9_account 0 0 33 [(0, sh_R (9, 0, 0)), (1, sh_I a1), (2, sh_I v6), (3, sh_I v7)] [] (sh_St S8) sz (sh_ti sz Q)) (fun v6 v7 S8 hI5 ih5 => ?_) _ _ _ h0
      have h := hs5 v6 v7 S8 hI5
      clear h0
      refine sh_iload_n (pc := 33) dX9_account_33 rfl ?_
      refine sh_aload_n (pc := 34) dX9_account_34 rfl ?_
      refine sh_gf (pc := 35) dX9_account_35 fl_X9_7 cf_9 ok_9_0 rfl rfl ?_
      refine sh_bipush (v := 8) (pc := 38) dX9_account_38 rfl ?_
      refine sh_ia (pc := 40) dX9_account_40 ok_19_0 rfl (vp_in_iff.mpr ⟨by decide, by decide⟩) ?_
      refine sh_icmp_ge (tgt := 69) (pc := 41) dX9_account_41 (by decide) (fun hc10 => ?_) (fun hc10 => ?_)
      · have h := h.1 hc10
        refine sh_iload_n (pc := 69) dX9_account_69 rfl ?_
        exact sh_ret_i (pc := 70) dX9_account_70 rfl ⟨rfl, rfl⟩ h
      · have h := h.2 hc10
        refine sh_iload_n (pc := 44) dX9_account_44 rfl ?_
        refine sh_iload_n (pc := 45) dX9_account_45 rfl ?_
        refine sh_bipush (v := 11) (pc := 46) dX9_account_46 rfl ?_
        refine sh_icmp_ge (tgt := 60) (pc := 48) dX9_account_48 (by decide) (fun hc11 => ?_) (fun hc11 => ?_)
        · have h := h.1 hc11
          refine sh_iconst (v := 0) (pc := 60) dX9_account_60 rfl ?_
          refine sh_iadd (pc := 61) dX9_account_61 ?_
          refine sh_topI (fun x12 hx12 => ?_)
          have h := h x12 hx12
          refine sh_istore_n (ls' := [(2, sh_I x12), (0, sh_R (9, 0, 0)), (1, sh_I a1), (3, sh_I v7)]) (pc := 62) dX9_account_62 (by decide) rfl ?_
          obtain ⟨x13, hx13⟩ : ∃ y : Int32, y = v7 + 1 := ⟨_, rfl⟩
          have h := h x13 hx13
          refine sh_iinc (v := x13) (ls' := [(3, sh_I x13), (2, sh_I x12), (0, sh_R (9, 0, 0)), (1, sh_I a1)]) (pc := 63) dX9_account_63 rfl hx13.symm (by decide) rfl ?_
          refine sh_goto (tgt := 33) (pc := 66) dX9_account_66 (by decide) ?_
          refine sh_pick [2, 3, 1, 0] rfl ?_
          exact ih5 _ _ _ h.1 h.2
        · have h := h.2 hc11
          refine sh_aload_n (pc := 51) dX9_account_51 rfl ?_
          refine sh_iload_n (pc := 52) dX9_account_52 rfl ?_
          refine sh_iload_n (pc := 53) dX9_account_53 rfl ?_
          refine sh_ci (N := mX9_of) (pc := 54) dX9_account_54 ml_X9_46 h mf_X9_of iv_X9_of ⟨Nat.le_of_ble_eq_true rfl, Nat.le_of_ble_eq_true rfl⟩ rfl rfl (Nat.le_of_ble_eq_true rfl) ok_9_0 rfl (show vwCl[9]? = some (RX9, TX9, 14) from rfl) rfl (fun r15 S14 h => ?_)
          refine sh_goto (tgt := 61) (pc := 57) dX9_account_57 (by decide) ?_
          refine sh_iadd (pc := 61) dX9_account_61 ?_
          refine sh_topI (fun x16 hx16 => ?_)
          have h := h x16 hx16
          refine sh_istore_n (ls' := [(2, sh_I x16), (0, sh_R (9, 0, 0)), (1, sh_I a1), (3, sh_I v7)]) (pc := 62) dX9_account_62 (by decide) rfl ?_
          obtain ⟨x17, hx17⟩ : ∃ y : Int32, y = v7 + 1 := ⟨_, rfl⟩
          have h := h x17 hx17
          refine sh_iinc (v := x17) (ls' := [(3, sh_I x17), (2, sh_I x16), (0, sh_R (9, 0, 0)), (1, sh_I a1)]) (pc := 63) dX9_account_63 rfl hx17.symm (by decide) rfl ?_
          refine sh_goto (tgt := 33) (pc := 66) dX9_account_66 (by decide) ?_
          refine sh_pick [2, 3, 1, 0] rfl ?_
          exact ih5 _ _ _ h.1 h.2
    · have h := h.2 hc4
      refine sh_aload_n (pc := 19) dX9_account_19 rfl ?_
      refine sh_gf (pc := 20) dX9_account_20 fl_X9_7 cf_9 ok_9_0 rfl rfl ?_
      refine sh_bipush (v := 10) (pc := 23) dX9_account_23 rfl ?_
      refine sh_ia (pc := 25) dX9_account_25 ok_19_0 rfl (vp_in_iff.mpr ⟨by decide, by decide⟩) ?_
      refine sh_goto (tgt := 30) (pc := 26) dX9_account_26 (by decide) ?_
      refine sh_topI (fun x19 hx19 => ?_)
      have h := h x19 hx19
      refine sh_istore_n (ls' := [(2, sh_I x19), (0, sh_R (9, 0, 0)), (1, sh_I a1)]) (pc := 30) dX9_account_30 (by decide) rfl ?_
      refine sh_iconst (v := 0) (pc := 31) dX9_account_31 rfl ?_
      refine sh_istore_n (ls' := [(3, sh_I 0), (2, sh_I x19), (0, sh_R (9, 0, 0)), (1, sh_I a1)]) (pc := 32) dX9_account_32 (by decide) rfl ?_
      obtain ⟨Iv20, mu20, h0, hs20⟩ := h
      refine sh_pick [2, 3, 1, 0] rfl ?_
      refine sh_lp3 Iv20 mu20 (fun v21 v22 S23 => sh_V g mX9_account 0 0 33 [(0, sh_R (9, 0, 0)), (1, sh_I a1), (2, sh_I v21), (3, sh_I v22)] [] (sh_St S23) sz (sh_ti sz Q)) (fun v21 v22 S23 hI20 ih20 => ?_) _ _ _ h0
      have h := hs20 v21 v22 S23 hI20
      clear h0
      refine sh_iload_n (pc := 33) dX9_account_33 rfl ?_
      refine sh_aload_n (pc := 34) dX9_account_34 rfl ?_
      refine sh_gf (pc := 35) dX9_account_35 fl_X9_7 cf_9 ok_9_0 rfl rfl ?_
      refine sh_bipush (v := 8) (pc := 38) dX9_account_38 rfl ?_
      refine sh_ia (pc := 40) dX9_account_40 ok_19_0 rfl (vp_in_iff.mpr ⟨by decide, by decide⟩) ?_
      refine sh_icmp_ge (tgt := 69) (pc := 41) dX9_account_41 (by decide) (fun hc25 => ?_) (fun hc25 => ?_)
      · have h := h.1 hc25
        refine sh_iload_n (pc := 69) dX9_account_69 rfl ?_
        exact sh_ret_i (pc := 70) dX9_account_70 rfl ⟨rfl, rfl⟩ h
      · have h := h.2 hc25
        refine sh_iload_n (pc := 44) dX9_account_44 rfl ?_
        refine sh_iload_n (pc := 45) dX9_account_45 rfl ?_
        refine sh_bipush (v := 11) (pc := 46) dX9_account_46 rfl ?_
        refine sh_icmp_ge (tgt := 60) (pc := 48) dX9_account_48 (by decide) (fun hc26 => ?_) (fun hc26 => ?_)
        · have h := h.1 hc26
          refine sh_iconst (v := 0) (pc := 60) dX9_account_60 rfl ?_
          refine sh_iadd (pc := 61) dX9_account_61 ?_
          refine sh_topI (fun x27 hx27 => ?_)
          have h := h x27 hx27
          refine sh_istore_n (ls' := [(2, sh_I x27), (0, sh_R (9, 0, 0)), (1, sh_I a1), (3, sh_I v22)]) (pc := 62) dX9_account_62 (by decide) rfl ?_
          obtain ⟨x28, hx28⟩ : ∃ y : Int32, y = v22 + 1 := ⟨_, rfl⟩
          have h := h x28 hx28
          refine sh_iinc (v := x28) (ls' := [(3, sh_I x28), (2, sh_I x27), (0, sh_R (9, 0, 0)), (1, sh_I a1)]) (pc := 63) dX9_account_63 rfl hx28.symm (by decide) rfl ?_
          refine sh_goto (tgt := 33) (pc := 66) dX9_account_66 (by decide) ?_
          refine sh_pick [2, 3, 1, 0] rfl ?_
          exact ih20 _ _ _ h.1 h.2
        · have h := h.2 hc26
          refine sh_aload_n (pc := 51) dX9_account_51 rfl ?_
          refine sh_iload_n (pc := 52) dX9_account_52 rfl ?_
          refine sh_iload_n (pc := 53) dX9_account_53 rfl ?_
          refine sh_ci (N := mX9_of) (pc := 54) dX9_account_54 ml_X9_46 h mf_X9_of iv_X9_of ⟨Nat.le_of_ble_eq_true rfl, Nat.le_of_ble_eq_true rfl⟩ rfl rfl (Nat.le_of_ble_eq_true rfl) ok_9_0 rfl (show vwCl[9]? = some (RX9, TX9, 14) from rfl) rfl (fun r30 S29 h => ?_)
          refine sh_goto (tgt := 61) (pc := 57) dX9_account_57 (by decide) ?_
          refine sh_iadd (pc := 61) dX9_account_61 ?_
          refine sh_topI (fun x31 hx31 => ?_)
          have h := h x31 hx31
          refine sh_istore_n (ls' := [(2, sh_I x31), (0, sh_R (9, 0, 0)), (1, sh_I a1), (3, sh_I v22)]) (pc := 62) dX9_account_62 (by decide) rfl ?_
          obtain ⟨x32, hx32⟩ : ∃ y : Int32, y = v22 + 1 := ⟨_, rfl⟩
          have h := h x32 hx32
          refine sh_iinc (v := x32) (ls' := [(3, sh_I x32), (2, sh_I x31), (0, sh_R (9, 0, 0)), (1, sh_I a1)]) (pc := 63) dX9_account_63 rfl hx32.symm (by decide) rfl ?_
          refine sh_goto (tgt := 33) (pc := 66) dX9_account_66 (by decide) ?_
          refine sh_pick [2, 3, 1, 0] rfl ?_
          exact ih20 _ _ _ h.1 h.2
  · have h := h.2 hc3
    refine sh_ldc (v := (-1000001)) (pc := 10) dX9_account_10 kc_X9_32 ?_
    exact sh_ret_i (pc := 12) dX9_account_12 rfl ⟨rfl, rfl⟩ h

set_option maxRecDepth 100000 in
set_option maxHeartbeats 4000000 in
theorem wp_X9_debtorAt {g : sh_G} {S : sh_S} {sz : Nat} {Q : Int32 → sh_S → Prop} {a1 : Int32} 
    (h : ((0 ≤ a1 → (∃ (Iv2 : Int32 → sh_S → Prop) (mu2 : Int32 → sh_S → Nat), Iv2 0 S ∧ ∀ (v3 : Int32) (S4 : sh_S), Iv2 v3 S4 → (((S4 (19, 0, 0) 8) ≤ v3 → Q (-1000004) S4) ∧ (¬ (S4 (19, 0, 0) 8) ≤ v3 → (∃ (Iv7 : Int32 → Int32 → sh_S → Prop) (mu7 : Int32 → Int32 → sh_S → Nat), Iv7 0 0 S4 ∧ ∀ (v8 : Int32) (v9 : Int32) (S10 : sh_S), Iv7 v8 v9 S10 → (((S10 (19, 0, 0) 8) ≤ v9 → (sh_Ci g mX9_openOf [sh_R (9, 0, 0), sh_I v3] S10 sz (fun r14 S13 => ((r14 ≤ 0 → (∀ x16 : Int32, x16 = v3 + 1 → (Iv2 x16 S13 ∧ mu2 x16 S13 < mu2 v3 S4))) ∧ (¬ r14 ≤ 0 → ((¬ v8 = a1 → (∀ x18 : Int32, x18 = v3 + 1 → (Iv2 x18 S13 ∧ mu2 x18 S13 < mu2 v3 S4))) ∧ (v8 = a1 → Q v3 S13))))))) ∧ (¬ (S10 (19, 0, 0) 8) ≤ v9 → (sh_Ci g mX9_openOf [sh_R (9, 0, 0), sh_I v9] S10 sz (fun r20 S19 => (sh_Ci g mX9_openOf [sh_R (9, 0, 0), sh_I v3] S19 sz (fun r22 S21 => ((r22 < r20 → (∀ x24 : Int32, x24 = (v8 + 1) → (∀ x25 : Int32, x25 = v9 + 1 → (Iv7 x24 x25 S21 ∧ mu7 x24 x25 S21 < mu7 v8 v9 S10)))) ∧ (¬ r22 < r20 → (sh_Ci g mX9_openOf [sh_R (9, 0, 0), sh_I v9] S21 sz (fun r27 S26 => (sh_Ci g mX9_openOf [sh_R (9, 0, 0), sh_I v3] S26 sz (fun r29 S28 => ((¬ r27 = r29 → (∀ x31 : Int32, x31 = (v8 + 0) → (∀ x32 : Int32, x32 = v9 + 1 → (Iv7 x31 x32 S28 ∧ mu7 x31 x32 S28 < mu7 v8 v9 S10)))) ∧ (r27 = r29 → ((v3 ≤ v9 → (∀ x34 : Int32, x34 = (v8 + 0) → (∀ x35 : Int32, x35 = v9 + 1 → (Iv7 x34 x35 S28 ∧ mu7 x34 x35 S28 < mu7 v8 v9 S10)))) ∧ (¬ v3 ≤ v9 → (∀ x36 : Int32, x36 = (v8 + 1) → (∀ x37 : Int32, x37 = v9 + 1 → (Iv7 x36 x37 S28 ∧ mu7 x36 x37 S28 < mu7 v8 v9 S10)))))))))))))))))))))))) ∧ (¬ 0 ≤ a1 → Q (-1000001) S))) :
    sh_Ci g mX9_debtorAt [sh_R (9, 0, 0), sh_I a1] S sz Q := by
  refine sh_enter (ls := [(0, sh_R (9, 0, 0)), (1, sh_I a1)]) (by decide +kernel) (Nat.le_of_ble_eq_true rfl) rfl ?_
  refine sh_iload_n (pc := 0) dX9_debtorAt_0 rfl ?_
  refine sh_if_ge (tgt := 7) (pc := 1) dX9_debtorAt_1 (by decide) (fun hc1 => ?_) (fun hc1 => ?_)
  · have h := h.1 hc1
    refine sh_iconst (v := 0) (pc := 7) dX9_debtorAt_7 rfl ?_
    refine sh_istore_n (ls' := [(2, sh_I 0), (0, sh_R (9, 0, 0)), (1, sh_I a1)]) (pc := 8) dX9_debtorAt_8 (by decide) rfl ?_
    obtain ⟨Iv2, mu2, h0, hs2⟩ := h
    refine sh_pick [1, 2, 0] rfl ?_
    refine sh_lp2 Iv2 mu2 (fun v3 S4 => sh_V g mX9_debtorAt 0 0 9 [(0, sh_R (9, 0, 0)), (1, sh_I a1), (2, sh_I v3)] [] (sh_St S4) sz (sh_ti sz Q)) (fun v3 S4 hI2 ih2 => ?_) _ _ h0
    have h := hs2 v3 S4 hI2
    clear h0
    refine sh_iload_n (pc := 9) dX9_debtorAt_9 rfl ?_
    refine sh_aload_n (pc := 10) dX9_debtorAt_10 rfl ?_
    refine sh_gf (pc := 11) dX9_debtorAt_11 fl_X9_7 cf_9 ok_9_0 rfl rfl ?_
    refine sh_bipush (v := 8) (pc := 14) dX9_debtorAt_14 rfl ?_
    refine sh_ia (pc := 16) dX9_debtorAt_16 ok_19_0 rfl (vp_in_iff.mpr ⟨by decide, by decide⟩) ?_
    refine sh_icmp_ge (tgt := 106) (pc := 17) dX9_debtorAt_17 (by decide) (fun hc6 => ?_) (fun hc6 => ?_)
    · have h := h.1 hc6
      refine sh_ldc (v := (-1000004)) (pc := 106) dX9_debtorAt_106 kc_X9_33 ?_
      exact sh_ret_i (pc := 108) dX9_debtorAt_108 rfl ⟨rfl, rfl⟩ h
    · have h := h.2 hc6
      refine sh_iconst (v := 0) (pc := 20) dX9_debtorAt_20 rfl ?_
      refine sh_istore_n (ls' := [(3, sh_I 0), (0, sh_R (9, 0, 0)), (1, sh_I a1), (2, sh_I v3)]) (pc := 21) dX9_debtorAt_21 (by decide) rfl ?_
      refine sh_iconst (v := 0) (pc := 22) dX9_debtorAt_22 rfl ?_
      refine sh_istore (ls' := [(4, sh_I 0), (3, sh_I 0), (0, sh_R (9, 0, 0)), (1, sh_I a1), (2, sh_I v3)]) (pc := 23) dX9_debtorAt_23 (by decide) rfl ?_
      obtain ⟨Iv7, mu7, h0, hs7⟩ := h
      refine sh_pick [2, 3, 4, 1, 0] rfl ?_
      refine sh_lp3 Iv7 mu7 (fun v8 v9 S10 => sh_V g mX9_debtorAt 0 0 25 [(0, sh_R (9, 0, 0)), (1, sh_I a1), (2, sh_I v3), (3, sh_I v8), (4, sh_I v9)] [] (sh_St S10) sz (sh_ti sz Q)) (fun v8 v9 S10 hI7 ih7 => ?_) _ _ _ h0
      have h := hs7 v8 v9 S10 hI7
      clear h0
      refine sh_iload (pc := 25) dX9_debtorAt_25 rfl ?_
      refine sh_aload_n (pc := 27) dX9_debtorAt_27 rfl ?_
      refine sh_gf (pc := 28) dX9_debtorAt_28 fl_X9_7 cf_9 ok_9_0 rfl rfl ?_
      refine sh_bipush (v := 8) (pc := 31) dX9_debtorAt_31 rfl ?_
      refine sh_ia (pc := 33) dX9_debtorAt_33 ok_19_0 rfl (vp_in_iff.mpr ⟨by decide, by decide⟩) ?_
      refine sh_icmp_ge (tgt := 85) (pc := 34) dX9_debtorAt_34 (by decide) (fun hc12 => ?_) (fun hc12 => ?_)
      · have h := h.1 hc12
        refine sh_aload_n (pc := 85) dX9_debtorAt_85 rfl ?_
        refine sh_iload_n (pc := 86) dX9_debtorAt_86 rfl ?_
        refine sh_ci (N := mX9_openOf) (pc := 87) dX9_debtorAt_87 ml_X9_92 h mf_X9_openOf iv_X9_openOf ⟨Nat.le_of_ble_eq_true rfl, Nat.le_of_ble_eq_true rfl⟩ rfl rfl (Nat.le_of_ble_eq_true rfl) ok_9_0 rfl (show vwCl[9]? = some (RX9, TX9, 14) from rfl) rfl (fun r14 S13 h => ?_)
        refine sh_if_le (tgt := 100) (pc := 90) dX9_debtorAt_90 (by decide) (fun hc15 => ?_) (fun hc15 => ?_)
        · have h := h.1 hc15
          obtain ⟨x16, hx16⟩ : ∃ y : Int32, y = v3 + 1 := ⟨_, rfl⟩
          have h := h x16 hx16
          refine sh_iinc (v := x16) (ls' := [(2, sh_I x16), (0, sh_R (9, 0, 0)), (1, sh_I a1), (3, sh_I v8), (4, sh_I v9)]) (pc := 100) dX9_debtorAt_100 rfl hx16.symm (by decide) rfl ?_
          refine sh_goto (tgt := 9) (pc := 103) dX9_debtorAt_103 (by decide) ?_
          refine sh_pick [1, 2, 0] rfl ?_
          exact ih2 _ _ h.1 h.2
        · have h := h.2 hc15
          refine sh_iload_n (pc := 93) dX9_debtorAt_93 rfl ?_
          refine sh_iload_n (pc := 94) dX9_debtorAt_94 rfl ?_
          refine sh_icmp_ne (tgt := 100) (pc := 95) dX9_debtorAt_95 (by decide) (fun hc17 => ?_) (fun hc17 => ?_)
          · have h := h.1 hc17
            obtain ⟨x18, hx18⟩ : ∃ y : Int32, y = v3 + 1 := ⟨_, rfl⟩
            have h := h x18 hx18
            refine sh_iinc (v := x18) (ls' := [(2, sh_I x18), (0, sh_R (9, 0, 0)), (1, sh_I a1), (3, sh_I v8), (4, sh_I v9)]) (pc := 100) dX9_debtorAt_100 rfl hx18.symm (by decide) rfl ?_
            refine sh_goto (tgt := 9) (pc := 103) dX9_debtorAt_103 (by decide) ?_
            refine sh_pick [1, 2, 0] rfl ?_
            exact ih2 _ _ h.1 h.2
          · have h := h.2 hc17
            refine sh_iload_n (pc := 98) dX9_debtorAt_98 rfl ?_
            exact sh_ret_i (pc := 99) dX9_debtorAt_99 rfl ⟨rfl, rfl⟩ h
      · have h := h.2 hc12
        refine sh_iload_n (pc := 37) dX9_debtorAt_37 rfl ?_
        refine sh_aload_n (pc := 38) dX9_debtorAt_38 rfl ?_
        refine sh_iload (pc := 39) dX9_debtorAt_39 rfl ?_
        refine sh_ci (N := mX9_openOf) (pc := 41) dX9_debtorAt_41 ml_X9_92 h mf_X9_openOf iv_X9_openOf ⟨Nat.le_of_ble_eq_true rfl, Nat.le_of_ble_eq_true rfl⟩ rfl rfl (Nat.le_of_ble_eq_true rfl) ok_9_0 rfl (show vwCl[9]? = some (RX9, TX9, 14) from rfl) rfl (fun r20 S19 h => ?_)
        refine sh_aload_n (pc := 44) dX9_debtorAt_44 rfl ?_
        refine sh_iload_n (pc := 45) dX9_debtorAt_45 rfl ?_
        refine sh_ci (N := mX9_openOf) (pc := 46) dX9_debtorAt_46 ml_X9_92 h mf_X9_openOf iv_X9_openOf ⟨Nat.le_of_ble_eq_true rfl, Nat.le_of_ble_eq_true rfl⟩ rfl rfl (Nat.le_of_ble_eq_true rfl) ok_9_0 rfl (show vwCl[9]? = some (RX9, TX9, 14) from rfl) rfl (fun r22 S21 h => ?_)
        refine sh_icmp_gt (tgt := 72) (pc := 49) dX9_debtorAt_49 (by decide) (fun hc23 => ?_) (fun hc23 => ?_)
        · have h := h.1 hc23
          refine sh_iconst (v := 1) (pc := 72) dX9_debtorAt_72 rfl ?_
          refine sh_goto (tgt := 77) (pc := 73) dX9_debtorAt_73 (by decide) ?_
          refine sh_iadd (pc := 77) dX9_debtorAt_77 ?_
          refine sh_topI (fun x24 hx24 => ?_)
          have h := h x24 hx24
          refine sh_istore_n (ls' := [(3, sh_I x24), (0, sh_R (9, 0, 0)), (1, sh_I a1), (2, sh_I v3), (4, sh_I v9)]) (pc := 78) dX9_debtorAt_78 (by decide) rfl ?_
          obtain ⟨x25, hx25⟩ : ∃ y : Int32, y = v9 + 1 := ⟨_, rfl⟩
          have h := h x25 hx25
          refine sh_iinc (v := x25) (ls' := [(4, sh_I x25), (3, sh_I x24), (0, sh_R (9, 0, 0)), (1, sh_I a1), (2, sh_I v3)]) (pc := 79) dX9_debtorAt_79 rfl hx25.symm (by decide) rfl ?_
          refine sh_goto (tgt := 25) (pc := 82) dX9_debtorAt_82 (by decide) ?_
          refine sh_pick [2, 3, 4, 1, 0] rfl ?_
          exact ih7 _ _ _ h.1 h.2
        · have h := h.2 hc23
          refine sh_aload_n (pc := 52) dX9_debtorAt_52 rfl ?_
          refine sh_iload (pc := 53) dX9_debtorAt_53 rfl ?_
          refine sh_ci (N := mX9_openOf) (pc := 55) dX9_debtorAt_55 ml_X9_92 h mf_X9_openOf iv_X9_openOf ⟨Nat.le_of_ble_eq_true rfl, Nat.le_of_ble_eq_true rfl⟩ rfl rfl (Nat.le_of_ble_eq_true rfl) ok_9_0 rfl (show vwCl[9]? = some (RX9, TX9, 14) from rfl) rfl (fun r27 S26 h => ?_)
          refine sh_aload_n (pc := 58) dX9_debtorAt_58 rfl ?_
          refine sh_iload_n (pc := 59) dX9_debtorAt_59 rfl ?_
          refine sh_ci (N := mX9_openOf) (pc := 60) dX9_debtorAt_60 ml_X9_92 h mf_X9_openOf iv_X9_openOf ⟨Nat.le_of_ble_eq_true rfl, Nat.le_of_ble_eq_true rfl⟩ rfl rfl (Nat.le_of_ble_eq_true rfl) ok_9_0 rfl (show vwCl[9]? = some (RX9, TX9, 14) from rfl) rfl (fun r29 S28 h => ?_)
          refine sh_icmp_ne (tgt := 76) (pc := 63) dX9_debtorAt_63 (by decide) (fun hc30 => ?_) (fun hc30 => ?_)
          · have h := h.1 hc30
            refine sh_iconst (v := 0) (pc := 76) dX9_debtorAt_76 rfl ?_
            refine sh_iadd (pc := 77) dX9_debtorAt_77 ?_
            refine sh_topI (fun x31 hx31 => ?_)
            have h := h x31 hx31
            refine sh_istore_n (ls' := [(3, sh_I x31), (0, sh_R (9, 0, 0)), (1, sh_I a1), (2, sh_I v3), (4, sh_I v9)]) (pc := 78) dX9_debtorAt_78 (by decide) rfl ?_
            obtain ⟨x32, hx32⟩ : ∃ y : Int32, y = v9 + 1 := ⟨_, rfl⟩
            have h := h x32 hx32
            refine sh_iinc (v := x32) (ls' := [(4, sh_I x32), (3, sh_I x31), (0, sh_R (9, 0, 0)), (1, sh_I a1), (2, sh_I v3)]) (pc := 79) dX9_debtorAt_79 rfl hx32.symm (by decide) rfl ?_
            refine sh_goto (tgt := 25) (pc := 82) dX9_debtorAt_82 (by decide) ?_
            refine sh_pick [2, 3, 4, 1, 0] rfl ?_
            exact ih7 _ _ _ h.1 h.2
          · have h := h.2 hc30
            refine sh_iload (pc := 66) dX9_debtorAt_66 rfl ?_
            refine sh_iload_n (pc := 68) dX9_debtorAt_68 rfl ?_
            refine sh_icmp_ge (tgt := 76) (pc := 69) dX9_debtorAt_69 (by decide) (fun hc33 => ?_) (fun hc33 => ?_)
            · have h := h.1 hc33
              refine sh_iconst (v := 0) (pc := 76) dX9_debtorAt_76 rfl ?_
              refine sh_iadd (pc := 77) dX9_debtorAt_77 ?_
              refine sh_topI (fun x34 hx34 => ?_)
              have h := h x34 hx34
              refine sh_istore_n (ls' := [(3, sh_I x34), (0, sh_R (9, 0, 0)), (1, sh_I a1), (2, sh_I v3), (4, sh_I v9)]) (pc := 78) dX9_debtorAt_78 (by decide) rfl ?_
              obtain ⟨x35, hx35⟩ : ∃ y : Int32, y = v9 + 1 := ⟨_, rfl⟩
              have h := h x35 hx35
              refine sh_iinc (v := x35) (ls' := [(4, sh_I x35), (3, sh_I x34), (0, sh_R (9, 0, 0)), (1, sh_I a1), (2, sh_I v3)]) (pc := 79) dX9_debtorAt_79 rfl hx35.symm (by decide) rfl ?_
              refine sh_goto (tgt := 25) (pc := 82) dX9_debtorAt_82 (by decide) ?_
              refine sh_pick [2, 3, 4, 1, 0] rfl ?_
              exact ih7 _ _ _ h.1 h.2
            · have h := h.2 hc33
              refine sh_iconst (v := 1) (pc := 72) dX9_debtorAt_72 rfl ?_
              refine sh_goto (tgt := 77) (pc := 73) dX9_debtorAt_73 (by decide) ?_
              refine sh_iadd (pc := 77) dX9_debtorAt_77 ?_
              refine sh_topI (fun x36 hx36 => ?_)
              have h := h x36 hx36
              refine sh_istore_n (ls' := [(3, sh_I x36), (0, sh_R (9, 0, 0)), (1, sh_I a1), (2, sh_I v3), (4, sh_I v9)]) (pc := 78) dX9_debtorAt_78 (by decide) rfl ?_
              obtain ⟨x37, hx37⟩ : ∃ y : Int32, y = v9 + 1 := ⟨_, rfl⟩
              have h := h x37 hx37
              refine sh_iinc (v := x37) (ls' := [(4, sh_I x37), (3, sh_I x36), (0, sh_R (9, 0, 0)), (1, sh_I a1), (2, sh_I v3)]) (pc := 79) dX9_debtorAt_79 rfl hx37.symm (by decide) rfl ?_
              refine sh_goto (tgt := 25) (pc := 82) dX9_debtorAt_82 (by decide) ?_
              refine sh_pick [2, 3, 4, 1, 0] rfl ?_
              exact ih7 _ _ _ h.1 h.2
  · have h := h.2 hc1
    refine sh_ldc (v := (-1000001)) (pc := 4) dX9_debtorAt_4 kc_X9_32 ?_
    exact sh_ret_i (pc := 6) dX9_debtorAt_6 rfl ⟨rfl, rfl⟩ h

set_option maxRecDepth 100000 in
set_option maxHeartbeats 4000000 in
theorem wp_X9_real {g : sh_G} {S : sh_S} {sz : Nat} {Q : UInt32 → sh_S → Prop} {a1 : Int32} 
    (h : (vn_sni2f a1 = false ∧ Q ((a1).toUInt32) S)) :
    sh_Cf g mX9_real [sh_I a1] S sz Q := by
  refine sh_enter (ls := [(0, sh_I a1)]) (by decide +kernel) (Nat.le_of_ble_eq_true rfl) rfl ?_
  refine sh_iload_n (pc := 0) dX9_real_0 rfl ?_
  obtain ⟨hv1, h⟩ := h
  refine sh_i2fb (pc := 1) dX9_real_1 ml_X9_108 jw_i2f.1 jw_i2f.2.1 jw_i2f.2.2 hv1 (Nat.le_of_ble_eq_true rfl) (Nat.le_of_ble_eq_true rfl) ?_
  exact sh_ret_f (pc := 4) dX9_real_4 rfl ⟨rfl, rfl⟩ h

set_option maxRecDepth 100000 in
set_option maxHeartbeats 4000000 in
theorem wp_X9_bitsOf {g : sh_G} {S : sh_S} {sz : Nat} {Q : Int32 → sh_S → Prop} {a1 : UInt32} 
    (h : (sh_Ci g mJxf58ca_floatToIntBits_5c35a [sh_F a1] S sz (fun r2 S1 => Q r2 S1))) :
    sh_Ci g mX9_bitsOf [sh_F a1] S sz Q := by
  refine sh_enter (ls := [(0, sh_F a1)]) (by decide +kernel) (Nat.le_of_ble_eq_true rfl) rfl ?_
  refine sh_fload_n (pc := 0) dX9_bitsOf_0 rfl ?_
  refine sh_si (N := mJxf58ca_floatToIntBits_5c35a) (pc := 1) dX9_bitsOf_1 ml_X9_114 h mf_Jxf58ca_floatToIntBits_5c35a is_Jxf58ca_floatToIntBits_5c35a ⟨Nat.le_of_ble_eq_true rfl, Nat.le_of_ble_eq_true rfl⟩ rfl rfl (Nat.le_of_ble_eq_true rfl) (fun r2 S1 h => ?_)
  exact sh_ret_i (pc := 4) dX9_bitsOf_4 rfl ⟨rfl, rfl⟩ h

set_option maxRecDepth 100000 in
set_option maxHeartbeats 4000000 in
theorem wp_X9_thousandths {g : sh_G} {S : sh_S} {sz : Nat} {Q : Int32 → sh_S → Prop} {a1 : UInt32} 
    (h : (vf_n32 (FP.fmul a1 1148846080) ∧ (∀ f2 : UInt32, f2 = (FP.fmul a1 1148846080) → Q (FP.f2i f2) S))) :
    sh_Ci g mX9_thousandths [sh_F a1] S sz Q := by
  refine sh_enter (ls := [(0, sh_F a1)]) (by decide +kernel) (Nat.le_of_ble_eq_true rfl) rfl ?_
  refine sh_fload_n (pc := 0) dX9_thousandths_0 rfl ?_
  refine sh_ldcf (v := 1148846080) (pc := 1) dX9_thousandths_1 kc_X9_118 ?_
  obtain ⟨hf1, h⟩ := h
  refine sh_fmul (pc := 3) dX9_thousandths_3 hf1 ?_
  refine sh_topF (fun f2 hf2 => ?_)
  have h := h f2 hf2
  refine sh_f2i (pc := 4) dX9_thousandths_4 ?_
  exact sh_ret_i (pc := 5) dX9_thousandths_5 rfl ⟨rfl, rfl⟩ h

set_option maxRecDepth 100000 in
set_option maxHeartbeats 4000000 in
theorem wp_X9_duller {g : sh_G} {S : sh_S} {sz : Nat} {Q : UInt32 → sh_S → Prop} {a1 : Int32} {a2 : Int32} 
    (h : (sh_Ci g mX9_its [sh_R (9, 0, 0), sh_I a1, sh_I 6] S sz (fun r2 S1 => (sh_Cf g mX9_real [sh_I r2] S1 sz (fun f4 S3 => (sh_Ci g mX9_its [sh_R (9, 0, 0), sh_I a1, sh_I 2] S3 sz (fun r6 S5 => (∀ f7 : UInt32, f7 = (FP.i2f (100 - r6)) → (∃ (Iv8 : UInt32 → Int32 → Prop) (mu8 : UInt32 → Int32 → Nat), Iv8 f4 0 ∧ ∀ (v9 : UInt32) (v10 : Int32), Iv8 v9 v10 → ((a2 ≤ v10 → Q v9 S5) ∧ (¬ a2 ≤ v10 → (vf_n32 (FP.fmul v9 f7) ∧ (∀ f14 : UInt32, f14 = (FP.fmul v9 f7) → (vf_n32 (FP.fdiv f14 1120403456) ∧ (∀ f16 : UInt32, f16 = (FP.fdiv f14 1120403456) → (∀ x17 : Int32, x17 = v10 + 1 → (Iv8 f16 x17 ∧ mu8 f16 x17 < mu8 v9 v10))))))))))))))))) :
    sh_Cf g mX9_duller [sh_R (9, 0, 0), sh_I a1, sh_I a2] S sz Q := by
  refine sh_enter (ls := [(0, sh_R (9, 0, 0)), (1, sh_I a1), (2, sh_I a2)]) (by decide +kernel) (Nat.le_of_ble_eq_true rfl) rfl ?_
  refine sh_aload_n (pc := 0) dX9_duller_0 rfl ?_
  refine sh_iload_n (pc := 1) dX9_duller_1 rfl ?_
  refine sh_bipush (v := 6) (pc := 2) dX9_duller_2 rfl ?_
  refine sh_ci (N := mX9_its) (pc := 4) dX9_duller_4 ml_X9_79 h mf_X9_its iv_X9_its ⟨Nat.le_of_ble_eq_true rfl, Nat.le_of_ble_eq_true rfl⟩ rfl rfl (Nat.le_of_ble_eq_true rfl) ok_9_0 rfl (show vwCl[9]? = some (RX9, TX9, 14) from rfl) rfl (fun r2 S1 h => ?_)
  refine sh_sf2 (N := mX9_real) (pc := 7) dX9_duller_7 ml_X9_119 h mf_X9_real is_X9_real ⟨Nat.le_of_ble_eq_true rfl, Nat.le_of_ble_eq_true rfl⟩ rfl rfl (Nat.le_of_ble_eq_true rfl) (fun f4 S3 h => ?_)
  refine sh_fstore_n (ls' := [(3, sh_F f4), (0, sh_R (9, 0, 0)), (1, sh_I a1), (2, sh_I a2)]) (pc := 10) dX9_duller_10 (by decide) rfl ?_
  refine sh_bipush (v := 100) (pc := 11) dX9_duller_11 rfl ?_
  refine sh_aload_n (pc := 13) dX9_duller_13 rfl ?_
  refine sh_iload_n (pc := 14) dX9_duller_14 rfl ?_
  refine sh_iconst (v := 2) (pc := 15) dX9_duller_15 rfl ?_
  refine sh_ci (N := mX9_its) (pc := 16) dX9_duller_16 ml_X9_79 h mf_X9_its iv_X9_its ⟨Nat.le_of_ble_eq_true rfl, Nat.le_of_ble_eq_true rfl⟩ rfl rfl (Nat.le_of_ble_eq_true rfl) ok_9_0 rfl (show vwCl[9]? = some (RX9, TX9, 14) from rfl) rfl (fun r6 S5 h => ?_)
  refine sh_isub (pc := 19) dX9_duller_19 ?_
  refine sh_i2f (pc := 20) dX9_duller_20 ?_
  refine sh_topF (fun f7 hf7 => ?_)
  have h := h f7 hf7
  refine sh_fstore (ls' := [(4, sh_F f7), (3, sh_F f4), (0, sh_R (9, 0, 0)), (1, sh_I a1), (2, sh_I a2)]) (pc := 21) dX9_duller_21 (by decide) rfl ?_
  refine sh_iconst (v := 0) (pc := 23) dX9_duller_23 rfl ?_
  refine sh_istore (ls' := [(5, sh_I 0), (4, sh_F f7), (3, sh_F f4), (0, sh_R (9, 0, 0)), (1, sh_I a1), (2, sh_I a2)]) (pc := 24) dX9_duller_24 (by decide) rfl ?_
  obtain ⟨Iv8, mu8, h0, hs8⟩ := h
  refine sh_pick [3, 4, 5, 2, 1, 0] rfl ?_
  refine sh_lp2 Iv8 mu8 (fun v9 v10 => sh_V g mX9_duller 0 0 26 [(0, sh_R (9, 0, 0)), (1, sh_I a1), (2, sh_I a2), (3, sh_F v9), (4, sh_F f7), (5, sh_I v10)] [] (sh_St S5) sz (sh_tf sz Q)) (fun v9 v10 hI8 ih8 => ?_) _ _ h0
  have h := hs8 v9 v10 hI8
  clear h0
  refine sh_iload (pc := 26) dX9_duller_26 rfl ?_
  refine sh_iload_n (pc := 28) dX9_duller_28 rfl ?_
  refine sh_icmp_ge (tgt := 46) (pc := 29) dX9_duller_29 (by decide) (fun hc12 => ?_) (fun hc12 => ?_)
  · have h := h.1 hc12
    refine sh_fload_n (pc := 46) dX9_duller_46 rfl ?_
    exact sh_ret_f (pc := 47) dX9_duller_47 rfl ⟨rfl, rfl⟩ h
  · have h := h.2 hc12
    refine sh_fload_n (pc := 32) dX9_duller_32 rfl ?_
    refine sh_fload (pc := 33) dX9_duller_33 rfl ?_
    obtain ⟨hf13, h⟩ := h
    refine sh_fmul (pc := 35) dX9_duller_35 hf13 ?_
    refine sh_topF (fun f14 hf14 => ?_)
    have h := h f14 hf14
    refine sh_ldcf (v := 1120403456) (pc := 36) dX9_duller_36 kc_X9_122 ?_
    obtain ⟨hf15, h⟩ := h
    refine sh_fdiv (pc := 38) dX9_duller_38 hf15 ?_
    refine sh_topF (fun f16 hf16 => ?_)
    have h := h f16 hf16
    refine sh_fstore_n (ls' := [(3, sh_F f16), (0, sh_R (9, 0, 0)), (1, sh_I a1), (2, sh_I a2), (4, sh_F f7), (5, sh_I v10)]) (pc := 39) dX9_duller_39 (by decide) rfl ?_
    obtain ⟨x17, hx17⟩ : ∃ y : Int32, y = v10 + 1 := ⟨_, rfl⟩
    have h := h x17 hx17
    refine sh_iinc (v := x17) (ls' := [(5, sh_I x17), (3, sh_F f16), (0, sh_R (9, 0, 0)), (1, sh_I a1), (2, sh_I a2), (4, sh_F f7)]) (pc := 40) dX9_duller_40 rfl hx17.symm (by decide) rfl ?_
    refine sh_goto (tgt := 26) (pc := 43) dX9_duller_43 (by decide) ?_
    refine sh_pick [2, 3, 4, 1, 5, 0] rfl ?_
    exact ih8 _ _ h.1 h.2

set_option maxRecDepth 100000 in
set_option maxHeartbeats 4000000 in
theorem wp_X9_tool {g : sh_G} {S : sh_S} {sz : Nat} {Q : Int32 → sh_S → Prop} {a1 : Int32} {a2 : Int32} {a3 : Int32} 
    (h : (sh_Ci g mX9_in [sh_I a1, sh_I 0, sh_I 1] S sz (fun r2 S1 => ((r2 = 0 → Q (-1000001) S1) ∧ (¬ r2 = 0 → (sh_Ci g mX9_in [sh_I a2, sh_I 1, sh_I 400] S1 sz (fun r5 S4 => ((r5 = 0 → Q (-1000001) S4) ∧ (¬ r5 = 0 → (sh_Ci g mX9_in [sh_I a3, sh_I 0, sh_I 50] S4 sz (fun r8 S7 => ((¬ r8 = 0 → ((¬ (S7 (19, 0, 0) 9) = 20 → (sh_Cu g mX9_hold [sh_R (9, 0, 0)] S7 sz (fun S12 => (∀ x14 : Int32, x14 = (S12 (19, 0, 0) 9) → (sh_Cu g mX9_lay [sh_R (9, 0, 0), sh_I x14, sh_I 0, sh_I a1] S12 sz (fun S15 => (sh_Cu g mX9_lay [sh_R (9, 0, 0), sh_I x14, sh_I 1, sh_I a2] S15 sz (fun S16 => (sh_Cu g mX9_lay [sh_R (9, 0, 0), sh_I x14, sh_I 2, sh_I a3] S16 sz (fun S17 => (sh_Ci g mX9_bitsOf [sh_F FP.fconst1] S17 sz (fun r19 S18 => (sh_Cu g mX9_lay [sh_R (9, 0, 0), sh_I x14, sh_I 6, sh_I r19] S18 sz (fun S20 => (sh_Cu g mX9_lay [sh_R (9, 0, 0), sh_I x14, sh_I 8, sh_I (-1)] S20 sz (fun S21 => (∀ S24 : sh_S, S24 = sh_sr S21 (19, 0, 0) (upd (S21 (19, 0, 0)) 9 ((S21 (19, 0, 0) 9) + 1)) → (sh_Ci g mX9_ends [sh_R (9, 0, 0), sh_I x14] S24 sz (fun r26 S25 => Q r26 S25))))))))))))))))))) ∧ ((S7 (19, 0, 0) 9) = 20 → Q (-1000003) S7))) ∧ (r8 = 0 → Q (-1000001) S7))))))))))))) :
    sh_Ci g mX9_tool [sh_R (9, 0, 0), sh_I a1, sh_I a2, sh_I a3] S sz Q := by
  refine sh_enter (ls := [(0, sh_R (9, 0, 0)), (1, sh_I a1), (2, sh_I a2), (3, sh_I a3)]) (by decide +kernel) (Nat.le_of_ble_eq_true rfl) rfl ?_
  refine sh_iload_n (pc := 0) dX9_tool_0 rfl ?_
  refine sh_iconst (v := 0) (pc := 1) dX9_tool_1 rfl ?_
  refine sh_iconst (v := 1) (pc := 2) dX9_tool_2 rfl ?_
  refine sh_si (N := mX9_in) (pc := 3) dX9_tool_3 ml_X9_38 h mf_X9_in is_X9_in ⟨Nat.le_of_ble_eq_true rfl, Nat.le_of_ble_eq_true rfl⟩ rfl rfl (Nat.le_of_ble_eq_true rfl) (fun r2 S1 h => ?_)
  refine sh_if_eq (tgt := 30) (pc := 6) dX9_tool_6 (by decide) (fun hc3 => ?_) (fun hc3 => ?_)
  · have h := h.1 hc3
    refine sh_ldc (v := (-1000001)) (pc := 30) dX9_tool_30 kc_X9_32 ?_
    exact sh_ret_i (pc := 32) dX9_tool_32 rfl ⟨rfl, rfl⟩ h
  · have h := h.2 hc3
    refine sh_iload_n (pc := 9) dX9_tool_9 rfl ?_
    refine sh_iconst (v := 1) (pc := 10) dX9_tool_10 rfl ?_
    refine sh_sipush (v := 400) (pc := 11) dX9_tool_11 rfl ?_
    refine sh_si (N := mX9_in) (pc := 14) dX9_tool_14 ml_X9_38 h mf_X9_in is_X9_in ⟨Nat.le_of_ble_eq_true rfl, Nat.le_of_ble_eq_true rfl⟩ rfl rfl (Nat.le_of_ble_eq_true rfl) (fun r5 S4 h => ?_)
    refine sh_if_eq (tgt := 30) (pc := 17) dX9_tool_17 (by decide) (fun hc6 => ?_) (fun hc6 => ?_)
    · have h := h.1 hc6
      refine sh_ldc (v := (-1000001)) (pc := 30) dX9_tool_30 kc_X9_32 ?_
      exact sh_ret_i (pc := 32) dX9_tool_32 rfl ⟨rfl, rfl⟩ h
    · have h := h.2 hc6
      refine sh_iload_n (pc := 20) dX9_tool_20 rfl ?_
      refine sh_iconst (v := 0) (pc := 21) dX9_tool_21 rfl ?_
      refine sh_bipush (v := 50) (pc := 22) dX9_tool_22 rfl ?_
      refine sh_si (N := mX9_in) (pc := 24) dX9_tool_24 ml_X9_38 h mf_X9_in is_X9_in ⟨Nat.le_of_ble_eq_true rfl, Nat.le_of_ble_eq_true rfl⟩ rfl rfl (Nat.le_of_ble_eq_true rfl) (fun r8 S7 h => ?_)
      refine sh_if_ne (tgt := 33) (pc := 27) dX9_tool_27 (by decide) (fun hc9 => ?_) (fun hc9 => ?_)
      · have h := h.1 hc9
        refine sh_aload_n (pc := 33) dX9_tool_33 rfl ?_
        refine sh_gf (pc := 34) dX9_tool_34 fl_X9_7 cf_9 ok_9_0 rfl rfl ?_
        refine sh_bipush (v := 9) (pc := 37) dX9_tool_37 rfl ?_
        refine sh_ia (pc := 39) dX9_tool_39 ok_19_0 rfl (vp_in_iff.mpr ⟨by decide, by decide⟩) ?_
        refine sh_bipush (v := 20) (pc := 40) dX9_tool_40 rfl ?_
        refine sh_icmp_ne (tgt := 48) (pc := 42) dX9_tool_42 (by decide) (fun hc11 => ?_) (fun hc11 => ?_)
        · have h := h.1 hc11
          refine sh_aload_n (pc := 48) dX9_tool_48 rfl ?_
          refine sh_cu (N := mX9_hold) (pc := 49) dX9_tool_49 ml_X9_67 h mf_X9_hold iv_X9_hold ⟨Nat.le_of_ble_eq_true rfl, Nat.le_of_ble_eq_true rfl⟩ rfl rfl (Nat.le_of_ble_eq_true rfl) ok_9_0 rfl (show vwCl[9]? = some (RX9, TX9, 14) from rfl) rfl (fun S12 h => ?_)
          refine sh_aload_n (pc := 52) dX9_tool_52 rfl ?_
          refine sh_gf (pc := 53) dX9_tool_53 fl_X9_7 cf_9 ok_9_0 rfl rfl ?_
          refine sh_bipush (v := 9) (pc := 56) dX9_tool_56 rfl ?_
          refine sh_ia (pc := 58) dX9_tool_58 ok_19_0 rfl (vp_in_iff.mpr ⟨by decide, by decide⟩) ?_
          refine sh_topI (fun x14 hx14 => ?_)
          have h := h x14 hx14
          refine sh_istore (ls' := [(4, sh_I x14), (0, sh_R (9, 0, 0)), (1, sh_I a1), (2, sh_I a2), (3, sh_I a3)]) (pc := 59) dX9_tool_59 (by decide) rfl ?_
          refine sh_aload_n (pc := 61) dX9_tool_61 rfl ?_
          refine sh_iload (pc := 62) dX9_tool_62 rfl ?_
          refine sh_iconst (v := 0) (pc := 64) dX9_tool_64 rfl ?_
          refine sh_iload_n (pc := 65) dX9_tool_65 rfl ?_
          refine sh_cu (N := mX9_lay) (pc := 66) dX9_tool_66 ml_X9_123 h mf_X9_lay iv_X9_lay ⟨Nat.le_of_ble_eq_true rfl, Nat.le_of_ble_eq_true rfl⟩ rfl rfl (Nat.le_of_ble_eq_true rfl) ok_9_0 rfl (show vwCl[9]? = some (RX9, TX9, 14) from rfl) rfl (fun S15 h => ?_)
          refine sh_aload_n (pc := 69) dX9_tool_69 rfl ?_
          refine sh_iload (pc := 70) dX9_tool_70 rfl ?_
          refine sh_iconst (v := 1) (pc := 72) dX9_tool_72 rfl ?_
          refine sh_iload_n (pc := 73) dX9_tool_73 rfl ?_
          refine sh_cu (N := mX9_lay) (pc := 74) dX9_tool_74 ml_X9_123 h mf_X9_lay iv_X9_lay ⟨Nat.le_of_ble_eq_true rfl, Nat.le_of_ble_eq_true rfl⟩ rfl rfl (Nat.le_of_ble_eq_true rfl) ok_9_0 rfl (show vwCl[9]? = some (RX9, TX9, 14) from rfl) rfl (fun S16 h => ?_)
          refine sh_aload_n (pc := 77) dX9_tool_77 rfl ?_
          refine sh_iload (pc := 78) dX9_tool_78 rfl ?_
          refine sh_iconst (v := 2) (pc := 80) dX9_tool_80 rfl ?_
          refine sh_iload_n (pc := 81) dX9_tool_81 rfl ?_
          refine sh_cu (N := mX9_lay) (pc := 82) dX9_tool_82 ml_X9_123 h mf_X9_lay iv_X9_lay ⟨Nat.le_of_ble_eq_true rfl, Nat.le_of_ble_eq_true rfl⟩ rfl rfl (Nat.le_of_ble_eq_true rfl) ok_9_0 rfl (show vwCl[9]? = some (RX9, TX9, 14) from rfl) rfl (fun S17 h => ?_)
          refine sh_aload_n (pc := 85) dX9_tool_85 rfl ?_
          refine sh_iload (pc := 86) dX9_tool_86 rfl ?_
          refine sh_bipush (v := 6) (pc := 88) dX9_tool_88 rfl ?_
          refine sh_fconst1 (pc := 90) dX9_tool_90 ?_
          refine sh_si (N := mX9_bitsOf) (pc := 91) dX9_tool_91 ml_X9_126 h mf_X9_bitsOf is_X9_bitsOf ⟨Nat.le_of_ble_eq_true rfl, Nat.le_of_ble_eq_true rfl⟩ rfl rfl (Nat.le_of_ble_eq_true rfl) (fun r19 S18 h => ?_)
          refine sh_cu (N := mX9_lay) (pc := 94) dX9_tool_94 ml_X9_123 h mf_X9_lay iv_X9_lay ⟨Nat.le_of_ble_eq_true rfl, Nat.le_of_ble_eq_true rfl⟩ rfl rfl (Nat.le_of_ble_eq_true rfl) ok_9_0 rfl (show vwCl[9]? = some (RX9, TX9, 14) from rfl) rfl (fun S20 h => ?_)
          refine sh_aload_n (pc := 97) dX9_tool_97 rfl ?_
          refine sh_iload (pc := 98) dX9_tool_98 rfl ?_
          refine sh_bipush (v := 8) (pc := 100) dX9_tool_100 rfl ?_
          refine sh_iconst (v := (-1)) (pc := 102) dX9_tool_102 rfl ?_
          refine sh_cu (N := mX9_lay) (pc := 103) dX9_tool_103 ml_X9_123 h mf_X9_lay iv_X9_lay ⟨Nat.le_of_ble_eq_true rfl, Nat.le_of_ble_eq_true rfl⟩ rfl rfl (Nat.le_of_ble_eq_true rfl) ok_9_0 rfl (show vwCl[9]? = some (RX9, TX9, 14) from rfl) rfl (fun S21 h => ?_)
          refine sh_aload_n (pc := 106) dX9_tool_106 rfl ?_
          refine sh_gf (pc := 107) dX9_tool_107 fl_X9_7 cf_9 ok_9_0 rfl rfl ?_
          refine sh_bipush (v := 9) (pc := 110) dX9_tool_110 rfl ?_
          refine sh_dup2 (pc := 112) dX9_tool_112 rfl rfl ?_
          refine sh_ia (pc := 113) dX9_tool_113 ok_19_0 rfl (vp_in_iff.mpr ⟨by decide, by decide⟩) ?_
          refine sh_iconst (v := 1) (pc := 114) dX9_tool_114 rfl ?_
          refine sh_iadd (pc := 115) dX9_tool_115 ?_
          refine sh_is (pc := 116) dX9_tool_116 ok_19_0 rfl (vp_in_iff.mpr ⟨by decide, by decide⟩) rfl ?_
          refine sh_topS (fun S24 hS24 => ?_)
          have h := h S24 hS24
          refine sh_aload_n (pc := 117) dX9_tool_117 rfl ?_
          refine sh_iload (pc := 118) dX9_tool_118 rfl ?_
          refine sh_ci (N := mX9_ends) (pc := 120) dX9_tool_120 ml_X9_70 h mf_X9_ends iv_X9_ends ⟨Nat.le_of_ble_eq_true rfl, Nat.le_of_ble_eq_true rfl⟩ rfl rfl (Nat.le_of_ble_eq_true rfl) ok_9_0 rfl (show vwCl[9]? = some (RX9, TX9, 14) from rfl) rfl (fun r26 S25 h => ?_)
          exact sh_ret_i (pc := 123) dX9_tool_123 rfl ⟨rfl, rfl⟩ h
        · have h := h.2 hc11
          refine sh_ldc (v := (-1000003)) (pc := 45) dX9_tool_45 kc_X9_73 ?_
          exact sh_ret_i (pc := 47) dX9_tool_47 rfl ⟨rfl, rfl⟩ h
      · have h := h.2 hc9
        refine sh_ldc (v := (-1000001)) (pc := 30) dX9_tool_30 kc_X9_32 ?_
        exact sh_ret_i (pc := 32) dX9_tool_32 rfl ⟨rfl, rfl⟩ h

set_option maxRecDepth 100000 in
set_option maxHeartbeats 4000000 in
theorem wp_X9_onHook {g : sh_G} {S : sh_S} {sz : Nat} {Q : Int32 → sh_S → Prop} {a1 : Int32} 
    (h : (∃ (Iv1 : Int32 → sh_S → Prop) (mu1 : Int32 → sh_S → Nat), Iv1 0 S ∧ ∀ (v2 : Int32) (S3 : sh_S), Iv1 v2 S3 → (((S3 (19, 0, 0) 9) ≤ v2 → Q (-1000004) S3) ∧ (¬ (S3 (19, 0, 0) 9) ≤ v2 → (sh_Ci g mX9_its [sh_R (9, 0, 0), sh_I v2, sh_I 8] S3 sz (fun r7 S6 => ((¬ r7 = a1 → (∀ x9 : Int32, x9 = v2 + 1 → (Iv1 x9 S6 ∧ mu1 x9 S6 < mu1 v2 S3))) ∧ (r7 = a1 → Q v2 S6)))))))) :
    sh_Ci g mX9_onHook [sh_R (9, 0, 0), sh_I a1] S sz Q := by
  refine sh_enter (ls := [(0, sh_R (9, 0, 0)), (1, sh_I a1)]) (by decide +kernel) (Nat.le_of_ble_eq_true rfl) rfl ?_
  refine sh_iconst (v := 0) (pc := 0) dX9_onHook_0 rfl ?_
  refine sh_istore_n (ls' := [(2, sh_I 0), (0, sh_R (9, 0, 0)), (1, sh_I a1)]) (pc := 1) dX9_onHook_1 (by decide) rfl ?_
  obtain ⟨Iv1, mu1, h0, hs1⟩ := h
  refine sh_pick [1, 2, 0] rfl ?_
  refine sh_lp2 Iv1 mu1 (fun v2 S3 => sh_V g mX9_onHook 0 0 2 [(0, sh_R (9, 0, 0)), (1, sh_I a1), (2, sh_I v2)] [] (sh_St S3) sz (sh_ti sz Q)) (fun v2 S3 hI1 ih1 => ?_) _ _ h0
  have h := hs1 v2 S3 hI1
  clear h0
  refine sh_iload_n (pc := 2) dX9_onHook_2 rfl ?_
  refine sh_aload_n (pc := 3) dX9_onHook_3 rfl ?_
  refine sh_gf (pc := 4) dX9_onHook_4 fl_X9_7 cf_9 ok_9_0 rfl rfl ?_
  refine sh_bipush (v := 9) (pc := 7) dX9_onHook_7 rfl ?_
  refine sh_ia (pc := 9) dX9_onHook_9 ok_19_0 rfl (vp_in_iff.mpr ⟨by decide, by decide⟩) ?_
  refine sh_icmp_ge (tgt := 32) (pc := 10) dX9_onHook_10 (by decide) (fun hc5 => ?_) (fun hc5 => ?_)
  · have h := h.1 hc5
    refine sh_ldc (v := (-1000004)) (pc := 32) dX9_onHook_32 kc_X9_33 ?_
    exact sh_ret_i (pc := 34) dX9_onHook_34 rfl ⟨rfl, rfl⟩ h
  · have h := h.2 hc5
    refine sh_aload_n (pc := 13) dX9_onHook_13 rfl ?_
    refine sh_iload_n (pc := 14) dX9_onHook_14 rfl ?_
    refine sh_bipush (v := 8) (pc := 15) dX9_onHook_15 rfl ?_
    refine sh_ci (N := mX9_its) (pc := 17) dX9_onHook_17 ml_X9_79 h mf_X9_its iv_X9_its ⟨Nat.le_of_ble_eq_true rfl, Nat.le_of_ble_eq_true rfl⟩ rfl rfl (Nat.le_of_ble_eq_true rfl) ok_9_0 rfl (show vwCl[9]? = some (RX9, TX9, 14) from rfl) rfl (fun r7 S6 h => ?_)
    refine sh_iload_n (pc := 20) dX9_onHook_20 rfl ?_
    refine sh_icmp_ne (tgt := 26) (pc := 21) dX9_onHook_21 (by decide) (fun hc8 => ?_) (fun hc8 => ?_)
    · have h := h.1 hc8
      obtain ⟨x9, hx9⟩ : ∃ y : Int32, y = v2 + 1 := ⟨_, rfl⟩
      have h := h x9 hx9
      refine sh_iinc (v := x9) (ls' := [(2, sh_I x9), (0, sh_R (9, 0, 0)), (1, sh_I a1)]) (pc := 26) dX9_onHook_26 rfl hx9.symm (by decide) rfl ?_
      refine sh_goto (tgt := 2) (pc := 29) dX9_onHook_29 (by decide) ?_
      refine sh_pick [1, 2, 0] rfl ?_
      exact ih1 _ _ h.1 h.2
    · have h := h.2 hc8
      refine sh_iload_n (pc := 24) dX9_onHook_24 rfl ?_
      exact sh_ret_i (pc := 25) dX9_onHook_25 rfl ⟨rfl, rfl⟩ h

set_option maxRecDepth 100000 in
set_option maxHeartbeats 4000000 in
theorem wp_X9_onWall {g : sh_G} {S : sh_S} {sz : Nat} {Q : Int32 → sh_S → Prop} {a1 : Int32} 
    (h : (∃ (Iv1 : Int32 → Int32 → sh_S → Prop) (mu1 : Int32 → Int32 → sh_S → Nat), Iv1 0 0 S ∧ ∀ (v2 : Int32) (v3 : Int32) (S4 : sh_S), Iv1 v2 v3 S4 → ((4 ≤ v3 → Q v2 S4) ∧ (¬ 4 ≤ v3 → (sh_Ci g mX9_onHook [sh_R (9, 0, 0), sh_I ((10 * a1) + v3)] S4 sz (fun r7 S6 => ((r7 < 0 → (∀ x9 : Int32, x9 = (v2 + 0) → (∀ x10 : Int32, x10 = v3 + 1 → (Iv1 x9 x10 S6 ∧ mu1 x9 x10 S6 < mu1 v2 v3 S4)))) ∧ (¬ r7 < 0 → (∀ x11 : Int32, x11 = (v2 + 1) → (∀ x12 : Int32, x12 = v3 + 1 → (Iv1 x11 x12 S6 ∧ mu1 x11 x12 S6 < mu1 v2 v3 S4))))))))))) :
    sh_Ci g mX9_onWall [sh_R (9, 0, 0), sh_I a1] S sz Q := by
  refine sh_enter (ls := [(0, sh_R (9, 0, 0)), (1, sh_I a1)]) (by decide +kernel) (Nat.le_of_ble_eq_true rfl) rfl ?_
  refine sh_iconst (v := 0) (pc := 0) dX9_onWall_0 rfl ?_
  refine sh_istore_n (ls' := [(2, sh_I 0), (0, sh_R (9, 0, 0)), (1, sh_I a1)]) (pc := 1) dX9_onWall_1 (by decide) rfl ?_
  refine sh_iconst (v := 0) (pc := 2) dX9_onWall_2 rfl ?_
  refine sh_istore_n (ls' := [(3, sh_I 0), (2, sh_I 0), (0, sh_R (9, 0, 0)), (1, sh_I a1)]) (pc := 3) dX9_onWall_3 (by decide) rfl ?_
  obtain ⟨Iv1, mu1, h0, hs1⟩ := h
  refine sh_pick [2, 3, 1, 0] rfl ?_
  refine sh_lp3 Iv1 mu1 (fun v2 v3 S4 => sh_V g mX9_onWall 0 0 4 [(0, sh_R (9, 0, 0)), (1, sh_I a1), (2, sh_I v2), (3, sh_I v3)] [] (sh_St S4) sz (sh_ti sz Q)) (fun v2 v3 S4 hI1 ih1 => ?_) _ _ _ h0
  have h := hs1 v2 v3 S4 hI1
  clear h0
  refine sh_iload_n (pc := 4) dX9_onWall_4 rfl ?_
  refine sh_iconst (v := 4) (pc := 5) dX9_onWall_5 rfl ?_
  refine sh_icmp_ge (tgt := 36) (pc := 6) dX9_onWall_6 (by decide) (fun hc5 => ?_) (fun hc5 => ?_)
  · have h := h.1 hc5
    refine sh_iload_n (pc := 36) dX9_onWall_36 rfl ?_
    exact sh_ret_i (pc := 37) dX9_onWall_37 rfl ⟨rfl, rfl⟩ h
  · have h := h.2 hc5
    refine sh_iload_n (pc := 9) dX9_onWall_9 rfl ?_
    refine sh_aload_n (pc := 10) dX9_onWall_10 rfl ?_
    refine sh_bipush (v := 10) (pc := 11) dX9_onWall_11 rfl ?_
    refine sh_iload_n (pc := 13) dX9_onWall_13 rfl ?_
    refine sh_imul (pc := 14) dX9_onWall_14 ?_
    refine sh_iload_n (pc := 15) dX9_onWall_15 rfl ?_
    refine sh_iadd (pc := 16) dX9_onWall_16 ?_
    refine sh_ci (N := mX9_onHook) (pc := 17) dX9_onWall_17 ml_X9_129 h mf_X9_onHook iv_X9_onHook ⟨Nat.le_of_ble_eq_true rfl, Nat.le_of_ble_eq_true rfl⟩ rfl rfl (Nat.le_of_ble_eq_true rfl) ok_9_0 rfl (show vwCl[9]? = some (RX9, TX9, 14) from rfl) rfl (fun r7 S6 h => ?_)
    refine sh_if_lt (tgt := 27) (pc := 20) dX9_onWall_20 (by decide) (fun hc8 => ?_) (fun hc8 => ?_)
    · have h := h.1 hc8
      refine sh_iconst (v := 0) (pc := 27) dX9_onWall_27 rfl ?_
      refine sh_iadd (pc := 28) dX9_onWall_28 ?_
      refine sh_topI (fun x9 hx9 => ?_)
      have h := h x9 hx9
      refine sh_istore_n (ls' := [(2, sh_I x9), (0, sh_R (9, 0, 0)), (1, sh_I a1), (3, sh_I v3)]) (pc := 29) dX9_onWall_29 (by decide) rfl ?_
      obtain ⟨x10, hx10⟩ : ∃ y : Int32, y = v3 + 1 := ⟨_, rfl⟩
      have h := h x10 hx10
      refine sh_iinc (v := x10) (ls' := [(3, sh_I x10), (2, sh_I x9), (0, sh_R (9, 0, 0)), (1, sh_I a1)]) (pc := 30) dX9_onWall_30 rfl hx10.symm (by decide) rfl ?_
      refine sh_goto (tgt := 4) (pc := 33) dX9_onWall_33 (by decide) ?_
      refine sh_pick [2, 3, 1, 0] rfl ?_
      exact ih1 _ _ _ h.1 h.2
    · have h := h.2 hc8
      refine sh_iconst (v := 1) (pc := 23) dX9_onWall_23 rfl ?_
      refine sh_goto (tgt := 28) (pc := 24) dX9_onWall_24 (by decide) ?_
      refine sh_iadd (pc := 28) dX9_onWall_28 ?_
      refine sh_topI (fun x11 hx11 => ?_)
      have h := h x11 hx11
      refine sh_istore_n (ls' := [(2, sh_I x11), (0, sh_R (9, 0, 0)), (1, sh_I a1), (3, sh_I v3)]) (pc := 29) dX9_onWall_29 (by decide) rfl ?_
      obtain ⟨x12, hx12⟩ : ∃ y : Int32, y = v3 + 1 := ⟨_, rfl⟩
      have h := h x12 hx12
      refine sh_iinc (v := x12) (ls' := [(3, sh_I x12), (2, sh_I x11), (0, sh_R (9, 0, 0)), (1, sh_I a1)]) (pc := 30) dX9_onWall_30 rfl hx12.symm (by decide) rfl ?_
      refine sh_goto (tgt := 4) (pc := 33) dX9_onWall_33 (by decide) ?_
      refine sh_pick [2, 3, 1, 0] rfl ?_
      exact ih1 _ _ _ h.1 h.2

set_option maxRecDepth 100000 in
set_option maxHeartbeats 4000000 in
theorem wp_X9_hang {g : sh_G} {S : sh_S} {sz : Nat} {Q : Int32 → sh_S → Prop} {a1 : Int32} {a2 : Int32} {a3 : Int32} 
    (h : (sh_Ci g mX9_isTool [sh_R (9, 0, 0), sh_I a1] S sz (fun r2 S1 => ((r2 = 0 → Q (-1000001) S1) ∧ (¬ r2 = 0 → (sh_Ci g mX9_in [sh_I a2, sh_I 0, sh_I 2] S1 sz (fun r5 S4 => ((r5 = 0 → Q (-1000001) S4) ∧ (¬ r5 = 0 → (sh_Ci g mX9_in [sh_I a3, sh_I 0, sh_I 3] S4 sz (fun r8 S7 => ((¬ r8 = 0 → (sh_Ci g mX9_its [sh_R (9, 0, 0), sh_I a1, sh_I 3] S7 sz (fun r11 S10 => ((¬ r11 = 0 → Q (-1000002) S10) ∧ (r11 = 0 → (sh_Ci g mX9_its [sh_R (9, 0, 0), sh_I a1, sh_I 8] S10 sz (fun r14 S13 => ((0 ≤ r14 → Q (-1000002) S13) ∧ (¬ 0 ≤ r14 → (sh_Ci g mX9_onHook [sh_R (9, 0, 0), sh_I ((10 * a2) + a3)] S13 sz (fun r17 S16 => ((0 ≤ r17 → Q (-1000002) S16) ∧ (¬ 0 ≤ r17 → ((2 ≤ a2 → (sh_Cu g mX9_hold [sh_R (9, 0, 0)] S16 sz (fun S20 => (sh_Cu g mX9_lay [sh_R (9, 0, 0), sh_I a1, sh_I 8, sh_I ((10 * a2) + a3)] S20 sz (fun S21 => (sh_Ci g mX9_onWall [sh_R (9, 0, 0), sh_I a2] S21 sz (fun r23 S22 => (sh_Ci g mX9_ends [sh_R (9, 0, 0), sh_I r23] S22 sz (fun r25 S24 => Q r25 S24))))))))) ∧ (¬ 2 ≤ a2 → (sh_Ci g mX9_its [sh_R (9, 0, 0), sh_I a1, sh_I 0] S16 sz (fun r27 S26 => ((r27 = a2 → (sh_Cu g mX9_hold [sh_R (9, 0, 0)] S26 sz (fun S29 => (sh_Cu g mX9_lay [sh_R (9, 0, 0), sh_I a1, sh_I 8, sh_I ((10 * a2) + a3)] S29 sz (fun S30 => (sh_Ci g mX9_onWall [sh_R (9, 0, 0), sh_I a2] S30 sz (fun r32 S31 => (sh_Ci g mX9_ends [sh_R (9, 0, 0), sh_I r32] S31 sz (fun r34 S33 => Q r34 S33))))))))) ∧ (¬ r27 = a2 → Q (-1000002) S26))))))))))))))))))) ∧ (r8 = 0 → Q (-1000001) S7))))))))))))) :
    sh_Ci g mX9_hang [sh_R (9, 0, 0), sh_I a1, sh_I a2, sh_I a3] S sz Q := by
  refine sh_enter (ls := [(0, sh_R (9, 0, 0)), (1, sh_I a1), (2, sh_I a2), (3, sh_I a3)]) (by decide +kernel) (Nat.le_of_ble_eq_true rfl) rfl ?_
  refine sh_aload_n (pc := 0) dX9_hang_0 rfl ?_
  refine sh_iload_n (pc := 1) dX9_hang_1 rfl ?_
  refine sh_ci (N := mX9_isTool) (pc := 2) dX9_hang_2 ml_X9_132 h mf_X9_isTool iv_X9_isTool ⟨Nat.le_of_ble_eq_true rfl, Nat.le_of_ble_eq_true rfl⟩ rfl rfl (Nat.le_of_ble_eq_true rfl) ok_9_0 rfl (show vwCl[9]? = some (RX9, TX9, 14) from rfl) rfl (fun r2 S1 h => ?_)
  refine sh_if_eq (tgt := 26) (pc := 5) dX9_hang_5 (by decide) (fun hc3 => ?_) (fun hc3 => ?_)
  · have h := h.1 hc3
    refine sh_ldc (v := (-1000001)) (pc := 26) dX9_hang_26 kc_X9_32 ?_
    exact sh_ret_i (pc := 28) dX9_hang_28 rfl ⟨rfl, rfl⟩ h
  · have h := h.2 hc3
    refine sh_iload_n (pc := 8) dX9_hang_8 rfl ?_
    refine sh_iconst (v := 0) (pc := 9) dX9_hang_9 rfl ?_
    refine sh_iconst (v := 2) (pc := 10) dX9_hang_10 rfl ?_
    refine sh_si (N := mX9_in) (pc := 11) dX9_hang_11 ml_X9_38 h mf_X9_in is_X9_in ⟨Nat.le_of_ble_eq_true rfl, Nat.le_of_ble_eq_true rfl⟩ rfl rfl (Nat.le_of_ble_eq_true rfl) (fun r5 S4 h => ?_)
    refine sh_if_eq (tgt := 26) (pc := 14) dX9_hang_14 (by decide) (fun hc6 => ?_) (fun hc6 => ?_)
    · have h := h.1 hc6
      refine sh_ldc (v := (-1000001)) (pc := 26) dX9_hang_26 kc_X9_32 ?_
      exact sh_ret_i (pc := 28) dX9_hang_28 rfl ⟨rfl, rfl⟩ h
    · have h := h.2 hc6
      refine sh_iload_n (pc := 17) dX9_hang_17 rfl ?_
      refine sh_iconst (v := 0) (pc := 18) dX9_hang_18 rfl ?_
      refine sh_iconst (v := 3) (pc := 19) dX9_hang_19 rfl ?_
      refine sh_si (N := mX9_in) (pc := 20) dX9_hang_20 ml_X9_38 h mf_X9_in is_X9_in ⟨Nat.le_of_ble_eq_true rfl, Nat.le_of_ble_eq_true rfl⟩ rfl rfl (Nat.le_of_ble_eq_true rfl) (fun r8 S7 h => ?_)
      refine sh_if_ne (tgt := 29) (pc := 23) dX9_hang_23 (by decide) (fun hc9 => ?_) (fun hc9 => ?_)
      · have h := h.1 hc9
        refine sh_aload_n (pc := 29) dX9_hang_29 rfl ?_
        refine sh_iload_n (pc := 30) dX9_hang_30 rfl ?_
        refine sh_iconst (v := 3) (pc := 31) dX9_hang_31 rfl ?_
        refine sh_ci (N := mX9_its) (pc := 32) dX9_hang_32 ml_X9_79 h mf_X9_its iv_X9_its ⟨Nat.le_of_ble_eq_true rfl, Nat.le_of_ble_eq_true rfl⟩ rfl rfl (Nat.le_of_ble_eq_true rfl) ok_9_0 rfl (show vwCl[9]? = some (RX9, TX9, 14) from rfl) rfl (fun r11 S10 h => ?_)
        refine sh_if_ne (tgt := 76) (pc := 35) dX9_hang_35 (by decide) (fun hc12 => ?_) (fun hc12 => ?_)
        · have h := h.1 hc12
          refine sh_ldc (v := (-1000002)) (pc := 76) dX9_hang_76 kc_X9_78 ?_
          exact sh_ret_i (pc := 78) dX9_hang_78 rfl ⟨rfl, rfl⟩ h
        · have h := h.2 hc12
          refine sh_aload_n (pc := 38) dX9_hang_38 rfl ?_
          refine sh_iload_n (pc := 39) dX9_hang_39 rfl ?_
          refine sh_bipush (v := 8) (pc := 40) dX9_hang_40 rfl ?_
          refine sh_ci (N := mX9_its) (pc := 42) dX9_hang_42 ml_X9_79 h mf_X9_its iv_X9_its ⟨Nat.le_of_ble_eq_true rfl, Nat.le_of_ble_eq_true rfl⟩ rfl rfl (Nat.le_of_ble_eq_true rfl) ok_9_0 rfl (show vwCl[9]? = some (RX9, TX9, 14) from rfl) rfl (fun r14 S13 h => ?_)
          refine sh_if_ge (tgt := 76) (pc := 45) dX9_hang_45 (by decide) (fun hc15 => ?_) (fun hc15 => ?_)
          · have h := h.1 hc15
            refine sh_ldc (v := (-1000002)) (pc := 76) dX9_hang_76 kc_X9_78 ?_
            exact sh_ret_i (pc := 78) dX9_hang_78 rfl ⟨rfl, rfl⟩ h
          · have h := h.2 hc15
            refine sh_aload_n (pc := 48) dX9_hang_48 rfl ?_
            refine sh_bipush (v := 10) (pc := 49) dX9_hang_49 rfl ?_
            refine sh_iload_n (pc := 51) dX9_hang_51 rfl ?_
            refine sh_imul (pc := 52) dX9_hang_52 ?_
            refine sh_iload_n (pc := 53) dX9_hang_53 rfl ?_
            refine sh_iadd (pc := 54) dX9_hang_54 ?_
            refine sh_ci (N := mX9_onHook) (pc := 55) dX9_hang_55 ml_X9_129 h mf_X9_onHook iv_X9_onHook ⟨Nat.le_of_ble_eq_true rfl, Nat.le_of_ble_eq_true rfl⟩ rfl rfl (Nat.le_of_ble_eq_true rfl) ok_9_0 rfl (show vwCl[9]? = some (RX9, TX9, 14) from rfl) rfl (fun r17 S16 h => ?_)
            refine sh_if_ge (tgt := 76) (pc := 58) dX9_hang_58 (by decide) (fun hc18 => ?_) (fun hc18 => ?_)
            · have h := h.1 hc18
              refine sh_ldc (v := (-1000002)) (pc := 76) dX9_hang_76 kc_X9_78 ?_
              exact sh_ret_i (pc := 78) dX9_hang_78 rfl ⟨rfl, rfl⟩ h
            · have h := h.2 hc18
              refine sh_iload_n (pc := 61) dX9_hang_61 rfl ?_
              refine sh_iconst (v := 2) (pc := 62) dX9_hang_62 rfl ?_
              refine sh_icmp_ge (tgt := 79) (pc := 63) dX9_hang_63 (by decide) (fun hc19 => ?_) (fun hc19 => ?_)
              · have h := h.1 hc19
                refine sh_aload_n (pc := 79) dX9_hang_79 rfl ?_
                refine sh_cu (N := mX9_hold) (pc := 80) dX9_hang_80 ml_X9_67 h mf_X9_hold iv_X9_hold ⟨Nat.le_of_ble_eq_true rfl, Nat.le_of_ble_eq_true rfl⟩ rfl rfl (Nat.le_of_ble_eq_true rfl) ok_9_0 rfl (show vwCl[9]? = some (RX9, TX9, 14) from rfl) rfl (fun S20 h => ?_)
                refine sh_aload_n (pc := 83) dX9_hang_83 rfl ?_
                refine sh_iload_n (pc := 84) dX9_hang_84 rfl ?_
                refine sh_bipush (v := 8) (pc := 85) dX9_hang_85 rfl ?_
                refine sh_bipush (v := 10) (pc := 87) dX9_hang_87 rfl ?_
                refine sh_iload_n (pc := 89) dX9_hang_89 rfl ?_
                refine sh_imul (pc := 90) dX9_hang_90 ?_
                refine sh_iload_n (pc := 91) dX9_hang_91 rfl ?_
                refine sh_iadd (pc := 92) dX9_hang_92 ?_
                refine sh_cu (N := mX9_lay) (pc := 93) dX9_hang_93 ml_X9_123 h mf_X9_lay iv_X9_lay ⟨Nat.le_of_ble_eq_true rfl, Nat.le_of_ble_eq_true rfl⟩ rfl rfl (Nat.le_of_ble_eq_true rfl) ok_9_0 rfl (show vwCl[9]? = some (RX9, TX9, 14) from rfl) rfl (fun S21 h => ?_)
                refine sh_aload_n (pc := 96) dX9_hang_96 rfl ?_
                refine sh_aload_n (pc := 97) dX9_hang_97 rfl ?_
                refine sh_iload_n (pc := 98) dX9_hang_98 rfl ?_
                refine sh_ci (N := mX9_onWall) (pc := 99) dX9_hang_99 ml_X9_135 h mf_X9_onWall iv_X9_onWall ⟨Nat.le_of_ble_eq_true rfl, Nat.le_of_ble_eq_true rfl⟩ rfl rfl (Nat.le_of_ble_eq_true rfl) ok_9_0 rfl (show vwCl[9]? = some (RX9, TX9, 14) from rfl) rfl (fun r23 S22 h => ?_)
                refine sh_ci (N := mX9_ends) (pc := 102) dX9_hang_102 ml_X9_70 h mf_X9_ends iv_X9_ends ⟨Nat.le_of_ble_eq_true rfl, Nat.le_of_ble_eq_true rfl⟩ rfl rfl (Nat.le_of_ble_eq_true rfl) ok_9_0 rfl (show vwCl[9]? = some (RX9, TX9, 14) from rfl) rfl (fun r25 S24 h => ?_)
                exact sh_ret_i (pc := 105) dX9_hang_105 rfl ⟨rfl, rfl⟩ h
              · have h := h.2 hc19
                refine sh_aload_n (pc := 66) dX9_hang_66 rfl ?_
                refine sh_iload_n (pc := 67) dX9_hang_67 rfl ?_
                refine sh_iconst (v := 0) (pc := 68) dX9_hang_68 rfl ?_
                refine sh_ci (N := mX9_its) (pc := 69) dX9_hang_69 ml_X9_79 h mf_X9_its iv_X9_its ⟨Nat.le_of_ble_eq_true rfl, Nat.le_of_ble_eq_true rfl⟩ rfl rfl (Nat.le_of_ble_eq_true rfl) ok_9_0 rfl (show vwCl[9]? = some (RX9, TX9, 14) from rfl) rfl (fun r27 S26 h => ?_)
                refine sh_iload_n (pc := 72) dX9_hang_72 rfl ?_
                refine sh_icmp_eq (tgt := 79) (pc := 73) dX9_hang_73 (by decide) (fun hc28 => ?_) (fun hc28 => ?_)
                · have h := h.1 hc28
                  refine sh_aload_n (pc := 79) dX9_hang_79 rfl ?_
                  refine sh_cu (N := mX9_hold) (pc := 80) dX9_hang_80 ml_X9_67 h mf_X9_hold iv_X9_hold ⟨Nat.le_of_ble_eq_true rfl, Nat.le_of_ble_eq_true rfl⟩ rfl rfl (Nat.le_of_ble_eq_true rfl) ok_9_0 rfl (show vwCl[9]? = some (RX9, TX9, 14) from rfl) rfl (fun S29 h => ?_)
                  refine sh_aload_n (pc := 83) dX9_hang_83 rfl ?_
                  refine sh_iload_n (pc := 84) dX9_hang_84 rfl ?_
                  refine sh_bipush (v := 8) (pc := 85) dX9_hang_85 rfl ?_
                  refine sh_bipush (v := 10) (pc := 87) dX9_hang_87 rfl ?_
                  refine sh_iload_n (pc := 89) dX9_hang_89 rfl ?_
                  refine sh_imul (pc := 90) dX9_hang_90 ?_
                  refine sh_iload_n (pc := 91) dX9_hang_91 rfl ?_
                  refine sh_iadd (pc := 92) dX9_hang_92 ?_
                  refine sh_cu (N := mX9_lay) (pc := 93) dX9_hang_93 ml_X9_123 h mf_X9_lay iv_X9_lay ⟨Nat.le_of_ble_eq_true rfl, Nat.le_of_ble_eq_true rfl⟩ rfl rfl (Nat.le_of_ble_eq_true rfl) ok_9_0 rfl (show vwCl[9]? = some (RX9, TX9, 14) from rfl) rfl (fun S30 h => ?_)
                  refine sh_aload_n (pc := 96) dX9_hang_96 rfl ?_
                  refine sh_aload_n (pc := 97) dX9_hang_97 rfl ?_
                  refine sh_iload_n (pc := 98) dX9_hang_98 rfl ?_
                  refine sh_ci (N := mX9_onWall) (pc := 99) dX9_hang_99 ml_X9_135 h mf_X9_onWall iv_X9_onWall ⟨Nat.le_of_ble_eq_true rfl, Nat.le_of_ble_eq_true rfl⟩ rfl rfl (Nat.le_of_ble_eq_true rfl) ok_9_0 rfl (show vwCl[9]? = some (RX9, TX9, 14) from rfl) rfl (fun r32 S31 h => ?_)
                  refine sh_ci (N := mX9_ends) (pc := 102) dX9_hang_102 ml_X9_70 h mf_X9_ends iv_X9_ends ⟨Nat.le_of_ble_eq_true rfl, Nat.le_of_ble_eq_true rfl⟩ rfl rfl (Nat.le_of_ble_eq_true rfl) ok_9_0 rfl (show vwCl[9]? = some (RX9, TX9, 14) from rfl) rfl (fun r34 S33 h => ?_)
                  exact sh_ret_i (pc := 105) dX9_hang_105 rfl ⟨rfl, rfl⟩ h
                · have h := h.2 hc28
                  refine sh_ldc (v := (-1000002)) (pc := 76) dX9_hang_76 kc_X9_78 ?_
                  exact sh_ret_i (pc := 78) dX9_hang_78 rfl ⟨rfl, rfl⟩ h
      · have h := h.2 hc9
        refine sh_ldc (v := (-1000001)) (pc := 26) dX9_hang_26 kc_X9_32 ?_
        exact sh_ret_i (pc := 28) dX9_hang_28 rfl ⟨rfl, rfl⟩ h

set_option maxRecDepth 100000 in
set_option maxHeartbeats 4000000 in
theorem wp_X9_noLoan {g : sh_G} {S : sh_S} {sz : Nat} {Q : Int32 → sh_S → Prop} {a1 : Int32} {a2 : Int32} 
    (h : (sh_Ci g mX9_isTool [sh_R (9, 0, 0), sh_I a1] S sz (fun r2 S1 => ((r2 = 0 → Q 2 S1) ∧ (¬ r2 = 0 → (sh_Ci g mX9_isMember [sh_R (9, 0, 0), sh_I a2] S1 sz (fun r5 S4 => ((¬ r5 = 0 → (sh_Ci g mX9_its [sh_R (9, 0, 0), sh_I a1, sh_I 3] S4 sz (fun r8 S7 => ((¬ r8 = 0 → Q 3 S7) ∧ (r8 = 0 → (sh_Ci g mX9_of [sh_R (9, 0, 0), sh_I a2, sh_I 0] S7 sz (fun r11 S10 => ((¬ r11 = 0 → Q 3 S10) ∧ (r11 = 0 → (sh_Ci g mX9_openOf [sh_R (9, 0, 0), sh_I a2] S10 sz (fun r14 S13 => ((0 < r14 → Q 3 S13) ∧ (¬ 0 < r14 → (sh_Ci g mX9_toolsOf [sh_R (9, 0, 0), sh_I a2, sh_I 1] S13 sz (fun r17 S16 => ((r17 ≤ 2 → Q 0 S16) ∧ (¬ r17 ≤ 2 → Q 3 S16))))))))))))))))) ∧ (r5 = 0 → Q 2 S4))))))))) :
    sh_Ci g mX9_noLoan [sh_R (9, 0, 0), sh_I a1, sh_I a2] S sz Q := by
  refine sh_enter (ls := [(0, sh_R (9, 0, 0)), (1, sh_I a1), (2, sh_I a2)]) (by decide +kernel) (Nat.le_of_ble_eq_true rfl) rfl ?_
  refine sh_aload_n (pc := 0) dX9_noLoan_0 rfl ?_
  refine sh_iload_n (pc := 1) dX9_noLoan_1 rfl ?_
  refine sh_ci (N := mX9_isTool) (pc := 2) dX9_noLoan_2 ml_X9_132 h mf_X9_isTool iv_X9_isTool ⟨Nat.le_of_ble_eq_true rfl, Nat.le_of_ble_eq_true rfl⟩ rfl rfl (Nat.le_of_ble_eq_true rfl) ok_9_0 rfl (show vwCl[9]? = some (RX9, TX9, 14) from rfl) rfl (fun r2 S1 h => ?_)
  refine sh_if_eq (tgt := 16) (pc := 5) dX9_noLoan_5 (by decide) (fun hc3 => ?_) (fun hc3 => ?_)
  · have h := h.1 hc3
    refine sh_iconst (v := 2) (pc := 16) dX9_noLoan_16 rfl ?_
    exact sh_ret_i (pc := 17) dX9_noLoan_17 rfl ⟨rfl, rfl⟩ h
  · have h := h.2 hc3
    refine sh_aload_n (pc := 8) dX9_noLoan_8 rfl ?_
    refine sh_iload_n (pc := 9) dX9_noLoan_9 rfl ?_
    refine sh_ci (N := mX9_isMember) (pc := 10) dX9_noLoan_10 ml_X9_74 h mf_X9_isMember iv_X9_isMember ⟨Nat.le_of_ble_eq_true rfl, Nat.le_of_ble_eq_true rfl⟩ rfl rfl (Nat.le_of_ble_eq_true rfl) ok_9_0 rfl (show vwCl[9]? = some (RX9, TX9, 14) from rfl) rfl (fun r5 S4 h => ?_)
    refine sh_if_ne (tgt := 18) (pc := 13) dX9_noLoan_13 (by decide) (fun hc6 => ?_) (fun hc6 => ?_)
    · have h := h.1 hc6
      refine sh_aload_n (pc := 18) dX9_noLoan_18 rfl ?_
      refine sh_iload_n (pc := 19) dX9_noLoan_19 rfl ?_
      refine sh_iconst (v := 3) (pc := 20) dX9_noLoan_20 rfl ?_
      refine sh_ci (N := mX9_its) (pc := 21) dX9_noLoan_21 ml_X9_79 h mf_X9_its iv_X9_its ⟨Nat.le_of_ble_eq_true rfl, Nat.le_of_ble_eq_true rfl⟩ rfl rfl (Nat.le_of_ble_eq_true rfl) ok_9_0 rfl (show vwCl[9]? = some (RX9, TX9, 14) from rfl) rfl (fun r8 S7 h => ?_)
      refine sh_if_ne (tgt := 54) (pc := 24) dX9_noLoan_24 (by decide) (fun hc9 => ?_) (fun hc9 => ?_)
      · have h := h.1 hc9
        refine sh_iconst (v := 3) (pc := 54) dX9_noLoan_54 rfl ?_
        refine sh_goto (tgt := 59) (pc := 55) dX9_noLoan_55 (by decide) ?_
        exact sh_ret_i (pc := 59) dX9_noLoan_59 rfl ⟨rfl, rfl⟩ h
      · have h := h.2 hc9
        refine sh_aload_n (pc := 27) dX9_noLoan_27 rfl ?_
        refine sh_iload_n (pc := 28) dX9_noLoan_28 rfl ?_
        refine sh_iconst (v := 0) (pc := 29) dX9_noLoan_29 rfl ?_
        refine sh_ci (N := mX9_of) (pc := 30) dX9_noLoan_30 ml_X9_46 h mf_X9_of iv_X9_of ⟨Nat.le_of_ble_eq_true rfl, Nat.le_of_ble_eq_true rfl⟩ rfl rfl (Nat.le_of_ble_eq_true rfl) ok_9_0 rfl (show vwCl[9]? = some (RX9, TX9, 14) from rfl) rfl (fun r11 S10 h => ?_)
        refine sh_if_ne (tgt := 54) (pc := 33) dX9_noLoan_33 (by decide) (fun hc12 => ?_) (fun hc12 => ?_)
        · have h := h.1 hc12
          refine sh_iconst (v := 3) (pc := 54) dX9_noLoan_54 rfl ?_
          refine sh_goto (tgt := 59) (pc := 55) dX9_noLoan_55 (by decide) ?_
          exact sh_ret_i (pc := 59) dX9_noLoan_59 rfl ⟨rfl, rfl⟩ h
        · have h := h.2 hc12
          refine sh_aload_n (pc := 36) dX9_noLoan_36 rfl ?_
          refine sh_iload_n (pc := 37) dX9_noLoan_37 rfl ?_
          refine sh_ci (N := mX9_openOf) (pc := 38) dX9_noLoan_38 ml_X9_92 h mf_X9_openOf iv_X9_openOf ⟨Nat.le_of_ble_eq_true rfl, Nat.le_of_ble_eq_true rfl⟩ rfl rfl (Nat.le_of_ble_eq_true rfl) ok_9_0 rfl (show vwCl[9]? = some (RX9, TX9, 14) from rfl) rfl (fun r14 S13 h => ?_)
          refine sh_if_gt (tgt := 54) (pc := 41) dX9_noLoan_41 (by decide) (fun hc15 => ?_) (fun hc15 => ?_)
          · have h := h.1 hc15
            refine sh_iconst (v := 3) (pc := 54) dX9_noLoan_54 rfl ?_
            refine sh_goto (tgt := 59) (pc := 55) dX9_noLoan_55 (by decide) ?_
            exact sh_ret_i (pc := 59) dX9_noLoan_59 rfl ⟨rfl, rfl⟩ h
          · have h := h.2 hc15
            refine sh_aload_n (pc := 44) dX9_noLoan_44 rfl ?_
            refine sh_iload_n (pc := 45) dX9_noLoan_45 rfl ?_
            refine sh_iconst (v := 1) (pc := 46) dX9_noLoan_46 rfl ?_
            refine sh_ci (N := mX9_toolsOf) (pc := 47) dX9_noLoan_47 ml_X9_88 h mf_X9_toolsOf iv_X9_toolsOf ⟨Nat.le_of_ble_eq_true rfl, Nat.le_of_ble_eq_true rfl⟩ rfl rfl (Nat.le_of_ble_eq_true rfl) ok_9_0 rfl (show vwCl[9]? = some (RX9, TX9, 14) from rfl) rfl (fun r17 S16 h => ?_)
            refine sh_iconst (v := 2) (pc := 50) dX9_noLoan_50 rfl ?_
            refine sh_icmp_le (tgt := 58) (pc := 51) dX9_noLoan_51 (by decide) (fun hc18 => ?_) (fun hc18 => ?_)
            · have h := h.1 hc18
              refine sh_iconst (v := 0) (pc := 58) dX9_noLoan_58 rfl ?_
              exact sh_ret_i (pc := 59) dX9_noLoan_59 rfl ⟨rfl, rfl⟩ h
            · have h := h.2 hc18
              refine sh_iconst (v := 3) (pc := 54) dX9_noLoan_54 rfl ?_
              refine sh_goto (tgt := 59) (pc := 55) dX9_noLoan_55 (by decide) ?_
              exact sh_ret_i (pc := 59) dX9_noLoan_59 rfl ⟨rfl, rfl⟩ h
    · have h := h.2 hc6
      refine sh_iconst (v := 2) (pc := 16) dX9_noLoan_16 rfl ?_
      exact sh_ret_i (pc := 17) dX9_noLoan_17 rfl ⟨rfl, rfl⟩ h

set_option maxRecDepth 100000 in
set_option maxHeartbeats 4000000 in
theorem wp_X9_goesOut {g : sh_G} {S : sh_S} {sz : Nat} {Q : sh_S → Prop} {a1 : Int32} {a2 : Int32} {a3 : Int32} {a4 : Int32} 
    (h : (sh_Cu g mX9_lay [sh_R (9, 0, 0), sh_I a1, sh_I 3, sh_I a2] S sz (fun S1 => (sh_Cu g mX9_lay [sh_R (9, 0, 0), sh_I a1, sh_I 4, sh_I a3] S1 sz (fun S2 => (sh_Cu g mX9_lay [sh_R (9, 0, 0), sh_I a1, sh_I 5, sh_I a4] S2 sz (fun S3 => (sh_Cu g mX9_lay [sh_R (9, 0, 0), sh_I a1, sh_I 8, sh_I (-1)] S3 sz (fun S4 => (sh_Cu g mX9_lay [sh_R (9, 0, 0), sh_I a1, sh_I 9, sh_I (S4 (19, 0, 0) 7)] S4 sz (fun S6 => (sh_Ci g mX9_its [sh_R (9, 0, 0), sh_I a1, sh_I 7] S6 sz (fun r8 S7 => (sh_Cu g mX9_lay [sh_R (9, 0, 0), sh_I a1, sh_I 7, sh_I (r8 + 1)] S7 sz (fun S9 => Q S9))))))))))))))) :
    sh_Cu g mX9_goesOut [sh_R (9, 0, 0), sh_I a1, sh_I a2, sh_I a3, sh_I a4] S sz Q := by
  refine sh_enter (ls := [(0, sh_R (9, 0, 0)), (1, sh_I a1), (2, sh_I a2), (3, sh_I a3), (4, sh_I a4)]) (by decide +kernel) (Nat.le_of_ble_eq_true rfl) rfl ?_
  refine sh_aload_n (pc := 0) dX9_goesOut_0 rfl ?_
  refine sh_iload_n (pc := 1) dX9_goesOut_1 rfl ?_
  refine sh_iconst (v := 3) (pc := 2) dX9_goesOut_2 rfl ?_
  refine sh_iload_n (pc := 3) dX9_goesOut_3 rfl ?_
  refine sh_cu (N := mX9_lay) (pc := 4) dX9_goesOut_4 ml_X9_123 h mf_X9_lay iv_X9_lay ⟨Nat.le_of_ble_eq_true rfl, Nat.le_of_ble_eq_true rfl⟩ rfl rfl (Nat.le_of_ble_eq_true rfl) ok_9_0 rfl (show vwCl[9]? = some (RX9, TX9, 14) from rfl) rfl (fun S1 h => ?_)
  refine sh_aload_n (pc := 7) dX9_goesOut_7 rfl ?_
  refine sh_iload_n (pc := 8) dX9_goesOut_8 rfl ?_
  refine sh_iconst (v := 4) (pc := 9) dX9_goesOut_9 rfl ?_
  refine sh_iload_n (pc := 10) dX9_goesOut_10 rfl ?_
  refine sh_cu (N := mX9_lay) (pc := 11) dX9_goesOut_11 ml_X9_123 h mf_X9_lay iv_X9_lay ⟨Nat.le_of_ble_eq_true rfl, Nat.le_of_ble_eq_true rfl⟩ rfl rfl (Nat.le_of_ble_eq_true rfl) ok_9_0 rfl (show vwCl[9]? = some (RX9, TX9, 14) from rfl) rfl (fun S2 h => ?_)
  refine sh_aload_n (pc := 14) dX9_goesOut_14 rfl ?_
  refine sh_iload_n (pc := 15) dX9_goesOut_15 rfl ?_
  refine sh_iconst (v := 5) (pc := 16) dX9_goesOut_16 rfl ?_
  refine sh_iload (pc := 17) dX9_goesOut_17 rfl ?_
  refine sh_cu (N := mX9_lay) (pc := 19) dX9_goesOut_19 ml_X9_123 h mf_X9_lay iv_X9_lay ⟨Nat.le_of_ble_eq_true rfl, Nat.le_of_ble_eq_true rfl⟩ rfl rfl (Nat.le_of_ble_eq_true rfl) ok_9_0 rfl (show vwCl[9]? = some (RX9, TX9, 14) from rfl) rfl (fun S3 h => ?_)
  refine sh_aload_n (pc := 22) dX9_goesOut_22 rfl ?_
  refine sh_iload_n (pc := 23) dX9_goesOut_23 rfl ?_
  refine sh_bipush (v := 8) (pc := 24) dX9_goesOut_24 rfl ?_
  refine sh_iconst (v := (-1)) (pc := 26) dX9_goesOut_26 rfl ?_
  refine sh_cu (N := mX9_lay) (pc := 27) dX9_goesOut_27 ml_X9_123 h mf_X9_lay iv_X9_lay ⟨Nat.le_of_ble_eq_true rfl, Nat.le_of_ble_eq_true rfl⟩ rfl rfl (Nat.le_of_ble_eq_true rfl) ok_9_0 rfl (show vwCl[9]? = some (RX9, TX9, 14) from rfl) rfl (fun S4 h => ?_)
  refine sh_aload_n (pc := 30) dX9_goesOut_30 rfl ?_
  refine sh_iload_n (pc := 31) dX9_goesOut_31 rfl ?_
  refine sh_bipush (v := 9) (pc := 32) dX9_goesOut_32 rfl ?_
  refine sh_aload_n (pc := 34) dX9_goesOut_34 rfl ?_
  refine sh_gf (pc := 35) dX9_goesOut_35 fl_X9_7 cf_9 ok_9_0 rfl rfl ?_
  refine sh_bipush (v := 7) (pc := 38) dX9_goesOut_38 rfl ?_
  refine sh_ia (pc := 40) dX9_goesOut_40 ok_19_0 rfl (vp_in_iff.mpr ⟨by decide, by decide⟩) ?_
  refine sh_cu (N := mX9_lay) (pc := 41) dX9_goesOut_41 ml_X9_123 h mf_X9_lay iv_X9_lay ⟨Nat.le_of_ble_eq_true rfl, Nat.le_of_ble_eq_true rfl⟩ rfl rfl (Nat.le_of_ble_eq_true rfl) ok_9_0 rfl (show vwCl[9]? = some (RX9, TX9, 14) from rfl) rfl (fun S6 h => ?_)
  refine sh_aload_n (pc := 44) dX9_goesOut_44 rfl ?_
  refine sh_iload_n (pc := 45) dX9_goesOut_45 rfl ?_
  refine sh_bipush (v := 7) (pc := 46) dX9_goesOut_46 rfl ?_
  refine sh_aload_n (pc := 48) dX9_goesOut_48 rfl ?_
  refine sh_iload_n (pc := 49) dX9_goesOut_49 rfl ?_
  refine sh_bipush (v := 7) (pc := 50) dX9_goesOut_50 rfl ?_
  refine sh_ci (N := mX9_its) (pc := 52) dX9_goesOut_52 ml_X9_79 h mf_X9_its iv_X9_its ⟨Nat.le_of_ble_eq_true rfl, Nat.le_of_ble_eq_true rfl⟩ rfl rfl (Nat.le_of_ble_eq_true rfl) ok_9_0 rfl (show vwCl[9]? = some (RX9, TX9, 14) from rfl) rfl (fun r8 S7 h => ?_)
  refine sh_iconst (v := 1) (pc := 55) dX9_goesOut_55 rfl ?_
  refine sh_iadd (pc := 56) dX9_goesOut_56 ?_
  refine sh_cu (N := mX9_lay) (pc := 57) dX9_goesOut_57 ml_X9_123 h mf_X9_lay iv_X9_lay ⟨Nat.le_of_ble_eq_true rfl, Nat.le_of_ble_eq_true rfl⟩ rfl rfl (Nat.le_of_ble_eq_true rfl) ok_9_0 rfl (show vwCl[9]? = some (RX9, TX9, 14) from rfl) rfl (fun S9 h => ?_)
  exact sh_ret_u (pc := 60) dX9_goesOut_60 rfl ⟨rfl, rfl⟩ h

set_option maxRecDepth 100000 in
set_option maxHeartbeats 4000000 in
theorem wp_X9_borrows {g : sh_G} {S : sh_S} {sz : Nat} {Q : sh_S → Prop} {a1 : Int32} {a2 : Int32} 
    (h : (sh_Cu g mX9_goesOut [sh_R (9, 0, 0), sh_I a1, sh_I 1, sh_I a2, sh_I ((S (19, 0, 0) 7) + (S (19, 0, 0) 1))] S sz (fun S3 => Q S3))) :
    sh_Cu g mX9_borrows [sh_R (9, 0, 0), sh_I a1, sh_I a2] S sz Q := by
  refine sh_enter (ls := [(0, sh_R (9, 0, 0)), (1, sh_I a1), (2, sh_I a2)]) (by decide +kernel) (Nat.le_of_ble_eq_true rfl) rfl ?_
  refine sh_aload_n (pc := 0) dX9_borrows_0 rfl ?_
  refine sh_iload_n (pc := 1) dX9_borrows_1 rfl ?_
  refine sh_iconst (v := 1) (pc := 2) dX9_borrows_2 rfl ?_
  refine sh_iload_n (pc := 3) dX9_borrows_3 rfl ?_
  refine sh_aload_n (pc := 4) dX9_borrows_4 rfl ?_
  refine sh_gf (pc := 5) dX9_borrows_5 fl_X9_7 cf_9 ok_9_0 rfl rfl ?_
  refine sh_bipush (v := 7) (pc := 8) dX9_borrows_8 rfl ?_
  refine sh_ia (pc := 10) dX9_borrows_10 ok_19_0 rfl (vp_in_iff.mpr ⟨by decide, by decide⟩) ?_
  refine sh_aload_n (pc := 11) dX9_borrows_11 rfl ?_
  refine sh_gf (pc := 12) dX9_borrows_12 fl_X9_7 cf_9 ok_9_0 rfl rfl ?_
  refine sh_iconst (v := 1) (pc := 15) dX9_borrows_15 rfl ?_
  refine sh_ia (pc := 16) dX9_borrows_16 ok_19_0 rfl (vp_in_iff.mpr ⟨by decide, by decide⟩) ?_
  refine sh_iadd (pc := 17) dX9_borrows_17 ?_
  refine sh_cu (N := mX9_goesOut) (pc := 18) dX9_borrows_18 ml_X9_138 h mf_X9_goesOut iv_X9_goesOut ⟨Nat.le_of_ble_eq_true rfl, Nat.le_of_ble_eq_true rfl⟩ rfl rfl (Nat.le_of_ble_eq_true rfl) ok_9_0 rfl (show vwCl[9]? = some (RX9, TX9, 14) from rfl) rfl (fun S3 h => ?_)
  exact sh_ret_u (pc := 21) dX9_borrows_21 rfl ⟨rfl, rfl⟩ h

set_option maxRecDepth 100000 in
set_option maxHeartbeats 4000000 in
theorem wp_X9_borrow {g : sh_G} {S : sh_S} {sz : Nat} {Q : Int32 → sh_S → Prop} {a1 : Int32} {a2 : Int32} 
    (h : (sh_Ci g mX9_noLoan [sh_R (9, 0, 0), sh_I a1, sh_I a2] S sz (fun r2 S1 => ((r2 = 0 → (sh_Cu g mX9_hold [sh_R (9, 0, 0)] S1 sz (fun S4 => (sh_Cu g mX9_borrows [sh_R (9, 0, 0), sh_I a1, sh_I a2] S4 sz (fun S5 => (sh_Ci g mX9_its [sh_R (9, 0, 0), sh_I a1, sh_I 5] S5 sz (fun r7 S6 => (sh_Ci g mX9_ends [sh_R (9, 0, 0), sh_I r7] S6 sz (fun r9 S8 => Q r9 S8))))))))) ∧ (¬ r2 = 0 → ((¬ r2 = 2 → Q (-1000002) S1) ∧ (r2 = 2 → Q (-1000001) S1))))))) :
    sh_Ci g mX9_borrow [sh_R (9, 0, 0), sh_I a1, sh_I a2] S sz Q := by
  refine sh_enter (ls := [(0, sh_R (9, 0, 0)), (1, sh_I a1), (2, sh_I a2)]) (by decide +kernel) (Nat.le_of_ble_eq_true rfl) rfl ?_
  refine sh_aload_n (pc := 0) dX9_borrow_0 rfl ?_
  refine sh_iload_n (pc := 1) dX9_borrow_1 rfl ?_
  refine sh_iload_n (pc := 2) dX9_borrow_2 rfl ?_
  refine sh_ci (N := mX9_noLoan) (pc := 3) dX9_borrow_3 ml_X9_142 h mf_X9_noLoan iv_X9_noLoan ⟨Nat.le_of_ble_eq_true rfl, Nat.le_of_ble_eq_true rfl⟩ rfl rfl (Nat.le_of_ble_eq_true rfl) ok_9_0 rfl (show vwCl[9]? = some (RX9, TX9, 14) from rfl) rfl (fun r2 S1 h => ?_)
  refine sh_istore_n (ls' := [(3, sh_I r2), (0, sh_R (9, 0, 0)), (1, sh_I a1), (2, sh_I a2)]) (pc := 6) dX9_borrow_6 (by decide) rfl ?_
  refine sh_iload_n (pc := 7) dX9_borrow_7 rfl ?_
  refine sh_if_eq (tgt := 24) (pc := 8) dX9_borrow_8 (by decide) (fun hc3 => ?_) (fun hc3 => ?_)
  · have h := h.1 hc3
    refine sh_aload_n (pc := 24) dX9_borrow_24 rfl ?_
    refine sh_cu (N := mX9_hold) (pc := 25) dX9_borrow_25 ml_X9_67 h mf_X9_hold iv_X9_hold ⟨Nat.le_of_ble_eq_true rfl, Nat.le_of_ble_eq_true rfl⟩ rfl rfl (Nat.le_of_ble_eq_true rfl) ok_9_0 rfl (show vwCl[9]? = some (RX9, TX9, 14) from rfl) rfl (fun S4 h => ?_)
    refine sh_aload_n (pc := 28) dX9_borrow_28 rfl ?_
    refine sh_iload_n (pc := 29) dX9_borrow_29 rfl ?_
    refine sh_iload_n (pc := 30) dX9_borrow_30 rfl ?_
    refine sh_cu (N := mX9_borrows) (pc := 31) dX9_borrow_31 ml_X9_145 h mf_X9_borrows iv_X9_borrows ⟨Nat.le_of_ble_eq_true rfl, Nat.le_of_ble_eq_true rfl⟩ rfl rfl (Nat.le_of_ble_eq_true rfl) ok_9_0 rfl (show vwCl[9]? = some (RX9, TX9, 14) from rfl) rfl (fun S5 h => ?_)
    refine sh_aload_n (pc := 34) dX9_borrow_34 rfl ?_
    refine sh_aload_n (pc := 35) dX9_borrow_35 rfl ?_
    refine sh_iload_n (pc := 36) dX9_borrow_36 rfl ?_
    refine sh_iconst (v := 5) (pc := 37) dX9_borrow_37 rfl ?_
    refine sh_ci (N := mX9_its) (pc := 38) dX9_borrow_38 ml_X9_79 h mf_X9_its iv_X9_its ⟨Nat.le_of_ble_eq_true rfl, Nat.le_of_ble_eq_true rfl⟩ rfl rfl (Nat.le_of_ble_eq_true rfl) ok_9_0 rfl (show vwCl[9]? = some (RX9, TX9, 14) from rfl) rfl (fun r7 S6 h => ?_)
    refine sh_ci (N := mX9_ends) (pc := 41) dX9_borrow_41 ml_X9_70 h mf_X9_ends iv_X9_ends ⟨Nat.le_of_ble_eq_true rfl, Nat.le_of_ble_eq_true rfl⟩ rfl rfl (Nat.le_of_ble_eq_true rfl) ok_9_0 rfl (show vwCl[9]? = some (RX9, TX9, 14) from rfl) rfl (fun r9 S8 h => ?_)
    exact sh_ret_i (pc := 44) dX9_borrow_44 rfl ⟨rfl, rfl⟩ h
  · have h := h.2 hc3
    refine sh_iload_n (pc := 11) dX9_borrow_11 rfl ?_
    refine sh_iconst (v := 2) (pc := 12) dX9_borrow_12 rfl ?_
    refine sh_icmp_ne (tgt := 21) (pc := 13) dX9_borrow_13 (by decide) (fun hc10 => ?_) (fun hc10 => ?_)
    · have h := h.1 hc10
      refine sh_ldc (v := (-1000002)) (pc := 21) dX9_borrow_21 kc_X9_78 ?_
      exact sh_ret_i (pc := 23) dX9_borrow_23 rfl ⟨rfl, rfl⟩ h
    · have h := h.2 hc10
      refine sh_ldc (v := (-1000001)) (pc := 16) dX9_borrow_16 kc_X9_32 ?_
      refine sh_goto (tgt := 23) (pc := 18) dX9_borrow_18 (by decide) ?_
      exact sh_ret_i (pc := 23) dX9_borrow_23 rfl ⟨rfl, rfl⟩ h

set_option maxRecDepth 100000 in
set_option maxHeartbeats 4000000 in
theorem wp_X9_noReturn {g : sh_G} {S : sh_S} {sz : Nat} {Q : Int32 → sh_S → Prop} {a1 : Int32} 
    (h : (sh_Ci g mX9_isTool [sh_R (9, 0, 0), sh_I a1] S sz (fun r2 S1 => ((¬ r2 = 0 → (sh_Ci g mX9_its [sh_R (9, 0, 0), sh_I a1, sh_I 3] S1 sz (fun r5 S4 => ((r5 = 1 → Q 0 S4) ∧ (¬ r5 = 1 → Q 3 S4))))) ∧ (r2 = 0 → Q 2 S1))))) :
    sh_Ci g mX9_noReturn [sh_R (9, 0, 0), sh_I a1] S sz Q := by
  refine sh_enter (ls := [(0, sh_R (9, 0, 0)), (1, sh_I a1)]) (by decide +kernel) (Nat.le_of_ble_eq_true rfl) rfl ?_
  refine sh_aload_n (pc := 0) dX9_noReturn_0 rfl ?_
  refine sh_iload_n (pc := 1) dX9_noReturn_1 rfl ?_
  refine sh_ci (N := mX9_isTool) (pc := 2) dX9_noReturn_2 ml_X9_132 h mf_X9_isTool iv_X9_isTool ⟨Nat.le_of_ble_eq_true rfl, Nat.le_of_ble_eq_true rfl⟩ rfl rfl (Nat.le_of_ble_eq_true rfl) ok_9_0 rfl (show vwCl[9]? = some (RX9, TX9, 14) from rfl) rfl (fun r2 S1 h => ?_)
  refine sh_if_ne (tgt := 12) (pc := 5) dX9_noReturn_5 (by decide) (fun hc3 => ?_) (fun hc3 => ?_)
  · have h := h.1 hc3
    refine sh_aload_n (pc := 12) dX9_noReturn_12 rfl ?_
    refine sh_iload_n (pc := 13) dX9_noReturn_13 rfl ?_
    refine sh_iconst (v := 3) (pc := 14) dX9_noReturn_14 rfl ?_
    refine sh_ci (N := mX9_its) (pc := 15) dX9_noReturn_15 ml_X9_79 h mf_X9_its iv_X9_its ⟨Nat.le_of_ble_eq_true rfl, Nat.le_of_ble_eq_true rfl⟩ rfl rfl (Nat.le_of_ble_eq_true rfl) ok_9_0 rfl (show vwCl[9]? = some (RX9, TX9, 14) from rfl) rfl (fun r5 S4 h => ?_)
    refine sh_iconst (v := 1) (pc := 18) dX9_noReturn_18 rfl ?_
    refine sh_icmp_eq (tgt := 26) (pc := 19) dX9_noReturn_19 (by decide) (fun hc6 => ?_) (fun hc6 => ?_)
    · have h := h.1 hc6
      refine sh_iconst (v := 0) (pc := 26) dX9_noReturn_26 rfl ?_
      exact sh_ret_i (pc := 27) dX9_noReturn_27 rfl ⟨rfl, rfl⟩ h
    · have h := h.2 hc6
      refine sh_iconst (v := 3) (pc := 22) dX9_noReturn_22 rfl ?_
      refine sh_goto (tgt := 27) (pc := 23) dX9_noReturn_23 (by decide) ?_
      exact sh_ret_i (pc := 27) dX9_noReturn_27 rfl ⟨rfl, rfl⟩ h
  · have h := h.2 hc3
    refine sh_iconst (v := 2) (pc := 8) dX9_noReturn_8 rfl ?_
    refine sh_goto (tgt := 27) (pc := 9) dX9_noReturn_9 (by decide) ?_
    exact sh_ret_i (pc := 27) dX9_noReturn_27 rfl ⟨rfl, rfl⟩ h

set_option maxRecDepth 100000 in
set_option maxHeartbeats 4000000 in
theorem wp_X9_daysOut {g : sh_G} {S : sh_S} {sz : Nat} {Q : Int32 → sh_S → Prop} {a1 : Int32} 
    (h : (sh_Ci g mX9_its [sh_R (9, 0, 0), sh_I a1, sh_I 9] S sz (fun r3 S2 => (((S (19, 0, 0) 7) ≤ r3 → Q 1 S2) ∧ (¬ (S (19, 0, 0) 7) ≤ r3 → (sh_Ci g mX9_its [sh_R (9, 0, 0), sh_I a1, sh_I 9] S2 sz (fun r7 S6 => Q ((S2 (19, 0, 0) 7) - r7) S6))))))) :
    sh_Ci g mX9_daysOut [sh_R (9, 0, 0), sh_I a1] S sz Q := by
  refine sh_enter (ls := [(0, sh_R (9, 0, 0)), (1, sh_I a1)]) (by decide +kernel) (Nat.le_of_ble_eq_true rfl) rfl ?_
  refine sh_aload_n (pc := 0) dX9_daysOut_0 rfl ?_
  refine sh_gf (pc := 1) dX9_daysOut_1 fl_X9_7 cf_9 ok_9_0 rfl rfl ?_
  refine sh_bipush (v := 7) (pc := 4) dX9_daysOut_4 rfl ?_
  refine sh_ia (pc := 6) dX9_daysOut_6 ok_19_0 rfl (vp_in_iff.mpr ⟨by decide, by decide⟩) ?_
  refine sh_aload_n (pc := 7) dX9_daysOut_7 rfl ?_
  refine sh_iload_n (pc := 8) dX9_daysOut_8 rfl ?_
  refine sh_bipush (v := 9) (pc := 9) dX9_daysOut_9 rfl ?_
  refine sh_ci (N := mX9_its) (pc := 11) dX9_daysOut_11 ml_X9_79 h mf_X9_its iv_X9_its ⟨Nat.le_of_ble_eq_true rfl, Nat.le_of_ble_eq_true rfl⟩ rfl rfl (Nat.le_of_ble_eq_true rfl) ok_9_0 rfl (show vwCl[9]? = some (RX9, TX9, 14) from rfl) rfl (fun r3 S2 h => ?_)
  refine sh_icmp_le (tgt := 35) (pc := 14) dX9_daysOut_14 (by decide) (fun hc4 => ?_) (fun hc4 => ?_)
  · have h := h.1 hc4
    refine sh_iconst (v := 1) (pc := 35) dX9_daysOut_35 rfl ?_
    exact sh_ret_i (pc := 36) dX9_daysOut_36 rfl ⟨rfl, rfl⟩ h
  · have h := h.2 hc4
    refine sh_aload_n (pc := 17) dX9_daysOut_17 rfl ?_
    refine sh_gf (pc := 18) dX9_daysOut_18 fl_X9_7 cf_9 ok_9_0 rfl rfl ?_
    refine sh_bipush (v := 7) (pc := 21) dX9_daysOut_21 rfl ?_
    refine sh_ia (pc := 23) dX9_daysOut_23 ok_19_0 rfl (vp_in_iff.mpr ⟨by decide, by decide⟩) ?_
    refine sh_aload_n (pc := 24) dX9_daysOut_24 rfl ?_
    refine sh_iload_n (pc := 25) dX9_daysOut_25 rfl ?_
    refine sh_bipush (v := 9) (pc := 26) dX9_daysOut_26 rfl ?_
    refine sh_ci (N := mX9_its) (pc := 28) dX9_daysOut_28 ml_X9_79 h mf_X9_its iv_X9_its ⟨Nat.le_of_ble_eq_true rfl, Nat.le_of_ble_eq_true rfl⟩ rfl rfl (Nat.le_of_ble_eq_true rfl) ok_9_0 rfl (show vwCl[9]? = some (RX9, TX9, 14) from rfl) rfl (fun r7 S6 h => ?_)
    refine sh_isub (pc := 31) dX9_daysOut_31 ?_
    refine sh_goto (tgt := 36) (pc := 32) dX9_daysOut_32 (by decide) ?_
    exact sh_ret_i (pc := 36) dX9_daysOut_36 rfl ⟨rfl, rfl⟩ h

set_option maxRecDepth 100000 in
set_option maxHeartbeats 4000000 in
theorem wp_X9_returned {g : sh_G} {S : sh_S} {sz : Nat} {Q : Int32 → sh_S → Prop} {a1 : Int32} 
    (h : (sh_Ci g mX9_its [sh_R (9, 0, 0), sh_I a1, sh_I 5] S sz (fun r3 S2 => (((S (19, 0, 0) 7) ≤ r3 → (sh_Ci g mX9_daysOut [sh_R (9, 0, 0), sh_I a1] S2 sz (fun r6 S5 => (sh_Cf g mX9_duller [sh_R (9, 0, 0), sh_I a1, sh_I r6] S5 sz (fun f8 S7 => (sh_Ci g mX9_bitsOf [sh_F f8] S7 sz (fun r10 S9 => (sh_Cu g mX9_lay [sh_R (9, 0, 0), sh_I a1, sh_I 6, sh_I r10] S9 sz (fun S11 => (sh_Cu g mX9_lay [sh_R (9, 0, 0), sh_I a1, sh_I 3, sh_I 0] S11 sz (fun S12 => (sh_Ci g mX9_its [sh_R (9, 0, 0), sh_I a1, sh_I 4] S12 sz (fun r14 S13 => (sh_Cu g mX9_charges [sh_R (9, 0, 0), sh_I r14, sh_I (0 * (S13 (19, 0, 0) 2)), sh_I 1] S13 sz (fun S16 => Q (0 * (S16 (19, 0, 0) 2)) S16))))))))))))))) ∧ (¬ (S (19, 0, 0) 7) ≤ r3 → (sh_Ci g mX9_its [sh_R (9, 0, 0), sh_I a1, sh_I 5] S2 sz (fun r20 S19 => (∀ x21 : Int32, x21 = ((S2 (19, 0, 0) 7) - r20) → (sh_Ci g mX9_daysOut [sh_R (9, 0, 0), sh_I a1] S19 sz (fun r23 S22 => (sh_Cf g mX9_duller [sh_R (9, 0, 0), sh_I a1, sh_I r23] S22 sz (fun f25 S24 => (sh_Ci g mX9_bitsOf [sh_F f25] S24 sz (fun r27 S26 => (sh_Cu g mX9_lay [sh_R (9, 0, 0), sh_I a1, sh_I 6, sh_I r27] S26 sz (fun S28 => (sh_Cu g mX9_lay [sh_R (9, 0, 0), sh_I a1, sh_I 3, sh_I 0] S28 sz (fun S29 => (sh_Ci g mX9_its [sh_R (9, 0, 0), sh_I a1, sh_I 4] S29 sz (fun r31 S30 => (sh_Cu g mX9_charges [sh_R (9, 0, 0), sh_I r31, sh_I (x21 * (S30 (19, 0, 0) 2)), sh_I 1] S30 sz (fun S33 => Q (x21 * (S33 (19, 0, 0) 2)) S33)))))))))))))))))))))) :
    sh_Ci g mX9_returned [sh_R (9, 0, 0), sh_I a1] S sz Q := by
  refine sh_enter (ls := [(0, sh_R (9, 0, 0)), (1, sh_I a1)]) (by decide +kernel) (Nat.le_of_ble_eq_true rfl) rfl ?_
  refine sh_aload_n (pc := 0) dX9_returned_0 rfl ?_
  refine sh_gf (pc := 1) dX9_returned_1 fl_X9_7 cf_9 ok_9_0 rfl rfl ?_
  refine sh_bipush (v := 7) (pc := 4) dX9_returned_4 rfl ?_
  refine sh_ia (pc := 6) dX9_returned_6 ok_19_0 rfl (vp_in_iff.mpr ⟨by decide, by decide⟩) ?_
  refine sh_aload_n (pc := 7) dX9_returned_7 rfl ?_
  refine sh_iload_n (pc := 8) dX9_returned_8 rfl ?_
  refine sh_iconst (v := 5) (pc := 9) dX9_returned_9 rfl ?_
  refine sh_ci (N := mX9_its) (pc := 10) dX9_returned_10 ml_X9_79 h mf_X9_its iv_X9_its ⟨Nat.le_of_ble_eq_true rfl, Nat.le_of_ble_eq_true rfl⟩ rfl rfl (Nat.le_of_ble_eq_true rfl) ok_9_0 rfl (show vwCl[9]? = some (RX9, TX9, 14) from rfl) rfl (fun r3 S2 h => ?_)
  refine sh_icmp_le (tgt := 33) (pc := 13) dX9_returned_13 (by decide) (fun hc4 => ?_) (fun hc4 => ?_)
  · have h := h.1 hc4
    refine sh_iconst (v := 0) (pc := 33) dX9_returned_33 rfl ?_
    refine sh_istore_n (ls' := [(2, sh_I 0), (0, sh_R (9, 0, 0)), (1, sh_I a1)]) (pc := 34) dX9_returned_34 (by decide) rfl ?_
    refine sh_aload_n (pc := 35) dX9_returned_35 rfl ?_
    refine sh_iload_n (pc := 36) dX9_returned_36 rfl ?_
    refine sh_bipush (v := 6) (pc := 37) dX9_returned_37 rfl ?_
    refine sh_aload_n (pc := 39) dX9_returned_39 rfl ?_
    refine sh_iload_n (pc := 40) dX9_returned_40 rfl ?_
    refine sh_aload_n (pc := 41) dX9_returned_41 rfl ?_
    refine sh_iload_n (pc := 42) dX9_returned_42 rfl ?_
    refine sh_ci (N := mX9_daysOut) (pc := 43) dX9_returned_43 ml_X9_149 h mf_X9_daysOut iv_X9_daysOut ⟨Nat.le_of_ble_eq_true rfl, Nat.le_of_ble_eq_true rfl⟩ rfl rfl (Nat.le_of_ble_eq_true rfl) ok_9_0 rfl (show vwCl[9]? = some (RX9, TX9, 14) from rfl) rfl (fun r6 S5 h => ?_)
    refine sh_cf (N := mX9_duller) (pc := 46) dX9_returned_46 ml_X9_152 h mf_X9_duller iv_X9_duller ⟨Nat.le_of_ble_eq_true rfl, Nat.le_of_ble_eq_true rfl⟩ rfl rfl (Nat.le_of_ble_eq_true rfl) ok_9_0 rfl (show vwCl[9]? = some (RX9, TX9, 14) from rfl) rfl (fun f8 S7 h => ?_)
    refine sh_si (N := mX9_bitsOf) (pc := 49) dX9_returned_49 ml_X9_126 h mf_X9_bitsOf is_X9_bitsOf ⟨Nat.le_of_ble_eq_true rfl, Nat.le_of_ble_eq_true rfl⟩ rfl rfl (Nat.le_of_ble_eq_true rfl) (fun r10 S9 h => ?_)
    refine sh_cu (N := mX9_lay) (pc := 52) dX9_returned_52 ml_X9_123 h mf_X9_lay iv_X9_lay ⟨Nat.le_of_ble_eq_true rfl, Nat.le_of_ble_eq_true rfl⟩ rfl rfl (Nat.le_of_ble_eq_true rfl) ok_9_0 rfl (show vwCl[9]? = some (RX9, TX9, 14) from rfl) rfl (fun S11 h => ?_)
    refine sh_aload_n (pc := 55) dX9_returned_55 rfl ?_
    refine sh_iload_n (pc := 56) dX9_returned_56 rfl ?_
    refine sh_iconst (v := 3) (pc := 57) dX9_returned_57 rfl ?_
    refine sh_iconst (v := 0) (pc := 58) dX9_returned_58 rfl ?_
    refine sh_cu (N := mX9_lay) (pc := 59) dX9_returned_59 ml_X9_123 h mf_X9_lay iv_X9_lay ⟨Nat.le_of_ble_eq_true rfl, Nat.le_of_ble_eq_true rfl⟩ rfl rfl (Nat.le_of_ble_eq_true rfl) ok_9_0 rfl (show vwCl[9]? = some (RX9, TX9, 14) from rfl) rfl (fun S12 h => ?_)
    refine sh_aload_n (pc := 62) dX9_returned_62 rfl ?_
    refine sh_aload_n (pc := 63) dX9_returned_63 rfl ?_
    refine sh_iload_n (pc := 64) dX9_returned_64 rfl ?_
    refine sh_iconst (v := 4) (pc := 65) dX9_returned_65 rfl ?_
    refine sh_ci (N := mX9_its) (pc := 66) dX9_returned_66 ml_X9_79 h mf_X9_its iv_X9_its ⟨Nat.le_of_ble_eq_true rfl, Nat.le_of_ble_eq_true rfl⟩ rfl rfl (Nat.le_of_ble_eq_true rfl) ok_9_0 rfl (show vwCl[9]? = some (RX9, TX9, 14) from rfl) rfl (fun r14 S13 h => ?_)
    refine sh_iload_n (pc := 69) dX9_returned_69 rfl ?_
    refine sh_aload_n (pc := 70) dX9_returned_70 rfl ?_
    refine sh_gf (pc := 71) dX9_returned_71 fl_X9_7 cf_9 ok_9_0 rfl rfl ?_
    refine sh_iconst (v := 2) (pc := 74) dX9_returned_74 rfl ?_
    refine sh_ia (pc := 75) dX9_returned_75 ok_19_0 rfl (vp_in_iff.mpr ⟨by decide, by decide⟩) ?_
    refine sh_imul (pc := 76) dX9_returned_76 ?_
    refine sh_iconst (v := 1) (pc := 77) dX9_returned_77 rfl ?_
    refine sh_cu (N := mX9_charges) (pc := 78) dX9_returned_78 ml_X9_61 h mf_X9_charges iv_X9_charges ⟨Nat.le_of_ble_eq_true rfl, Nat.le_of_ble_eq_true rfl⟩ rfl rfl (Nat.le_of_ble_eq_true rfl) ok_9_0 rfl (show vwCl[9]? = some (RX9, TX9, 14) from rfl) rfl (fun S16 h => ?_)
    refine sh_iload_n (pc := 81) dX9_returned_81 rfl ?_
    refine sh_aload_n (pc := 82) dX9_returned_82 rfl ?_
    refine sh_gf (pc := 83) dX9_returned_83 fl_X9_7 cf_9 ok_9_0 rfl rfl ?_
    refine sh_iconst (v := 2) (pc := 86) dX9_returned_86 rfl ?_
    refine sh_ia (pc := 87) dX9_returned_87 ok_19_0 rfl (vp_in_iff.mpr ⟨by decide, by decide⟩) ?_
    refine sh_imul (pc := 88) dX9_returned_88 ?_
    exact sh_ret_i (pc := 89) dX9_returned_89 rfl ⟨rfl, rfl⟩ h
  · have h := h.2 hc4
    refine sh_aload_n (pc := 16) dX9_returned_16 rfl ?_
    refine sh_gf (pc := 17) dX9_returned_17 fl_X9_7 cf_9 ok_9_0 rfl rfl ?_
    refine sh_bipush (v := 7) (pc := 20) dX9_returned_20 rfl ?_
    refine sh_ia (pc := 22) dX9_returned_22 ok_19_0 rfl (vp_in_iff.mpr ⟨by decide, by decide⟩) ?_
    refine sh_aload_n (pc := 23) dX9_returned_23 rfl ?_
    refine sh_iload_n (pc := 24) dX9_returned_24 rfl ?_
    refine sh_iconst (v := 5) (pc := 25) dX9_returned_25 rfl ?_
    refine sh_ci (N := mX9_its) (pc := 26) dX9_returned_26 ml_X9_79 h mf_X9_its iv_X9_its ⟨Nat.le_of_ble_eq_true rfl, Nat.le_of_ble_eq_true rfl⟩ rfl rfl (Nat.le_of_ble_eq_true rfl) ok_9_0 rfl (show vwCl[9]? = some (RX9, TX9, 14) from rfl) rfl (fun r20 S19 h => ?_)
    refine sh_isub (pc := 29) dX9_returned_29 ?_
    refine sh_goto (tgt := 34) (pc := 30) dX9_returned_30 (by decide) ?_
    refine sh_topI (fun x21 hx21 => ?_)
    have h := h x21 hx21
    refine sh_istore_n (ls' := [(2, sh_I x21), (0, sh_R (9, 0, 0)), (1, sh_I a1)]) (pc := 34) dX9_returned_34 (by decide) rfl ?_
    refine sh_aload_n (pc := 35) dX9_returned_35 rfl ?_
    refine sh_iload_n (pc := 36) dX9_returned_36 rfl ?_
    refine sh_bipush (v := 6) (pc := 37) dX9_returned_37 rfl ?_
    refine sh_aload_n (pc := 39) dX9_returned_39 rfl ?_
    refine sh_iload_n (pc := 40) dX9_returned_40 rfl ?_
    refine sh_aload_n (pc := 41) dX9_returned_41 rfl ?_
    refine sh_iload_n (pc := 42) dX9_returned_42 rfl ?_
    refine sh_ci (N := mX9_daysOut) (pc := 43) dX9_returned_43 ml_X9_149 h mf_X9_daysOut iv_X9_daysOut ⟨Nat.le_of_ble_eq_true rfl, Nat.le_of_ble_eq_true rfl⟩ rfl rfl (Nat.le_of_ble_eq_true rfl) ok_9_0 rfl (show vwCl[9]? = some (RX9, TX9, 14) from rfl) rfl (fun r23 S22 h => ?_)
    refine sh_cf (N := mX9_duller) (pc := 46) dX9_returned_46 ml_X9_152 h mf_X9_duller iv_X9_duller ⟨Nat.le_of_ble_eq_true rfl, Nat.le_of_ble_eq_true rfl⟩ rfl rfl (Nat.le_of_ble_eq_true rfl) ok_9_0 rfl (show vwCl[9]? = some (RX9, TX9, 14) from rfl) rfl (fun f25 S24 h => ?_)
    refine sh_si (N := mX9_bitsOf) (pc := 49) dX9_returned_49 ml_X9_126 h mf_X9_bitsOf is_X9_bitsOf ⟨Nat.le_of_ble_eq_true rfl, Nat.le_of_ble_eq_true rfl⟩ rfl rfl (Nat.le_of_ble_eq_true rfl) (fun r27 S26 h => ?_)
    refine sh_cu (N := mX9_lay) (pc := 52) dX9_returned_52 ml_X9_123 h mf_X9_lay iv_X9_lay ⟨Nat.le_of_ble_eq_true rfl, Nat.le_of_ble_eq_true rfl⟩ rfl rfl (Nat.le_of_ble_eq_true rfl) ok_9_0 rfl (show vwCl[9]? = some (RX9, TX9, 14) from rfl) rfl (fun S28 h => ?_)
    refine sh_aload_n (pc := 55) dX9_returned_55 rfl ?_
    refine sh_iload_n (pc := 56) dX9_returned_56 rfl ?_
    refine sh_iconst (v := 3) (pc := 57) dX9_returned_57 rfl ?_
    refine sh_iconst (v := 0) (pc := 58) dX9_returned_58 rfl ?_
    refine sh_cu (N := mX9_lay) (pc := 59) dX9_returned_59 ml_X9_123 h mf_X9_lay iv_X9_lay ⟨Nat.le_of_ble_eq_true rfl, Nat.le_of_ble_eq_true rfl⟩ rfl rfl (Nat.le_of_ble_eq_true rfl) ok_9_0 rfl (show vwCl[9]? = some (RX9, TX9, 14) from rfl) rfl (fun S29 h => ?_)
    refine sh_aload_n (pc := 62) dX9_returned_62 rfl ?_
    refine sh_aload_n (pc := 63) dX9_returned_63 rfl ?_
    refine sh_iload_n (pc := 64) dX9_returned_64 rfl ?_
    refine sh_iconst (v := 4) (pc := 65) dX9_returned_65 rfl ?_
    refine sh_ci (N := mX9_its) (pc := 66) dX9_returned_66 ml_X9_79 h mf_X9_its iv_X9_its ⟨Nat.le_of_ble_eq_true rfl, Nat.le_of_ble_eq_true rfl⟩ rfl rfl (Nat.le_of_ble_eq_true rfl) ok_9_0 rfl (show vwCl[9]? = some (RX9, TX9, 14) from rfl) rfl (fun r31 S30 h => ?_)
    refine sh_iload_n (pc := 69) dX9_returned_69 rfl ?_
    refine sh_aload_n (pc := 70) dX9_returned_70 rfl ?_
    refine sh_gf (pc := 71) dX9_returned_71 fl_X9_7 cf_9 ok_9_0 rfl rfl ?_
    refine sh_iconst (v := 2) (pc := 74) dX9_returned_74 rfl ?_
    refine sh_ia (pc := 75) dX9_returned_75 ok_19_0 rfl (vp_in_iff.mpr ⟨by decide, by decide⟩) ?_
    refine sh_imul (pc := 76) dX9_returned_76 ?_
    refine sh_iconst (v := 1) (pc := 77) dX9_returned_77 rfl ?_
    refine sh_cu (N := mX9_charges) (pc := 78) dX9_returned_78 ml_X9_61 h mf_X9_charges iv_X9_charges ⟨Nat.le_of_ble_eq_true rfl, Nat.le_of_ble_eq_true rfl⟩ rfl rfl (Nat.le_of_ble_eq_true rfl) ok_9_0 rfl (show vwCl[9]? = some (RX9, TX9, 14) from rfl) rfl (fun S33 h => ?_)
    refine sh_iload_n (pc := 81) dX9_returned_81 rfl ?_
    refine sh_aload_n (pc := 82) dX9_returned_82 rfl ?_
    refine sh_gf (pc := 83) dX9_returned_83 fl_X9_7 cf_9 ok_9_0 rfl rfl ?_
    refine sh_iconst (v := 2) (pc := 86) dX9_returned_86 rfl ?_
    refine sh_ia (pc := 87) dX9_returned_87 ok_19_0 rfl (vp_in_iff.mpr ⟨by decide, by decide⟩) ?_
    refine sh_imul (pc := 88) dX9_returned_88 ?_
    exact sh_ret_i (pc := 89) dX9_returned_89 rfl ⟨rfl, rfl⟩ h

set_option maxRecDepth 100000 in
set_option maxHeartbeats 4000000 in
theorem wp_X9_giveBack {g : sh_G} {S : sh_S} {sz : Nat} {Q : Int32 → sh_S → Prop} {a1 : Int32} 
    (h : (sh_Ci g mX9_noReturn [sh_R (9, 0, 0), sh_I a1] S sz (fun r2 S1 => ((r2 = 0 → (sh_Cu g mX9_hold [sh_R (9, 0, 0)] S1 sz (fun S4 => (sh_Ci g mX9_returned [sh_R (9, 0, 0), sh_I a1] S4 sz (fun r6 S5 => (sh_Ci g mX9_ends [sh_R (9, 0, 0), sh_I r6] S5 sz (fun r8 S7 => Q r8 S7))))))) ∧ (¬ r2 = 0 → ((¬ r2 = 2 → Q (-1000002) S1) ∧ (r2 = 2 → Q (-1000001) S1))))))) :
    sh_Ci g mX9_giveBack [sh_R (9, 0, 0), sh_I a1] S sz Q := by
  refine sh_enter (ls := [(0, sh_R (9, 0, 0)), (1, sh_I a1)]) (by decide +kernel) (Nat.le_of_ble_eq_true rfl) rfl ?_
  refine sh_aload_n (pc := 0) dX9_giveBack_0 rfl ?_
  refine sh_iload_n (pc := 1) dX9_giveBack_1 rfl ?_
  refine sh_ci (N := mX9_noReturn) (pc := 2) dX9_giveBack_2 ml_X9_156 h mf_X9_noReturn iv_X9_noReturn ⟨Nat.le_of_ble_eq_true rfl, Nat.le_of_ble_eq_true rfl⟩ rfl rfl (Nat.le_of_ble_eq_true rfl) ok_9_0 rfl (show vwCl[9]? = some (RX9, TX9, 14) from rfl) rfl (fun r2 S1 h => ?_)
  refine sh_istore_n (ls' := [(2, sh_I r2), (0, sh_R (9, 0, 0)), (1, sh_I a1)]) (pc := 5) dX9_giveBack_5 (by decide) rfl ?_
  refine sh_iload_n (pc := 6) dX9_giveBack_6 rfl ?_
  refine sh_if_eq (tgt := 23) (pc := 7) dX9_giveBack_7 (by decide) (fun hc3 => ?_) (fun hc3 => ?_)
  · have h := h.1 hc3
    refine sh_aload_n (pc := 23) dX9_giveBack_23 rfl ?_
    refine sh_cu (N := mX9_hold) (pc := 24) dX9_giveBack_24 ml_X9_67 h mf_X9_hold iv_X9_hold ⟨Nat.le_of_ble_eq_true rfl, Nat.le_of_ble_eq_true rfl⟩ rfl rfl (Nat.le_of_ble_eq_true rfl) ok_9_0 rfl (show vwCl[9]? = some (RX9, TX9, 14) from rfl) rfl (fun S4 h => ?_)
    refine sh_aload_n (pc := 27) dX9_giveBack_27 rfl ?_
    refine sh_aload_n (pc := 28) dX9_giveBack_28 rfl ?_
    refine sh_iload_n (pc := 29) dX9_giveBack_29 rfl ?_
    refine sh_ci (N := mX9_returned) (pc := 30) dX9_giveBack_30 ml_X9_159 h mf_X9_returned iv_X9_returned ⟨Nat.le_of_ble_eq_true rfl, Nat.le_of_ble_eq_true rfl⟩ rfl rfl (Nat.le_of_ble_eq_true rfl) ok_9_0 rfl (show vwCl[9]? = some (RX9, TX9, 14) from rfl) rfl (fun r6 S5 h => ?_)
    refine sh_ci (N := mX9_ends) (pc := 33) dX9_giveBack_33 ml_X9_70 h mf_X9_ends iv_X9_ends ⟨Nat.le_of_ble_eq_true rfl, Nat.le_of_ble_eq_true rfl⟩ rfl rfl (Nat.le_of_ble_eq_true rfl) ok_9_0 rfl (show vwCl[9]? = some (RX9, TX9, 14) from rfl) rfl (fun r8 S7 h => ?_)
    exact sh_ret_i (pc := 36) dX9_giveBack_36 rfl ⟨rfl, rfl⟩ h
  · have h := h.2 hc3
    refine sh_iload_n (pc := 10) dX9_giveBack_10 rfl ?_
    refine sh_iconst (v := 2) (pc := 11) dX9_giveBack_11 rfl ?_
    refine sh_icmp_ne (tgt := 20) (pc := 12) dX9_giveBack_12 (by decide) (fun hc9 => ?_) (fun hc9 => ?_)
    · have h := h.1 hc9
      refine sh_ldc (v := (-1000002)) (pc := 20) dX9_giveBack_20 kc_X9_78 ?_
      exact sh_ret_i (pc := 22) dX9_giveBack_22 rfl ⟨rfl, rfl⟩ h
    · have h := h.2 hc9
      refine sh_ldc (v := (-1000001)) (pc := 15) dX9_giveBack_15 kc_X9_32 ?_
      refine sh_goto (tgt := 22) (pc := 17) dX9_giveBack_17 (by decide) ?_
      exact sh_ret_i (pc := 22) dX9_giveBack_22 rfl ⟨rfl, rfl⟩ h

set_option maxRecDepth 100000 in
set_option maxHeartbeats 4000000 in
theorem wp_X9_isOut {g : sh_G} {S : sh_S} {sz : Nat} {Q : Int32 → sh_S → Prop} {a1 : Int32} 
    (h : (sh_Ci g mX9_its [sh_R (9, 0, 0), sh_I a1, sh_I 3] S sz (fun r2 S1 => (sh_Ci g mX9_in [sh_I r2, sh_I 1, sh_I 3] S1 sz (fun r4 S3 => (narrow .boolean (.int r4) = .int r4 ∧ Q r4 S3)))))) :
    sh_Ci g mX9_isOut [sh_R (9, 0, 0), sh_I a1] S sz Q := by
  refine sh_enter (ls := [(0, sh_R (9, 0, 0)), (1, sh_I a1)]) (by decide +kernel) (Nat.le_of_ble_eq_true rfl) rfl ?_
  refine sh_aload_n (pc := 0) dX9_isOut_0 rfl ?_
  refine sh_iload_n (pc := 1) dX9_isOut_1 rfl ?_
  refine sh_iconst (v := 3) (pc := 2) dX9_isOut_2 rfl ?_
  refine sh_ci (N := mX9_its) (pc := 3) dX9_isOut_3 ml_X9_79 h mf_X9_its iv_X9_its ⟨Nat.le_of_ble_eq_true rfl, Nat.le_of_ble_eq_true rfl⟩ rfl rfl (Nat.le_of_ble_eq_true rfl) ok_9_0 rfl (show vwCl[9]? = some (RX9, TX9, 14) from rfl) rfl (fun r2 S1 h => ?_)
  refine sh_iconst (v := 1) (pc := 6) dX9_isOut_6 rfl ?_
  refine sh_iconst (v := 3) (pc := 7) dX9_isOut_7 rfl ?_
  refine sh_si (N := mX9_in) (pc := 8) dX9_isOut_8 ml_X9_38 h mf_X9_in is_X9_in ⟨Nat.le_of_ble_eq_true rfl, Nat.le_of_ble_eq_true rfl⟩ rfl rfl (Nat.le_of_ble_eq_true rfl) (fun r4 S3 h => ?_)
  exact sh_ret_z (pc := 11) dX9_isOut_11 rfl h.1 ⟨rfl, rfl⟩ h.2

set_option maxRecDepth 100000 in
set_option maxHeartbeats 4000000 in
theorem wp_X9_toolOf {g : sh_G} {S : sh_S} {sz : Nat} {Q : Int32 → sh_S → Prop} {a1 : Int32} {a2 : Int32} 
    (h : (sh_Ci g mX9_isTool [sh_R (9, 0, 0), sh_I a1] S sz (fun r2 S1 => ((r2 = 0 → Q (-1000001) S1) ∧ (¬ r2 = 0 → (sh_Ci g mX9_in [sh_I a2, sh_I 0, sh_I 8] S1 sz (fun r5 S4 => ((¬ r5 = 0 → (sh_Ci g mX9_in [sh_I a2, sh_I 4, sh_I 5] S4 sz (fun r8 S7 => ((r8 = 0 → ((¬ a2 = 8 → ((¬ a2 = 6 → (sh_Ci g mX9_its [sh_R (9, 0, 0), sh_I a1, sh_I a2] S7 sz (fun r13 S12 => Q r13 S12))) ∧ (a2 = 6 → (sh_Ci g mX9_its [sh_R (9, 0, 0), sh_I a1, sh_I 6] S7 sz (fun r15 S14 => (sh_Cf g mX9_real [sh_I r15] S14 sz (fun f17 S16 => (sh_Ci g mX9_thousandths [sh_F f17] S16 sz (fun r19 S18 => Q r19 S18))))))))) ∧ (a2 = 8 → (sh_Ci g mX9_its [sh_R (9, 0, 0), sh_I a1, sh_I 8] S7 sz (fun r21 S20 => ((0 ≤ r21 → ((¬ a2 = 6 → (sh_Ci g mX9_its [sh_R (9, 0, 0), sh_I a1, sh_I a2] S20 sz (fun r25 S24 => Q r25 S24))) ∧ (a2 = 6 → (sh_Ci g mX9_its [sh_R (9, 0, 0), sh_I a1, sh_I 6] S20 sz (fun r27 S26 => (sh_Cf g mX9_real [sh_I r27] S26 sz (fun f29 S28 => (sh_Ci g mX9_thousandths [sh_F f29] S28 sz (fun r31 S30 => Q r31 S30))))))))) ∧ (¬ 0 ≤ r21 → Q (-1000004) S20))))))) ∧ (¬ r8 = 0 → (sh_Ci g mX9_isOut [sh_R (9, 0, 0), sh_I a1] S7 sz (fun r33 S32 => ((r33 = 0 → Q (-1000004) S32) ∧ (¬ r33 = 0 → ((¬ a2 = 8 → ((¬ a2 = 6 → (sh_Ci g mX9_its [sh_R (9, 0, 0), sh_I a1, sh_I a2] S32 sz (fun r38 S37 => Q r38 S37))) ∧ (a2 = 6 → (sh_Ci g mX9_its [sh_R (9, 0, 0), sh_I a1, sh_I 6] S32 sz (fun r40 S39 => (sh_Cf g mX9_real [sh_I r40] S39 sz (fun f42 S41 => (sh_Ci g mX9_thousandths [sh_F f42] S41 sz (fun r44 S43 => Q r44 S43))))))))) ∧ (a2 = 8 → (sh_Ci g mX9_its [sh_R (9, 0, 0), sh_I a1, sh_I 8] S32 sz (fun r46 S45 => ((0 ≤ r46 → ((¬ a2 = 6 → (sh_Ci g mX9_its [sh_R (9, 0, 0), sh_I a1, sh_I a2] S45 sz (fun r50 S49 => Q r50 S49))) ∧ (a2 = 6 → (sh_Ci g mX9_its [sh_R (9, 0, 0), sh_I a1, sh_I 6] S45 sz (fun r52 S51 => (sh_Cf g mX9_real [sh_I r52] S51 sz (fun f54 S53 => (sh_Ci g mX9_thousandths [sh_F f54] S53 sz (fun r56 S55 => Q r56 S55))))))))) ∧ (¬ 0 ≤ r46 → Q (-1000004) S45))))))))))))))) ∧ (r5 = 0 → Q (-1000001) S4))))))))) :
    sh_Ci g mX9_toolOf [sh_R (9, 0, 0), sh_I a1, sh_I a2] S sz Q := by
  refine sh_enter (ls := [(0, sh_R (9, 0, 0)), (1, sh_I a1), (2, sh_I a2)]) (by decide +kernel) (Nat.le_of_ble_eq_true rfl) rfl ?_
  refine sh_aload_n (pc := 0) dX9_toolOf_0 rfl ?_
  refine sh_iload_n (pc := 1) dX9_toolOf_1 rfl ?_
  refine sh_ci (N := mX9_isTool) (pc := 2) dX9_toolOf_2 ml_X9_132 h mf_X9_isTool iv_X9_isTool ⟨Nat.le_of_ble_eq_true rfl, Nat.le_of_ble_eq_true rfl⟩ rfl rfl (Nat.le_of_ble_eq_true rfl) ok_9_0 rfl (show vwCl[9]? = some (RX9, TX9, 14) from rfl) rfl (fun r2 S1 h => ?_)
  refine sh_if_eq (tgt := 18) (pc := 5) dX9_toolOf_5 (by decide) (fun hc3 => ?_) (fun hc3 => ?_)
  · have h := h.1 hc3
    refine sh_ldc (v := (-1000001)) (pc := 18) dX9_toolOf_18 kc_X9_32 ?_
    exact sh_ret_i (pc := 20) dX9_toolOf_20 rfl ⟨rfl, rfl⟩ h
  · have h := h.2 hc3
    refine sh_iload_n (pc := 8) dX9_toolOf_8 rfl ?_
    refine sh_iconst (v := 0) (pc := 9) dX9_toolOf_9 rfl ?_
    refine sh_bipush (v := 8) (pc := 10) dX9_toolOf_10 rfl ?_
    refine sh_si (N := mX9_in) (pc := 12) dX9_toolOf_12 ml_X9_38 h mf_X9_in is_X9_in ⟨Nat.le_of_ble_eq_true rfl, Nat.le_of_ble_eq_true rfl⟩ rfl rfl (Nat.le_of_ble_eq_true rfl) (fun r5 S4 h => ?_)
    refine sh_if_ne (tgt := 21) (pc := 15) dX9_toolOf_15 (by decide) (fun hc6 => ?_) (fun hc6 => ?_)
    · have h := h.1 hc6
      refine sh_iload_n (pc := 21) dX9_toolOf_21 rfl ?_
      refine sh_iconst (v := 4) (pc := 22) dX9_toolOf_22 rfl ?_
      refine sh_iconst (v := 5) (pc := 23) dX9_toolOf_23 rfl ?_
      refine sh_si (N := mX9_in) (pc := 24) dX9_toolOf_24 ml_X9_38 h mf_X9_in is_X9_in ⟨Nat.le_of_ble_eq_true rfl, Nat.le_of_ble_eq_true rfl⟩ rfl rfl (Nat.le_of_ble_eq_true rfl) (fun r8 S7 h => ?_)
      refine sh_if_eq (tgt := 38) (pc := 27) dX9_toolOf_27 (by decide) (fun hc9 => ?_) (fun hc9 => ?_)
      · have h := h.1 hc9
        refine sh_iload_n (pc := 38) dX9_toolOf_38 rfl ?_
        refine sh_bipush (v := 8) (pc := 39) dX9_toolOf_39 rfl ?_
        refine sh_icmp_ne (tgt := 57) (pc := 41) dX9_toolOf_41 (by decide) (fun hc10 => ?_) (fun hc10 => ?_)
        · have h := h.1 hc10
          refine sh_iload_n (pc := 57) dX9_toolOf_57 rfl ?_
          refine sh_bipush (v := 6) (pc := 58) dX9_toolOf_58 rfl ?_
          refine sh_icmp_ne (tgt := 79) (pc := 60) dX9_toolOf_60 (by decide) (fun hc11 => ?_) (fun hc11 => ?_)
          · have h := h.1 hc11
            refine sh_aload_n (pc := 79) dX9_toolOf_79 rfl ?_
            refine sh_iload_n (pc := 80) dX9_toolOf_80 rfl ?_
            refine sh_iload_n (pc := 81) dX9_toolOf_81 rfl ?_
            refine sh_ci (N := mX9_its) (pc := 82) dX9_toolOf_82 ml_X9_79 h mf_X9_its iv_X9_its ⟨Nat.le_of_ble_eq_true rfl, Nat.le_of_ble_eq_true rfl⟩ rfl rfl (Nat.le_of_ble_eq_true rfl) ok_9_0 rfl (show vwCl[9]? = some (RX9, TX9, 14) from rfl) rfl (fun r13 S12 h => ?_)
            exact sh_ret_i (pc := 85) dX9_toolOf_85 rfl ⟨rfl, rfl⟩ h
          · have h := h.2 hc11
            refine sh_aload_n (pc := 63) dX9_toolOf_63 rfl ?_
            refine sh_iload_n (pc := 64) dX9_toolOf_64 rfl ?_
            refine sh_bipush (v := 6) (pc := 65) dX9_toolOf_65 rfl ?_
            refine sh_ci (N := mX9_its) (pc := 67) dX9_toolOf_67 ml_X9_79 h mf_X9_its iv_X9_its ⟨Nat.le_of_ble_eq_true rfl, Nat.le_of_ble_eq_true rfl⟩ rfl rfl (Nat.le_of_ble_eq_true rfl) ok_9_0 rfl (show vwCl[9]? = some (RX9, TX9, 14) from rfl) rfl (fun r15 S14 h => ?_)
            refine sh_sf2 (N := mX9_real) (pc := 70) dX9_toolOf_70 ml_X9_119 h mf_X9_real is_X9_real ⟨Nat.le_of_ble_eq_true rfl, Nat.le_of_ble_eq_true rfl⟩ rfl rfl (Nat.le_of_ble_eq_true rfl) (fun f17 S16 h => ?_)
            refine sh_si (N := mX9_thousandths) (pc := 73) dX9_toolOf_73 ml_X9_165 h mf_X9_thousandths is_X9_thousandths ⟨Nat.le_of_ble_eq_true rfl, Nat.le_of_ble_eq_true rfl⟩ rfl rfl (Nat.le_of_ble_eq_true rfl) (fun r19 S18 h => ?_)
            refine sh_goto (tgt := 85) (pc := 76) dX9_toolOf_76 (by decide) ?_
            exact sh_ret_i (pc := 85) dX9_toolOf_85 rfl ⟨rfl, rfl⟩ h
        · have h := h.2 hc10
          refine sh_aload_n (pc := 44) dX9_toolOf_44 rfl ?_
          refine sh_iload_n (pc := 45) dX9_toolOf_45 rfl ?_
          refine sh_bipush (v := 8) (pc := 46) dX9_toolOf_46 rfl ?_
          refine sh_ci (N := mX9_its) (pc := 48) dX9_toolOf_48 ml_X9_79 h mf_X9_its iv_X9_its ⟨Nat.le_of_ble_eq_true rfl, Nat.le_of_ble_eq_true rfl⟩ rfl rfl (Nat.le_of_ble_eq_true rfl) ok_9_0 rfl (show vwCl[9]? = some (RX9, TX9, 14) from rfl) rfl (fun r21 S20 h => ?_)
          refine sh_if_ge (tgt := 57) (pc := 51) dX9_toolOf_51 (by decide) (fun hc22 => ?_) (fun hc22 => ?_)
          · have h := h.1 hc22
            refine sh_iload_n (pc := 57) dX9_toolOf_57 rfl ?_
            refine sh_bipush (v := 6) (pc := 58) dX9_toolOf_58 rfl ?_
            refine sh_icmp_ne (tgt := 79) (pc := 60) dX9_toolOf_60 (by decide) (fun hc23 => ?_) (fun hc23 => ?_)
            · have h := h.1 hc23
              refine sh_aload_n (pc := 79) dX9_toolOf_79 rfl ?_
              refine sh_iload_n (pc := 80) dX9_toolOf_80 rfl ?_
              refine sh_iload_n (pc := 81) dX9_toolOf_81 rfl ?_
              refine sh_ci (N := mX9_its) (pc := 82) dX9_toolOf_82 ml_X9_79 h mf_X9_its iv_X9_its ⟨Nat.le_of_ble_eq_true rfl, Nat.le_of_ble_eq_true rfl⟩ rfl rfl (Nat.le_of_ble_eq_true rfl) ok_9_0 rfl (show vwCl[9]? = some (RX9, TX9, 14) from rfl) rfl (fun r25 S24 h => ?_)
              exact sh_ret_i (pc := 85) dX9_toolOf_85 rfl ⟨rfl, rfl⟩ h
            · have h := h.2 hc23
              refine sh_aload_n (pc := 63) dX9_toolOf_63 rfl ?_
              refine sh_iload_n (pc := 64) dX9_toolOf_64 rfl ?_
              refine sh_bipush (v := 6) (pc := 65) dX9_toolOf_65 rfl ?_
              refine sh_ci (N := mX9_its) (pc := 67) dX9_toolOf_67 ml_X9_79 h mf_X9_its iv_X9_its ⟨Nat.le_of_ble_eq_true rfl, Nat.le_of_ble_eq_true rfl⟩ rfl rfl (Nat.le_of_ble_eq_true rfl) ok_9_0 rfl (show vwCl[9]? = some (RX9, TX9, 14) from rfl) rfl (fun r27 S26 h => ?_)
              refine sh_sf2 (N := mX9_real) (pc := 70) dX9_toolOf_70 ml_X9_119 h mf_X9_real is_X9_real ⟨Nat.le_of_ble_eq_true rfl, Nat.le_of_ble_eq_true rfl⟩ rfl rfl (Nat.le_of_ble_eq_true rfl) (fun f29 S28 h => ?_)
              refine sh_si (N := mX9_thousandths) (pc := 73) dX9_toolOf_73 ml_X9_165 h mf_X9_thousandths is_X9_thousandths ⟨Nat.le_of_ble_eq_true rfl, Nat.le_of_ble_eq_true rfl⟩ rfl rfl (Nat.le_of_ble_eq_true rfl) (fun r31 S30 h => ?_)
              refine sh_goto (tgt := 85) (pc := 76) dX9_toolOf_76 (by decide) ?_
              exact sh_ret_i (pc := 85) dX9_toolOf_85 rfl ⟨rfl, rfl⟩ h
          · have h := h.2 hc22
            refine sh_ldc (v := (-1000004)) (pc := 54) dX9_toolOf_54 kc_X9_33 ?_
            exact sh_ret_i (pc := 56) dX9_toolOf_56 rfl ⟨rfl, rfl⟩ h
      · have h := h.2 hc9
        refine sh_aload_n (pc := 30) dX9_toolOf_30 rfl ?_
        refine sh_iload_n (pc := 31) dX9_toolOf_31 rfl ?_
        refine sh_ci (N := mX9_isOut) (pc := 32) dX9_toolOf_32 ml_X9_162 h mf_X9_isOut iv_X9_isOut ⟨Nat.le_of_ble_eq_true rfl, Nat.le_of_ble_eq_true rfl⟩ rfl rfl (Nat.le_of_ble_eq_true rfl) ok_9_0 rfl (show vwCl[9]? = some (RX9, TX9, 14) from rfl) rfl (fun r33 S32 h => ?_)
        refine sh_if_eq (tgt := 54) (pc := 35) dX9_toolOf_35 (by decide) (fun hc34 => ?_) (fun hc34 => ?_)
        · have h := h.1 hc34
          refine sh_ldc (v := (-1000004)) (pc := 54) dX9_toolOf_54 kc_X9_33 ?_
          exact sh_ret_i (pc := 56) dX9_toolOf_56 rfl ⟨rfl, rfl⟩ h
        · have h := h.2 hc34
          refine sh_iload_n (pc := 38) dX9_toolOf_38 rfl ?_
          refine sh_bipush (v := 8) (pc := 39) dX9_toolOf_39 rfl ?_
          refine sh_icmp_ne (tgt := 57) (pc := 41) dX9_toolOf_41 (by decide) (fun hc35 => ?_) (fun hc35 => ?_)
          · have h := h.1 hc35
            refine sh_iload_n (pc := 57) dX9_toolOf_57 rfl ?_
            refine sh_bipush (v := 6) (pc := 58) dX9_toolOf_58 rfl ?_
            refine sh_icmp_ne (tgt := 79) (pc := 60) dX9_toolOf_60 (by decide) (fun hc36 => ?_) (fun hc36 => ?_)
            · have h := h.1 hc36
              refine sh_aload_n (pc := 79) dX9_toolOf_79 rfl ?_
              refine sh_iload_n (pc := 80) dX9_toolOf_80 rfl ?_
              refine sh_iload_n (pc := 81) dX9_toolOf_81 rfl ?_
              refine sh_ci (N := mX9_its) (pc := 82) dX9_toolOf_82 ml_X9_79 h mf_X9_its iv_X9_its ⟨Nat.le_of_ble_eq_true rfl, Nat.le_of_ble_eq_true rfl⟩ rfl rfl (Nat.le_of_ble_eq_true rfl) ok_9_0 rfl (show vwCl[9]? = some (RX9, TX9, 14) from rfl) rfl (fun r38 S37 h => ?_)
              exact sh_ret_i (pc := 85) dX9_toolOf_85 rfl ⟨rfl, rfl⟩ h
            · have h := h.2 hc36
              refine sh_aload_n (pc := 63) dX9_toolOf_63 rfl ?_
              refine sh_iload_n (pc := 64) dX9_toolOf_64 rfl ?_
              refine sh_bipush (v := 6) (pc := 65) dX9_toolOf_65 rfl ?_
              refine sh_ci (N := mX9_its) (pc := 67) dX9_toolOf_67 ml_X9_79 h mf_X9_its iv_X9_its ⟨Nat.le_of_ble_eq_true rfl, Nat.le_of_ble_eq_true rfl⟩ rfl rfl (Nat.le_of_ble_eq_true rfl) ok_9_0 rfl (show vwCl[9]? = some (RX9, TX9, 14) from rfl) rfl (fun r40 S39 h => ?_)
              refine sh_sf2 (N := mX9_real) (pc := 70) dX9_toolOf_70 ml_X9_119 h mf_X9_real is_X9_real ⟨Nat.le_of_ble_eq_true rfl, Nat.le_of_ble_eq_true rfl⟩ rfl rfl (Nat.le_of_ble_eq_true rfl) (fun f42 S41 h => ?_)
              refine sh_si (N := mX9_thousandths) (pc := 73) dX9_toolOf_73 ml_X9_165 h mf_X9_thousandths is_X9_thousandths ⟨Nat.le_of_ble_eq_true rfl, Nat.le_of_ble_eq_true rfl⟩ rfl rfl (Nat.le_of_ble_eq_true rfl) (fun r44 S43 h => ?_)
              refine sh_goto (tgt := 85) (pc := 76) dX9_toolOf_76 (by decide) ?_
              exact sh_ret_i (pc := 85) dX9_toolOf_85 rfl ⟨rfl, rfl⟩ h
          · have h := h.2 hc35
            refine sh_aload_n (pc := 44) dX9_toolOf_44 rfl ?_
            refine sh_iload_n (pc := 45) dX9_toolOf_45 rfl ?_
            refine sh_bipush (v := 8) (pc := 46) dX9_toolOf_46 rfl ?_
            refine sh_ci (N := mX9_its) (pc := 48) dX9_toolOf_48 ml_X9_79 h mf_X9_its iv_X9_its ⟨Nat.le_of_ble_eq_true rfl, Nat.le_of_ble_eq_true rfl⟩ rfl rfl (Nat.le_of_ble_eq_true rfl) ok_9_0 rfl (show vwCl[9]? = some (RX9, TX9, 14) from rfl) rfl (fun r46 S45 h => ?_)
            refine sh_if_ge (tgt := 57) (pc := 51) dX9_toolOf_51 (by decide) (fun hc47 => ?_) (fun hc47 => ?_)
            · have h := h.1 hc47
              refine sh_iload_n (pc := 57) dX9_toolOf_57 rfl ?_
              refine sh_bipush (v := 6) (pc := 58) dX9_toolOf_58 rfl ?_
              refine sh_icmp_ne (tgt := 79) (pc := 60) dX9_toolOf_60 (by decide) (fun hc48 => ?_) (fun hc48 => ?_)
              · have h := h.1 hc48
                refine sh_aload_n (pc := 79) dX9_toolOf_79 rfl ?_
                refine sh_iload_n (pc := 80) dX9_toolOf_80 rfl ?_
                refine sh_iload_n (pc := 81) dX9_toolOf_81 rfl ?_
                refine sh_ci (N := mX9_its) (pc := 82) dX9_toolOf_82 ml_X9_79 h mf_X9_its iv_X9_its ⟨Nat.le_of_ble_eq_true rfl, Nat.le_of_ble_eq_true rfl⟩ rfl rfl (Nat.le_of_ble_eq_true rfl) ok_9_0 rfl (show vwCl[9]? = some (RX9, TX9, 14) from rfl) rfl (fun r50 S49 h => ?_)
                exact sh_ret_i (pc := 85) dX9_toolOf_85 rfl ⟨rfl, rfl⟩ h
              · have h := h.2 hc48
                refine sh_aload_n (pc := 63) dX9_toolOf_63 rfl ?_
                refine sh_iload_n (pc := 64) dX9_toolOf_64 rfl ?_
                refine sh_bipush (v := 6) (pc := 65) dX9_toolOf_65 rfl ?_
                refine sh_ci (N := mX9_its) (pc := 67) dX9_toolOf_67 ml_X9_79 h mf_X9_its iv_X9_its ⟨Nat.le_of_ble_eq_true rfl, Nat.le_of_ble_eq_true rfl⟩ rfl rfl (Nat.le_of_ble_eq_true rfl) ok_9_0 rfl (show vwCl[9]? = some (RX9, TX9, 14) from rfl) rfl (fun r52 S51 h => ?_)
                refine sh_sf2 (N := mX9_real) (pc := 70) dX9_toolOf_70 ml_X9_119 h mf_X9_real is_X9_real ⟨Nat.le_of_ble_eq_true rfl, Nat.le_of_ble_eq_true rfl⟩ rfl rfl (Nat.le_of_ble_eq_true rfl) (fun f54 S53 h => ?_)
                refine sh_si (N := mX9_thousandths) (pc := 73) dX9_toolOf_73 ml_X9_165 h mf_X9_thousandths is_X9_thousandths ⟨Nat.le_of_ble_eq_true rfl, Nat.le_of_ble_eq_true rfl⟩ rfl rfl (Nat.le_of_ble_eq_true rfl) (fun r56 S55 h => ?_)
                refine sh_goto (tgt := 85) (pc := 76) dX9_toolOf_76 (by decide) ?_
                exact sh_ret_i (pc := 85) dX9_toolOf_85 rfl ⟨rfl, rfl⟩ h
            · have h := h.2 hc47
              refine sh_ldc (v := (-1000004)) (pc := 54) dX9_toolOf_54 kc_X9_33 ?_
              exact sh_ret_i (pc := 56) dX9_toolOf_56 rfl ⟨rfl, rfl⟩ h
    · have h := h.2 hc6
      refine sh_ldc (v := (-1000001)) (pc := 18) dX9_toolOf_18 kc_X9_32 ?_
      exact sh_ret_i (pc := 20) dX9_toolOf_20 rfl ⟨rfl, rfl⟩ h

set_option maxRecDepth 100000 in
set_option maxHeartbeats 4000000 in
theorem wp_X9_bits {g : sh_G} {S : sh_S} {sz : Nat} {Q : Int32 → sh_S → Prop} {a1 : Int32} 
    (h : (sh_Ci g mX9_isTool [sh_R (9, 0, 0), sh_I a1] S sz (fun r2 S1 => ((r2 = 0 → Q (-1000001) S1) ∧ (¬ r2 = 0 → (sh_Ci g mX9_its [sh_R (9, 0, 0), sh_I a1, sh_I 6] S1 sz (fun r5 S4 => Q r5 S4))))))) :
    sh_Ci g mX9_bits [sh_R (9, 0, 0), sh_I a1] S sz Q := by
  refine sh_enter (ls := [(0, sh_R (9, 0, 0)), (1, sh_I a1)]) (by decide +kernel) (Nat.le_of_ble_eq_true rfl) rfl ?_
  refine sh_aload_n (pc := 0) dX9_bits_0 rfl ?_
  refine sh_iload_n (pc := 1) dX9_bits_1 rfl ?_
  refine sh_ci (N := mX9_isTool) (pc := 2) dX9_bits_2 ml_X9_132 h mf_X9_isTool iv_X9_isTool ⟨Nat.le_of_ble_eq_true rfl, Nat.le_of_ble_eq_true rfl⟩ rfl rfl (Nat.le_of_ble_eq_true rfl) ok_9_0 rfl (show vwCl[9]? = some (RX9, TX9, 14) from rfl) rfl (fun r2 S1 h => ?_)
  refine sh_if_eq (tgt := 18) (pc := 5) dX9_bits_5 (by decide) (fun hc3 => ?_) (fun hc3 => ?_)
  · have h := h.1 hc3
    refine sh_ldc (v := (-1000001)) (pc := 18) dX9_bits_18 kc_X9_32 ?_
    exact sh_ret_i (pc := 20) dX9_bits_20 rfl ⟨rfl, rfl⟩ h
  · have h := h.2 hc3
    refine sh_aload_n (pc := 8) dX9_bits_8 rfl ?_
    refine sh_iload_n (pc := 9) dX9_bits_9 rfl ?_
    refine sh_bipush (v := 6) (pc := 10) dX9_bits_10 rfl ?_
    refine sh_ci (N := mX9_its) (pc := 12) dX9_bits_12 ml_X9_79 h mf_X9_its iv_X9_its ⟨Nat.le_of_ble_eq_true rfl, Nat.le_of_ble_eq_true rfl⟩ rfl rfl (Nat.le_of_ble_eq_true rfl) ok_9_0 rfl (show vwCl[9]? = some (RX9, TX9, 14) from rfl) rfl (fun r5 S4 h => ?_)
    refine sh_goto (tgt := 20) (pc := 15) dX9_bits_15 (by decide) ?_
    exact sh_ret_i (pc := 20) dX9_bits_20 rfl ⟨rfl, rfl⟩ h

set_option maxRecDepth 100000 in
set_option maxHeartbeats 4000000 in
theorem wp_X9_dullBehind {g : sh_G} {S : sh_S} {sz : Nat} {Q : Int32 → sh_S → Prop} {a1 : Int32} {a2 : Int32} 
    (h : (sh_Ci g mX9_isTool [sh_R (9, 0, 0), sh_I a1] S sz (fun r2 S1 => ((r2 = 0 → Q (-1000001) S1) ∧ (¬ r2 = 0 → (sh_Ci g mX9_in [sh_I a2, sh_I 1, sh_I 200] S1 sz (fun r5 S4 => ((¬ r5 = 0 → (sh_Ci g mX9_its [sh_R (9, 0, 0), sh_I a1, sh_I 3] S4 sz (fun r8 S7 => ((¬ r8 = 4 → (sh_Cf g mX9_duller [sh_R (9, 0, 0), sh_I a1, sh_I a2] S7 sz (fun f11 S10 => (sh_Ci g mX9_thousandths [sh_F f11] S10 sz (fun r13 S12 => Q r13 S12))))) ∧ (r8 = 4 → Q (-1000002) S7))))) ∧ (r5 = 0 → Q (-1000001) S4))))))))) :
    sh_Ci g mX9_dullBehind [sh_R (9, 0, 0), sh_I a1, sh_I a2] S sz Q := by
  refine sh_enter (ls := [(0, sh_R (9, 0, 0)), (1, sh_I a1), (2, sh_I a2)]) (by decide +kernel) (Nat.le_of_ble_eq_true rfl) rfl ?_
  refine sh_aload_n (pc := 0) dX9_dullBehind_0 rfl ?_
  refine sh_iload_n (pc := 1) dX9_dullBehind_1 rfl ?_
  refine sh_ci (N := mX9_isTool) (pc := 2) dX9_dullBehind_2 ml_X9_132 h mf_X9_isTool iv_X9_isTool ⟨Nat.le_of_ble_eq_true rfl, Nat.le_of_ble_eq_true rfl⟩ rfl rfl (Nat.le_of_ble_eq_true rfl) ok_9_0 rfl (show vwCl[9]? = some (RX9, TX9, 14) from rfl) rfl (fun r2 S1 h => ?_)
  refine sh_if_eq (tgt := 19) (pc := 5) dX9_dullBehind_5 (by decide) (fun hc3 => ?_) (fun hc3 => ?_)
  · have h := h.1 hc3
    refine sh_ldc (v := (-1000001)) (pc := 19) dX9_dullBehind_19 kc_X9_32 ?_
    exact sh_ret_i (pc := 21) dX9_dullBehind_21 rfl ⟨rfl, rfl⟩ h
  · have h := h.2 hc3
    refine sh_iload_n (pc := 8) dX9_dullBehind_8 rfl ?_
    refine sh_iconst (v := 1) (pc := 9) dX9_dullBehind_9 rfl ?_
    refine sh_sipush (v := 200) (pc := 10) dX9_dullBehind_10 rfl ?_
    refine sh_si (N := mX9_in) (pc := 13) dX9_dullBehind_13 ml_X9_38 h mf_X9_in is_X9_in ⟨Nat.le_of_ble_eq_true rfl, Nat.le_of_ble_eq_true rfl⟩ rfl rfl (Nat.le_of_ble_eq_true rfl) (fun r5 S4 h => ?_)
    refine sh_if_ne (tgt := 22) (pc := 16) dX9_dullBehind_16 (by decide) (fun hc6 => ?_) (fun hc6 => ?_)
    · have h := h.1 hc6
      refine sh_aload_n (pc := 22) dX9_dullBehind_22 rfl ?_
      refine sh_iload_n (pc := 23) dX9_dullBehind_23 rfl ?_
      refine sh_iconst (v := 3) (pc := 24) dX9_dullBehind_24 rfl ?_
      refine sh_ci (N := mX9_its) (pc := 25) dX9_dullBehind_25 ml_X9_79 h mf_X9_its iv_X9_its ⟨Nat.le_of_ble_eq_true rfl, Nat.le_of_ble_eq_true rfl⟩ rfl rfl (Nat.le_of_ble_eq_true rfl) ok_9_0 rfl (show vwCl[9]? = some (RX9, TX9, 14) from rfl) rfl (fun r8 S7 h => ?_)
      refine sh_iconst (v := 4) (pc := 28) dX9_dullBehind_28 rfl ?_
      refine sh_icmp_ne (tgt := 37) (pc := 29) dX9_dullBehind_29 (by decide) (fun hc9 => ?_) (fun hc9 => ?_)
      · have h := h.1 hc9
        refine sh_aload_n (pc := 37) dX9_dullBehind_37 rfl ?_
        refine sh_iload_n (pc := 38) dX9_dullBehind_38 rfl ?_
        refine sh_iload_n (pc := 39) dX9_dullBehind_39 rfl ?_
        refine sh_cf (N := mX9_duller) (pc := 40) dX9_dullBehind_40 ml_X9_152 h mf_X9_duller iv_X9_duller ⟨Nat.le_of_ble_eq_true rfl, Nat.le_of_ble_eq_true rfl⟩ rfl rfl (Nat.le_of_ble_eq_true rfl) ok_9_0 rfl (show vwCl[9]? = some (RX9, TX9, 14) from rfl) rfl (fun f11 S10 h => ?_)
        refine sh_si (N := mX9_thousandths) (pc := 43) dX9_dullBehind_43 ml_X9_165 h mf_X9_thousandths is_X9_thousandths ⟨Nat.le_of_ble_eq_true rfl, Nat.le_of_ble_eq_true rfl⟩ rfl rfl (Nat.le_of_ble_eq_true rfl) (fun r13 S12 h => ?_)
        exact sh_ret_i (pc := 46) dX9_dullBehind_46 rfl ⟨rfl, rfl⟩ h
      · have h := h.2 hc9
        refine sh_ldc (v := (-1000002)) (pc := 32) dX9_dullBehind_32 kc_X9_78 ?_
        refine sh_goto (tgt := 46) (pc := 34) dX9_dullBehind_34 (by decide) ?_
        exact sh_ret_i (pc := 46) dX9_dullBehind_46 rfl ⟨rfl, rfl⟩ h
    · have h := h.2 hc6
      refine sh_ldc (v := (-1000001)) (pc := 19) dX9_dullBehind_19 kc_X9_32 ?_
      exact sh_ret_i (pc := 21) dX9_dullBehind_21 rfl ⟨rfl, rfl⟩ h

set_option maxRecDepth 100000 in
set_option maxHeartbeats 4000000 in
theorem wp_X9_mean {g : sh_G} {S : sh_S} {sz : Nat} {Q : Int32 → sh_S → Prop} {a1 : Int32} 
    (h : (sh_Ci g mX9_in [sh_I a1, sh_I 0, sh_I 1] S sz (fun r2 S1 => ((¬ r2 = 0 → (∀ d4 : UInt64, d4 = FP.dconst0 → (∃ (Iv5 : UInt64 → Int32 → Int32 → sh_S → Prop) (mu5 : UInt64 → Int32 → Int32 → sh_S → Nat), Iv5 d4 0 0 S1 ∧ ∀ (v6 : UInt64) (v7 : Int32) (v8 : Int32) (S9 : sh_S), Iv5 v6 v7 v8 S9 → (((S9 (19, 0, 0) 9) ≤ v8 → ((¬ v7 = 0 → (vf_n64 (FP.ddiv v6 (FP.i2d v7)) ∧ (∀ d14 : UInt64, d14 = (FP.ddiv v6 (FP.i2d v7)) → (vf_n64 (FP.dmul d14 4652007308841189376) ∧ (∀ d16 : UInt64, d16 = (FP.dmul d14 4652007308841189376) → Q (FP.d2i d16) S9))))) ∧ (v7 = 0 → Q (-1000004) S9))) ∧ (¬ (S9 (19, 0, 0) 9) ≤ v8 → (sh_Ci g mX9_its [sh_R (9, 0, 0), sh_I v8, sh_I 0] S9 sz (fun r18 S17 => ((¬ r18 = a1 → (∀ x20 : Int32, x20 = v8 + 1 → (Iv5 v6 v7 x20 S17 ∧ mu5 v6 v7 x20 S17 < mu5 v6 v7 v8 S9))) ∧ (r18 = a1 → (sh_Ci g mX9_its [sh_R (9, 0, 0), sh_I v8, sh_I 3] S17 sz (fun r22 S21 => ((¬ r22 = 0 → (∀ x24 : Int32, x24 = v8 + 1 → (Iv5 v6 v7 x24 S21 ∧ mu5 v6 v7 x24 S21 < mu5 v6 v7 v8 S9))) ∧ (r22 = 0 → (sh_Ci g mX9_its [sh_R (9, 0, 0), sh_I v8, sh_I 6] S21 sz (fun r26 S25 => (sh_Cf g mX9_real [sh_I r26] S25 sz (fun f28 S27 => (vf_n64 (FP.f2d f28) ∧ (vf_n64 (FP.dadd v6 (FP.f2d f28)) ∧ (∀ d31 : UInt64, d31 = (FP.dadd v6 (FP.f2d f28)) → (∀ x32 : Int32, x32 = v7 + 1 → (∀ x33 : Int32, x33 = v8 + 1 → (Iv5 d31 x32 x33 S27 ∧ mu5 d31 x32 x33 S27 < mu5 v6 v7 v8 S9))))))))))))))))))))))) ∧ (r2 = 0 → Q (-1000001) S1))))) :
    sh_Ci g mX9_mean [sh_R (9, 0, 0), sh_I a1] S sz Q := by
  refine sh_enter (ls := [(0, sh_R (9, 0, 0)), (1, sh_I a1)]) (by decide +kernel) (Nat.le_of_ble_eq_true rfl) rfl ?_
  refine sh_iload_n (pc := 0) dX9_mean_0 rfl ?_
  refine sh_iconst (v := 0) (pc := 1) dX9_mean_1 rfl ?_
  refine sh_iconst (v := 1) (pc := 2) dX9_mean_2 rfl ?_
  refine sh_si (N := mX9_in) (pc := 3) dX9_mean_3 ml_X9_38 h mf_X9_in is_X9_in ⟨Nat.le_of_ble_eq_true rfl, Nat.le_of_ble_eq_true rfl⟩ rfl rfl (Nat.le_of_ble_eq_true rfl) (fun r2 S1 h => ?_)
  refine sh_if_ne (tgt := 12) (pc := 6) dX9_mean_6 (by decide) (fun hc3 => ?_) (fun hc3 => ?_)
  · have h := h.1 hc3
    refine sh_dconst0 (pc := 12) dX9_mean_12 ?_
    refine sh_topD (fun d4 hd4 => ?_)
    have h := h d4 hd4
    refine sh_dstore_n (ls' := [(2, sh_Dv d4), (0, sh_R (9, 0, 0)), (1, sh_I a1)]) (pc := 13) dX9_mean_13 (by decide) rfl ?_
    refine sh_iconst (v := 0) (pc := 14) dX9_mean_14 rfl ?_
    refine sh_istore (ls' := [(4, sh_I 0), (2, sh_Dv d4), (0, sh_R (9, 0, 0)), (1, sh_I a1)]) (pc := 15) dX9_mean_15 (by decide) rfl ?_
    refine sh_iconst (v := 0) (pc := 17) dX9_mean_17 rfl ?_
    refine sh_istore (ls' := [(5, sh_I 0), (4, sh_I 0), (2, sh_Dv d4), (0, sh_R (9, 0, 0)), (1, sh_I a1)]) (pc := 18) dX9_mean_18 (by decide) rfl ?_
    obtain ⟨Iv5, mu5, h0, hs5⟩ := h
    refine sh_pick [3, 4, 2, 1, 0] rfl ?_
    refine sh_lp4 Iv5 mu5 (fun v6 v7 v8 S9 => sh_V g mX9_mean 0 0 20 [(0, sh_R (9, 0, 0)), (1, sh_I a1), (2, sh_Dv v6), (4, sh_I v7), (5, sh_I v8)] [] (sh_St S9) sz (sh_ti sz Q)) (fun v6 v7 v8 S9 hI5 ih5 => ?_) _ _ _ _ h0
    have h := hs5 v6 v7 v8 S9 hI5
    clear h0
    refine sh_iload (pc := 20) dX9_mean_20 rfl ?_
    refine sh_aload_n (pc := 22) dX9_mean_22 rfl ?_
    refine sh_gf (pc := 23) dX9_mean_23 fl_X9_7 cf_9 ok_9_0 rfl rfl ?_
    refine sh_bipush (v := 9) (pc := 26) dX9_mean_26 rfl ?_
    refine sh_ia (pc := 28) dX9_mean_28 ok_19_0 rfl (vp_in_iff.mpr ⟨by decide, by decide⟩) ?_
    refine sh_icmp_ge (tgt := 77) (pc := 29) dX9_mean_29 (by decide) (fun hc11 => ?_) (fun hc11 => ?_)
    · have h := h.1 hc11
      refine sh_iload (pc := 77) dX9_mean_77 rfl ?_
      refine sh_if_ne (tgt := 87) (pc := 79) dX9_mean_79 (by decide) (fun hc12 => ?_) (fun hc12 => ?_)
      · have h := h.1 hc12
        refine sh_dload_n (pc := 87) dX9_mean_87 rfl ?_
        refine sh_iload (pc := 88) dX9_mean_88 rfl ?_
        refine sh_i2d (pc := 90) dX9_mean_90 ?_
        obtain ⟨hf13, h⟩ := h
        refine sh_ddiv (pc := 91) dX9_mean_91 hf13 ?_
        refine sh_topD (fun d14 hd14 => ?_)
        have h := h d14 hd14
        refine sh_ldc2d (v := 4652007308841189376) (pc := 92) dX9_mean_92 kc_X9_168 ?_
        obtain ⟨hf15, h⟩ := h
        refine sh_dmul (pc := 95) dX9_mean_95 hf15 ?_
        refine sh_topD (fun d16 hd16 => ?_)
        have h := h d16 hd16
        refine sh_d2i (pc := 96) dX9_mean_96 ?_
        exact sh_ret_i (pc := 97) dX9_mean_97 rfl ⟨rfl, rfl⟩ h
      · have h := h.2 hc12
        refine sh_ldc (v := (-1000004)) (pc := 82) dX9_mean_82 kc_X9_33 ?_
        refine sh_goto (tgt := 97) (pc := 84) dX9_mean_84 (by decide) ?_
        exact sh_ret_i (pc := 97) dX9_mean_97 rfl ⟨rfl, rfl⟩ h
    · have h := h.2 hc11
      refine sh_aload_n (pc := 32) dX9_mean_32 rfl ?_
      refine sh_iload (pc := 33) dX9_mean_33 rfl ?_
      refine sh_iconst (v := 0) (pc := 35) dX9_mean_35 rfl ?_
      refine sh_ci (N := mX9_its) (pc := 36) dX9_mean_36 ml_X9_79 h mf_X9_its iv_X9_its ⟨Nat.le_of_ble_eq_true rfl, Nat.le_of_ble_eq_true rfl⟩ rfl rfl (Nat.le_of_ble_eq_true rfl) ok_9_0 rfl (show vwCl[9]? = some (RX9, TX9, 14) from rfl) rfl (fun r18 S17 h => ?_)
      refine sh_iload_n (pc := 39) dX9_mean_39 rfl ?_
      refine sh_icmp_ne (tgt := 71) (pc := 40) dX9_mean_40 (by decide) (fun hc19 => ?_) (fun hc19 => ?_)
      · have h := h.1 hc19
        obtain ⟨x20, hx20⟩ : ∃ y : Int32, y = v8 + 1 := ⟨_, rfl⟩
        have h := h x20 hx20
        refine sh_iinc (v := x20) (ls' := [(5, sh_I x20), (0, sh_R (9, 0, 0)), (1, sh_I a1), (2, sh_Dv v6), (4, sh_I v7)]) (pc := 71) dX9_mean_71 rfl hx20.symm (by decide) rfl ?_
        refine sh_goto (tgt := 20) (pc := 74) dX9_mean_74 (by decide) ?_
        refine sh_pick [1, 2, 3, 4, 0] rfl ?_
        exact ih5 _ _ _ _ h.1 h.2
      · have h := h.2 hc19
        refine sh_aload_n (pc := 43) dX9_mean_43 rfl ?_
        refine sh_iload (pc := 44) dX9_mean_44 rfl ?_
        refine sh_iconst (v := 3) (pc := 46) dX9_mean_46 rfl ?_
        refine sh_ci (N := mX9_its) (pc := 47) dX9_mean_47 ml_X9_79 h mf_X9_its iv_X9_its ⟨Nat.le_of_ble_eq_true rfl, Nat.le_of_ble_eq_true rfl⟩ rfl rfl (Nat.le_of_ble_eq_true rfl) ok_9_0 rfl (show vwCl[9]? = some (RX9, TX9, 14) from rfl) rfl (fun r22 S21 h => ?_)
        refine sh_if_ne (tgt := 71) (pc := 50) dX9_mean_50 (by decide) (fun hc23 => ?_) (fun hc23 => ?_)
        · have h := h.1 hc23
          obtain ⟨x24, hx24⟩ : ∃ y : Int32, y = v8 + 1 := ⟨_, rfl⟩
          have h := h x24 hx24
          refine sh_iinc (v := x24) (ls' := [(5, sh_I x24), (0, sh_R (9, 0, 0)), (1, sh_I a1), (2, sh_Dv v6), (4, sh_I v7)]) (pc := 71) dX9_mean_71 rfl hx24.symm (by decide) rfl ?_
          refine sh_goto (tgt := 20) (pc := 74) dX9_mean_74 (by decide) ?_
          refine sh_pick [1, 2, 3, 4, 0] rfl ?_
          exact ih5 _ _ _ _ h.1 h.2
        · have h := h.2 hc23
          refine sh_dload_n (pc := 53) dX9_mean_53 rfl ?_
          refine sh_aload_n (pc := 54) dX9_mean_54 rfl ?_
          refine sh_iload (pc := 55) dX9_mean_55 rfl ?_
          refine sh_bipush (v := 6) (pc := 57) dX9_mean_57 rfl ?_
          refine sh_ci (N := mX9_its) (pc := 59) dX9_mean_59 ml_X9_79 h mf_X9_its iv_X9_its ⟨Nat.le_of_ble_eq_true rfl, Nat.le_of_ble_eq_true rfl⟩ rfl rfl (Nat.le_of_ble_eq_true rfl) ok_9_0 rfl (show vwCl[9]? = some (RX9, TX9, 14) from rfl) rfl (fun r26 S25 h => ?_)
          refine sh_sf2 (N := mX9_real) (pc := 62) dX9_mean_62 ml_X9_119 h mf_X9_real is_X9_real ⟨Nat.le_of_ble_eq_true rfl, Nat.le_of_ble_eq_true rfl⟩ rfl rfl (Nat.le_of_ble_eq_true rfl) (fun f28 S27 h => ?_)
          obtain ⟨hf29, h⟩ := h
          refine sh_f2d (pc := 65) dX9_mean_65 hf29 ?_
          obtain ⟨hf30, h⟩ := h
          refine sh_dadd (pc := 66) dX9_mean_66 hf30 ?_
          refine sh_topD (fun d31 hd31 => ?_)
          have h := h d31 hd31
          refine sh_dstore_n (ls' := [(2, sh_Dv d31), (0, sh_R (9, 0, 0)), (1, sh_I a1), (4, sh_I v7), (5, sh_I v8)]) (pc := 67) dX9_mean_67 (by decide) rfl ?_
          obtain ⟨x32, hx32⟩ : ∃ y : Int32, y = v7 + 1 := ⟨_, rfl⟩
          have h := h x32 hx32
          refine sh_iinc (v := x32) (ls' := [(4, sh_I x32), (2, sh_Dv d31), (0, sh_R (9, 0, 0)), (1, sh_I a1), (5, sh_I v8)]) (pc := 68) dX9_mean_68 rfl hx32.symm (by decide) rfl ?_
          obtain ⟨x33, hx33⟩ : ∃ y : Int32, y = v8 + 1 := ⟨_, rfl⟩
          have h := h x33 hx33
          refine sh_iinc (v := x33) (ls' := [(5, sh_I x33), (4, sh_I x32), (2, sh_Dv d31), (0, sh_R (9, 0, 0)), (1, sh_I a1)]) (pc := 71) dX9_mean_71 rfl hx33.symm (by decide) rfl ?_
          refine sh_goto (tgt := 20) (pc := 74) dX9_mean_74 (by decide) ?_
          refine sh_pick [3, 4, 2, 1, 0] rfl ?_
          exact ih5 _ _ _ _ h.1 h.2
  · have h := h.2 hc3
    refine sh_ldc (v := (-1000001)) (pc := 9) dX9_mean_9 kc_X9_32 ?_
    exact sh_ret_i (pc := 11) dX9_mean_11 rfl ⟨rfl, rfl⟩ h

set_option maxRecDepth 100000 in
set_option maxHeartbeats 4000000 in
theorem wp_X9_hookAt {g : sh_G} {S : sh_S} {sz : Nat} {Q : Int32 → sh_S → Prop} {a1 : Int32} {a2 : Int32} 
    (h : (sh_Ci g mX9_in [sh_I a1, sh_I 0, sh_I 2] S sz (fun r2 S1 => ((r2 = 0 → Q (-1000001) S1) ∧ (¬ r2 = 0 → (sh_Ci g mX9_in [sh_I a2, sh_I 0, sh_I 3] S1 sz (fun r5 S4 => ((r5 = 0 → Q (-1000001) S4) ∧ (¬ r5 = 0 → (sh_Ci g mX9_onHook [sh_R (9, 0, 0), sh_I ((10 * a1) + a2)] S4 sz (fun r8 S7 => Q r8 S7))))))))))) :
    sh_Ci g mX9_hookAt [sh_R (9, 0, 0), sh_I a1, sh_I a2] S sz Q := by
  refine sh_enter (ls := [(0, sh_R (9, 0, 0)), (1, sh_I a1), (2, sh_I a2)]) (by decide +kernel) (Nat.le_of_ble_eq_true rfl) rfl ?_
  refine sh_iload_n (pc := 0) dX9_hookAt_0 rfl ?_
  refine sh_iconst (v := 0) (pc := 1) dX9_hookAt_1 rfl ?_
  refine sh_iconst (v := 2) (pc := 2) dX9_hookAt_2 rfl ?_
  refine sh_si (N := mX9_in) (pc := 3) dX9_hookAt_3 ml_X9_38 h mf_X9_in is_X9_in ⟨Nat.le_of_ble_eq_true rfl, Nat.le_of_ble_eq_true rfl⟩ rfl rfl (Nat.le_of_ble_eq_true rfl) (fun r2 S1 h => ?_)
  refine sh_if_eq (tgt := 31) (pc := 6) dX9_hookAt_6 (by decide) (fun hc3 => ?_) (fun hc3 => ?_)
  · have h := h.1 hc3
    refine sh_ldc (v := (-1000001)) (pc := 31) dX9_hookAt_31 kc_X9_32 ?_
    exact sh_ret_i (pc := 33) dX9_hookAt_33 rfl ⟨rfl, rfl⟩ h
  · have h := h.2 hc3
    refine sh_iload_n (pc := 9) dX9_hookAt_9 rfl ?_
    refine sh_iconst (v := 0) (pc := 10) dX9_hookAt_10 rfl ?_
    refine sh_iconst (v := 3) (pc := 11) dX9_hookAt_11 rfl ?_
    refine sh_si (N := mX9_in) (pc := 12) dX9_hookAt_12 ml_X9_38 h mf_X9_in is_X9_in ⟨Nat.le_of_ble_eq_true rfl, Nat.le_of_ble_eq_true rfl⟩ rfl rfl (Nat.le_of_ble_eq_true rfl) (fun r5 S4 h => ?_)
    refine sh_if_eq (tgt := 31) (pc := 15) dX9_hookAt_15 (by decide) (fun hc6 => ?_) (fun hc6 => ?_)
    · have h := h.1 hc6
      refine sh_ldc (v := (-1000001)) (pc := 31) dX9_hookAt_31 kc_X9_32 ?_
      exact sh_ret_i (pc := 33) dX9_hookAt_33 rfl ⟨rfl, rfl⟩ h
    · have h := h.2 hc6
      refine sh_aload_n (pc := 18) dX9_hookAt_18 rfl ?_
      refine sh_bipush (v := 10) (pc := 19) dX9_hookAt_19 rfl ?_
      refine sh_iload_n (pc := 21) dX9_hookAt_21 rfl ?_
      refine sh_imul (pc := 22) dX9_hookAt_22 ?_
      refine sh_iload_n (pc := 23) dX9_hookAt_23 rfl ?_
      refine sh_iadd (pc := 24) dX9_hookAt_24 ?_
      refine sh_ci (N := mX9_onHook) (pc := 25) dX9_hookAt_25 ml_X9_129 h mf_X9_onHook iv_X9_onHook ⟨Nat.le_of_ble_eq_true rfl, Nat.le_of_ble_eq_true rfl⟩ rfl rfl (Nat.le_of_ble_eq_true rfl) ok_9_0 rfl (show vwCl[9]? = some (RX9, TX9, 14) from rfl) rfl (fun r8 S7 h => ?_)
      refine sh_goto (tgt := 33) (pc := 28) dX9_hookAt_28 (by decide) ?_
      exact sh_ret_i (pc := 33) dX9_hookAt_33 rfl ⟨rfl, rfl⟩ h

set_option maxRecDepth 100000 in
set_option maxHeartbeats 4000000 in
theorem wp_X9_isCutter {g : sh_G} {S : sh_S} {sz : Nat} {Q : Int32 → sh_S → Prop} {a1 : Int32} 
    (h : (sh_Ci g mX9_its [sh_R (9, 0, 0), sh_I a1, sh_I 0] S sz (fun r2 S1 => ((¬ r2 = 0 → Q 0 S1) ∧ (r2 = 0 → (sh_Ci g mX9_its [sh_R (9, 0, 0), sh_I a1, sh_I 3] S1 sz (fun r5 S4 => ((¬ r5 = 0 → Q 0 S4) ∧ (r5 = 0 → Q 1 S4))))))))) :
    sh_Ci g mX9_isCutter [sh_R (9, 0, 0), sh_I a1] S sz Q := by
  refine sh_enter (ls := [(0, sh_R (9, 0, 0)), (1, sh_I a1)]) (by decide +kernel) (Nat.le_of_ble_eq_true rfl) rfl ?_
  refine sh_aload_n (pc := 0) dX9_isCutter_0 rfl ?_
  refine sh_iload_n (pc := 1) dX9_isCutter_1 rfl ?_
  refine sh_iconst (v := 0) (pc := 2) dX9_isCutter_2 rfl ?_
  refine sh_ci (N := mX9_its) (pc := 3) dX9_isCutter_3 ml_X9_79 h mf_X9_its iv_X9_its ⟨Nat.le_of_ble_eq_true rfl, Nat.le_of_ble_eq_true rfl⟩ rfl rfl (Nat.le_of_ble_eq_true rfl) ok_9_0 rfl (show vwCl[9]? = some (RX9, TX9, 14) from rfl) rfl (fun r2 S1 h => ?_)
  refine sh_if_ne (tgt := 22) (pc := 6) dX9_isCutter_6 (by decide) (fun hc3 => ?_) (fun hc3 => ?_)
  · have h := h.1 hc3
    refine sh_iconst (v := 0) (pc := 22) dX9_isCutter_22 rfl ?_
    exact sh_ret_z (pc := 23) dX9_isCutter_23 rfl rfl ⟨rfl, rfl⟩ h
  · have h := h.2 hc3
    refine sh_aload_n (pc := 9) dX9_isCutter_9 rfl ?_
    refine sh_iload_n (pc := 10) dX9_isCutter_10 rfl ?_
    refine sh_iconst (v := 3) (pc := 11) dX9_isCutter_11 rfl ?_
    refine sh_ci (N := mX9_its) (pc := 12) dX9_isCutter_12 ml_X9_79 h mf_X9_its iv_X9_its ⟨Nat.le_of_ble_eq_true rfl, Nat.le_of_ble_eq_true rfl⟩ rfl rfl (Nat.le_of_ble_eq_true rfl) ok_9_0 rfl (show vwCl[9]? = some (RX9, TX9, 14) from rfl) rfl (fun r5 S4 h => ?_)
    refine sh_if_ne (tgt := 22) (pc := 15) dX9_isCutter_15 (by decide) (fun hc6 => ?_) (fun hc6 => ?_)
    · have h := h.1 hc6
      refine sh_iconst (v := 0) (pc := 22) dX9_isCutter_22 rfl ?_
      exact sh_ret_z (pc := 23) dX9_isCutter_23 rfl rfl ⟨rfl, rfl⟩ h
    · have h := h.2 hc6
      refine sh_iconst (v := 1) (pc := 18) dX9_isCutter_18 rfl ?_
      refine sh_goto (tgt := 23) (pc := 19) dX9_isCutter_19 (by decide) ?_
      exact sh_ret_z (pc := 23) dX9_isCutter_23 rfl rfl ⟨rfl, rfl⟩ h

set_option maxRecDepth 100000 in
set_option maxHeartbeats 4000000 in
theorem wp_X9_isDuller {g : sh_G} {S : sh_S} {sz : Nat} {Q : Int32 → sh_S → Prop} {a1 : Int32} {a2 : Int32} 
    (h : (sh_Ci g mX9_its [sh_R (9, 0, 0), sh_I a1, sh_I 6] S sz (fun r2 S1 => (sh_Cf g mX9_real [sh_I r2] S1 sz (fun f4 S3 => (sh_Ci g mX9_its [sh_R (9, 0, 0), sh_I a2, sh_I 6] S3 sz (fun r6 S5 => (sh_Cf g mX9_real [sh_I r6] S5 sz (fun f8 S7 => (((Op.cmpValue (FP.fcmp f4 f8) .g) < 0 → Q 1 S7) ∧ (¬ (Op.cmpValue (FP.fcmp f4 f8) .g) < 0 → ((¬ (Op.cmpValue (FP.fcmp f4 f8) .l) = 0 → Q 0 S7) ∧ ((Op.cmpValue (FP.fcmp f4 f8) .l) = 0 → ((a2 ≤ a1 → Q 0 S7) ∧ (¬ a2 ≤ a1 → Q 1 S7))))))))))))))) :
    sh_Ci g mX9_isDuller [sh_R (9, 0, 0), sh_I a1, sh_I a2] S sz Q := by
  refine sh_enter (ls := [(0, sh_R (9, 0, 0)), (1, sh_I a1), (2, sh_I a2)]) (by decide +kernel) (Nat.le_of_ble_eq_true rfl) rfl ?_
  refine sh_aload_n (pc := 0) dX9_isDuller_0 rfl ?_
  refine sh_iload_n (pc := 1) dX9_isDuller_1 rfl ?_
  refine sh_bipush (v := 6) (pc := 2) dX9_isDuller_2 rfl ?_
  refine sh_ci (N := mX9_its) (pc := 4) dX9_isDuller_4 ml_X9_79 h mf_X9_its iv_X9_its ⟨Nat.le_of_ble_eq_true rfl, Nat.le_of_ble_eq_true rfl⟩ rfl rfl (Nat.le_of_ble_eq_true rfl) ok_9_0 rfl (show vwCl[9]? = some (RX9, TX9, 14) from rfl) rfl (fun r2 S1 h => ?_)
  refine sh_sf2 (N := mX9_real) (pc := 7) dX9_isDuller_7 ml_X9_119 h mf_X9_real is_X9_real ⟨Nat.le_of_ble_eq_true rfl, Nat.le_of_ble_eq_true rfl⟩ rfl rfl (Nat.le_of_ble_eq_true rfl) (fun f4 S3 h => ?_)
  refine sh_fstore_n (ls' := [(3, sh_F f4), (0, sh_R (9, 0, 0)), (1, sh_I a1), (2, sh_I a2)]) (pc := 10) dX9_isDuller_10 (by decide) rfl ?_
  refine sh_aload_n (pc := 11) dX9_isDuller_11 rfl ?_
  refine sh_iload_n (pc := 12) dX9_isDuller_12 rfl ?_
  refine sh_bipush (v := 6) (pc := 13) dX9_isDuller_13 rfl ?_
  refine sh_ci (N := mX9_its) (pc := 15) dX9_isDuller_15 ml_X9_79 h mf_X9_its iv_X9_its ⟨Nat.le_of_ble_eq_true rfl, Nat.le_of_ble_eq_true rfl⟩ rfl rfl (Nat.le_of_ble_eq_true rfl) ok_9_0 rfl (show vwCl[9]? = some (RX9, TX9, 14) from rfl) rfl (fun r6 S5 h => ?_)
  refine sh_sf2 (N := mX9_real) (pc := 18) dX9_isDuller_18 ml_X9_119 h mf_X9_real is_X9_real ⟨Nat.le_of_ble_eq_true rfl, Nat.le_of_ble_eq_true rfl⟩ rfl rfl (Nat.le_of_ble_eq_true rfl) (fun f8 S7 h => ?_)
  refine sh_fstore (ls' := [(4, sh_F f8), (3, sh_F f4), (0, sh_R (9, 0, 0)), (1, sh_I a1), (2, sh_I a2)]) (pc := 21) dX9_isDuller_21 (by decide) rfl ?_
  refine sh_fload_n (pc := 23) dX9_isDuller_23 rfl ?_
  refine sh_fload (pc := 24) dX9_isDuller_24 rfl ?_
  refine sh_fcmp (pc := 26) dX9_isDuller_26 ?_
  refine sh_if_lt (tgt := 42) (pc := 27) dX9_isDuller_27 (by decide) (fun hc9 => ?_) (fun hc9 => ?_)
  · have h := h.1 hc9
    refine sh_iconst (v := 1) (pc := 42) dX9_isDuller_42 rfl ?_
    refine sh_goto (tgt := 47) (pc := 43) dX9_isDuller_43 (by decide) ?_
    exact sh_ret_z (pc := 47) dX9_isDuller_47 rfl rfl ⟨rfl, rfl⟩ h
  · have h := h.2 hc9
    refine sh_fload_n (pc := 30) dX9_isDuller_30 rfl ?_
    refine sh_fload (pc := 31) dX9_isDuller_31 rfl ?_
    refine sh_fcmp (pc := 33) dX9_isDuller_33 ?_
    refine sh_if_ne (tgt := 46) (pc := 34) dX9_isDuller_34 (by decide) (fun hc10 => ?_) (fun hc10 => ?_)
    · have h := h.1 hc10
      refine sh_iconst (v := 0) (pc := 46) dX9_isDuller_46 rfl ?_
      exact sh_ret_z (pc := 47) dX9_isDuller_47 rfl rfl ⟨rfl, rfl⟩ h
    · have h := h.2 hc10
      refine sh_iload_n (pc := 37) dX9_isDuller_37 rfl ?_
      refine sh_iload_n (pc := 38) dX9_isDuller_38 rfl ?_
      refine sh_icmp_ge (tgt := 46) (pc := 39) dX9_isDuller_39 (by decide) (fun hc11 => ?_) (fun hc11 => ?_)
      · have h := h.1 hc11
        refine sh_iconst (v := 0) (pc := 46) dX9_isDuller_46 rfl ?_
        exact sh_ret_z (pc := 47) dX9_isDuller_47 rfl rfl ⟨rfl, rfl⟩ h
      · have h := h.2 hc11
        refine sh_iconst (v := 1) (pc := 42) dX9_isDuller_42 rfl ?_
        refine sh_goto (tgt := 47) (pc := 43) dX9_isDuller_43 (by decide) ?_
        exact sh_ret_z (pc := 47) dX9_isDuller_47 rfl rfl ⟨rfl, rfl⟩ h

set_option maxRecDepth 100000 in
set_option maxHeartbeats 4000000 in
theorem wp_X9_dullest {g : sh_G} {S : sh_S} {sz : Nat} {Q : Int32 → sh_S → Prop} 
    (h : (∃ (Iv1 : Int32 → Int32 → sh_S → Prop) (mu1 : Int32 → Int32 → sh_S → Nat), Iv1 (-1) 0 S ∧ ∀ (v2 : Int32) (v3 : Int32) (S4 : sh_S), Iv1 v2 v3 S4 → (((S4 (19, 0, 0) 9) ≤ v3 → Q v2 S4) ∧ (¬ (S4 (19, 0, 0) 9) ≤ v3 → (sh_Ci g mX9_isCutter [sh_R (9, 0, 0), sh_I v3] S4 sz (fun r8 S7 => ((r8 = 0 → (∀ x10 : Int32, x10 = v3 + 1 → (Iv1 v2 x10 S7 ∧ mu1 v2 x10 S7 < mu1 v2 v3 S4))) ∧ (¬ r8 = 0 → ((v2 < 0 → (∀ x12 : Int32, x12 = v3 + 1 → (Iv1 v3 x12 S7 ∧ mu1 v3 x12 S7 < mu1 v2 v3 S4))) ∧ (¬ v2 < 0 → (sh_Ci g mX9_isDuller [sh_R (9, 0, 0), sh_I v3, sh_I v2] S7 sz (fun r14 S13 => ((r14 = 0 → (∀ x16 : Int32, x16 = v3 + 1 → (Iv1 v2 x16 S13 ∧ mu1 v2 x16 S13 < mu1 v2 v3 S4))) ∧ (¬ r14 = 0 → (∀ x17 : Int32, x17 = v3 + 1 → (Iv1 v3 x17 S13 ∧ mu1 v3 x17 S13 < mu1 v2 v3 S4)))))))))))))))) :
    sh_Ci g mX9_dullest [sh_R (9, 0, 0)] S sz Q := by
  refine sh_enter (ls := [(0, sh_R (9, 0, 0))]) (by decide +kernel) (Nat.le_of_ble_eq_true rfl) rfl ?_
  refine sh_iconst (v := (-1)) (pc := 0) dX9_dullest_0 rfl ?_
  refine sh_istore_n (ls' := [(1, sh_I (-1)), (0, sh_R (9, 0, 0))]) (pc := 1) dX9_dullest_1 (by decide) rfl ?_
  refine sh_iconst (v := 0) (pc := 2) dX9_dullest_2 rfl ?_
  refine sh_istore_n (ls' := [(2, sh_I 0), (1, sh_I (-1)), (0, sh_R (9, 0, 0))]) (pc := 3) dX9_dullest_3 (by decide) rfl ?_
  obtain ⟨Iv1, mu1, h0, hs1⟩ := h
  refine sh_pick [2, 1, 0] rfl ?_
  refine sh_lp3 Iv1 mu1 (fun v2 v3 S4 => sh_V g mX9_dullest 0 0 4 [(0, sh_R (9, 0, 0)), (1, sh_I v2), (2, sh_I v3)] [] (sh_St S4) sz (sh_ti sz Q)) (fun v2 v3 S4 hI1 ih1 => ?_) _ _ _ h0
  have h := hs1 v2 v3 S4 hI1
  clear h0
  refine sh_iload_n (pc := 4) dX9_dullest_4 rfl ?_
  refine sh_aload_n (pc := 5) dX9_dullest_5 rfl ?_
  refine sh_gf (pc := 6) dX9_dullest_6 fl_X9_7 cf_9 ok_9_0 rfl rfl ?_
  refine sh_bipush (v := 9) (pc := 9) dX9_dullest_9 rfl ?_
  refine sh_ia (pc := 11) dX9_dullest_11 ok_19_0 rfl (vp_in_iff.mpr ⟨by decide, by decide⟩) ?_
  refine sh_icmp_ge (tgt := 48) (pc := 12) dX9_dullest_12 (by decide) (fun hc6 => ?_) (fun hc6 => ?_)
  · have h := h.1 hc6
    refine sh_iload_n (pc := 48) dX9_dullest_48 rfl ?_
    exact sh_ret_i (pc := 49) dX9_dullest_49 rfl ⟨rfl, rfl⟩ h
  · have h := h.2 hc6
    refine sh_aload_n (pc := 15) dX9_dullest_15 rfl ?_
    refine sh_iload_n (pc := 16) dX9_dullest_16 rfl ?_
    refine sh_ci (N := mX9_isCutter) (pc := 17) dX9_dullest_17 ml_X9_170 h mf_X9_isCutter iv_X9_isCutter ⟨Nat.le_of_ble_eq_true rfl, Nat.le_of_ble_eq_true rfl⟩ rfl rfl (Nat.le_of_ble_eq_true rfl) ok_9_0 rfl (show vwCl[9]? = some (RX9, TX9, 14) from rfl) rfl (fun r8 S7 h => ?_)
    refine sh_if_eq (tgt := 40) (pc := 20) dX9_dullest_20 (by decide) (fun hc9 => ?_) (fun hc9 => ?_)
    · have h := h.1 hc9
      refine sh_iload_n (pc := 40) dX9_dullest_40 rfl ?_
      refine sh_istore_n (ls' := [(1, sh_I v2), (0, sh_R (9, 0, 0)), (2, sh_I v3)]) (pc := 41) dX9_dullest_41 (by decide) rfl ?_
      obtain ⟨x10, hx10⟩ : ∃ y : Int32, y = v3 + 1 := ⟨_, rfl⟩
      have h := h x10 hx10
      refine sh_iinc (v := x10) (ls' := [(2, sh_I x10), (1, sh_I v2), (0, sh_R (9, 0, 0))]) (pc := 42) dX9_dullest_42 rfl hx10.symm (by decide) rfl ?_
      refine sh_goto (tgt := 4) (pc := 45) dX9_dullest_45 (by decide) ?_
      refine sh_pick [2, 1, 0] rfl ?_
      exact ih1 _ _ _ h.1 h.2
    · have h := h.2 hc9
      refine sh_iload_n (pc := 23) dX9_dullest_23 rfl ?_
      refine sh_if_lt (tgt := 36) (pc := 24) dX9_dullest_24 (by decide) (fun hc11 => ?_) (fun hc11 => ?_)
      · have h := h.1 hc11
        refine sh_iload_n (pc := 36) dX9_dullest_36 rfl ?_
        refine sh_goto (tgt := 41) (pc := 37) dX9_dullest_37 (by decide) ?_
        refine sh_istore_n (ls' := [(1, sh_I v3), (0, sh_R (9, 0, 0)), (2, sh_I v3)]) (pc := 41) dX9_dullest_41 (by decide) rfl ?_
        obtain ⟨x12, hx12⟩ : ∃ y : Int32, y = v3 + 1 := ⟨_, rfl⟩
        have h := h x12 hx12
        refine sh_iinc (v := x12) (ls' := [(2, sh_I x12), (1, sh_I v3), (0, sh_R (9, 0, 0))]) (pc := 42) dX9_dullest_42 rfl hx12.symm (by decide) rfl ?_
        refine sh_goto (tgt := 4) (pc := 45) dX9_dullest_45 (by decide) ?_
        refine sh_pick [2, 1, 0] rfl ?_
        exact ih1 _ _ _ h.1 h.2
      · have h := h.2 hc11
        refine sh_aload_n (pc := 27) dX9_dullest_27 rfl ?_
        refine sh_iload_n (pc := 28) dX9_dullest_28 rfl ?_
        refine sh_iload_n (pc := 29) dX9_dullest_29 rfl ?_
        refine sh_ci (N := mX9_isDuller) (pc := 30) dX9_dullest_30 ml_X9_173 h mf_X9_isDuller iv_X9_isDuller ⟨Nat.le_of_ble_eq_true rfl, Nat.le_of_ble_eq_true rfl⟩ rfl rfl (Nat.le_of_ble_eq_true rfl) ok_9_0 rfl (show vwCl[9]? = some (RX9, TX9, 14) from rfl) rfl (fun r14 S13 h => ?_)
        refine sh_if_eq (tgt := 40) (pc := 33) dX9_dullest_33 (by decide) (fun hc15 => ?_) (fun hc15 => ?_)
        · have h := h.1 hc15
          refine sh_iload_n (pc := 40) dX9_dullest_40 rfl ?_
          refine sh_istore_n (ls' := [(1, sh_I v2), (0, sh_R (9, 0, 0)), (2, sh_I v3)]) (pc := 41) dX9_dullest_41 (by decide) rfl ?_
          obtain ⟨x16, hx16⟩ : ∃ y : Int32, y = v3 + 1 := ⟨_, rfl⟩
          have h := h x16 hx16
          refine sh_iinc (v := x16) (ls' := [(2, sh_I x16), (1, sh_I v2), (0, sh_R (9, 0, 0))]) (pc := 42) dX9_dullest_42 rfl hx16.symm (by decide) rfl ?_
          refine sh_goto (tgt := 4) (pc := 45) dX9_dullest_45 (by decide) ?_
          refine sh_pick [2, 1, 0] rfl ?_
          exact ih1 _ _ _ h.1 h.2
        · have h := h.2 hc15
          refine sh_iload_n (pc := 36) dX9_dullest_36 rfl ?_
          refine sh_goto (tgt := 41) (pc := 37) dX9_dullest_37 (by decide) ?_
          refine sh_istore_n (ls' := [(1, sh_I v3), (0, sh_R (9, 0, 0)), (2, sh_I v3)]) (pc := 41) dX9_dullest_41 (by decide) rfl ?_
          obtain ⟨x17, hx17⟩ : ∃ y : Int32, y = v3 + 1 := ⟨_, rfl⟩
          have h := h x17 hx17
          refine sh_iinc (v := x17) (ls' := [(2, sh_I x17), (1, sh_I v3), (0, sh_R (9, 0, 0))]) (pc := 42) dX9_dullest_42 rfl hx17.symm (by decide) rfl ?_
          refine sh_goto (tgt := 4) (pc := 45) dX9_dullest_45 (by decide) ?_
          refine sh_pick [2, 1, 0] rfl ?_
          exact ih1 _ _ _ h.1 h.2

set_option maxRecDepth 100000 in
set_option maxHeartbeats 4000000 in
theorem wp_X9_whoSharpens {g : sh_G} {S : sh_S} {sz : Nat} {Q : Int32 → sh_S → Prop} 
    (h : (∃ (Iv1 : Int32 → sh_S → Prop) (mu1 : Int32 → sh_S → Nat), Iv1 0 S ∧ ∀ (v2 : Int32) (S3 : sh_S), Iv1 v2 S3 → (((S3 (19, 0, 0) 11) ≤ v2 → Q (-1) S3) ∧ (¬ (S3 (19, 0, 0) 11) ≤ v2 → (vp_in (12 + v2) 602 ∧ (sh_Ci g mX9_of [sh_R (9, 0, 0), sh_I (S3 (19, 0, 0) ((12 + v2).toNatClampNeg)), sh_I 0] S3 sz (fun r8 S7 => ((¬ r8 = 0 → (∀ x10 : Int32, x10 = v2 + 1 → (Iv1 x10 S7 ∧ mu1 x10 S7 < mu1 v2 S3))) ∧ (r8 = 0 → (vp_in (12 + v2) 602 ∧ Q (S7 (19, 0, 0) ((12 + v2).toNatClampNeg)) S7)))))))))) :
    sh_Ci g mX9_whoSharpens [sh_R (9, 0, 0)] S sz Q := by
  refine sh_enter (ls := [(0, sh_R (9, 0, 0))]) (by decide +kernel) (Nat.le_of_ble_eq_true rfl) rfl ?_
  refine sh_iconst (v := 0) (pc := 0) dX9_whoSharpens_0 rfl ?_
  refine sh_istore_n (ls' := [(1, sh_I 0), (0, sh_R (9, 0, 0))]) (pc := 1) dX9_whoSharpens_1 (by decide) rfl ?_
  obtain ⟨Iv1, mu1, h0, hs1⟩ := h
  refine sh_pick [1, 0] rfl ?_
  refine sh_lp2 Iv1 mu1 (fun v2 S3 => sh_V g mX9_whoSharpens 0 0 2 [(0, sh_R (9, 0, 0)), (1, sh_I v2)] [] (sh_St S3) sz (sh_ti sz Q)) (fun v2 S3 hI1 ih1 => ?_) _ _ h0
  have h := hs1 v2 S3 hI1
  clear h0
  refine sh_iload_n (pc := 2) dX9_whoSharpens_2 rfl ?_
  refine sh_aload_n (pc := 3) dX9_whoSharpens_3 rfl ?_
  refine sh_gf (pc := 4) dX9_whoSharpens_4 fl_X9_7 cf_9 ok_9_0 rfl rfl ?_
  refine sh_bipush (v := 11) (pc := 7) dX9_whoSharpens_7 rfl ?_
  refine sh_ia (pc := 9) dX9_whoSharpens_9 ok_19_0 rfl (vp_in_iff.mpr ⟨by decide, by decide⟩) ?_
  refine sh_icmp_ge (tgt := 46) (pc := 10) dX9_whoSharpens_10 (by decide) (fun hc5 => ?_) (fun hc5 => ?_)
  · have h := h.1 hc5
    refine sh_iconst (v := (-1)) (pc := 46) dX9_whoSharpens_46 rfl ?_
    exact sh_ret_i (pc := 47) dX9_whoSharpens_47 rfl ⟨rfl, rfl⟩ h
  · have h := h.2 hc5
    refine sh_aload_n (pc := 13) dX9_whoSharpens_13 rfl ?_
    refine sh_aload_n (pc := 14) dX9_whoSharpens_14 rfl ?_
    refine sh_gf (pc := 15) dX9_whoSharpens_15 fl_X9_7 cf_9 ok_9_0 rfl rfl ?_
    refine sh_bipush (v := 12) (pc := 18) dX9_whoSharpens_18 rfl ?_
    refine sh_iload_n (pc := 20) dX9_whoSharpens_20 rfl ?_
    refine sh_iadd (pc := 21) dX9_whoSharpens_21 ?_
    obtain ⟨hi6, h⟩ := h
    refine sh_ia (pc := 22) dX9_whoSharpens_22 ok_19_0 rfl hi6 ?_
    refine sh_iconst (v := 0) (pc := 23) dX9_whoSharpens_23 rfl ?_
    refine sh_ci (N := mX9_of) (pc := 24) dX9_whoSharpens_24 ml_X9_46 h mf_X9_of iv_X9_of ⟨Nat.le_of_ble_eq_true rfl, Nat.le_of_ble_eq_true rfl⟩ rfl rfl (Nat.le_of_ble_eq_true rfl) ok_9_0 rfl (show vwCl[9]? = some (RX9, TX9, 14) from rfl) rfl (fun r8 S7 h => ?_)
    refine sh_if_ne (tgt := 40) (pc := 27) dX9_whoSharpens_27 (by decide) (fun hc9 => ?_) (fun hc9 => ?_)
    · have h := h.1 hc9
      obtain ⟨x10, hx10⟩ : ∃ y : Int32, y = v2 + 1 := ⟨_, rfl⟩
      have h := h x10 hx10
      refine sh_iinc (v := x10) (ls' := [(1, sh_I x10), (0, sh_R (9, 0, 0))]) (pc := 40) dX9_whoSharpens_40 rfl hx10.symm (by decide) rfl ?_
      refine sh_goto (tgt := 2) (pc := 43) dX9_whoSharpens_43 (by decide) ?_
      refine sh_pick [1, 0] rfl ?_
      exact ih1 _ _ h.1 h.2
    · have h := h.2 hc9
      refine sh_aload_n (pc := 30) dX9_whoSharpens_30 rfl ?_
      refine sh_gf (pc := 31) dX9_whoSharpens_31 fl_X9_7 cf_9 ok_9_0 rfl rfl ?_
      refine sh_bipush (v := 12) (pc := 34) dX9_whoSharpens_34 rfl ?_
      refine sh_iload_n (pc := 36) dX9_whoSharpens_36 rfl ?_
      refine sh_iadd (pc := 37) dX9_whoSharpens_37 ?_
      obtain ⟨hi11, h⟩ := h
      refine sh_ia (pc := 38) dX9_whoSharpens_38 ok_19_0 rfl hi11 ?_
      exact sh_ret_i (pc := 39) dX9_whoSharpens_39 rfl ⟨rfl, rfl⟩ h

set_option maxRecDepth 100000 in
set_option maxHeartbeats 4000000 in
theorem wp_X9_isDull {g : sh_G} {S : sh_S} {sz : Nat} {Q : Int32 → sh_S → Prop} {a1 : Int32} 
    (h : ((a1 < 0 → Q 0 S) ∧ (¬ a1 < 0 → (sh_Ci g mX9_its [sh_R (9, 0, 0), sh_I a1, sh_I 6] S sz (fun r3 S2 => (sh_Cf g mX9_real [sh_I r3] S2 sz (fun f5 S4 => (sh_Ci g mX9_thousandths [sh_F f5] S4 sz (fun r7 S6 => (((S6 (19, 0, 0) 4) ≤ r7 → Q 0 S6) ∧ (¬ (S6 (19, 0, 0) 4) ≤ r7 → Q 1 S6))))))))))) :
    sh_Ci g mX9_isDull [sh_R (9, 0, 0), sh_I a1] S sz Q := by
  refine sh_enter (ls := [(0, sh_R (9, 0, 0)), (1, sh_I a1)]) (by decide +kernel) (Nat.le_of_ble_eq_true rfl) rfl ?_
  refine sh_iload_n (pc := 0) dX9_isDull_0 rfl ?_
  refine sh_if_lt (tgt := 30) (pc := 1) dX9_isDull_1 (by decide) (fun hc1 => ?_) (fun hc1 => ?_)
  · have h := h.1 hc1
    refine sh_iconst (v := 0) (pc := 30) dX9_isDull_30 rfl ?_
    exact sh_ret_z (pc := 31) dX9_isDull_31 rfl rfl ⟨rfl, rfl⟩ h
  · have h := h.2 hc1
    refine sh_aload_n (pc := 4) dX9_isDull_4 rfl ?_
    refine sh_iload_n (pc := 5) dX9_isDull_5 rfl ?_
    refine sh_bipush (v := 6) (pc := 6) dX9_isDull_6 rfl ?_
    refine sh_ci (N := mX9_its) (pc := 8) dX9_isDull_8 ml_X9_79 h mf_X9_its iv_X9_its ⟨Nat.le_of_ble_eq_true rfl, Nat.le_of_ble_eq_true rfl⟩ rfl rfl (Nat.le_of_ble_eq_true rfl) ok_9_0 rfl (show vwCl[9]? = some (RX9, TX9, 14) from rfl) rfl (fun r3 S2 h => ?_)
    refine sh_sf2 (N := mX9_real) (pc := 11) dX9_isDull_11 ml_X9_119 h mf_X9_real is_X9_real ⟨Nat.le_of_ble_eq_true rfl, Nat.le_of_ble_eq_true rfl⟩ rfl rfl (Nat.le_of_ble_eq_true rfl) (fun f5 S4 h => ?_)
    refine sh_si (N := mX9_thousandths) (pc := 14) dX9_isDull_14 ml_X9_165 h mf_X9_thousandths is_X9_thousandths ⟨Nat.le_of_ble_eq_true rfl, Nat.le_of_ble_eq_true rfl⟩ rfl rfl (Nat.le_of_ble_eq_true rfl) (fun r7 S6 h => ?_)
    refine sh_aload_n (pc := 17) dX9_isDull_17 rfl ?_
    refine sh_gf (pc := 18) dX9_isDull_18 fl_X9_7 cf_9 ok_9_0 rfl rfl ?_
    refine sh_iconst (v := 4) (pc := 21) dX9_isDull_21 rfl ?_
    refine sh_ia (pc := 22) dX9_isDull_22 ok_19_0 rfl (vp_in_iff.mpr ⟨by decide, by decide⟩) ?_
    refine sh_icmp_ge (tgt := 30) (pc := 23) dX9_isDull_23 (by decide) (fun hc9 => ?_) (fun hc9 => ?_)
    · have h := h.1 hc9
      refine sh_iconst (v := 0) (pc := 30) dX9_isDull_30 rfl ?_
      exact sh_ret_z (pc := 31) dX9_isDull_31 rfl rfl ⟨rfl, rfl⟩ h
    · have h := h.2 hc9
      refine sh_iconst (v := 1) (pc := 26) dX9_isDull_26 rfl ?_
      refine sh_goto (tgt := 31) (pc := 27) dX9_isDull_27 (by decide) ?_
      exact sh_ret_z (pc := 31) dX9_isDull_31 rfl rfl ⟨rfl, rfl⟩ h

set_option maxRecDepth 100000 in
set_option maxHeartbeats 4000000 in
theorem wp_X9_sharpens {g : sh_G} {S : sh_S} {sz : Nat} {Q : sh_S → Prop} {a1 : Int32} {a2 : Int32} 
    (h : (sh_Ci g mX9_its [sh_R (9, 0, 0), sh_I a2, sh_I 6] S sz (fun r2 S1 => (sh_Cf g mX9_real [sh_I r2] S1 sz (fun f4 S3 => (vf_n32 (FP.fsub FP.fconst1 f4) ∧ (∀ f6 : UInt32, f6 = (FP.fsub FP.fconst1 f4) → (vf_n32 (FP.fmul f6 (FP.i2f (S3 (19, 0, 0) 5))) ∧ (∀ f9 : UInt32, f9 = (FP.fmul f6 (FP.i2f (S3 (19, 0, 0) 5))) → (vf_n32 (FP.fdiv f9 1120403456) ∧ (∀ f11 : UInt32, f11 = (FP.fdiv f9 1120403456) → (vf_n32 (FP.fadd f4 f11) ∧ (∀ f13 : UInt32, f13 = (FP.fadd f4 f11) → (sh_Ci g mX9_bitsOf [sh_F f13] S3 sz (fun r15 S14 => (sh_Cu g mX9_lay [sh_R (9, 0, 0), sh_I a2, sh_I 6, sh_I r15] S14 sz (fun S16 => (sh_Cu g mX9_gains [sh_R (9, 0, 0), sh_I a1, sh_I (S16 (19, 0, 0) 3), sh_I 1] S16 sz (fun S18 => (sh_Cu g mX9_outOfTurns [sh_R (9, 0, 0), sh_I a1] S18 sz (fun S19 => (vp_in (12 + (S19 (19, 0, 0) 11)) 602 ∧ (∀ S22 : sh_S, S22 = sh_sr S19 (19, 0, 0) (upd (S19 (19, 0, 0)) ((12 + (S19 (19, 0, 0) 11)).toNatClampNeg) a1) → (∀ S25 : sh_S, S25 = sh_sr S22 (19, 0, 0) (upd (S22 (19, 0, 0)) 11 ((S22 (19, 0, 0) 11) + 1)) → Q S25)))))))))))))))))))))))) :
    sh_Cu g mX9_sharpens [sh_R (9, 0, 0), sh_I a1, sh_I a2] S sz Q := by
  refine sh_enter (ls := [(0, sh_R (9, 0, 0)), (1, sh_I a1), (2, sh_I a2)]) (by decide +kernel) (Nat.le_of_ble_eq_true rfl) rfl ?_
  refine sh_aload_n (pc := 0) dX9_sharpens_0 rfl ?_
  refine sh_iload_n (pc := 1) dX9_sharpens_1 rfl ?_
  refine sh_bipush (v := 6) (pc := 2) dX9_sharpens_2 rfl ?_
  refine sh_ci (N := mX9_its) (pc := 4) dX9_sharpens_4 ml_X9_79 h mf_X9_its iv_X9_its ⟨Nat.le_of_ble_eq_true rfl, Nat.le_of_ble_eq_true rfl⟩ rfl rfl (Nat.le_of_ble_eq_true rfl) ok_9_0 rfl (show vwCl[9]? = some (RX9, TX9, 14) from rfl) rfl (fun r2 S1 h => ?_)
  refine sh_sf2 (N := mX9_real) (pc := 7) dX9_sharpens_7 ml_X9_119 h mf_X9_real is_X9_real ⟨Nat.le_of_ble_eq_true rfl, Nat.le_of_ble_eq_true rfl⟩ rfl rfl (Nat.le_of_ble_eq_true rfl) (fun f4 S3 h => ?_)
  refine sh_fstore_n (ls' := [(3, sh_F f4), (0, sh_R (9, 0, 0)), (1, sh_I a1), (2, sh_I a2)]) (pc := 10) dX9_sharpens_10 (by decide) rfl ?_
  refine sh_aload_n (pc := 11) dX9_sharpens_11 rfl ?_
  refine sh_iload_n (pc := 12) dX9_sharpens_12 rfl ?_
  refine sh_bipush (v := 6) (pc := 13) dX9_sharpens_13 rfl ?_
  refine sh_fload_n (pc := 15) dX9_sharpens_15 rfl ?_
  refine sh_fconst1 (pc := 16) dX9_sharpens_16 ?_
  refine sh_fload_n (pc := 17) dX9_sharpens_17 rfl ?_
  obtain ⟨hf5, h⟩ := h
  refine sh_fsub (pc := 18) dX9_sharpens_18 hf5 ?_
  refine sh_topF (fun f6 hf6 => ?_)
  have h := h f6 hf6
  refine sh_aload_n (pc := 19) dX9_sharpens_19 rfl ?_
  refine sh_gf (pc := 20) dX9_sharpens_20 fl_X9_7 cf_9 ok_9_0 rfl rfl ?_
  refine sh_iconst (v := 5) (pc := 23) dX9_sharpens_23 rfl ?_
  refine sh_ia (pc := 24) dX9_sharpens_24 ok_19_0 rfl (vp_in_iff.mpr ⟨by decide, by decide⟩) ?_
  refine sh_i2f (pc := 25) dX9_sharpens_25 ?_
  obtain ⟨hf8, h⟩ := h
  refine sh_fmul (pc := 26) dX9_sharpens_26 hf8 ?_
  refine sh_topF (fun f9 hf9 => ?_)
  have h := h f9 hf9
  refine sh_ldcf (v := 1120403456) (pc := 27) dX9_sharpens_27 kc_X9_122 ?_
  obtain ⟨hf10, h⟩ := h
  refine sh_fdiv (pc := 29) dX9_sharpens_29 hf10 ?_
  refine sh_topF (fun f11 hf11 => ?_)
  have h := h f11 hf11
  obtain ⟨hf12, h⟩ := h
  refine sh_fadd (pc := 30) dX9_sharpens_30 hf12 ?_
  refine sh_topF (fun f13 hf13 => ?_)
  have h := h f13 hf13
  refine sh_si (N := mX9_bitsOf) (pc := 31) dX9_sharpens_31 ml_X9_126 h mf_X9_bitsOf is_X9_bitsOf ⟨Nat.le_of_ble_eq_true rfl, Nat.le_of_ble_eq_true rfl⟩ rfl rfl (Nat.le_of_ble_eq_true rfl) (fun r15 S14 h => ?_)
  refine sh_cu (N := mX9_lay) (pc := 34) dX9_sharpens_34 ml_X9_123 h mf_X9_lay iv_X9_lay ⟨Nat.le_of_ble_eq_true rfl, Nat.le_of_ble_eq_true rfl⟩ rfl rfl (Nat.le_of_ble_eq_true rfl) ok_9_0 rfl (show vwCl[9]? = some (RX9, TX9, 14) from rfl) rfl (fun S16 h => ?_)
  refine sh_aload_n (pc := 37) dX9_sharpens_37 rfl ?_
  refine sh_iload_n (pc := 38) dX9_sharpens_38 rfl ?_
  refine sh_aload_n (pc := 39) dX9_sharpens_39 rfl ?_
  refine sh_gf (pc := 40) dX9_sharpens_40 fl_X9_7 cf_9 ok_9_0 rfl rfl ?_
  refine sh_iconst (v := 3) (pc := 43) dX9_sharpens_43 rfl ?_
  refine sh_ia (pc := 44) dX9_sharpens_44 ok_19_0 rfl (vp_in_iff.mpr ⟨by decide, by decide⟩) ?_
  refine sh_iconst (v := 1) (pc := 45) dX9_sharpens_45 rfl ?_
  refine sh_cu (N := mX9_gains) (pc := 46) dX9_sharpens_46 ml_X9_58 h mf_X9_gains iv_X9_gains ⟨Nat.le_of_ble_eq_true rfl, Nat.le_of_ble_eq_true rfl⟩ rfl rfl (Nat.le_of_ble_eq_true rfl) ok_9_0 rfl (show vwCl[9]? = some (RX9, TX9, 14) from rfl) rfl (fun S18 h => ?_)
  refine sh_aload_n (pc := 49) dX9_sharpens_49 rfl ?_
  refine sh_iload_n (pc := 50) dX9_sharpens_50 rfl ?_
  refine sh_cu (N := mX9_outOfTurns) (pc := 51) dX9_sharpens_51 ml_X9_98 h mf_X9_outOfTurns iv_X9_outOfTurns ⟨Nat.le_of_ble_eq_true rfl, Nat.le_of_ble_eq_true rfl⟩ rfl rfl (Nat.le_of_ble_eq_true rfl) ok_9_0 rfl (show vwCl[9]? = some (RX9, TX9, 14) from rfl) rfl (fun S19 h => ?_)
  refine sh_aload_n (pc := 54) dX9_sharpens_54 rfl ?_
  refine sh_gf (pc := 55) dX9_sharpens_55 fl_X9_7 cf_9 ok_9_0 rfl rfl ?_
  refine sh_bipush (v := 12) (pc := 58) dX9_sharpens_58 rfl ?_
  refine sh_aload_n (pc := 60) dX9_sharpens_60 rfl ?_
  refine sh_gf (pc := 61) dX9_sharpens_61 fl_X9_7 cf_9 ok_9_0 rfl rfl ?_
  refine sh_bipush (v := 11) (pc := 64) dX9_sharpens_64 rfl ?_
  refine sh_ia (pc := 66) dX9_sharpens_66 ok_19_0 rfl (vp_in_iff.mpr ⟨by decide, by decide⟩) ?_
  refine sh_iadd (pc := 67) dX9_sharpens_67 ?_
  refine sh_iload_n (pc := 68) dX9_sharpens_68 rfl ?_
  obtain ⟨hi21, h⟩ := h
  refine sh_is (pc := 69) dX9_sharpens_69 ok_19_0 rfl hi21 rfl ?_
  refine sh_topS (fun S22 hS22 => ?_)
  have h := h S22 hS22
  refine sh_aload_n (pc := 70) dX9_sharpens_70 rfl ?_
  refine sh_gf (pc := 71) dX9_sharpens_71 fl_X9_7 cf_9 ok_9_0 rfl rfl ?_
  refine sh_bipush (v := 11) (pc := 74) dX9_sharpens_74 rfl ?_
  refine sh_dup2 (pc := 76) dX9_sharpens_76 rfl rfl ?_
  refine sh_ia (pc := 77) dX9_sharpens_77 ok_19_0 rfl (vp_in_iff.mpr ⟨by decide, by decide⟩) ?_
  refine sh_iconst (v := 1) (pc := 78) dX9_sharpens_78 rfl ?_
  refine sh_iadd (pc := 79) dX9_sharpens_79 ?_
  refine sh_is (pc := 80) dX9_sharpens_80 ok_19_0 rfl (vp_in_iff.mpr ⟨by decide, by decide⟩) rfl ?_
  refine sh_topS (fun S25 hS25 => ?_)
  have h := h S25 hS25
  exact sh_ret_u (pc := 81) dX9_sharpens_81 rfl ⟨rfl, rfl⟩ h

set_option maxRecDepth 100000 in
set_option maxHeartbeats 4000000 in
theorem wp_X9_sharpen {g : sh_G} {S : sh_S} {sz : Nat} {Q : Int32 → sh_S → Prop} 
    (h : (sh_Ci g mX9_whoSharpens [sh_R (9, 0, 0)] S sz (fun r2 S1 => (sh_Ci g mX9_dullest [sh_R (9, 0, 0)] S1 sz (fun r4 S3 => ((0 ≤ r2 → (sh_Ci g mX9_isDull [sh_R (9, 0, 0), sh_I r4] S3 sz (fun r7 S6 => ((¬ r7 = 0 → (sh_Cu g mX9_hold [sh_R (9, 0, 0)] S6 sz (fun S9 => (sh_Cu g mX9_sharpens [sh_R (9, 0, 0), sh_I r2, sh_I r4] S9 sz (fun S10 => (sh_Ci g mX9_ends [sh_R (9, 0, 0), sh_I r4] S10 sz (fun r12 S11 => Q r12 S11))))))) ∧ (r7 = 0 → Q (-1000004) S6))))) ∧ (¬ 0 ≤ r2 → Q (-1000002) S3))))))) :
    sh_Ci g mX9_sharpen [sh_R (9, 0, 0)] S sz Q := by
  refine sh_enter (ls := [(0, sh_R (9, 0, 0))]) (by decide +kernel) (Nat.le_of_ble_eq_true rfl) rfl ?_
  refine sh_aload_n (pc := 0) dX9_sharpen_0 rfl ?_
  refine sh_ci (N := mX9_whoSharpens) (pc := 1) dX9_sharpen_1 ml_X9_176 h mf_X9_whoSharpens iv_X9_whoSharpens ⟨Nat.le_of_ble_eq_true rfl, Nat.le_of_ble_eq_true rfl⟩ rfl rfl (Nat.le_of_ble_eq_true rfl) ok_9_0 rfl (show vwCl[9]? = some (RX9, TX9, 14) from rfl) rfl (fun r2 S1 h => ?_)
  refine sh_istore_n (ls' := [(1, sh_I r2), (0, sh_R (9, 0, 0))]) (pc := 4) dX9_sharpen_4 (by decide) rfl ?_
  refine sh_aload_n (pc := 5) dX9_sharpen_5 rfl ?_
  refine sh_ci (N := mX9_dullest) (pc := 6) dX9_sharpen_6 ml_X9_180 h mf_X9_dullest iv_X9_dullest ⟨Nat.le_of_ble_eq_true rfl, Nat.le_of_ble_eq_true rfl⟩ rfl rfl (Nat.le_of_ble_eq_true rfl) ok_9_0 rfl (show vwCl[9]? = some (RX9, TX9, 14) from rfl) rfl (fun r4 S3 h => ?_)
  refine sh_istore_n (ls' := [(2, sh_I r4), (1, sh_I r2), (0, sh_R (9, 0, 0))]) (pc := 9) dX9_sharpen_9 (by decide) rfl ?_
  refine sh_iload_n (pc := 10) dX9_sharpen_10 rfl ?_
  refine sh_if_ge (tgt := 17) (pc := 11) dX9_sharpen_11 (by decide) (fun hc5 => ?_) (fun hc5 => ?_)
  · have h := h.1 hc5
    refine sh_aload_n (pc := 17) dX9_sharpen_17 rfl ?_
    refine sh_iload_n (pc := 18) dX9_sharpen_18 rfl ?_
    refine sh_ci (N := mX9_isDull) (pc := 19) dX9_sharpen_19 ml_X9_183 h mf_X9_isDull iv_X9_isDull ⟨Nat.le_of_ble_eq_true rfl, Nat.le_of_ble_eq_true rfl⟩ rfl rfl (Nat.le_of_ble_eq_true rfl) ok_9_0 rfl (show vwCl[9]? = some (RX9, TX9, 14) from rfl) rfl (fun r7 S6 h => ?_)
    refine sh_if_ne (tgt := 28) (pc := 22) dX9_sharpen_22 (by decide) (fun hc8 => ?_) (fun hc8 => ?_)
    · have h := h.1 hc8
      refine sh_aload_n (pc := 28) dX9_sharpen_28 rfl ?_
      refine sh_cu (N := mX9_hold) (pc := 29) dX9_sharpen_29 ml_X9_67 h mf_X9_hold iv_X9_hold ⟨Nat.le_of_ble_eq_true rfl, Nat.le_of_ble_eq_true rfl⟩ rfl rfl (Nat.le_of_ble_eq_true rfl) ok_9_0 rfl (show vwCl[9]? = some (RX9, TX9, 14) from rfl) rfl (fun S9 h => ?_)
      refine sh_aload_n (pc := 32) dX9_sharpen_32 rfl ?_
      refine sh_iload_n (pc := 33) dX9_sharpen_33 rfl ?_
      refine sh_iload_n (pc := 34) dX9_sharpen_34 rfl ?_
      refine sh_cu (N := mX9_sharpens) (pc := 35) dX9_sharpen_35 ml_X9_186 h mf_X9_sharpens iv_X9_sharpens ⟨Nat.le_of_ble_eq_true rfl, Nat.le_of_ble_eq_true rfl⟩ rfl rfl (Nat.le_of_ble_eq_true rfl) ok_9_0 rfl (show vwCl[9]? = some (RX9, TX9, 14) from rfl) rfl (fun S10 h => ?_)
      refine sh_aload_n (pc := 38) dX9_sharpen_38 rfl ?_
      refine sh_iload_n (pc := 39) dX9_sharpen_39 rfl ?_
      refine sh_ci (N := mX9_ends) (pc := 40) dX9_sharpen_40 ml_X9_70 h mf_X9_ends iv_X9_ends ⟨Nat.le_of_ble_eq_true rfl, Nat.le_of_ble_eq_true rfl⟩ rfl rfl (Nat.le_of_ble_eq_true rfl) ok_9_0 rfl (show vwCl[9]? = some (RX9, TX9, 14) from rfl) rfl (fun r12 S11 h => ?_)
      exact sh_ret_i (pc := 43) dX9_sharpen_43 rfl ⟨rfl, rfl⟩ h
    · have h := h.2 hc8
      refine sh_ldc (v := (-1000004)) (pc := 25) dX9_sharpen_25 kc_X9_33 ?_
      exact sh_ret_i (pc := 27) dX9_sharpen_27 rfl ⟨rfl, rfl⟩ h
  · have h := h.2 hc5
    refine sh_ldc (v := (-1000002)) (pc := 14) dX9_sharpen_14 kc_X9_78 ?_
    exact sh_ret_i (pc := 16) dX9_sharpen_16 rfl ⟨rfl, rfl⟩ h

set_option maxRecDepth 100000 in
set_option maxHeartbeats 4000000 in
theorem wp_X9_swap {g : sh_G} {S : sh_S} {sz : Nat} {Q : Int32 → sh_S → Prop} {a1 : Int32} {a2 : Int32} 
    (h : (sh_Ci g mX9_isMember [sh_R (9, 0, 0), sh_I a1] S sz (fun r2 S1 => ((r2 = 0 → Q (-1000001) S1) ∧ (¬ r2 = 0 → (sh_Ci g mX9_isMember [sh_R (9, 0, 0), sh_I a2] S1 sz (fun r5 S4 => ((r5 = 0 → Q (-1000001) S4) ∧ (¬ r5 = 0 → ((¬ a1 = a2 → (sh_Ci g mX9_of [sh_R (9, 0, 0), sh_I a1, sh_I 0] S4 sz (fun r9 S8 => ((r9 = 2 → Q (-1000002) S8) ∧ (¬ r9 = 2 → (sh_Ci g mX9_of [sh_R (9, 0, 0), sh_I a2, sh_I 0] S8 sz (fun r12 S11 => ((¬ r12 = 2 → (sh_Cu g mX9_hold [sh_R (9, 0, 0)] S11 sz (fun S14 => (sh_Ci g mX9_turnOf [sh_R (9, 0, 0), sh_I a1] S14 sz (fun r16 S15 => (sh_Ci g mX9_turnOf [sh_R (9, 0, 0), sh_I a2] S15 sz (fun r18 S17 => (vp_in (12 + r16) 602 ∧ (∀ S20 : sh_S, S20 = sh_sr S17 (19, 0, 0) (upd (S17 (19, 0, 0)) ((12 + r16).toNatClampNeg) a2) → (vp_in (12 + r18) 602 ∧ (∀ S22 : sh_S, S22 = sh_sr S20 (19, 0, 0) (upd (S20 (19, 0, 0)) ((12 + r18).toNatClampNeg) a1) → (sh_Ci g mX9_ends [sh_R (9, 0, 0), sh_I r18] S22 sz (fun r24 S23 => Q r24 S23))))))))))))) ∧ (r12 = 2 → Q (-1000002) S11))))))))) ∧ (a1 = a2 → Q (-1000001) S4))))))))))) :
    sh_Ci g mX9_swap [sh_R (9, 0, 0), sh_I a1, sh_I a2] S sz Q := by
  refine sh_enter (ls := [(0, sh_R (9, 0, 0)), (1, sh_I a1), (2, sh_I a2)]) (by decide +kernel) (Nat.le_of_ble_eq_true rfl) rfl ?_
  refine sh_aload_n (pc := 0) dX9_swap_0 rfl ?_
  refine sh_iload_n (pc := 1) dX9_swap_1 rfl ?_
  refine sh_ci (N := mX9_isMember) (pc := 2) dX9_swap_2 ml_X9_74 h mf_X9_isMember iv_X9_isMember ⟨Nat.le_of_ble_eq_true rfl, Nat.le_of_ble_eq_true rfl⟩ rfl rfl (Nat.le_of_ble_eq_true rfl) ok_9_0 rfl (show vwCl[9]? = some (RX9, TX9, 14) from rfl) rfl (fun r2 S1 h => ?_)
  refine sh_if_eq (tgt := 21) (pc := 5) dX9_swap_5 (by decide) (fun hc3 => ?_) (fun hc3 => ?_)
  · have h := h.1 hc3
    refine sh_ldc (v := (-1000001)) (pc := 21) dX9_swap_21 kc_X9_32 ?_
    exact sh_ret_i (pc := 23) dX9_swap_23 rfl ⟨rfl, rfl⟩ h
  · have h := h.2 hc3
    refine sh_aload_n (pc := 8) dX9_swap_8 rfl ?_
    refine sh_iload_n (pc := 9) dX9_swap_9 rfl ?_
    refine sh_ci (N := mX9_isMember) (pc := 10) dX9_swap_10 ml_X9_74 h mf_X9_isMember iv_X9_isMember ⟨Nat.le_of_ble_eq_true rfl, Nat.le_of_ble_eq_true rfl⟩ rfl rfl (Nat.le_of_ble_eq_true rfl) ok_9_0 rfl (show vwCl[9]? = some (RX9, TX9, 14) from rfl) rfl (fun r5 S4 h => ?_)
    refine sh_if_eq (tgt := 21) (pc := 13) dX9_swap_13 (by decide) (fun hc6 => ?_) (fun hc6 => ?_)
    · have h := h.1 hc6
      refine sh_ldc (v := (-1000001)) (pc := 21) dX9_swap_21 kc_X9_32 ?_
      exact sh_ret_i (pc := 23) dX9_swap_23 rfl ⟨rfl, rfl⟩ h
    · have h := h.2 hc6
      refine sh_iload_n (pc := 16) dX9_swap_16 rfl ?_
      refine sh_iload_n (pc := 17) dX9_swap_17 rfl ?_
      refine sh_icmp_ne (tgt := 24) (pc := 18) dX9_swap_18 (by decide) (fun hc7 => ?_) (fun hc7 => ?_)
      · have h := h.1 hc7
        refine sh_aload_n (pc := 24) dX9_swap_24 rfl ?_
        refine sh_iload_n (pc := 25) dX9_swap_25 rfl ?_
        refine sh_iconst (v := 0) (pc := 26) dX9_swap_26 rfl ?_
        refine sh_ci (N := mX9_of) (pc := 27) dX9_swap_27 ml_X9_46 h mf_X9_of iv_X9_of ⟨Nat.le_of_ble_eq_true rfl, Nat.le_of_ble_eq_true rfl⟩ rfl rfl (Nat.le_of_ble_eq_true rfl) ok_9_0 rfl (show vwCl[9]? = some (RX9, TX9, 14) from rfl) rfl (fun r9 S8 h => ?_)
        refine sh_iconst (v := 2) (pc := 30) dX9_swap_30 rfl ?_
        refine sh_icmp_eq (tgt := 44) (pc := 31) dX9_swap_31 (by decide) (fun hc10 => ?_) (fun hc10 => ?_)
        · have h := h.1 hc10
          refine sh_ldc (v := (-1000002)) (pc := 44) dX9_swap_44 kc_X9_78 ?_
          exact sh_ret_i (pc := 46) dX9_swap_46 rfl ⟨rfl, rfl⟩ h
        · have h := h.2 hc10
          refine sh_aload_n (pc := 34) dX9_swap_34 rfl ?_
          refine sh_iload_n (pc := 35) dX9_swap_35 rfl ?_
          refine sh_iconst (v := 0) (pc := 36) dX9_swap_36 rfl ?_
          refine sh_ci (N := mX9_of) (pc := 37) dX9_swap_37 ml_X9_46 h mf_X9_of iv_X9_of ⟨Nat.le_of_ble_eq_true rfl, Nat.le_of_ble_eq_true rfl⟩ rfl rfl (Nat.le_of_ble_eq_true rfl) ok_9_0 rfl (show vwCl[9]? = some (RX9, TX9, 14) from rfl) rfl (fun r12 S11 h => ?_)
          refine sh_iconst (v := 2) (pc := 40) dX9_swap_40 rfl ?_
          refine sh_icmp_ne (tgt := 47) (pc := 41) dX9_swap_41 (by decide) (fun hc13 => ?_) (fun hc13 => ?_)
          · have h := h.1 hc13
            refine sh_aload_n (pc := 47) dX9_swap_47 rfl ?_
            refine sh_cu (N := mX9_hold) (pc := 48) dX9_swap_48 ml_X9_67 h mf_X9_hold iv_X9_hold ⟨Nat.le_of_ble_eq_true rfl, Nat.le_of_ble_eq_true rfl⟩ rfl rfl (Nat.le_of_ble_eq_true rfl) ok_9_0 rfl (show vwCl[9]? = some (RX9, TX9, 14) from rfl) rfl (fun S14 h => ?_)
            refine sh_aload_n (pc := 51) dX9_swap_51 rfl ?_
            refine sh_iload_n (pc := 52) dX9_swap_52 rfl ?_
            refine sh_ci (N := mX9_turnOf) (pc := 53) dX9_swap_53 ml_X9_85 h mf_X9_turnOf iv_X9_turnOf ⟨Nat.le_of_ble_eq_true rfl, Nat.le_of_ble_eq_true rfl⟩ rfl rfl (Nat.le_of_ble_eq_true rfl) ok_9_0 rfl (show vwCl[9]? = some (RX9, TX9, 14) from rfl) rfl (fun r16 S15 h => ?_)
            refine sh_istore_n (ls' := [(3, sh_I r16), (0, sh_R (9, 0, 0)), (1, sh_I a1), (2, sh_I a2)]) (pc := 56) dX9_swap_56 (by decide) rfl ?_
            refine sh_aload_n (pc := 57) dX9_swap_57 rfl ?_
            refine sh_iload_n (pc := 58) dX9_swap_58 rfl ?_
            refine sh_ci (N := mX9_turnOf) (pc := 59) dX9_swap_59 ml_X9_85 h mf_X9_turnOf iv_X9_turnOf ⟨Nat.le_of_ble_eq_true rfl, Nat.le_of_ble_eq_true rfl⟩ rfl rfl (Nat.le_of_ble_eq_true rfl) ok_9_0 rfl (show vwCl[9]? = some (RX9, TX9, 14) from rfl) rfl (fun r18 S17 h => ?_)
            refine sh_istore (ls' := [(4, sh_I r18), (3, sh_I r16), (0, sh_R (9, 0, 0)), (1, sh_I a1), (2, sh_I a2)]) (pc := 62) dX9_swap_62 (by decide) rfl ?_
            refine sh_aload_n (pc := 64) dX9_swap_64 rfl ?_
            refine sh_gf (pc := 65) dX9_swap_65 fl_X9_7 cf_9 ok_9_0 rfl rfl ?_
            refine sh_bipush (v := 12) (pc := 68) dX9_swap_68 rfl ?_
            refine sh_iload_n (pc := 70) dX9_swap_70 rfl ?_
            refine sh_iadd (pc := 71) dX9_swap_71 ?_
            refine sh_iload_n (pc := 72) dX9_swap_72 rfl ?_
            obtain ⟨hi19, h⟩ := h
            refine sh_is (pc := 73) dX9_swap_73 ok_19_0 rfl hi19 rfl ?_
            refine sh_topS (fun S20 hS20 => ?_)
            have h := h S20 hS20
            refine sh_aload_n (pc := 74) dX9_swap_74 rfl ?_
            refine sh_gf (pc := 75) dX9_swap_75 fl_X9_7 cf_9 ok_9_0 rfl rfl ?_
            refine sh_bipush (v := 12) (pc := 78) dX9_swap_78 rfl ?_
            refine sh_iload (pc := 80) dX9_swap_80 rfl ?_
            refine sh_iadd (pc := 82) dX9_swap_82 ?_
            refine sh_iload_n (pc := 83) dX9_swap_83 rfl ?_
            obtain ⟨hi21, h⟩ := h
            refine sh_is (pc := 84) dX9_swap_84 ok_19_0 rfl hi21 rfl ?_
            refine sh_topS (fun S22 hS22 => ?_)
            have h := h S22 hS22
            refine sh_aload_n (pc := 85) dX9_swap_85 rfl ?_
            refine sh_iload (pc := 86) dX9_swap_86 rfl ?_
            refine sh_ci (N := mX9_ends) (pc := 88) dX9_swap_88 ml_X9_70 h mf_X9_ends iv_X9_ends ⟨Nat.le_of_ble_eq_true rfl, Nat.le_of_ble_eq_true rfl⟩ rfl rfl (Nat.le_of_ble_eq_true rfl) ok_9_0 rfl (show vwCl[9]? = some (RX9, TX9, 14) from rfl) rfl (fun r24 S23 h => ?_)
            exact sh_ret_i (pc := 91) dX9_swap_91 rfl ⟨rfl, rfl⟩ h
          · have h := h.2 hc13
            refine sh_ldc (v := (-1000002)) (pc := 44) dX9_swap_44 kc_X9_78 ?_
            exact sh_ret_i (pc := 46) dX9_swap_46 rfl ⟨rfl, rfl⟩ h
      · have h := h.2 hc7
        refine sh_ldc (v := (-1000001)) (pc := 21) dX9_swap_21 kc_X9_32 ?_
        exact sh_ret_i (pc := 23) dX9_swap_23 rfl ⟨rfl, rfl⟩ h

set_option maxRecDepth 100000 in
set_option maxHeartbeats 4000000 in
theorem wp_X9_turnAt {g : sh_G} {S : sh_S} {sz : Nat} {Q : Int32 → sh_S → Prop} {a1 : Int32} 
    (h : ((0 ≤ a1 → (((S (19, 0, 0) 11) ≤ a1 → Q (-1000004) S) ∧ (¬ (S (19, 0, 0) 11) ≤ a1 → (vp_in (12 + a1) 602 ∧ Q (S (19, 0, 0) ((12 + a1).toNatClampNeg)) S)))) ∧ (¬ 0 ≤ a1 → Q (-1000001) S))) :
    sh_Ci g mX9_turnAt [sh_R (9, 0, 0), sh_I a1] S sz Q := by
  refine sh_enter (ls := [(0, sh_R (9, 0, 0)), (1, sh_I a1)]) (by decide +kernel) (Nat.le_of_ble_eq_true rfl) rfl ?_
  refine sh_iload_n (pc := 0) dX9_turnAt_0 rfl ?_
  refine sh_if_ge (tgt := 9) (pc := 1) dX9_turnAt_1 (by decide) (fun hc1 => ?_) (fun hc1 => ?_)
  · have h := h.1 hc1
    refine sh_iload_n (pc := 9) dX9_turnAt_9 rfl ?_
    refine sh_aload_n (pc := 10) dX9_turnAt_10 rfl ?_
    refine sh_gf (pc := 11) dX9_turnAt_11 fl_X9_7 cf_9 ok_9_0 rfl rfl ?_
    refine sh_bipush (v := 11) (pc := 14) dX9_turnAt_14 rfl ?_
    refine sh_ia (pc := 16) dX9_turnAt_16 ok_19_0 rfl (vp_in_iff.mpr ⟨by decide, by decide⟩) ?_
    refine sh_icmp_ge (tgt := 32) (pc := 17) dX9_turnAt_17 (by decide) (fun hc3 => ?_) (fun hc3 => ?_)
    · have h := h.1 hc3
      refine sh_ldc (v := (-1000004)) (pc := 32) dX9_turnAt_32 kc_X9_33 ?_
      exact sh_ret_i (pc := 34) dX9_turnAt_34 rfl ⟨rfl, rfl⟩ h
    · have h := h.2 hc3
      refine sh_aload_n (pc := 20) dX9_turnAt_20 rfl ?_
      refine sh_gf (pc := 21) dX9_turnAt_21 fl_X9_7 cf_9 ok_9_0 rfl rfl ?_
      refine sh_bipush (v := 12) (pc := 24) dX9_turnAt_24 rfl ?_
      refine sh_iload_n (pc := 26) dX9_turnAt_26 rfl ?_
      refine sh_iadd (pc := 27) dX9_turnAt_27 ?_
      obtain ⟨hi4, h⟩ := h
      refine sh_ia (pc := 28) dX9_turnAt_28 ok_19_0 rfl hi4 ?_
      refine sh_goto (tgt := 34) (pc := 29) dX9_turnAt_29 (by decide) ?_
      exact sh_ret_i (pc := 34) dX9_turnAt_34 rfl ⟨rfl, rfl⟩ h
  · have h := h.2 hc1
    refine sh_ldc (v := (-1000001)) (pc := 4) dX9_turnAt_4 kc_X9_32 ?_
    refine sh_goto (tgt := 34) (pc := 6) dX9_turnAt_6 (by decide) ?_
    exact sh_ret_i (pc := 34) dX9_turnAt_34 rfl ⟨rfl, rfl⟩ h

set_option maxRecDepth 100000 in
set_option maxHeartbeats 4000000 in
theorem wp_X9_dullAt {g : sh_G} {S : sh_S} {sz : Nat} {Q : Int32 → sh_S → Prop} {a1 : Int32} 
    (h : ((0 ≤ a1 → (∃ (Iv2 : Int32 → sh_S → Prop) (mu2 : Int32 → sh_S → Nat), Iv2 0 S ∧ ∀ (v3 : Int32) (S4 : sh_S), Iv2 v3 S4 → (((S4 (19, 0, 0) 9) ≤ v3 → Q (-1000004) S4) ∧ (¬ (S4 (19, 0, 0) 9) ≤ v3 → (∃ (Iv7 : Int32 → Int32 → sh_S → Prop) (mu7 : Int32 → Int32 → sh_S → Nat), Iv7 0 0 S4 ∧ ∀ (v8 : Int32) (v9 : Int32) (S10 : sh_S), Iv7 v8 v9 S10 → (((S10 (19, 0, 0) 9) ≤ v9 → (sh_Ci g mX9_isCutter [sh_R (9, 0, 0), sh_I v3] S10 sz (fun r14 S13 => ((r14 = 0 → (∀ x16 : Int32, x16 = v3 + 1 → (Iv2 x16 S13 ∧ mu2 x16 S13 < mu2 v3 S4))) ∧ (¬ r14 = 0 → ((¬ v8 = a1 → (∀ x18 : Int32, x18 = v3 + 1 → (Iv2 x18 S13 ∧ mu2 x18 S13 < mu2 v3 S4))) ∧ (v8 = a1 → Q v3 S13))))))) ∧ (¬ (S10 (19, 0, 0) 9) ≤ v9 → (sh_Ci g mX9_isCutter [sh_R (9, 0, 0), sh_I v9] S10 sz (fun r20 S19 => ((r20 = 0 → (∀ x22 : Int32, x22 = (v8 + 0) → (∀ x23 : Int32, x23 = v9 + 1 → (Iv7 x22 x23 S19 ∧ mu7 x22 x23 S19 < mu7 v8 v9 S10)))) ∧ (¬ r20 = 0 → (sh_Ci g mX9_isDuller [sh_R (9, 0, 0), sh_I v9, sh_I v3] S19 sz (fun r25 S24 => ((r25 = 0 → (∀ x27 : Int32, x27 = (v8 + 0) → (∀ x28 : Int32, x28 = v9 + 1 → (Iv7 x27 x28 S24 ∧ mu7 x27 x28 S24 < mu7 v8 v9 S10)))) ∧ (¬ r25 = 0 → (∀ x29 : Int32, x29 = (v8 + 1) → (∀ x30 : Int32, x30 = v9 + 1 → (Iv7 x29 x30 S24 ∧ mu7 x29 x30 S24 < mu7 v8 v9 S10)))))))))))))))))) ∧ (¬ 0 ≤ a1 → Q (-1000001) S))) :
    sh_Ci g mX9_dullAt [sh_R (9, 0, 0), sh_I a1] S sz Q := by
  refine sh_enter (ls := [(0, sh_R (9, 0, 0)), (1, sh_I a1)]) (by decide +kernel) (Nat.le_of_ble_eq_true rfl) rfl ?_
  refine sh_iload_n (pc := 0) dX9_dullAt_0 rfl ?_
  refine sh_if_ge (tgt := 7) (pc := 1) dX9_dullAt_1 (by decide) (fun hc1 => ?_) (fun hc1 => ?_)
  · have h := h.1 hc1
    refine sh_iconst (v := 0) (pc := 7) dX9_dullAt_7 rfl ?_
    refine sh_istore_n (ls' := [(2, sh_I 0), (0, sh_R (9, 0, 0)), (1, sh_I a1)]) (pc := 8) dX9_dullAt_8 (by decide) rfl ?_
    obtain ⟨Iv2, mu2, h0, hs2⟩ := h
    refine sh_pick [1, 2, 0] rfl ?_
    refine sh_lp2 Iv2 mu2 (fun v3 S4 => sh_V g mX9_dullAt 0 0 9 [(0, sh_R (9, 0, 0)), (1, sh_I a1), (2, sh_I v3)] [] (sh_St S4) sz (sh_ti sz Q)) (fun v3 S4 hI2 ih2 => ?_) _ _ h0
    have h := hs2 v3 S4 hI2
    clear h0
    refine sh_iload_n (pc := 9) dX9_dullAt_9 rfl ?_
    refine sh_aload_n (pc := 10) dX9_dullAt_10 rfl ?_
    refine sh_gf (pc := 11) dX9_dullAt_11 fl_X9_7 cf_9 ok_9_0 rfl rfl ?_
    refine sh_bipush (v := 9) (pc := 14) dX9_dullAt_14 rfl ?_
    refine sh_ia (pc := 16) dX9_dullAt_16 ok_19_0 rfl (vp_in_iff.mpr ⟨by decide, by decide⟩) ?_
    refine sh_icmp_ge (tgt := 91) (pc := 17) dX9_dullAt_17 (by decide) (fun hc6 => ?_) (fun hc6 => ?_)
    · have h := h.1 hc6
      refine sh_ldc (v := (-1000004)) (pc := 91) dX9_dullAt_91 kc_X9_33 ?_
      exact sh_ret_i (pc := 93) dX9_dullAt_93 rfl ⟨rfl, rfl⟩ h
    · have h := h.2 hc6
      refine sh_iconst (v := 0) (pc := 20) dX9_dullAt_20 rfl ?_
      refine sh_istore_n (ls' := [(3, sh_I 0), (0, sh_R (9, 0, 0)), (1, sh_I a1), (2, sh_I v3)]) (pc := 21) dX9_dullAt_21 (by decide) rfl ?_
      refine sh_iconst (v := 0) (pc := 22) dX9_dullAt_22 rfl ?_
      refine sh_istore (ls' := [(4, sh_I 0), (3, sh_I 0), (0, sh_R (9, 0, 0)), (1, sh_I a1), (2, sh_I v3)]) (pc := 23) dX9_dullAt_23 (by decide) rfl ?_
      obtain ⟨Iv7, mu7, h0, hs7⟩ := h
      refine sh_pick [2, 3, 4, 1, 0] rfl ?_
      refine sh_lp3 Iv7 mu7 (fun v8 v9 S10 => sh_V g mX9_dullAt 0 0 25 [(0, sh_R (9, 0, 0)), (1, sh_I a1), (2, sh_I v3), (3, sh_I v8), (4, sh_I v9)] [] (sh_St S10) sz (sh_ti sz Q)) (fun v8 v9 S10 hI7 ih7 => ?_) _ _ _ h0
      have h := hs7 v8 v9 S10 hI7
      clear h0
      refine sh_iload (pc := 25) dX9_dullAt_25 rfl ?_
      refine sh_aload_n (pc := 27) dX9_dullAt_27 rfl ?_
      refine sh_gf (pc := 28) dX9_dullAt_28 fl_X9_7 cf_9 ok_9_0 rfl rfl ?_
      refine sh_bipush (v := 9) (pc := 31) dX9_dullAt_31 rfl ?_
      refine sh_ia (pc := 33) dX9_dullAt_33 ok_19_0 rfl (vp_in_iff.mpr ⟨by decide, by decide⟩) ?_
      refine sh_icmp_ge (tgt := 70) (pc := 34) dX9_dullAt_34 (by decide) (fun hc12 => ?_) (fun hc12 => ?_)
      · have h := h.1 hc12
        refine sh_aload_n (pc := 70) dX9_dullAt_70 rfl ?_
        refine sh_iload_n (pc := 71) dX9_dullAt_71 rfl ?_
        refine sh_ci (N := mX9_isCutter) (pc := 72) dX9_dullAt_72 ml_X9_170 h mf_X9_isCutter iv_X9_isCutter ⟨Nat.le_of_ble_eq_true rfl, Nat.le_of_ble_eq_true rfl⟩ rfl rfl (Nat.le_of_ble_eq_true rfl) ok_9_0 rfl (show vwCl[9]? = some (RX9, TX9, 14) from rfl) rfl (fun r14 S13 h => ?_)
        refine sh_if_eq (tgt := 85) (pc := 75) dX9_dullAt_75 (by decide) (fun hc15 => ?_) (fun hc15 => ?_)
        · have h := h.1 hc15
          obtain ⟨x16, hx16⟩ : ∃ y : Int32, y = v3 + 1 := ⟨_, rfl⟩
          have h := h x16 hx16
          refine sh_iinc (v := x16) (ls' := [(2, sh_I x16), (0, sh_R (9, 0, 0)), (1, sh_I a1), (3, sh_I v8), (4, sh_I v9)]) (pc := 85) dX9_dullAt_85 rfl hx16.symm (by decide) rfl ?_
          refine sh_goto (tgt := 9) (pc := 88) dX9_dullAt_88 (by decide) ?_
          refine sh_pick [1, 2, 0] rfl ?_
          exact ih2 _ _ h.1 h.2
        · have h := h.2 hc15
          refine sh_iload_n (pc := 78) dX9_dullAt_78 rfl ?_
          refine sh_iload_n (pc := 79) dX9_dullAt_79 rfl ?_
          refine sh_icmp_ne (tgt := 85) (pc := 80) dX9_dullAt_80 (by decide) (fun hc17 => ?_) (fun hc17 => ?_)
          · have h := h.1 hc17
            obtain ⟨x18, hx18⟩ : ∃ y : Int32, y = v3 + 1 := ⟨_, rfl⟩
            have h := h x18 hx18
            refine sh_iinc (v := x18) (ls' := [(2, sh_I x18), (0, sh_R (9, 0, 0)), (1, sh_I a1), (3, sh_I v8), (4, sh_I v9)]) (pc := 85) dX9_dullAt_85 rfl hx18.symm (by decide) rfl ?_
            refine sh_goto (tgt := 9) (pc := 88) dX9_dullAt_88 (by decide) ?_
            refine sh_pick [1, 2, 0] rfl ?_
            exact ih2 _ _ h.1 h.2
          · have h := h.2 hc17
            refine sh_iload_n (pc := 83) dX9_dullAt_83 rfl ?_
            exact sh_ret_i (pc := 84) dX9_dullAt_84 rfl ⟨rfl, rfl⟩ h
      · have h := h.2 hc12
        refine sh_iload_n (pc := 37) dX9_dullAt_37 rfl ?_
        refine sh_aload_n (pc := 38) dX9_dullAt_38 rfl ?_
        refine sh_iload (pc := 39) dX9_dullAt_39 rfl ?_
        refine sh_ci (N := mX9_isCutter) (pc := 41) dX9_dullAt_41 ml_X9_170 h mf_X9_isCutter iv_X9_isCutter ⟨Nat.le_of_ble_eq_true rfl, Nat.le_of_ble_eq_true rfl⟩ rfl rfl (Nat.le_of_ble_eq_true rfl) ok_9_0 rfl (show vwCl[9]? = some (RX9, TX9, 14) from rfl) rfl (fun r20 S19 h => ?_)
        refine sh_if_eq (tgt := 61) (pc := 44) dX9_dullAt_44 (by decide) (fun hc21 => ?_) (fun hc21 => ?_)
        · have h := h.1 hc21
          refine sh_iconst (v := 0) (pc := 61) dX9_dullAt_61 rfl ?_
          refine sh_iadd (pc := 62) dX9_dullAt_62 ?_
          refine sh_topI (fun x22 hx22 => ?_)
          have h := h x22 hx22
          refine sh_istore_n (ls' := [(3, sh_I x22), (0, sh_R (9, 0, 0)), (1, sh_I a1), (2, sh_I v3), (4, sh_I v9)]) (pc := 63) dX9_dullAt_63 (by decide) rfl ?_
          obtain ⟨x23, hx23⟩ : ∃ y : Int32, y = v9 + 1 := ⟨_, rfl⟩
          have h := h x23 hx23
          refine sh_iinc (v := x23) (ls' := [(4, sh_I x23), (3, sh_I x22), (0, sh_R (9, 0, 0)), (1, sh_I a1), (2, sh_I v3)]) (pc := 64) dX9_dullAt_64 rfl hx23.symm (by decide) rfl ?_
          refine sh_goto (tgt := 25) (pc := 67) dX9_dullAt_67 (by decide) ?_
          refine sh_pick [2, 3, 4, 1, 0] rfl ?_
          exact ih7 _ _ _ h.1 h.2
        · have h := h.2 hc21
          refine sh_aload_n (pc := 47) dX9_dullAt_47 rfl ?_
          refine sh_iload (pc := 48) dX9_dullAt_48 rfl ?_
          refine sh_iload_n (pc := 50) dX9_dullAt_50 rfl ?_
          refine sh_ci (N := mX9_isDuller) (pc := 51) dX9_dullAt_51 ml_X9_173 h mf_X9_isDuller iv_X9_isDuller ⟨Nat.le_of_ble_eq_true rfl, Nat.le_of_ble_eq_true rfl⟩ rfl rfl (Nat.le_of_ble_eq_true rfl) ok_9_0 rfl (show vwCl[9]? = some (RX9, TX9, 14) from rfl) rfl (fun r25 S24 h => ?_)
          refine sh_if_eq (tgt := 61) (pc := 54) dX9_dullAt_54 (by decide) (fun hc26 => ?_) (fun hc26 => ?_)
          · have h := h.1 hc26
            refine sh_iconst (v := 0) (pc := 61) dX9_dullAt_61 rfl ?_
            refine sh_iadd (pc := 62) dX9_dullAt_62 ?_
            refine sh_topI (fun x27 hx27 => ?_)
            have h := h x27 hx27
            refine sh_istore_n (ls' := [(3, sh_I x27), (0, sh_R (9, 0, 0)), (1, sh_I a1), (2, sh_I v3), (4, sh_I v9)]) (pc := 63) dX9_dullAt_63 (by decide) rfl ?_
            obtain ⟨x28, hx28⟩ : ∃ y : Int32, y = v9 + 1 := ⟨_, rfl⟩
            have h := h x28 hx28
            refine sh_iinc (v := x28) (ls' := [(4, sh_I x28), (3, sh_I x27), (0, sh_R (9, 0, 0)), (1, sh_I a1), (2, sh_I v3)]) (pc := 64) dX9_dullAt_64 rfl hx28.symm (by decide) rfl ?_
            refine sh_goto (tgt := 25) (pc := 67) dX9_dullAt_67 (by decide) ?_
            refine sh_pick [2, 3, 4, 1, 0] rfl ?_
            exact ih7 _ _ _ h.1 h.2
          · have h := h.2 hc26
            refine sh_iconst (v := 1) (pc := 57) dX9_dullAt_57 rfl ?_
            refine sh_goto (tgt := 62) (pc := 58) dX9_dullAt_58 (by decide) ?_
            refine sh_iadd (pc := 62) dX9_dullAt_62 ?_
            refine sh_topI (fun x29 hx29 => ?_)
            have h := h x29 hx29
            refine sh_istore_n (ls' := [(3, sh_I x29), (0, sh_R (9, 0, 0)), (1, sh_I a1), (2, sh_I v3), (4, sh_I v9)]) (pc := 63) dX9_dullAt_63 (by decide) rfl ?_
            obtain ⟨x30, hx30⟩ : ∃ y : Int32, y = v9 + 1 := ⟨_, rfl⟩
            have h := h x30 hx30
            refine sh_iinc (v := x30) (ls' := [(4, sh_I x30), (3, sh_I x29), (0, sh_R (9, 0, 0)), (1, sh_I a1), (2, sh_I v3)]) (pc := 64) dX9_dullAt_64 rfl hx30.symm (by decide) rfl ?_
            refine sh_goto (tgt := 25) (pc := 67) dX9_dullAt_67 (by decide) ?_
            refine sh_pick [2, 3, 4, 1, 0] rfl ?_
            exact ih7 _ _ _ h.1 h.2
  · have h := h.2 hc1
    refine sh_ldc (v := (-1000001)) (pc := 4) dX9_dullAt_4 kc_X9_32 ?_
    exact sh_ret_i (pc := 6) dX9_dullAt_6 rfl ⟨rfl, rfl⟩ h

set_option maxRecDepth 100000 in
set_option maxHeartbeats 4000000 in
theorem wp_X9_isCalled {g : sh_G} {S : sh_S} {sz : Nat} {Q : Int32 → sh_S → Prop} {a1 : Int32} {a2 : Int32} 
    (h : (∃ (Iv1 : Int32 → Int32 → Prop) (mu1 : Int32 → Int32 → Nat), Iv1 0 0 ∧ ∀ (v2 : Int32) (v3 : Int32), Iv1 v2 v3 → ((a2 ≤ v3 → (narrow .boolean (.int v2) = .int v2 ∧ Q v2 S)) ∧ (¬ a2 ≤ v3 → ((¬ v2 = 0 → (∀ x7 : Int32, x7 = v3 + 1 → (Iv1 1 x7 ∧ mu1 1 x7 < mu1 v2 v3))) ∧ (v2 = 0 → (vp_in v3 3 ∧ ((¬ (S (24, 0, 0) (v3.toNatClampNeg)) = a1 → (∀ x10 : Int32, x10 = v3 + 1 → (Iv1 0 x10 ∧ mu1 0 x10 < mu1 v2 v3))) ∧ ((S (24, 0, 0) (v3.toNatClampNeg)) = a1 → (∀ x11 : Int32, x11 = v3 + 1 → (Iv1 1 x11 ∧ mu1 1 x11 < mu1 v2 v3))))))))))) :
    sh_Ci g mX9_isCalled [sh_R (9, 0, 0), sh_I a1, sh_I a2] S sz Q := by
  refine sh_enter (ls := [(0, sh_R (9, 0, 0)), (1, sh_I a1), (2, sh_I a2)]) (by decide +kernel) (Nat.le_of_ble_eq_true rfl) rfl ?_
  refine sh_iconst (v := 0) (pc := 0) dX9_isCalled_0 rfl ?_
  refine sh_istore_n (ls' := [(3, sh_I 0), (0, sh_R (9, 0, 0)), (1, sh_I a1), (2, sh_I a2)]) (pc := 1) dX9_isCalled_1 (by decide) rfl ?_
  refine sh_iconst (v := 0) (pc := 2) dX9_isCalled_2 rfl ?_
  refine sh_istore (ls' := [(4, sh_I 0), (3, sh_I 0), (0, sh_R (9, 0, 0)), (1, sh_I a1), (2, sh_I a2)]) (pc := 3) dX9_isCalled_3 (by decide) rfl ?_
  obtain ⟨Iv1, mu1, h0, hs1⟩ := h
  refine sh_pick [2, 3, 4, 1, 0] rfl ?_
  refine sh_lp2 Iv1 mu1 (fun v2 v3 => sh_V g mX9_isCalled 0 0 5 [(0, sh_R (9, 0, 0)), (1, sh_I a1), (2, sh_I a2), (3, sh_I v2), (4, sh_I v3)] [] (sh_St S) sz (sh_ti sz Q)) (fun v2 v3 hI1 ih1 => ?_) _ _ h0
  have h := hs1 v2 v3 hI1
  clear h0
  refine sh_iload (pc := 5) dX9_isCalled_5 rfl ?_
  refine sh_iload_n (pc := 7) dX9_isCalled_7 rfl ?_
  refine sh_icmp_ge (tgt := 38) (pc := 8) dX9_isCalled_8 (by decide) (fun hc5 => ?_) (fun hc5 => ?_)
  · have h := h.1 hc5
    refine sh_iload_n (pc := 38) dX9_isCalled_38 rfl ?_
    exact sh_ret_z (pc := 39) dX9_isCalled_39 rfl h.1 ⟨rfl, rfl⟩ h.2
  · have h := h.2 hc5
    refine sh_iload_n (pc := 11) dX9_isCalled_11 rfl ?_
    refine sh_if_ne (tgt := 26) (pc := 12) dX9_isCalled_12 (by decide) (fun hc6 => ?_) (fun hc6 => ?_)
    · have h := h.1 hc6
      refine sh_iconst (v := 1) (pc := 26) dX9_isCalled_26 rfl ?_
      refine sh_goto (tgt := 31) (pc := 27) dX9_isCalled_27 (by decide) ?_
      refine sh_istore_n (ls' := [(3, sh_I 1), (0, sh_R (9, 0, 0)), (1, sh_I a1), (2, sh_I a2), (4, sh_I v3)]) (pc := 31) dX9_isCalled_31 (by decide) rfl ?_
      obtain ⟨x7, hx7⟩ : ∃ y : Int32, y = v3 + 1 := ⟨_, rfl⟩
      have h := h x7 hx7
      refine sh_iinc (v := x7) (ls' := [(4, sh_I x7), (3, sh_I 1), (0, sh_R (9, 0, 0)), (1, sh_I a1), (2, sh_I a2)]) (pc := 32) dX9_isCalled_32 rfl hx7.symm (by decide) rfl ?_
      refine sh_goto (tgt := 5) (pc := 35) dX9_isCalled_35 (by decide) ?_
      refine sh_pick [2, 3, 4, 1, 0] rfl ?_
      exact ih1 _ _ h.1 h.2
    · have h := h.2 hc6
      refine sh_aload_n (pc := 15) dX9_isCalled_15 rfl ?_
      refine sh_gf (pc := 16) dX9_isCalled_16 fl_X9_25 cf_9 ok_9_0 rfl rfl ?_
      refine sh_iload (pc := 19) dX9_isCalled_19 rfl ?_
      obtain ⟨hi8, h⟩ := h
      refine sh_ia (pc := 21) dX9_isCalled_21 ok_24_0 rfl hi8 ?_
      refine sh_iload_n (pc := 22) dX9_isCalled_22 rfl ?_
      refine sh_icmp_ne (tgt := 30) (pc := 23) dX9_isCalled_23 (by decide) (fun hc9 => ?_) (fun hc9 => ?_)
      · have h := h.1 hc9
        refine sh_iconst (v := 0) (pc := 30) dX9_isCalled_30 rfl ?_
        refine sh_istore_n (ls' := [(3, sh_I 0), (0, sh_R (9, 0, 0)), (1, sh_I a1), (2, sh_I a2), (4, sh_I v3)]) (pc := 31) dX9_isCalled_31 (by decide) rfl ?_
        obtain ⟨x10, hx10⟩ : ∃ y : Int32, y = v3 + 1 := ⟨_, rfl⟩
        have h := h x10 hx10
        refine sh_iinc (v := x10) (ls' := [(4, sh_I x10), (3, sh_I 0), (0, sh_R (9, 0, 0)), (1, sh_I a1), (2, sh_I a2)]) (pc := 32) dX9_isCalled_32 rfl hx10.symm (by decide) rfl ?_
        refine sh_goto (tgt := 5) (pc := 35) dX9_isCalled_35 (by decide) ?_
        refine sh_pick [2, 3, 4, 1, 0] rfl ?_
        exact ih1 _ _ h.1 h.2
      · have h := h.2 hc9
        refine sh_iconst (v := 1) (pc := 26) dX9_isCalled_26 rfl ?_
        refine sh_goto (tgt := 31) (pc := 27) dX9_isCalled_27 (by decide) ?_
        refine sh_istore_n (ls' := [(3, sh_I 1), (0, sh_R (9, 0, 0)), (1, sh_I a1), (2, sh_I a2), (4, sh_I v3)]) (pc := 31) dX9_isCalled_31 (by decide) rfl ?_
        obtain ⟨x11, hx11⟩ : ∃ y : Int32, y = v3 + 1 := ⟨_, rfl⟩
        have h := h x11 hx11
        refine sh_iinc (v := x11) (ls' := [(4, sh_I x11), (3, sh_I 1), (0, sh_R (9, 0, 0)), (1, sh_I a1), (2, sh_I a2)]) (pc := 32) dX9_isCalled_32 rfl hx11.symm (by decide) rfl ?_
        refine sh_goto (tgt := 5) (pc := 35) dX9_isCalled_35 (by decide) ?_
        refine sh_pick [2, 3, 4, 1, 0] rfl ?_
        exact ih1 _ _ h.1 h.2

set_option maxRecDepth 100000 in
set_option maxHeartbeats 4000000 in
theorem wp_X9_calls {g : sh_G} {S : sh_S} {sz : Nat} {Q : Int32 → sh_S → Prop} {a1 : Int32} 
    (h : (∃ (Iv1 : Int32 → sh_S → Prop) (mu1 : Int32 → sh_S → Nat), Iv1 0 S ∧ ∀ (v2 : Int32) (S3 : sh_S), Iv1 v2 S3 → ((3 ≤ v2 → Q 1 S3) ∧ (¬ 3 ≤ v2 → (∃ (Iv5 : Int32 → Int32 → sh_S → Prop) (mu5 : Int32 → Int32 → sh_S → Nat), Iv5 (-1) 0 S3 ∧ ∀ (v6 : Int32) (v7 : Int32) (S8 : sh_S), Iv5 v6 v7 S8 → (((S8 (19, 0, 0) 8) ≤ v7 → ((0 ≤ v6 → (vp_in v2 3 ∧ (∀ S13 : sh_S, S13 = sh_sr S8 (24, 0, 0) (upd (S8 (24, 0, 0)) (v2.toNatClampNeg) v6) → (∀ x14 : Int32, x14 = v2 + 1 → (Iv1 x14 S13 ∧ mu1 x14 S13 < mu1 v2 S3))))) ∧ (¬ 0 ≤ v6 → Q 0 S8))) ∧ (¬ (S8 (19, 0, 0) 8) ≤ v7 → ((v7 = a1 → (∀ x17 : Int32, x17 = v7 + 1 → (Iv5 v6 x17 S8 ∧ mu5 v6 x17 S8 < mu5 v6 v7 S8))) ∧ (¬ v7 = a1 → (sh_Ci g mX9_of [sh_R (9, 0, 0), sh_I v7, sh_I 0] S8 sz (fun r19 S18 => ((¬ r19 = 0 → (∀ x22 : Int32, x22 = v7 + 1 → (Iv5 v6 x22 S18 ∧ mu5 v6 x22 S18 < mu5 v6 v7 S8))) ∧ (r19 = 0 → (sh_Ci g mX9_isCalled [sh_R (9, 0, 0), sh_I v7, sh_I v2] S18 sz (fun r24 S23 => ((¬ r24 = 0 → (∀ x27 : Int32, x27 = v7 + 1 → (Iv5 v6 x27 S23 ∧ mu5 v6 x27 S23 < mu5 v6 v7 S8))) ∧ (r24 = 0 → ((v6 < 0 → (∀ x30 : Int32, x30 = v7 + 1 → (Iv5 v7 x30 S23 ∧ mu5 v7 x30 S23 < mu5 v6 v7 S8))) ∧ (¬ v6 < 0 → (sh_Ci g mX9_of [sh_R (9, 0, 0), sh_I v7, sh_I 11] S23 sz (fun r32 S31 => (sh_Ci g mX9_of [sh_R (9, 0, 0), sh_I v6, sh_I 11] S31 sz (fun r34 S33 => ((r34 ≤ r32 → (∀ x36 : Int32, x36 = v7 + 1 → (Iv5 v6 x36 S33 ∧ mu5 v6 x36 S33 < mu5 v6 v7 S8))) ∧ (¬ r34 ≤ r32 → (∀ x37 : Int32, x37 = v7 + 1 → (Iv5 v7 x37 S33 ∧ mu5 v7 x37 S33 < mu5 v6 v7 S8))))))))))))))))))))))))))) :
    sh_Ci g mX9_calls [sh_R (9, 0, 0), sh_I a1] S sz Q := by
  refine sh_enter (ls := [(0, sh_R (9, 0, 0)), (1, sh_I a1)]) (by decide +kernel) (Nat.le_of_ble_eq_true rfl) rfl ?_
  refine sh_iconst (v := 0) (pc := 0) dX9_calls_0 rfl ?_
  refine sh_istore_n (ls' := [(2, sh_I 0), (0, sh_R (9, 0, 0)), (1, sh_I a1)]) (pc := 1) dX9_calls_1 (by decide) rfl ?_
  obtain ⟨Iv1, mu1, h0, hs1⟩ := h
  refine sh_pick [1, 2, 0] rfl ?_
  refine sh_lp2 Iv1 mu1 (fun v2 S3 => sh_V g mX9_calls 0 0 2 [(0, sh_R (9, 0, 0)), (1, sh_I a1), (2, sh_I v2)] [] (sh_St S3) sz (sh_ti sz Q)) (fun v2 S3 hI1 ih1 => ?_) _ _ h0
  have h := hs1 v2 S3 hI1
  clear h0
  refine sh_iload_n (pc := 2) dX9_calls_2 rfl ?_
  refine sh_iconst (v := 3) (pc := 3) dX9_calls_3 rfl ?_
  refine sh_icmp_ge (tgt := 116) (pc := 4) dX9_calls_4 (by decide) (fun hc4 => ?_) (fun hc4 => ?_)
  · have h := h.1 hc4
    refine sh_iconst (v := 1) (pc := 116) dX9_calls_116 rfl ?_
    exact sh_ret_z (pc := 117) dX9_calls_117 rfl rfl ⟨rfl, rfl⟩ h
  · have h := h.2 hc4
    refine sh_iconst (v := (-1)) (pc := 7) dX9_calls_7 rfl ?_
    refine sh_istore_n (ls' := [(3, sh_I (-1)), (0, sh_R (9, 0, 0)), (1, sh_I a1), (2, sh_I v2)]) (pc := 8) dX9_calls_8 (by decide) rfl ?_
    refine sh_iconst (v := 0) (pc := 9) dX9_calls_9 rfl ?_
    refine sh_istore (ls' := [(4, sh_I 0), (3, sh_I (-1)), (0, sh_R (9, 0, 0)), (1, sh_I a1), (2, sh_I v2)]) (pc := 10) dX9_calls_10 (by decide) rfl ?_
    obtain ⟨Iv5, mu5, h0, hs5⟩ := h
    refine sh_pick [2, 3, 4, 1, 0] rfl ?_
    refine sh_lp3 Iv5 mu5 (fun v6 v7 S8 => sh_V g mX9_calls 0 0 12 [(0, sh_R (9, 0, 0)), (1, sh_I a1), (2, sh_I v2), (3, sh_I v6), (4, sh_I v7)] [] (sh_St S8) sz (sh_ti sz Q)) (fun v6 v7 S8 hI5 ih5 => ?_) _ _ _ h0
    have h := hs5 v6 v7 S8 hI5
    clear h0
    refine sh_iload (pc := 12) dX9_calls_12 rfl ?_
    refine sh_aload_n (pc := 14) dX9_calls_14 rfl ?_
    refine sh_gf (pc := 15) dX9_calls_15 fl_X9_7 cf_9 ok_9_0 rfl rfl ?_
    refine sh_bipush (v := 8) (pc := 18) dX9_calls_18 rfl ?_
    refine sh_ia (pc := 20) dX9_calls_20 ok_19_0 rfl (vp_in_iff.mpr ⟨by decide, by decide⟩) ?_
    refine sh_icmp_ge (tgt := 97) (pc := 21) dX9_calls_21 (by decide) (fun hc10 => ?_) (fun hc10 => ?_)
    · have h := h.1 hc10
      refine sh_iload_n (pc := 97) dX9_calls_97 rfl ?_
      refine sh_if_ge (tgt := 103) (pc := 98) dX9_calls_98 (by decide) (fun hc11 => ?_) (fun hc11 => ?_)
      · have h := h.1 hc11
        refine sh_aload_n (pc := 103) dX9_calls_103 rfl ?_
        refine sh_gf (pc := 104) dX9_calls_104 fl_X9_25 cf_9 ok_9_0 rfl rfl ?_
        refine sh_iload_n (pc := 107) dX9_calls_107 rfl ?_
        refine sh_iload_n (pc := 108) dX9_calls_108 rfl ?_
        obtain ⟨hi12, h⟩ := h
        refine sh_is (pc := 109) dX9_calls_109 ok_24_0 rfl hi12 rfl ?_
        refine sh_topS (fun S13 hS13 => ?_)
        have h := h S13 hS13
        obtain ⟨x14, hx14⟩ : ∃ y : Int32, y = v2 + 1 := ⟨_, rfl⟩
        have h := h x14 hx14
        refine sh_iinc (v := x14) (ls' := [(2, sh_I x14), (0, sh_R (9, 0, 0)), (1, sh_I a1), (3, sh_I v6), (4, sh_I v7)]) (pc := 110) dX9_calls_110 rfl hx14.symm (by decide) rfl ?_
        refine sh_goto (tgt := 2) (pc := 113) dX9_calls_113 (by decide) ?_
        refine sh_pick [1, 2, 0] rfl ?_
        exact ih1 _ _ h.1 h.2
      · have h := h.2 hc11
        refine sh_iconst (v := 0) (pc := 101) dX9_calls_101 rfl ?_
        exact sh_ret_z (pc := 102) dX9_calls_102 rfl rfl ⟨rfl, rfl⟩ h
    · have h := h.2 hc10
      refine sh_iload (pc := 24) dX9_calls_24 rfl ?_
      refine sh_iload_n (pc := 26) dX9_calls_26 rfl ?_
      refine sh_icmp_eq (tgt := 54) (pc := 27) dX9_calls_27 (by decide) (fun hc15 => ?_) (fun hc15 => ?_)
      · have h := h.1 hc15
        refine sh_iconst (v := 0) (pc := 54) dX9_calls_54 rfl ?_
        refine sh_istore (ls' := [(5, sh_I 0), (0, sh_R (9, 0, 0)), (1, sh_I a1), (2, sh_I v2), (3, sh_I v6), (4, sh_I v7)]) (pc := 55) dX9_calls_55 (by decide) rfl ?_
        refine sh_iload (pc := 57) dX9_calls_57 rfl ?_
        refine sh_if_eq (tgt := 89) (pc := 59) dX9_calls_59 (by decide) (fun hc16 => ?_) (fun hc16 => ?_)
        · skip
          refine sh_iload_n (pc := 89) dX9_calls_89 rfl ?_
          refine sh_istore_n (ls' := [(3, sh_I v6), (5, sh_I 0), (0, sh_R (9, 0, 0)), (1, sh_I a1), (2, sh_I v2), (4, sh_I v7)]) (pc := 90) dX9_calls_90 (by decide) rfl ?_
          obtain ⟨x17, hx17⟩ : ∃ y : Int32, y = v7 + 1 := ⟨_, rfl⟩
          have h := h x17 hx17
          refine sh_iinc (v := x17) (ls' := [(4, sh_I x17), (3, sh_I v6), (5, sh_I 0), (0, sh_R (9, 0, 0)), (1, sh_I a1), (2, sh_I v2)]) (pc := 91) dX9_calls_91 rfl hx17.symm (by decide) rfl ?_
          refine sh_goto (tgt := 12) (pc := 94) dX9_calls_94 (by decide) ?_
          refine sh_pick [3, 4, 5, 1, 0] rfl ?_
          exact ih5 _ _ _ h.1 h.2
        · exact absurd hc16 (by decide)
      · have h := h.2 hc15
        refine sh_aload_n (pc := 30) dX9_calls_30 rfl ?_
        refine sh_iload (pc := 31) dX9_calls_31 rfl ?_
        refine sh_iconst (v := 0) (pc := 33) dX9_calls_33 rfl ?_
        refine sh_ci (N := mX9_of) (pc := 34) dX9_calls_34 ml_X9_46 h mf_X9_of iv_X9_of ⟨Nat.le_of_ble_eq_true rfl, Nat.le_of_ble_eq_true rfl⟩ rfl rfl (Nat.le_of_ble_eq_true rfl) ok_9_0 rfl (show vwCl[9]? = some (RX9, TX9, 14) from rfl) rfl (fun r19 S18 h => ?_)
        refine sh_if_ne (tgt := 54) (pc := 37) dX9_calls_37 (by decide) (fun hc20 => ?_) (fun hc20 => ?_)
        · have h := h.1 hc20
          refine sh_iconst (v := 0) (pc := 54) dX9_calls_54 rfl ?_
          refine sh_istore (ls' := [(5, sh_I 0), (0, sh_R (9, 0, 0)), (1, sh_I a1), (2, sh_I v2), (3, sh_I v6), (4, sh_I v7)]) (pc := 55) dX9_calls_55 (by decide) rfl ?_
          refine sh_iload (pc := 57) dX9_calls_57 rfl ?_
          refine sh_if_eq (tgt := 89) (pc := 59) dX9_calls_59 (by decide) (fun hc21 => ?_) (fun hc21 => ?_)
          · skip
            refine sh_iload_n (pc := 89) dX9_calls_89 rfl ?_
            refine sh_istore_n (ls' := [(3, sh_I v6), (5, sh_I 0), (0, sh_R (9, 0, 0)), (1, sh_I a1), (2, sh_I v2), (4, sh_I v7)]) (pc := 90) dX9_calls_90 (by decide) rfl ?_
            obtain ⟨x22, hx22⟩ : ∃ y : Int32, y = v7 + 1 := ⟨_, rfl⟩
            have h := h x22 hx22
            refine sh_iinc (v := x22) (ls' := [(4, sh_I x22), (3, sh_I v6), (5, sh_I 0), (0, sh_R (9, 0, 0)), (1, sh_I a1), (2, sh_I v2)]) (pc := 91) dX9_calls_91 rfl hx22.symm (by decide) rfl ?_
            refine sh_goto (tgt := 12) (pc := 94) dX9_calls_94 (by decide) ?_
            refine sh_pick [3, 4, 5, 1, 0] rfl ?_
            exact ih5 _ _ _ h.1 h.2
          · exact absurd hc21 (by decide)
        · have h := h.2 hc20
          refine sh_aload_n (pc := 40) dX9_calls_40 rfl ?_
          refine sh_iload (pc := 41) dX9_calls_41 rfl ?_
          refine sh_iload_n (pc := 43) dX9_calls_43 rfl ?_
          refine sh_ci (N := mX9_isCalled) (pc := 44) dX9_calls_44 ml_X9_189 h mf_X9_isCalled iv_X9_isCalled ⟨Nat.le_of_ble_eq_true rfl, Nat.le_of_ble_eq_true rfl⟩ rfl rfl (Nat.le_of_ble_eq_true rfl) ok_9_0 rfl (show vwCl[9]? = some (RX9, TX9, 14) from rfl) rfl (fun r24 S23 h => ?_)
          refine sh_if_ne (tgt := 54) (pc := 47) dX9_calls_47 (by decide) (fun hc25 => ?_) (fun hc25 => ?_)
          · have h := h.1 hc25
            refine sh_iconst (v := 0) (pc := 54) dX9_calls_54 rfl ?_
            refine sh_istore (ls' := [(5, sh_I 0), (0, sh_R (9, 0, 0)), (1, sh_I a1), (2, sh_I v2), (3, sh_I v6), (4, sh_I v7)]) (pc := 55) dX9_calls_55 (by decide) rfl ?_
            refine sh_iload (pc := 57) dX9_calls_57 rfl ?_
            refine sh_if_eq (tgt := 89) (pc := 59) dX9_calls_59 (by decide) (fun hc26 => ?_) (fun hc26 => ?_)
            · skip
              refine sh_iload_n (pc := 89) dX9_calls_89 rfl ?_
              refine sh_istore_n (ls' := [(3, sh_I v6), (5, sh_I 0), (0, sh_R (9, 0, 0)), (1, sh_I a1), (2, sh_I v2), (4, sh_I v7)]) (pc := 90) dX9_calls_90 (by decide) rfl ?_
              obtain ⟨x27, hx27⟩ : ∃ y : Int32, y = v7 + 1 := ⟨_, rfl⟩
              have h := h x27 hx27
              refine sh_iinc (v := x27) (ls' := [(4, sh_I x27), (3, sh_I v6), (5, sh_I 0), (0, sh_R (9, 0, 0)), (1, sh_I a1), (2, sh_I v2)]) (pc := 91) dX9_calls_91 rfl hx27.symm (by decide) rfl ?_
              refine sh_goto (tgt := 12) (pc := 94) dX9_calls_94 (by decide) ?_
              refine sh_pick [3, 4, 5, 1, 0] rfl ?_
              exact ih5 _ _ _ h.1 h.2
            · exact absurd hc26 (by decide)
          · have h := h.2 hc25
            refine sh_iconst (v := 1) (pc := 50) dX9_calls_50 rfl ?_
            refine sh_goto (tgt := 55) (pc := 51) dX9_calls_51 (by decide) ?_
            refine sh_istore (ls' := [(5, sh_I 1), (0, sh_R (9, 0, 0)), (1, sh_I a1), (2, sh_I v2), (3, sh_I v6), (4, sh_I v7)]) (pc := 55) dX9_calls_55 (by decide) rfl ?_
            refine sh_iload (pc := 57) dX9_calls_57 rfl ?_
            refine sh_if_eq (tgt := 89) (pc := 59) dX9_calls_59 (by decide) (fun hc28 => ?_) (fun hc28 => ?_)
            · exact absurd hc28 (by decide)
            · skip
              refine sh_iload_n (pc := 62) dX9_calls_62 rfl ?_
              refine sh_if_lt (tgt := 84) (pc := 63) dX9_calls_63 (by decide) (fun hc29 => ?_) (fun hc29 => ?_)
              · have h := h.1 hc29
                refine sh_iload (pc := 84) dX9_calls_84 rfl ?_
                refine sh_goto (tgt := 90) (pc := 86) dX9_calls_86 (by decide) ?_
                refine sh_istore_n (ls' := [(3, sh_I v7), (5, sh_I 1), (0, sh_R (9, 0, 0)), (1, sh_I a1), (2, sh_I v2), (4, sh_I v7)]) (pc := 90) dX9_calls_90 (by decide) rfl ?_
                obtain ⟨x30, hx30⟩ : ∃ y : Int32, y = v7 + 1 := ⟨_, rfl⟩
                have h := h x30 hx30
                refine sh_iinc (v := x30) (ls' := [(4, sh_I x30), (3, sh_I v7), (5, sh_I 1), (0, sh_R (9, 0, 0)), (1, sh_I a1), (2, sh_I v2)]) (pc := 91) dX9_calls_91 rfl hx30.symm (by decide) rfl ?_
                refine sh_goto (tgt := 12) (pc := 94) dX9_calls_94 (by decide) ?_
                refine sh_pick [3, 4, 5, 1, 0] rfl ?_
                exact ih5 _ _ _ h.1 h.2
              · have h := h.2 hc29
                refine sh_aload_n (pc := 66) dX9_calls_66 rfl ?_
                refine sh_iload (pc := 67) dX9_calls_67 rfl ?_
                refine sh_bipush (v := 11) (pc := 69) dX9_calls_69 rfl ?_
                refine sh_ci (N := mX9_of) (pc := 71) dX9_calls_71 ml_X9_46 h mf_X9_of iv_X9_of ⟨Nat.le_of_ble_eq_true rfl, Nat.le_of_ble_eq_true rfl⟩ rfl rfl (Nat.le_of_ble_eq_true rfl) ok_9_0 rfl (show vwCl[9]? = some (RX9, TX9, 14) from rfl) rfl (fun r32 S31 h => ?_)
                refine sh_aload_n (pc := 74) dX9_calls_74 rfl ?_
                refine sh_iload_n (pc := 75) dX9_calls_75 rfl ?_
                refine sh_bipush (v := 11) (pc := 76) dX9_calls_76 rfl ?_
                refine sh_ci (N := mX9_of) (pc := 78) dX9_calls_78 ml_X9_46 h mf_X9_of iv_X9_of ⟨Nat.le_of_ble_eq_true rfl, Nat.le_of_ble_eq_true rfl⟩ rfl rfl (Nat.le_of_ble_eq_true rfl) ok_9_0 rfl (show vwCl[9]? = some (RX9, TX9, 14) from rfl) rfl (fun r34 S33 h => ?_)
                refine sh_icmp_ge (tgt := 89) (pc := 81) dX9_calls_81 (by decide) (fun hc35 => ?_) (fun hc35 => ?_)
                · have h := h.1 hc35
                  refine sh_iload_n (pc := 89) dX9_calls_89 rfl ?_
                  refine sh_istore_n (ls' := [(3, sh_I v6), (5, sh_I 1), (0, sh_R (9, 0, 0)), (1, sh_I a1), (2, sh_I v2), (4, sh_I v7)]) (pc := 90) dX9_calls_90 (by decide) rfl ?_
                  obtain ⟨x36, hx36⟩ : ∃ y : Int32, y = v7 + 1 := ⟨_, rfl⟩
                  have h := h x36 hx36
                  refine sh_iinc (v := x36) (ls' := [(4, sh_I x36), (3, sh_I v6), (5, sh_I 1), (0, sh_R (9, 0, 0)), (1, sh_I a1), (2, sh_I v2)]) (pc := 91) dX9_calls_91 rfl hx36.symm (by decide) rfl ?_
                  refine sh_goto (tgt := 12) (pc := 94) dX9_calls_94 (by decide) ?_
                  refine sh_pick [3, 4, 5, 1, 0] rfl ?_
                  exact ih5 _ _ _ h.1 h.2
                · have h := h.2 hc35
                  refine sh_iload (pc := 84) dX9_calls_84 rfl ?_
                  refine sh_goto (tgt := 90) (pc := 86) dX9_calls_86 (by decide) ?_
                  refine sh_istore_n (ls' := [(3, sh_I v7), (5, sh_I 1), (0, sh_R (9, 0, 0)), (1, sh_I a1), (2, sh_I v2), (4, sh_I v7)]) (pc := 90) dX9_calls_90 (by decide) rfl ?_
                  obtain ⟨x37, hx37⟩ : ∃ y : Int32, y = v7 + 1 := ⟨_, rfl⟩
                  have h := h x37 hx37
                  refine sh_iinc (v := x37) (ls' := [(4, sh_I x37), (3, sh_I v7), (5, sh_I 1), (0, sh_R (9, 0, 0)), (1, sh_I a1), (2, sh_I v2)]) (pc := 91) dX9_calls_91 rfl hx37.symm (by decide) rfl ?_
                  refine sh_goto (tgt := 12) (pc := 94) dX9_calls_94 (by decide) ?_
                  refine sh_pick [3, 4, 5, 1, 0] rfl ?_
                  exact ih5 _ _ _ h.1 h.2

set_option maxRecDepth 100000 in
set_option maxHeartbeats 4000000 in
theorem wp_X9_lose {g : sh_G} {S : sh_S} {sz : Nat} {Q : Int32 → sh_S → Prop} {a1 : Int32} 
    (h : (sh_Ci g mX9_isTool [sh_R (9, 0, 0), sh_I a1] S sz (fun r2 S1 => ((¬ r2 = 0 → (sh_Ci g mX9_its [sh_R (9, 0, 0), sh_I a1, sh_I 3] S1 sz (fun r5 S4 => ((¬ r5 = 1 → Q (-1000002) S4) ∧ (r5 = 1 → (sh_Ci g mX9_its [sh_R (9, 0, 0), sh_I a1, sh_I 4] S4 sz (fun r8 S7 => (sh_Ci g mX9_calls [sh_R (9, 0, 0), sh_I r8] S7 sz (fun r10 S9 => ((¬ r10 = 0 → (sh_Cu g mX9_hold [sh_R (9, 0, 0)] S9 sz (fun S12 => (sh_Cu g mX9_lay [sh_R (9, 0, 0), sh_I a1, sh_I 3, sh_I 2] S12 sz (fun S13 => (∃ (Iv14 : Int32 → Int32 → sh_S → Prop) (mu14 : Int32 → Int32 → sh_S → Nat), Iv14 0 0 S13 ∧ ∀ (v15 : Int32) (v16 : Int32) (S17 : sh_S), Iv14 v15 v16 S17 → (((S17 (19, 0, 0) 8) ≤ v16 → (sh_Ci g mX9_its [sh_R (9, 0, 0), sh_I a1, sh_I 12] S17 sz (fun r21 S20 => (sh_Ci g mX9_ends [sh_R (9, 0, 0), sh_I r21] S20 sz (fun r23 S22 => Q r23 S22))))) ∧ (¬ (S17 (19, 0, 0) 8) ≤ v16 → (sh_Ci g mX9_isCalled [sh_R (9, 0, 0), sh_I v16, sh_I 3] S17 sz (fun r25 S24 => ((r25 = 0 → (∀ x27 : Int32, x27 = v16 + 1 → (Iv14 v15 x27 S24 ∧ mu14 v15 x27 S24 < mu14 v15 v16 S17))) ∧ (¬ r25 = 0 → (sh_Cu g mX9_lay [sh_R (9, 0, 0), sh_I a1, sh_I (12 + v15), sh_I v16] S24 sz (fun S28 => (sh_Cu g mX9_lay [sh_R (9, 0, 0), sh_I a1, sh_I (15 + v15), sh_I (-1)] S28 sz (fun S29 => (sh_Cu g mX9_more [sh_R (9, 0, 0), sh_I v16, sh_I 11, sh_I 1] S29 sz (fun S30 => (∀ x31 : Int32, x31 = v15 + 1 → (∀ x32 : Int32, x32 = v16 + 1 → (Iv14 x31 x32 S30 ∧ mu14 x31 x32 S30 < mu14 v15 v16 S17))))))))))))))))))))) ∧ (r10 = 0 → Q (-1000002) S9))))))))))) ∧ (r2 = 0 → Q (-1000001) S1))))) :
    sh_Ci g mX9_lose [sh_R (9, 0, 0), sh_I a1] S sz Q := by
  refine sh_enter (ls := [(0, sh_R (9, 0, 0)), (1, sh_I a1)]) (by decide +kernel) (Nat.le_of_ble_eq_true rfl) rfl ?_
  refine sh_aload_n (pc := 0) dX9_lose_0 rfl ?_
  refine sh_iload_n (pc := 1) dX9_lose_1 rfl ?_
  refine sh_ci (N := mX9_isTool) (pc := 2) dX9_lose_2 ml_X9_132 h mf_X9_isTool iv_X9_isTool ⟨Nat.le_of_ble_eq_true rfl, Nat.le_of_ble_eq_true rfl⟩ rfl rfl (Nat.le_of_ble_eq_true rfl) ok_9_0 rfl (show vwCl[9]? = some (RX9, TX9, 14) from rfl) rfl (fun r2 S1 h => ?_)
  refine sh_if_ne (tgt := 11) (pc := 5) dX9_lose_5 (by decide) (fun hc3 => ?_) (fun hc3 => ?_)
  · have h := h.1 hc3
    refine sh_aload_n (pc := 11) dX9_lose_11 rfl ?_
    refine sh_iload_n (pc := 12) dX9_lose_12 rfl ?_
    refine sh_iconst (v := 3) (pc := 13) dX9_lose_13 rfl ?_
    refine sh_ci (N := mX9_its) (pc := 14) dX9_lose_14 ml_X9_79 h mf_X9_its iv_X9_its ⟨Nat.le_of_ble_eq_true rfl, Nat.le_of_ble_eq_true rfl⟩ rfl rfl (Nat.le_of_ble_eq_true rfl) ok_9_0 rfl (show vwCl[9]? = some (RX9, TX9, 14) from rfl) rfl (fun r5 S4 h => ?_)
    refine sh_iconst (v := 1) (pc := 17) dX9_lose_17 rfl ?_
    refine sh_icmp_ne (tgt := 34) (pc := 18) dX9_lose_18 (by decide) (fun hc6 => ?_) (fun hc6 => ?_)
    · have h := h.1 hc6
      refine sh_ldc (v := (-1000002)) (pc := 34) dX9_lose_34 kc_X9_78 ?_
      exact sh_ret_i (pc := 36) dX9_lose_36 rfl ⟨rfl, rfl⟩ h
    · have h := h.2 hc6
      refine sh_aload_n (pc := 21) dX9_lose_21 rfl ?_
      refine sh_aload_n (pc := 22) dX9_lose_22 rfl ?_
      refine sh_iload_n (pc := 23) dX9_lose_23 rfl ?_
      refine sh_iconst (v := 4) (pc := 24) dX9_lose_24 rfl ?_
      refine sh_ci (N := mX9_its) (pc := 25) dX9_lose_25 ml_X9_79 h mf_X9_its iv_X9_its ⟨Nat.le_of_ble_eq_true rfl, Nat.le_of_ble_eq_true rfl⟩ rfl rfl (Nat.le_of_ble_eq_true rfl) ok_9_0 rfl (show vwCl[9]? = some (RX9, TX9, 14) from rfl) rfl (fun r8 S7 h => ?_)
      refine sh_ci (N := mX9_calls) (pc := 28) dX9_lose_28 ml_X9_192 h mf_X9_calls iv_X9_calls ⟨Nat.le_of_ble_eq_true rfl, Nat.le_of_ble_eq_true rfl⟩ rfl rfl (Nat.le_of_ble_eq_true rfl) ok_9_0 rfl (show vwCl[9]? = some (RX9, TX9, 14) from rfl) rfl (fun r10 S9 h => ?_)
      refine sh_if_ne (tgt := 37) (pc := 31) dX9_lose_31 (by decide) (fun hc11 => ?_) (fun hc11 => ?_)
      · have h := h.1 hc11
        refine sh_aload_n (pc := 37) dX9_lose_37 rfl ?_
        refine sh_cu (N := mX9_hold) (pc := 38) dX9_lose_38 ml_X9_67 h mf_X9_hold iv_X9_hold ⟨Nat.le_of_ble_eq_true rfl, Nat.le_of_ble_eq_true rfl⟩ rfl rfl (Nat.le_of_ble_eq_true rfl) ok_9_0 rfl (show vwCl[9]? = some (RX9, TX9, 14) from rfl) rfl (fun S12 h => ?_)
        refine sh_aload_n (pc := 41) dX9_lose_41 rfl ?_
        refine sh_iload_n (pc := 42) dX9_lose_42 rfl ?_
        refine sh_iconst (v := 3) (pc := 43) dX9_lose_43 rfl ?_
        refine sh_iconst (v := 2) (pc := 44) dX9_lose_44 rfl ?_
        refine sh_cu (N := mX9_lay) (pc := 45) dX9_lose_45 ml_X9_123 h mf_X9_lay iv_X9_lay ⟨Nat.le_of_ble_eq_true rfl, Nat.le_of_ble_eq_true rfl⟩ rfl rfl (Nat.le_of_ble_eq_true rfl) ok_9_0 rfl (show vwCl[9]? = some (RX9, TX9, 14) from rfl) rfl (fun S13 h => ?_)
        refine sh_iconst (v := 0) (pc := 48) dX9_lose_48 rfl ?_
        refine sh_istore_n (ls' := [(2, sh_I 0), (0, sh_R (9, 0, 0)), (1, sh_I a1)]) (pc := 49) dX9_lose_49 (by decide) rfl ?_
        refine sh_iconst (v := 0) (pc := 50) dX9_lose_50 rfl ?_
        refine sh_istore_n (ls' := [(3, sh_I 0), (2, sh_I 0), (0, sh_R (9, 0, 0)), (1, sh_I a1)]) (pc := 51) dX9_lose_51 (by decide) rfl ?_
        obtain ⟨Iv14, mu14, h0, hs14⟩ := h
        refine sh_pick [2, 3, 1, 0] rfl ?_
        refine sh_lp3 Iv14 mu14 (fun v15 v16 S17 => sh_V g mX9_lose 0 0 52 [(0, sh_R (9, 0, 0)), (1, sh_I a1), (2, sh_I v15), (3, sh_I v16)] [] (sh_St S17) sz (sh_ti sz Q)) (fun v15 v16 S17 hI14 ih14 => ?_) _ _ _ h0
        have h := hs14 v15 v16 S17 hI14
        clear h0
        refine sh_iload_n (pc := 52) dX9_lose_52 rfl ?_
        refine sh_aload_n (pc := 53) dX9_lose_53 rfl ?_
        refine sh_gf (pc := 54) dX9_lose_54 fl_X9_7 cf_9 ok_9_0 rfl rfl ?_
        refine sh_bipush (v := 8) (pc := 57) dX9_lose_57 rfl ?_
        refine sh_ia (pc := 59) dX9_lose_59 ok_19_0 rfl (vp_in_iff.mpr ⟨by decide, by decide⟩) ?_
        refine sh_icmp_ge (tgt := 109) (pc := 60) dX9_lose_60 (by decide) (fun hc19 => ?_) (fun hc19 => ?_)
        · have h := h.1 hc19
          refine sh_aload_n (pc := 109) dX9_lose_109 rfl ?_
          refine sh_aload_n (pc := 110) dX9_lose_110 rfl ?_
          refine sh_iload_n (pc := 111) dX9_lose_111 rfl ?_
          refine sh_bipush (v := 12) (pc := 112) dX9_lose_112 rfl ?_
          refine sh_ci (N := mX9_its) (pc := 114) dX9_lose_114 ml_X9_79 h mf_X9_its iv_X9_its ⟨Nat.le_of_ble_eq_true rfl, Nat.le_of_ble_eq_true rfl⟩ rfl rfl (Nat.le_of_ble_eq_true rfl) ok_9_0 rfl (show vwCl[9]? = some (RX9, TX9, 14) from rfl) rfl (fun r21 S20 h => ?_)
          refine sh_ci (N := mX9_ends) (pc := 117) dX9_lose_117 ml_X9_70 h mf_X9_ends iv_X9_ends ⟨Nat.le_of_ble_eq_true rfl, Nat.le_of_ble_eq_true rfl⟩ rfl rfl (Nat.le_of_ble_eq_true rfl) ok_9_0 rfl (show vwCl[9]? = some (RX9, TX9, 14) from rfl) rfl (fun r23 S22 h => ?_)
          exact sh_ret_i (pc := 120) dX9_lose_120 rfl ⟨rfl, rfl⟩ h
        · have h := h.2 hc19
          refine sh_aload_n (pc := 63) dX9_lose_63 rfl ?_
          refine sh_iload_n (pc := 64) dX9_lose_64 rfl ?_
          refine sh_iconst (v := 3) (pc := 65) dX9_lose_65 rfl ?_
          refine sh_ci (N := mX9_isCalled) (pc := 66) dX9_lose_66 ml_X9_189 h mf_X9_isCalled iv_X9_isCalled ⟨Nat.le_of_ble_eq_true rfl, Nat.le_of_ble_eq_true rfl⟩ rfl rfl (Nat.le_of_ble_eq_true rfl) ok_9_0 rfl (show vwCl[9]? = some (RX9, TX9, 14) from rfl) rfl (fun r25 S24 h => ?_)
          refine sh_if_eq (tgt := 103) (pc := 69) dX9_lose_69 (by decide) (fun hc26 => ?_) (fun hc26 => ?_)
          · have h := h.1 hc26
            obtain ⟨x27, hx27⟩ : ∃ y : Int32, y = v16 + 1 := ⟨_, rfl⟩
            have h := h x27 hx27
            refine sh_iinc (v := x27) (ls' := [(3, sh_I x27), (0, sh_R (9, 0, 0)), (1, sh_I a1), (2, sh_I v15)]) (pc := 103) dX9_lose_103 rfl hx27.symm (by decide) rfl ?_
            refine sh_goto (tgt := 52) (pc := 106) dX9_lose_106 (by decide) ?_
            refine sh_pick [1, 2, 3, 0] rfl ?_
            exact ih14 _ _ _ h.1 h.2
          · have h := h.2 hc26
            refine sh_aload_n (pc := 72) dX9_lose_72 rfl ?_
            refine sh_iload_n (pc := 73) dX9_lose_73 rfl ?_
            refine sh_bipush (v := 12) (pc := 74) dX9_lose_74 rfl ?_
            refine sh_iload_n (pc := 76) dX9_lose_76 rfl ?_
            refine sh_iadd (pc := 77) dX9_lose_77 ?_
            refine sh_iload_n (pc := 78) dX9_lose_78 rfl ?_
            refine sh_cu (N := mX9_lay) (pc := 79) dX9_lose_79 ml_X9_123 h mf_X9_lay iv_X9_lay ⟨Nat.le_of_ble_eq_true rfl, Nat.le_of_ble_eq_true rfl⟩ rfl rfl (Nat.le_of_ble_eq_true rfl) ok_9_0 rfl (show vwCl[9]? = some (RX9, TX9, 14) from rfl) rfl (fun S28 h => ?_)
            refine sh_aload_n (pc := 82) dX9_lose_82 rfl ?_
            refine sh_iload_n (pc := 83) dX9_lose_83 rfl ?_
            refine sh_bipush (v := 15) (pc := 84) dX9_lose_84 rfl ?_
            refine sh_iload_n (pc := 86) dX9_lose_86 rfl ?_
            refine sh_iadd (pc := 87) dX9_lose_87 ?_
            refine sh_iconst (v := (-1)) (pc := 88) dX9_lose_88 rfl ?_
            refine sh_cu (N := mX9_lay) (pc := 89) dX9_lose_89 ml_X9_123 h mf_X9_lay iv_X9_lay ⟨Nat.le_of_ble_eq_true rfl, Nat.le_of_ble_eq_true rfl⟩ rfl rfl (Nat.le_of_ble_eq_true rfl) ok_9_0 rfl (show vwCl[9]? = some (RX9, TX9, 14) from rfl) rfl (fun S29 h => ?_)
            refine sh_aload_n (pc := 92) dX9_lose_92 rfl ?_
            refine sh_iload_n (pc := 93) dX9_lose_93 rfl ?_
            refine sh_bipush (v := 11) (pc := 94) dX9_lose_94 rfl ?_
            refine sh_iconst (v := 1) (pc := 96) dX9_lose_96 rfl ?_
            refine sh_cu (N := mX9_more) (pc := 97) dX9_lose_97 ml_X9_42 h mf_X9_more iv_X9_more ⟨Nat.le_of_ble_eq_true rfl, Nat.le_of_ble_eq_true rfl⟩ rfl rfl (Nat.le_of_ble_eq_true rfl) ok_9_0 rfl (show vwCl[9]? = some (RX9, TX9, 14) from rfl) rfl (fun S30 h => ?_)
            obtain ⟨x31, hx31⟩ : ∃ y : Int32, y = v15 + 1 := ⟨_, rfl⟩
            have h := h x31 hx31
            refine sh_iinc (v := x31) (ls' := [(2, sh_I x31), (0, sh_R (9, 0, 0)), (1, sh_I a1), (3, sh_I v16)]) (pc := 100) dX9_lose_100 rfl hx31.symm (by decide) rfl ?_
            obtain ⟨x32, hx32⟩ : ∃ y : Int32, y = v16 + 1 := ⟨_, rfl⟩
            have h := h x32 hx32
            refine sh_iinc (v := x32) (ls' := [(3, sh_I x32), (2, sh_I x31), (0, sh_R (9, 0, 0)), (1, sh_I a1)]) (pc := 103) dX9_lose_103 rfl hx32.symm (by decide) rfl ?_
            refine sh_goto (tgt := 52) (pc := 106) dX9_lose_106 (by decide) ?_
            refine sh_pick [2, 3, 1, 0] rfl ?_
            exact ih14 _ _ _ h.1 h.2
      · have h := h.2 hc11
        refine sh_ldc (v := (-1000002)) (pc := 34) dX9_lose_34 kc_X9_78 ?_
        exact sh_ret_i (pc := 36) dX9_lose_36 rfl ⟨rfl, rfl⟩ h
  · have h := h.2 hc3
    refine sh_ldc (v := (-1000001)) (pc := 8) dX9_lose_8 kc_X9_32 ?_
    exact sh_ret_i (pc := 10) dX9_lose_10 rfl ⟨rfl, rfl⟩ h

set_option maxRecDepth 100000 in
set_option maxHeartbeats 4000000 in
theorem wp_X9_decided {g : sh_G} {S : sh_S} {sz : Nat} {Q : Int32 → sh_S → Prop} {a1 : Int32} 
    (h : (sh_Ci g mX9_its [sh_R (9, 0, 0), sh_I a1, sh_I 15] S sz (fun r2 S1 => (sh_Ci g mX9_its [sh_R (9, 0, 0), sh_I a1, sh_I 16] S1 sz (fun r4 S3 => (sh_Ci g mX9_its [sh_R (9, 0, 0), sh_I a1, sh_I 17] S3 sz (fun r6 S5 => ((r2 < 0 → ((r4 < 0 → ((r2 < 0 → Q 3 S5) ∧ (¬ r2 < 0 → ((r4 < 0 → Q 3 S5) ∧ (¬ r4 < 0 → ((r6 < 0 → Q 3 S5) ∧ (¬ r6 < 0 → Q 2 S5))))))) ∧ (¬ r4 < 0 → ((¬ r4 = r6 → ((r2 < 0 → Q 3 S5) ∧ (¬ r2 < 0 → ((r4 < 0 → Q 3 S5) ∧ (¬ r4 < 0 → ((r6 < 0 → Q 3 S5) ∧ (¬ r6 < 0 → Q 2 S5))))))) ∧ (r4 = r6 → Q r4 S5))))) ∧ (¬ r2 < 0 → ((r2 = r4 → Q r2 S5) ∧ (¬ r2 = r4 → ((¬ r2 = r6 → ((r4 < 0 → ((r2 < 0 → Q 3 S5) ∧ (¬ r2 < 0 → ((r4 < 0 → Q 3 S5) ∧ (¬ r4 < 0 → ((r6 < 0 → Q 3 S5) ∧ (¬ r6 < 0 → Q 2 S5))))))) ∧ (¬ r4 < 0 → ((¬ r4 = r6 → ((r2 < 0 → Q 3 S5) ∧ (¬ r2 < 0 → ((r4 < 0 → Q 3 S5) ∧ (¬ r4 < 0 → ((r6 < 0 → Q 3 S5) ∧ (¬ r6 < 0 → Q 2 S5))))))) ∧ (r4 = r6 → Q r4 S5))))) ∧ (r2 = r6 → Q r2 S5))))))))))))) :
    sh_Ci g mX9_decided [sh_R (9, 0, 0), sh_I a1] S sz Q := by
  refine sh_enter (ls := [(0, sh_R (9, 0, 0)), (1, sh_I a1)]) (by decide +kernel) (Nat.le_of_ble_eq_true rfl) rfl ?_
  refine sh_aload_n (pc := 0) dX9_decided_0 rfl ?_
  refine sh_iload_n (pc := 1) dX9_decided_1 rfl ?_
  refine sh_bipush (v := 15) (pc := 2) dX9_decided_2 rfl ?_
  refine sh_ci (N := mX9_its) (pc := 4) dX9_decided_4 ml_X9_79 h mf_X9_its iv_X9_its ⟨Nat.le_of_ble_eq_true rfl, Nat.le_of_ble_eq_true rfl⟩ rfl rfl (Nat.le_of_ble_eq_true rfl) ok_9_0 rfl (show vwCl[9]? = some (RX9, TX9, 14) from rfl) rfl (fun r2 S1 h => ?_)
  refine sh_istore_n (ls' := [(2, sh_I r2), (0, sh_R (9, 0, 0)), (1, sh_I a1)]) (pc := 7) dX9_decided_7 (by decide) rfl ?_
  refine sh_aload_n (pc := 8) dX9_decided_8 rfl ?_
  refine sh_iload_n (pc := 9) dX9_decided_9 rfl ?_
  refine sh_bipush (v := 16) (pc := 10) dX9_decided_10 rfl ?_
  refine sh_ci (N := mX9_its) (pc := 12) dX9_decided_12 ml_X9_79 h mf_X9_its iv_X9_its ⟨Nat.le_of_ble_eq_true rfl, Nat.le_of_ble_eq_true rfl⟩ rfl rfl (Nat.le_of_ble_eq_true rfl) ok_9_0 rfl (show vwCl[9]? = some (RX9, TX9, 14) from rfl) rfl (fun r4 S3 h => ?_)
  refine sh_istore_n (ls' := [(3, sh_I r4), (2, sh_I r2), (0, sh_R (9, 0, 0)), (1, sh_I a1)]) (pc := 15) dX9_decided_15 (by decide) rfl ?_
  refine sh_aload_n (pc := 16) dX9_decided_16 rfl ?_
  refine sh_iload_n (pc := 17) dX9_decided_17 rfl ?_
  refine sh_bipush (v := 17) (pc := 18) dX9_decided_18 rfl ?_
  refine sh_ci (N := mX9_its) (pc := 20) dX9_decided_20 ml_X9_79 h mf_X9_its iv_X9_its ⟨Nat.le_of_ble_eq_true rfl, Nat.le_of_ble_eq_true rfl⟩ rfl rfl (Nat.le_of_ble_eq_true rfl) ok_9_0 rfl (show vwCl[9]? = some (RX9, TX9, 14) from rfl) rfl (fun r6 S5 h => ?_)
  refine sh_istore (ls' := [(4, sh_I r6), (3, sh_I r4), (2, sh_I r2), (0, sh_R (9, 0, 0)), (1, sh_I a1)]) (pc := 23) dX9_decided_23 (by decide) rfl ?_
  refine sh_iload_n (pc := 25) dX9_decided_25 rfl ?_
  refine sh_if_lt (tgt := 42) (pc := 26) dX9_decided_26 (by decide) (fun hc7 => ?_) (fun hc7 => ?_)
  · have h := h.1 hc7
    refine sh_iload_n (pc := 42) dX9_decided_42 rfl ?_
    refine sh_if_lt (tgt := 54) (pc := 43) dX9_decided_43 (by decide) (fun hc8 => ?_) (fun hc8 => ?_)
    · have h := h.1 hc8
      refine sh_iload_n (pc := 54) dX9_decided_54 rfl ?_
      refine sh_if_lt (tgt := 71) (pc := 55) dX9_decided_55 (by decide) (fun hc9 => ?_) (fun hc9 => ?_)
      · have h := h.1 hc9
        refine sh_iconst (v := 3) (pc := 71) dX9_decided_71 rfl ?_
        exact sh_ret_i (pc := 72) dX9_decided_72 rfl ⟨rfl, rfl⟩ h
      · have h := h.2 hc9
        refine sh_iload_n (pc := 58) dX9_decided_58 rfl ?_
        refine sh_if_lt (tgt := 71) (pc := 59) dX9_decided_59 (by decide) (fun hc10 => ?_) (fun hc10 => ?_)
        · have h := h.1 hc10
          refine sh_iconst (v := 3) (pc := 71) dX9_decided_71 rfl ?_
          exact sh_ret_i (pc := 72) dX9_decided_72 rfl ⟨rfl, rfl⟩ h
        · have h := h.2 hc10
          refine sh_iload (pc := 62) dX9_decided_62 rfl ?_
          refine sh_if_lt (tgt := 71) (pc := 64) dX9_decided_64 (by decide) (fun hc11 => ?_) (fun hc11 => ?_)
          · have h := h.1 hc11
            refine sh_iconst (v := 3) (pc := 71) dX9_decided_71 rfl ?_
            exact sh_ret_i (pc := 72) dX9_decided_72 rfl ⟨rfl, rfl⟩ h
          · have h := h.2 hc11
            refine sh_iconst (v := 2) (pc := 67) dX9_decided_67 rfl ?_
            refine sh_goto (tgt := 72) (pc := 68) dX9_decided_68 (by decide) ?_
            exact sh_ret_i (pc := 72) dX9_decided_72 rfl ⟨rfl, rfl⟩ h
    · have h := h.2 hc8
      refine sh_iload_n (pc := 46) dX9_decided_46 rfl ?_
      refine sh_iload (pc := 47) dX9_decided_47 rfl ?_
      refine sh_icmp_ne (tgt := 54) (pc := 49) dX9_decided_49 (by decide) (fun hc12 => ?_) (fun hc12 => ?_)
      · have h := h.1 hc12
        refine sh_iload_n (pc := 54) dX9_decided_54 rfl ?_
        refine sh_if_lt (tgt := 71) (pc := 55) dX9_decided_55 (by decide) (fun hc13 => ?_) (fun hc13 => ?_)
        · have h := h.1 hc13
          refine sh_iconst (v := 3) (pc := 71) dX9_decided_71 rfl ?_
          exact sh_ret_i (pc := 72) dX9_decided_72 rfl ⟨rfl, rfl⟩ h
        · have h := h.2 hc13
          refine sh_iload_n (pc := 58) dX9_decided_58 rfl ?_
          refine sh_if_lt (tgt := 71) (pc := 59) dX9_decided_59 (by decide) (fun hc14 => ?_) (fun hc14 => ?_)
          · have h := h.1 hc14
            refine sh_iconst (v := 3) (pc := 71) dX9_decided_71 rfl ?_
            exact sh_ret_i (pc := 72) dX9_decided_72 rfl ⟨rfl, rfl⟩ h
          · have h := h.2 hc14
            refine sh_iload (pc := 62) dX9_decided_62 rfl ?_
            refine sh_if_lt (tgt := 71) (pc := 64) dX9_decided_64 (by decide) (fun hc15 => ?_) (fun hc15 => ?_)
            · have h := h.1 hc15
              refine sh_iconst (v := 3) (pc := 71) dX9_decided_71 rfl ?_
              exact sh_ret_i (pc := 72) dX9_decided_72 rfl ⟨rfl, rfl⟩ h
            · have h := h.2 hc15
              refine sh_iconst (v := 2) (pc := 67) dX9_decided_67 rfl ?_
              refine sh_goto (tgt := 72) (pc := 68) dX9_decided_68 (by decide) ?_
              exact sh_ret_i (pc := 72) dX9_decided_72 rfl ⟨rfl, rfl⟩ h
      · have h := h.2 hc12
        refine sh_iload_n (pc := 52) dX9_decided_52 rfl ?_
        exact sh_ret_i (pc := 53) dX9_decided_53 rfl ⟨rfl, rfl⟩ h
  · have h := h.2 hc7
    refine sh_iload_n (pc := 29) dX9_decided_29 rfl ?_
    refine sh_iload_n (pc := 30) dX9_decided_30 rfl ?_
    refine sh_icmp_eq (tgt := 40) (pc := 31) dX9_decided_31 (by decide) (fun hc16 => ?_) (fun hc16 => ?_)
    · have h := h.1 hc16
      refine sh_iload_n (pc := 40) dX9_decided_40 rfl ?_
      exact sh_ret_i (pc := 41) dX9_decided_41 rfl ⟨rfl, rfl⟩ h
    · have h := h.2 hc16
      refine sh_iload_n (pc := 34) dX9_decided_34 rfl ?_
      refine sh_iload (pc := 35) dX9_decided_35 rfl ?_
      refine sh_icmp_ne (tgt := 42) (pc := 37) dX9_decided_37 (by decide) (fun hc17 => ?_) (fun hc17 => ?_)
      · have h := h.1 hc17
        refine sh_iload_n (pc := 42) dX9_decided_42 rfl ?_
        refine sh_if_lt (tgt := 54) (pc := 43) dX9_decided_43 (by decide) (fun hc18 => ?_) (fun hc18 => ?_)
        · have h := h.1 hc18
          refine sh_iload_n (pc := 54) dX9_decided_54 rfl ?_
          refine sh_if_lt (tgt := 71) (pc := 55) dX9_decided_55 (by decide) (fun hc19 => ?_) (fun hc19 => ?_)
          · have h := h.1 hc19
            refine sh_iconst (v := 3) (pc := 71) dX9_decided_71 rfl ?_
            exact sh_ret_i (pc := 72) dX9_decided_72 rfl ⟨rfl, rfl⟩ h
          · have h := h.2 hc19
            refine sh_iload_n (pc := 58) dX9_decided_58 rfl ?_
            refine sh_if_lt (tgt := 71) (pc := 59) dX9_decided_59 (by decide) (fun hc20 => ?_) (fun hc20 => ?_)
            · have h := h.1 hc20
              refine sh_iconst (v := 3) (pc := 71) dX9_decided_71 rfl ?_
              exact sh_ret_i (pc := 72) dX9_decided_72 rfl ⟨rfl, rfl⟩ h
            · have h := h.2 hc20
              refine sh_iload (pc := 62) dX9_decided_62 rfl ?_
              refine sh_if_lt (tgt := 71) (pc := 64) dX9_decided_64 (by decide) (fun hc21 => ?_) (fun hc21 => ?_)
              · have h := h.1 hc21
                refine sh_iconst (v := 3) (pc := 71) dX9_decided_71 rfl ?_
                exact sh_ret_i (pc := 72) dX9_decided_72 rfl ⟨rfl, rfl⟩ h
              · have h := h.2 hc21
                refine sh_iconst (v := 2) (pc := 67) dX9_decided_67 rfl ?_
                refine sh_goto (tgt := 72) (pc := 68) dX9_decided_68 (by decide) ?_
                exact sh_ret_i (pc := 72) dX9_decided_72 rfl ⟨rfl, rfl⟩ h
        · have h := h.2 hc18
          refine sh_iload_n (pc := 46) dX9_decided_46 rfl ?_
          refine sh_iload (pc := 47) dX9_decided_47 rfl ?_
          refine sh_icmp_ne (tgt := 54) (pc := 49) dX9_decided_49 (by decide) (fun hc22 => ?_) (fun hc22 => ?_)
          · have h := h.1 hc22
            refine sh_iload_n (pc := 54) dX9_decided_54 rfl ?_
            refine sh_if_lt (tgt := 71) (pc := 55) dX9_decided_55 (by decide) (fun hc23 => ?_) (fun hc23 => ?_)
            · have h := h.1 hc23
              refine sh_iconst (v := 3) (pc := 71) dX9_decided_71 rfl ?_
              exact sh_ret_i (pc := 72) dX9_decided_72 rfl ⟨rfl, rfl⟩ h
            · have h := h.2 hc23
              refine sh_iload_n (pc := 58) dX9_decided_58 rfl ?_
              refine sh_if_lt (tgt := 71) (pc := 59) dX9_decided_59 (by decide) (fun hc24 => ?_) (fun hc24 => ?_)
              · have h := h.1 hc24
                refine sh_iconst (v := 3) (pc := 71) dX9_decided_71 rfl ?_
                exact sh_ret_i (pc := 72) dX9_decided_72 rfl ⟨rfl, rfl⟩ h
              · have h := h.2 hc24
                refine sh_iload (pc := 62) dX9_decided_62 rfl ?_
                refine sh_if_lt (tgt := 71) (pc := 64) dX9_decided_64 (by decide) (fun hc25 => ?_) (fun hc25 => ?_)
                · have h := h.1 hc25
                  refine sh_iconst (v := 3) (pc := 71) dX9_decided_71 rfl ?_
                  exact sh_ret_i (pc := 72) dX9_decided_72 rfl ⟨rfl, rfl⟩ h
                · have h := h.2 hc25
                  refine sh_iconst (v := 2) (pc := 67) dX9_decided_67 rfl ?_
                  refine sh_goto (tgt := 72) (pc := 68) dX9_decided_68 (by decide) ?_
                  exact sh_ret_i (pc := 72) dX9_decided_72 rfl ⟨rfl, rfl⟩ h
          · have h := h.2 hc22
            refine sh_iload_n (pc := 52) dX9_decided_52 rfl ?_
            exact sh_ret_i (pc := 53) dX9_decided_53 rfl ⟨rfl, rfl⟩ h
      · have h := h.2 hc17
        refine sh_iload_n (pc := 40) dX9_decided_40 rfl ?_
        exact sh_ret_i (pc := 41) dX9_decided_41 rfl ⟨rfl, rfl⟩ h

set_option maxRecDepth 100000 in
set_option maxHeartbeats 4000000 in
theorem wp_X9_paysFor {g : sh_G} {S : sh_S} {sz : Nat} {Q : sh_S → Prop} {a1 : Int32} {a2 : Int32} 
    (h : (sh_Ci g mX9_its [sh_R (9, 0, 0), sh_I a1, sh_I 4] S sz (fun r2 S1 => (sh_Ci g mX9_its [sh_R (9, 0, 0), sh_I a1, sh_I 1] S1 sz (fun r4 S3 => ((¬ a2 = 0 → ((¬ a2 = 1 → (sh_Cu g mX9_charges [sh_R (9, 0, 0), sh_I r2, sh_I (r4 - (r4 / 2)), sh_I 1] S3 sz (fun S7 => (sh_Cu g mX9_shared [sh_R (9, 0, 0), sh_I (r4 / 2), sh_I r2, sh_I 1] S7 sz (fun S8 => (sh_Cu g mX9_lay [sh_R (9, 0, 0), sh_I a1, sh_I 3, sh_I 4] S8 sz (fun S9 => (sh_Cu g mX9_lay [sh_R (9, 0, 0), sh_I a1, sh_I 18, sh_I 0] S9 sz (fun S10 => Q S10))))))))) ∧ (a2 = 1 → (sh_Cu g mX9_shared [sh_R (9, 0, 0), sh_I r4, sh_I (-1), sh_I 1] S3 sz (fun S11 => (sh_Cu g mX9_lay [sh_R (9, 0, 0), sh_I a1, sh_I 3, sh_I 4] S11 sz (fun S12 => (sh_Cu g mX9_lay [sh_R (9, 0, 0), sh_I a1, sh_I 18, sh_I 0] S12 sz (fun S13 => Q S13))))))))) ∧ (a2 = 0 → (sh_Cu g mX9_charges [sh_R (9, 0, 0), sh_I r2, sh_I r4, sh_I 1] S3 sz (fun S14 => (sh_Cu g mX9_lay [sh_R (9, 0, 0), sh_I a1, sh_I 3, sh_I 4] S14 sz (fun S15 => (sh_Cu g mX9_lay [sh_R (9, 0, 0), sh_I a1, sh_I 18, sh_I 0] S15 sz (fun S16 => Q S16))))))))))))) :
    sh_Cu g mX9_paysFor [sh_R (9, 0, 0), sh_I a1, sh_I a2] S sz Q := by
  refine sh_enter (ls := [(0, sh_R (9, 0, 0)), (1, sh_I a1), (2, sh_I a2)]) (by decide +kernel) (Nat.le_of_ble_eq_true rfl) rfl ?_
  refine sh_aload_n (pc := 0) dX9_paysFor_0 rfl ?_
  refine sh_iload_n (pc := 1) dX9_paysFor_1 rfl ?_
  refine sh_iconst (v := 4) (pc := 2) dX9_paysFor_2 rfl ?_
  refine sh_ci (N := mX9_its) (pc := 3) dX9_paysFor_3 ml_X9_79 h mf_X9_its iv_X9_its ⟨Nat.le_of_ble_eq_true rfl, Nat.le_of_ble_eq_true rfl⟩ rfl rfl (Nat.le_of_ble_eq_true rfl) ok_9_0 rfl (show vwCl[9]? = some (RX9, TX9, 14) from rfl) rfl (fun r2 S1 h => ?_)
  refine sh_istore_n (ls' := [(3, sh_I r2), (0, sh_R (9, 0, 0)), (1, sh_I a1), (2, sh_I a2)]) (pc := 6) dX9_paysFor_6 (by decide) rfl ?_
  refine sh_aload_n (pc := 7) dX9_paysFor_7 rfl ?_
  refine sh_iload_n (pc := 8) dX9_paysFor_8 rfl ?_
  refine sh_iconst (v := 1) (pc := 9) dX9_paysFor_9 rfl ?_
  refine sh_ci (N := mX9_its) (pc := 10) dX9_paysFor_10 ml_X9_79 h mf_X9_its iv_X9_its ⟨Nat.le_of_ble_eq_true rfl, Nat.le_of_ble_eq_true rfl⟩ rfl rfl (Nat.le_of_ble_eq_true rfl) ok_9_0 rfl (show vwCl[9]? = some (RX9, TX9, 14) from rfl) rfl (fun r4 S3 h => ?_)
  refine sh_istore (ls' := [(4, sh_I r4), (3, sh_I r2), (0, sh_R (9, 0, 0)), (1, sh_I a1), (2, sh_I a2)]) (pc := 13) dX9_paysFor_13 (by decide) rfl ?_
  refine sh_iload_n (pc := 15) dX9_paysFor_15 rfl ?_
  refine sh_if_ne (tgt := 30) (pc := 16) dX9_paysFor_16 (by decide) (fun hc5 => ?_) (fun hc5 => ?_)
  · have h := h.1 hc5
    refine sh_iload_n (pc := 30) dX9_paysFor_30 rfl ?_
    refine sh_iconst (v := 1) (pc := 31) dX9_paysFor_31 rfl ?_
    refine sh_icmp_ne (tgt := 46) (pc := 32) dX9_paysFor_32 (by decide) (fun hc6 => ?_) (fun hc6 => ?_)
    · have h := h.1 hc6
      refine sh_aload_n (pc := 46) dX9_paysFor_46 rfl ?_
      refine sh_iload_n (pc := 47) dX9_paysFor_47 rfl ?_
      refine sh_iload (pc := 48) dX9_paysFor_48 rfl ?_
      refine sh_iload (pc := 50) dX9_paysFor_50 rfl ?_
      refine sh_iconst (v := 2) (pc := 52) dX9_paysFor_52 rfl ?_
      refine sh_idiv (pc := 53) dX9_paysFor_53 (by decide) ?_
      refine sh_isub (pc := 54) dX9_paysFor_54 ?_
      refine sh_iconst (v := 1) (pc := 55) dX9_paysFor_55 rfl ?_
      refine sh_cu (N := mX9_charges) (pc := 56) dX9_paysFor_56 ml_X9_61 h mf_X9_charges iv_X9_charges ⟨Nat.le_of_ble_eq_true rfl, Nat.le_of_ble_eq_true rfl⟩ rfl rfl (Nat.le_of_ble_eq_true rfl) ok_9_0 rfl (show vwCl[9]? = some (RX9, TX9, 14) from rfl) rfl (fun S7 h => ?_)
      refine sh_aload_n (pc := 59) dX9_paysFor_59 rfl ?_
      refine sh_iload (pc := 60) dX9_paysFor_60 rfl ?_
      refine sh_iconst (v := 2) (pc := 62) dX9_paysFor_62 rfl ?_
      refine sh_idiv (pc := 63) dX9_paysFor_63 (by decide) ?_
      refine sh_iload_n (pc := 64) dX9_paysFor_64 rfl ?_
      refine sh_iconst (v := 1) (pc := 65) dX9_paysFor_65 rfl ?_
      refine sh_cu (N := mX9_shared) (pc := 66) dX9_paysFor_66 ml_X9_102 h mf_X9_shared iv_X9_shared ⟨Nat.le_of_ble_eq_true rfl, Nat.le_of_ble_eq_true rfl⟩ rfl rfl (Nat.le_of_ble_eq_true rfl) ok_9_0 rfl (show vwCl[9]? = some (RX9, TX9, 14) from rfl) rfl (fun S8 h => ?_)
      refine sh_aload_n (pc := 69) dX9_paysFor_69 rfl ?_
      refine sh_iload_n (pc := 70) dX9_paysFor_70 rfl ?_
      refine sh_iconst (v := 3) (pc := 71) dX9_paysFor_71 rfl ?_
      refine sh_iconst (v := 4) (pc := 72) dX9_paysFor_72 rfl ?_
      refine sh_cu (N := mX9_lay) (pc := 73) dX9_paysFor_73 ml_X9_123 h mf_X9_lay iv_X9_lay ⟨Nat.le_of_ble_eq_true rfl, Nat.le_of_ble_eq_true rfl⟩ rfl rfl (Nat.le_of_ble_eq_true rfl) ok_9_0 rfl (show vwCl[9]? = some (RX9, TX9, 14) from rfl) rfl (fun S9 h => ?_)
      refine sh_aload_n (pc := 76) dX9_paysFor_76 rfl ?_
      refine sh_iload_n (pc := 77) dX9_paysFor_77 rfl ?_
      refine sh_bipush (v := 18) (pc := 78) dX9_paysFor_78 rfl ?_
      refine sh_iconst (v := 0) (pc := 80) dX9_paysFor_80 rfl ?_
      refine sh_cu (N := mX9_lay) (pc := 81) dX9_paysFor_81 ml_X9_123 h mf_X9_lay iv_X9_lay ⟨Nat.le_of_ble_eq_true rfl, Nat.le_of_ble_eq_true rfl⟩ rfl rfl (Nat.le_of_ble_eq_true rfl) ok_9_0 rfl (show vwCl[9]? = some (RX9, TX9, 14) from rfl) rfl (fun S10 h => ?_)
      exact sh_ret_u (pc := 84) dX9_paysFor_84 rfl ⟨rfl, rfl⟩ h
    · have h := h.2 hc6
      refine sh_aload_n (pc := 35) dX9_paysFor_35 rfl ?_
      refine sh_iload (pc := 36) dX9_paysFor_36 rfl ?_
      refine sh_iconst (v := (-1)) (pc := 38) dX9_paysFor_38 rfl ?_
      refine sh_iconst (v := 1) (pc := 39) dX9_paysFor_39 rfl ?_
      refine sh_cu (N := mX9_shared) (pc := 40) dX9_paysFor_40 ml_X9_102 h mf_X9_shared iv_X9_shared ⟨Nat.le_of_ble_eq_true rfl, Nat.le_of_ble_eq_true rfl⟩ rfl rfl (Nat.le_of_ble_eq_true rfl) ok_9_0 rfl (show vwCl[9]? = some (RX9, TX9, 14) from rfl) rfl (fun S11 h => ?_)
      refine sh_goto (tgt := 69) (pc := 43) dX9_paysFor_43 (by decide) ?_
      refine sh_aload_n (pc := 69) dX9_paysFor_69 rfl ?_
      refine sh_iload_n (pc := 70) dX9_paysFor_70 rfl ?_
      refine sh_iconst (v := 3) (pc := 71) dX9_paysFor_71 rfl ?_
      refine sh_iconst (v := 4) (pc := 72) dX9_paysFor_72 rfl ?_
      refine sh_cu (N := mX9_lay) (pc := 73) dX9_paysFor_73 ml_X9_123 h mf_X9_lay iv_X9_lay ⟨Nat.le_of_ble_eq_true rfl, Nat.le_of_ble_eq_true rfl⟩ rfl rfl (Nat.le_of_ble_eq_true rfl) ok_9_0 rfl (show vwCl[9]? = some (RX9, TX9, 14) from rfl) rfl (fun S12 h => ?_)
      refine sh_aload_n (pc := 76) dX9_paysFor_76 rfl ?_
      refine sh_iload_n (pc := 77) dX9_paysFor_77 rfl ?_
      refine sh_bipush (v := 18) (pc := 78) dX9_paysFor_78 rfl ?_
      refine sh_iconst (v := 0) (pc := 80) dX9_paysFor_80 rfl ?_
      refine sh_cu (N := mX9_lay) (pc := 81) dX9_paysFor_81 ml_X9_123 h mf_X9_lay iv_X9_lay ⟨Nat.le_of_ble_eq_true rfl, Nat.le_of_ble_eq_true rfl⟩ rfl rfl (Nat.le_of_ble_eq_true rfl) ok_9_0 rfl (show vwCl[9]? = some (RX9, TX9, 14) from rfl) rfl (fun S13 h => ?_)
      exact sh_ret_u (pc := 84) dX9_paysFor_84 rfl ⟨rfl, rfl⟩ h
  · have h := h.2 hc5
    refine sh_aload_n (pc := 19) dX9_paysFor_19 rfl ?_
    refine sh_iload_n (pc := 20) dX9_paysFor_20 rfl ?_
    refine sh_iload (pc := 21) dX9_paysFor_21 rfl ?_
    refine sh_iconst (v := 1) (pc := 23) dX9_paysFor_23 rfl ?_
    refine sh_cu (N := mX9_charges) (pc := 24) dX9_paysFor_24 ml_X9_61 h mf_X9_charges iv_X9_charges ⟨Nat.le_of_ble_eq_true rfl, Nat.le_of_ble_eq_true rfl⟩ rfl rfl (Nat.le_of_ble_eq_true rfl) ok_9_0 rfl (show vwCl[9]? = some (RX9, TX9, 14) from rfl) rfl (fun S14 h => ?_)
    refine sh_goto (tgt := 69) (pc := 27) dX9_paysFor_27 (by decide) ?_
    refine sh_aload_n (pc := 69) dX9_paysFor_69 rfl ?_
    refine sh_iload_n (pc := 70) dX9_paysFor_70 rfl ?_
    refine sh_iconst (v := 3) (pc := 71) dX9_paysFor_71 rfl ?_
    refine sh_iconst (v := 4) (pc := 72) dX9_paysFor_72 rfl ?_
    refine sh_cu (N := mX9_lay) (pc := 73) dX9_paysFor_73 ml_X9_123 h mf_X9_lay iv_X9_lay ⟨Nat.le_of_ble_eq_true rfl, Nat.le_of_ble_eq_true rfl⟩ rfl rfl (Nat.le_of_ble_eq_true rfl) ok_9_0 rfl (show vwCl[9]? = some (RX9, TX9, 14) from rfl) rfl (fun S15 h => ?_)
    refine sh_aload_n (pc := 76) dX9_paysFor_76 rfl ?_
    refine sh_iload_n (pc := 77) dX9_paysFor_77 rfl ?_
    refine sh_bipush (v := 18) (pc := 78) dX9_paysFor_78 rfl ?_
    refine sh_iconst (v := 0) (pc := 80) dX9_paysFor_80 rfl ?_
    refine sh_cu (N := mX9_lay) (pc := 81) dX9_paysFor_81 ml_X9_123 h mf_X9_lay iv_X9_lay ⟨Nat.le_of_ble_eq_true rfl, Nat.le_of_ble_eq_true rfl⟩ rfl rfl (Nat.le_of_ble_eq_true rfl) ok_9_0 rfl (show vwCl[9]? = some (RX9, TX9, 14) from rfl) rfl (fun S16 h => ?_)
    exact sh_ret_u (pc := 84) dX9_paysFor_84 rfl ⟨rfl, rfl⟩ h

set_option maxRecDepth 100000 in
set_option maxHeartbeats 4000000 in
theorem wp_X9_say {g : sh_G} {S : sh_S} {sz : Nat} {Q : Int32 → sh_S → Prop} {a1 : Int32} {a2 : Int32} {a3 : Int32} 
    (h : (sh_Ci g mX9_isTool [sh_R (9, 0, 0), sh_I a1] S sz (fun r2 S1 => ((r2 = 0 → Q (-1000001) S1) ∧ (¬ r2 = 0 → (sh_Ci g mX9_isMember [sh_R (9, 0, 0), sh_I a2] S1 sz (fun r5 S4 => ((r5 = 0 → Q (-1000001) S4) ∧ (¬ r5 = 0 → (sh_Ci g mX9_in [sh_I a3, sh_I 0, sh_I 2] S4 sz (fun r8 S7 => ((¬ r8 = 0 → (sh_Ci g mX9_placeIn [sh_R (9, 0, 0), sh_I a1, sh_I a2] S7 sz (fun r11 S10 => (sh_Ci g mX9_its [sh_R (9, 0, 0), sh_I a1, sh_I 3] S10 sz (fun r13 S12 => ((¬ r13 = 2 → Q (-1000002) S12) ∧ (r13 = 2 → ((r11 < 0 → Q (-1000002) S12) ∧ (¬ r11 < 0 → (sh_Ci g mX9_its [sh_R (9, 0, 0), sh_I a1, sh_I (15 + r11)] S12 sz (fun r17 S16 => ((r17 < 0 → (sh_Cu g mX9_hold [sh_R (9, 0, 0)] S16 sz (fun S19 => (sh_Cu g mX9_lay [sh_R (9, 0, 0), sh_I a1, sh_I (15 + r11), sh_I a3] S19 sz (fun S20 => (sh_Ci g mX9_decided [sh_R (9, 0, 0), sh_I a1] S20 sz (fun r22 S21 => ((3 ≤ r22 → (sh_Ci g mX9_ends [sh_R (9, 0, 0), sh_I r22] S21 sz (fun r25 S24 => Q r25 S24))) ∧ (¬ 3 ≤ r22 → (sh_Cu g mX9_paysFor [sh_R (9, 0, 0), sh_I a1, sh_I r22] S21 sz (fun S26 => (sh_Ci g mX9_ends [sh_R (9, 0, 0), sh_I r22] S26 sz (fun r28 S27 => Q r28 S27))))))))))))) ∧ (¬ r17 < 0 → Q (-1000002) S16))))))))))))) ∧ (r8 = 0 → Q (-1000001) S7))))))))))))) :
    sh_Ci g mX9_say [sh_R (9, 0, 0), sh_I a1, sh_I a2, sh_I a3] S sz Q := by
  refine sh_enter (ls := [(0, sh_R (9, 0, 0)), (1, sh_I a1), (2, sh_I a2), (3, sh_I a3)]) (by decide +kernel) (Nat.le_of_ble_eq_true rfl) rfl ?_
  refine sh_aload_n (pc := 0) dX9_say_0 rfl ?_
  refine sh_iload_n (pc := 1) dX9_say_1 rfl ?_
  refine sh_ci (N := mX9_isTool) (pc := 2) dX9_say_2 ml_X9_132 h mf_X9_isTool iv_X9_isTool ⟨Nat.le_of_ble_eq_true rfl, Nat.le_of_ble_eq_true rfl⟩ rfl rfl (Nat.le_of_ble_eq_true rfl) ok_9_0 rfl (show vwCl[9]? = some (RX9, TX9, 14) from rfl) rfl (fun r2 S1 h => ?_)
  refine sh_if_eq (tgt := 25) (pc := 5) dX9_say_5 (by decide) (fun hc3 => ?_) (fun hc3 => ?_)
  · have h := h.1 hc3
    refine sh_ldc (v := (-1000001)) (pc := 25) dX9_say_25 kc_X9_32 ?_
    exact sh_ret_i (pc := 27) dX9_say_27 rfl ⟨rfl, rfl⟩ h
  · have h := h.2 hc3
    refine sh_aload_n (pc := 8) dX9_say_8 rfl ?_
    refine sh_iload_n (pc := 9) dX9_say_9 rfl ?_
    refine sh_ci (N := mX9_isMember) (pc := 10) dX9_say_10 ml_X9_74 h mf_X9_isMember iv_X9_isMember ⟨Nat.le_of_ble_eq_true rfl, Nat.le_of_ble_eq_true rfl⟩ rfl rfl (Nat.le_of_ble_eq_true rfl) ok_9_0 rfl (show vwCl[9]? = some (RX9, TX9, 14) from rfl) rfl (fun r5 S4 h => ?_)
    refine sh_if_eq (tgt := 25) (pc := 13) dX9_say_13 (by decide) (fun hc6 => ?_) (fun hc6 => ?_)
    · have h := h.1 hc6
      refine sh_ldc (v := (-1000001)) (pc := 25) dX9_say_25 kc_X9_32 ?_
      exact sh_ret_i (pc := 27) dX9_say_27 rfl ⟨rfl, rfl⟩ h
    · have h := h.2 hc6
      refine sh_iload_n (pc := 16) dX9_say_16 rfl ?_
      refine sh_iconst (v := 0) (pc := 17) dX9_say_17 rfl ?_
      refine sh_iconst (v := 2) (pc := 18) dX9_say_18 rfl ?_
      refine sh_si (N := mX9_in) (pc := 19) dX9_say_19 ml_X9_38 h mf_X9_in is_X9_in ⟨Nat.le_of_ble_eq_true rfl, Nat.le_of_ble_eq_true rfl⟩ rfl rfl (Nat.le_of_ble_eq_true rfl) (fun r8 S7 h => ?_)
      refine sh_if_ne (tgt := 28) (pc := 22) dX9_say_22 (by decide) (fun hc9 => ?_) (fun hc9 => ?_)
      · have h := h.1 hc9
        refine sh_aload_n (pc := 28) dX9_say_28 rfl ?_
        refine sh_iload_n (pc := 29) dX9_say_29 rfl ?_
        refine sh_iload_n (pc := 30) dX9_say_30 rfl ?_
        refine sh_ci (N := mX9_placeIn) (pc := 31) dX9_say_31 ml_X9_82 h mf_X9_placeIn iv_X9_placeIn ⟨Nat.le_of_ble_eq_true rfl, Nat.le_of_ble_eq_true rfl⟩ rfl rfl (Nat.le_of_ble_eq_true rfl) ok_9_0 rfl (show vwCl[9]? = some (RX9, TX9, 14) from rfl) rfl (fun r11 S10 h => ?_)
        refine sh_istore (ls' := [(4, sh_I r11), (0, sh_R (9, 0, 0)), (1, sh_I a1), (2, sh_I a2), (3, sh_I a3)]) (pc := 34) dX9_say_34 (by decide) rfl ?_
        refine sh_aload_n (pc := 36) dX9_say_36 rfl ?_
        refine sh_iload_n (pc := 37) dX9_say_37 rfl ?_
        refine sh_iconst (v := 3) (pc := 38) dX9_say_38 rfl ?_
        refine sh_ci (N := mX9_its) (pc := 39) dX9_say_39 ml_X9_79 h mf_X9_its iv_X9_its ⟨Nat.le_of_ble_eq_true rfl, Nat.le_of_ble_eq_true rfl⟩ rfl rfl (Nat.le_of_ble_eq_true rfl) ok_9_0 rfl (show vwCl[9]? = some (RX9, TX9, 14) from rfl) rfl (fun r13 S12 h => ?_)
        refine sh_iconst (v := 2) (pc := 42) dX9_say_42 rfl ?_
        refine sh_icmp_ne (tgt := 64) (pc := 43) dX9_say_43 (by decide) (fun hc14 => ?_) (fun hc14 => ?_)
        · have h := h.1 hc14
          refine sh_ldc (v := (-1000002)) (pc := 64) dX9_say_64 kc_X9_78 ?_
          exact sh_ret_i (pc := 66) dX9_say_66 rfl ⟨rfl, rfl⟩ h
        · have h := h.2 hc14
          refine sh_iload (pc := 46) dX9_say_46 rfl ?_
          refine sh_if_lt (tgt := 64) (pc := 48) dX9_say_48 (by decide) (fun hc15 => ?_) (fun hc15 => ?_)
          · have h := h.1 hc15
            refine sh_ldc (v := (-1000002)) (pc := 64) dX9_say_64 kc_X9_78 ?_
            exact sh_ret_i (pc := 66) dX9_say_66 rfl ⟨rfl, rfl⟩ h
          · have h := h.2 hc15
            refine sh_aload_n (pc := 51) dX9_say_51 rfl ?_
            refine sh_iload_n (pc := 52) dX9_say_52 rfl ?_
            refine sh_bipush (v := 15) (pc := 53) dX9_say_53 rfl ?_
            refine sh_iload (pc := 55) dX9_say_55 rfl ?_
            refine sh_iadd (pc := 57) dX9_say_57 ?_
            refine sh_ci (N := mX9_its) (pc := 58) dX9_say_58 ml_X9_79 h mf_X9_its iv_X9_its ⟨Nat.le_of_ble_eq_true rfl, Nat.le_of_ble_eq_true rfl⟩ rfl rfl (Nat.le_of_ble_eq_true rfl) ok_9_0 rfl (show vwCl[9]? = some (RX9, TX9, 14) from rfl) rfl (fun r17 S16 h => ?_)
            refine sh_if_lt (tgt := 67) (pc := 61) dX9_say_61 (by decide) (fun hc18 => ?_) (fun hc18 => ?_)
            · have h := h.1 hc18
              refine sh_aload_n (pc := 67) dX9_say_67 rfl ?_
              refine sh_cu (N := mX9_hold) (pc := 68) dX9_say_68 ml_X9_67 h mf_X9_hold iv_X9_hold ⟨Nat.le_of_ble_eq_true rfl, Nat.le_of_ble_eq_true rfl⟩ rfl rfl (Nat.le_of_ble_eq_true rfl) ok_9_0 rfl (show vwCl[9]? = some (RX9, TX9, 14) from rfl) rfl (fun S19 h => ?_)
              refine sh_aload_n (pc := 71) dX9_say_71 rfl ?_
              refine sh_iload_n (pc := 72) dX9_say_72 rfl ?_
              refine sh_bipush (v := 15) (pc := 73) dX9_say_73 rfl ?_
              refine sh_iload (pc := 75) dX9_say_75 rfl ?_
              refine sh_iadd (pc := 77) dX9_say_77 ?_
              refine sh_iload_n (pc := 78) dX9_say_78 rfl ?_
              refine sh_cu (N := mX9_lay) (pc := 79) dX9_say_79 ml_X9_123 h mf_X9_lay iv_X9_lay ⟨Nat.le_of_ble_eq_true rfl, Nat.le_of_ble_eq_true rfl⟩ rfl rfl (Nat.le_of_ble_eq_true rfl) ok_9_0 rfl (show vwCl[9]? = some (RX9, TX9, 14) from rfl) rfl (fun S20 h => ?_)
              refine sh_aload_n (pc := 82) dX9_say_82 rfl ?_
              refine sh_iload_n (pc := 83) dX9_say_83 rfl ?_
              refine sh_ci (N := mX9_decided) (pc := 84) dX9_say_84 ml_X9_195 h mf_X9_decided iv_X9_decided ⟨Nat.le_of_ble_eq_true rfl, Nat.le_of_ble_eq_true rfl⟩ rfl rfl (Nat.le_of_ble_eq_true rfl) ok_9_0 rfl (show vwCl[9]? = some (RX9, TX9, 14) from rfl) rfl (fun r22 S21 h => ?_)
              refine sh_istore (ls' := [(5, sh_I r22), (4, sh_I r11), (0, sh_R (9, 0, 0)), (1, sh_I a1), (2, sh_I a2), (3, sh_I a3)]) (pc := 87) dX9_say_87 (by decide) rfl ?_
              refine sh_iload (pc := 89) dX9_say_89 rfl ?_
              refine sh_iconst (v := 3) (pc := 91) dX9_say_91 rfl ?_
              refine sh_icmp_ge (tgt := 102) (pc := 92) dX9_say_92 (by decide) (fun hc23 => ?_) (fun hc23 => ?_)
              · have h := h.1 hc23
                refine sh_aload_n (pc := 102) dX9_say_102 rfl ?_
                refine sh_iload (pc := 103) dX9_say_103 rfl ?_
                refine sh_ci (N := mX9_ends) (pc := 105) dX9_say_105 ml_X9_70 h mf_X9_ends iv_X9_ends ⟨Nat.le_of_ble_eq_true rfl, Nat.le_of_ble_eq_true rfl⟩ rfl rfl (Nat.le_of_ble_eq_true rfl) ok_9_0 rfl (show vwCl[9]? = some (RX9, TX9, 14) from rfl) rfl (fun r25 S24 h => ?_)
                exact sh_ret_i (pc := 108) dX9_say_108 rfl ⟨rfl, rfl⟩ h
              · have h := h.2 hc23
                refine sh_aload_n (pc := 95) dX9_say_95 rfl ?_
                refine sh_iload_n (pc := 96) dX9_say_96 rfl ?_
                refine sh_iload (pc := 97) dX9_say_97 rfl ?_
                refine sh_cu (N := mX9_paysFor) (pc := 99) dX9_say_99 ml_X9_198 h mf_X9_paysFor iv_X9_paysFor ⟨Nat.le_of_ble_eq_true rfl, Nat.le_of_ble_eq_true rfl⟩ rfl rfl (Nat.le_of_ble_eq_true rfl) ok_9_0 rfl (show vwCl[9]? = some (RX9, TX9, 14) from rfl) rfl (fun S26 h => ?_)
                refine sh_aload_n (pc := 102) dX9_say_102 rfl ?_
                refine sh_iload (pc := 103) dX9_say_103 rfl ?_
                refine sh_ci (N := mX9_ends) (pc := 105) dX9_say_105 ml_X9_70 h mf_X9_ends iv_X9_ends ⟨Nat.le_of_ble_eq_true rfl, Nat.le_of_ble_eq_true rfl⟩ rfl rfl (Nat.le_of_ble_eq_true rfl) ok_9_0 rfl (show vwCl[9]? = some (RX9, TX9, 14) from rfl) rfl (fun r28 S27 h => ?_)
                exact sh_ret_i (pc := 108) dX9_say_108 rfl ⟨rfl, rfl⟩ h
            · have h := h.2 hc18
              refine sh_ldc (v := (-1000002)) (pc := 64) dX9_say_64 kc_X9_78 ?_
              exact sh_ret_i (pc := 66) dX9_say_66 rfl ⟨rfl, rfl⟩ h
      · have h := h.2 hc9
        refine sh_ldc (v := (-1000001)) (pc := 25) dX9_say_25 kc_X9_32 ?_
        exact sh_ret_i (pc := 27) dX9_say_27 rfl ⟨rfl, rfl⟩ h

set_option maxRecDepth 100000 in
set_option maxHeartbeats 4000000 in
theorem wp_X9_find {g : sh_G} {S : sh_S} {sz : Nat} {Q : Int32 → sh_S → Prop} {a1 : Int32} 
    (h : (sh_Ci g mX9_isTool [sh_R (9, 0, 0), sh_I a1] S sz (fun r2 S1 => ((¬ r2 = 0 → (sh_Ci g mX9_its [sh_R (9, 0, 0), sh_I a1, sh_I 3] S1 sz (fun r5 S4 => ((r5 = 2 → (sh_Cu g mX9_hold [sh_R (9, 0, 0)] S4 sz (fun S7 => (∃ (Iv8 : Int32 → Int32 → sh_S → Prop) (mu8 : Int32 → Int32 → sh_S → Nat), Iv8 0 0 S7 ∧ ∀ (v9 : Int32) (v10 : Int32) (S11 : sh_S), Iv8 v9 v10 S11 → ((3 ≤ v10 → (sh_Cu g mX9_lay [sh_R (9, 0, 0), sh_I a1, sh_I 3, sh_I 0] S11 sz (fun S13 => (sh_Ci g mX9_ends [sh_R (9, 0, 0), sh_I v9] S13 sz (fun r15 S14 => Q r15 S14))))) ∧ (¬ 3 ≤ v10 → (sh_Ci g mX9_its [sh_R (9, 0, 0), sh_I a1, sh_I (15 + v10)] S11 sz (fun r17 S16 => ((r17 < 0 → (∀ x19 : Int32, x19 = (v9 + 0) → (∀ x20 : Int32, x20 = v10 + 1 → (Iv8 x19 x20 S16 ∧ mu8 x19 x20 S16 < mu8 v9 v10 S11)))) ∧ (¬ r17 < 0 → (∀ x21 : Int32, x21 = (v9 + 1) → (∀ x22 : Int32, x22 = v10 + 1 → (Iv8 x21 x22 S16 ∧ mu8 x21 x22 S16 < mu8 v9 v10 S11))))))))))))) ∧ (¬ r5 = 2 → Q (-1000002) S4))))) ∧ (r2 = 0 → Q (-1000001) S1))))) :
    sh_Ci g mX9_find [sh_R (9, 0, 0), sh_I a1] S sz Q := by
  refine sh_enter (ls := [(0, sh_R (9, 0, 0)), (1, sh_I a1)]) (by decide +kernel) (Nat.le_of_ble_eq_true rfl) rfl ?_
  refine sh_aload_n (pc := 0) dX9_find_0 rfl ?_
  refine sh_iload_n (pc := 1) dX9_find_1 rfl ?_
  refine sh_ci (N := mX9_isTool) (pc := 2) dX9_find_2 ml_X9_132 h mf_X9_isTool iv_X9_isTool ⟨Nat.le_of_ble_eq_true rfl, Nat.le_of_ble_eq_true rfl⟩ rfl rfl (Nat.le_of_ble_eq_true rfl) ok_9_0 rfl (show vwCl[9]? = some (RX9, TX9, 14) from rfl) rfl (fun r2 S1 h => ?_)
  refine sh_if_ne (tgt := 11) (pc := 5) dX9_find_5 (by decide) (fun hc3 => ?_) (fun hc3 => ?_)
  · have h := h.1 hc3
    refine sh_aload_n (pc := 11) dX9_find_11 rfl ?_
    refine sh_iload_n (pc := 12) dX9_find_12 rfl ?_
    refine sh_iconst (v := 3) (pc := 13) dX9_find_13 rfl ?_
    refine sh_ci (N := mX9_its) (pc := 14) dX9_find_14 ml_X9_79 h mf_X9_its iv_X9_its ⟨Nat.le_of_ble_eq_true rfl, Nat.le_of_ble_eq_true rfl⟩ rfl rfl (Nat.le_of_ble_eq_true rfl) ok_9_0 rfl (show vwCl[9]? = some (RX9, TX9, 14) from rfl) rfl (fun r5 S4 h => ?_)
    refine sh_iconst (v := 2) (pc := 17) dX9_find_17 rfl ?_
    refine sh_icmp_eq (tgt := 24) (pc := 18) dX9_find_18 (by decide) (fun hc6 => ?_) (fun hc6 => ?_)
    · have h := h.1 hc6
      refine sh_aload_n (pc := 24) dX9_find_24 rfl ?_
      refine sh_cu (N := mX9_hold) (pc := 25) dX9_find_25 ml_X9_67 h mf_X9_hold iv_X9_hold ⟨Nat.le_of_ble_eq_true rfl, Nat.le_of_ble_eq_true rfl⟩ rfl rfl (Nat.le_of_ble_eq_true rfl) ok_9_0 rfl (show vwCl[9]? = some (RX9, TX9, 14) from rfl) rfl (fun S7 h => ?_)
      refine sh_iconst (v := 0) (pc := 28) dX9_find_28 rfl ?_
      refine sh_istore_n (ls' := [(2, sh_I 0), (0, sh_R (9, 0, 0)), (1, sh_I a1)]) (pc := 29) dX9_find_29 (by decide) rfl ?_
      refine sh_iconst (v := 0) (pc := 30) dX9_find_30 rfl ?_
      refine sh_istore_n (ls' := [(3, sh_I 0), (2, sh_I 0), (0, sh_R (9, 0, 0)), (1, sh_I a1)]) (pc := 31) dX9_find_31 (by decide) rfl ?_
      obtain ⟨Iv8, mu8, h0, hs8⟩ := h
      refine sh_pick [2, 3, 1, 0] rfl ?_
      refine sh_lp3 Iv8 mu8 (fun v9 v10 S11 => sh_V g mX9_find 0 0 32 [(0, sh_R (9, 0, 0)), (1, sh_I a1), (2, sh_I v9), (3, sh_I v10)] [] (sh_St S11) sz (sh_ti sz Q)) (fun v9 v10 S11 hI8 ih8 => ?_) _ _ _ h0
      have h := hs8 v9 v10 S11 hI8
      clear h0
      refine sh_iload_n (pc := 32) dX9_find_32 rfl ?_
      refine sh_iconst (v := 3) (pc := 33) dX9_find_33 rfl ?_
      refine sh_icmp_ge (tgt := 63) (pc := 34) dX9_find_34 (by decide) (fun hc12 => ?_) (fun hc12 => ?_)
      · have h := h.1 hc12
        refine sh_aload_n (pc := 63) dX9_find_63 rfl ?_
        refine sh_iload_n (pc := 64) dX9_find_64 rfl ?_
        refine sh_iconst (v := 3) (pc := 65) dX9_find_65 rfl ?_
        refine sh_iconst (v := 0) (pc := 66) dX9_find_66 rfl ?_
        refine sh_cu (N := mX9_lay) (pc := 67) dX9_find_67 ml_X9_123 h mf_X9_lay iv_X9_lay ⟨Nat.le_of_ble_eq_true rfl, Nat.le_of_ble_eq_true rfl⟩ rfl rfl (Nat.le_of_ble_eq_true rfl) ok_9_0 rfl (show vwCl[9]? = some (RX9, TX9, 14) from rfl) rfl (fun S13 h => ?_)
        refine sh_aload_n (pc := 70) dX9_find_70 rfl ?_
        refine sh_iload_n (pc := 71) dX9_find_71 rfl ?_
        refine sh_ci (N := mX9_ends) (pc := 72) dX9_find_72 ml_X9_70 h mf_X9_ends iv_X9_ends ⟨Nat.le_of_ble_eq_true rfl, Nat.le_of_ble_eq_true rfl⟩ rfl rfl (Nat.le_of_ble_eq_true rfl) ok_9_0 rfl (show vwCl[9]? = some (RX9, TX9, 14) from rfl) rfl (fun r15 S14 h => ?_)
        exact sh_ret_i (pc := 75) dX9_find_75 rfl ⟨rfl, rfl⟩ h
      · have h := h.2 hc12
        refine sh_iload_n (pc := 37) dX9_find_37 rfl ?_
        refine sh_aload_n (pc := 38) dX9_find_38 rfl ?_
        refine sh_iload_n (pc := 39) dX9_find_39 rfl ?_
        refine sh_bipush (v := 15) (pc := 40) dX9_find_40 rfl ?_
        refine sh_iload_n (pc := 42) dX9_find_42 rfl ?_
        refine sh_iadd (pc := 43) dX9_find_43 ?_
        refine sh_ci (N := mX9_its) (pc := 44) dX9_find_44 ml_X9_79 h mf_X9_its iv_X9_its ⟨Nat.le_of_ble_eq_true rfl, Nat.le_of_ble_eq_true rfl⟩ rfl rfl (Nat.le_of_ble_eq_true rfl) ok_9_0 rfl (show vwCl[9]? = some (RX9, TX9, 14) from rfl) rfl (fun r17 S16 h => ?_)
        refine sh_if_lt (tgt := 54) (pc := 47) dX9_find_47 (by decide) (fun hc18 => ?_) (fun hc18 => ?_)
        · have h := h.1 hc18
          refine sh_iconst (v := 0) (pc := 54) dX9_find_54 rfl ?_
          refine sh_iadd (pc := 55) dX9_find_55 ?_
          refine sh_topI (fun x19 hx19 => ?_)
          have h := h x19 hx19
          refine sh_istore_n (ls' := [(2, sh_I x19), (0, sh_R (9, 0, 0)), (1, sh_I a1), (3, sh_I v10)]) (pc := 56) dX9_find_56 (by decide) rfl ?_
          obtain ⟨x20, hx20⟩ : ∃ y : Int32, y = v10 + 1 := ⟨_, rfl⟩
          have h := h x20 hx20
          refine sh_iinc (v := x20) (ls' := [(3, sh_I x20), (2, sh_I x19), (0, sh_R (9, 0, 0)), (1, sh_I a1)]) (pc := 57) dX9_find_57 rfl hx20.symm (by decide) rfl ?_
          refine sh_goto (tgt := 32) (pc := 60) dX9_find_60 (by decide) ?_
          refine sh_pick [2, 3, 1, 0] rfl ?_
          exact ih8 _ _ _ h.1 h.2
        · have h := h.2 hc18
          refine sh_iconst (v := 1) (pc := 50) dX9_find_50 rfl ?_
          refine sh_goto (tgt := 55) (pc := 51) dX9_find_51 (by decide) ?_
          refine sh_iadd (pc := 55) dX9_find_55 ?_
          refine sh_topI (fun x21 hx21 => ?_)
          have h := h x21 hx21
          refine sh_istore_n (ls' := [(2, sh_I x21), (0, sh_R (9, 0, 0)), (1, sh_I a1), (3, sh_I v10)]) (pc := 56) dX9_find_56 (by decide) rfl ?_
          obtain ⟨x22, hx22⟩ : ∃ y : Int32, y = v10 + 1 := ⟨_, rfl⟩
          have h := h x22 hx22
          refine sh_iinc (v := x22) (ls' := [(3, sh_I x22), (2, sh_I x21), (0, sh_R (9, 0, 0)), (1, sh_I a1)]) (pc := 57) dX9_find_57 rfl hx22.symm (by decide) rfl ?_
          refine sh_goto (tgt := 32) (pc := 60) dX9_find_60 (by decide) ?_
          refine sh_pick [2, 3, 1, 0] rfl ?_
          exact ih8 _ _ _ h.1 h.2
    · have h := h.2 hc6
      refine sh_ldc (v := (-1000002)) (pc := 21) dX9_find_21 kc_X9_78 ?_
      exact sh_ret_i (pc := 23) dX9_find_23 rfl ⟨rfl, rfl⟩ h
  · have h := h.2 hc3
    refine sh_ldc (v := (-1000001)) (pc := 8) dX9_find_8 kc_X9_32 ?_
    exact sh_ret_i (pc := 10) dX9_find_10 rfl ⟨rfl, rfl⟩ h

set_option maxRecDepth 100000 in
set_option maxHeartbeats 4000000 in
theorem wp_X9_panelAt {g : sh_G} {S : sh_S} {sz : Nat} {Q : Int32 → sh_S → Prop} {a1 : Int32} {a2 : Int32} {a3 : Int32} 
    (h : (sh_Ci g mX9_isTool [sh_R (9, 0, 0), sh_I a1] S sz (fun r2 S1 => ((r2 = 0 → Q (-1000001) S1) ∧ (¬ r2 = 0 → (sh_Ci g mX9_in [sh_I a2, sh_I 0, sh_I 2] S1 sz (fun r5 S4 => ((r5 = 0 → Q (-1000001) S4) ∧ (¬ r5 = 0 → (sh_Ci g mX9_in [sh_I a3, sh_I 0, sh_I 1] S4 sz (fun r8 S7 => ((¬ r8 = 0 → ((¬ a3 = 0 → (sh_Ci g mX9_its [sh_R (9, 0, 0), sh_I a1, sh_I (15 + a2)] S7 sz (fun r12 S11 => (sh_Ci g mX9_its [sh_R (9, 0, 0), sh_I a1, sh_I 3] S11 sz (fun r14 S13 => ((¬ r14 = 2 → Q (-1000004) S13) ∧ (r14 = 2 → ((0 ≤ r12 → Q r12 S13) ∧ (¬ 0 ≤ r12 → Q (-1000004) S13))))))))) ∧ (a3 = 0 → (sh_Ci g mX9_its [sh_R (9, 0, 0), sh_I a1, sh_I (12 + a2)] S7 sz (fun r18 S17 => (sh_Ci g mX9_its [sh_R (9, 0, 0), sh_I a1, sh_I 3] S17 sz (fun r20 S19 => ((¬ r20 = 2 → Q (-1000004) S19) ∧ (r20 = 2 → ((0 ≤ r18 → Q r18 S19) ∧ (¬ 0 ≤ r18 → Q (-1000004) S19))))))))))) ∧ (r8 = 0 → Q (-1000001) S7))))))))))))) :
    sh_Ci g mX9_panelAt [sh_R (9, 0, 0), sh_I a1, sh_I a2, sh_I a3] S sz Q := by
  refine sh_enter (ls := [(0, sh_R (9, 0, 0)), (1, sh_I a1), (2, sh_I a2), (3, sh_I a3)]) (by decide +kernel) (Nat.le_of_ble_eq_true rfl) rfl ?_
  refine sh_aload_n (pc := 0) dX9_panelAt_0 rfl ?_
  refine sh_iload_n (pc := 1) dX9_panelAt_1 rfl ?_
  refine sh_ci (N := mX9_isTool) (pc := 2) dX9_panelAt_2 ml_X9_132 h mf_X9_isTool iv_X9_isTool ⟨Nat.le_of_ble_eq_true rfl, Nat.le_of_ble_eq_true rfl⟩ rfl rfl (Nat.le_of_ble_eq_true rfl) ok_9_0 rfl (show vwCl[9]? = some (RX9, TX9, 14) from rfl) rfl (fun r2 S1 h => ?_)
  refine sh_if_eq (tgt := 26) (pc := 5) dX9_panelAt_5 (by decide) (fun hc3 => ?_) (fun hc3 => ?_)
  · have h := h.1 hc3
    refine sh_ldc (v := (-1000001)) (pc := 26) dX9_panelAt_26 kc_X9_32 ?_
    exact sh_ret_i (pc := 28) dX9_panelAt_28 rfl ⟨rfl, rfl⟩ h
  · have h := h.2 hc3
    refine sh_iload_n (pc := 8) dX9_panelAt_8 rfl ?_
    refine sh_iconst (v := 0) (pc := 9) dX9_panelAt_9 rfl ?_
    refine sh_iconst (v := 2) (pc := 10) dX9_panelAt_10 rfl ?_
    refine sh_si (N := mX9_in) (pc := 11) dX9_panelAt_11 ml_X9_38 h mf_X9_in is_X9_in ⟨Nat.le_of_ble_eq_true rfl, Nat.le_of_ble_eq_true rfl⟩ rfl rfl (Nat.le_of_ble_eq_true rfl) (fun r5 S4 h => ?_)
    refine sh_if_eq (tgt := 26) (pc := 14) dX9_panelAt_14 (by decide) (fun hc6 => ?_) (fun hc6 => ?_)
    · have h := h.1 hc6
      refine sh_ldc (v := (-1000001)) (pc := 26) dX9_panelAt_26 kc_X9_32 ?_
      exact sh_ret_i (pc := 28) dX9_panelAt_28 rfl ⟨rfl, rfl⟩ h
    · have h := h.2 hc6
      refine sh_iload_n (pc := 17) dX9_panelAt_17 rfl ?_
      refine sh_iconst (v := 0) (pc := 18) dX9_panelAt_18 rfl ?_
      refine sh_iconst (v := 1) (pc := 19) dX9_panelAt_19 rfl ?_
      refine sh_si (N := mX9_in) (pc := 20) dX9_panelAt_20 ml_X9_38 h mf_X9_in is_X9_in ⟨Nat.le_of_ble_eq_true rfl, Nat.le_of_ble_eq_true rfl⟩ rfl rfl (Nat.le_of_ble_eq_true rfl) (fun r8 S7 h => ?_)
      refine sh_if_ne (tgt := 29) (pc := 23) dX9_panelAt_23 (by decide) (fun hc9 => ?_) (fun hc9 => ?_)
      · have h := h.1 hc9
        refine sh_aload_n (pc := 29) dX9_panelAt_29 rfl ?_
        refine sh_iload_n (pc := 30) dX9_panelAt_30 rfl ?_
        refine sh_iload_n (pc := 31) dX9_panelAt_31 rfl ?_
        refine sh_if_ne (tgt := 40) (pc := 32) dX9_panelAt_32 (by decide) (fun hc10 => ?_) (fun hc10 => ?_)
        · have h := h.1 hc10
          refine sh_bipush (v := 15) (pc := 40) dX9_panelAt_40 rfl ?_
          refine sh_iload_n (pc := 42) dX9_panelAt_42 rfl ?_
          refine sh_iadd (pc := 43) dX9_panelAt_43 ?_
          refine sh_ci (N := mX9_its) (pc := 44) dX9_panelAt_44 ml_X9_79 h mf_X9_its iv_X9_its ⟨Nat.le_of_ble_eq_true rfl, Nat.le_of_ble_eq_true rfl⟩ rfl rfl (Nat.le_of_ble_eq_true rfl) ok_9_0 rfl (show vwCl[9]? = some (RX9, TX9, 14) from rfl) rfl (fun r12 S11 h => ?_)
          refine sh_istore (ls' := [(4, sh_I r12), (0, sh_R (9, 0, 0)), (1, sh_I a1), (2, sh_I a2), (3, sh_I a3)]) (pc := 47) dX9_panelAt_47 (by decide) rfl ?_
          refine sh_aload_n (pc := 49) dX9_panelAt_49 rfl ?_
          refine sh_iload_n (pc := 50) dX9_panelAt_50 rfl ?_
          refine sh_iconst (v := 3) (pc := 51) dX9_panelAt_51 rfl ?_
          refine sh_ci (N := mX9_its) (pc := 52) dX9_panelAt_52 ml_X9_79 h mf_X9_its iv_X9_its ⟨Nat.le_of_ble_eq_true rfl, Nat.le_of_ble_eq_true rfl⟩ rfl rfl (Nat.le_of_ble_eq_true rfl) ok_9_0 rfl (show vwCl[9]? = some (RX9, TX9, 14) from rfl) rfl (fun r14 S13 h => ?_)
          refine sh_iconst (v := 2) (pc := 55) dX9_panelAt_55 rfl ?_
          refine sh_icmp_ne (tgt := 64) (pc := 56) dX9_panelAt_56 (by decide) (fun hc15 => ?_) (fun hc15 => ?_)
          · have h := h.1 hc15
            refine sh_ldc (v := (-1000004)) (pc := 64) dX9_panelAt_64 kc_X9_33 ?_
            refine sh_goto (tgt := 71) (pc := 66) dX9_panelAt_66 (by decide) ?_
            exact sh_ret_i (pc := 71) dX9_panelAt_71 rfl ⟨rfl, rfl⟩ h
          · have h := h.2 hc15
            refine sh_iload (pc := 59) dX9_panelAt_59 rfl ?_
            refine sh_if_ge (tgt := 69) (pc := 61) dX9_panelAt_61 (by decide) (fun hc16 => ?_) (fun hc16 => ?_)
            · have h := h.1 hc16
              refine sh_iload (pc := 69) dX9_panelAt_69 rfl ?_
              exact sh_ret_i (pc := 71) dX9_panelAt_71 rfl ⟨rfl, rfl⟩ h
            · have h := h.2 hc16
              refine sh_ldc (v := (-1000004)) (pc := 64) dX9_panelAt_64 kc_X9_33 ?_
              refine sh_goto (tgt := 71) (pc := 66) dX9_panelAt_66 (by decide) ?_
              exact sh_ret_i (pc := 71) dX9_panelAt_71 rfl ⟨rfl, rfl⟩ h
        · have h := h.2 hc10
          refine sh_bipush (v := 12) (pc := 35) dX9_panelAt_35 rfl ?_
          refine sh_goto (tgt := 42) (pc := 37) dX9_panelAt_37 (by decide) ?_
          refine sh_iload_n (pc := 42) dX9_panelAt_42 rfl ?_
          refine sh_iadd (pc := 43) dX9_panelAt_43 ?_
          refine sh_ci (N := mX9_its) (pc := 44) dX9_panelAt_44 ml_X9_79 h mf_X9_its iv_X9_its ⟨Nat.le_of_ble_eq_true rfl, Nat.le_of_ble_eq_true rfl⟩ rfl rfl (Nat.le_of_ble_eq_true rfl) ok_9_0 rfl (show vwCl[9]? = some (RX9, TX9, 14) from rfl) rfl (fun r18 S17 h => ?_)
          refine sh_istore (ls' := [(4, sh_I r18), (0, sh_R (9, 0, 0)), (1, sh_I a1), (2, sh_I a2), (3, sh_I a3)]) (pc := 47) dX9_panelAt_47 (by decide) rfl ?_
          refine sh_aload_n (pc := 49) dX9_panelAt_49 rfl ?_
          refine sh_iload_n (pc := 50) dX9_panelAt_50 rfl ?_
          refine sh_iconst (v := 3) (pc := 51) dX9_panelAt_51 rfl ?_
          refine sh_ci (N := mX9_its) (pc := 52) dX9_panelAt_52 ml_X9_79 h mf_X9_its iv_X9_its ⟨Nat.le_of_ble_eq_true rfl, Nat.le_of_ble_eq_true rfl⟩ rfl rfl (Nat.le_of_ble_eq_true rfl) ok_9_0 rfl (show vwCl[9]? = some (RX9, TX9, 14) from rfl) rfl (fun r20 S19 h => ?_)
          refine sh_iconst (v := 2) (pc := 55) dX9_panelAt_55 rfl ?_
          refine sh_icmp_ne (tgt := 64) (pc := 56) dX9_panelAt_56 (by decide) (fun hc21 => ?_) (fun hc21 => ?_)
          · have h := h.1 hc21
            refine sh_ldc (v := (-1000004)) (pc := 64) dX9_panelAt_64 kc_X9_33 ?_
            refine sh_goto (tgt := 71) (pc := 66) dX9_panelAt_66 (by decide) ?_
            exact sh_ret_i (pc := 71) dX9_panelAt_71 rfl ⟨rfl, rfl⟩ h
          · have h := h.2 hc21
            refine sh_iload (pc := 59) dX9_panelAt_59 rfl ?_
            refine sh_if_ge (tgt := 69) (pc := 61) dX9_panelAt_61 (by decide) (fun hc22 => ?_) (fun hc22 => ?_)
            · have h := h.1 hc22
              refine sh_iload (pc := 69) dX9_panelAt_69 rfl ?_
              exact sh_ret_i (pc := 71) dX9_panelAt_71 rfl ⟨rfl, rfl⟩ h
            · have h := h.2 hc22
              refine sh_ldc (v := (-1000004)) (pc := 64) dX9_panelAt_64 kc_X9_33 ?_
              refine sh_goto (tgt := 71) (pc := 66) dX9_panelAt_66 (by decide) ?_
              exact sh_ret_i (pc := 71) dX9_panelAt_71 rfl ⟨rfl, rfl⟩ h
      · have h := h.2 hc9
        refine sh_ldc (v := (-1000001)) (pc := 26) dX9_panelAt_26 kc_X9_32 ?_
        exact sh_ret_i (pc := 28) dX9_panelAt_28 rfl ⟨rfl, rfl⟩ h

set_option maxRecDepth 100000 in
set_option maxHeartbeats 4000000 in
theorem wp_X9_propose {g : sh_G} {S : sh_S} {sz : Nat} {Q : Int32 → sh_S → Prop} {a1 : Int32} {a2 : Int32} {a3 : Int32} 
    (h : (sh_Ci g mX9_isTool [sh_R (9, 0, 0), sh_I a1] S sz (fun r2 S1 => ((r2 = 0 → Q (-1000001) S1) ∧ (¬ r2 = 0 → (sh_Ci g mX9_in [sh_I a2, sh_I 1, sh_I 400] S1 sz (fun r5 S4 => ((r5 = 0 → Q (-1000001) S4) ∧ (¬ r5 = 0 → (sh_Ci g mX9_its [sh_R (9, 0, 0), sh_I a1, sh_I 2] S4 sz (fun r8 S7 => (sh_Ci g mX9_in [sh_I a3, sh_I 1, sh_I r8] S7 sz (fun r10 S9 => ((¬ r10 = 0 → (sh_Ci g mX9_its [sh_R (9, 0, 0), sh_I a1, sh_I 3] S9 sz (fun r13 S12 => ((r13 = 4 → Q (-1000002) S12) ∧ (¬ r13 = 4 → (sh_Ci g mX9_its [sh_R (9, 0, 0), sh_I a1, sh_I 18] S12 sz (fun r16 S15 => ((0 < r16 → Q (-1000002) S15) ∧ (¬ 0 < r16 → (sh_Ci g mX9_sharing [sh_R (9, 0, 0), sh_I (-1)] S15 sz (fun r19 S18 => ((¬ r19 = 0 → (sh_Cu g mX9_hold [sh_R (9, 0, 0)] S18 sz (fun S21 => (sh_Cu g mX9_lay [sh_R (9, 0, 0), sh_I a1, sh_I 18, sh_I a2] S21 sz (fun S22 => (sh_Cu g mX9_lay [sh_R (9, 0, 0), sh_I a1, sh_I 19, sh_I a3] S22 sz (fun S23 => (sh_Cu g mX9_lay [sh_R (9, 0, 0), sh_I a1, sh_I 20, sh_I ((S23 (19, 0, 0) 7) + (S23 (19, 0, 0) 6))] S23 sz (fun S26 => (sh_Cu g mX9_lay [sh_R (9, 0, 0), sh_I a1, sh_I 21, sh_I 0] S26 sz (fun S27 => (sh_Cu g mX9_lay [sh_R (9, 0, 0), sh_I a1, sh_I 22, sh_I 0] S27 sz (fun S28 => (sh_Ci g mX9_its [sh_R (9, 0, 0), sh_I a1, sh_I 20] S28 sz (fun r30 S29 => (sh_Ci g mX9_ends [sh_R (9, 0, 0), sh_I r30] S29 sz (fun r32 S31 => Q r32 S31))))))))))))))))) ∧ (r19 = 0 → Q (-1000002) S18))))))))))))) ∧ (r10 = 0 → Q (-1000001) S9))))))))))))))) :
    sh_Ci g mX9_propose [sh_R (9, 0, 0), sh_I a1, sh_I a2, sh_I a3] S sz Q := by
  refine sh_enter (ls := [(0, sh_R (9, 0, 0)), (1, sh_I a1), (2, sh_I a2), (3, sh_I a3)]) (by decide +kernel) (Nat.le_of_ble_eq_true rfl) rfl ?_
  refine sh_aload_n (pc := 0) dX9_propose_0 rfl ?_
  refine sh_iload_n (pc := 1) dX9_propose_1 rfl ?_
  refine sh_ci (N := mX9_isTool) (pc := 2) dX9_propose_2 ml_X9_132 h mf_X9_isTool iv_X9_isTool ⟨Nat.le_of_ble_eq_true rfl, Nat.le_of_ble_eq_true rfl⟩ rfl rfl (Nat.le_of_ble_eq_true rfl) ok_9_0 rfl (show vwCl[9]? = some (RX9, TX9, 14) from rfl) rfl (fun r2 S1 h => ?_)
  refine sh_if_eq (tgt := 33) (pc := 5) dX9_propose_5 (by decide) (fun hc3 => ?_) (fun hc3 => ?_)
  · have h := h.1 hc3
    refine sh_ldc (v := (-1000001)) (pc := 33) dX9_propose_33 kc_X9_32 ?_
    exact sh_ret_i (pc := 35) dX9_propose_35 rfl ⟨rfl, rfl⟩ h
  · have h := h.2 hc3
    refine sh_iload_n (pc := 8) dX9_propose_8 rfl ?_
    refine sh_iconst (v := 1) (pc := 9) dX9_propose_9 rfl ?_
    refine sh_sipush (v := 400) (pc := 10) dX9_propose_10 rfl ?_
    refine sh_si (N := mX9_in) (pc := 13) dX9_propose_13 ml_X9_38 h mf_X9_in is_X9_in ⟨Nat.le_of_ble_eq_true rfl, Nat.le_of_ble_eq_true rfl⟩ rfl rfl (Nat.le_of_ble_eq_true rfl) (fun r5 S4 h => ?_)
    refine sh_if_eq (tgt := 33) (pc := 16) dX9_propose_16 (by decide) (fun hc6 => ?_) (fun hc6 => ?_)
    · have h := h.1 hc6
      refine sh_ldc (v := (-1000001)) (pc := 33) dX9_propose_33 kc_X9_32 ?_
      exact sh_ret_i (pc := 35) dX9_propose_35 rfl ⟨rfl, rfl⟩ h
    · have h := h.2 hc6
      refine sh_iload_n (pc := 19) dX9_propose_19 rfl ?_
      refine sh_iconst (v := 1) (pc := 20) dX9_propose_20 rfl ?_
      refine sh_aload_n (pc := 21) dX9_propose_21 rfl ?_
      refine sh_iload_n (pc := 22) dX9_propose_22 rfl ?_
      refine sh_iconst (v := 2) (pc := 23) dX9_propose_23 rfl ?_
      refine sh_ci (N := mX9_its) (pc := 24) dX9_propose_24 ml_X9_79 h mf_X9_its iv_X9_its ⟨Nat.le_of_ble_eq_true rfl, Nat.le_of_ble_eq_true rfl⟩ rfl rfl (Nat.le_of_ble_eq_true rfl) ok_9_0 rfl (show vwCl[9]? = some (RX9, TX9, 14) from rfl) rfl (fun r8 S7 h => ?_)
      refine sh_si (N := mX9_in) (pc := 27) dX9_propose_27 ml_X9_38 h mf_X9_in is_X9_in ⟨Nat.le_of_ble_eq_true rfl, Nat.le_of_ble_eq_true rfl⟩ rfl rfl (Nat.le_of_ble_eq_true rfl) (fun r10 S9 h => ?_)
      refine sh_if_ne (tgt := 36) (pc := 30) dX9_propose_30 (by decide) (fun hc11 => ?_) (fun hc11 => ?_)
      · have h := h.1 hc11
        refine sh_aload_n (pc := 36) dX9_propose_36 rfl ?_
        refine sh_iload_n (pc := 37) dX9_propose_37 rfl ?_
        refine sh_iconst (v := 3) (pc := 38) dX9_propose_38 rfl ?_
        refine sh_ci (N := mX9_its) (pc := 39) dX9_propose_39 ml_X9_79 h mf_X9_its iv_X9_its ⟨Nat.le_of_ble_eq_true rfl, Nat.le_of_ble_eq_true rfl⟩ rfl rfl (Nat.le_of_ble_eq_true rfl) ok_9_0 rfl (show vwCl[9]? = some (RX9, TX9, 14) from rfl) rfl (fun r13 S12 h => ?_)
        refine sh_iconst (v := 4) (pc := 42) dX9_propose_42 rfl ?_
        refine sh_icmp_eq (tgt := 64) (pc := 43) dX9_propose_43 (by decide) (fun hc14 => ?_) (fun hc14 => ?_)
        · have h := h.1 hc14
          refine sh_ldc (v := (-1000002)) (pc := 64) dX9_propose_64 kc_X9_78 ?_
          exact sh_ret_i (pc := 66) dX9_propose_66 rfl ⟨rfl, rfl⟩ h
        · have h := h.2 hc14
          refine sh_aload_n (pc := 46) dX9_propose_46 rfl ?_
          refine sh_iload_n (pc := 47) dX9_propose_47 rfl ?_
          refine sh_bipush (v := 18) (pc := 48) dX9_propose_48 rfl ?_
          refine sh_ci (N := mX9_its) (pc := 50) dX9_propose_50 ml_X9_79 h mf_X9_its iv_X9_its ⟨Nat.le_of_ble_eq_true rfl, Nat.le_of_ble_eq_true rfl⟩ rfl rfl (Nat.le_of_ble_eq_true rfl) ok_9_0 rfl (show vwCl[9]? = some (RX9, TX9, 14) from rfl) rfl (fun r16 S15 h => ?_)
          refine sh_if_gt (tgt := 64) (pc := 53) dX9_propose_53 (by decide) (fun hc17 => ?_) (fun hc17 => ?_)
          · have h := h.1 hc17
            refine sh_ldc (v := (-1000002)) (pc := 64) dX9_propose_64 kc_X9_78 ?_
            exact sh_ret_i (pc := 66) dX9_propose_66 rfl ⟨rfl, rfl⟩ h
          · have h := h.2 hc17
            refine sh_aload_n (pc := 56) dX9_propose_56 rfl ?_
            refine sh_iconst (v := (-1)) (pc := 57) dX9_propose_57 rfl ?_
            refine sh_ci (N := mX9_sharing) (pc := 58) dX9_propose_58 ml_X9_54 h mf_X9_sharing iv_X9_sharing ⟨Nat.le_of_ble_eq_true rfl, Nat.le_of_ble_eq_true rfl⟩ rfl rfl (Nat.le_of_ble_eq_true rfl) ok_9_0 rfl (show vwCl[9]? = some (RX9, TX9, 14) from rfl) rfl (fun r19 S18 h => ?_)
            refine sh_if_ne (tgt := 67) (pc := 61) dX9_propose_61 (by decide) (fun hc20 => ?_) (fun hc20 => ?_)
            · have h := h.1 hc20
              refine sh_aload_n (pc := 67) dX9_propose_67 rfl ?_
              refine sh_cu (N := mX9_hold) (pc := 68) dX9_propose_68 ml_X9_67 h mf_X9_hold iv_X9_hold ⟨Nat.le_of_ble_eq_true rfl, Nat.le_of_ble_eq_true rfl⟩ rfl rfl (Nat.le_of_ble_eq_true rfl) ok_9_0 rfl (show vwCl[9]? = some (RX9, TX9, 14) from rfl) rfl (fun S21 h => ?_)
              refine sh_aload_n (pc := 71) dX9_propose_71 rfl ?_
              refine sh_iload_n (pc := 72) dX9_propose_72 rfl ?_
              refine sh_bipush (v := 18) (pc := 73) dX9_propose_73 rfl ?_
              refine sh_iload_n (pc := 75) dX9_propose_75 rfl ?_
              refine sh_cu (N := mX9_lay) (pc := 76) dX9_propose_76 ml_X9_123 h mf_X9_lay iv_X9_lay ⟨Nat.le_of_ble_eq_true rfl, Nat.le_of_ble_eq_true rfl⟩ rfl rfl (Nat.le_of_ble_eq_true rfl) ok_9_0 rfl (show vwCl[9]? = some (RX9, TX9, 14) from rfl) rfl (fun S22 h => ?_)
              refine sh_aload_n (pc := 79) dX9_propose_79 rfl ?_
              refine sh_iload_n (pc := 80) dX9_propose_80 rfl ?_
              refine sh_bipush (v := 19) (pc := 81) dX9_propose_81 rfl ?_
              refine sh_iload_n (pc := 83) dX9_propose_83 rfl ?_
              refine sh_cu (N := mX9_lay) (pc := 84) dX9_propose_84 ml_X9_123 h mf_X9_lay iv_X9_lay ⟨Nat.le_of_ble_eq_true rfl, Nat.le_of_ble_eq_true rfl⟩ rfl rfl (Nat.le_of_ble_eq_true rfl) ok_9_0 rfl (show vwCl[9]? = some (RX9, TX9, 14) from rfl) rfl (fun S23 h => ?_)
              refine sh_aload_n (pc := 87) dX9_propose_87 rfl ?_
              refine sh_iload_n (pc := 88) dX9_propose_88 rfl ?_
              refine sh_bipush (v := 20) (pc := 89) dX9_propose_89 rfl ?_
              refine sh_aload_n (pc := 91) dX9_propose_91 rfl ?_
              refine sh_gf (pc := 92) dX9_propose_92 fl_X9_7 cf_9 ok_9_0 rfl rfl ?_
              refine sh_bipush (v := 7) (pc := 95) dX9_propose_95 rfl ?_
              refine sh_ia (pc := 97) dX9_propose_97 ok_19_0 rfl (vp_in_iff.mpr ⟨by decide, by decide⟩) ?_
              refine sh_aload_n (pc := 98) dX9_propose_98 rfl ?_
              refine sh_gf (pc := 99) dX9_propose_99 fl_X9_7 cf_9 ok_9_0 rfl rfl ?_
              refine sh_bipush (v := 6) (pc := 102) dX9_propose_102 rfl ?_
              refine sh_ia (pc := 104) dX9_propose_104 ok_19_0 rfl (vp_in_iff.mpr ⟨by decide, by decide⟩) ?_
              refine sh_iadd (pc := 105) dX9_propose_105 ?_
              refine sh_cu (N := mX9_lay) (pc := 106) dX9_propose_106 ml_X9_123 h mf_X9_lay iv_X9_lay ⟨Nat.le_of_ble_eq_true rfl, Nat.le_of_ble_eq_true rfl⟩ rfl rfl (Nat.le_of_ble_eq_true rfl) ok_9_0 rfl (show vwCl[9]? = some (RX9, TX9, 14) from rfl) rfl (fun S26 h => ?_)
              refine sh_aload_n (pc := 109) dX9_propose_109 rfl ?_
              refine sh_iload_n (pc := 110) dX9_propose_110 rfl ?_
              refine sh_bipush (v := 21) (pc := 111) dX9_propose_111 rfl ?_
              refine sh_iconst (v := 0) (pc := 113) dX9_propose_113 rfl ?_
              refine sh_cu (N := mX9_lay) (pc := 114) dX9_propose_114 ml_X9_123 h mf_X9_lay iv_X9_lay ⟨Nat.le_of_ble_eq_true rfl, Nat.le_of_ble_eq_true rfl⟩ rfl rfl (Nat.le_of_ble_eq_true rfl) ok_9_0 rfl (show vwCl[9]? = some (RX9, TX9, 14) from rfl) rfl (fun S27 h => ?_)
              refine sh_aload_n (pc := 117) dX9_propose_117 rfl ?_
              refine sh_iload_n (pc := 118) dX9_propose_118 rfl ?_
              refine sh_bipush (v := 22) (pc := 119) dX9_propose_119 rfl ?_
              refine sh_iconst (v := 0) (pc := 121) dX9_propose_121 rfl ?_
              refine sh_cu (N := mX9_lay) (pc := 122) dX9_propose_122 ml_X9_123 h mf_X9_lay iv_X9_lay ⟨Nat.le_of_ble_eq_true rfl, Nat.le_of_ble_eq_true rfl⟩ rfl rfl (Nat.le_of_ble_eq_true rfl) ok_9_0 rfl (show vwCl[9]? = some (RX9, TX9, 14) from rfl) rfl (fun S28 h => ?_)
              refine sh_aload_n (pc := 125) dX9_propose_125 rfl ?_
              refine sh_aload_n (pc := 126) dX9_propose_126 rfl ?_
              refine sh_iload_n (pc := 127) dX9_propose_127 rfl ?_
              refine sh_bipush (v := 20) (pc := 128) dX9_propose_128 rfl ?_
              refine sh_ci (N := mX9_its) (pc := 130) dX9_propose_130 ml_X9_79 h mf_X9_its iv_X9_its ⟨Nat.le_of_ble_eq_true rfl, Nat.le_of_ble_eq_true rfl⟩ rfl rfl (Nat.le_of_ble_eq_true rfl) ok_9_0 rfl (show vwCl[9]? = some (RX9, TX9, 14) from rfl) rfl (fun r30 S29 h => ?_)
              refine sh_ci (N := mX9_ends) (pc := 133) dX9_propose_133 ml_X9_70 h mf_X9_ends iv_X9_ends ⟨Nat.le_of_ble_eq_true rfl, Nat.le_of_ble_eq_true rfl⟩ rfl rfl (Nat.le_of_ble_eq_true rfl) ok_9_0 rfl (show vwCl[9]? = some (RX9, TX9, 14) from rfl) rfl (fun r32 S31 h => ?_)
              exact sh_ret_i (pc := 136) dX9_propose_136 rfl ⟨rfl, rfl⟩ h
            · have h := h.2 hc20
              refine sh_ldc (v := (-1000002)) (pc := 64) dX9_propose_64 kc_X9_78 ?_
              exact sh_ret_i (pc := 66) dX9_propose_66 rfl ⟨rfl, rfl⟩ h
      · have h := h.2 hc11
        refine sh_ldc (v := (-1000001)) (pc := 33) dX9_propose_33 kc_X9_32 ?_
        exact sh_ret_i (pc := 35) dX9_propose_35 rfl ⟨rfl, rfl⟩ h

set_option maxRecDepth 100000 in
set_option maxHeartbeats 4000000 in
theorem wp_X9_bitsIn {g : sh_G} {S : sh_S} {sz : Nat} {Q : Int32 → sh_S → Prop} {a1 : Int32} 
    (h : (∃ (Iv1 : Int32 → Int32 → Prop) (mu1 : Int32 → Int32 → Nat), Iv1 0 0 ∧ ∀ (v2 : Int32) (v3 : Int32), Iv1 v2 v3 → ((10 ≤ v3 → Q v2 S) ∧ (¬ 10 ≤ v3 → (∀ x6 : Int32, x6 = (v2 + ((a1 >>> (v3 &&& 31)) &&& 1)) → (∀ x7 : Int32, x7 = v3 + 1 → (Iv1 x6 x7 ∧ mu1 x6 x7 < mu1 v2 v3))))))) :
    sh_Ci g mX9_bitsIn [sh_I a1] S sz Q := by
  refine sh_enter (ls := [(0, sh_I a1)]) (by decide +kernel) (Nat.le_of_ble_eq_true rfl) rfl ?_
  refine sh_iconst (v := 0) (pc := 0) dX9_bitsIn_0 rfl ?_
  refine sh_istore_n (ls' := [(1, sh_I 0), (0, sh_I a1)]) (pc := 1) dX9_bitsIn_1 (by decide) rfl ?_
  refine sh_iconst (v := 0) (pc := 2) dX9_bitsIn_2 rfl ?_
  refine sh_istore_n (ls' := [(2, sh_I 0), (1, sh_I 0), (0, sh_I a1)]) (pc := 3) dX9_bitsIn_3 (by decide) rfl ?_
  obtain ⟨Iv1, mu1, h0, hs1⟩ := h
  refine sh_pick [2, 1, 0] rfl ?_
  refine sh_lp2 Iv1 mu1 (fun v2 v3 => sh_V g mX9_bitsIn 0 0 4 [(0, sh_I a1), (1, sh_I v2), (2, sh_I v3)] [] (sh_St S) sz (sh_ti sz Q)) (fun v2 v3 hI1 ih1 => ?_) _ _ h0
  have h := hs1 v2 v3 hI1
  clear h0
  refine sh_iload_n (pc := 4) dX9_bitsIn_4 rfl ?_
  refine sh_bipush (v := 10) (pc := 5) dX9_bitsIn_5 rfl ?_
  refine sh_icmp_ge (tgt := 24) (pc := 7) dX9_bitsIn_7 (by decide) (fun hc5 => ?_) (fun hc5 => ?_)
  · have h := h.1 hc5
    refine sh_iload_n (pc := 24) dX9_bitsIn_24 rfl ?_
    exact sh_ret_i (pc := 25) dX9_bitsIn_25 rfl ⟨rfl, rfl⟩ h
  · have h := h.2 hc5
    refine sh_iload_n (pc := 10) dX9_bitsIn_10 rfl ?_
    refine sh_iload_n (pc := 11) dX9_bitsIn_11 rfl ?_
    refine sh_iload_n (pc := 12) dX9_bitsIn_12 rfl ?_
    refine sh_ishr (pc := 13) dX9_bitsIn_13 ?_
    refine sh_iconst (v := 1) (pc := 14) dX9_bitsIn_14 rfl ?_
    refine sh_iand (pc := 15) dX9_bitsIn_15 ?_
    refine sh_iadd (pc := 16) dX9_bitsIn_16 ?_
    refine sh_topI (fun x6 hx6 => ?_)
    have h := h x6 hx6
    refine sh_istore_n (ls' := [(1, sh_I x6), (0, sh_I a1), (2, sh_I v3)]) (pc := 17) dX9_bitsIn_17 (by decide) rfl ?_
    obtain ⟨x7, hx7⟩ : ∃ y : Int32, y = v3 + 1 := ⟨_, rfl⟩
    have h := h x7 hx7
    refine sh_iinc (v := x7) (ls' := [(2, sh_I x7), (1, sh_I x6), (0, sh_I a1)]) (pc := 18) dX9_bitsIn_18 rfl hx7.symm (by decide) rfl ?_
    refine sh_goto (tgt := 4) (pc := 21) dX9_bitsIn_21 (by decide) ?_
    refine sh_pick [2, 1, 0] rfl ?_
    exact ih1 _ _ h.1 h.2

set_option maxRecDepth 100000 in
set_option maxHeartbeats 4000000 in
theorem wp_X9_counted {g : sh_G} {S : sh_S} {sz : Nat} {Q : Int32 → sh_S → Prop} {a1 : Int32} 
    (h : (sh_Ci g mX9_sharing [sh_R (9, 0, 0), sh_I (-1)] S sz (fun r2 S1 => (sh_Ci g mX9_its [sh_R (9, 0, 0), sh_I a1, sh_I 21] S1 sz (fun r4 S3 => (sh_Ci g mX9_bitsIn [sh_I r4] S3 sz (fun r6 S5 => (((2 * r6) ≤ r2 → (sh_Ci g mX9_its [sh_R (9, 0, 0), sh_I a1, sh_I 22] S5 sz (fun r9 S8 => (sh_Ci g mX9_bitsIn [sh_I r9] S8 sz (fun r11 S10 => (((2 * r11) < r2 → Q 2 S10) ∧ (¬ (2 * r11) < r2 → (sh_Cu g mX9_lay [sh_R (9, 0, 0), sh_I a1, sh_I 18, sh_I 0] S10 sz (fun S13 => Q 0 S13))))))))) ∧ (¬ (2 * r6) ≤ r2 → (sh_Ci g mX9_its [sh_R (9, 0, 0), sh_I a1, sh_I 18] S5 sz (fun r15 S14 => (sh_Cu g mX9_lay [sh_R (9, 0, 0), sh_I a1, sh_I 18, sh_I 0] S14 sz (fun S16 => (sh_Ci g mX9_its [sh_R (9, 0, 0), sh_I a1, sh_I 2] S16 sz (fun r18 S17 => (sh_Ci g mX9_its [sh_R (9, 0, 0), sh_I a1, sh_I 19] S17 sz (fun r20 S19 => (sh_Cu g mX9_lay [sh_R (9, 0, 0), sh_I a1, sh_I 2, sh_I (r18 - r20)] S19 sz (fun S21 => (sh_Cu g mX9_shared [sh_R (9, 0, 0), sh_I r15, sh_I (-1), sh_I 2] S21 sz (fun S22 => Q 1 S22))))))))))))))))))))) :
    sh_Ci g mX9_counted [sh_R (9, 0, 0), sh_I a1] S sz Q := by
  refine sh_enter (ls := [(0, sh_R (9, 0, 0)), (1, sh_I a1)]) (by decide +kernel) (Nat.le_of_ble_eq_true rfl) rfl ?_
  refine sh_aload_n (pc := 0) dX9_counted_0 rfl ?_
  refine sh_iconst (v := (-1)) (pc := 1) dX9_counted_1 rfl ?_
  refine sh_ci (N := mX9_sharing) (pc := 2) dX9_counted_2 ml_X9_54 h mf_X9_sharing iv_X9_sharing ⟨Nat.le_of_ble_eq_true rfl, Nat.le_of_ble_eq_true rfl⟩ rfl rfl (Nat.le_of_ble_eq_true rfl) ok_9_0 rfl (show vwCl[9]? = some (RX9, TX9, 14) from rfl) rfl (fun r2 S1 h => ?_)
  refine sh_istore_n (ls' := [(2, sh_I r2), (0, sh_R (9, 0, 0)), (1, sh_I a1)]) (pc := 5) dX9_counted_5 (by decide) rfl ?_
  refine sh_iconst (v := 2) (pc := 6) dX9_counted_6 rfl ?_
  refine sh_aload_n (pc := 7) dX9_counted_7 rfl ?_
  refine sh_iload_n (pc := 8) dX9_counted_8 rfl ?_
  refine sh_bipush (v := 21) (pc := 9) dX9_counted_9 rfl ?_
  refine sh_ci (N := mX9_its) (pc := 11) dX9_counted_11 ml_X9_79 h mf_X9_its iv_X9_its ⟨Nat.le_of_ble_eq_true rfl, Nat.le_of_ble_eq_true rfl⟩ rfl rfl (Nat.le_of_ble_eq_true rfl) ok_9_0 rfl (show vwCl[9]? = some (RX9, TX9, 14) from rfl) rfl (fun r4 S3 h => ?_)
  refine sh_si (N := mX9_bitsIn) (pc := 14) dX9_counted_14 ml_X9_201 h mf_X9_bitsIn is_X9_bitsIn ⟨Nat.le_of_ble_eq_true rfl, Nat.le_of_ble_eq_true rfl⟩ rfl rfl (Nat.le_of_ble_eq_true rfl) (fun r6 S5 h => ?_)
  refine sh_imul (pc := 17) dX9_counted_17 ?_
  refine sh_iload_n (pc := 18) dX9_counted_18 rfl ?_
  refine sh_icmp_le (tgt := 67) (pc := 19) dX9_counted_19 (by decide) (fun hc7 => ?_) (fun hc7 => ?_)
  · have h := h.1 hc7
    refine sh_iconst (v := 2) (pc := 67) dX9_counted_67 rfl ?_
    refine sh_aload_n (pc := 68) dX9_counted_68 rfl ?_
    refine sh_iload_n (pc := 69) dX9_counted_69 rfl ?_
    refine sh_bipush (v := 22) (pc := 70) dX9_counted_70 rfl ?_
    refine sh_ci (N := mX9_its) (pc := 72) dX9_counted_72 ml_X9_79 h mf_X9_its iv_X9_its ⟨Nat.le_of_ble_eq_true rfl, Nat.le_of_ble_eq_true rfl⟩ rfl rfl (Nat.le_of_ble_eq_true rfl) ok_9_0 rfl (show vwCl[9]? = some (RX9, TX9, 14) from rfl) rfl (fun r9 S8 h => ?_)
    refine sh_si (N := mX9_bitsIn) (pc := 75) dX9_counted_75 ml_X9_201 h mf_X9_bitsIn is_X9_bitsIn ⟨Nat.le_of_ble_eq_true rfl, Nat.le_of_ble_eq_true rfl⟩ rfl rfl (Nat.le_of_ble_eq_true rfl) (fun r11 S10 h => ?_)
    refine sh_imul (pc := 78) dX9_counted_78 ?_
    refine sh_iload_n (pc := 79) dX9_counted_79 rfl ?_
    refine sh_icmp_lt (tgt := 93) (pc := 80) dX9_counted_80 (by decide) (fun hc12 => ?_) (fun hc12 => ?_)
    · have h := h.1 hc12
      refine sh_iconst (v := 2) (pc := 93) dX9_counted_93 rfl ?_
      exact sh_ret_i (pc := 94) dX9_counted_94 rfl ⟨rfl, rfl⟩ h
    · have h := h.2 hc12
      refine sh_aload_n (pc := 83) dX9_counted_83 rfl ?_
      refine sh_iload_n (pc := 84) dX9_counted_84 rfl ?_
      refine sh_bipush (v := 18) (pc := 85) dX9_counted_85 rfl ?_
      refine sh_iconst (v := 0) (pc := 87) dX9_counted_87 rfl ?_
      refine sh_cu (N := mX9_lay) (pc := 88) dX9_counted_88 ml_X9_123 h mf_X9_lay iv_X9_lay ⟨Nat.le_of_ble_eq_true rfl, Nat.le_of_ble_eq_true rfl⟩ rfl rfl (Nat.le_of_ble_eq_true rfl) ok_9_0 rfl (show vwCl[9]? = some (RX9, TX9, 14) from rfl) rfl (fun S13 h => ?_)
      refine sh_iconst (v := 0) (pc := 91) dX9_counted_91 rfl ?_
      exact sh_ret_i (pc := 92) dX9_counted_92 rfl ⟨rfl, rfl⟩ h
  · have h := h.2 hc7
    refine sh_aload_n (pc := 22) dX9_counted_22 rfl ?_
    refine sh_iload_n (pc := 23) dX9_counted_23 rfl ?_
    refine sh_bipush (v := 18) (pc := 24) dX9_counted_24 rfl ?_
    refine sh_ci (N := mX9_its) (pc := 26) dX9_counted_26 ml_X9_79 h mf_X9_its iv_X9_its ⟨Nat.le_of_ble_eq_true rfl, Nat.le_of_ble_eq_true rfl⟩ rfl rfl (Nat.le_of_ble_eq_true rfl) ok_9_0 rfl (show vwCl[9]? = some (RX9, TX9, 14) from rfl) rfl (fun r15 S14 h => ?_)
    refine sh_istore_n (ls' := [(3, sh_I r15), (2, sh_I r2), (0, sh_R (9, 0, 0)), (1, sh_I a1)]) (pc := 29) dX9_counted_29 (by decide) rfl ?_
    refine sh_aload_n (pc := 30) dX9_counted_30 rfl ?_
    refine sh_iload_n (pc := 31) dX9_counted_31 rfl ?_
    refine sh_bipush (v := 18) (pc := 32) dX9_counted_32 rfl ?_
    refine sh_iconst (v := 0) (pc := 34) dX9_counted_34 rfl ?_
    refine sh_cu (N := mX9_lay) (pc := 35) dX9_counted_35 ml_X9_123 h mf_X9_lay iv_X9_lay ⟨Nat.le_of_ble_eq_true rfl, Nat.le_of_ble_eq_true rfl⟩ rfl rfl (Nat.le_of_ble_eq_true rfl) ok_9_0 rfl (show vwCl[9]? = some (RX9, TX9, 14) from rfl) rfl (fun S16 h => ?_)
    refine sh_aload_n (pc := 38) dX9_counted_38 rfl ?_
    refine sh_iload_n (pc := 39) dX9_counted_39 rfl ?_
    refine sh_iconst (v := 2) (pc := 40) dX9_counted_40 rfl ?_
    refine sh_aload_n (pc := 41) dX9_counted_41 rfl ?_
    refine sh_iload_n (pc := 42) dX9_counted_42 rfl ?_
    refine sh_iconst (v := 2) (pc := 43) dX9_counted_43 rfl ?_
    refine sh_ci (N := mX9_its) (pc := 44) dX9_counted_44 ml_X9_79 h mf_X9_its iv_X9_its ⟨Nat.le_of_ble_eq_true rfl, Nat.le_of_ble_eq_true rfl⟩ rfl rfl (Nat.le_of_ble_eq_true rfl) ok_9_0 rfl (show vwCl[9]? = some (RX9, TX9, 14) from rfl) rfl (fun r18 S17 h => ?_)
    refine sh_aload_n (pc := 47) dX9_counted_47 rfl ?_
    refine sh_iload_n (pc := 48) dX9_counted_48 rfl ?_
    refine sh_bipush (v := 19) (pc := 49) dX9_counted_49 rfl ?_
    refine sh_ci (N := mX9_its) (pc := 51) dX9_counted_51 ml_X9_79 h mf_X9_its iv_X9_its ⟨Nat.le_of_ble_eq_true rfl, Nat.le_of_ble_eq_true rfl⟩ rfl rfl (Nat.le_of_ble_eq_true rfl) ok_9_0 rfl (show vwCl[9]? = some (RX9, TX9, 14) from rfl) rfl (fun r20 S19 h => ?_)
    refine sh_isub (pc := 54) dX9_counted_54 ?_
    refine sh_cu (N := mX9_lay) (pc := 55) dX9_counted_55 ml_X9_123 h mf_X9_lay iv_X9_lay ⟨Nat.le_of_ble_eq_true rfl, Nat.le_of_ble_eq_true rfl⟩ rfl rfl (Nat.le_of_ble_eq_true rfl) ok_9_0 rfl (show vwCl[9]? = some (RX9, TX9, 14) from rfl) rfl (fun S21 h => ?_)
    refine sh_aload_n (pc := 58) dX9_counted_58 rfl ?_
    refine sh_iload_n (pc := 59) dX9_counted_59 rfl ?_
    refine sh_iconst (v := (-1)) (pc := 60) dX9_counted_60 rfl ?_
    refine sh_iconst (v := 2) (pc := 61) dX9_counted_61 rfl ?_
    refine sh_cu (N := mX9_shared) (pc := 62) dX9_counted_62 ml_X9_102 h mf_X9_shared iv_X9_shared ⟨Nat.le_of_ble_eq_true rfl, Nat.le_of_ble_eq_true rfl⟩ rfl rfl (Nat.le_of_ble_eq_true rfl) ok_9_0 rfl (show vwCl[9]? = some (RX9, TX9, 14) from rfl) rfl (fun S22 h => ?_)
    refine sh_iconst (v := 1) (pc := 65) dX9_counted_65 rfl ?_
    exact sh_ret_i (pc := 66) dX9_counted_66 rfl ⟨rfl, rfl⟩ h

set_option maxRecDepth 100000 in
set_option maxHeartbeats 4000000 in
theorem wp_X9_vote {g : sh_G} {S : sh_S} {sz : Nat} {Q : Int32 → sh_S → Prop} {a1 : Int32} {a2 : Int32} {a3 : Int32} 
    (h : (sh_Ci g mX9_isTool [sh_R (9, 0, 0), sh_I a1] S sz (fun r2 S1 => ((r2 = 0 → Q (-1000001) S1) ∧ (¬ r2 = 0 → (sh_Ci g mX9_isMember [sh_R (9, 0, 0), sh_I a2] S1 sz (fun r5 S4 => ((r5 = 0 → Q (-1000001) S4) ∧ (¬ r5 = 0 → (sh_Ci g mX9_in [sh_I a3, sh_I 0, sh_I 1] S4 sz (fun r8 S7 => ((¬ r8 = 0 → (sh_Ci g mX9_its [sh_R (9, 0, 0), sh_I a1, sh_I 18] S7 sz (fun r11 S10 => ((r11 = 0 → Q (-1000002) S10) ∧ (¬ r11 = 0 → (sh_Ci g mX9_of [sh_R (9, 0, 0), sh_I a2, sh_I 0] S10 sz (fun r14 S13 => ((r14 = 2 → Q (-1000002) S13) ∧ (¬ r14 = 2 → (sh_Ci g mX9_its [sh_R (9, 0, 0), sh_I a1, sh_I 21] S13 sz (fun r17 S16 => (sh_Ci g mX9_its [sh_R (9, 0, 0), sh_I a1, sh_I 22] S16 sz (fun r19 S18 => ((¬ (((r17 ||| r19) >>> (a2 &&& 31)) &&& 1) = 1 → (sh_Cu g mX9_hold [sh_R (9, 0, 0)] S18 sz (fun S21 => ((¬ a3 = 1 → (sh_Ci g mX9_its [sh_R (9, 0, 0), sh_I a1, sh_I 22] S21 sz (fun r24 S23 => (sh_Cu g mX9_lay [sh_R (9, 0, 0), sh_I a1, sh_I 22, sh_I (r24 ||| (1 <<< (a2 &&& 31)))] S23 sz (fun S25 => (sh_Ci g mX9_counted [sh_R (9, 0, 0), sh_I a1] S25 sz (fun r27 S26 => (sh_Ci g mX9_ends [sh_R (9, 0, 0), sh_I r27] S26 sz (fun r29 S28 => Q r29 S28))))))))) ∧ (a3 = 1 → (sh_Ci g mX9_its [sh_R (9, 0, 0), sh_I a1, sh_I 21] S21 sz (fun r31 S30 => (sh_Cu g mX9_lay [sh_R (9, 0, 0), sh_I a1, sh_I 21, sh_I (r31 ||| (1 <<< (a2 &&& 31)))] S30 sz (fun S32 => (sh_Ci g mX9_counted [sh_R (9, 0, 0), sh_I a1] S32 sz (fun r34 S33 => (sh_Ci g mX9_ends [sh_R (9, 0, 0), sh_I r34] S33 sz (fun r36 S35 => Q r36 S35))))))))))))) ∧ ((((r17 ||| r19) >>> (a2 &&& 31)) &&& 1) = 1 → Q (-1000002) S18))))))))))))))) ∧ (r8 = 0 → Q (-1000001) S7))))))))))))) :
    sh_Ci g mX9_vote [sh_R (9, 0, 0), sh_I a1, sh_I a2, sh_I a3] S sz Q := by
  refine sh_enter (ls := [(0, sh_R (9, 0, 0)), (1, sh_I a1), (2, sh_I a2), (3, sh_I a3)]) (by decide +kernel) (Nat.le_of_ble_eq_true rfl) rfl ?_
  refine sh_aload_n (pc := 0) dX9_vote_0 rfl ?_
  refine sh_iload_n (pc := 1) dX9_vote_1 rfl ?_
  refine sh_ci (N := mX9_isTool) (pc := 2) dX9_vote_2 ml_X9_132 h mf_X9_isTool iv_X9_isTool ⟨Nat.le_of_ble_eq_true rfl, Nat.le_of_ble_eq_true rfl⟩ rfl rfl (Nat.le_of_ble_eq_true rfl) ok_9_0 rfl (show vwCl[9]? = some (RX9, TX9, 14) from rfl) rfl (fun r2 S1 h => ?_)
  refine sh_if_eq (tgt := 25) (pc := 5) dX9_vote_5 (by decide) (fun hc3 => ?_) (fun hc3 => ?_)
  · have h := h.1 hc3
    refine sh_ldc (v := (-1000001)) (pc := 25) dX9_vote_25 kc_X9_32 ?_
    exact sh_ret_i (pc := 27) dX9_vote_27 rfl ⟨rfl, rfl⟩ h
  · have h := h.2 hc3
    refine sh_aload_n (pc := 8) dX9_vote_8 rfl ?_
    refine sh_iload_n (pc := 9) dX9_vote_9 rfl ?_
    refine sh_ci (N := mX9_isMember) (pc := 10) dX9_vote_10 ml_X9_74 h mf_X9_isMember iv_X9_isMember ⟨Nat.le_of_ble_eq_true rfl, Nat.le_of_ble_eq_true rfl⟩ rfl rfl (Nat.le_of_ble_eq_true rfl) ok_9_0 rfl (show vwCl[9]? = some (RX9, TX9, 14) from rfl) rfl (fun r5 S4 h => ?_)
    refine sh_if_eq (tgt := 25) (pc := 13) dX9_vote_13 (by decide) (fun hc6 => ?_) (fun hc6 => ?_)
    · have h := h.1 hc6
      refine sh_ldc (v := (-1000001)) (pc := 25) dX9_vote_25 kc_X9_32 ?_
      exact sh_ret_i (pc := 27) dX9_vote_27 rfl ⟨rfl, rfl⟩ h
    · have h := h.2 hc6
      refine sh_iload_n (pc := 16) dX9_vote_16 rfl ?_
      refine sh_iconst (v := 0) (pc := 17) dX9_vote_17 rfl ?_
      refine sh_iconst (v := 1) (pc := 18) dX9_vote_18 rfl ?_
      refine sh_si (N := mX9_in) (pc := 19) dX9_vote_19 ml_X9_38 h mf_X9_in is_X9_in ⟨Nat.le_of_ble_eq_true rfl, Nat.le_of_ble_eq_true rfl⟩ rfl rfl (Nat.le_of_ble_eq_true rfl) (fun r8 S7 h => ?_)
      refine sh_if_ne (tgt := 28) (pc := 22) dX9_vote_22 (by decide) (fun hc9 => ?_) (fun hc9 => ?_)
      · have h := h.1 hc9
        refine sh_aload_n (pc := 28) dX9_vote_28 rfl ?_
        refine sh_iload_n (pc := 29) dX9_vote_29 rfl ?_
        refine sh_bipush (v := 18) (pc := 30) dX9_vote_30 rfl ?_
        refine sh_ci (N := mX9_its) (pc := 32) dX9_vote_32 ml_X9_79 h mf_X9_its iv_X9_its ⟨Nat.le_of_ble_eq_true rfl, Nat.le_of_ble_eq_true rfl⟩ rfl rfl (Nat.le_of_ble_eq_true rfl) ok_9_0 rfl (show vwCl[9]? = some (RX9, TX9, 14) from rfl) rfl (fun r11 S10 h => ?_)
        refine sh_if_eq (tgt := 71) (pc := 35) dX9_vote_35 (by decide) (fun hc12 => ?_) (fun hc12 => ?_)
        · have h := h.1 hc12
          refine sh_ldc (v := (-1000002)) (pc := 71) dX9_vote_71 kc_X9_78 ?_
          exact sh_ret_i (pc := 73) dX9_vote_73 rfl ⟨rfl, rfl⟩ h
        · have h := h.2 hc12
          refine sh_aload_n (pc := 38) dX9_vote_38 rfl ?_
          refine sh_iload_n (pc := 39) dX9_vote_39 rfl ?_
          refine sh_iconst (v := 0) (pc := 40) dX9_vote_40 rfl ?_
          refine sh_ci (N := mX9_of) (pc := 41) dX9_vote_41 ml_X9_46 h mf_X9_of iv_X9_of ⟨Nat.le_of_ble_eq_true rfl, Nat.le_of_ble_eq_true rfl⟩ rfl rfl (Nat.le_of_ble_eq_true rfl) ok_9_0 rfl (show vwCl[9]? = some (RX9, TX9, 14) from rfl) rfl (fun r14 S13 h => ?_)
          refine sh_iconst (v := 2) (pc := 44) dX9_vote_44 rfl ?_
          refine sh_icmp_eq (tgt := 71) (pc := 45) dX9_vote_45 (by decide) (fun hc15 => ?_) (fun hc15 => ?_)
          · have h := h.1 hc15
            refine sh_ldc (v := (-1000002)) (pc := 71) dX9_vote_71 kc_X9_78 ?_
            exact sh_ret_i (pc := 73) dX9_vote_73 rfl ⟨rfl, rfl⟩ h
          · have h := h.2 hc15
            refine sh_aload_n (pc := 48) dX9_vote_48 rfl ?_
            refine sh_iload_n (pc := 49) dX9_vote_49 rfl ?_
            refine sh_bipush (v := 21) (pc := 50) dX9_vote_50 rfl ?_
            refine sh_ci (N := mX9_its) (pc := 52) dX9_vote_52 ml_X9_79 h mf_X9_its iv_X9_its ⟨Nat.le_of_ble_eq_true rfl, Nat.le_of_ble_eq_true rfl⟩ rfl rfl (Nat.le_of_ble_eq_true rfl) ok_9_0 rfl (show vwCl[9]? = some (RX9, TX9, 14) from rfl) rfl (fun r17 S16 h => ?_)
            refine sh_aload_n (pc := 55) dX9_vote_55 rfl ?_
            refine sh_iload_n (pc := 56) dX9_vote_56 rfl ?_
            refine sh_bipush (v := 22) (pc := 57) dX9_vote_57 rfl ?_
            refine sh_ci (N := mX9_its) (pc := 59) dX9_vote_59 ml_X9_79 h mf_X9_its iv_X9_its ⟨Nat.le_of_ble_eq_true rfl, Nat.le_of_ble_eq_true rfl⟩ rfl rfl (Nat.le_of_ble_eq_true rfl) ok_9_0 rfl (show vwCl[9]? = some (RX9, TX9, 14) from rfl) rfl (fun r19 S18 h => ?_)
            refine sh_ior (pc := 62) dX9_vote_62 ?_
            refine sh_iload_n (pc := 63) dX9_vote_63 rfl ?_
            refine sh_ishr (pc := 64) dX9_vote_64 ?_
            refine sh_iconst (v := 1) (pc := 65) dX9_vote_65 rfl ?_
            refine sh_iand (pc := 66) dX9_vote_66 ?_
            refine sh_iconst (v := 1) (pc := 67) dX9_vote_67 rfl ?_
            refine sh_icmp_ne (tgt := 74) (pc := 68) dX9_vote_68 (by decide) (fun hc20 => ?_) (fun hc20 => ?_)
            · have h := h.1 hc20
              refine sh_aload_n (pc := 74) dX9_vote_74 rfl ?_
              refine sh_cu (N := mX9_hold) (pc := 75) dX9_vote_75 ml_X9_67 h mf_X9_hold iv_X9_hold ⟨Nat.le_of_ble_eq_true rfl, Nat.le_of_ble_eq_true rfl⟩ rfl rfl (Nat.le_of_ble_eq_true rfl) ok_9_0 rfl (show vwCl[9]? = some (RX9, TX9, 14) from rfl) rfl (fun S21 h => ?_)
              refine sh_iload_n (pc := 78) dX9_vote_78 rfl ?_
              refine sh_iconst (v := 1) (pc := 79) dX9_vote_79 rfl ?_
              refine sh_icmp_ne (tgt := 88) (pc := 80) dX9_vote_80 (by decide) (fun hc22 => ?_) (fun hc22 => ?_)
              · have h := h.1 hc22
                refine sh_bipush (v := 22) (pc := 88) dX9_vote_88 rfl ?_
                refine sh_istore (ls' := [(4, sh_I 22), (0, sh_R (9, 0, 0)), (1, sh_I a1), (2, sh_I a2), (3, sh_I a3)]) (pc := 90) dX9_vote_90 (by decide) rfl ?_
                refine sh_aload_n (pc := 92) dX9_vote_92 rfl ?_
                refine sh_iload_n (pc := 93) dX9_vote_93 rfl ?_
                refine sh_iload (pc := 94) dX9_vote_94 rfl ?_
                refine sh_aload_n (pc := 96) dX9_vote_96 rfl ?_
                refine sh_iload_n (pc := 97) dX9_vote_97 rfl ?_
                refine sh_iload (pc := 98) dX9_vote_98 rfl ?_
                refine sh_ci (N := mX9_its) (pc := 100) dX9_vote_100 ml_X9_79 h mf_X9_its iv_X9_its ⟨Nat.le_of_ble_eq_true rfl, Nat.le_of_ble_eq_true rfl⟩ rfl rfl (Nat.le_of_ble_eq_true rfl) ok_9_0 rfl (show vwCl[9]? = some (RX9, TX9, 14) from rfl) rfl (fun r24 S23 h => ?_)
                refine sh_iconst (v := 1) (pc := 103) dX9_vote_103 rfl ?_
                refine sh_iload_n (pc := 104) dX9_vote_104 rfl ?_
                refine sh_ishl (pc := 105) dX9_vote_105 ?_
                refine sh_ior (pc := 106) dX9_vote_106 ?_
                refine sh_cu (N := mX9_lay) (pc := 107) dX9_vote_107 ml_X9_123 h mf_X9_lay iv_X9_lay ⟨Nat.le_of_ble_eq_true rfl, Nat.le_of_ble_eq_true rfl⟩ rfl rfl (Nat.le_of_ble_eq_true rfl) ok_9_0 rfl (show vwCl[9]? = some (RX9, TX9, 14) from rfl) rfl (fun S25 h => ?_)
                refine sh_aload_n (pc := 110) dX9_vote_110 rfl ?_
                refine sh_aload_n (pc := 111) dX9_vote_111 rfl ?_
                refine sh_iload_n (pc := 112) dX9_vote_112 rfl ?_
                refine sh_ci (N := mX9_counted) (pc := 113) dX9_vote_113 ml_X9_204 h mf_X9_counted iv_X9_counted ⟨Nat.le_of_ble_eq_true rfl, Nat.le_of_ble_eq_true rfl⟩ rfl rfl (Nat.le_of_ble_eq_true rfl) ok_9_0 rfl (show vwCl[9]? = some (RX9, TX9, 14) from rfl) rfl (fun r27 S26 h => ?_)
                refine sh_ci (N := mX9_ends) (pc := 116) dX9_vote_116 ml_X9_70 h mf_X9_ends iv_X9_ends ⟨Nat.le_of_ble_eq_true rfl, Nat.le_of_ble_eq_true rfl⟩ rfl rfl (Nat.le_of_ble_eq_true rfl) ok_9_0 rfl (show vwCl[9]? = some (RX9, TX9, 14) from rfl) rfl (fun r29 S28 h => ?_)
                exact sh_ret_i (pc := 119) dX9_vote_119 rfl ⟨rfl, rfl⟩ h
              · have h := h.2 hc22
                refine sh_bipush (v := 21) (pc := 83) dX9_vote_83 rfl ?_
                refine sh_goto (tgt := 90) (pc := 85) dX9_vote_85 (by decide) ?_
                refine sh_istore (ls' := [(4, sh_I 21), (0, sh_R (9, 0, 0)), (1, sh_I a1), (2, sh_I a2), (3, sh_I a3)]) (pc := 90) dX9_vote_90 (by decide) rfl ?_
                refine sh_aload_n (pc := 92) dX9_vote_92 rfl ?_
                refine sh_iload_n (pc := 93) dX9_vote_93 rfl ?_
                refine sh_iload (pc := 94) dX9_vote_94 rfl ?_
                refine sh_aload_n (pc := 96) dX9_vote_96 rfl ?_
                refine sh_iload_n (pc := 97) dX9_vote_97 rfl ?_
                refine sh_iload (pc := 98) dX9_vote_98 rfl ?_
                refine sh_ci (N := mX9_its) (pc := 100) dX9_vote_100 ml_X9_79 h mf_X9_its iv_X9_its ⟨Nat.le_of_ble_eq_true rfl, Nat.le_of_ble_eq_true rfl⟩ rfl rfl (Nat.le_of_ble_eq_true rfl) ok_9_0 rfl (show vwCl[9]? = some (RX9, TX9, 14) from rfl) rfl (fun r31 S30 h => ?_)
                refine sh_iconst (v := 1) (pc := 103) dX9_vote_103 rfl ?_
                refine sh_iload_n (pc := 104) dX9_vote_104 rfl ?_
                refine sh_ishl (pc := 105) dX9_vote_105 ?_
                refine sh_ior (pc := 106) dX9_vote_106 ?_
                refine sh_cu (N := mX9_lay) (pc := 107) dX9_vote_107 ml_X9_123 h mf_X9_lay iv_X9_lay ⟨Nat.le_of_ble_eq_true rfl, Nat.le_of_ble_eq_true rfl⟩ rfl rfl (Nat.le_of_ble_eq_true rfl) ok_9_0 rfl (show vwCl[9]? = some (RX9, TX9, 14) from rfl) rfl (fun S32 h => ?_)
                refine sh_aload_n (pc := 110) dX9_vote_110 rfl ?_
                refine sh_aload_n (pc := 111) dX9_vote_111 rfl ?_
                refine sh_iload_n (pc := 112) dX9_vote_112 rfl ?_
                refine sh_ci (N := mX9_counted) (pc := 113) dX9_vote_113 ml_X9_204 h mf_X9_counted iv_X9_counted ⟨Nat.le_of_ble_eq_true rfl, Nat.le_of_ble_eq_true rfl⟩ rfl rfl (Nat.le_of_ble_eq_true rfl) ok_9_0 rfl (show vwCl[9]? = some (RX9, TX9, 14) from rfl) rfl (fun r34 S33 h => ?_)
                refine sh_ci (N := mX9_ends) (pc := 116) dX9_vote_116 ml_X9_70 h mf_X9_ends iv_X9_ends ⟨Nat.le_of_ble_eq_true rfl, Nat.le_of_ble_eq_true rfl⟩ rfl rfl (Nat.le_of_ble_eq_true rfl) ok_9_0 rfl (show vwCl[9]? = some (RX9, TX9, 14) from rfl) rfl (fun r36 S35 h => ?_)
                exact sh_ret_i (pc := 119) dX9_vote_119 rfl ⟨rfl, rfl⟩ h
            · have h := h.2 hc20
              refine sh_ldc (v := (-1000002)) (pc := 71) dX9_vote_71 kc_X9_78 ?_
              exact sh_ret_i (pc := 73) dX9_vote_73 rfl ⟨rfl, rfl⟩ h
      · have h := h.2 hc9
        refine sh_ldc (v := (-1000001)) (pc := 25) dX9_vote_25 kc_X9_32 ?_
        exact sh_ret_i (pc := 27) dX9_vote_27 rfl ⟨rfl, rfl⟩ h

set_option maxRecDepth 100000 in
set_option maxHeartbeats 4000000 in
theorem wp_X9_proposalOf {g : sh_G} {S : sh_S} {sz : Nat} {Q : Int32 → sh_S → Prop} {a1 : Int32} {a2 : Int32} 
    (h : (sh_Ci g mX9_isTool [sh_R (9, 0, 0), sh_I a1] S sz (fun r2 S1 => ((r2 = 0 → Q (-1000001) S1) ∧ (¬ r2 = 0 → (sh_Ci g mX9_in [sh_I a2, sh_I 0, sh_I 4] S1 sz (fun r5 S4 => ((¬ r5 = 0 → (sh_Ci g mX9_its [sh_R (9, 0, 0), sh_I a1, sh_I (18 + a2)] S4 sz (fun r8 S7 => (sh_Ci g mX9_its [sh_R (9, 0, 0), sh_I a1, sh_I 18] S7 sz (fun r10 S9 => ((¬ r10 = 0 → ((3 ≤ a2 → (sh_Ci g mX9_bitsIn [sh_I r8] S9 sz (fun r14 S13 => Q r14 S13))) ∧ (¬ 3 ≤ a2 → Q r8 S9))) ∧ (r10 = 0 → Q (-1000004) S9))))))) ∧ (r5 = 0 → Q (-1000001) S4))))))))) :
    sh_Ci g mX9_proposalOf [sh_R (9, 0, 0), sh_I a1, sh_I a2] S sz Q := by
  refine sh_enter (ls := [(0, sh_R (9, 0, 0)), (1, sh_I a1), (2, sh_I a2)]) (by decide +kernel) (Nat.le_of_ble_eq_true rfl) rfl ?_
  refine sh_aload_n (pc := 0) dX9_proposalOf_0 rfl ?_
  refine sh_iload_n (pc := 1) dX9_proposalOf_1 rfl ?_
  refine sh_ci (N := mX9_isTool) (pc := 2) dX9_proposalOf_2 ml_X9_132 h mf_X9_isTool iv_X9_isTool ⟨Nat.le_of_ble_eq_true rfl, Nat.le_of_ble_eq_true rfl⟩ rfl rfl (Nat.le_of_ble_eq_true rfl) ok_9_0 rfl (show vwCl[9]? = some (RX9, TX9, 14) from rfl) rfl (fun r2 S1 h => ?_)
  refine sh_if_eq (tgt := 17) (pc := 5) dX9_proposalOf_5 (by decide) (fun hc3 => ?_) (fun hc3 => ?_)
  · have h := h.1 hc3
    refine sh_ldc (v := (-1000001)) (pc := 17) dX9_proposalOf_17 kc_X9_32 ?_
    exact sh_ret_i (pc := 19) dX9_proposalOf_19 rfl ⟨rfl, rfl⟩ h
  · have h := h.2 hc3
    refine sh_iload_n (pc := 8) dX9_proposalOf_8 rfl ?_
    refine sh_iconst (v := 0) (pc := 9) dX9_proposalOf_9 rfl ?_
    refine sh_iconst (v := 4) (pc := 10) dX9_proposalOf_10 rfl ?_
    refine sh_si (N := mX9_in) (pc := 11) dX9_proposalOf_11 ml_X9_38 h mf_X9_in is_X9_in ⟨Nat.le_of_ble_eq_true rfl, Nat.le_of_ble_eq_true rfl⟩ rfl rfl (Nat.le_of_ble_eq_true rfl) (fun r5 S4 h => ?_)
    refine sh_if_ne (tgt := 20) (pc := 14) dX9_proposalOf_14 (by decide) (fun hc6 => ?_) (fun hc6 => ?_)
    · have h := h.1 hc6
      refine sh_aload_n (pc := 20) dX9_proposalOf_20 rfl ?_
      refine sh_iload_n (pc := 21) dX9_proposalOf_21 rfl ?_
      refine sh_bipush (v := 18) (pc := 22) dX9_proposalOf_22 rfl ?_
      refine sh_iload_n (pc := 24) dX9_proposalOf_24 rfl ?_
      refine sh_iadd (pc := 25) dX9_proposalOf_25 ?_
      refine sh_ci (N := mX9_its) (pc := 26) dX9_proposalOf_26 ml_X9_79 h mf_X9_its iv_X9_its ⟨Nat.le_of_ble_eq_true rfl, Nat.le_of_ble_eq_true rfl⟩ rfl rfl (Nat.le_of_ble_eq_true rfl) ok_9_0 rfl (show vwCl[9]? = some (RX9, TX9, 14) from rfl) rfl (fun r8 S7 h => ?_)
      refine sh_istore_n (ls' := [(3, sh_I r8), (0, sh_R (9, 0, 0)), (1, sh_I a1), (2, sh_I a2)]) (pc := 29) dX9_proposalOf_29 (by decide) rfl ?_
      refine sh_aload_n (pc := 30) dX9_proposalOf_30 rfl ?_
      refine sh_iload_n (pc := 31) dX9_proposalOf_31 rfl ?_
      refine sh_bipush (v := 18) (pc := 32) dX9_proposalOf_32 rfl ?_
      refine sh_ci (N := mX9_its) (pc := 34) dX9_proposalOf_34 ml_X9_79 h mf_X9_its iv_X9_its ⟨Nat.le_of_ble_eq_true rfl, Nat.le_of_ble_eq_true rfl⟩ rfl rfl (Nat.le_of_ble_eq_true rfl) ok_9_0 rfl (show vwCl[9]? = some (RX9, TX9, 14) from rfl) rfl (fun r10 S9 h => ?_)
      refine sh_if_ne (tgt := 45) (pc := 37) dX9_proposalOf_37 (by decide) (fun hc11 => ?_) (fun hc11 => ?_)
      · have h := h.1 hc11
        refine sh_iload_n (pc := 45) dX9_proposalOf_45 rfl ?_
        refine sh_iconst (v := 3) (pc := 46) dX9_proposalOf_46 rfl ?_
        refine sh_icmp_ge (tgt := 54) (pc := 47) dX9_proposalOf_47 (by decide) (fun hc12 => ?_) (fun hc12 => ?_)
        · have h := h.1 hc12
          refine sh_iload_n (pc := 54) dX9_proposalOf_54 rfl ?_
          refine sh_si (N := mX9_bitsIn) (pc := 55) dX9_proposalOf_55 ml_X9_201 h mf_X9_bitsIn is_X9_bitsIn ⟨Nat.le_of_ble_eq_true rfl, Nat.le_of_ble_eq_true rfl⟩ rfl rfl (Nat.le_of_ble_eq_true rfl) (fun r14 S13 h => ?_)
          exact sh_ret_i (pc := 58) dX9_proposalOf_58 rfl ⟨rfl, rfl⟩ h
        · have h := h.2 hc12
          refine sh_iload_n (pc := 50) dX9_proposalOf_50 rfl ?_
          refine sh_goto (tgt := 58) (pc := 51) dX9_proposalOf_51 (by decide) ?_
          exact sh_ret_i (pc := 58) dX9_proposalOf_58 rfl ⟨rfl, rfl⟩ h
      · have h := h.2 hc11
        refine sh_ldc (v := (-1000004)) (pc := 40) dX9_proposalOf_40 kc_X9_33 ?_
        refine sh_goto (tgt := 58) (pc := 42) dX9_proposalOf_42 (by decide) ?_
        exact sh_ret_i (pc := 58) dX9_proposalOf_58 rfl ⟨rfl, rfl⟩ h
    · have h := h.2 hc6
      refine sh_ldc (v := (-1000001)) (pc := 17) dX9_proposalOf_17 kc_X9_32 ?_
      exact sh_ret_i (pc := 19) dX9_proposalOf_19 rfl ⟨rfl, rfl⟩ h

set_option maxRecDepth 100000 in
set_option maxHeartbeats 4000000 in
theorem wp_X9_lendOut {g : sh_G} {S : sh_S} {sz : Nat} {Q : Int32 → sh_S → Prop} {a1 : Int32} {a2 : Int32} {a3 : Int32} {a4 : Int32} 
    (h : (sh_Ci g mX9_isTool [sh_R (9, 0, 0), sh_I a1] S sz (fun r2 S1 => ((r2 = 0 → Q (-1000001) S1) ∧ (¬ r2 = 0 → (sh_Ci g mX9_in [sh_I a2, sh_I 0, sh_I 3] S1 sz (fun r5 S4 => ((r5 = 0 → Q (-1000001) S4) ∧ (¬ r5 = 0 → (sh_Ci g mX9_in [sh_I a3, sh_I 1, sh_I 60] S4 sz (fun r8 S7 => ((r8 = 0 → Q (-1000001) S7) ∧ (¬ r8 = 0 → (sh_Ci g mX9_in [sh_I a4, sh_I 0, sh_I 40] S7 sz (fun r11 S10 => ((¬ r11 = 0 → (sh_Ci g mX9_its [sh_R (9, 0, 0), sh_I a1, sh_I 3] S10 sz (fun r14 S13 => ((r14 = 0 → (sh_Cu g mX9_hold [sh_R (9, 0, 0)] S13 sz (fun S16 => (sh_Cu g mX9_goesOut [sh_R (9, 0, 0), sh_I a1, sh_I 3, sh_I a2, sh_I ((S16 (19, 0, 0) 7) + a3)] S16 sz (fun S18 => (sh_Cu g mX9_lay [sh_R (9, 0, 0), sh_I a1, sh_I 10, sh_I a3] S18 sz (fun S19 => (sh_Cu g mX9_lay [sh_R (9, 0, 0), sh_I a1, sh_I 11, sh_I a4] S19 sz (fun S20 => (sh_Ci g mX9_its [sh_R (9, 0, 0), sh_I a1, sh_I 5] S20 sz (fun r22 S21 => (sh_Ci g mX9_ends [sh_R (9, 0, 0), sh_I r22] S21 sz (fun r24 S23 => Q r24 S23))))))))))))) ∧ (¬ r14 = 0 → Q (-1000002) S13))))) ∧ (r11 = 0 → Q (-1000001) S10))))))))))))))))) :
    sh_Ci g mX9_lendOut [sh_R (9, 0, 0), sh_I a1, sh_I a2, sh_I a3, sh_I a4] S sz Q := by
  refine sh_enter (ls := [(0, sh_R (9, 0, 0)), (1, sh_I a1), (2, sh_I a2), (3, sh_I a3), (4, sh_I a4)]) (by decide +kernel) (Nat.le_of_ble_eq_true rfl) rfl ?_
  refine sh_aload_n (pc := 0) dX9_lendOut_0 rfl ?_
  refine sh_iload_n (pc := 1) dX9_lendOut_1 rfl ?_
  refine sh_ci (N := mX9_isTool) (pc := 2) dX9_lendOut_2 ml_X9_132 h mf_X9_isTool iv_X9_isTool ⟨Nat.le_of_ble_eq_true rfl, Nat.le_of_ble_eq_true rfl⟩ rfl rfl (Nat.le_of_ble_eq_true rfl) ok_9_0 rfl (show vwCl[9]? = some (RX9, TX9, 14) from rfl) rfl (fun r2 S1 h => ?_)
  refine sh_if_eq (tgt := 38) (pc := 5) dX9_lendOut_5 (by decide) (fun hc3 => ?_) (fun hc3 => ?_)
  · have h := h.1 hc3
    refine sh_ldc (v := (-1000001)) (pc := 38) dX9_lendOut_38 kc_X9_32 ?_
    exact sh_ret_i (pc := 40) dX9_lendOut_40 rfl ⟨rfl, rfl⟩ h
  · have h := h.2 hc3
    refine sh_iload_n (pc := 8) dX9_lendOut_8 rfl ?_
    refine sh_iconst (v := 0) (pc := 9) dX9_lendOut_9 rfl ?_
    refine sh_iconst (v := 3) (pc := 10) dX9_lendOut_10 rfl ?_
    refine sh_si (N := mX9_in) (pc := 11) dX9_lendOut_11 ml_X9_38 h mf_X9_in is_X9_in ⟨Nat.le_of_ble_eq_true rfl, Nat.le_of_ble_eq_true rfl⟩ rfl rfl (Nat.le_of_ble_eq_true rfl) (fun r5 S4 h => ?_)
    refine sh_if_eq (tgt := 38) (pc := 14) dX9_lendOut_14 (by decide) (fun hc6 => ?_) (fun hc6 => ?_)
    · have h := h.1 hc6
      refine sh_ldc (v := (-1000001)) (pc := 38) dX9_lendOut_38 kc_X9_32 ?_
      exact sh_ret_i (pc := 40) dX9_lendOut_40 rfl ⟨rfl, rfl⟩ h
    · have h := h.2 hc6
      refine sh_iload_n (pc := 17) dX9_lendOut_17 rfl ?_
      refine sh_iconst (v := 1) (pc := 18) dX9_lendOut_18 rfl ?_
      refine sh_bipush (v := 60) (pc := 19) dX9_lendOut_19 rfl ?_
      refine sh_si (N := mX9_in) (pc := 21) dX9_lendOut_21 ml_X9_38 h mf_X9_in is_X9_in ⟨Nat.le_of_ble_eq_true rfl, Nat.le_of_ble_eq_true rfl⟩ rfl rfl (Nat.le_of_ble_eq_true rfl) (fun r8 S7 h => ?_)
      refine sh_if_eq (tgt := 38) (pc := 24) dX9_lendOut_24 (by decide) (fun hc9 => ?_) (fun hc9 => ?_)
      · have h := h.1 hc9
        refine sh_ldc (v := (-1000001)) (pc := 38) dX9_lendOut_38 kc_X9_32 ?_
        exact sh_ret_i (pc := 40) dX9_lendOut_40 rfl ⟨rfl, rfl⟩ h
      · have h := h.2 hc9
        refine sh_iload (pc := 27) dX9_lendOut_27 rfl ?_
        refine sh_iconst (v := 0) (pc := 29) dX9_lendOut_29 rfl ?_
        refine sh_bipush (v := 40) (pc := 30) dX9_lendOut_30 rfl ?_
        refine sh_si (N := mX9_in) (pc := 32) dX9_lendOut_32 ml_X9_38 h mf_X9_in is_X9_in ⟨Nat.le_of_ble_eq_true rfl, Nat.le_of_ble_eq_true rfl⟩ rfl rfl (Nat.le_of_ble_eq_true rfl) (fun r11 S10 h => ?_)
        refine sh_if_ne (tgt := 41) (pc := 35) dX9_lendOut_35 (by decide) (fun hc12 => ?_) (fun hc12 => ?_)
        · have h := h.1 hc12
          refine sh_aload_n (pc := 41) dX9_lendOut_41 rfl ?_
          refine sh_iload_n (pc := 42) dX9_lendOut_42 rfl ?_
          refine sh_iconst (v := 3) (pc := 43) dX9_lendOut_43 rfl ?_
          refine sh_ci (N := mX9_its) (pc := 44) dX9_lendOut_44 ml_X9_79 h mf_X9_its iv_X9_its ⟨Nat.le_of_ble_eq_true rfl, Nat.le_of_ble_eq_true rfl⟩ rfl rfl (Nat.le_of_ble_eq_true rfl) ok_9_0 rfl (show vwCl[9]? = some (RX9, TX9, 14) from rfl) rfl (fun r14 S13 h => ?_)
          refine sh_if_eq (tgt := 53) (pc := 47) dX9_lendOut_47 (by decide) (fun hc15 => ?_) (fun hc15 => ?_)
          · have h := h.1 hc15
            refine sh_aload_n (pc := 53) dX9_lendOut_53 rfl ?_
            refine sh_cu (N := mX9_hold) (pc := 54) dX9_lendOut_54 ml_X9_67 h mf_X9_hold iv_X9_hold ⟨Nat.le_of_ble_eq_true rfl, Nat.le_of_ble_eq_true rfl⟩ rfl rfl (Nat.le_of_ble_eq_true rfl) ok_9_0 rfl (show vwCl[9]? = some (RX9, TX9, 14) from rfl) rfl (fun S16 h => ?_)
            refine sh_aload_n (pc := 57) dX9_lendOut_57 rfl ?_
            refine sh_iload_n (pc := 58) dX9_lendOut_58 rfl ?_
            refine sh_iconst (v := 3) (pc := 59) dX9_lendOut_59 rfl ?_
            refine sh_iload_n (pc := 60) dX9_lendOut_60 rfl ?_
            refine sh_aload_n (pc := 61) dX9_lendOut_61 rfl ?_
            refine sh_gf (pc := 62) dX9_lendOut_62 fl_X9_7 cf_9 ok_9_0 rfl rfl ?_
            refine sh_bipush (v := 7) (pc := 65) dX9_lendOut_65 rfl ?_
            refine sh_ia (pc := 67) dX9_lendOut_67 ok_19_0 rfl (vp_in_iff.mpr ⟨by decide, by decide⟩) ?_
            refine sh_iload_n (pc := 68) dX9_lendOut_68 rfl ?_
            refine sh_iadd (pc := 69) dX9_lendOut_69 ?_
            refine sh_cu (N := mX9_goesOut) (pc := 70) dX9_lendOut_70 ml_X9_138 h mf_X9_goesOut iv_X9_goesOut ⟨Nat.le_of_ble_eq_true rfl, Nat.le_of_ble_eq_true rfl⟩ rfl rfl (Nat.le_of_ble_eq_true rfl) ok_9_0 rfl (show vwCl[9]? = some (RX9, TX9, 14) from rfl) rfl (fun S18 h => ?_)
            refine sh_aload_n (pc := 73) dX9_lendOut_73 rfl ?_
            refine sh_iload_n (pc := 74) dX9_lendOut_74 rfl ?_
            refine sh_bipush (v := 10) (pc := 75) dX9_lendOut_75 rfl ?_
            refine sh_iload_n (pc := 77) dX9_lendOut_77 rfl ?_
            refine sh_cu (N := mX9_lay) (pc := 78) dX9_lendOut_78 ml_X9_123 h mf_X9_lay iv_X9_lay ⟨Nat.le_of_ble_eq_true rfl, Nat.le_of_ble_eq_true rfl⟩ rfl rfl (Nat.le_of_ble_eq_true rfl) ok_9_0 rfl (show vwCl[9]? = some (RX9, TX9, 14) from rfl) rfl (fun S19 h => ?_)
            refine sh_aload_n (pc := 81) dX9_lendOut_81 rfl ?_
            refine sh_iload_n (pc := 82) dX9_lendOut_82 rfl ?_
            refine sh_bipush (v := 11) (pc := 83) dX9_lendOut_83 rfl ?_
            refine sh_iload (pc := 85) dX9_lendOut_85 rfl ?_
            refine sh_cu (N := mX9_lay) (pc := 87) dX9_lendOut_87 ml_X9_123 h mf_X9_lay iv_X9_lay ⟨Nat.le_of_ble_eq_true rfl, Nat.le_of_ble_eq_true rfl⟩ rfl rfl (Nat.le_of_ble_eq_true rfl) ok_9_0 rfl (show vwCl[9]? = some (RX9, TX9, 14) from rfl) rfl (fun S20 h => ?_)
            refine sh_aload_n (pc := 90) dX9_lendOut_90 rfl ?_
            refine sh_aload_n (pc := 91) dX9_lendOut_91 rfl ?_
            refine sh_iload_n (pc := 92) dX9_lendOut_92 rfl ?_
            refine sh_iconst (v := 5) (pc := 93) dX9_lendOut_93 rfl ?_
            refine sh_ci (N := mX9_its) (pc := 94) dX9_lendOut_94 ml_X9_79 h mf_X9_its iv_X9_its ⟨Nat.le_of_ble_eq_true rfl, Nat.le_of_ble_eq_true rfl⟩ rfl rfl (Nat.le_of_ble_eq_true rfl) ok_9_0 rfl (show vwCl[9]? = some (RX9, TX9, 14) from rfl) rfl (fun r22 S21 h => ?_)
            refine sh_ci (N := mX9_ends) (pc := 97) dX9_lendOut_97 ml_X9_70 h mf_X9_ends iv_X9_ends ⟨Nat.le_of_ble_eq_true rfl, Nat.le_of_ble_eq_true rfl⟩ rfl rfl (Nat.le_of_ble_eq_true rfl) ok_9_0 rfl (show vwCl[9]? = some (RX9, TX9, 14) from rfl) rfl (fun r24 S23 h => ?_)
            exact sh_ret_i (pc := 100) dX9_lendOut_100 rfl ⟨rfl, rfl⟩ h
          · have h := h.2 hc15
            refine sh_ldc (v := (-1000002)) (pc := 50) dX9_lendOut_50 kc_X9_78 ?_
            exact sh_ret_i (pc := 52) dX9_lendOut_52 rfl ⟨rfl, rfl⟩ h
        · have h := h.2 hc12
          refine sh_ldc (v := (-1000001)) (pc := 38) dX9_lendOut_38 kc_X9_32 ?_
          exact sh_ret_i (pc := 40) dX9_lendOut_40 rfl ⟨rfl, rfl⟩ h

set_option maxRecDepth 100000 in
set_option maxHeartbeats 4000000 in
theorem wp_X9_comeBack {g : sh_G} {S : sh_S} {sz : Nat} {Q : Int32 → sh_S → Prop} {a1 : Int32} 
    (h : (sh_Ci g mX9_isTool [sh_R (9, 0, 0), sh_I a1] S sz (fun r2 S1 => ((¬ r2 = 0 → (sh_Ci g mX9_its [sh_R (9, 0, 0), sh_I a1, sh_I 3] S1 sz (fun r5 S4 => ((¬ r5 = 3 → Q (-1000002) S4) ∧ (r5 = 3 → (sh_Ci g mX9_sharing [sh_R (9, 0, 0), sh_I (-1)] S4 sz (fun r8 S7 => ((¬ r8 = 0 → (sh_Cu g mX9_hold [sh_R (9, 0, 0)] S7 sz (fun S10 => (sh_Ci g mX9_daysOut [sh_R (9, 0, 0), sh_I a1] S10 sz (fun r12 S11 => (sh_Ci g mX9_its [sh_R (9, 0, 0), sh_I a1, sh_I 10] S11 sz (fun r14 S13 => ((r12 ≤ r14 → (sh_Ci g mX9_its [sh_R (9, 0, 0), sh_I a1, sh_I 11] S13 sz (fun r17 S16 => (∀ x18 : Int32, x18 = (r17 * (r12 + 0)) → (sh_Cf g mX9_duller [sh_R (9, 0, 0), sh_I a1, sh_I r12] S16 sz (fun f20 S19 => (sh_Ci g mX9_bitsOf [sh_F f20] S19 sz (fun r22 S21 => (sh_Cu g mX9_lay [sh_R (9, 0, 0), sh_I a1, sh_I 6, sh_I r22] S21 sz (fun S23 => (sh_Cu g mX9_lay [sh_R (9, 0, 0), sh_I a1, sh_I 3, sh_I 0] S23 sz (fun S24 => (sh_Cu g mX9_shared [sh_R (9, 0, 0), sh_I x18, sh_I (-1), sh_I (-1)] S24 sz (fun S25 => (sh_Ci g mX9_ends [sh_R (9, 0, 0), sh_I x18] S25 sz (fun r27 S26 => Q r27 S26)))))))))))))))) ∧ (¬ r12 ≤ r14 → (sh_Ci g mX9_its [sh_R (9, 0, 0), sh_I a1, sh_I 10] S13 sz (fun r29 S28 => (∀ x30 : Int32, x30 = (r12 - r29) → (sh_Ci g mX9_its [sh_R (9, 0, 0), sh_I a1, sh_I 11] S28 sz (fun r32 S31 => (∀ x33 : Int32, x33 = (r32 * (r12 + x30)) → (sh_Cf g mX9_duller [sh_R (9, 0, 0), sh_I a1, sh_I r12] S31 sz (fun f35 S34 => (sh_Ci g mX9_bitsOf [sh_F f35] S34 sz (fun r37 S36 => (sh_Cu g mX9_lay [sh_R (9, 0, 0), sh_I a1, sh_I 6, sh_I r37] S36 sz (fun S38 => (sh_Cu g mX9_lay [sh_R (9, 0, 0), sh_I a1, sh_I 3, sh_I 0] S38 sz (fun S39 => (sh_Cu g mX9_shared [sh_R (9, 0, 0), sh_I x33, sh_I (-1), sh_I (-1)] S39 sz (fun S40 => (sh_Ci g mX9_ends [sh_R (9, 0, 0), sh_I x33] S40 sz (fun r42 S41 => Q r42 S41))))))))))))))))))))))))))) ∧ (r8 = 0 → Q (-1000002) S7))))))))) ∧ (r2 = 0 → Q (-1000001) S1))))) :
    sh_Ci g mX9_comeBack [sh_R (9, 0, 0), sh_I a1] S sz Q := by
  refine sh_enter (ls := [(0, sh_R (9, 0, 0)), (1, sh_I a1)]) (by decide +kernel) (Nat.le_of_ble_eq_true rfl) rfl ?_
  refine sh_aload_n (pc := 0) dX9_comeBack_0 rfl ?_
  refine sh_iload_n (pc := 1) dX9_comeBack_1 rfl ?_
  refine sh_ci (N := mX9_isTool) (pc := 2) dX9_comeBack_2 ml_X9_132 h mf_X9_isTool iv_X9_isTool ⟨Nat.le_of_ble_eq_true rfl, Nat.le_of_ble_eq_true rfl⟩ rfl rfl (Nat.le_of_ble_eq_true rfl) ok_9_0 rfl (show vwCl[9]? = some (RX9, TX9, 14) from rfl) rfl (fun r2 S1 h => ?_)
  refine sh_if_ne (tgt := 11) (pc := 5) dX9_comeBack_5 (by decide) (fun hc3 => ?_) (fun hc3 => ?_)
  · have h := h.1 hc3
    refine sh_aload_n (pc := 11) dX9_comeBack_11 rfl ?_
    refine sh_iload_n (pc := 12) dX9_comeBack_12 rfl ?_
    refine sh_iconst (v := 3) (pc := 13) dX9_comeBack_13 rfl ?_
    refine sh_ci (N := mX9_its) (pc := 14) dX9_comeBack_14 ml_X9_79 h mf_X9_its iv_X9_its ⟨Nat.le_of_ble_eq_true rfl, Nat.le_of_ble_eq_true rfl⟩ rfl rfl (Nat.le_of_ble_eq_true rfl) ok_9_0 rfl (show vwCl[9]? = some (RX9, TX9, 14) from rfl) rfl (fun r5 S4 h => ?_)
    refine sh_iconst (v := 3) (pc := 17) dX9_comeBack_17 rfl ?_
    refine sh_icmp_ne (tgt := 29) (pc := 18) dX9_comeBack_18 (by decide) (fun hc6 => ?_) (fun hc6 => ?_)
    · have h := h.1 hc6
      refine sh_ldc (v := (-1000002)) (pc := 29) dX9_comeBack_29 kc_X9_78 ?_
      exact sh_ret_i (pc := 31) dX9_comeBack_31 rfl ⟨rfl, rfl⟩ h
    · have h := h.2 hc6
      refine sh_aload_n (pc := 21) dX9_comeBack_21 rfl ?_
      refine sh_iconst (v := (-1)) (pc := 22) dX9_comeBack_22 rfl ?_
      refine sh_ci (N := mX9_sharing) (pc := 23) dX9_comeBack_23 ml_X9_54 h mf_X9_sharing iv_X9_sharing ⟨Nat.le_of_ble_eq_true rfl, Nat.le_of_ble_eq_true rfl⟩ rfl rfl (Nat.le_of_ble_eq_true rfl) ok_9_0 rfl (show vwCl[9]? = some (RX9, TX9, 14) from rfl) rfl (fun r8 S7 h => ?_)
      refine sh_if_ne (tgt := 32) (pc := 26) dX9_comeBack_26 (by decide) (fun hc9 => ?_) (fun hc9 => ?_)
      · have h := h.1 hc9
        refine sh_aload_n (pc := 32) dX9_comeBack_32 rfl ?_
        refine sh_cu (N := mX9_hold) (pc := 33) dX9_comeBack_33 ml_X9_67 h mf_X9_hold iv_X9_hold ⟨Nat.le_of_ble_eq_true rfl, Nat.le_of_ble_eq_true rfl⟩ rfl rfl (Nat.le_of_ble_eq_true rfl) ok_9_0 rfl (show vwCl[9]? = some (RX9, TX9, 14) from rfl) rfl (fun S10 h => ?_)
        refine sh_aload_n (pc := 36) dX9_comeBack_36 rfl ?_
        refine sh_iload_n (pc := 37) dX9_comeBack_37 rfl ?_
        refine sh_ci (N := mX9_daysOut) (pc := 38) dX9_comeBack_38 ml_X9_149 h mf_X9_daysOut iv_X9_daysOut ⟨Nat.le_of_ble_eq_true rfl, Nat.le_of_ble_eq_true rfl⟩ rfl rfl (Nat.le_of_ble_eq_true rfl) ok_9_0 rfl (show vwCl[9]? = some (RX9, TX9, 14) from rfl) rfl (fun r12 S11 h => ?_)
        refine sh_istore_n (ls' := [(2, sh_I r12), (0, sh_R (9, 0, 0)), (1, sh_I a1)]) (pc := 41) dX9_comeBack_41 (by decide) rfl ?_
        refine sh_iload_n (pc := 42) dX9_comeBack_42 rfl ?_
        refine sh_aload_n (pc := 43) dX9_comeBack_43 rfl ?_
        refine sh_iload_n (pc := 44) dX9_comeBack_44 rfl ?_
        refine sh_bipush (v := 10) (pc := 45) dX9_comeBack_45 rfl ?_
        refine sh_ci (N := mX9_its) (pc := 47) dX9_comeBack_47 ml_X9_79 h mf_X9_its iv_X9_its ⟨Nat.le_of_ble_eq_true rfl, Nat.le_of_ble_eq_true rfl⟩ rfl rfl (Nat.le_of_ble_eq_true rfl) ok_9_0 rfl (show vwCl[9]? = some (RX9, TX9, 14) from rfl) rfl (fun r14 S13 h => ?_)
        refine sh_icmp_le (tgt := 65) (pc := 50) dX9_comeBack_50 (by decide) (fun hc15 => ?_) (fun hc15 => ?_)
        · have h := h.1 hc15
          refine sh_iconst (v := 0) (pc := 65) dX9_comeBack_65 rfl ?_
          refine sh_istore_n (ls' := [(3, sh_I 0), (2, sh_I r12), (0, sh_R (9, 0, 0)), (1, sh_I a1)]) (pc := 66) dX9_comeBack_66 (by decide) rfl ?_
          refine sh_aload_n (pc := 67) dX9_comeBack_67 rfl ?_
          refine sh_iload_n (pc := 68) dX9_comeBack_68 rfl ?_
          refine sh_bipush (v := 11) (pc := 69) dX9_comeBack_69 rfl ?_
          refine sh_ci (N := mX9_its) (pc := 71) dX9_comeBack_71 ml_X9_79 h mf_X9_its iv_X9_its ⟨Nat.le_of_ble_eq_true rfl, Nat.le_of_ble_eq_true rfl⟩ rfl rfl (Nat.le_of_ble_eq_true rfl) ok_9_0 rfl (show vwCl[9]? = some (RX9, TX9, 14) from rfl) rfl (fun r17 S16 h => ?_)
          refine sh_iload_n (pc := 74) dX9_comeBack_74 rfl ?_
          refine sh_iload_n (pc := 75) dX9_comeBack_75 rfl ?_
          refine sh_iadd (pc := 76) dX9_comeBack_76 ?_
          refine sh_imul (pc := 77) dX9_comeBack_77 ?_
          refine sh_topI (fun x18 hx18 => ?_)
          have h := h x18 hx18
          refine sh_istore (ls' := [(4, sh_I x18), (3, sh_I 0), (2, sh_I r12), (0, sh_R (9, 0, 0)), (1, sh_I a1)]) (pc := 78) dX9_comeBack_78 (by decide) rfl ?_
          refine sh_aload_n (pc := 80) dX9_comeBack_80 rfl ?_
          refine sh_iload_n (pc := 81) dX9_comeBack_81 rfl ?_
          refine sh_bipush (v := 6) (pc := 82) dX9_comeBack_82 rfl ?_
          refine sh_aload_n (pc := 84) dX9_comeBack_84 rfl ?_
          refine sh_iload_n (pc := 85) dX9_comeBack_85 rfl ?_
          refine sh_iload_n (pc := 86) dX9_comeBack_86 rfl ?_
          refine sh_cf (N := mX9_duller) (pc := 87) dX9_comeBack_87 ml_X9_152 h mf_X9_duller iv_X9_duller ⟨Nat.le_of_ble_eq_true rfl, Nat.le_of_ble_eq_true rfl⟩ rfl rfl (Nat.le_of_ble_eq_true rfl) ok_9_0 rfl (show vwCl[9]? = some (RX9, TX9, 14) from rfl) rfl (fun f20 S19 h => ?_)
          refine sh_si (N := mX9_bitsOf) (pc := 90) dX9_comeBack_90 ml_X9_126 h mf_X9_bitsOf is_X9_bitsOf ⟨Nat.le_of_ble_eq_true rfl, Nat.le_of_ble_eq_true rfl⟩ rfl rfl (Nat.le_of_ble_eq_true rfl) (fun r22 S21 h => ?_)
          refine sh_cu (N := mX9_lay) (pc := 93) dX9_comeBack_93 ml_X9_123 h mf_X9_lay iv_X9_lay ⟨Nat.le_of_ble_eq_true rfl, Nat.le_of_ble_eq_true rfl⟩ rfl rfl (Nat.le_of_ble_eq_true rfl) ok_9_0 rfl (show vwCl[9]? = some (RX9, TX9, 14) from rfl) rfl (fun S23 h => ?_)
          refine sh_aload_n (pc := 96) dX9_comeBack_96 rfl ?_
          refine sh_iload_n (pc := 97) dX9_comeBack_97 rfl ?_
          refine sh_iconst (v := 3) (pc := 98) dX9_comeBack_98 rfl ?_
          refine sh_iconst (v := 0) (pc := 99) dX9_comeBack_99 rfl ?_
          refine sh_cu (N := mX9_lay) (pc := 100) dX9_comeBack_100 ml_X9_123 h mf_X9_lay iv_X9_lay ⟨Nat.le_of_ble_eq_true rfl, Nat.le_of_ble_eq_true rfl⟩ rfl rfl (Nat.le_of_ble_eq_true rfl) ok_9_0 rfl (show vwCl[9]? = some (RX9, TX9, 14) from rfl) rfl (fun S24 h => ?_)
          refine sh_aload_n (pc := 103) dX9_comeBack_103 rfl ?_
          refine sh_iload (pc := 104) dX9_comeBack_104 rfl ?_
          refine sh_iconst (v := (-1)) (pc := 106) dX9_comeBack_106 rfl ?_
          refine sh_iconst (v := (-1)) (pc := 107) dX9_comeBack_107 rfl ?_
          refine sh_cu (N := mX9_shared) (pc := 108) dX9_comeBack_108 ml_X9_102 h mf_X9_shared iv_X9_shared ⟨Nat.le_of_ble_eq_true rfl, Nat.le_of_ble_eq_true rfl⟩ rfl rfl (Nat.le_of_ble_eq_true rfl) ok_9_0 rfl (show vwCl[9]? = some (RX9, TX9, 14) from rfl) rfl (fun S25 h => ?_)
          refine sh_aload_n (pc := 111) dX9_comeBack_111 rfl ?_
          refine sh_iload (pc := 112) dX9_comeBack_112 rfl ?_
          refine sh_ci (N := mX9_ends) (pc := 114) dX9_comeBack_114 ml_X9_70 h mf_X9_ends iv_X9_ends ⟨Nat.le_of_ble_eq_true rfl, Nat.le_of_ble_eq_true rfl⟩ rfl rfl (Nat.le_of_ble_eq_true rfl) ok_9_0 rfl (show vwCl[9]? = some (RX9, TX9, 14) from rfl) rfl (fun r27 S26 h => ?_)
          exact sh_ret_i (pc := 117) dX9_comeBack_117 rfl ⟨rfl, rfl⟩ h
        · have h := h.2 hc15
          refine sh_iload_n (pc := 53) dX9_comeBack_53 rfl ?_
          refine sh_aload_n (pc := 54) dX9_comeBack_54 rfl ?_
          refine sh_iload_n (pc := 55) dX9_comeBack_55 rfl ?_
          refine sh_bipush (v := 10) (pc := 56) dX9_comeBack_56 rfl ?_
          refine sh_ci (N := mX9_its) (pc := 58) dX9_comeBack_58 ml_X9_79 h mf_X9_its iv_X9_its ⟨Nat.le_of_ble_eq_true rfl, Nat.le_of_ble_eq_true rfl⟩ rfl rfl (Nat.le_of_ble_eq_true rfl) ok_9_0 rfl (show vwCl[9]? = some (RX9, TX9, 14) from rfl) rfl (fun r29 S28 h => ?_)
          refine sh_isub (pc := 61) dX9_comeBack_61 ?_
          refine sh_goto (tgt := 66) (pc := 62) dX9_comeBack_62 (by decide) ?_
          refine sh_topI (fun x30 hx30 => ?_)
          have h := h x30 hx30
          refine sh_istore_n (ls' := [(3, sh_I x30), (2, sh_I r12), (0, sh_R (9, 0, 0)), (1, sh_I a1)]) (pc := 66) dX9_comeBack_66 (by decide) rfl ?_
          refine sh_aload_n (pc := 67) dX9_comeBack_67 rfl ?_
          refine sh_iload_n (pc := 68) dX9_comeBack_68 rfl ?_
          refine sh_bipush (v := 11) (pc := 69) dX9_comeBack_69 rfl ?_
          refine sh_ci (N := mX9_its) (pc := 71) dX9_comeBack_71 ml_X9_79 h mf_X9_its iv_X9_its ⟨Nat.le_of_ble_eq_true rfl, Nat.le_of_ble_eq_true rfl⟩ rfl rfl (Nat.le_of_ble_eq_true rfl) ok_9_0 rfl (show vwCl[9]? = some (RX9, TX9, 14) from rfl) rfl (fun r32 S31 h => ?_)
          refine sh_iload_n (pc := 74) dX9_comeBack_74 rfl ?_
          refine sh_iload_n (pc := 75) dX9_comeBack_75 rfl ?_
          refine sh_iadd (pc := 76) dX9_comeBack_76 ?_
          refine sh_imul (pc := 77) dX9_comeBack_77 ?_
          refine sh_topI (fun x33 hx33 => ?_)
          have h := h x33 hx33
          refine sh_istore (ls' := [(4, sh_I x33), (3, sh_I x30), (2, sh_I r12), (0, sh_R (9, 0, 0)), (1, sh_I a1)]) (pc := 78) dX9_comeBack_78 (by decide) rfl ?_
          refine sh_aload_n (pc := 80) dX9_comeBack_80 rfl ?_
          refine sh_iload_n (pc := 81) dX9_comeBack_81 rfl ?_
          refine sh_bipush (v := 6) (pc := 82) dX9_comeBack_82 rfl ?_
          refine sh_aload_n (pc := 84) dX9_comeBack_84 rfl ?_
          refine sh_iload_n (pc := 85) dX9_comeBack_85 rfl ?_
          refine sh_iload_n (pc := 86) dX9_comeBack_86 rfl ?_
          refine sh_cf (N := mX9_duller) (pc := 87) dX9_comeBack_87 ml_X9_152 h mf_X9_duller iv_X9_duller ⟨Nat.le_of_ble_eq_true rfl, Nat.le_of_ble_eq_true rfl⟩ rfl rfl (Nat.le_of_ble_eq_true rfl) ok_9_0 rfl (show vwCl[9]? = some (RX9, TX9, 14) from rfl) rfl (fun f35 S34 h => ?_)
          refine sh_si (N := mX9_bitsOf) (pc := 90) dX9_comeBack_90 ml_X9_126 h mf_X9_bitsOf is_X9_bitsOf ⟨Nat.le_of_ble_eq_true rfl, Nat.le_of_ble_eq_true rfl⟩ rfl rfl (Nat.le_of_ble_eq_true rfl) (fun r37 S36 h => ?_)
          refine sh_cu (N := mX9_lay) (pc := 93) dX9_comeBack_93 ml_X9_123 h mf_X9_lay iv_X9_lay ⟨Nat.le_of_ble_eq_true rfl, Nat.le_of_ble_eq_true rfl⟩ rfl rfl (Nat.le_of_ble_eq_true rfl) ok_9_0 rfl (show vwCl[9]? = some (RX9, TX9, 14) from rfl) rfl (fun S38 h => ?_)
          refine sh_aload_n (pc := 96) dX9_comeBack_96 rfl ?_
          refine sh_iload_n (pc := 97) dX9_comeBack_97 rfl ?_
          refine sh_iconst (v := 3) (pc := 98) dX9_comeBack_98 rfl ?_
          refine sh_iconst (v := 0) (pc := 99) dX9_comeBack_99 rfl ?_
          refine sh_cu (N := mX9_lay) (pc := 100) dX9_comeBack_100 ml_X9_123 h mf_X9_lay iv_X9_lay ⟨Nat.le_of_ble_eq_true rfl, Nat.le_of_ble_eq_true rfl⟩ rfl rfl (Nat.le_of_ble_eq_true rfl) ok_9_0 rfl (show vwCl[9]? = some (RX9, TX9, 14) from rfl) rfl (fun S39 h => ?_)
          refine sh_aload_n (pc := 103) dX9_comeBack_103 rfl ?_
          refine sh_iload (pc := 104) dX9_comeBack_104 rfl ?_
          refine sh_iconst (v := (-1)) (pc := 106) dX9_comeBack_106 rfl ?_
          refine sh_iconst (v := (-1)) (pc := 107) dX9_comeBack_107 rfl ?_
          refine sh_cu (N := mX9_shared) (pc := 108) dX9_comeBack_108 ml_X9_102 h mf_X9_shared iv_X9_shared ⟨Nat.le_of_ble_eq_true rfl, Nat.le_of_ble_eq_true rfl⟩ rfl rfl (Nat.le_of_ble_eq_true rfl) ok_9_0 rfl (show vwCl[9]? = some (RX9, TX9, 14) from rfl) rfl (fun S40 h => ?_)
          refine sh_aload_n (pc := 111) dX9_comeBack_111 rfl ?_
          refine sh_iload (pc := 112) dX9_comeBack_112 rfl ?_
          refine sh_ci (N := mX9_ends) (pc := 114) dX9_comeBack_114 ml_X9_70 h mf_X9_ends iv_X9_ends ⟨Nat.le_of_ble_eq_true rfl, Nat.le_of_ble_eq_true rfl⟩ rfl rfl (Nat.le_of_ble_eq_true rfl) ok_9_0 rfl (show vwCl[9]? = some (RX9, TX9, 14) from rfl) rfl (fun r42 S41 h => ?_)
          exact sh_ret_i (pc := 117) dX9_comeBack_117 rfl ⟨rfl, rfl⟩ h
      · have h := h.2 hc9
        refine sh_ldc (v := (-1000002)) (pc := 29) dX9_comeBack_29 kc_X9_78 ?_
        exact sh_ret_i (pc := 31) dX9_comeBack_31 rfl ⟨rfl, rfl⟩ h
  · have h := h.2 hc3
    refine sh_ldc (v := (-1000001)) (pc := 8) dX9_comeBack_8 kc_X9_32 ?_
    exact sh_ret_i (pc := 10) dX9_comeBack_10 rfl ⟨rfl, rfl⟩ h

set_option maxRecDepth 100000 in
set_option maxHeartbeats 4000000 in
theorem wp_X9_dayBegins {g : sh_G} {S : sh_S} {sz : Nat} {Q : sh_S → Prop} 
    (h : (∀ S3 : sh_S, S3 = sh_sr S (19, 0, 0) (upd (S (19, 0, 0)) 7 ((S (19, 0, 0) 7) + 1)) → (∃ (Iv4 : Int32 → sh_S → Prop) (mu4 : Int32 → sh_S → Nat), Iv4 0 S3 ∧ ∀ (v5 : Int32) (S6 : sh_S), Iv4 v5 S6 → (((S6 (19, 0, 0) 8) ≤ v5 → (∃ (Iv9 : Int32 → sh_S → Prop) (mu9 : Int32 → sh_S → Nat), Iv9 0 S6 ∧ ∀ (v10 : Int32) (S11 : sh_S), Iv9 v10 S11 → (((S11 (19, 0, 0) 9) ≤ v10 → Q S11) ∧ (¬ (S11 (19, 0, 0) 9) ≤ v10 → (sh_Ci g mX9_its [sh_R (9, 0, 0), sh_I v10, sh_I 20] S11 sz (fun r15 S14 => (((S14 (19, 0, 0) 7) ≤ r15 → (∀ x18 : Int32, x18 = v10 + 1 → (Iv9 x18 S14 ∧ mu9 x18 S14 < mu9 v10 S11))) ∧ (¬ (S14 (19, 0, 0) 7) ≤ r15 → (sh_Cu g mX9_lay [sh_R (9, 0, 0), sh_I v10, sh_I 18, sh_I 0] S14 sz (fun S19 => (∀ x20 : Int32, x20 = v10 + 1 → (Iv9 x20 S19 ∧ mu9 x20 S19 < mu9 v10 S11)))))))))))) ∧ (¬ (S6 (19, 0, 0) 8) ≤ v5 → ((¬ ((S6 (19, 0, 0) 7) - ((S6 (19, 0, 0) 7) / 30) * 30) = 0 → (∃ (Iv23 : Int32 → sh_S → Prop) (mu23 : Int32 → sh_S → Nat), Iv23 0 S6 ∧ ∀ (v24 : Int32) (S25 : sh_S), Iv23 v24 S25 → (((S25 (19, 0, 0) 9) ≤ v24 → Q S25) ∧ (¬ (S25 (19, 0, 0) 9) ≤ v24 → (sh_Ci g mX9_its [sh_R (9, 0, 0), sh_I v24, sh_I 20] S25 sz (fun r29 S28 => (((S28 (19, 0, 0) 7) ≤ r29 → (∀ x32 : Int32, x32 = v24 + 1 → (Iv23 x32 S28 ∧ mu23 x32 S28 < mu23 v24 S25))) ∧ (¬ (S28 (19, 0, 0) 7) ≤ r29 → (sh_Cu g mX9_lay [sh_R (9, 0, 0), sh_I v24, sh_I 18, sh_I 0] S28 sz (fun S33 => (∀ x34 : Int32, x34 = v24 + 1 → (Iv23 x34 S33 ∧ mu23 x34 S33 < mu23 v24 S25)))))))))))) ∧ (((S6 (19, 0, 0) 7) - ((S6 (19, 0, 0) 7) / 30) * 30) = 0 → (sh_Ci g mX9_of [sh_R (9, 0, 0), sh_I v5, sh_I 0] S6 sz (fun r36 S35 => ((r36 = 2 → (∀ x38 : Int32, x38 = v5 + 1 → (Iv4 x38 S35 ∧ mu4 x38 S35 < mu4 v5 S6))) ∧ (¬ r36 = 2 → (sh_Cu g mX9_charges [sh_R (9, 0, 0), sh_I v5, sh_I (S35 (19, 0, 0) 0), sh_I 0] S35 sz (fun S40 => (∀ x41 : Int32, x41 = v5 + 1 → (Iv4 x41 S40 ∧ mu4 x41 S40 < mu4 v5 S6))))))))))))))) :
    sh_Cu g mX9_dayBegins [sh_R (9, 0, 0)] S sz Q := by
  refine sh_enter (ls := [(0, sh_R (9, 0, 0))]) (by decide +kernel) (Nat.le_of_ble_eq_true rfl) rfl ?_
  refine sh_aload_n (pc := 0) dX9_dayBegins_0 rfl ?_
  refine sh_gf (pc := 1) dX9_dayBegins_1 fl_X9_7 cf_9 ok_9_0 rfl rfl ?_
  refine sh_bipush (v := 7) (pc := 4) dX9_dayBegins_4 rfl ?_
  refine sh_dup2 (pc := 6) dX9_dayBegins_6 rfl rfl ?_
  refine sh_ia (pc := 7) dX9_dayBegins_7 ok_19_0 rfl (vp_in_iff.mpr ⟨by decide, by decide⟩) ?_
  refine sh_iconst (v := 1) (pc := 8) dX9_dayBegins_8 rfl ?_
  refine sh_iadd (pc := 9) dX9_dayBegins_9 ?_
  refine sh_is (pc := 10) dX9_dayBegins_10 ok_19_0 rfl (vp_in_iff.mpr ⟨by decide, by decide⟩) rfl ?_
  refine sh_topS (fun S3 hS3 => ?_)
  have h := h S3 hS3
  refine sh_iconst (v := 0) (pc := 11) dX9_dayBegins_11 rfl ?_
  refine sh_istore_n (ls' := [(1, sh_I 0), (0, sh_R (9, 0, 0))]) (pc := 12) dX9_dayBegins_12 (by decide) rfl ?_
  obtain ⟨Iv4, mu4, h0, hs4⟩ := h
  refine sh_pick [1, 0] rfl ?_
  refine sh_lp2 Iv4 mu4 (fun v5 S6 => sh_V g mX9_dayBegins 0 0 13 [(0, sh_R (9, 0, 0)), (1, sh_I v5)] [] (sh_St S6) sz (sh_tu sz Q)) (fun v5 S6 hI4 ih4 => ?_) _ _ h0
  have h := hs4 v5 S6 hI4
  clear h0
  refine sh_iload_n (pc := 13) dX9_dayBegins_13 rfl ?_
  refine sh_aload_n (pc := 14) dX9_dayBegins_14 rfl ?_
  refine sh_gf (pc := 15) dX9_dayBegins_15 fl_X9_7 cf_9 ok_9_0 rfl rfl ?_
  refine sh_bipush (v := 8) (pc := 18) dX9_dayBegins_18 rfl ?_
  refine sh_ia (pc := 20) dX9_dayBegins_20 ok_19_0 rfl (vp_in_iff.mpr ⟨by decide, by decide⟩) ?_
  refine sh_icmp_ge (tgt := 65) (pc := 21) dX9_dayBegins_21 (by decide) (fun hc8 => ?_) (fun hc8 => ?_)
  · have h := h.1 hc8
    refine sh_iconst (v := 0) (pc := 65) dX9_dayBegins_65 rfl ?_
    refine sh_istore_n (ls' := [(1, sh_I 0), (0, sh_R (9, 0, 0))]) (pc := 66) dX9_dayBegins_66 (by decide) rfl ?_
    obtain ⟨Iv9, mu9, h0, hs9⟩ := h
    refine sh_pick [1, 0] rfl ?_
    refine sh_lp2 Iv9 mu9 (fun v10 S11 => sh_V g mX9_dayBegins 0 0 67 [(0, sh_R (9, 0, 0)), (1, sh_I v10)] [] (sh_St S11) sz (sh_tu sz Q)) (fun v10 S11 hI9 ih9 => ?_) _ _ h0
    have h := hs9 v10 S11 hI9
    clear h0
    refine sh_iload_n (pc := 67) dX9_dayBegins_67 rfl ?_
    refine sh_aload_n (pc := 68) dX9_dayBegins_68 rfl ?_
    refine sh_gf (pc := 69) dX9_dayBegins_69 fl_X9_7 cf_9 ok_9_0 rfl rfl ?_
    refine sh_bipush (v := 9) (pc := 72) dX9_dayBegins_72 rfl ?_
    refine sh_ia (pc := 74) dX9_dayBegins_74 ok_19_0 rfl (vp_in_iff.mpr ⟨by decide, by decide⟩) ?_
    refine sh_icmp_ge (tgt := 109) (pc := 75) dX9_dayBegins_75 (by decide) (fun hc13 => ?_) (fun hc13 => ?_)
    · have h := h.1 hc13
      exact sh_ret_u (pc := 109) dX9_dayBegins_109 rfl ⟨rfl, rfl⟩ h
    · have h := h.2 hc13
      refine sh_aload_n (pc := 78) dX9_dayBegins_78 rfl ?_
      refine sh_iload_n (pc := 79) dX9_dayBegins_79 rfl ?_
      refine sh_bipush (v := 20) (pc := 80) dX9_dayBegins_80 rfl ?_
      refine sh_ci (N := mX9_its) (pc := 82) dX9_dayBegins_82 ml_X9_79 h mf_X9_its iv_X9_its ⟨Nat.le_of_ble_eq_true rfl, Nat.le_of_ble_eq_true rfl⟩ rfl rfl (Nat.le_of_ble_eq_true rfl) ok_9_0 rfl (show vwCl[9]? = some (RX9, TX9, 14) from rfl) rfl (fun r15 S14 h => ?_)
      refine sh_aload_n (pc := 85) dX9_dayBegins_85 rfl ?_
      refine sh_gf (pc := 86) dX9_dayBegins_86 fl_X9_7 cf_9 ok_9_0 rfl rfl ?_
      refine sh_bipush (v := 7) (pc := 89) dX9_dayBegins_89 rfl ?_
      refine sh_ia (pc := 91) dX9_dayBegins_91 ok_19_0 rfl (vp_in_iff.mpr ⟨by decide, by decide⟩) ?_
      refine sh_icmp_ge (tgt := 103) (pc := 92) dX9_dayBegins_92 (by decide) (fun hc17 => ?_) (fun hc17 => ?_)
      · have h := h.1 hc17
        obtain ⟨x18, hx18⟩ : ∃ y : Int32, y = v10 + 1 := ⟨_, rfl⟩
        have h := h x18 hx18
        refine sh_iinc (v := x18) (ls' := [(1, sh_I x18), (0, sh_R (9, 0, 0))]) (pc := 103) dX9_dayBegins_103 rfl hx18.symm (by decide) rfl ?_
        refine sh_goto (tgt := 67) (pc := 106) dX9_dayBegins_106 (by decide) ?_
        refine sh_pick [1, 0] rfl ?_
        exact ih9 _ _ h.1 h.2
      · have h := h.2 hc17
        refine sh_aload_n (pc := 95) dX9_dayBegins_95 rfl ?_
        refine sh_iload_n (pc := 96) dX9_dayBegins_96 rfl ?_
        refine sh_bipush (v := 18) (pc := 97) dX9_dayBegins_97 rfl ?_
        refine sh_iconst (v := 0) (pc := 99) dX9_dayBegins_99 rfl ?_
        refine sh_cu (N := mX9_lay) (pc := 100) dX9_dayBegins_100 ml_X9_123 h mf_X9_lay iv_X9_lay ⟨Nat.le_of_ble_eq_true rfl, Nat.le_of_ble_eq_true rfl⟩ rfl rfl (Nat.le_of_ble_eq_true rfl) ok_9_0 rfl (show vwCl[9]? = some (RX9, TX9, 14) from rfl) rfl (fun S19 h => ?_)
        obtain ⟨x20, hx20⟩ : ∃ y : Int32, y = v10 + 1 := ⟨_, rfl⟩
        have h := h x20 hx20
        refine sh_iinc (v := x20) (ls' := [(1, sh_I x20), (0, sh_R (9, 0, 0))]) (pc := 103) dX9_dayBegins_103 rfl hx20.symm (by decide) rfl ?_
        refine sh_goto (tgt := 67) (pc := 106) dX9_dayBegins_106 (by decide) ?_
        refine sh_pick [1, 0] rfl ?_
        exact ih9 _ _ h.1 h.2
  · have h := h.2 hc8
    refine sh_aload_n (pc := 24) dX9_dayBegins_24 rfl ?_
    refine sh_gf (pc := 25) dX9_dayBegins_25 fl_X9_7 cf_9 ok_9_0 rfl rfl ?_
    refine sh_bipush (v := 7) (pc := 28) dX9_dayBegins_28 rfl ?_
    refine sh_ia (pc := 30) dX9_dayBegins_30 ok_19_0 rfl (vp_in_iff.mpr ⟨by decide, by decide⟩) ?_
    refine sh_bipush (v := 30) (pc := 31) dX9_dayBegins_31 rfl ?_
    refine sh_irem (pc := 33) dX9_dayBegins_33 (by decide) ?_
    refine sh_if_ne (tgt := 65) (pc := 34) dX9_dayBegins_34 (by decide) (fun hc22 => ?_) (fun hc22 => ?_)
    · have h := h.1 hc22
      refine sh_iconst (v := 0) (pc := 65) dX9_dayBegins_65 rfl ?_
      refine sh_istore_n (ls' := [(1, sh_I 0), (0, sh_R (9, 0, 0))]) (pc := 66) dX9_dayBegins_66 (by decide) rfl ?_
      obtain ⟨Iv23, mu23, h0, hs23⟩ := h
      refine sh_pick [1, 0] rfl ?_
      refine sh_lp2 Iv23 mu23 (fun v24 S25 => sh_V g mX9_dayBegins 0 0 67 [(0, sh_R (9, 0, 0)), (1, sh_I v24)] [] (sh_St S25) sz (sh_tu sz Q)) (fun v24 S25 hI23 ih23 => ?_) _ _ h0
      have h := hs23 v24 S25 hI23
      clear h0
      refine sh_iload_n (pc := 67) dX9_dayBegins_67 rfl ?_
      refine sh_aload_n (pc := 68) dX9_dayBegins_68 rfl ?_
      refine sh_gf (pc := 69) dX9_dayBegins_69 fl_X9_7 cf_9 ok_9_0 rfl rfl ?_
      refine sh_bipush (v := 9) (pc := 72) dX9_dayBegins_72 rfl ?_
      refine sh_ia (pc := 74) dX9_dayBegins_74 ok_19_0 rfl (vp_in_iff.mpr ⟨by decide, by decide⟩) ?_
      refine sh_icmp_ge (tgt := 109) (pc := 75) dX9_dayBegins_75 (by decide) (fun hc27 => ?_) (fun hc27 => ?_)
      · have h := h.1 hc27
        exact sh_ret_u (pc := 109) dX9_dayBegins_109 rfl ⟨rfl, rfl⟩ h
      · have h := h.2 hc27
        refine sh_aload_n (pc := 78) dX9_dayBegins_78 rfl ?_
        refine sh_iload_n (pc := 79) dX9_dayBegins_79 rfl ?_
        refine sh_bipush (v := 20) (pc := 80) dX9_dayBegins_80 rfl ?_
        refine sh_ci (N := mX9_its) (pc := 82) dX9_dayBegins_82 ml_X9_79 h mf_X9_its iv_X9_its ⟨Nat.le_of_ble_eq_true rfl, Nat.le_of_ble_eq_true rfl⟩ rfl rfl (Nat.le_of_ble_eq_true rfl) ok_9_0 rfl (show vwCl[9]? = some (RX9, TX9, 14) from rfl) rfl (fun r29 S28 h => ?_)
        refine sh_aload_n (pc := 85) dX9_dayBegins_85 rfl ?_
        refine sh_gf (pc := 86) dX9_dayBegins_86 fl_X9_7 cf_9 ok_9_0 rfl rfl ?_
        refine sh_bipush (v := 7) (pc := 89) dX9_dayBegins_89 rfl ?_
        refine sh_ia (pc := 91) dX9_dayBegins_91 ok_19_0 rfl (vp_in_iff.mpr ⟨by decide, by decide⟩) ?_
        refine sh_icmp_ge (tgt := 103) (pc := 92) dX9_dayBegins_92 (by decide) (fun hc31 => ?_) (fun hc31 => ?_)
        · have h := h.1 hc31
          obtain ⟨x32, hx32⟩ : ∃ y : Int32, y = v24 + 1 := ⟨_, rfl⟩
          have h := h x32 hx32
          refine sh_iinc (v := x32) (ls' := [(1, sh_I x32), (0, sh_R (9, 0, 0))]) (pc := 103) dX9_dayBegins_103 rfl hx32.symm (by decide) rfl ?_
          refine sh_goto (tgt := 67) (pc := 106) dX9_dayBegins_106 (by decide) ?_
          refine sh_pick [1, 0] rfl ?_
          exact ih23 _ _ h.1 h.2
        · have h := h.2 hc31
          refine sh_aload_n (pc := 95) dX9_dayBegins_95 rfl ?_
          refine sh_iload_n (pc := 96) dX9_dayBegins_96 rfl ?_
          refine sh_bipush (v := 18) (pc := 97) dX9_dayBegins_97 rfl ?_
          refine sh_iconst (v := 0) (pc := 99) dX9_dayBegins_99 rfl ?_
          refine sh_cu (N := mX9_lay) (pc := 100) dX9_dayBegins_100 ml_X9_123 h mf_X9_lay iv_X9_lay ⟨Nat.le_of_ble_eq_true rfl, Nat.le_of_ble_eq_true rfl⟩ rfl rfl (Nat.le_of_ble_eq_true rfl) ok_9_0 rfl (show vwCl[9]? = some (RX9, TX9, 14) from rfl) rfl (fun S33 h => ?_)
          obtain ⟨x34, hx34⟩ : ∃ y : Int32, y = v24 + 1 := ⟨_, rfl⟩
          have h := h x34 hx34
          refine sh_iinc (v := x34) (ls' := [(1, sh_I x34), (0, sh_R (9, 0, 0))]) (pc := 103) dX9_dayBegins_103 rfl hx34.symm (by decide) rfl ?_
          refine sh_goto (tgt := 67) (pc := 106) dX9_dayBegins_106 (by decide) ?_
          refine sh_pick [1, 0] rfl ?_
          exact ih23 _ _ h.1 h.2
    · have h := h.2 hc22
      refine sh_aload_n (pc := 37) dX9_dayBegins_37 rfl ?_
      refine sh_iload_n (pc := 38) dX9_dayBegins_38 rfl ?_
      refine sh_iconst (v := 0) (pc := 39) dX9_dayBegins_39 rfl ?_
      refine sh_ci (N := mX9_of) (pc := 40) dX9_dayBegins_40 ml_X9_46 h mf_X9_of iv_X9_of ⟨Nat.le_of_ble_eq_true rfl, Nat.le_of_ble_eq_true rfl⟩ rfl rfl (Nat.le_of_ble_eq_true rfl) ok_9_0 rfl (show vwCl[9]? = some (RX9, TX9, 14) from rfl) rfl (fun r36 S35 h => ?_)
      refine sh_iconst (v := 2) (pc := 43) dX9_dayBegins_43 rfl ?_
      refine sh_icmp_eq (tgt := 59) (pc := 44) dX9_dayBegins_44 (by decide) (fun hc37 => ?_) (fun hc37 => ?_)
      · have h := h.1 hc37
        obtain ⟨x38, hx38⟩ : ∃ y : Int32, y = v5 + 1 := ⟨_, rfl⟩
        have h := h x38 hx38
        refine sh_iinc (v := x38) (ls' := [(1, sh_I x38), (0, sh_R (9, 0, 0))]) (pc := 59) dX9_dayBegins_59 rfl hx38.symm (by decide) rfl ?_
        refine sh_goto (tgt := 13) (pc := 62) dX9_dayBegins_62 (by decide) ?_
        refine sh_pick [1, 0] rfl ?_
        exact ih4 _ _ h.1 h.2
      · have h := h.2 hc37
        refine sh_aload_n (pc := 47) dX9_dayBegins_47 rfl ?_
        refine sh_iload_n (pc := 48) dX9_dayBegins_48 rfl ?_
        refine sh_aload_n (pc := 49) dX9_dayBegins_49 rfl ?_
        refine sh_gf (pc := 50) dX9_dayBegins_50 fl_X9_7 cf_9 ok_9_0 rfl rfl ?_
        refine sh_iconst (v := 0) (pc := 53) dX9_dayBegins_53 rfl ?_
        refine sh_ia (pc := 54) dX9_dayBegins_54 ok_19_0 rfl (vp_in_iff.mpr ⟨by decide, by decide⟩) ?_
        refine sh_iconst (v := 0) (pc := 55) dX9_dayBegins_55 rfl ?_
        refine sh_cu (N := mX9_charges) (pc := 56) dX9_dayBegins_56 ml_X9_61 h mf_X9_charges iv_X9_charges ⟨Nat.le_of_ble_eq_true rfl, Nat.le_of_ble_eq_true rfl⟩ rfl rfl (Nat.le_of_ble_eq_true rfl) ok_9_0 rfl (show vwCl[9]? = some (RX9, TX9, 14) from rfl) rfl (fun S40 h => ?_)
        obtain ⟨x41, hx41⟩ : ∃ y : Int32, y = v5 + 1 := ⟨_, rfl⟩
        have h := h x41 hx41
        refine sh_iinc (v := x41) (ls' := [(1, sh_I x41), (0, sh_R (9, 0, 0))]) (pc := 59) dX9_dayBegins_59 rfl hx41.symm (by decide) rfl ?_
        refine sh_goto (tgt := 13) (pc := 62) dX9_dayBegins_62 (by decide) ?_
        refine sh_pick [1, 0] rfl ?_
        exact ih4 _ _ h.1 h.2

set_option maxRecDepth 100000 in
set_option maxHeartbeats 4000000 in
theorem wp_X9_pass {g : sh_G} {S : sh_S} {sz : Nat} {Q : Int32 → sh_S → Prop} {a1 : Int32} 
    (h : (sh_Ci g mX9_in [sh_I a1, sh_I 1, sh_I 60] S sz (fun r2 S1 => ((¬ r2 = 0 → ((((S1 (19, 0, 0) 7) + a1) ≤ 3000 → (sh_Cu g mX9_hold [sh_R (9, 0, 0)] S1 sz (fun S6 => (∃ (Iv7 : Int32 → sh_S → Prop) (mu7 : Int32 → sh_S → Nat), Iv7 0 S6 ∧ ∀ (v8 : Int32) (S9 : sh_S), Iv7 v8 S9 → ((a1 ≤ v8 → (sh_Ci g mX9_ends [sh_R (9, 0, 0), sh_I (S9 (19, 0, 0) 7)] S9 sz (fun r13 S12 => Q r13 S12))) ∧ (¬ a1 ≤ v8 → (sh_Cu g mX9_dayBegins [sh_R (9, 0, 0)] S9 sz (fun S14 => (∀ x15 : Int32, x15 = v8 + 1 → (Iv7 x15 S14 ∧ mu7 x15 S14 < mu7 v8 S9)))))))))) ∧ (¬ ((S1 (19, 0, 0) 7) + a1) ≤ 3000 → Q (-1000003) S1))) ∧ (r2 = 0 → Q (-1000001) S1))))) :
    sh_Ci g mX9_pass [sh_R (9, 0, 0), sh_I a1] S sz Q := by
  refine sh_enter (ls := [(0, sh_R (9, 0, 0)), (1, sh_I a1)]) (by decide +kernel) (Nat.le_of_ble_eq_true rfl) rfl ?_
  refine sh_iload_n (pc := 0) dX9_pass_0 rfl ?_
  refine sh_iconst (v := 1) (pc := 1) dX9_pass_1 rfl ?_
  refine sh_bipush (v := 60) (pc := 2) dX9_pass_2 rfl ?_
  refine sh_si (N := mX9_in) (pc := 4) dX9_pass_4 ml_X9_38 h mf_X9_in is_X9_in ⟨Nat.le_of_ble_eq_true rfl, Nat.le_of_ble_eq_true rfl⟩ rfl rfl (Nat.le_of_ble_eq_true rfl) (fun r2 S1 h => ?_)
  refine sh_if_ne (tgt := 13) (pc := 7) dX9_pass_7 (by decide) (fun hc3 => ?_) (fun hc3 => ?_)
  · have h := h.1 hc3
    refine sh_aload_n (pc := 13) dX9_pass_13 rfl ?_
    refine sh_gf (pc := 14) dX9_pass_14 fl_X9_7 cf_9 ok_9_0 rfl rfl ?_
    refine sh_bipush (v := 7) (pc := 17) dX9_pass_17 rfl ?_
    refine sh_ia (pc := 19) dX9_pass_19 ok_19_0 rfl (vp_in_iff.mpr ⟨by decide, by decide⟩) ?_
    refine sh_iload_n (pc := 20) dX9_pass_20 rfl ?_
    refine sh_iadd (pc := 21) dX9_pass_21 ?_
    refine sh_sipush (v := 3000) (pc := 22) dX9_pass_22 rfl ?_
    refine sh_icmp_le (tgt := 31) (pc := 25) dX9_pass_25 (by decide) (fun hc5 => ?_) (fun hc5 => ?_)
    · have h := h.1 hc5
      refine sh_aload_n (pc := 31) dX9_pass_31 rfl ?_
      refine sh_cu (N := mX9_hold) (pc := 32) dX9_pass_32 ml_X9_67 h mf_X9_hold iv_X9_hold ⟨Nat.le_of_ble_eq_true rfl, Nat.le_of_ble_eq_true rfl⟩ rfl rfl (Nat.le_of_ble_eq_true rfl) ok_9_0 rfl (show vwCl[9]? = some (RX9, TX9, 14) from rfl) rfl (fun S6 h => ?_)
      refine sh_iconst (v := 0) (pc := 35) dX9_pass_35 rfl ?_
      refine sh_istore_n (ls' := [(2, sh_I 0), (0, sh_R (9, 0, 0)), (1, sh_I a1)]) (pc := 36) dX9_pass_36 (by decide) rfl ?_
      obtain ⟨Iv7, mu7, h0, hs7⟩ := h
      refine sh_pick [1, 2, 0] rfl ?_
      refine sh_lp2 Iv7 mu7 (fun v8 S9 => sh_V g mX9_pass 0 0 37 [(0, sh_R (9, 0, 0)), (1, sh_I a1), (2, sh_I v8)] [] (sh_St S9) sz (sh_ti sz Q)) (fun v8 S9 hI7 ih7 => ?_) _ _ h0
      have h := hs7 v8 S9 hI7
      clear h0
      refine sh_iload_n (pc := 37) dX9_pass_37 rfl ?_
      refine sh_iload_n (pc := 38) dX9_pass_38 rfl ?_
      refine sh_icmp_ge (tgt := 52) (pc := 39) dX9_pass_39 (by decide) (fun hc10 => ?_) (fun hc10 => ?_)
      · have h := h.1 hc10
        refine sh_aload_n (pc := 52) dX9_pass_52 rfl ?_
        refine sh_aload_n (pc := 53) dX9_pass_53 rfl ?_
        refine sh_gf (pc := 54) dX9_pass_54 fl_X9_7 cf_9 ok_9_0 rfl rfl ?_
        refine sh_bipush (v := 7) (pc := 57) dX9_pass_57 rfl ?_
        refine sh_ia (pc := 59) dX9_pass_59 ok_19_0 rfl (vp_in_iff.mpr ⟨by decide, by decide⟩) ?_
        refine sh_ci (N := mX9_ends) (pc := 60) dX9_pass_60 ml_X9_70 h mf_X9_ends iv_X9_ends ⟨Nat.le_of_ble_eq_true rfl, Nat.le_of_ble_eq_true rfl⟩ rfl rfl (Nat.le_of_ble_eq_true rfl) ok_9_0 rfl (show vwCl[9]? = some (RX9, TX9, 14) from rfl) rfl (fun r13 S12 h => ?_)
        exact sh_ret_i (pc := 63) dX9_pass_63 rfl ⟨rfl, rfl⟩ h
      · have h := h.2 hc10
        refine sh_aload_n (pc := 42) dX9_pass_42 rfl ?_
        refine sh_cu (N := mX9_dayBegins) (pc := 43) dX9_pass_43 ml_X9_207 h mf_X9_dayBegins iv_X9_dayBegins ⟨Nat.le_of_ble_eq_true rfl, Nat.le_of_ble_eq_true rfl⟩ rfl rfl (Nat.le_of_ble_eq_true rfl) ok_9_0 rfl (show vwCl[9]? = some (RX9, TX9, 14) from rfl) rfl (fun S14 h => ?_)
        obtain ⟨x15, hx15⟩ : ∃ y : Int32, y = v8 + 1 := ⟨_, rfl⟩
        have h := h x15 hx15
        refine sh_iinc (v := x15) (ls' := [(2, sh_I x15), (0, sh_R (9, 0, 0)), (1, sh_I a1)]) (pc := 46) dX9_pass_46 rfl hx15.symm (by decide) rfl ?_
        refine sh_goto (tgt := 37) (pc := 49) dX9_pass_49 (by decide) ?_
        refine sh_pick [1, 2, 0] rfl ?_
        exact ih7 _ _ h.1 h.2
    · have h := h.2 hc5
      refine sh_ldc (v := (-1000003)) (pc := 28) dX9_pass_28 kc_X9_73 ?_
      exact sh_ret_i (pc := 30) dX9_pass_30 rfl ⟨rfl, rfl⟩ h
  · have h := h.2 hc3
    refine sh_ldc (v := (-1000001)) (pc := 10) dX9_pass_10 kc_X9_32 ?_
    exact sh_ret_i (pc := 12) dX9_pass_12 rfl ⟨rfl, rfl⟩ h

set_option maxRecDepth 100000 in
set_option maxHeartbeats 4000000 in
theorem wp_X9_inStatus {g : sh_G} {S : sh_S} {sz : Nat} {Q : Int32 → sh_S → Prop} {a1 : Int32} 
    (h : (∃ (Iv1 : Int32 → Int32 → sh_S → Prop) (mu1 : Int32 → Int32 → sh_S → Nat), Iv1 0 0 S ∧ ∀ (v2 : Int32) (v3 : Int32) (S4 : sh_S), Iv1 v2 v3 S4 → (((S4 (19, 0, 0) 8) ≤ v3 → Q v2 S4) ∧ (¬ (S4 (19, 0, 0) 8) ≤ v3 → (sh_Ci g mX9_of [sh_R (9, 0, 0), sh_I v3, sh_I 0] S4 sz (fun r8 S7 => ((¬ r8 = a1 → (∀ x10 : Int32, x10 = (v2 + 0) → (∀ x11 : Int32, x11 = v3 + 1 → (Iv1 x10 x11 S7 ∧ mu1 x10 x11 S7 < mu1 v2 v3 S4)))) ∧ (r8 = a1 → (∀ x12 : Int32, x12 = (v2 + 1) → (∀ x13 : Int32, x13 = v3 + 1 → (Iv1 x12 x13 S7 ∧ mu1 x12 x13 S7 < mu1 v2 v3 S4))))))))))) :
    sh_Ci g mX9_inStatus [sh_R (9, 0, 0), sh_I a1] S sz Q := by
  refine sh_enter (ls := [(0, sh_R (9, 0, 0)), (1, sh_I a1)]) (by decide +kernel) (Nat.le_of_ble_eq_true rfl) rfl ?_
  refine sh_iconst (v := 0) (pc := 0) dX9_inStatus_0 rfl ?_
  refine sh_istore_n (ls' := [(2, sh_I 0), (0, sh_R (9, 0, 0)), (1, sh_I a1)]) (pc := 1) dX9_inStatus_1 (by decide) rfl ?_
  refine sh_iconst (v := 0) (pc := 2) dX9_inStatus_2 rfl ?_
  refine sh_istore_n (ls' := [(3, sh_I 0), (2, sh_I 0), (0, sh_R (9, 0, 0)), (1, sh_I a1)]) (pc := 3) dX9_inStatus_3 (by decide) rfl ?_
  obtain ⟨Iv1, mu1, h0, hs1⟩ := h
  refine sh_pick [2, 3, 1, 0] rfl ?_
  refine sh_lp3 Iv1 mu1 (fun v2 v3 S4 => sh_V g mX9_inStatus 0 0 4 [(0, sh_R (9, 0, 0)), (1, sh_I a1), (2, sh_I v2), (3, sh_I v3)] [] (sh_St S4) sz (sh_ti sz Q)) (fun v2 v3 S4 hI1 ih1 => ?_) _ _ _ h0
  have h := hs1 v2 v3 S4 hI1
  clear h0
  refine sh_iload_n (pc := 4) dX9_inStatus_4 rfl ?_
  refine sh_aload_n (pc := 5) dX9_inStatus_5 rfl ?_
  refine sh_gf (pc := 6) dX9_inStatus_6 fl_X9_7 cf_9 ok_9_0 rfl rfl ?_
  refine sh_bipush (v := 8) (pc := 9) dX9_inStatus_9 rfl ?_
  refine sh_ia (pc := 11) dX9_inStatus_11 ok_19_0 rfl (vp_in_iff.mpr ⟨by decide, by decide⟩) ?_
  refine sh_icmp_ge (tgt := 39) (pc := 12) dX9_inStatus_12 (by decide) (fun hc6 => ?_) (fun hc6 => ?_)
  · have h := h.1 hc6
    refine sh_iload_n (pc := 39) dX9_inStatus_39 rfl ?_
    exact sh_ret_i (pc := 40) dX9_inStatus_40 rfl ⟨rfl, rfl⟩ h
  · have h := h.2 hc6
    refine sh_iload_n (pc := 15) dX9_inStatus_15 rfl ?_
    refine sh_aload_n (pc := 16) dX9_inStatus_16 rfl ?_
    refine sh_iload_n (pc := 17) dX9_inStatus_17 rfl ?_
    refine sh_iconst (v := 0) (pc := 18) dX9_inStatus_18 rfl ?_
    refine sh_ci (N := mX9_of) (pc := 19) dX9_inStatus_19 ml_X9_46 h mf_X9_of iv_X9_of ⟨Nat.le_of_ble_eq_true rfl, Nat.le_of_ble_eq_true rfl⟩ rfl rfl (Nat.le_of_ble_eq_true rfl) ok_9_0 rfl (show vwCl[9]? = some (RX9, TX9, 14) from rfl) rfl (fun r8 S7 h => ?_)
    refine sh_iload_n (pc := 22) dX9_inStatus_22 rfl ?_
    refine sh_icmp_ne (tgt := 30) (pc := 23) dX9_inStatus_23 (by decide) (fun hc9 => ?_) (fun hc9 => ?_)
    · have h := h.1 hc9
      refine sh_iconst (v := 0) (pc := 30) dX9_inStatus_30 rfl ?_
      refine sh_iadd (pc := 31) dX9_inStatus_31 ?_
      refine sh_topI (fun x10 hx10 => ?_)
      have h := h x10 hx10
      refine sh_istore_n (ls' := [(2, sh_I x10), (0, sh_R (9, 0, 0)), (1, sh_I a1), (3, sh_I v3)]) (pc := 32) dX9_inStatus_32 (by decide) rfl ?_
      obtain ⟨x11, hx11⟩ : ∃ y : Int32, y = v3 + 1 := ⟨_, rfl⟩
      have h := h x11 hx11
      refine sh_iinc (v := x11) (ls' := [(3, sh_I x11), (2, sh_I x10), (0, sh_R (9, 0, 0)), (1, sh_I a1)]) (pc := 33) dX9_inStatus_33 rfl hx11.symm (by decide) rfl ?_
      refine sh_goto (tgt := 4) (pc := 36) dX9_inStatus_36 (by decide) ?_
      refine sh_pick [2, 3, 1, 0] rfl ?_
      exact ih1 _ _ _ h.1 h.2
    · have h := h.2 hc9
      refine sh_iconst (v := 1) (pc := 26) dX9_inStatus_26 rfl ?_
      refine sh_goto (tgt := 31) (pc := 27) dX9_inStatus_27 (by decide) ?_
      refine sh_iadd (pc := 31) dX9_inStatus_31 ?_
      refine sh_topI (fun x12 hx12 => ?_)
      have h := h x12 hx12
      refine sh_istore_n (ls' := [(2, sh_I x12), (0, sh_R (9, 0, 0)), (1, sh_I a1), (3, sh_I v3)]) (pc := 32) dX9_inStatus_32 (by decide) rfl ?_
      obtain ⟨x13, hx13⟩ : ∃ y : Int32, y = v3 + 1 := ⟨_, rfl⟩
      have h := h x13 hx13
      refine sh_iinc (v := x13) (ls' := [(3, sh_I x13), (2, sh_I x12), (0, sh_R (9, 0, 0)), (1, sh_I a1)]) (pc := 33) dX9_inStatus_33 rfl hx13.symm (by decide) rfl ?_
      refine sh_goto (tgt := 4) (pc := 36) dX9_inStatus_36 (by decide) ?_
      refine sh_pick [2, 3, 1, 0] rfl ?_
      exact ih1 _ _ _ h.1 h.2

set_option maxRecDepth 100000 in
set_option maxHeartbeats 4000000 in
theorem wp_X9_inPlace {g : sh_G} {S : sh_S} {sz : Nat} {Q : Int32 → sh_S → Prop} {a1 : Int32} 
    (h : (∃ (Iv1 : Int32 → Int32 → sh_S → Prop) (mu1 : Int32 → Int32 → sh_S → Nat), Iv1 0 0 S ∧ ∀ (v2 : Int32) (v3 : Int32) (S4 : sh_S), Iv1 v2 v3 S4 → (((S4 (19, 0, 0) 9) ≤ v3 → Q v2 S4) ∧ (¬ (S4 (19, 0, 0) 9) ≤ v3 → (sh_Ci g mX9_its [sh_R (9, 0, 0), sh_I v3, sh_I 3] S4 sz (fun r8 S7 => ((¬ r8 = a1 → (∀ x10 : Int32, x10 = (v2 + 0) → (∀ x11 : Int32, x11 = v3 + 1 → (Iv1 x10 x11 S7 ∧ mu1 x10 x11 S7 < mu1 v2 v3 S4)))) ∧ (r8 = a1 → (∀ x12 : Int32, x12 = (v2 + 1) → (∀ x13 : Int32, x13 = v3 + 1 → (Iv1 x12 x13 S7 ∧ mu1 x12 x13 S7 < mu1 v2 v3 S4))))))))))) :
    sh_Ci g mX9_inPlace [sh_R (9, 0, 0), sh_I a1] S sz Q := by
  refine sh_enter (ls := [(0, sh_R (9, 0, 0)), (1, sh_I a1)]) (by decide +kernel) (Nat.le_of_ble_eq_true rfl) rfl ?_
  refine sh_iconst (v := 0) (pc := 0) dX9_inPlace_0 rfl ?_
  refine sh_istore_n (ls' := [(2, sh_I 0), (0, sh_R (9, 0, 0)), (1, sh_I a1)]) (pc := 1) dX9_inPlace_1 (by decide) rfl ?_
  refine sh_iconst (v := 0) (pc := 2) dX9_inPlace_2 rfl ?_
  refine sh_istore_n (ls' := [(3, sh_I 0), (2, sh_I 0), (0, sh_R (9, 0, 0)), (1, sh_I a1)]) (pc := 3) dX9_inPlace_3 (by decide) rfl ?_
  obtain ⟨Iv1, mu1, h0, hs1⟩ := h
  refine sh_pick [2, 3, 1, 0] rfl ?_
  refine sh_lp3 Iv1 mu1 (fun v2 v3 S4 => sh_V g mX9_inPlace 0 0 4 [(0, sh_R (9, 0, 0)), (1, sh_I a1), (2, sh_I v2), (3, sh_I v3)] [] (sh_St S4) sz (sh_ti sz Q)) (fun v2 v3 S4 hI1 ih1 => ?_) _ _ _ h0
  have h := hs1 v2 v3 S4 hI1
  clear h0
  refine sh_iload_n (pc := 4) dX9_inPlace_4 rfl ?_
  refine sh_aload_n (pc := 5) dX9_inPlace_5 rfl ?_
  refine sh_gf (pc := 6) dX9_inPlace_6 fl_X9_7 cf_9 ok_9_0 rfl rfl ?_
  refine sh_bipush (v := 9) (pc := 9) dX9_inPlace_9 rfl ?_
  refine sh_ia (pc := 11) dX9_inPlace_11 ok_19_0 rfl (vp_in_iff.mpr ⟨by decide, by decide⟩) ?_
  refine sh_icmp_ge (tgt := 39) (pc := 12) dX9_inPlace_12 (by decide) (fun hc6 => ?_) (fun hc6 => ?_)
  · have h := h.1 hc6
    refine sh_iload_n (pc := 39) dX9_inPlace_39 rfl ?_
    exact sh_ret_i (pc := 40) dX9_inPlace_40 rfl ⟨rfl, rfl⟩ h
  · have h := h.2 hc6
    refine sh_iload_n (pc := 15) dX9_inPlace_15 rfl ?_
    refine sh_aload_n (pc := 16) dX9_inPlace_16 rfl ?_
    refine sh_iload_n (pc := 17) dX9_inPlace_17 rfl ?_
    refine sh_iconst (v := 3) (pc := 18) dX9_inPlace_18 rfl ?_
    refine sh_ci (N := mX9_its) (pc := 19) dX9_inPlace_19 ml_X9_79 h mf_X9_its iv_X9_its ⟨Nat.le_of_ble_eq_true rfl, Nat.le_of_ble_eq_true rfl⟩ rfl rfl (Nat.le_of_ble_eq_true rfl) ok_9_0 rfl (show vwCl[9]? = some (RX9, TX9, 14) from rfl) rfl (fun r8 S7 h => ?_)
    refine sh_iload_n (pc := 22) dX9_inPlace_22 rfl ?_
    refine sh_icmp_ne (tgt := 30) (pc := 23) dX9_inPlace_23 (by decide) (fun hc9 => ?_) (fun hc9 => ?_)
    · have h := h.1 hc9
      refine sh_iconst (v := 0) (pc := 30) dX9_inPlace_30 rfl ?_
      refine sh_iadd (pc := 31) dX9_inPlace_31 ?_
      refine sh_topI (fun x10 hx10 => ?_)
      have h := h x10 hx10
      refine sh_istore_n (ls' := [(2, sh_I x10), (0, sh_R (9, 0, 0)), (1, sh_I a1), (3, sh_I v3)]) (pc := 32) dX9_inPlace_32 (by decide) rfl ?_
      obtain ⟨x11, hx11⟩ : ∃ y : Int32, y = v3 + 1 := ⟨_, rfl⟩
      have h := h x11 hx11
      refine sh_iinc (v := x11) (ls' := [(3, sh_I x11), (2, sh_I x10), (0, sh_R (9, 0, 0)), (1, sh_I a1)]) (pc := 33) dX9_inPlace_33 rfl hx11.symm (by decide) rfl ?_
      refine sh_goto (tgt := 4) (pc := 36) dX9_inPlace_36 (by decide) ?_
      refine sh_pick [2, 3, 1, 0] rfl ?_
      exact ih1 _ _ _ h.1 h.2
    · have h := h.2 hc9
      refine sh_iconst (v := 1) (pc := 26) dX9_inPlace_26 rfl ?_
      refine sh_goto (tgt := 31) (pc := 27) dX9_inPlace_27 (by decide) ?_
      refine sh_iadd (pc := 31) dX9_inPlace_31 ?_
      refine sh_topI (fun x12 hx12 => ?_)
      have h := h x12 hx12
      refine sh_istore_n (ls' := [(2, sh_I x12), (0, sh_R (9, 0, 0)), (1, sh_I a1), (3, sh_I v3)]) (pc := 32) dX9_inPlace_32 (by decide) rfl ?_
      obtain ⟨x13, hx13⟩ : ∃ y : Int32, y = v3 + 1 := ⟨_, rfl⟩
      have h := h x13 hx13
      refine sh_iinc (v := x13) (ls' := [(3, sh_I x13), (2, sh_I x12), (0, sh_R (9, 0, 0)), (1, sh_I a1)]) (pc := 33) dX9_inPlace_33 rfl hx13.symm (by decide) rfl ?_
      refine sh_goto (tgt := 4) (pc := 36) dX9_inPlace_36 (by decide) ?_
      refine sh_pick [2, 3, 1, 0] rfl ?_
      exact ih1 _ _ _ h.1 h.2

set_option maxRecDepth 100000 in
set_option maxHeartbeats 4000000 in
theorem wp_X9_proposals {g : sh_G} {S : sh_S} {sz : Nat} {Q : Int32 → sh_S → Prop} 
    (h : (∃ (Iv1 : Int32 → Int32 → sh_S → Prop) (mu1 : Int32 → Int32 → sh_S → Nat), Iv1 0 0 S ∧ ∀ (v2 : Int32) (v3 : Int32) (S4 : sh_S), Iv1 v2 v3 S4 → (((S4 (19, 0, 0) 9) ≤ v3 → Q v2 S4) ∧ (¬ (S4 (19, 0, 0) 9) ≤ v3 → (sh_Ci g mX9_its [sh_R (9, 0, 0), sh_I v3, sh_I 18] S4 sz (fun r8 S7 => ((r8 ≤ 0 → (∀ x10 : Int32, x10 = (v2 + 0) → (∀ x11 : Int32, x11 = v3 + 1 → (Iv1 x10 x11 S7 ∧ mu1 x10 x11 S7 < mu1 v2 v3 S4)))) ∧ (¬ r8 ≤ 0 → (∀ x12 : Int32, x12 = (v2 + 1) → (∀ x13 : Int32, x13 = v3 + 1 → (Iv1 x12 x13 S7 ∧ mu1 x12 x13 S7 < mu1 v2 v3 S4))))))))))) :
    sh_Ci g mX9_proposals [sh_R (9, 0, 0)] S sz Q := by
  refine sh_enter (ls := [(0, sh_R (9, 0, 0))]) (by decide +kernel) (Nat.le_of_ble_eq_true rfl) rfl ?_
  refine sh_iconst (v := 0) (pc := 0) dX9_proposals_0 rfl ?_
  refine sh_istore_n (ls' := [(1, sh_I 0), (0, sh_R (9, 0, 0))]) (pc := 1) dX9_proposals_1 (by decide) rfl ?_
  refine sh_iconst (v := 0) (pc := 2) dX9_proposals_2 rfl ?_
  refine sh_istore_n (ls' := [(2, sh_I 0), (1, sh_I 0), (0, sh_R (9, 0, 0))]) (pc := 3) dX9_proposals_3 (by decide) rfl ?_
  obtain ⟨Iv1, mu1, h0, hs1⟩ := h
  refine sh_pick [2, 1, 0] rfl ?_
  refine sh_lp3 Iv1 mu1 (fun v2 v3 S4 => sh_V g mX9_proposals 0 0 4 [(0, sh_R (9, 0, 0)), (1, sh_I v2), (2, sh_I v3)] [] (sh_St S4) sz (sh_ti sz Q)) (fun v2 v3 S4 hI1 ih1 => ?_) _ _ _ h0
  have h := hs1 v2 v3 S4 hI1
  clear h0
  refine sh_iload_n (pc := 4) dX9_proposals_4 rfl ?_
  refine sh_aload_n (pc := 5) dX9_proposals_5 rfl ?_
  refine sh_gf (pc := 6) dX9_proposals_6 fl_X9_7 cf_9 ok_9_0 rfl rfl ?_
  refine sh_bipush (v := 9) (pc := 9) dX9_proposals_9 rfl ?_
  refine sh_ia (pc := 11) dX9_proposals_11 ok_19_0 rfl (vp_in_iff.mpr ⟨by decide, by decide⟩) ?_
  refine sh_icmp_ge (tgt := 39) (pc := 12) dX9_proposals_12 (by decide) (fun hc6 => ?_) (fun hc6 => ?_)
  · have h := h.1 hc6
    refine sh_iload_n (pc := 39) dX9_proposals_39 rfl ?_
    exact sh_ret_i (pc := 40) dX9_proposals_40 rfl ⟨rfl, rfl⟩ h
  · have h := h.2 hc6
    refine sh_iload_n (pc := 15) dX9_proposals_15 rfl ?_
    refine sh_aload_n (pc := 16) dX9_proposals_16 rfl ?_
    refine sh_iload_n (pc := 17) dX9_proposals_17 rfl ?_
    refine sh_bipush (v := 18) (pc := 18) dX9_proposals_18 rfl ?_
    refine sh_ci (N := mX9_its) (pc := 20) dX9_proposals_20 ml_X9_79 h mf_X9_its iv_X9_its ⟨Nat.le_of_ble_eq_true rfl, Nat.le_of_ble_eq_true rfl⟩ rfl rfl (Nat.le_of_ble_eq_true rfl) ok_9_0 rfl (show vwCl[9]? = some (RX9, TX9, 14) from rfl) rfl (fun r8 S7 h => ?_)
    refine sh_if_le (tgt := 30) (pc := 23) dX9_proposals_23 (by decide) (fun hc9 => ?_) (fun hc9 => ?_)
    · have h := h.1 hc9
      refine sh_iconst (v := 0) (pc := 30) dX9_proposals_30 rfl ?_
      refine sh_iadd (pc := 31) dX9_proposals_31 ?_
      refine sh_topI (fun x10 hx10 => ?_)
      have h := h x10 hx10
      refine sh_istore_n (ls' := [(1, sh_I x10), (0, sh_R (9, 0, 0)), (2, sh_I v3)]) (pc := 32) dX9_proposals_32 (by decide) rfl ?_
      obtain ⟨x11, hx11⟩ : ∃ y : Int32, y = v3 + 1 := ⟨_, rfl⟩
      have h := h x11 hx11
      refine sh_iinc (v := x11) (ls' := [(2, sh_I x11), (1, sh_I x10), (0, sh_R (9, 0, 0))]) (pc := 33) dX9_proposals_33 rfl hx11.symm (by decide) rfl ?_
      refine sh_goto (tgt := 4) (pc := 36) dX9_proposals_36 (by decide) ?_
      refine sh_pick [2, 1, 0] rfl ?_
      exact ih1 _ _ _ h.1 h.2
    · have h := h.2 hc9
      refine sh_iconst (v := 1) (pc := 26) dX9_proposals_26 rfl ?_
      refine sh_goto (tgt := 31) (pc := 27) dX9_proposals_27 (by decide) ?_
      refine sh_iadd (pc := 31) dX9_proposals_31 ?_
      refine sh_topI (fun x12 hx12 => ?_)
      have h := h x12 hx12
      refine sh_istore_n (ls' := [(1, sh_I x12), (0, sh_R (9, 0, 0)), (2, sh_I v3)]) (pc := 32) dX9_proposals_32 (by decide) rfl ?_
      obtain ⟨x13, hx13⟩ : ∃ y : Int32, y = v3 + 1 := ⟨_, rfl⟩
      have h := h x13 hx13
      refine sh_iinc (v := x13) (ls' := [(2, sh_I x13), (1, sh_I x12), (0, sh_R (9, 0, 0))]) (pc := 33) dX9_proposals_33 rfl hx13.symm (by decide) rfl ?_
      refine sh_goto (tgt := 4) (pc := 36) dX9_proposals_36 (by decide) ?_
      refine sh_pick [2, 1, 0] rfl ?_
      exact ih1 _ _ _ h.1 h.2

set_option maxRecDepth 100000 in
set_option maxHeartbeats 4000000 in
theorem wp_X9_count {g : sh_G} {S : sh_S} {sz : Nat} {Q : Int32 → sh_S → Prop} {a1 : Int32} 
    (h : (sh_Ci g mX9_in [sh_I a1, sh_I 0, sh_I 11] S sz (fun r2 S1 => ((¬ r2 = 0 → ((8 ≤ a1 → ((a1 = 8 → (sh_Ci g mX9_proposals [sh_R (9, 0, 0)] S1 sz (fun r7 S6 => Q r7 S6))) ∧ (¬ a1 = 8 → ((a1 = 9 → Q (S1 (19, 0, 0) 7) S1) ∧ (¬ a1 = 9 → ((a1 = 10 → Q (S1 (9, 0, 0) 4) S1) ∧ (¬ a1 = 10 → ((a1 = 11 → Q (S1 (9, 0, 0) 6) S1) ∧ (¬ a1 = 11 → (vp_in (a1 - 20) 602 ∧ Q (S1 (19, 0, 0) ((a1 - 20).toNatClampNeg)) S1)))))))))) ∧ (¬ 8 ≤ a1 → ((3 ≤ a1 → (sh_Ci g mX9_inPlace [sh_R (9, 0, 0), sh_I (a1 - 3)] S1 sz (fun r15 S14 => Q r15 S14))) ∧ (¬ 3 ≤ a1 → (sh_Ci g mX9_inStatus [sh_R (9, 0, 0), sh_I a1] S1 sz (fun r17 S16 => Q r17 S16))))))) ∧ (r2 = 0 → (sh_Ci g mX9_in [sh_I a1, sh_I 20, sh_I 26] S1 sz (fun r19 S18 => ((¬ r19 = 0 → ((8 ≤ a1 → ((a1 = 8 → (sh_Ci g mX9_proposals [sh_R (9, 0, 0)] S18 sz (fun r24 S23 => Q r24 S23))) ∧ (¬ a1 = 8 → ((a1 = 9 → Q (S18 (19, 0, 0) 7) S18) ∧ (¬ a1 = 9 → ((a1 = 10 → Q (S18 (9, 0, 0) 4) S18) ∧ (¬ a1 = 10 → ((a1 = 11 → Q (S18 (9, 0, 0) 6) S18) ∧ (¬ a1 = 11 → (vp_in (a1 - 20) 602 ∧ Q (S18 (19, 0, 0) ((a1 - 20).toNatClampNeg)) S18)))))))))) ∧ (¬ 8 ≤ a1 → ((3 ≤ a1 → (sh_Ci g mX9_inPlace [sh_R (9, 0, 0), sh_I (a1 - 3)] S18 sz (fun r32 S31 => Q r32 S31))) ∧ (¬ 3 ≤ a1 → (sh_Ci g mX9_inStatus [sh_R (9, 0, 0), sh_I a1] S18 sz (fun r34 S33 => Q r34 S33))))))) ∧ (r19 = 0 → Q (-1000001) S18))))))))) :
    sh_Ci g mX9_count [sh_R (9, 0, 0), sh_I a1] S sz Q := by
  refine sh_enter (ls := [(0, sh_R (9, 0, 0)), (1, sh_I a1)]) (by decide +kernel) (Nat.le_of_ble_eq_true rfl) rfl ?_
  refine sh_iload_n (pc := 0) dX9_count_0 rfl ?_
  refine sh_iconst (v := 0) (pc := 1) dX9_count_1 rfl ?_
  refine sh_bipush (v := 11) (pc := 2) dX9_count_2 rfl ?_
  refine sh_si (N := mX9_in) (pc := 4) dX9_count_4 ml_X9_38 h mf_X9_in is_X9_in ⟨Nat.le_of_ble_eq_true rfl, Nat.le_of_ble_eq_true rfl⟩ rfl rfl (Nat.le_of_ble_eq_true rfl) (fun r2 S1 h => ?_)
  refine sh_if_ne (tgt := 24) (pc := 7) dX9_count_7 (by decide) (fun hc3 => ?_) (fun hc3 => ?_)
  · have h := h.1 hc3
    refine sh_iload_n (pc := 24) dX9_count_24 rfl ?_
    refine sh_bipush (v := 8) (pc := 25) dX9_count_25 rfl ?_
    refine sh_icmp_ge (tgt := 51) (pc := 27) dX9_count_27 (by decide) (fun hc4 => ?_) (fun hc4 => ?_)
    · have h := h.1 hc4
      refine sh_iload_n (pc := 51) dX9_count_51 rfl ?_
      by_cases hc5 : a1 = 8
      · have h := h.1 hc5
        refine sh_tin 8 (pc := 52) (tgt := 84) dX9_count_52 hc5 (by decide) (by decide) rfl (by decide) ?_
        refine sh_aload_n (pc := 84) dX9_count_84 rfl ?_
        refine sh_ci (N := mX9_proposals) (pc := 85) dX9_count_85 ml_X9_216 h mf_X9_proposals iv_X9_proposals ⟨Nat.le_of_ble_eq_true rfl, Nat.le_of_ble_eq_true rfl⟩ rfl rfl (Nat.le_of_ble_eq_true rfl) ok_9_0 rfl (show vwCl[9]? = some (RX9, TX9, 14) from rfl) rfl (fun r7 S6 h => ?_)
        exact sh_ret_i (pc := 88) dX9_count_88 rfl ⟨rfl, rfl⟩ h
      · have h := h.2 hc5
        by_cases hc8 : a1 = 9
        · have h := h.1 hc8
          refine sh_tin 9 (pc := 52) (tgt := 89) dX9_count_52 hc8 (by decide) (by decide) rfl (by decide) ?_
          refine sh_aload_n (pc := 89) dX9_count_89 rfl ?_
          refine sh_gf (pc := 90) dX9_count_90 fl_X9_7 cf_9 ok_9_0 rfl rfl ?_
          refine sh_bipush (v := 7) (pc := 93) dX9_count_93 rfl ?_
          refine sh_ia (pc := 95) dX9_count_95 ok_19_0 rfl (vp_in_iff.mpr ⟨by decide, by decide⟩) ?_
          exact sh_ret_i (pc := 96) dX9_count_96 rfl ⟨rfl, rfl⟩ h
        · have h := h.2 hc8
          by_cases hc10 : a1 = 10
          · have h := h.1 hc10
            refine sh_tin 10 (pc := 52) (tgt := 97) dX9_count_52 hc10 (by decide) (by decide) rfl (by decide) ?_
            refine sh_aload_n (pc := 97) dX9_count_97 rfl ?_
            refine sh_gf (pc := 98) dX9_count_98 fl_X9_34 cf_9 ok_9_0 rfl rfl ?_
            exact sh_ret_i (pc := 101) dX9_count_101 rfl ⟨rfl, rfl⟩ h
          · have h := h.2 hc10
            by_cases hc11 : a1 = 11
            · have h := h.1 hc11
              refine sh_tin 11 (pc := 52) (tgt := 102) dX9_count_52 hc11 (by decide) (by decide) rfl (by decide) ?_
              refine sh_aload_n (pc := 102) dX9_count_102 rfl ?_
              refine sh_gf (pc := 103) dX9_count_103 fl_X9_219 cf_9 ok_9_0 rfl rfl ?_
              exact sh_ret_i (pc := 106) dX9_count_106 rfl ⟨rfl, rfl⟩ h
            · have h := h.2 hc11
              refine sh_tout 8 4 (pc := 52) (tgt := 107) dX9_count_52 (by decide) (by decide) (lt_s (lt_s (lt_s (lt_s lt_0 hc5) hc8) hc10) hc11) (by decide) ?_
              refine sh_aload_n (pc := 107) dX9_count_107 rfl ?_
              refine sh_gf (pc := 108) dX9_count_108 fl_X9_7 cf_9 ok_9_0 rfl rfl ?_
              refine sh_iload_n (pc := 111) dX9_count_111 rfl ?_
              refine sh_bipush (v := 20) (pc := 112) dX9_count_112 rfl ?_
              refine sh_isub (pc := 114) dX9_count_114 ?_
              obtain ⟨hi12, h⟩ := h
              refine sh_ia (pc := 115) dX9_count_115 ok_19_0 rfl hi12 ?_
              exact sh_ret_i (pc := 116) dX9_count_116 rfl ⟨rfl, rfl⟩ h
    · have h := h.2 hc4
      refine sh_iload_n (pc := 30) dX9_count_30 rfl ?_
      refine sh_iconst (v := 3) (pc := 31) dX9_count_31 rfl ?_
      refine sh_icmp_ge (tgt := 43) (pc := 32) dX9_count_32 (by decide) (fun hc13 => ?_) (fun hc13 => ?_)
      · have h := h.1 hc13
        refine sh_aload_n (pc := 43) dX9_count_43 rfl ?_
        refine sh_iload_n (pc := 44) dX9_count_44 rfl ?_
        refine sh_iconst (v := 3) (pc := 45) dX9_count_45 rfl ?_
        refine sh_isub (pc := 46) dX9_count_46 ?_
        refine sh_ci (N := mX9_inPlace) (pc := 47) dX9_count_47 ml_X9_213 h mf_X9_inPlace iv_X9_inPlace ⟨Nat.le_of_ble_eq_true rfl, Nat.le_of_ble_eq_true rfl⟩ rfl rfl (Nat.le_of_ble_eq_true rfl) ok_9_0 rfl (show vwCl[9]? = some (RX9, TX9, 14) from rfl) rfl (fun r15 S14 h => ?_)
        exact sh_ret_i (pc := 50) dX9_count_50 rfl ⟨rfl, rfl⟩ h
      · have h := h.2 hc13
        refine sh_aload_n (pc := 35) dX9_count_35 rfl ?_
        refine sh_iload_n (pc := 36) dX9_count_36 rfl ?_
        refine sh_ci (N := mX9_inStatus) (pc := 37) dX9_count_37 ml_X9_210 h mf_X9_inStatus iv_X9_inStatus ⟨Nat.le_of_ble_eq_true rfl, Nat.le_of_ble_eq_true rfl⟩ rfl rfl (Nat.le_of_ble_eq_true rfl) ok_9_0 rfl (show vwCl[9]? = some (RX9, TX9, 14) from rfl) rfl (fun r17 S16 h => ?_)
        refine sh_goto (tgt := 50) (pc := 40) dX9_count_40 (by decide) ?_
        exact sh_ret_i (pc := 50) dX9_count_50 rfl ⟨rfl, rfl⟩ h
  · have h := h.2 hc3
    refine sh_iload_n (pc := 10) dX9_count_10 rfl ?_
    refine sh_bipush (v := 20) (pc := 11) dX9_count_11 rfl ?_
    refine sh_bipush (v := 26) (pc := 13) dX9_count_13 rfl ?_
    refine sh_si (N := mX9_in) (pc := 15) dX9_count_15 ml_X9_38 h mf_X9_in is_X9_in ⟨Nat.le_of_ble_eq_true rfl, Nat.le_of_ble_eq_true rfl⟩ rfl rfl (Nat.le_of_ble_eq_true rfl) (fun r19 S18 h => ?_)
    refine sh_if_ne (tgt := 24) (pc := 18) dX9_count_18 (by decide) (fun hc20 => ?_) (fun hc20 => ?_)
    · have h := h.1 hc20
      refine sh_iload_n (pc := 24) dX9_count_24 rfl ?_
      refine sh_bipush (v := 8) (pc := 25) dX9_count_25 rfl ?_
      refine sh_icmp_ge (tgt := 51) (pc := 27) dX9_count_27 (by decide) (fun hc21 => ?_) (fun hc21 => ?_)
      · have h := h.1 hc21
        refine sh_iload_n (pc := 51) dX9_count_51 rfl ?_
        by_cases hc22 : a1 = 8
        · have h := h.1 hc22
          refine sh_tin 8 (pc := 52) (tgt := 84) dX9_count_52 hc22 (by decide) (by decide) rfl (by decide) ?_
          refine sh_aload_n (pc := 84) dX9_count_84 rfl ?_
          refine sh_ci (N := mX9_proposals) (pc := 85) dX9_count_85 ml_X9_216 h mf_X9_proposals iv_X9_proposals ⟨Nat.le_of_ble_eq_true rfl, Nat.le_of_ble_eq_true rfl⟩ rfl rfl (Nat.le_of_ble_eq_true rfl) ok_9_0 rfl (show vwCl[9]? = some (RX9, TX9, 14) from rfl) rfl (fun r24 S23 h => ?_)
          exact sh_ret_i (pc := 88) dX9_count_88 rfl ⟨rfl, rfl⟩ h
        · have h := h.2 hc22
          by_cases hc25 : a1 = 9
          · have h := h.1 hc25
            refine sh_tin 9 (pc := 52) (tgt := 89) dX9_count_52 hc25 (by decide) (by decide) rfl (by decide) ?_
            refine sh_aload_n (pc := 89) dX9_count_89 rfl ?_
            refine sh_gf (pc := 90) dX9_count_90 fl_X9_7 cf_9 ok_9_0 rfl rfl ?_
            refine sh_bipush (v := 7) (pc := 93) dX9_count_93 rfl ?_
            refine sh_ia (pc := 95) dX9_count_95 ok_19_0 rfl (vp_in_iff.mpr ⟨by decide, by decide⟩) ?_
            exact sh_ret_i (pc := 96) dX9_count_96 rfl ⟨rfl, rfl⟩ h
          · have h := h.2 hc25
            by_cases hc27 : a1 = 10
            · have h := h.1 hc27
              refine sh_tin 10 (pc := 52) (tgt := 97) dX9_count_52 hc27 (by decide) (by decide) rfl (by decide) ?_
              refine sh_aload_n (pc := 97) dX9_count_97 rfl ?_
              refine sh_gf (pc := 98) dX9_count_98 fl_X9_34 cf_9 ok_9_0 rfl rfl ?_
              exact sh_ret_i (pc := 101) dX9_count_101 rfl ⟨rfl, rfl⟩ h
            · have h := h.2 hc27
              by_cases hc28 : a1 = 11
              · have h := h.1 hc28
                refine sh_tin 11 (pc := 52) (tgt := 102) dX9_count_52 hc28 (by decide) (by decide) rfl (by decide) ?_
                refine sh_aload_n (pc := 102) dX9_count_102 rfl ?_
                refine sh_gf (pc := 103) dX9_count_103 fl_X9_219 cf_9 ok_9_0 rfl rfl ?_
                exact sh_ret_i (pc := 106) dX9_count_106 rfl ⟨rfl, rfl⟩ h
              · have h := h.2 hc28
                refine sh_tout 8 4 (pc := 52) (tgt := 107) dX9_count_52 (by decide) (by decide) (lt_s (lt_s (lt_s (lt_s lt_0 hc22) hc25) hc27) hc28) (by decide) ?_
                refine sh_aload_n (pc := 107) dX9_count_107 rfl ?_
                refine sh_gf (pc := 108) dX9_count_108 fl_X9_7 cf_9 ok_9_0 rfl rfl ?_
                refine sh_iload_n (pc := 111) dX9_count_111 rfl ?_
                refine sh_bipush (v := 20) (pc := 112) dX9_count_112 rfl ?_
                refine sh_isub (pc := 114) dX9_count_114 ?_
                obtain ⟨hi29, h⟩ := h
                refine sh_ia (pc := 115) dX9_count_115 ok_19_0 rfl hi29 ?_
                exact sh_ret_i (pc := 116) dX9_count_116 rfl ⟨rfl, rfl⟩ h
      · have h := h.2 hc21
        refine sh_iload_n (pc := 30) dX9_count_30 rfl ?_
        refine sh_iconst (v := 3) (pc := 31) dX9_count_31 rfl ?_
        refine sh_icmp_ge (tgt := 43) (pc := 32) dX9_count_32 (by decide) (fun hc30 => ?_) (fun hc30 => ?_)
        · have h := h.1 hc30
          refine sh_aload_n (pc := 43) dX9_count_43 rfl ?_
          refine sh_iload_n (pc := 44) dX9_count_44 rfl ?_
          refine sh_iconst (v := 3) (pc := 45) dX9_count_45 rfl ?_
          refine sh_isub (pc := 46) dX9_count_46 ?_
          refine sh_ci (N := mX9_inPlace) (pc := 47) dX9_count_47 ml_X9_213 h mf_X9_inPlace iv_X9_inPlace ⟨Nat.le_of_ble_eq_true rfl, Nat.le_of_ble_eq_true rfl⟩ rfl rfl (Nat.le_of_ble_eq_true rfl) ok_9_0 rfl (show vwCl[9]? = some (RX9, TX9, 14) from rfl) rfl (fun r32 S31 h => ?_)
          exact sh_ret_i (pc := 50) dX9_count_50 rfl ⟨rfl, rfl⟩ h
        · have h := h.2 hc30
          refine sh_aload_n (pc := 35) dX9_count_35 rfl ?_
          refine sh_iload_n (pc := 36) dX9_count_36 rfl ?_
          refine sh_ci (N := mX9_inStatus) (pc := 37) dX9_count_37 ml_X9_210 h mf_X9_inStatus iv_X9_inStatus ⟨Nat.le_of_ble_eq_true rfl, Nat.le_of_ble_eq_true rfl⟩ rfl rfl (Nat.le_of_ble_eq_true rfl) ok_9_0 rfl (show vwCl[9]? = some (RX9, TX9, 14) from rfl) rfl (fun r34 S33 h => ?_)
          refine sh_goto (tgt := 50) (pc := 40) dX9_count_40 (by decide) ?_
          exact sh_ret_i (pc := 50) dX9_count_50 rfl ⟨rfl, rfl⟩ h
    · have h := h.2 hc20
      refine sh_ldc (v := (-1000001)) (pc := 21) dX9_count_21 kc_X9_32 ?_
      exact sh_ret_i (pc := 23) dX9_count_23 rfl ⟨rfl, rfl⟩ h

set_option maxRecDepth 100000 in
set_option maxHeartbeats 4000000 in
theorem wp_X9_undo {g : sh_G} {S : sh_S} {sz : Nat} {Q : Int32 → sh_S → Prop} 
    (h : ((¬ (S (9, 0, 0) 4) = 0 → (∀ S2 : sh_S, S2 = sh_sr S (9, 0, 0) (upd (S (9, 0, 0)) 4 (((S (9, 0, 0) 4) - 1))) → (sh_Cu g mX9_bring [sh_R (22, 0, 0), sh_I (602 * (S2 (9, 0, 0) 4)), sh_R (19, 0, 0), sh_I 0] S2 sz (fun S3 => Q (S3 (9, 0, 0) 4) S3)))) ∧ ((S (9, 0, 0) 4) = 0 → Q (-1000002) S))) :
    sh_Ci g mX9_undo [sh_R (9, 0, 0)] S sz Q := by
  refine sh_enter (ls := [(0, sh_R (9, 0, 0))]) (by decide +kernel) (Nat.le_of_ble_eq_true rfl) rfl ?_
  refine sh_aload_n (pc := 0) dX9_undo_0 rfl ?_
  refine sh_gf (pc := 1) dX9_undo_1 fl_X9_34 cf_9 ok_9_0 rfl rfl ?_
  refine sh_if_ne (tgt := 10) (pc := 4) dX9_undo_4 (by decide) (fun hc1 => ?_) (fun hc1 => ?_)
  · have h := h.1 hc1
    refine sh_aload_n (pc := 10) dX9_undo_10 rfl ?_
    refine sh_dup (pc := 11) dX9_undo_11 rfl ?_
    refine sh_gf (pc := 12) dX9_undo_12 fl_X9_34 cf_9 ok_9_0 rfl rfl ?_
    refine sh_iconst (v := 1) (pc := 15) dX9_undo_15 rfl ?_
    refine sh_isub (pc := 16) dX9_undo_16 ?_
    refine sh_pfi (pc := 17) dX9_undo_17 fl_X9_34 cf_9 ft_9_4 ok_9_0 rfl (Nat.le_of_ble_eq_true rfl) rfl ?_
    refine sh_topS (fun S2 hS2 => ?_)
    have h := h S2 hS2
    refine sh_aload_n (pc := 20) dX9_undo_20 rfl ?_
    refine sh_gf (pc := 21) dX9_undo_21 fl_X9_19 cf_9 ok_9_0 rfl rfl ?_
    refine sh_sipush (v := 602) (pc := 24) dX9_undo_24 rfl ?_
    refine sh_aload_n (pc := 27) dX9_undo_27 rfl ?_
    refine sh_gf (pc := 28) dX9_undo_28 fl_X9_34 cf_9 ok_9_0 rfl rfl ?_
    refine sh_imul (pc := 31) dX9_undo_31 ?_
    refine sh_aload_n (pc := 32) dX9_undo_32 rfl ?_
    refine sh_gf (pc := 33) dX9_undo_33 fl_X9_7 cf_9 ok_9_0 rfl rfl ?_
    refine sh_iconst (v := 0) (pc := 36) dX9_undo_36 rfl ?_
    refine sh_su (N := mX9_bring) (pc := 37) dX9_undo_37 ml_X9_28 h mf_X9_bring is_X9_bring ⟨Nat.le_of_ble_eq_true rfl, Nat.le_of_ble_eq_true rfl⟩ rfl rfl (Nat.le_of_ble_eq_true rfl) (fun S3 h => ?_)
    refine sh_aload_n (pc := 40) dX9_undo_40 rfl ?_
    refine sh_gf (pc := 41) dX9_undo_41 fl_X9_34 cf_9 ok_9_0 rfl rfl ?_
    exact sh_ret_i (pc := 44) dX9_undo_44 rfl ⟨rfl, rfl⟩ h
  · have h := h.2 hc1
    refine sh_ldc (v := (-1000002)) (pc := 7) dX9_undo_7 kc_X9_78 ?_
    exact sh_ret_i (pc := 9) dX9_undo_9 rfl ⟨rfl, rfl⟩ h

set_option maxRecDepth 100000 in
set_option maxHeartbeats 4000000 in
theorem wp_X9_type {g : sh_G} {S : sh_S} {sz : Nat} {Q : Int32 → sh_S → Prop} {a1 : Int32} 
    (h : (sh_Ci g mX9_in [sh_I a1, sh_I 32, sh_I 126] S sz (fun r2 S1 => ((¬ r2 = 0 → ((¬ (S1 (9, 0, 0) 6) = 60 → (vp_in (S1 (9, 0, 0) 6) 60 ∧ (∀ S6 : sh_S, S6 = sh_sr S1 (23, 0, 0) (upd (S1 (23, 0, 0)) ((S1 (9, 0, 0) 6).toNatClampNeg) a1) → (∀ S7 : sh_S, S7 = sh_sr S6 (9, 0, 0) (upd (S6 (9, 0, 0)) 6 (((S6 (9, 0, 0) 6) + 1))) → Q (S7 (9, 0, 0) 6) S7)))) ∧ ((S1 (9, 0, 0) 6) = 60 → Q (-1000003) S1))) ∧ (r2 = 0 → Q (-1000001) S1))))) :
    sh_Ci g mX9_type [sh_R (9, 0, 0), sh_I a1] S sz Q := by
  refine sh_enter (ls := [(0, sh_R (9, 0, 0)), (1, sh_I a1)]) (by decide +kernel) (Nat.le_of_ble_eq_true rfl) rfl ?_
  refine sh_iload_n (pc := 0) dX9_type_0 rfl ?_
  refine sh_bipush (v := 32) (pc := 1) dX9_type_1 rfl ?_
  refine sh_bipush (v := 126) (pc := 3) dX9_type_3 rfl ?_
  refine sh_si (N := mX9_in) (pc := 5) dX9_type_5 ml_X9_38 h mf_X9_in is_X9_in ⟨Nat.le_of_ble_eq_true rfl, Nat.le_of_ble_eq_true rfl⟩ rfl rfl (Nat.le_of_ble_eq_true rfl) (fun r2 S1 h => ?_)
  refine sh_if_ne (tgt := 14) (pc := 8) dX9_type_8 (by decide) (fun hc3 => ?_) (fun hc3 => ?_)
  · have h := h.1 hc3
    refine sh_aload_n (pc := 14) dX9_type_14 rfl ?_
    refine sh_gf (pc := 15) dX9_type_15 fl_X9_219 cf_9 ok_9_0 rfl rfl ?_
    refine sh_bipush (v := 60) (pc := 18) dX9_type_18 rfl ?_
    refine sh_icmp_ne (tgt := 26) (pc := 20) dX9_type_20 (by decide) (fun hc4 => ?_) (fun hc4 => ?_)
    · have h := h.1 hc4
      refine sh_aload_n (pc := 26) dX9_type_26 rfl ?_
      refine sh_gf (pc := 27) dX9_type_27 fl_X9_22 cf_9 ok_9_0 rfl rfl ?_
      refine sh_aload_n (pc := 30) dX9_type_30 rfl ?_
      refine sh_gf (pc := 31) dX9_type_31 fl_X9_219 cf_9 ok_9_0 rfl rfl ?_
      refine sh_iload_n (pc := 34) dX9_type_34 rfl ?_
      obtain ⟨hi5, h⟩ := h
      refine sh_is (pc := 35) dX9_type_35 ok_23_0 rfl hi5 rfl ?_
      refine sh_topS (fun S6 hS6 => ?_)
      have h := h S6 hS6
      refine sh_aload_n (pc := 36) dX9_type_36 rfl ?_
      refine sh_dup (pc := 37) dX9_type_37 rfl ?_
      refine sh_gf (pc := 38) dX9_type_38 fl_X9_219 cf_9 ok_9_0 rfl rfl ?_
      refine sh_iconst (v := 1) (pc := 41) dX9_type_41 rfl ?_
      refine sh_iadd (pc := 42) dX9_type_42 ?_
      refine sh_pfi (pc := 43) dX9_type_43 fl_X9_219 cf_9 ft_9_6 ok_9_0 rfl (Nat.le_of_ble_eq_true rfl) rfl ?_
      refine sh_topS (fun S7 hS7 => ?_)
      have h := h S7 hS7
      refine sh_aload_n (pc := 46) dX9_type_46 rfl ?_
      refine sh_gf (pc := 47) dX9_type_47 fl_X9_219 cf_9 ok_9_0 rfl rfl ?_
      exact sh_ret_i (pc := 50) dX9_type_50 rfl ⟨rfl, rfl⟩ h
    · have h := h.2 hc4
      refine sh_ldc (v := (-1000003)) (pc := 23) dX9_type_23 kc_X9_73 ?_
      exact sh_ret_i (pc := 25) dX9_type_25 rfl ⟨rfl, rfl⟩ h
  · have h := h.2 hc3
    refine sh_ldc (v := (-1000001)) (pc := 11) dX9_type_11 kc_X9_32 ?_
    exact sh_ret_i (pc := 13) dX9_type_13 rfl ⟨rfl, rfl⟩ h

set_option maxRecDepth 100000 in
set_option maxHeartbeats 4000000 in
theorem wp_X9_clearText {g : sh_G} {S : sh_S} {sz : Nat} {Q : Int32 → sh_S → Prop} 
    (h : (∀ x1 : Int32, x1 = (S (9, 0, 0) 6) → (∀ S2 : sh_S, S2 = sh_sr S (9, 0, 0) (upd (S (9, 0, 0)) 6 0) → Q x1 S2))) :
    sh_Ci g mX9_clearText [sh_R (9, 0, 0)] S sz Q := by
  refine sh_enter (ls := [(0, sh_R (9, 0, 0))]) (by decide +kernel) (Nat.le_of_ble_eq_true rfl) rfl ?_
  refine sh_aload_n (pc := 0) dX9_clearText_0 rfl ?_
  refine sh_gf (pc := 1) dX9_clearText_1 fl_X9_219 cf_9 ok_9_0 rfl rfl ?_
  refine sh_topI (fun x1 hx1 => ?_)
  have h := h x1 hx1
  refine sh_istore_n (ls' := [(1, sh_I x1), (0, sh_R (9, 0, 0))]) (pc := 4) dX9_clearText_4 (by decide) rfl ?_
  refine sh_aload_n (pc := 5) dX9_clearText_5 rfl ?_
  refine sh_iconst (v := 0) (pc := 6) dX9_clearText_6 rfl ?_
  refine sh_pfi (pc := 7) dX9_clearText_7 fl_X9_219 cf_9 ft_9_6 ok_9_0 rfl (Nat.le_of_ble_eq_true rfl) rfl ?_
  refine sh_topS (fun S2 hS2 => ?_)
  have h := h S2 hS2
  refine sh_iload_n (pc := 10) dX9_clearText_10 rfl ?_
  exact sh_ret_i (pc := 11) dX9_clearText_11 rfl ⟨rfl, rfl⟩ h

set_option maxRecDepth 100000 in
set_option maxHeartbeats 4000000 in
theorem wp_X9_here {g : sh_G} {S : sh_S} {sz : Nat} {Q : Int32 → sh_S → Prop} 
    (h : (((S (9, 0, 0) 6) ≤ (S (9, 0, 0) 8) → Q (-1) S) ∧ (¬ (S (9, 0, 0) 6) ≤ (S (9, 0, 0) 8) → (vp_in (S (9, 0, 0) 8) 60 ∧ Q (S (23, 0, 0) ((S (9, 0, 0) 8).toNatClampNeg)) S)))) :
    sh_Ci g mX9_here [sh_R (9, 0, 0)] S sz Q := by
  refine sh_enter (ls := [(0, sh_R (9, 0, 0))]) (by decide +kernel) (Nat.le_of_ble_eq_true rfl) rfl ?_
  refine sh_aload_n (pc := 0) dX9_here_0 rfl ?_
  refine sh_gf (pc := 1) dX9_here_1 fl_X9_222 cf_9 ok_9_0 rfl rfl ?_
  refine sh_aload_n (pc := 4) dX9_here_4 rfl ?_
  refine sh_gf (pc := 5) dX9_here_5 fl_X9_219 cf_9 ok_9_0 rfl rfl ?_
  refine sh_icmp_ge (tgt := 23) (pc := 8) dX9_here_8 (by decide) (fun hc1 => ?_) (fun hc1 => ?_)
  · have h := h.1 hc1
    refine sh_iconst (v := (-1)) (pc := 23) dX9_here_23 rfl ?_
    exact sh_ret_i (pc := 24) dX9_here_24 rfl ⟨rfl, rfl⟩ h
  · have h := h.2 hc1
    refine sh_aload_n (pc := 11) dX9_here_11 rfl ?_
    refine sh_gf (pc := 12) dX9_here_12 fl_X9_22 cf_9 ok_9_0 rfl rfl ?_
    refine sh_aload_n (pc := 15) dX9_here_15 rfl ?_
    refine sh_gf (pc := 16) dX9_here_16 fl_X9_222 cf_9 ok_9_0 rfl rfl ?_
    obtain ⟨hi2, h⟩ := h
    refine sh_ia (pc := 19) dX9_here_19 ok_23_0 rfl hi2 ?_
    refine sh_goto (tgt := 24) (pc := 20) dX9_here_20 (by decide) ?_
    exact sh_ret_i (pc := 24) dX9_here_24 rfl ⟨rfl, rfl⟩ h

set_option maxRecDepth 100000 in
set_option maxHeartbeats 4000000 in
theorem wp_X9_number {g : sh_G} {S : sh_S} {sz : Nat} {Q : Int32 → sh_S → Prop} 
    (h : (∀ x1 : Int32, x1 = (S (9, 0, 0) 8) → (∃ (Iv2 : Int32 → sh_S → Prop) (mu2 : Int32 → sh_S → Nat), Iv2 0 S ∧ ∀ (v3 : Int32) (S4 : sh_S), Iv2 v3 S4 → (sh_Ci g mX9_here [sh_R (9, 0, 0)] S4 sz (fun r6 S5 => (sh_Ci g mX9_in [sh_I r6, sh_I 48, sh_I 57] S5 sz (fun r8 S7 => ((r8 = 0 → ((¬ (S7 (9, 0, 0) 8) = x1 → Q v3 S7) ∧ ((S7 (9, 0, 0) 8) = x1 → Q (-1) S7))) ∧ (¬ r8 = 0 → (((x1 + 3) ≤ (S7 (9, 0, 0) 8) → ((¬ (S7 (9, 0, 0) 8) = x1 → Q v3 S7) ∧ ((S7 (9, 0, 0) 8) = x1 → Q (-1) S7))) ∧ (¬ (x1 + 3) ≤ (S7 (9, 0, 0) 8) → (sh_Ci g mX9_here [sh_R (9, 0, 0)] S7 sz (fun r14 S13 => (∀ x15 : Int32, x15 = (((10 * v3) + r14) - 48) → (∀ S16 : sh_S, S16 = sh_sr S13 (9, 0, 0) (upd (S13 (9, 0, 0)) 8 (((S13 (9, 0, 0) 8) + 1))) → (Iv2 x15 S16 ∧ mu2 x15 S16 < mu2 v3 S4)))))))))))))))) :
    sh_Ci g mX9_number [sh_R (9, 0, 0)] S sz Q := by
  refine sh_enter (ls := [(0, sh_R (9, 0, 0))]) (by decide +kernel) (Nat.le_of_ble_eq_true rfl) rfl ?_
  refine sh_aload_n (pc := 0) dX9_number_0 rfl ?_
  refine sh_gf (pc := 1) dX9_number_1 fl_X9_222 cf_9 ok_9_0 rfl rfl ?_
  refine sh_topI (fun x1 hx1 => ?_)
  have h := h x1 hx1
  refine sh_istore_n (ls' := [(1, sh_I x1), (0, sh_R (9, 0, 0))]) (pc := 4) dX9_number_4 (by decide) rfl ?_
  refine sh_iconst (v := 0) (pc := 5) dX9_number_5 rfl ?_
  refine sh_istore_n (ls' := [(2, sh_I 0), (1, sh_I x1), (0, sh_R (9, 0, 0))]) (pc := 6) dX9_number_6 (by decide) rfl ?_
  obtain ⟨Iv2, mu2, h0, hs2⟩ := h
  refine sh_pick [2, 1, 0] rfl ?_
  refine sh_lp2 Iv2 mu2 (fun v3 S4 => sh_V g mX9_number 0 0 7 [(0, sh_R (9, 0, 0)), (1, sh_I x1), (2, sh_I v3)] [] (sh_St S4) sz (sh_ti sz Q)) (fun v3 S4 hI2 ih2 => ?_) _ _ h0
  have h := hs2 v3 S4 hI2
  clear h0
  refine sh_aload_n (pc := 7) dX9_number_7 rfl ?_
  refine sh_ci (N := mX9_here) (pc := 8) dX9_number_8 ml_X9_225 h mf_X9_here iv_X9_here ⟨Nat.le_of_ble_eq_true rfl, Nat.le_of_ble_eq_true rfl⟩ rfl rfl (Nat.le_of_ble_eq_true rfl) ok_9_0 rfl (show vwCl[9]? = some (RX9, TX9, 14) from rfl) rfl (fun r6 S5 h => ?_)
  refine sh_bipush (v := 48) (pc := 11) dX9_number_11 rfl ?_
  refine sh_bipush (v := 57) (pc := 13) dX9_number_13 rfl ?_
  refine sh_si (N := mX9_in) (pc := 15) dX9_number_15 ml_X9_38 h mf_X9_in is_X9_in ⟨Nat.le_of_ble_eq_true rfl, Nat.le_of_ble_eq_true rfl⟩ rfl rfl (Nat.le_of_ble_eq_true rfl) (fun r8 S7 h => ?_)
  refine sh_if_eq (tgt := 57) (pc := 18) dX9_number_18 (by decide) (fun hc9 => ?_) (fun hc9 => ?_)
  · have h := h.1 hc9
    refine sh_aload_n (pc := 57) dX9_number_57 rfl ?_
    refine sh_gf (pc := 58) dX9_number_58 fl_X9_222 cf_9 ok_9_0 rfl rfl ?_
    refine sh_iload_n (pc := 61) dX9_number_61 rfl ?_
    refine sh_icmp_ne (tgt := 69) (pc := 62) dX9_number_62 (by decide) (fun hc10 => ?_) (fun hc10 => ?_)
    · have h := h.1 hc10
      refine sh_iload_n (pc := 69) dX9_number_69 rfl ?_
      exact sh_ret_i (pc := 70) dX9_number_70 rfl ⟨rfl, rfl⟩ h
    · have h := h.2 hc10
      refine sh_iconst (v := (-1)) (pc := 65) dX9_number_65 rfl ?_
      refine sh_goto (tgt := 70) (pc := 66) dX9_number_66 (by decide) ?_
      exact sh_ret_i (pc := 70) dX9_number_70 rfl ⟨rfl, rfl⟩ h
  · have h := h.2 hc9
    refine sh_aload_n (pc := 21) dX9_number_21 rfl ?_
    refine sh_gf (pc := 22) dX9_number_22 fl_X9_222 cf_9 ok_9_0 rfl rfl ?_
    refine sh_iload_n (pc := 25) dX9_number_25 rfl ?_
    refine sh_iconst (v := 3) (pc := 26) dX9_number_26 rfl ?_
    refine sh_iadd (pc := 27) dX9_number_27 ?_
    refine sh_icmp_ge (tgt := 57) (pc := 28) dX9_number_28 (by decide) (fun hc11 => ?_) (fun hc11 => ?_)
    · have h := h.1 hc11
      refine sh_aload_n (pc := 57) dX9_number_57 rfl ?_
      refine sh_gf (pc := 58) dX9_number_58 fl_X9_222 cf_9 ok_9_0 rfl rfl ?_
      refine sh_iload_n (pc := 61) dX9_number_61 rfl ?_
      refine sh_icmp_ne (tgt := 69) (pc := 62) dX9_number_62 (by decide) (fun hc12 => ?_) (fun hc12 => ?_)
      · have h := h.1 hc12
        refine sh_iload_n (pc := 69) dX9_number_69 rfl ?_
        exact sh_ret_i (pc := 70) dX9_number_70 rfl ⟨rfl, rfl⟩ h
      · have h := h.2 hc12
        refine sh_iconst (v := (-1)) (pc := 65) dX9_number_65 rfl ?_
        refine sh_goto (tgt := 70) (pc := 66) dX9_number_66 (by decide) ?_
        exact sh_ret_i (pc := 70) dX9_number_70 rfl ⟨rfl, rfl⟩ h
    · have h := h.2 hc11
      refine sh_bipush (v := 10) (pc := 31) dX9_number_31 rfl ?_
      refine sh_iload_n (pc := 33) dX9_number_33 rfl ?_
      refine sh_imul (pc := 34) dX9_number_34 ?_
      refine sh_aload_n (pc := 35) dX9_number_35 rfl ?_
      refine sh_ci (N := mX9_here) (pc := 36) dX9_number_36 ml_X9_225 h mf_X9_here iv_X9_here ⟨Nat.le_of_ble_eq_true rfl, Nat.le_of_ble_eq_true rfl⟩ rfl rfl (Nat.le_of_ble_eq_true rfl) ok_9_0 rfl (show vwCl[9]? = some (RX9, TX9, 14) from rfl) rfl (fun r14 S13 h => ?_)
      refine sh_iadd (pc := 39) dX9_number_39 ?_
      refine sh_bipush (v := 48) (pc := 40) dX9_number_40 rfl ?_
      refine sh_isub (pc := 42) dX9_number_42 ?_
      refine sh_topI (fun x15 hx15 => ?_)
      have h := h x15 hx15
      refine sh_istore_n (ls' := [(2, sh_I x15), (0, sh_R (9, 0, 0)), (1, sh_I x1)]) (pc := 43) dX9_number_43 (by decide) rfl ?_
      refine sh_aload_n (pc := 44) dX9_number_44 rfl ?_
      refine sh_dup (pc := 45) dX9_number_45 rfl ?_
      refine sh_gf (pc := 46) dX9_number_46 fl_X9_222 cf_9 ok_9_0 rfl rfl ?_
      refine sh_iconst (v := 1) (pc := 49) dX9_number_49 rfl ?_
      refine sh_iadd (pc := 50) dX9_number_50 ?_
      refine sh_pfi (pc := 51) dX9_number_51 fl_X9_222 cf_9 ft_9_8 ok_9_0 rfl (Nat.le_of_ble_eq_true rfl) rfl ?_
      refine sh_topS (fun S16 hS16 => ?_)
      have h := h S16 hS16
      refine sh_goto (tgt := 7) (pc := 54) dX9_number_54 (by decide) ?_
      refine sh_pick [1, 2, 0] rfl ?_
      exact ih2 _ _ h.1 h.2

set_option maxRecDepth 100000 in
set_option maxHeartbeats 4000000 in
theorem wp_X9_passes {g : sh_G} {S : sh_S} {sz : Nat} {Q : Int32 → sh_S → Prop} {a1 : Int32} 
    (h : (sh_Ci g mX9_here [sh_R (9, 0, 0)] S sz (fun r2 S1 => ((¬ r2 = a1 → (∀ S5 : sh_S, S5 = sh_sr S1 (9, 0, 0) (upd (S1 (9, 0, 0)) 8 (((S1 (9, 0, 0) 8) + 0))) → Q 0 S5)) ∧ (r2 = a1 → (∀ S7 : sh_S, S7 = sh_sr S1 (9, 0, 0) (upd (S1 (9, 0, 0)) 8 (((S1 (9, 0, 0) 8) + 1))) → Q 1 S7)))))) :
    sh_Ci g mX9_passes [sh_R (9, 0, 0), sh_I a1] S sz Q := by
  refine sh_enter (ls := [(0, sh_R (9, 0, 0)), (1, sh_I a1)]) (by decide +kernel) (Nat.le_of_ble_eq_true rfl) rfl ?_
  refine sh_aload_n (pc := 0) dX9_passes_0 rfl ?_
  refine sh_ci (N := mX9_here) (pc := 1) dX9_passes_1 ml_X9_225 h mf_X9_here iv_X9_here ⟨Nat.le_of_ble_eq_true rfl, Nat.le_of_ble_eq_true rfl⟩ rfl rfl (Nat.le_of_ble_eq_true rfl) ok_9_0 rfl (show vwCl[9]? = some (RX9, TX9, 14) from rfl) rfl (fun r2 S1 h => ?_)
  refine sh_iload_n (pc := 4) dX9_passes_4 rfl ?_
  refine sh_icmp_ne (tgt := 12) (pc := 5) dX9_passes_5 (by decide) (fun hc3 => ?_) (fun hc3 => ?_)
  · have h := h.1 hc3
    refine sh_iconst (v := 0) (pc := 12) dX9_passes_12 rfl ?_
    refine sh_istore_n (ls' := [(2, sh_I 0), (0, sh_R (9, 0, 0)), (1, sh_I a1)]) (pc := 13) dX9_passes_13 (by decide) rfl ?_
    refine sh_aload_n (pc := 14) dX9_passes_14 rfl ?_
    refine sh_dup (pc := 15) dX9_passes_15 rfl ?_
    refine sh_gf (pc := 16) dX9_passes_16 fl_X9_222 cf_9 ok_9_0 rfl rfl ?_
    refine sh_iload_n (pc := 19) dX9_passes_19 rfl ?_
    refine sh_if_eq (tgt := 27) (pc := 20) dX9_passes_20 (by decide) (fun hc4 => ?_) (fun hc4 => ?_)
    · skip
      refine sh_iconst (v := 0) (pc := 27) dX9_passes_27 rfl ?_
      refine sh_iadd (pc := 28) dX9_passes_28 ?_
      refine sh_pfi (pc := 29) dX9_passes_29 fl_X9_222 cf_9 ft_9_8 ok_9_0 rfl (Nat.le_of_ble_eq_true rfl) rfl ?_
      refine sh_topS (fun S5 hS5 => ?_)
      have h := h S5 hS5
      refine sh_iload_n (pc := 32) dX9_passes_32 rfl ?_
      exact sh_ret_z (pc := 33) dX9_passes_33 rfl rfl ⟨rfl, rfl⟩ h
    · exact absurd hc4 (by decide)
  · have h := h.2 hc3
    refine sh_iconst (v := 1) (pc := 8) dX9_passes_8 rfl ?_
    refine sh_goto (tgt := 13) (pc := 9) dX9_passes_9 (by decide) ?_
    refine sh_istore_n (ls' := [(2, sh_I 1), (0, sh_R (9, 0, 0)), (1, sh_I a1)]) (pc := 13) dX9_passes_13 (by decide) rfl ?_
    refine sh_aload_n (pc := 14) dX9_passes_14 rfl ?_
    refine sh_dup (pc := 15) dX9_passes_15 rfl ?_
    refine sh_gf (pc := 16) dX9_passes_16 fl_X9_222 cf_9 ok_9_0 rfl rfl ?_
    refine sh_iload_n (pc := 19) dX9_passes_19 rfl ?_
    refine sh_if_eq (tgt := 27) (pc := 20) dX9_passes_20 (by decide) (fun hc6 => ?_) (fun hc6 => ?_)
    · exact absurd hc6 (by decide)
    · skip
      refine sh_iconst (v := 1) (pc := 23) dX9_passes_23 rfl ?_
      refine sh_goto (tgt := 28) (pc := 24) dX9_passes_24 (by decide) ?_
      refine sh_iadd (pc := 28) dX9_passes_28 ?_
      refine sh_pfi (pc := 29) dX9_passes_29 fl_X9_222 cf_9 ft_9_8 ok_9_0 rfl (Nat.le_of_ble_eq_true rfl) rfl ?_
      refine sh_topS (fun S7 hS7 => ?_)
      have h := h S7 hS7
      refine sh_iload_n (pc := 32) dX9_passes_32 rfl ?_
      exact sh_ret_z (pc := 33) dX9_passes_33 rfl rfl ⟨rfl, rfl⟩ h

set_option maxRecDepth 100000 in
set_option maxHeartbeats 4000000 in
theorem wp_X9_readOrder {g : sh_G} {S : sh_S} {sz : Nat} {Q : Int32 → sh_S → Prop} 
    (h : (sh_Ci g mX9_here [sh_R (9, 0, 0)] S sz (fun r2 S1 => (∀ S3 : sh_S, S3 = sh_sr S1 (9, 0, 0) (upd (S1 (9, 0, 0)) 11 r2) → (∀ S4 : sh_S, S4 = sh_sr S3 (9, 0, 0) (upd (S3 (9, 0, 0)) 8 (((S3 (9, 0, 0) 8) + 1))) → (∀ S5 : sh_S, S5 = sh_sr S4 (9, 0, 0) (upd (S4 (9, 0, 0)) 9 (-1)) → (∀ S6 : sh_S, S6 = sh_sr S5 (9, 0, 0) (upd (S5 (9, 0, 0)) 10 (-1)) → ((¬ (S6 (9, 0, 0) 11) = 115 → (((S6 (9, 0, 0) 11) = 103 → (sh_Ci g mX9_number [sh_R (9, 0, 0)] S6 sz (fun r10 S9 => (∀ S11 : sh_S, S11 = sh_sr S9 (9, 0, 0) (upd (S9 (9, 0, 0)) 9 r10) → ((0 ≤ (S11 (9, 0, 0) 9) → (((S11 (9, 0, 0) 11) = 98 → (sh_Ci g mX9_passes [sh_R (9, 0, 0), sh_I 59] S11 sz (fun r15 S14 => (narrow .boolean (.int r15) = .int r15 ∧ Q r15 S14)))) ∧ (¬ (S11 (9, 0, 0) 11) = 98 → (sh_Ci g mX9_passes [sh_R (9, 0, 0), sh_I 44] S11 sz (fun r17 S16 => ((¬ r17 = 0 → (sh_Ci g mX9_number [sh_R (9, 0, 0)] S16 sz (fun r20 S19 => (∀ S21 : sh_S, S21 = sh_sr S19 (9, 0, 0) (upd (S19 (9, 0, 0)) 10 r20) → ((0 ≤ (S21 (9, 0, 0) 10) → (sh_Ci g mX9_passes [sh_R (9, 0, 0), sh_I 59] S21 sz (fun r24 S23 => (narrow .boolean (.int r24) = .int r24 ∧ Q r24 S23)))) ∧ (¬ 0 ≤ (S21 (9, 0, 0) 10) → Q 0 S21)))))) ∧ (r17 = 0 → Q 0 S16))))))) ∧ (¬ 0 ≤ (S11 (9, 0, 0) 9) → Q 0 S11)))))) ∧ (¬ (S6 (9, 0, 0) 11) = 103 → (((S6 (9, 0, 0) 11) = 108 → (sh_Ci g mX9_number [sh_R (9, 0, 0)] S6 sz (fun r27 S26 => (∀ S28 : sh_S, S28 = sh_sr S26 (9, 0, 0) (upd (S26 (9, 0, 0)) 9 r27) → ((0 ≤ (S28 (9, 0, 0) 9) → (((S28 (9, 0, 0) 11) = 98 → (sh_Ci g mX9_passes [sh_R (9, 0, 0), sh_I 59] S28 sz (fun r32 S31 => (narrow .boolean (.int r32) = .int r32 ∧ Q r32 S31)))) ∧ (¬ (S28 (9, 0, 0) 11) = 98 → (sh_Ci g mX9_passes [sh_R (9, 0, 0), sh_I 44] S28 sz (fun r34 S33 => ((¬ r34 = 0 → (sh_Ci g mX9_number [sh_R (9, 0, 0)] S33 sz (fun r37 S36 => (∀ S38 : sh_S, S38 = sh_sr S36 (9, 0, 0) (upd (S36 (9, 0, 0)) 10 r37) → ((0 ≤ (S38 (9, 0, 0) 10) → (sh_Ci g mX9_passes [sh_R (9, 0, 0), sh_I 59] S38 sz (fun r41 S40 => (narrow .boolean (.int r41) = .int r41 ∧ Q r41 S40)))) ∧ (¬ 0 ≤ (S38 (9, 0, 0) 10) → Q 0 S38)))))) ∧ (r34 = 0 → Q 0 S33))))))) ∧ (¬ 0 ≤ (S28 (9, 0, 0) 9) → Q 0 S28)))))) ∧ (¬ (S6 (9, 0, 0) 11) = 108 → (((S6 (9, 0, 0) 11) = 98 → (sh_Ci g mX9_number [sh_R (9, 0, 0)] S6 sz (fun r44 S43 => (∀ S45 : sh_S, S45 = sh_sr S43 (9, 0, 0) (upd (S43 (9, 0, 0)) 9 r44) → ((0 ≤ (S45 (9, 0, 0) 9) → (((S45 (9, 0, 0) 11) = 98 → (sh_Ci g mX9_passes [sh_R (9, 0, 0), sh_I 59] S45 sz (fun r49 S48 => (narrow .boolean (.int r49) = .int r49 ∧ Q r49 S48)))) ∧ (¬ (S45 (9, 0, 0) 11) = 98 → (sh_Ci g mX9_passes [sh_R (9, 0, 0), sh_I 44] S45 sz (fun r51 S50 => ((¬ r51 = 0 → (sh_Ci g mX9_number [sh_R (9, 0, 0)] S50 sz (fun r54 S53 => (∀ S55 : sh_S, S55 = sh_sr S53 (9, 0, 0) (upd (S53 (9, 0, 0)) 10 r54) → ((0 ≤ (S55 (9, 0, 0) 10) → (sh_Ci g mX9_passes [sh_R (9, 0, 0), sh_I 59] S55 sz (fun r58 S57 => (narrow .boolean (.int r58) = .int r58 ∧ Q r58 S57)))) ∧ (¬ 0 ≤ (S55 (9, 0, 0) 10) → Q 0 S55)))))) ∧ (r51 = 0 → Q 0 S50))))))) ∧ (¬ 0 ≤ (S45 (9, 0, 0) 9) → Q 0 S45)))))) ∧ (¬ (S6 (9, 0, 0) 11) = 98 → Q 0 S6))))))) ∧ ((S6 (9, 0, 0) 11) = 115 → (sh_Ci g mX9_passes [sh_R (9, 0, 0), sh_I 59] S6 sz (fun r60 S59 => (narrow .boolean (.int r60) = .int r60 ∧ Q r60 S59)))))))))))) :
    sh_Ci g mX9_readOrder [sh_R (9, 0, 0)] S sz Q := by
  refine sh_enter (ls := [(0, sh_R (9, 0, 0))]) (by decide +kernel) (Nat.le_of_ble_eq_true rfl) rfl ?_
  refine sh_aload_n (pc := 0) dX9_readOrder_0 rfl ?_
  refine sh_aload_n (pc := 1) dX9_readOrder_1 rfl ?_
  refine sh_ci (N := mX9_here) (pc := 2) dX9_readOrder_2 ml_X9_225 h mf_X9_here iv_X9_here ⟨Nat.le_of_ble_eq_true rfl, Nat.le_of_ble_eq_true rfl⟩ rfl rfl (Nat.le_of_ble_eq_true rfl) ok_9_0 rfl (show vwCl[9]? = some (RX9, TX9, 14) from rfl) rfl (fun r2 S1 h => ?_)
  refine sh_pfi (pc := 5) dX9_readOrder_5 fl_X9_228 cf_9 ft_9_11 ok_9_0 rfl (Nat.le_of_ble_eq_true rfl) rfl ?_
  refine sh_topS (fun S3 hS3 => ?_)
  have h := h S3 hS3
  refine sh_aload_n (pc := 8) dX9_readOrder_8 rfl ?_
  refine sh_dup (pc := 9) dX9_readOrder_9 rfl ?_
  refine sh_gf (pc := 10) dX9_readOrder_10 fl_X9_222 cf_9 ok_9_0 rfl rfl ?_
  refine sh_iconst (v := 1) (pc := 13) dX9_readOrder_13 rfl ?_
  refine sh_iadd (pc := 14) dX9_readOrder_14 ?_
  refine sh_pfi (pc := 15) dX9_readOrder_15 fl_X9_222 cf_9 ft_9_8 ok_9_0 rfl (Nat.le_of_ble_eq_true rfl) rfl ?_
  refine sh_topS (fun S4 hS4 => ?_)
  have h := h S4 hS4
  refine sh_aload_n (pc := 18) dX9_readOrder_18 rfl ?_
  refine sh_iconst (v := (-1)) (pc := 19) dX9_readOrder_19 rfl ?_
  refine sh_pfi (pc := 20) dX9_readOrder_20 fl_X9_231 cf_9 ft_9_9 ok_9_0 rfl (Nat.le_of_ble_eq_true rfl) rfl ?_
  refine sh_topS (fun S5 hS5 => ?_)
  have h := h S5 hS5
  refine sh_aload_n (pc := 23) dX9_readOrder_23 rfl ?_
  refine sh_iconst (v := (-1)) (pc := 24) dX9_readOrder_24 rfl ?_
  refine sh_pfi (pc := 25) dX9_readOrder_25 fl_X9_234 cf_9 ft_9_10 ok_9_0 rfl (Nat.le_of_ble_eq_true rfl) rfl ?_
  refine sh_topS (fun S6 hS6 => ?_)
  have h := h S6 hS6
  refine sh_aload_n (pc := 28) dX9_readOrder_28 rfl ?_
  refine sh_gf (pc := 29) dX9_readOrder_29 fl_X9_228 cf_9 ok_9_0 rfl rfl ?_
  refine sh_bipush (v := 115) (pc := 32) dX9_readOrder_32 rfl ?_
  refine sh_icmp_ne (tgt := 44) (pc := 34) dX9_readOrder_34 (by decide) (fun hc7 => ?_) (fun hc7 => ?_)
  · have h := h.1 hc7
    refine sh_aload_n (pc := 44) dX9_readOrder_44 rfl ?_
    refine sh_gf (pc := 45) dX9_readOrder_45 fl_X9_228 cf_9 ok_9_0 rfl rfl ?_
    refine sh_bipush (v := 103) (pc := 48) dX9_readOrder_48 rfl ?_
    refine sh_icmp_eq (tgt := 73) (pc := 50) dX9_readOrder_50 (by decide) (fun hc8 => ?_) (fun hc8 => ?_)
    · have h := h.1 hc8
      refine sh_aload_n (pc := 73) dX9_readOrder_73 rfl ?_
      refine sh_aload_n (pc := 74) dX9_readOrder_74 rfl ?_
      refine sh_ci (N := mX9_number) (pc := 75) dX9_readOrder_75 ml_X9_240 h mf_X9_number iv_X9_number ⟨Nat.le_of_ble_eq_true rfl, Nat.le_of_ble_eq_true rfl⟩ rfl rfl (Nat.le_of_ble_eq_true rfl) ok_9_0 rfl (show vwCl[9]? = some (RX9, TX9, 14) from rfl) rfl (fun r10 S9 h => ?_)
      refine sh_pfi (pc := 78) dX9_readOrder_78 fl_X9_231 cf_9 ft_9_9 ok_9_0 rfl (Nat.le_of_ble_eq_true rfl) rfl ?_
      refine sh_topS (fun S11 hS11 => ?_)
      have h := h S11 hS11
      refine sh_aload_n (pc := 81) dX9_readOrder_81 rfl ?_
      refine sh_gf (pc := 82) dX9_readOrder_82 fl_X9_231 cf_9 ok_9_0 rfl rfl ?_
      refine sh_if_ge (tgt := 90) (pc := 85) dX9_readOrder_85 (by decide) (fun hc12 => ?_) (fun hc12 => ?_)
      · have h := h.1 hc12
        refine sh_aload_n (pc := 90) dX9_readOrder_90 rfl ?_
        refine sh_gf (pc := 91) dX9_readOrder_91 fl_X9_228 cf_9 ok_9_0 rfl rfl ?_
        refine sh_bipush (v := 98) (pc := 94) dX9_readOrder_94 rfl ?_
        refine sh_icmp_eq (tgt := 127) (pc := 96) dX9_readOrder_96 (by decide) (fun hc13 => ?_) (fun hc13 => ?_)
        · have h := h.1 hc13
          refine sh_aload_n (pc := 127) dX9_readOrder_127 rfl ?_
          refine sh_bipush (v := 59) (pc := 128) dX9_readOrder_128 rfl ?_
          refine sh_ci (N := mX9_passes) (pc := 130) dX9_readOrder_130 ml_X9_237 h mf_X9_passes iv_X9_passes ⟨Nat.le_of_ble_eq_true rfl, Nat.le_of_ble_eq_true rfl⟩ rfl rfl (Nat.le_of_ble_eq_true rfl) ok_9_0 rfl (show vwCl[9]? = some (RX9, TX9, 14) from rfl) rfl (fun r15 S14 h => ?_)
          exact sh_ret_z (pc := 133) dX9_readOrder_133 rfl h.1 ⟨rfl, rfl⟩ h.2
        · have h := h.2 hc13
          refine sh_aload_n (pc := 99) dX9_readOrder_99 rfl ?_
          refine sh_bipush (v := 44) (pc := 100) dX9_readOrder_100 rfl ?_
          refine sh_ci (N := mX9_passes) (pc := 102) dX9_readOrder_102 ml_X9_237 h mf_X9_passes iv_X9_passes ⟨Nat.le_of_ble_eq_true rfl, Nat.le_of_ble_eq_true rfl⟩ rfl rfl (Nat.le_of_ble_eq_true rfl) ok_9_0 rfl (show vwCl[9]? = some (RX9, TX9, 14) from rfl) rfl (fun r17 S16 h => ?_)
          refine sh_if_ne (tgt := 110) (pc := 105) dX9_readOrder_105 (by decide) (fun hc18 => ?_) (fun hc18 => ?_)
          · have h := h.1 hc18
            refine sh_aload_n (pc := 110) dX9_readOrder_110 rfl ?_
            refine sh_aload_n (pc := 111) dX9_readOrder_111 rfl ?_
            refine sh_ci (N := mX9_number) (pc := 112) dX9_readOrder_112 ml_X9_240 h mf_X9_number iv_X9_number ⟨Nat.le_of_ble_eq_true rfl, Nat.le_of_ble_eq_true rfl⟩ rfl rfl (Nat.le_of_ble_eq_true rfl) ok_9_0 rfl (show vwCl[9]? = some (RX9, TX9, 14) from rfl) rfl (fun r20 S19 h => ?_)
            refine sh_pfi (pc := 115) dX9_readOrder_115 fl_X9_234 cf_9 ft_9_10 ok_9_0 rfl (Nat.le_of_ble_eq_true rfl) rfl ?_
            refine sh_topS (fun S21 hS21 => ?_)
            have h := h S21 hS21
            refine sh_aload_n (pc := 118) dX9_readOrder_118 rfl ?_
            refine sh_gf (pc := 119) dX9_readOrder_119 fl_X9_234 cf_9 ok_9_0 rfl rfl ?_
            refine sh_if_ge (tgt := 127) (pc := 122) dX9_readOrder_122 (by decide) (fun hc22 => ?_) (fun hc22 => ?_)
            · have h := h.1 hc22
              refine sh_aload_n (pc := 127) dX9_readOrder_127 rfl ?_
              refine sh_bipush (v := 59) (pc := 128) dX9_readOrder_128 rfl ?_
              refine sh_ci (N := mX9_passes) (pc := 130) dX9_readOrder_130 ml_X9_237 h mf_X9_passes iv_X9_passes ⟨Nat.le_of_ble_eq_true rfl, Nat.le_of_ble_eq_true rfl⟩ rfl rfl (Nat.le_of_ble_eq_true rfl) ok_9_0 rfl (show vwCl[9]? = some (RX9, TX9, 14) from rfl) rfl (fun r24 S23 h => ?_)
              exact sh_ret_z (pc := 133) dX9_readOrder_133 rfl h.1 ⟨rfl, rfl⟩ h.2
            · have h := h.2 hc22
              refine sh_iconst (v := 0) (pc := 125) dX9_readOrder_125 rfl ?_
              exact sh_ret_z (pc := 126) dX9_readOrder_126 rfl rfl ⟨rfl, rfl⟩ h
          · have h := h.2 hc18
            refine sh_iconst (v := 0) (pc := 108) dX9_readOrder_108 rfl ?_
            exact sh_ret_z (pc := 109) dX9_readOrder_109 rfl rfl ⟨rfl, rfl⟩ h
      · have h := h.2 hc12
        refine sh_iconst (v := 0) (pc := 88) dX9_readOrder_88 rfl ?_
        exact sh_ret_z (pc := 89) dX9_readOrder_89 rfl rfl ⟨rfl, rfl⟩ h
    · have h := h.2 hc8
      refine sh_aload_n (pc := 53) dX9_readOrder_53 rfl ?_
      refine sh_gf (pc := 54) dX9_readOrder_54 fl_X9_228 cf_9 ok_9_0 rfl rfl ?_
      refine sh_bipush (v := 108) (pc := 57) dX9_readOrder_57 rfl ?_
      refine sh_icmp_eq (tgt := 73) (pc := 59) dX9_readOrder_59 (by decide) (fun hc25 => ?_) (fun hc25 => ?_)
      · have h := h.1 hc25
        refine sh_aload_n (pc := 73) dX9_readOrder_73 rfl ?_
        refine sh_aload_n (pc := 74) dX9_readOrder_74 rfl ?_
        refine sh_ci (N := mX9_number) (pc := 75) dX9_readOrder_75 ml_X9_240 h mf_X9_number iv_X9_number ⟨Nat.le_of_ble_eq_true rfl, Nat.le_of_ble_eq_true rfl⟩ rfl rfl (Nat.le_of_ble_eq_true rfl) ok_9_0 rfl (show vwCl[9]? = some (RX9, TX9, 14) from rfl) rfl (fun r27 S26 h => ?_)
        refine sh_pfi (pc := 78) dX9_readOrder_78 fl_X9_231 cf_9 ft_9_9 ok_9_0 rfl (Nat.le_of_ble_eq_true rfl) rfl ?_
        refine sh_topS (fun S28 hS28 => ?_)
        have h := h S28 hS28
        refine sh_aload_n (pc := 81) dX9_readOrder_81 rfl ?_
        refine sh_gf (pc := 82) dX9_readOrder_82 fl_X9_231 cf_9 ok_9_0 rfl rfl ?_
        refine sh_if_ge (tgt := 90) (pc := 85) dX9_readOrder_85 (by decide) (fun hc29 => ?_) (fun hc29 => ?_)
        · have h := h.1 hc29
          refine sh_aload_n (pc := 90) dX9_readOrder_90 rfl ?_
          refine sh_gf (pc := 91) dX9_readOrder_91 fl_X9_228 cf_9 ok_9_0 rfl rfl ?_
          refine sh_bipush (v := 98) (pc := 94) dX9_readOrder_94 rfl ?_
          refine sh_icmp_eq (tgt := 127) (pc := 96) dX9_readOrder_96 (by decide) (fun hc30 => ?_) (fun hc30 => ?_)
          · have h := h.1 hc30
            refine sh_aload_n (pc := 127) dX9_readOrder_127 rfl ?_
            refine sh_bipush (v := 59) (pc := 128) dX9_readOrder_128 rfl ?_
            refine sh_ci (N := mX9_passes) (pc := 130) dX9_readOrder_130 ml_X9_237 h mf_X9_passes iv_X9_passes ⟨Nat.le_of_ble_eq_true rfl, Nat.le_of_ble_eq_true rfl⟩ rfl rfl (Nat.le_of_ble_eq_true rfl) ok_9_0 rfl (show vwCl[9]? = some (RX9, TX9, 14) from rfl) rfl (fun r32 S31 h => ?_)
            exact sh_ret_z (pc := 133) dX9_readOrder_133 rfl h.1 ⟨rfl, rfl⟩ h.2
          · have h := h.2 hc30
            refine sh_aload_n (pc := 99) dX9_readOrder_99 rfl ?_
            refine sh_bipush (v := 44) (pc := 100) dX9_readOrder_100 rfl ?_
            refine sh_ci (N := mX9_passes) (pc := 102) dX9_readOrder_102 ml_X9_237 h mf_X9_passes iv_X9_passes ⟨Nat.le_of_ble_eq_true rfl, Nat.le_of_ble_eq_true rfl⟩ rfl rfl (Nat.le_of_ble_eq_true rfl) ok_9_0 rfl (show vwCl[9]? = some (RX9, TX9, 14) from rfl) rfl (fun r34 S33 h => ?_)
            refine sh_if_ne (tgt := 110) (pc := 105) dX9_readOrder_105 (by decide) (fun hc35 => ?_) (fun hc35 => ?_)
            · have h := h.1 hc35
              refine sh_aload_n (pc := 110) dX9_readOrder_110 rfl ?_
              refine sh_aload_n (pc := 111) dX9_readOrder_111 rfl ?_
              refine sh_ci (N := mX9_number) (pc := 112) dX9_readOrder_112 ml_X9_240 h mf_X9_number iv_X9_number ⟨Nat.le_of_ble_eq_true rfl, Nat.le_of_ble_eq_true rfl⟩ rfl rfl (Nat.le_of_ble_eq_true rfl) ok_9_0 rfl (show vwCl[9]? = some (RX9, TX9, 14) from rfl) rfl (fun r37 S36 h => ?_)
              refine sh_pfi (pc := 115) dX9_readOrder_115 fl_X9_234 cf_9 ft_9_10 ok_9_0 rfl (Nat.le_of_ble_eq_true rfl) rfl ?_
              refine sh_topS (fun S38 hS38 => ?_)
              have h := h S38 hS38
              refine sh_aload_n (pc := 118) dX9_readOrder_118 rfl ?_
              refine sh_gf (pc := 119) dX9_readOrder_119 fl_X9_234 cf_9 ok_9_0 rfl rfl ?_
              refine sh_if_ge (tgt := 127) (pc := 122) dX9_readOrder_122 (by decide) (fun hc39 => ?_) (fun hc39 => ?_)
              · have h := h.1 hc39
                refine sh_aload_n (pc := 127) dX9_readOrder_127 rfl ?_
                refine sh_bipush (v := 59) (pc := 128) dX9_readOrder_128 rfl ?_
                refine sh_ci (N := mX9_passes) (pc := 130) dX9_readOrder_130 ml_X9_237 h mf_X9_passes iv_X9_passes ⟨Nat.le_of_ble_eq_true rfl, Nat.le_of_ble_eq_true rfl⟩ rfl rfl (Nat.le_of_ble_eq_true rfl) ok_9_0 rfl (show vwCl[9]? = some (RX9, TX9, 14) from rfl) rfl (fun r41 S40 h => ?_)
                exact sh_ret_z (pc := 133) dX9_readOrder_133 rfl h.1 ⟨rfl, rfl⟩ h.2
              · have h := h.2 hc39
                refine sh_iconst (v := 0) (pc := 125) dX9_readOrder_125 rfl ?_
                exact sh_ret_z (pc := 126) dX9_readOrder_126 rfl rfl ⟨rfl, rfl⟩ h
            · have h := h.2 hc35
              refine sh_iconst (v := 0) (pc := 108) dX9_readOrder_108 rfl ?_
              exact sh_ret_z (pc := 109) dX9_readOrder_109 rfl rfl ⟨rfl, rfl⟩ h
        · have h := h.2 hc29
          refine sh_iconst (v := 0) (pc := 88) dX9_readOrder_88 rfl ?_
          exact sh_ret_z (pc := 89) dX9_readOrder_89 rfl rfl ⟨rfl, rfl⟩ h
      · have h := h.2 hc25
        refine sh_aload_n (pc := 62) dX9_readOrder_62 rfl ?_
        refine sh_gf (pc := 63) dX9_readOrder_63 fl_X9_228 cf_9 ok_9_0 rfl rfl ?_
        refine sh_bipush (v := 98) (pc := 66) dX9_readOrder_66 rfl ?_
        refine sh_icmp_eq (tgt := 73) (pc := 68) dX9_readOrder_68 (by decide) (fun hc42 => ?_) (fun hc42 => ?_)
        · have h := h.1 hc42
          refine sh_aload_n (pc := 73) dX9_readOrder_73 rfl ?_
          refine sh_aload_n (pc := 74) dX9_readOrder_74 rfl ?_
          refine sh_ci (N := mX9_number) (pc := 75) dX9_readOrder_75 ml_X9_240 h mf_X9_number iv_X9_number ⟨Nat.le_of_ble_eq_true rfl, Nat.le_of_ble_eq_true rfl⟩ rfl rfl (Nat.le_of_ble_eq_true rfl) ok_9_0 rfl (show vwCl[9]? = some (RX9, TX9, 14) from rfl) rfl (fun r44 S43 h => ?_)
          refine sh_pfi (pc := 78) dX9_readOrder_78 fl_X9_231 cf_9 ft_9_9 ok_9_0 rfl (Nat.le_of_ble_eq_true rfl) rfl ?_
          refine sh_topS (fun S45 hS45 => ?_)
          have h := h S45 hS45
          refine sh_aload_n (pc := 81) dX9_readOrder_81 rfl ?_
          refine sh_gf (pc := 82) dX9_readOrder_82 fl_X9_231 cf_9 ok_9_0 rfl rfl ?_
          refine sh_if_ge (tgt := 90) (pc := 85) dX9_readOrder_85 (by decide) (fun hc46 => ?_) (fun hc46 => ?_)
          · have h := h.1 hc46
            refine sh_aload_n (pc := 90) dX9_readOrder_90 rfl ?_
            refine sh_gf (pc := 91) dX9_readOrder_91 fl_X9_228 cf_9 ok_9_0 rfl rfl ?_
            refine sh_bipush (v := 98) (pc := 94) dX9_readOrder_94 rfl ?_
            refine sh_icmp_eq (tgt := 127) (pc := 96) dX9_readOrder_96 (by decide) (fun hc47 => ?_) (fun hc47 => ?_)
            · have h := h.1 hc47
              refine sh_aload_n (pc := 127) dX9_readOrder_127 rfl ?_
              refine sh_bipush (v := 59) (pc := 128) dX9_readOrder_128 rfl ?_
              refine sh_ci (N := mX9_passes) (pc := 130) dX9_readOrder_130 ml_X9_237 h mf_X9_passes iv_X9_passes ⟨Nat.le_of_ble_eq_true rfl, Nat.le_of_ble_eq_true rfl⟩ rfl rfl (Nat.le_of_ble_eq_true rfl) ok_9_0 rfl (show vwCl[9]? = some (RX9, TX9, 14) from rfl) rfl (fun r49 S48 h => ?_)
              exact sh_ret_z (pc := 133) dX9_readOrder_133 rfl h.1 ⟨rfl, rfl⟩ h.2
            · have h := h.2 hc47
              refine sh_aload_n (pc := 99) dX9_readOrder_99 rfl ?_
              refine sh_bipush (v := 44) (pc := 100) dX9_readOrder_100 rfl ?_
              refine sh_ci (N := mX9_passes) (pc := 102) dX9_readOrder_102 ml_X9_237 h mf_X9_passes iv_X9_passes ⟨Nat.le_of_ble_eq_true rfl, Nat.le_of_ble_eq_true rfl⟩ rfl rfl (Nat.le_of_ble_eq_true rfl) ok_9_0 rfl (show vwCl[9]? = some (RX9, TX9, 14) from rfl) rfl (fun r51 S50 h => ?_)
              refine sh_if_ne (tgt := 110) (pc := 105) dX9_readOrder_105 (by decide) (fun hc52 => ?_) (fun hc52 => ?_)
              · have h := h.1 hc52
                refine sh_aload_n (pc := 110) dX9_readOrder_110 rfl ?_
                refine sh_aload_n (pc := 111) dX9_readOrder_111 rfl ?_
                refine sh_ci (N := mX9_number) (pc := 112) dX9_readOrder_112 ml_X9_240 h mf_X9_number iv_X9_number ⟨Nat.le_of_ble_eq_true rfl, Nat.le_of_ble_eq_true rfl⟩ rfl rfl (Nat.le_of_ble_eq_true rfl) ok_9_0 rfl (show vwCl[9]? = some (RX9, TX9, 14) from rfl) rfl (fun r54 S53 h => ?_)
                refine sh_pfi (pc := 115) dX9_readOrder_115 fl_X9_234 cf_9 ft_9_10 ok_9_0 rfl (Nat.le_of_ble_eq_true rfl) rfl ?_
                refine sh_topS (fun S55 hS55 => ?_)
                have h := h S55 hS55
                refine sh_aload_n (pc := 118) dX9_readOrder_118 rfl ?_
                refine sh_gf (pc := 119) dX9_readOrder_119 fl_X9_234 cf_9 ok_9_0 rfl rfl ?_
                refine sh_if_ge (tgt := 127) (pc := 122) dX9_readOrder_122 (by decide) (fun hc56 => ?_) (fun hc56 => ?_)
                · have h := h.1 hc56
                  refine sh_aload_n (pc := 127) dX9_readOrder_127 rfl ?_
                  refine sh_bipush (v := 59) (pc := 128) dX9_readOrder_128 rfl ?_
                  refine sh_ci (N := mX9_passes) (pc := 130) dX9_readOrder_130 ml_X9_237 h mf_X9_passes iv_X9_passes ⟨Nat.le_of_ble_eq_true rfl, Nat.le_of_ble_eq_true rfl⟩ rfl rfl (Nat.le_of_ble_eq_true rfl) ok_9_0 rfl (show vwCl[9]? = some (RX9, TX9, 14) from rfl) rfl (fun r58 S57 h => ?_)
                  exact sh_ret_z (pc := 133) dX9_readOrder_133 rfl h.1 ⟨rfl, rfl⟩ h.2
                · have h := h.2 hc56
                  refine sh_iconst (v := 0) (pc := 125) dX9_readOrder_125 rfl ?_
                  exact sh_ret_z (pc := 126) dX9_readOrder_126 rfl rfl ⟨rfl, rfl⟩ h
              · have h := h.2 hc52
                refine sh_iconst (v := 0) (pc := 108) dX9_readOrder_108 rfl ?_
                exact sh_ret_z (pc := 109) dX9_readOrder_109 rfl rfl ⟨rfl, rfl⟩ h
          · have h := h.2 hc46
            refine sh_iconst (v := 0) (pc := 88) dX9_readOrder_88 rfl ?_
            exact sh_ret_z (pc := 89) dX9_readOrder_89 rfl rfl ⟨rfl, rfl⟩ h
        · have h := h.2 hc42
          refine sh_iconst (v := 0) (pc := 71) dX9_readOrder_71 rfl ?_
          exact sh_ret_z (pc := 72) dX9_readOrder_72 rfl rfl ⟨rfl, rfl⟩ h
  · have h := h.2 hc7
    refine sh_aload_n (pc := 37) dX9_readOrder_37 rfl ?_
    refine sh_bipush (v := 59) (pc := 38) dX9_readOrder_38 rfl ?_
    refine sh_ci (N := mX9_passes) (pc := 40) dX9_readOrder_40 ml_X9_237 h mf_X9_passes iv_X9_passes ⟨Nat.le_of_ble_eq_true rfl, Nat.le_of_ble_eq_true rfl⟩ rfl rfl (Nat.le_of_ble_eq_true rfl) ok_9_0 rfl (show vwCl[9]? = some (RX9, TX9, 14) from rfl) rfl (fun r60 S59 h => ?_)
    exact sh_ret_z (pc := 43) dX9_readOrder_43 rfl h.1 ⟨rfl, rfl⟩ h.2

set_option maxRecDepth 100000 in
set_option maxHeartbeats 4000000 in
theorem wp_X9_does {g : sh_G} {S : sh_S} {sz : Nat} {Q : Int32 → sh_S → Prop} 
    (h : (((S (9, 0, 0) 11) = 98 → (sh_Ci g mX9_noReturn [sh_R (9, 0, 0), sh_I (S (9, 0, 0) 9)] S sz (fun r3 S2 => ((¬ r3 = 0 → Q r3 S2) ∧ (r3 = 0 → (sh_Ci g mX9_returned [sh_R (9, 0, 0), sh_I (S2 (9, 0, 0) 9)] S2 sz (fun r6 S5 => Q r3 S5))))))) ∧ (¬ (S (9, 0, 0) 11) = 98 → (((S (9, 0, 0) 11) = 103 → (sh_Ci g mX9_noGift [sh_R (9, 0, 0), sh_I (S (9, 0, 0) 9), sh_I (S (9, 0, 0) 10)] S sz (fun r9 S8 => ((¬ r9 = 0 → Q r9 S8) ∧ (r9 = 0 → (sh_Cu g mX9_gains [sh_R (9, 0, 0), sh_I (S8 (9, 0, 0) 9), sh_I (S8 (9, 0, 0) 10), sh_I 1] S8 sz (fun S11 => Q r9 S11))))))) ∧ (¬ (S (9, 0, 0) 11) = 103 → (((S (9, 0, 0) 11) = 108 → (sh_Ci g mX9_noLoan [sh_R (9, 0, 0), sh_I (S (9, 0, 0) 9), sh_I (S (9, 0, 0) 10)] S sz (fun r14 S13 => ((¬ r14 = 0 → Q r14 S13) ∧ (r14 = 0 → (sh_Cu g mX9_borrows [sh_R (9, 0, 0), sh_I (S13 (9, 0, 0) 9), sh_I (S13 (9, 0, 0) 10)] S13 sz (fun S16 => Q r14 S16))))))) ∧ (¬ (S (9, 0, 0) 11) = 108 → (sh_Ci g mX9_whoSharpens [sh_R (9, 0, 0)] S sz (fun r18 S17 => (sh_Ci g mX9_dullest [sh_R (9, 0, 0)] S17 sz (fun r20 S19 => ((r18 < 0 → Q 3 S19) ∧ (¬ r18 < 0 → (sh_Ci g mX9_isDull [sh_R (9, 0, 0), sh_I r20] S19 sz (fun r24 S23 => ((¬ r24 = 0 → (sh_Cu g mX9_sharpens [sh_R (9, 0, 0), sh_I r18, sh_I r20] S23 sz (fun S27 => Q 0 S27))) ∧ (r24 = 0 → Q 3 S23))))))))))))))))) :
    sh_Ci g mX9_does [sh_R (9, 0, 0)] S sz Q := by
  refine sh_enter (ls := [(0, sh_R (9, 0, 0))]) (by decide +kernel) (Nat.le_of_ble_eq_true rfl) rfl ?_
  refine sh_iconst (v := 0) (pc := 0) dX9_does_0 rfl ?_
  refine sh_istore_n (ls' := [(1, sh_I 0), (0, sh_R (9, 0, 0))]) (pc := 1) dX9_does_1 (by decide) rfl ?_
  refine sh_aload_n (pc := 2) dX9_does_2 rfl ?_
  refine sh_gf (pc := 3) dX9_does_3 fl_X9_228 cf_9 ok_9_0 rfl rfl ?_
  by_cases hc1 : (S (9, 0, 0) 11) = 98
  · have h := h.1 hc1
    refine sh_lsw (pc := 6) (tgt := 103) dX9_does_6 (by decide) (by rw [hc1]) (by decide) ?_
    refine sh_aload_n (pc := 103) dX9_does_103 rfl ?_
    refine sh_aload_n (pc := 104) dX9_does_104 rfl ?_
    refine sh_gf (pc := 105) dX9_does_105 fl_X9_231 cf_9 ok_9_0 rfl rfl ?_
    refine sh_ci (N := mX9_noReturn) (pc := 108) dX9_does_108 ml_X9_156 h mf_X9_noReturn iv_X9_noReturn ⟨Nat.le_of_ble_eq_true rfl, Nat.le_of_ble_eq_true rfl⟩ rfl rfl (Nat.le_of_ble_eq_true rfl) ok_9_0 rfl (show vwCl[9]? = some (RX9, TX9, 14) from rfl) rfl (fun r3 S2 h => ?_)
    refine sh_istore_n (ls' := [(1, sh_I r3), (0, sh_R (9, 0, 0))]) (pc := 111) dX9_does_111 (by decide) rfl ?_
    refine sh_iload_n (pc := 112) dX9_does_112 rfl ?_
    refine sh_if_ne (tgt := 125) (pc := 113) dX9_does_113 (by decide) (fun hc4 => ?_) (fun hc4 => ?_)
    · have h := h.1 hc4
      refine sh_iload_n (pc := 125) dX9_does_125 rfl ?_
      exact sh_ret_i (pc := 126) dX9_does_126 rfl ⟨rfl, rfl⟩ h
    · have h := h.2 hc4
      refine sh_aload_n (pc := 116) dX9_does_116 rfl ?_
      refine sh_aload_n (pc := 117) dX9_does_117 rfl ?_
      refine sh_gf (pc := 118) dX9_does_118 fl_X9_231 cf_9 ok_9_0 rfl rfl ?_
      refine sh_ci (N := mX9_returned) (pc := 121) dX9_does_121 ml_X9_159 h mf_X9_returned iv_X9_returned ⟨Nat.le_of_ble_eq_true rfl, Nat.le_of_ble_eq_true rfl⟩ rfl rfl (Nat.le_of_ble_eq_true rfl) ok_9_0 rfl (show vwCl[9]? = some (RX9, TX9, 14) from rfl) rfl (fun r6 S5 h => ?_)
      refine sh_istore_n (ls' := [(2, sh_I r6), (1, sh_I r3), (0, sh_R (9, 0, 0))]) (pc := 124) dX9_does_124 (by decide) rfl ?_
      refine sh_iload_n (pc := 125) dX9_does_125 rfl ?_
      exact sh_ret_i (pc := 126) dX9_does_126 rfl ⟨rfl, rfl⟩ h
  · have h := h.2 hc1
    by_cases hc7 : (S (9, 0, 0) 11) = 103
    · have h := h.1 hc7
      refine sh_lsw (pc := 6) (tgt := 40) dX9_does_6 (by decide) (by rw [hc7]) (by decide) ?_
      refine sh_aload_n (pc := 40) dX9_does_40 rfl ?_
      refine sh_aload_n (pc := 41) dX9_does_41 rfl ?_
      refine sh_gf (pc := 42) dX9_does_42 fl_X9_231 cf_9 ok_9_0 rfl rfl ?_
      refine sh_aload_n (pc := 45) dX9_does_45 rfl ?_
      refine sh_gf (pc := 46) dX9_does_46 fl_X9_234 cf_9 ok_9_0 rfl rfl ?_
      refine sh_ci (N := mX9_noGift) (pc := 49) dX9_does_49 ml_X9_105 h mf_X9_noGift iv_X9_noGift ⟨Nat.le_of_ble_eq_true rfl, Nat.le_of_ble_eq_true rfl⟩ rfl rfl (Nat.le_of_ble_eq_true rfl) ok_9_0 rfl (show vwCl[9]? = some (RX9, TX9, 14) from rfl) rfl (fun r9 S8 h => ?_)
      refine sh_istore_n (ls' := [(1, sh_I r9), (0, sh_R (9, 0, 0))]) (pc := 52) dX9_does_52 (by decide) rfl ?_
      refine sh_iload_n (pc := 53) dX9_does_53 rfl ?_
      refine sh_if_ne (tgt := 70) (pc := 54) dX9_does_54 (by decide) (fun hc10 => ?_) (fun hc10 => ?_)
      · have h := h.1 hc10
        refine sh_iload_n (pc := 70) dX9_does_70 rfl ?_
        exact sh_ret_i (pc := 71) dX9_does_71 rfl ⟨rfl, rfl⟩ h
      · have h := h.2 hc10
        refine sh_aload_n (pc := 57) dX9_does_57 rfl ?_
        refine sh_aload_n (pc := 58) dX9_does_58 rfl ?_
        refine sh_gf (pc := 59) dX9_does_59 fl_X9_231 cf_9 ok_9_0 rfl rfl ?_
        refine sh_aload_n (pc := 62) dX9_does_62 rfl ?_
        refine sh_gf (pc := 63) dX9_does_63 fl_X9_234 cf_9 ok_9_0 rfl rfl ?_
        refine sh_iconst (v := 1) (pc := 66) dX9_does_66 rfl ?_
        refine sh_cu (N := mX9_gains) (pc := 67) dX9_does_67 ml_X9_58 h mf_X9_gains iv_X9_gains ⟨Nat.le_of_ble_eq_true rfl, Nat.le_of_ble_eq_true rfl⟩ rfl rfl (Nat.le_of_ble_eq_true rfl) ok_9_0 rfl (show vwCl[9]? = some (RX9, TX9, 14) from rfl) rfl (fun S11 h => ?_)
        refine sh_iload_n (pc := 70) dX9_does_70 rfl ?_
        exact sh_ret_i (pc := 71) dX9_does_71 rfl ⟨rfl, rfl⟩ h
    · have h := h.2 hc7
      by_cases hc12 : (S (9, 0, 0) 11) = 108
      · have h := h.1 hc12
        refine sh_lsw (pc := 6) (tgt := 72) dX9_does_6 (by decide) (by rw [hc12]) (by decide) ?_
        refine sh_aload_n (pc := 72) dX9_does_72 rfl ?_
        refine sh_aload_n (pc := 73) dX9_does_73 rfl ?_
        refine sh_gf (pc := 74) dX9_does_74 fl_X9_231 cf_9 ok_9_0 rfl rfl ?_
        refine sh_aload_n (pc := 77) dX9_does_77 rfl ?_
        refine sh_gf (pc := 78) dX9_does_78 fl_X9_234 cf_9 ok_9_0 rfl rfl ?_
        refine sh_ci (N := mX9_noLoan) (pc := 81) dX9_does_81 ml_X9_142 h mf_X9_noLoan iv_X9_noLoan ⟨Nat.le_of_ble_eq_true rfl, Nat.le_of_ble_eq_true rfl⟩ rfl rfl (Nat.le_of_ble_eq_true rfl) ok_9_0 rfl (show vwCl[9]? = some (RX9, TX9, 14) from rfl) rfl (fun r14 S13 h => ?_)
        refine sh_istore_n (ls' := [(1, sh_I r14), (0, sh_R (9, 0, 0))]) (pc := 84) dX9_does_84 (by decide) rfl ?_
        refine sh_iload_n (pc := 85) dX9_does_85 rfl ?_
        refine sh_if_ne (tgt := 101) (pc := 86) dX9_does_86 (by decide) (fun hc15 => ?_) (fun hc15 => ?_)
        · have h := h.1 hc15
          refine sh_iload_n (pc := 101) dX9_does_101 rfl ?_
          exact sh_ret_i (pc := 102) dX9_does_102 rfl ⟨rfl, rfl⟩ h
        · have h := h.2 hc15
          refine sh_aload_n (pc := 89) dX9_does_89 rfl ?_
          refine sh_aload_n (pc := 90) dX9_does_90 rfl ?_
          refine sh_gf (pc := 91) dX9_does_91 fl_X9_231 cf_9 ok_9_0 rfl rfl ?_
          refine sh_aload_n (pc := 94) dX9_does_94 rfl ?_
          refine sh_gf (pc := 95) dX9_does_95 fl_X9_234 cf_9 ok_9_0 rfl rfl ?_
          refine sh_cu (N := mX9_borrows) (pc := 98) dX9_does_98 ml_X9_145 h mf_X9_borrows iv_X9_borrows ⟨Nat.le_of_ble_eq_true rfl, Nat.le_of_ble_eq_true rfl⟩ rfl rfl (Nat.le_of_ble_eq_true rfl) ok_9_0 rfl (show vwCl[9]? = some (RX9, TX9, 14) from rfl) rfl (fun S16 h => ?_)
          refine sh_iload_n (pc := 101) dX9_does_101 rfl ?_
          exact sh_ret_i (pc := 102) dX9_does_102 rfl ⟨rfl, rfl⟩ h
      · have h := h.2 hc12
        refine sh_lsw (pc := 6) (tgt := 127) dX9_does_6 (by decide) (show Op.lookupswitch.offset [(98, 97), (103, 34), (108, 66)] 121 ((S (9, 0, 0) 11) : Int32).toInt = 121 by rw [lv_osw (k := 98) (a := 98) hc1 (by decide), lv_osw (k := 103) (a := 103) hc7 (by decide), lv_osw (k := 108) (a := 108) hc12 (by decide)]; rfl) (by decide) ?_
        refine sh_aload_n (pc := 127) dX9_does_127 rfl ?_
        refine sh_ci (N := mX9_whoSharpens) (pc := 128) dX9_does_128 ml_X9_176 h mf_X9_whoSharpens iv_X9_whoSharpens ⟨Nat.le_of_ble_eq_true rfl, Nat.le_of_ble_eq_true rfl⟩ rfl rfl (Nat.le_of_ble_eq_true rfl) ok_9_0 rfl (show vwCl[9]? = some (RX9, TX9, 14) from rfl) rfl (fun r18 S17 h => ?_)
        refine sh_istore_n (ls' := [(2, sh_I r18), (1, sh_I 0), (0, sh_R (9, 0, 0))]) (pc := 131) dX9_does_131 (by decide) rfl ?_
        refine sh_aload_n (pc := 132) dX9_does_132 rfl ?_
        refine sh_ci (N := mX9_dullest) (pc := 133) dX9_does_133 ml_X9_180 h mf_X9_dullest iv_X9_dullest ⟨Nat.le_of_ble_eq_true rfl, Nat.le_of_ble_eq_true rfl⟩ rfl rfl (Nat.le_of_ble_eq_true rfl) ok_9_0 rfl (show vwCl[9]? = some (RX9, TX9, 14) from rfl) rfl (fun r20 S19 h => ?_)
        refine sh_istore_n (ls' := [(3, sh_I r20), (2, sh_I r18), (1, sh_I 0), (0, sh_R (9, 0, 0))]) (pc := 136) dX9_does_136 (by decide) rfl ?_
        refine sh_iload_n (pc := 137) dX9_does_137 rfl ?_
        refine sh_if_lt (tgt := 149) (pc := 138) dX9_does_138 (by decide) (fun hc21 => ?_) (fun hc21 => ?_)
        · have h := h.1 hc21
          refine sh_iconst (v := 3) (pc := 149) dX9_does_149 rfl ?_
          refine sh_goto (tgt := 154) (pc := 150) dX9_does_150 (by decide) ?_
          refine sh_istore_n (ls' := [(1, sh_I 3), (3, sh_I r20), (2, sh_I r18), (0, sh_R (9, 0, 0))]) (pc := 154) dX9_does_154 (by decide) rfl ?_
          refine sh_iload_n (pc := 155) dX9_does_155 rfl ?_
          refine sh_if_ne (tgt := 165) (pc := 156) dX9_does_156 (by decide) (fun hc22 => ?_) (fun hc22 => ?_)
          · skip
            refine sh_iload_n (pc := 165) dX9_does_165 rfl ?_
            exact sh_ret_i (pc := 166) dX9_does_166 rfl ⟨rfl, rfl⟩ h
          · exact absurd hc22 (by decide)
        · have h := h.2 hc21
          refine sh_aload_n (pc := 141) dX9_does_141 rfl ?_
          refine sh_iload_n (pc := 142) dX9_does_142 rfl ?_
          refine sh_ci (N := mX9_isDull) (pc := 143) dX9_does_143 ml_X9_183 h mf_X9_isDull iv_X9_isDull ⟨Nat.le_of_ble_eq_true rfl, Nat.le_of_ble_eq_true rfl⟩ rfl rfl (Nat.le_of_ble_eq_true rfl) ok_9_0 rfl (show vwCl[9]? = some (RX9, TX9, 14) from rfl) rfl (fun r24 S23 h => ?_)
          refine sh_if_ne (tgt := 153) (pc := 146) dX9_does_146 (by decide) (fun hc25 => ?_) (fun hc25 => ?_)
          · have h := h.1 hc25
            refine sh_iconst (v := 0) (pc := 153) dX9_does_153 rfl ?_
            refine sh_istore_n (ls' := [(1, sh_I 0), (3, sh_I r20), (2, sh_I r18), (0, sh_R (9, 0, 0))]) (pc := 154) dX9_does_154 (by decide) rfl ?_
            refine sh_iload_n (pc := 155) dX9_does_155 rfl ?_
            refine sh_if_ne (tgt := 165) (pc := 156) dX9_does_156 (by decide) (fun hc26 => ?_) (fun hc26 => ?_)
            · exact absurd hc26 (by decide)
            · skip
              refine sh_aload_n (pc := 159) dX9_does_159 rfl ?_
              refine sh_iload_n (pc := 160) dX9_does_160 rfl ?_
              refine sh_iload_n (pc := 161) dX9_does_161 rfl ?_
              refine sh_cu (N := mX9_sharpens) (pc := 162) dX9_does_162 ml_X9_186 h mf_X9_sharpens iv_X9_sharpens ⟨Nat.le_of_ble_eq_true rfl, Nat.le_of_ble_eq_true rfl⟩ rfl rfl (Nat.le_of_ble_eq_true rfl) ok_9_0 rfl (show vwCl[9]? = some (RX9, TX9, 14) from rfl) rfl (fun S27 h => ?_)
              refine sh_iload_n (pc := 165) dX9_does_165 rfl ?_
              exact sh_ret_i (pc := 166) dX9_does_166 rfl ⟨rfl, rfl⟩ h
          · have h := h.2 hc25
            refine sh_iconst (v := 3) (pc := 149) dX9_does_149 rfl ?_
            refine sh_goto (tgt := 154) (pc := 150) dX9_does_150 (by decide) ?_
            refine sh_istore_n (ls' := [(1, sh_I 3), (3, sh_I r20), (2, sh_I r18), (0, sh_R (9, 0, 0))]) (pc := 154) dX9_does_154 (by decide) rfl ?_
            refine sh_iload_n (pc := 155) dX9_does_155 rfl ?_
            refine sh_if_ne (tgt := 165) (pc := 156) dX9_does_156 (by decide) (fun hc28 => ?_) (fun hc28 => ?_)
            · skip
              refine sh_iload_n (pc := 165) dX9_does_165 rfl ?_
              exact sh_ret_i (pc := 166) dX9_does_166 rfl ⟨rfl, rfl⟩ h
            · exact absurd hc28 (by decide)

set_option maxRecDepth 100000 in
set_option maxHeartbeats 4000000 in
theorem wp_X9_runs {g : sh_G} {S : sh_S} {sz : Nat} {Q : Int32 → sh_S → Prop} 
    (h : (∀ S1 : sh_S, S1 = sh_sr S (9, 0, 0) (upd (S (9, 0, 0)) 8 0) → (∀ S2 : sh_S, S2 = sh_sr S1 (9, 0, 0) (upd (S1 (9, 0, 0)) 12 0) → (∃ (Iv3 : sh_S → Prop) (mu3 : sh_S → Nat), Iv3 S2 ∧ ∀ (S4 : sh_S), Iv3 S4 → (((S4 (9, 0, 0) 6) ≤ (S4 (9, 0, 0) 8) → Q (-1000004) S4) ∧ (¬ (S4 (9, 0, 0) 6) ≤ (S4 (9, 0, 0) 8) → (∀ x6 : Int32, x6 = (S4 (9, 0, 0) 8) → (sh_Ci g mX9_readOrder [sh_R (9, 0, 0)] S4 sz (fun r8 S7 => ((r8 = 0 → (∀ S10 : sh_S, S10 = sh_sr S7 (9, 0, 0) (upd (S7 (9, 0, 0)) 13 1) → (((S10 (9, 0, 0) 13) = 0 → (∀ S12 : sh_S, S12 = sh_sr S10 (9, 0, 0) (upd (S10 (9, 0, 0)) 12 (((S10 (9, 0, 0) 12) + 1))) → (Iv3 S12 ∧ mu3 S12 < mu3 S4))) ∧ (¬ (S10 (9, 0, 0) 13) = 0 → Q x6 S10)))) ∧ (¬ r8 = 0 → (sh_Ci g mX9_does [sh_R (9, 0, 0)] S7 sz (fun r14 S13 => (∀ S15 : sh_S, S15 = sh_sr S13 (9, 0, 0) (upd (S13 (9, 0, 0)) 13 r14) → (((S15 (9, 0, 0) 13) = 0 → (∀ S17 : sh_S, S17 = sh_sr S15 (9, 0, 0) (upd (S15 (9, 0, 0)) 12 (((S15 (9, 0, 0) 12) + 1))) → (Iv3 S17 ∧ mu3 S17 < mu3 S4))) ∧ (¬ (S15 (9, 0, 0) 13) = 0 → Q x6 S15)))))))))))))))) :
    sh_Ci g mX9_runs [sh_R (9, 0, 0)] S sz Q := by
  refine sh_enter (ls := [(0, sh_R (9, 0, 0))]) (by decide +kernel) (Nat.le_of_ble_eq_true rfl) rfl ?_
  refine sh_aload_n (pc := 0) dX9_runs_0 rfl ?_
  refine sh_iconst (v := 0) (pc := 1) dX9_runs_1 rfl ?_
  refine sh_pfi (pc := 2) dX9_runs_2 fl_X9_222 cf_9 ft_9_8 ok_9_0 rfl (Nat.le_of_ble_eq_true rfl) rfl ?_
  refine sh_topS (fun S1 hS1 => ?_)
  have h := h S1 hS1
  refine sh_aload_n (pc := 5) dX9_runs_5 rfl ?_
  refine sh_iconst (v := 0) (pc := 6) dX9_runs_6 rfl ?_
  refine sh_pfi (pc := 7) dX9_runs_7 fl_X9_243 cf_9 ft_9_12 ok_9_0 rfl (Nat.le_of_ble_eq_true rfl) rfl ?_
  refine sh_topS (fun S2 hS2 => ?_)
  have h := h S2 hS2
  obtain ⟨Iv3, mu3, h0, hs3⟩ := h
  refine sh_pick [0] rfl ?_
  refine sh_lp1 Iv3 mu3 (fun S4 => sh_V g mX9_runs 0 0 10 [(0, sh_R (9, 0, 0))] [] (sh_St S4) sz (sh_ti sz Q)) (fun S4 hI3 ih3 => ?_) _ h0
  have h := hs3 S4 hI3
  clear h0
  refine sh_aload_n (pc := 10) dX9_runs_10 rfl ?_
  refine sh_gf (pc := 11) dX9_runs_11 fl_X9_222 cf_9 ok_9_0 rfl rfl ?_
  refine sh_aload_n (pc := 14) dX9_runs_14 rfl ?_
  refine sh_gf (pc := 15) dX9_runs_15 fl_X9_219 cf_9 ok_9_0 rfl rfl ?_
  refine sh_icmp_ge (tgt := 67) (pc := 18) dX9_runs_18 (by decide) (fun hc5 => ?_) (fun hc5 => ?_)
  · have h := h.1 hc5
    refine sh_ldc (v := (-1000004)) (pc := 67) dX9_runs_67 kc_X9_33 ?_
    exact sh_ret_i (pc := 69) dX9_runs_69 rfl ⟨rfl, rfl⟩ h
  · have h := h.2 hc5
    refine sh_aload_n (pc := 21) dX9_runs_21 rfl ?_
    refine sh_gf (pc := 22) dX9_runs_22 fl_X9_222 cf_9 ok_9_0 rfl rfl ?_
    refine sh_topI (fun x6 hx6 => ?_)
    have h := h x6 hx6
    refine sh_istore_n (ls' := [(1, sh_I x6), (0, sh_R (9, 0, 0))]) (pc := 25) dX9_runs_25 (by decide) rfl ?_
    refine sh_aload_n (pc := 26) dX9_runs_26 rfl ?_
    refine sh_aload_n (pc := 27) dX9_runs_27 rfl ?_
    refine sh_ci (N := mX9_readOrder) (pc := 28) dX9_runs_28 ml_X9_246 h mf_X9_readOrder iv_X9_readOrder ⟨Nat.le_of_ble_eq_true rfl, Nat.le_of_ble_eq_true rfl⟩ rfl rfl (Nat.le_of_ble_eq_true rfl) ok_9_0 rfl (show vwCl[9]? = some (RX9, TX9, 14) from rfl) rfl (fun r8 S7 h => ?_)
    refine sh_if_eq (tgt := 41) (pc := 31) dX9_runs_31 (by decide) (fun hc9 => ?_) (fun hc9 => ?_)
    · have h := h.1 hc9
      refine sh_iconst (v := 1) (pc := 41) dX9_runs_41 rfl ?_
      refine sh_pfi (pc := 42) dX9_runs_42 fl_X9_253 cf_9 ft_9_13 ok_9_0 rfl (Nat.le_of_ble_eq_true rfl) rfl ?_
      refine sh_topS (fun S10 hS10 => ?_)
      have h := h S10 hS10
      refine sh_aload_n (pc := 45) dX9_runs_45 rfl ?_
      refine sh_gf (pc := 46) dX9_runs_46 fl_X9_253 cf_9 ok_9_0 rfl rfl ?_
      refine sh_if_eq (tgt := 54) (pc := 49) dX9_runs_49 (by decide) (fun hc11 => ?_) (fun hc11 => ?_)
      · have h := h.1 hc11
        refine sh_aload_n (pc := 54) dX9_runs_54 rfl ?_
        refine sh_dup (pc := 55) dX9_runs_55 rfl ?_
        refine sh_gf (pc := 56) dX9_runs_56 fl_X9_243 cf_9 ok_9_0 rfl rfl ?_
        refine sh_iconst (v := 1) (pc := 59) dX9_runs_59 rfl ?_
        refine sh_iadd (pc := 60) dX9_runs_60 ?_
        refine sh_pfi (pc := 61) dX9_runs_61 fl_X9_243 cf_9 ft_9_12 ok_9_0 rfl (Nat.le_of_ble_eq_true rfl) rfl ?_
        refine sh_topS (fun S12 hS12 => ?_)
        have h := h S12 hS12
        refine sh_goto (tgt := 10) (pc := 64) dX9_runs_64 (by decide) ?_
        refine sh_pick [1] rfl ?_
        exact ih3 _ h.1 h.2
      · have h := h.2 hc11
        refine sh_iload_n (pc := 52) dX9_runs_52 rfl ?_
        exact sh_ret_i (pc := 53) dX9_runs_53 rfl ⟨rfl, rfl⟩ h
    · have h := h.2 hc9
      refine sh_aload_n (pc := 34) dX9_runs_34 rfl ?_
      refine sh_ci (N := mX9_does) (pc := 35) dX9_runs_35 ml_X9_250 h mf_X9_does iv_X9_does ⟨Nat.le_of_ble_eq_true rfl, Nat.le_of_ble_eq_true rfl⟩ rfl rfl (Nat.le_of_ble_eq_true rfl) ok_9_0 rfl (show vwCl[9]? = some (RX9, TX9, 14) from rfl) rfl (fun r14 S13 h => ?_)
      refine sh_goto (tgt := 42) (pc := 38) dX9_runs_38 (by decide) ?_
      refine sh_pfi (pc := 42) dX9_runs_42 fl_X9_253 cf_9 ft_9_13 ok_9_0 rfl (Nat.le_of_ble_eq_true rfl) rfl ?_
      refine sh_topS (fun S15 hS15 => ?_)
      have h := h S15 hS15
      refine sh_aload_n (pc := 45) dX9_runs_45 rfl ?_
      refine sh_gf (pc := 46) dX9_runs_46 fl_X9_253 cf_9 ok_9_0 rfl rfl ?_
      refine sh_if_eq (tgt := 54) (pc := 49) dX9_runs_49 (by decide) (fun hc16 => ?_) (fun hc16 => ?_)
      · have h := h.1 hc16
        refine sh_aload_n (pc := 54) dX9_runs_54 rfl ?_
        refine sh_dup (pc := 55) dX9_runs_55 rfl ?_
        refine sh_gf (pc := 56) dX9_runs_56 fl_X9_243 cf_9 ok_9_0 rfl rfl ?_
        refine sh_iconst (v := 1) (pc := 59) dX9_runs_59 rfl ?_
        refine sh_iadd (pc := 60) dX9_runs_60 ?_
        refine sh_pfi (pc := 61) dX9_runs_61 fl_X9_243 cf_9 ft_9_12 ok_9_0 rfl (Nat.le_of_ble_eq_true rfl) rfl ?_
        refine sh_topS (fun S17 hS17 => ?_)
        have h := h S17 hS17
        refine sh_goto (tgt := 10) (pc := 64) dX9_runs_64 (by decide) ?_
        refine sh_pick [1] rfl ?_
        exact ih3 _ h.1 h.2
      · have h := h.2 hc16
        refine sh_iload_n (pc := 52) dX9_runs_52 rfl ?_
        exact sh_ret_i (pc := 53) dX9_runs_53 rfl ⟨rfl, rfl⟩ h

set_option maxRecDepth 100000 in
set_option maxHeartbeats 4000000 in
theorem wp_X9_fault {g : sh_G} {S : sh_S} {sz : Nat} {Q : Int32 → sh_S → Prop} {a1 : Int32} 
    (h : (sh_Ci g mX9_in [sh_I a1, sh_I 0, sh_I 1] S sz (fun r2 S1 => ((¬ r2 = 0 → (sh_Cu g mX9_bring [sh_R (19, 0, 0), sh_I 0, sh_R (21, 0, 0), sh_I 0] S1 sz (fun S4 => (sh_Ci g mX9_runs [sh_R (9, 0, 0)] S4 sz (fun r6 S5 => (sh_Cu g mX9_bring [sh_R (21, 0, 0), sh_I 0, sh_R (19, 0, 0), sh_I 0] S5 sz (fun S7 => ((r6 < 0 → Q r6 S7) ∧ (¬ r6 < 0 → ((¬ a1 = 0 → Q (S7 (9, 0, 0) 13) S7) ∧ (a1 = 0 → Q r6 S7))))))))))) ∧ (r2 = 0 → Q (-1000001) S1))))) :
    sh_Ci g mX9_fault [sh_R (9, 0, 0), sh_I a1] S sz Q := by
  refine sh_enter (ls := [(0, sh_R (9, 0, 0)), (1, sh_I a1)]) (by decide +kernel) (Nat.le_of_ble_eq_true rfl) rfl ?_
  refine sh_iload_n (pc := 0) dX9_fault_0 rfl ?_
  refine sh_iconst (v := 0) (pc := 1) dX9_fault_1 rfl ?_
  refine sh_iconst (v := 1) (pc := 2) dX9_fault_2 rfl ?_
  refine sh_si (N := mX9_in) (pc := 3) dX9_fault_3 ml_X9_38 h mf_X9_in is_X9_in ⟨Nat.le_of_ble_eq_true rfl, Nat.le_of_ble_eq_true rfl⟩ rfl rfl (Nat.le_of_ble_eq_true rfl) (fun r2 S1 h => ?_)
  refine sh_if_ne (tgt := 12) (pc := 6) dX9_fault_6 (by decide) (fun hc3 => ?_) (fun hc3 => ?_)
  · have h := h.1 hc3
    refine sh_aload_n (pc := 12) dX9_fault_12 rfl ?_
    refine sh_gf (pc := 13) dX9_fault_13 fl_X9_7 cf_9 ok_9_0 rfl rfl ?_
    refine sh_iconst (v := 0) (pc := 16) dX9_fault_16 rfl ?_
    refine sh_aload_n (pc := 17) dX9_fault_17 rfl ?_
    refine sh_gf (pc := 18) dX9_fault_18 fl_X9_16 cf_9 ok_9_0 rfl rfl ?_
    refine sh_iconst (v := 0) (pc := 21) dX9_fault_21 rfl ?_
    refine sh_su (N := mX9_bring) (pc := 22) dX9_fault_22 ml_X9_28 h mf_X9_bring is_X9_bring ⟨Nat.le_of_ble_eq_true rfl, Nat.le_of_ble_eq_true rfl⟩ rfl rfl (Nat.le_of_ble_eq_true rfl) (fun S4 h => ?_)
    refine sh_aload_n (pc := 25) dX9_fault_25 rfl ?_
    refine sh_ci (N := mX9_runs) (pc := 26) dX9_fault_26 ml_X9_256 h mf_X9_runs iv_X9_runs ⟨Nat.le_of_ble_eq_true rfl, Nat.le_of_ble_eq_true rfl⟩ rfl rfl (Nat.le_of_ble_eq_true rfl) ok_9_0 rfl (show vwCl[9]? = some (RX9, TX9, 14) from rfl) rfl (fun r6 S5 h => ?_)
    refine sh_istore_n (ls' := [(2, sh_I r6), (0, sh_R (9, 0, 0)), (1, sh_I a1)]) (pc := 29) dX9_fault_29 (by decide) rfl ?_
    refine sh_aload_n (pc := 30) dX9_fault_30 rfl ?_
    refine sh_gf (pc := 31) dX9_fault_31 fl_X9_16 cf_9 ok_9_0 rfl rfl ?_
    refine sh_iconst (v := 0) (pc := 34) dX9_fault_34 rfl ?_
    refine sh_aload_n (pc := 35) dX9_fault_35 rfl ?_
    refine sh_gf (pc := 36) dX9_fault_36 fl_X9_7 cf_9 ok_9_0 rfl rfl ?_
    refine sh_iconst (v := 0) (pc := 39) dX9_fault_39 rfl ?_
    refine sh_su (N := mX9_bring) (pc := 40) dX9_fault_40 ml_X9_28 h mf_X9_bring is_X9_bring ⟨Nat.le_of_ble_eq_true rfl, Nat.le_of_ble_eq_true rfl⟩ rfl rfl (Nat.le_of_ble_eq_true rfl) (fun S7 h => ?_)
    refine sh_iload_n (pc := 43) dX9_fault_43 rfl ?_
    refine sh_if_lt (tgt := 51) (pc := 44) dX9_fault_44 (by decide) (fun hc8 => ?_) (fun hc8 => ?_)
    · have h := h.1 hc8
      refine sh_iload_n (pc := 51) dX9_fault_51 rfl ?_
      refine sh_goto (tgt := 59) (pc := 52) dX9_fault_52 (by decide) ?_
      exact sh_ret_i (pc := 59) dX9_fault_59 rfl ⟨rfl, rfl⟩ h
    · have h := h.2 hc8
      refine sh_iload_n (pc := 47) dX9_fault_47 rfl ?_
      refine sh_if_ne (tgt := 55) (pc := 48) dX9_fault_48 (by decide) (fun hc9 => ?_) (fun hc9 => ?_)
      · have h := h.1 hc9
        refine sh_aload_n (pc := 55) dX9_fault_55 rfl ?_
        refine sh_gf (pc := 56) dX9_fault_56 fl_X9_253 cf_9 ok_9_0 rfl rfl ?_
        exact sh_ret_i (pc := 59) dX9_fault_59 rfl ⟨rfl, rfl⟩ h
      · have h := h.2 hc9
        refine sh_iload_n (pc := 51) dX9_fault_51 rfl ?_
        refine sh_goto (tgt := 59) (pc := 52) dX9_fault_52 (by decide) ?_
        exact sh_ret_i (pc := 59) dX9_fault_59 rfl ⟨rfl, rfl⟩ h
  · have h := h.2 hc3
    refine sh_ldc (v := (-1000001)) (pc := 9) dX9_fault_9 kc_X9_32 ?_
    exact sh_ret_i (pc := 11) dX9_fault_11 rfl ⟨rfl, rfl⟩ h

set_option maxRecDepth 100000 in
set_option maxHeartbeats 4000000 in
theorem wp_X9_play {g : sh_G} {S : sh_S} {sz : Nat} {Q : Int32 → sh_S → Prop} 
    (h : (sh_Cu g mX9_hold [sh_R (9, 0, 0)] S sz (fun S1 => (sh_Ci g mX9_runs [sh_R (9, 0, 0)] S1 sz (fun r3 S2 => ((r3 < 0 → (sh_Ci g mX9_ends [sh_R (9, 0, 0), sh_I (S2 (9, 0, 0) 12)] S2 sz (fun r6 S5 => Q r6 S5))) ∧ (¬ r3 < 0 → (sh_Cu g mX9_bring [sh_R (20, 0, 0), sh_I 0, sh_R (19, 0, 0), sh_I 0] S2 sz (fun S7 => Q (-1000002) S7))))))))) :
    sh_Ci g mX9_play [sh_R (9, 0, 0)] S sz Q := by
  refine sh_enter (ls := [(0, sh_R (9, 0, 0))]) (by decide +kernel) (Nat.le_of_ble_eq_true rfl) rfl ?_
  refine sh_aload_n (pc := 0) dX9_play_0 rfl ?_
  refine sh_cu (N := mX9_hold) (pc := 1) dX9_play_1 ml_X9_67 h mf_X9_hold iv_X9_hold ⟨Nat.le_of_ble_eq_true rfl, Nat.le_of_ble_eq_true rfl⟩ rfl rfl (Nat.le_of_ble_eq_true rfl) ok_9_0 rfl (show vwCl[9]? = some (RX9, TX9, 14) from rfl) rfl (fun S1 h => ?_)
  refine sh_aload_n (pc := 4) dX9_play_4 rfl ?_
  refine sh_ci (N := mX9_runs) (pc := 5) dX9_play_5 ml_X9_256 h mf_X9_runs iv_X9_runs ⟨Nat.le_of_ble_eq_true rfl, Nat.le_of_ble_eq_true rfl⟩ rfl rfl (Nat.le_of_ble_eq_true rfl) ok_9_0 rfl (show vwCl[9]? = some (RX9, TX9, 14) from rfl) rfl (fun r3 S2 h => ?_)
  refine sh_if_lt (tgt := 27) (pc := 8) dX9_play_8 (by decide) (fun hc4 => ?_) (fun hc4 => ?_)
  · have h := h.1 hc4
    refine sh_aload_n (pc := 27) dX9_play_27 rfl ?_
    refine sh_aload_n (pc := 28) dX9_play_28 rfl ?_
    refine sh_gf (pc := 29) dX9_play_29 fl_X9_243 cf_9 ok_9_0 rfl rfl ?_
    refine sh_ci (N := mX9_ends) (pc := 32) dX9_play_32 ml_X9_70 h mf_X9_ends iv_X9_ends ⟨Nat.le_of_ble_eq_true rfl, Nat.le_of_ble_eq_true rfl⟩ rfl rfl (Nat.le_of_ble_eq_true rfl) ok_9_0 rfl (show vwCl[9]? = some (RX9, TX9, 14) from rfl) rfl (fun r6 S5 h => ?_)
    exact sh_ret_i (pc := 35) dX9_play_35 rfl ⟨rfl, rfl⟩ h
  · have h := h.2 hc4
    refine sh_aload_n (pc := 11) dX9_play_11 rfl ?_
    refine sh_gf (pc := 12) dX9_play_12 fl_X9_13 cf_9 ok_9_0 rfl rfl ?_
    refine sh_iconst (v := 0) (pc := 15) dX9_play_15 rfl ?_
    refine sh_aload_n (pc := 16) dX9_play_16 rfl ?_
    refine sh_gf (pc := 17) dX9_play_17 fl_X9_7 cf_9 ok_9_0 rfl rfl ?_
    refine sh_iconst (v := 0) (pc := 20) dX9_play_20 rfl ?_
    refine sh_su (N := mX9_bring) (pc := 21) dX9_play_21 ml_X9_28 h mf_X9_bring is_X9_bring ⟨Nat.le_of_ble_eq_true rfl, Nat.le_of_ble_eq_true rfl⟩ rfl rfl (Nat.le_of_ble_eq_true rfl) (fun S7 h => ?_)
    refine sh_ldc (v := (-1000002)) (pc := 24) dX9_play_24 kc_X9_78 ?_
    exact sh_ret_i (pc := 26) dX9_play_26 rfl ⟨rfl, rfl⟩ h
