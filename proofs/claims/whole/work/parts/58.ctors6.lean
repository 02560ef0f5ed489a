/-! the model's maker; the first contents are alike -/
def p9 (q : sh_O) : Prop := ((((q = (20, 0, 0) ∨ q = (21, 0, 0)) ∨ q = (22, 0, 0)) ∨ q = (23, 0, 0)) ∨ q = (24, 0, 0)) ∨ (q = (19, 0, 0) ∨ q = (9, 0, 0))
set_option maxRecDepth 100000 in
set_option maxHeartbeats 4000000 in
theorem i_X9 {g : sh_G} {φ : sh_P} {sz B : Nat} (hB : sh_bas g B) (h0 : φ (9, 0, 0) = some (.inl (9, fs_9))) (hn : ∀ q, p9 q → q ≠ (9, 0, 0) → φ q = none) (hz : sz = B + 888) : sh_Call g nX9_init [sh_R (9, 0, 0)] φ sz (sh_mkd p9 φ (sz + 6)) := by
  refine sh_enter (ls := [(0, sh_R (9, 0, 0))]) (by decide +kernel) (Nat.le_of_ble_eq_true rfl) rfl ?_
  refine sh_aload_n (pc := 0) dX9_init_0 rfl ?_
  refine sh_objinit (pc := 1) dX9_init_1 ml_X9_1 jw_obj.1 jw_obj.2 (by decide) (by decide) ?_
  refine sh_aload_n (pc := 4) dX9_init_4 rfl ?_
  refine sh_sipush (v := 602) (pc := 5) dX9_init_5 rfl ?_
  refine sh_newi (pc := 8) (ty := .int) (t := 0) (N' := 602) (o := (19, 0, 0)) (c0 := .inr (.inl (602, fun _ => 0))) dX9_init_8 rfl aw_int rfl rfl (Or.inl rfl) (by decide) (by decide) (by decide) (hn _ (Or.inr (Or.inl rfl)) (by simp)) ((hB (19, 0, 0) (by decide)).trans (by rw [hz]; rfl)) ⟨by decide, by decide⟩ rfl ?_
  refine sh_putF (pc := 10) (ci := 9) (k := 0) (fs := fs_9) dX9_init_10 fl_X9_7 cf_9 ft_9_0 rfl (fun q hq => by cases hq; rfl) rfl rfl ((up_n (by simp)).trans h0) (by decide) rfl ?_
  refine sh_aload_n (pc := 13) dX9_init_13 rfl ?_
  refine sh_sipush (v := 602) (pc := 14) dX9_init_14 rfl ?_
  refine sh_newi (pc := 17) (ty := .int) (t := 0) (N' := 602) (o := (20, 0, 0)) (c0 := .inr (.inl (602, fun _ => 0))) dX9_init_17 rfl aw_int rfl rfl (Or.inl rfl) (by decide) (by decide) (by decide) ((up_n (by simp)).trans ((up_n (by simp)).trans (hn _ (Or.inl (Or.inl (Or.inl (Or.inl (Or.inl rfl))))) (by simp)))) ((hB (20, 0, 0) (by decide)).trans (by rw [hz]; rfl)) ⟨by decide, by decide⟩ rfl ?_
  refine sh_putF (pc := 19) (ci := 9) (k := 1) (fs := (fs_9).set 0 (sh_R (19, 0, 0))) dX9_init_19 fl_X9_13 cf_9 ft_9_1 rfl (fun q hq => by cases hq; rfl) rfl rfl ((up_n (by simp)).trans up_s) (by decide) rfl ?_
  refine sh_aload_n (pc := 22) dX9_init_22 rfl ?_
  refine sh_sipush (v := 602) (pc := 23) dX9_init_23 rfl ?_
  refine sh_newi (pc := 26) (ty := .int) (t := 0) (N' := 602) (o := (21, 0, 0)) (c0 := .inr (.inl (602, fun _ => 0))) dX9_init_26 rfl aw_int rfl rfl (Or.inl rfl) (by decide) (by decide) (by decide) ((up_n (by simp)).trans ((up_n (by simp)).trans ((up_n (by simp)).trans ((up_n (by simp)).trans (hn _ (Or.inl (Or.inl (Or.inl (Or.inl (Or.inr rfl))))) (by simp)))))) ((hB (21, 0, 0) (by decide)).trans (by rw [hz]; rfl)) ⟨by decide, by decide⟩ rfl ?_
  refine sh_putF (pc := 28) (ci := 9) (k := 2) (fs := ((fs_9).set 0 (sh_R (19, 0, 0))).set 1 (sh_R (20, 0, 0))) dX9_init_28 fl_X9_16 cf_9 ft_9_2 rfl (fun q hq => by cases hq; rfl) rfl rfl ((up_n (by simp)).trans up_s) (by decide) rfl ?_
  refine sh_aload_n (pc := 31) dX9_init_31 rfl ?_
  refine sh_sipush (v := 2408) (pc := 32) dX9_init_32 rfl ?_
  refine sh_newi (pc := 35) (ty := .int) (t := 0) (N' := 2408) (o := (22, 0, 0)) (c0 := .inr (.inl (2408, fun _ => 0))) dX9_init_35 rfl aw_int rfl rfl (Or.inl rfl) (by decide) (by decide) (by decide) ((up_n (by simp)).trans ((up_n (by simp)).trans ((up_n (by simp)).trans ((up_n (by simp)).trans ((up_n (by simp)).trans ((up_n (by simp)).trans (hn _ (Or.inl (Or.inl (Or.inl (Or.inr rfl)))) (by simp)))))))) ((hB (22, 0, 0) (by decide)).trans (by rw [hz]; rfl)) ⟨by decide, by decide⟩ rfl ?_
  refine sh_putF (pc := 37) (ci := 9) (k := 3) (fs := (((fs_9).set 0 (sh_R (19, 0, 0))).set 1 (sh_R (20, 0, 0))).set 2 (sh_R (21, 0, 0))) dX9_init_37 fl_X9_19 cf_9 ft_9_3 rfl (fun q hq => by cases hq; rfl) rfl rfl ((up_n (by simp)).trans up_s) (by decide) rfl ?_
  refine sh_aload_n (pc := 40) dX9_init_40 rfl ?_
  refine sh_bipush (v := 60) (pc := 41) dX9_init_41 rfl ?_
  refine sh_newi (pc := 43) (ty := .int) (t := 0) (N' := 60) (o := (23, 0, 0)) (c0 := .inr (.inl (60, fun _ => 0))) dX9_init_43 rfl aw_int rfl rfl (Or.inl rfl) (by decide) (by decide) (by decide) ((up_n (by simp)).trans ((up_n (by simp)).trans ((up_n (by simp)).trans ((up_n (by simp)).trans ((up_n (by simp)).trans ((up_n (by simp)).trans ((up_n (by simp)).trans ((up_n (by simp)).trans (hn _ (Or.inl (Or.inl (Or.inr rfl))) (by simp)))))))))) ((hB (23, 0, 0) (by decide)).trans (by rw [hz]; rfl)) ⟨by decide, by decide⟩ rfl ?_
  refine sh_putF (pc := 45) (ci := 9) (k := 5) (fs := ((((fs_9).set 0 (sh_R (19, 0, 0))).set 1 (sh_R (20, 0, 0))).set 2 (sh_R (21, 0, 0))).set 3 (sh_R (22, 0, 0))) dX9_init_45 fl_X9_22 cf_9 ft_9_5 rfl (fun q hq => by cases hq; rfl) rfl rfl ((up_n (by simp)).trans up_s) (by decide) rfl ?_
  refine sh_aload_n (pc := 48) dX9_init_48 rfl ?_
  refine sh_iconst (v := 3) (pc := 49) dX9_init_49 rfl ?_
  refine sh_newi (pc := 50) (ty := .int) (t := 0) (N' := 3) (o := (24, 0, 0)) (c0 := .inr (.inl (3, fun _ => 0))) dX9_init_50 rfl aw_int rfl rfl (Or.inl rfl) (by decide) (by decide) (by decide) ((up_n (by simp)).trans ((up_n (by simp)).trans ((up_n (by simp)).trans ((up_n (by simp)).trans ((up_n (by simp)).trans ((up_n (by simp)).trans ((up_n (by simp)).trans ((up_n (by simp)).trans ((up_n (by simp)).trans ((up_n (by simp)).trans (hn _ (Or.inl (Or.inr rfl)) (by simp)))))))))))) ((hB (24, 0, 0) (by decide)).trans (by rw [hz]; rfl)) ⟨by decide, by decide⟩ rfl ?_
  refine sh_putF (pc := 52) (ci := 9) (k := 7) (fs := (((((fs_9).set 0 (sh_R (19, 0, 0))).set 1 (sh_R (20, 0, 0))).set 2 (sh_R (21, 0, 0))).set 3 (sh_R (22, 0, 0))).set 5 (sh_R (23, 0, 0))) dX9_init_52 fl_X9_25 cf_9 ft_9_7 rfl (fun q hq => by cases hq; rfl) rfl rfl ((up_n (by simp)).trans up_s) (by decide) rfl ?_
  refine sh_aload_n (pc := 55) dX9_init_55 rfl ?_
  refine sh_getf (pc := 56) (ci := 9) (k := 0) (fs := ((((((fs_9).set 0 (sh_R (19, 0, 0))).set 1 (sh_R (20, 0, 0))).set 2 (sh_R (21, 0, 0))).set 3 (sh_R (22, 0, 0))).set 5 (sh_R (23, 0, 0))).set 7 (sh_R (24, 0, 0))) (v := sh_R (19, 0, 0)) dX9_init_56 fl_X9_7 cf_9 (up_s) rfl ?_
  refine sh_iconst (v := 0) (pc := 59) dX9_init_59 rfl ?_
  refine sh_bipush (v := 20) (pc := 60) dX9_init_60 rfl ?_
  refine sh_iast (pc := 62) (o := (19, 0, 0)) (n := 602) (f := fun _ => 0) dX9_init_62 ((up_n (by simp)).trans ((up_n (by simp)).trans ((up_n (by simp)).trans ((up_n (by simp)).trans ((up_n (by simp)).trans ((up_n (by simp)).trans ((up_n (by simp)).trans ((up_n (by simp)).trans ((up_n (by simp)).trans ((up_n (by simp)).trans ((up_n (by simp)).trans (up_s)))))))))))) (by unfold vp_in; decide) rfl ?_
  refine sh_aload_n (pc := 63) dX9_init_63 rfl ?_
  refine sh_getf (pc := 64) (ci := 9) (k := 0) (fs := ((((((fs_9).set 0 (sh_R (19, 0, 0))).set 1 (sh_R (20, 0, 0))).set 2 (sh_R (21, 0, 0))).set 3 (sh_R (22, 0, 0))).set 5 (sh_R (23, 0, 0))).set 7 (sh_R (24, 0, 0))) (v := sh_R (19, 0, 0)) dX9_init_64 fl_X9_7 cf_9 ((up_n (by simp)).trans (up_s)) rfl ?_
  refine sh_iconst (v := 1) (pc := 67) dX9_init_67 rfl ?_
  refine sh_bipush (v := 7) (pc := 68) dX9_init_68 rfl ?_
  refine sh_iast (pc := 70) (o := (19, 0, 0)) (n := 602) (f := upd (fun _ => 0) (0 : Int32).toNatClampNeg 20) dX9_init_70 (up_s) (by unfold vp_in; decide) rfl ?_
  refine sh_aload_n (pc := 71) dX9_init_71 rfl ?_
  refine sh_getf (pc := 72) (ci := 9) (k := 0) (fs := ((((((fs_9).set 0 (sh_R (19, 0, 0))).set 1 (sh_R (20, 0, 0))).set 2 (sh_R (21, 0, 0))).set 3 (sh_R (22, 0, 0))).set 5 (sh_R (23, 0, 0))).set 7 (sh_R (24, 0, 0))) (v := sh_R (19, 0, 0)) dX9_init_72 fl_X9_7 cf_9 ((up_n (by simp)).trans ((up_n (by simp)).trans (up_s))) rfl ?_
  refine sh_iconst (v := 2) (pc := 75) dX9_init_75 rfl ?_
  refine sh_iconst (v := 1) (pc := 76) dX9_init_76 rfl ?_
  refine sh_iast (pc := 77) (o := (19, 0, 0)) (n := 602) (f := upd (upd (fun _ => 0) (0 : Int32).toNatClampNeg 20) (1 : Int32).toNatClampNeg 7) dX9_init_77 (up_s) (by unfold vp_in; decide) rfl ?_
  refine sh_aload_n (pc := 78) dX9_init_78 rfl ?_
  refine sh_getf (pc := 79) (ci := 9) (k := 0) (fs := ((((((fs_9).set 0 (sh_R (19, 0, 0))).set 1 (sh_R (20, 0, 0))).set 2 (sh_R (21, 0, 0))).set 3 (sh_R (22, 0, 0))).set 5 (sh_R (23, 0, 0))).set 7 (sh_R (24, 0, 0))) (v := sh_R (19, 0, 0)) dX9_init_79 fl_X9_7 cf_9 ((up_n (by simp)).trans ((up_n (by simp)).trans ((up_n (by simp)).trans (up_s)))) rfl ?_
  refine sh_iconst (v := 3) (pc := 82) dX9_init_82 rfl ?_
  refine sh_iconst (v := 2) (pc := 83) dX9_init_83 rfl ?_
  refine sh_iast (pc := 84) (o := (19, 0, 0)) (n := 602) (f := upd (upd (upd (fun _ => 0) (0 : Int32).toNatClampNeg 20) (1 : Int32).toNatClampNeg 7) (2 : Int32).toNatClampNeg 1) dX9_init_84 (up_s) (by unfold vp_in; decide) rfl ?_
  refine sh_aload_n (pc := 85) dX9_init_85 rfl ?_
  refine sh_getf (pc := 86) (ci := 9) (k := 0) (fs := ((((((fs_9).set 0 (sh_R (19, 0, 0))).set 1 (sh_R (20, 0, 0))).set 2 (sh_R (21, 0, 0))).set 3 (sh_R (22, 0, 0))).set 5 (sh_R (23, 0, 0))).set 7 (sh_R (24, 0, 0))) (v := sh_R (19, 0, 0)) dX9_init_86 fl_X9_7 cf_9 ((up_n (by simp)).trans ((up_n (by simp)).trans ((up_n (by simp)).trans ((up_n (by simp)).trans (up_s))))) rfl ?_
  refine sh_iconst (v := 4) (pc := 89) dX9_init_89 rfl ?_
  refine sh_sipush (v := 600) (pc := 90) dX9_init_90 rfl ?_
  refine sh_iast (pc := 93) (o := (19, 0, 0)) (n := 602) (f := upd (upd (upd (upd (fun _ => 0) (0 : Int32).toNatClampNeg 20) (1 : Int32).toNatClampNeg 7) (2 : Int32).toNatClampNeg 1) (3 : Int32).toNatClampNeg 2) dX9_init_93 (up_s) (by unfold vp_in; decide) rfl ?_
  refine sh_aload_n (pc := 94) dX9_init_94 rfl ?_
  refine sh_getf (pc := 95) (ci := 9) (k := 0) (fs := ((((((fs_9).set 0 (sh_R (19, 0, 0))).set 1 (sh_R (20, 0, 0))).set 2 (sh_R (21, 0, 0))).set 3 (sh_R (22, 0, 0))).set 5 (sh_R (23, 0, 0))).set 7 (sh_R (24, 0, 0))) (v := sh_R (19, 0, 0)) dX9_init_95 fl_X9_7 cf_9 ((up_n (by simp)).trans ((up_n (by simp)).trans ((up_n (by simp)).trans ((up_n (by simp)).trans ((up_n (by simp)).trans (up_s)))))) rfl ?_
  refine sh_iconst (v := 5) (pc := 98) dX9_init_98 rfl ?_
  refine sh_bipush (v := 80) (pc := 99) dX9_init_99 rfl ?_
  refine sh_iast (pc := 101) (o := (19, 0, 0)) (n := 602) (f := upd (upd (upd (upd (upd (fun _ => 0) (0 : Int32).toNatClampNeg 20) (1 : Int32).toNatClampNeg 7) (2 : Int32).toNatClampNeg 1) (3 : Int32).toNatClampNeg 2) (4 : Int32).toNatClampNeg 600) dX9_init_101 (up_s) (by unfold vp_in; decide) rfl ?_
  refine sh_aload_n (pc := 102) dX9_init_102 rfl ?_
  refine sh_getf (pc := 103) (ci := 9) (k := 0) (fs := ((((((fs_9).set 0 (sh_R (19, 0, 0))).set 1 (sh_R (20, 0, 0))).set 2 (sh_R (21, 0, 0))).set 3 (sh_R (22, 0, 0))).set 5 (sh_R (23, 0, 0))).set 7 (sh_R (24, 0, 0))) (v := sh_R (19, 0, 0)) dX9_init_103 fl_X9_7 cf_9 ((up_n (by simp)).trans ((up_n (by simp)).trans ((up_n (by simp)).trans ((up_n (by simp)).trans ((up_n (by simp)).trans ((up_n (by simp)).trans (up_s))))))) rfl ?_
  refine sh_bipush (v := 6) (pc := 106) dX9_init_106 rfl ?_
  refine sh_bipush (v := 10) (pc := 108) dX9_init_108 rfl ?_
  refine sh_iast (pc := 110) (o := (19, 0, 0)) (n := 602) (f := upd (upd (upd (upd (upd (upd (fun _ => 0) (0 : Int32).toNatClampNeg 20) (1 : Int32).toNatClampNeg 7) (2 : Int32).toNatClampNeg 1) (3 : Int32).toNatClampNeg 2) (4 : Int32).toNatClampNeg 600) (5 : Int32).toNatClampNeg 80) dX9_init_110 (up_s) (by unfold vp_in; decide) rfl ?_
  refine sh_return (pc := 111) dX9_init_111 rfl ⟨rfl, rfl⟩ ⟨rfl, rfl, ?_⟩
  refine is_end (is_ex (o := (19, 0, 0)) (c := .inr (.inl (602, upd (upd (upd (upd (upd (upd (upd (fun _ => 0) (0 : Int32).toNatClampNeg 20) (1 : Int32).toNatClampNeg 7) (2 : Int32).toNatClampNeg 1) (3 : Int32).toNatClampNeg 2) (4 : Int32).toNatClampNeg 600) (5 : Int32).toNatClampNeg 80) (6 : Int32).toNatClampNeg 10))) (is_ex (o := (19, 0, 0)) (c := .inr (.inl (602, upd (upd (upd (upd (upd (upd (fun _ => 0) (0 : Int32).toNatClampNeg 20) (1 : Int32).toNatClampNeg 7) (2 : Int32).toNatClampNeg 1) (3 : Int32).toNatClampNeg 2) (4 : Int32).toNatClampNeg 600) (5 : Int32).toNatClampNeg 80))) (is_ex (o := (19, 0, 0)) (c := .inr (.inl (602, upd (upd (upd (upd (upd (fun _ => 0) (0 : Int32).toNatClampNeg 20) (1 : Int32).toNatClampNeg 7) (2 : Int32).toNatClampNeg 1) (3 : Int32).toNatClampNeg 2) (4 : Int32).toNatClampNeg 600))) (is_ex (o := (19, 0, 0)) (c := .inr (.inl (602, upd (upd (upd (upd (fun _ => 0) (0 : Int32).toNatClampNeg 20) (1 : Int32).toNatClampNeg 7) (2 : Int32).toNatClampNeg 1) (3 : Int32).toNatClampNeg 2))) (is_ex (o := (19, 0, 0)) (c := .inr (.inl (602, upd (upd (upd (fun _ => 0) (0 : Int32).toNatClampNeg 20) (1 : Int32).toNatClampNeg 7) (2 : Int32).toNatClampNeg 1))) (is_ex (o := (19, 0, 0)) (c := .inr (.inl (602, upd (upd (fun _ => 0) (0 : Int32).toNatClampNeg 20) (1 : Int32).toNatClampNeg 7))) (is_ex (o := (19, 0, 0)) (c := .inr (.inl (602, upd (fun _ => 0) (0 : Int32).toNatClampNeg 20))) (is_ex (o := (9, 0, 0)) (c := .inl (9, ((((((fs_9).set 0 (sh_R (19, 0, 0))).set 1 (sh_R (20, 0, 0))).set 2 (sh_R (21, 0, 0))).set 3 (sh_R (22, 0, 0))).set 5 (sh_R (23, 0, 0))).set 7 (sh_R (24, 0, 0)))) (is_put (o := (24, 0, 0)) (c := .inr (.inl (3, fun _ => 0))) (is_ex (o := (9, 0, 0)) (c := .inl (9, (((((fs_9).set 0 (sh_R (19, 0, 0))).set 1 (sh_R (20, 0, 0))).set 2 (sh_R (21, 0, 0))).set 3 (sh_R (22, 0, 0))).set 5 (sh_R (23, 0, 0)))) (is_put (o := (23, 0, 0)) (c := .inr (.inl (60, fun _ => 0))) (is_ex (o := (9, 0, 0)) (c := .inl (9, ((((fs_9).set 0 (sh_R (19, 0, 0))).set 1 (sh_R (20, 0, 0))).set 2 (sh_R (21, 0, 0))).set 3 (sh_R (22, 0, 0)))) (is_put (o := (22, 0, 0)) (c := .inr (.inl (2408, fun _ => 0))) (is_ex (o := (9, 0, 0)) (c := .inl (9, (((fs_9).set 0 (sh_R (19, 0, 0))).set 1 (sh_R (20, 0, 0))).set 2 (sh_R (21, 0, 0)))) (is_put (o := (21, 0, 0)) (c := .inr (.inl (602, fun _ => 0))) (is_ex (o := (9, 0, 0)) (c := .inl (9, ((fs_9).set 0 (sh_R (19, 0, 0))).set 1 (sh_R (20, 0, 0)))) (is_put (o := (20, 0, 0)) (c := .inr (.inl (602, fun _ => 0))) (is_ex (o := (9, 0, 0)) (c := .inl (9, (fs_9).set 0 (sh_R (19, 0, 0)))) (is_ex (o := (19, 0, 0)) (c := .inr (.inl (602, fun _ => 0))) (is_rf (e := fun q => q = (19, 0, 0) ∨ q = (9, 0, 0)) (φ := φ)) (Or.inl rfl)) (Or.inr rfl)) rfl) (Or.inr rfl)) rfl) (Or.inr rfl)) rfl) (Or.inr rfl)) rfl) (Or.inr rfl)) rfl) (Or.inr rfl)) (Or.inl rfl)) (Or.inl rfl)) (Or.inl rfl)) (Or.inl rfl)) (Or.inl rfl)) (Or.inl rfl)) (Or.inl rfl)) (fun q hq => ?_) (fun q => ?_)
  · rcases hq with rfl | rfl
    · exact up_s
    · exact (up_n (by simp)).trans ((up_n (by simp)).trans ((up_n (by simp)).trans ((up_n (by simp)).trans ((up_n (by simp)).trans ((up_n (by simp)).trans ((up_n (by simp)).trans (up_s)))))))
  · unfold p9
    simp only [false_or]

abbrev P00 : Nat → Int32 := sh_S0 (19, 0, 0)
theorem P00_z {w : Nat} (h : 7 ≤ w) : P00 w = 0 := by
  show upd (upd (upd (upd (upd (upd (upd (fun _ => 0) 0 20) 1 7) 2 1) 3 2) 4 600) 5 80) 6 10 w = 0
  rw [upd_ne (by omega), upd_ne (by omega), upd_ne (by omega), upd_ne (by omega), upd_ne (by omega), upd_ne (by omega), upd_ne (by omega)]
theorem P00_n (j : Nat) (h : 7 ≤ j) : (P00 j).toNatClampNeg = 0 := by rw [P00_z h]; rfl
theorem P00_M : nM P00 = 0 := P00_n 8 (by omega)
theorem P00_T : nT P00 = 0 := P00_n 9 (by omega)
theorem P00_Y : nY P00 = 0 := P00_n 11 (by omega)
theorem P00_Z : nZ P00 = 0 := P00_n 10 (by omega)
theorem P00_D : nD P00 = 0 := P00_n 7 (by omega)
theorem IP_0 : sh_IP P00 0 := by
  have z : (0 : Int32) = nI 0 := nI_0.symm
  refine ⟨⟨⟨⟨?_, by rw [P00_M]; omega⟩, ⟨?_, by rw [P00_T]; omega⟩, ⟨?_, by rw [P00_Y]; omega⟩, ⟨?_, by rw [P00_Z]; omega⟩, ⟨?_, by rw [P00_D]; omega⟩, fun j hj => absurd hj (by rw [P00_Y]; omega)⟩, ?_, fun m hm => absurd hm (by rw [P00_M]; omega), fun m _ _ w _ => P00_z (by omega), fun t _ _ w _ => P00_z (by omega)⟩, ⟨fun i j hi => absurd hi (by rw [P00_Y]; omega), fun m hm => absurd hm (by rw [P00_M]; omega), fun j hj => absurd hj (by rw [P00_Y]; omega)⟩, ⟨⟨fun _ => 0, fun m _ => (P00_z (by omega)).trans z, by decide⟩, fun m _ k _ => ⟨0, Nat.le_refl _, (P00_z (by omega)).trans z⟩⟩, fun t ht => absurd ht (by rw [P00_T]; omega), fun t u ht => absurd ht (by rw [P00_T]; omega), fun t ht => absurd ht (by rw [P00_T]; omega)⟩
  · rw [P00_M, P00_z (by omega)]; exact z
  · rw [P00_T, P00_z (by omega)]; exact z
  · rw [P00_Y, P00_z (by omega)]; exact z
  · rw [P00_Z, P00_z (by omega)]; exact z
  · rw [P00_D, P00_z (by omega)]; exact z
  · intro j hj
    match j, hj with
    | 0, _ => exact ⟨20, by decide, by decide +kernel⟩
    | 1, _ => exact ⟨7, by decide, by decide +kernel⟩
    | 2, _ => exact ⟨1, by decide, by decide +kernel⟩
    | 3, _ => exact ⟨2, by decide, by decide +kernel⟩
    | 4, _ => exact ⟨600, by decide, by decide +kernel⟩
    | 5, _ => exact ⟨80, by decide, by decide +kernel⟩
    | 6, _ => exact ⟨10, by decide, by decide +kernel⟩
    | j + 7, h => exact absurd h (by omega)
theorem GR_0 : sh_GR 0 sh_S0 := by
  have z : (0 : Int32) = nI 0 := nI_0.symm
  refine ⟨0, fun j => j + 2, fun _ => 0, 0, P00, fun _ _ => 0, ⟨by omega, IP_0, fun j hj => absurd hj (by omega), by omega, fun j hj => absurd hj (by omega)⟩, ⟨z, fun j _ => rfl, ⟨fun j hj => ⟨Nat.le_add_left 2 j, Nat.add_lt_add_right hj 2⟩, fun i j _ _ h => Nat.add_right_cancel h⟩, ⟨fun _ _ => rfl, ⟨?_, (P00_z (by omega)).symm, (P00_z (by omega)).symm, (P00_z (by omega)).symm, (P00_z (by omega)).symm, (P00_z (by omega)).symm, fun j _ => (P00_z (by omega)).symm⟩, fun m _ w _ => (P00_z (by omega)).symm, fun t ht => ?_⟩, fun j hj => absurd hj (by omega), z, fun j hj => absurd hj (by omega)⟩, ⟨z, rfl, fun j hj => absurd hj (by omega), z, fun j hj => absurd hj (by omega)⟩⟩
  · intro j hj
    match j, hj with
    | 0, _ => decide +kernel
    | 1, _ => decide +kernel
    | 2, _ => decide +kernel
    | 3, _ => decide +kernel
    | 4, _ => decide +kernel
    | 5, _ => decide +kernel
    | 6, _ => decide +kernel
    | j + 7, h => exact absurd h (by omega)
  · have y : ∀ w, sh_tr P00 t w = 0 := fun w => P00_z (by omega)
    exact ⟨⟨(y 0).symm, (y 1).symm, (y 2).symm, (y 6).symm, (y 3).symm, (y 4).symm, (y 9).symm, (y 5).symm, (y 11).symm, (y 7).symm⟩, Or.inr ⟨0, 0, by omega, by omega, z, z, (y 8).trans z⟩, fun j _ => ⟨(y _).symm, (y _).symm⟩, (y 19).symm, (y 20).symm, Or.inl ⟨rfl, y 18⟩⟩
