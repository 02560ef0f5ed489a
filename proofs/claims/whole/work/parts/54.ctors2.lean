/-! the makers of a panel, a proposal, a tool, the members -/
abbrev fs_0 : List sh_v := [none, sh_I 0]
theorem df_0 {g : sh_G} : ∀ j, j < 2 → ∀ ty, parseFieldDescriptor (TX0 j).2.2.1 = some ty → defaultValue ty = sh_tv g (fs_0.getD j none) := fun j hj ty h => by
  rw [show ty = tyX0 j from Option.some.inj (h.symm.trans (tyX0_ok j hj))]
  match j, hj with
  | 0, _ => rfl
  | 1, _ => rfl
abbrev fs_2 : List sh_v := [none, none, sh_I 0, sh_I 0, sh_I 0]
theorem df_2 {g : sh_G} : ∀ j, j < 5 → ∀ ty, parseFieldDescriptor (TX2 j).2.2.1 = some ty → defaultValue ty = sh_tv g (fs_2.getD j none) := fun j hj ty h => by
  rw [show ty = tyX2 j from Option.some.inj (h.symm.trans (tyX2_ok j hj))]
  match j, hj with
  | 0, _ => rfl
  | 1, _ => rfl
  | 2, _ => rfl
  | 3, _ => rfl
  | 4, _ => rfl
abbrev fs_3 : List sh_v := [none, sh_I 0, sh_I 0, sh_I 0, sh_I 0, sh_I 0]
theorem df_3 {g : sh_G} : ∀ j, j < 6 → ∀ ty, parseFieldDescriptor (TX3 j).2.2.1 = some ty → defaultValue ty = sh_tv g (fs_3.getD j none) := fun j hj ty h => by
  rw [show ty = tyX3 j from Option.some.inj (h.symm.trans (tyX3_ok j hj))]
  match j, hj with
  | 0, _ => rfl
  | 1, _ => rfl
  | 2, _ => rfl
  | 3, _ => rfl
  | 4, _ => rfl
  | 5, _ => rfl
abbrev fs_4 : List sh_v := [none, none, sh_I 0]
theorem df_4 {g : sh_G} : ∀ j, j < 3 → ∀ ty, parseFieldDescriptor (TX4 j).2.2.1 = some ty → defaultValue ty = sh_tv g (fs_4.getD j none) := fun j hj ty h => by
  rw [show ty = tyX4 j from Option.some.inj (h.symm.trans (tyX4_ok j hj))]
  match j, hj with
  | 0, _ => rfl
  | 1, _ => rfl
  | 2, _ => rfl
abbrev fs_5 : List sh_v := [sh_I 0, sh_I 0, sh_I 0, sh_I 0, sh_I 0, sh_I 0, sh_I 0]
theorem df_5 {g : sh_G} : ∀ j, j < 7 → ∀ ty, parseFieldDescriptor (TX5 j).2.2.1 = some ty → defaultValue ty = sh_tv g (fs_5.getD j none) := fun j hj ty h => by
  rw [show ty = tyX5 j from Option.some.inj (h.symm.trans (tyX5_ok j hj))]
  match j, hj with
  | 0, _ => rfl
  | 1, _ => rfl
  | 2, _ => rfl
  | 3, _ => rfl
  | 4, _ => rfl
  | 5, _ => rfl
  | 6, _ => rfl
abbrev fs_6 : List sh_v := [none, none, none, sh_I 0, sh_I 0]
theorem df_6 {g : sh_G} : ∀ j, j < 5 → ∀ ty, parseFieldDescriptor (TX6 j).2.2.1 = some ty → defaultValue ty = sh_tv g (fs_6.getD j none) := fun j hj ty h => by
  rw [show ty = tyX6 j from Option.some.inj (h.symm.trans (tyX6_ok j hj))]
  match j, hj with
  | 0, _ => rfl
  | 1, _ => rfl
  | 2, _ => rfl
  | 3, _ => rfl
  | 4, _ => rfl
abbrev fs_7 : List sh_v := [sh_I 0, sh_I 0, sh_I 0, sh_F 0, sh_I 0, sh_I 0, sh_I 0, sh_I 0, sh_I 0, sh_I 0, sh_I 0, sh_I 0, none, none]
theorem df_7 {g : sh_G} : ∀ j, j < 14 → ∀ ty, parseFieldDescriptor (TX7 j).2.2.1 = some ty → defaultValue ty = sh_tv g (fs_7.getD j none) := fun j hj ty h => by
  rw [show ty = tyX7 j from Option.some.inj (h.symm.trans (tyX7_ok j hj))]
  match j, hj with
  | 0, _ => rfl
  | 1, _ => rfl
  | 2, _ => rfl
  | 3, _ => rfl
  | 4, _ => rfl
  | 5, _ => rfl
  | 6, _ => rfl
  | 7, _ => rfl
  | 8, _ => rfl
  | 9, _ => rfl
  | 10, _ => rfl
  | 11, _ => rfl
  | 12, _ => rfl
  | 13, _ => rfl
abbrev fs_8 : List sh_v := [none, none, none, none]
theorem df_8 {g : sh_G} : ∀ j, j < 4 → ∀ ty, parseFieldDescriptor (TX8 j).2.2.1 = some ty → defaultValue ty = sh_tv g (fs_8.getD j none) := fun j hj ty h => by
  rw [show ty = tyX8 j from Option.some.inj (h.symm.trans (tyX8_ok j hj))]
  match j, hj with
  | 0, _ => rfl
  | 1, _ => rfl
  | 2, _ => rfl
  | 3, _ => rfl
abbrev fs_9 : List sh_v := [none, none, none, none, sh_I 0, none, sh_I 0, none, sh_I 0, sh_I 0, sh_I 0, sh_I 0, sh_I 0, sh_I 0]
theorem df_9 {g : sh_G} : ∀ j, j < 14 → ∀ ty, parseFieldDescriptor (TX9 j).2.2.1 = some ty → defaultValue ty = sh_tv g (fs_9.getD j none) := fun j hj ty h => by
  rw [show ty = tyX9 j from Option.some.inj (h.symm.trans (tyX9_ok j hj))]
  match j, hj with
  | 0, _ => rfl
  | 1, _ => rfl
  | 2, _ => rfl
  | 3, _ => rfl
  | 4, _ => rfl
  | 5, _ => rfl
  | 6, _ => rfl
  | 7, _ => rfl
  | 8, _ => rfl
  | 9, _ => rfl
  | 10, _ => rfl
  | 11, _ => rfl
  | 12, _ => rfl
  | 13, _ => rfl

theorem arrV_cg {c : ClassId} {n : Nat} {f f' : Nat → Value} (h : ∀ j, j < n → f j = f' j) : arrV c n f = arrV c n f' := by
  unfold arrV
  congr 2
  funext j
  exact h j.val j.isLt
section SWAP
variable {g : sh_G} {M : sh_M} {cells slots pc : Nat} {ls : List (Nat × sh_v)} {st : List sh_v} {φ φ' : sh_P} {sz : Nat} {Q : sh_T}
/-- a row of references is what its places hold -/
theorem sh_swap {o : sh_O} {t n : Nat} {f f' : Nat → Option sh_O} (ho : φ o = some (.inr (.inr (.inr (t, n, f))))) (h : ∀ j, j < n → f j = f' j) (hφ : sh_up φ o (.inr (.inr (.inr (t, n, f')))) = φ') (kk : sh_V g M cells slots pc ls st φ' sz Q) : sh_V g M cells slots pc ls st φ sz Q := by
  intro p e s m args below meth c X H locs lsA hl hW hS
  refine kk p e s m args below meth c X H locs lsA hl ?_ hS
  rw [← hφ]
  refine hW.set ho rfl ?_ (fun _ _ => rfl)
  have h1 : H[sh_ad g o]? = some (vp_cell (sh_cy g t) (n, .inr (.inr (.inr (.inr (fun j => (f j).map (sh_ad g))))))) := (hW.2.1 o _ ho).1
  show H[sh_ad g o]? = some (vp_cell (sh_cy g t) (n, .inr (.inr (.inr (.inr (fun j => (f' j).map (sh_ad g)))))))
  rw [h1, vp_cell_q, vp_cell_q]
  refine congrArg some (arrV_cg fun j hj => ?_)
  show va_rf ((f j).map (sh_ad g)) = va_rf ((f' j).map (sh_ad g))
  rw [h j hj]
end SWAP
-- a panel
def pP (k j : Nat) (q : sh_O) : Prop := q = (4, k, j) ∨ q = (13, k, j) ∨ q = (14, k, j)
set_option maxRecDepth 100000 in
set_option maxHeartbeats 4000000 in
theorem i_X4 {g : sh_G} {φ : sh_P} {sz B k j : Nat} (hB : sh_bas g B) (h0 : φ (4, k, j) = some (.inl (4, fs_4))) (hn : ∀ q, pP k j q → q ≠ (4, k, j) → φ q = none) (hz : sz = B + rk (13, k, j)) : sh_Call g nX4_init [sh_R (4, k, j)] φ sz (sh_mkd (pP k j) φ (sz + 2)) := by
  have a1 : sh_ad g (13, k, j) = sz := (hB (13, k, j) (by show (13 : Nat) < 25; omega)).trans hz.symm
  have a2 : sh_ad g (14, k, j) = sz + 1 := by
    rw [hB (14, k, j) (by show (14 : Nat) < 25; omega), hz]
    show B + (shb k + 29 + 5 * j) = B + (shb k + 28 + 5 * j) + 1
    omega
  refine sh_enter (ls := [(0, sh_R (4, k, j))]) (by decide +kernel) (Nat.le_of_ble_eq_true rfl) rfl ?_
  refine sh_aload_n (pc := 0) dX4_init_0 rfl ?_
  refine sh_objinit (pc := 1) dX4_init_1 ml_X4_3 jw_obj.1 jw_obj.2 (by decide) (by decide) ?_
  refine sh_aload_n (pc := 4) dX4_init_4 rfl ?_
  refine sh_iconst (v := 3) (pc := 5) dX4_init_5 rfl ?_
  refine sh_newi (pc := 6) (ty := .int) (t := 0) (N' := 3) (o := (13, k, j)) (c0 := .inr (.inl (3, fun _ => 0))) dX4_init_6 rfl aw_int rfl rfl (Or.inl rfl) (by decide) (by decide) (by decide) (hn _ (Or.inr (Or.inl rfl)) (by simp)) a1 ⟨by decide, by decide⟩ rfl ?_
  refine sh_putF (pc := 8) (ci := 4) (k := 0) (fs := fs_4) dX4_init_8 fl_X4_9 cf_4 ft_4_0 rfl (fun q hq => by cases hq; rfl) rfl rfl ((up_n (by simp)).trans h0) (by decide) rfl ?_
  refine sh_aload_n (pc := 11) dX4_init_11 rfl ?_
  refine sh_iconst (v := 3) (pc := 12) dX4_init_12 rfl ?_
  refine sh_newi (pc := 13) (ty := .int) (t := 0) (N' := 3) (o := (14, k, j)) (c0 := .inr (.inl (3, fun _ => 0))) dX4_init_13 rfl aw_int rfl rfl (Or.inl rfl) (by decide) (by decide) (by decide) ((up_n (by simp)).trans ((up_n (by simp)).trans (hn _ (Or.inr (Or.inr rfl)) (by simp)))) a2 ⟨by decide, by decide⟩ rfl ?_
  refine sh_putF (pc := 15) (ci := 4) (k := 1) (fs := [sh_R (13, k, j), none, sh_I 0]) dX4_init_15 fl_X4_15 cf_4 ft_4_1 rfl (fun q hq => by cases hq; rfl) rfl rfl ((up_n (by simp)).trans up_s) (Nat.le_of_ble_eq_true rfl) rfl ?_
  refine sh_return (pc := 18) dX4_init_18 rfl ⟨rfl, rfl⟩ ⟨rfl, rfl, ?_⟩
  refine is_end (is_ex (is_put (is_ex (is_put (is_rf (e := fun q => q = (4, k, j))) rfl) rfl) rfl) rfl) (fun q hq => by subst hq; exact up_s) (fun q => ?_)
  unfold pP
  simp only [false_or, or_assoc, or_comm, or_left_comm]
-- a proposal
theorem i_X5 {g : sh_G} {φ : sh_P} {sz : Nat} {o : sh_O} : sh_Call g nX5_init [sh_R o] φ sz (fun r φ1 sz1 => r = none ∧ sz1 = sz ∧ φ1 = φ) := by
  refine sh_enter (ls := [(0, sh_R o)]) (by decide +kernel) (Nat.le_of_ble_eq_true rfl) rfl ?_
  refine sh_aload_n (pc := 0) dX5_init_0 rfl ?_
  refine sh_objinit (pc := 1) dX5_init_1 ml_X5_3 jw_obj.1 jw_obj.2 (by decide) (by decide) ?_
  exact sh_return (pc := 4) dX5_init_4 rfl ⟨rfl, rfl⟩ ⟨rfl, rfl, rfl⟩
-- a tool
def pT (k j : Nat) (q : sh_O) : Prop := q = (7, k, j) ∨ pP k j q ∨ q = (5, k, j)
set_option maxRecDepth 100000 in
set_option maxHeartbeats 4000000 in
theorem i_X7 {g : sh_G} {φ : sh_P} {sz B k j : Nat} (hB : sh_bas g B) (h0 : φ (7, k, j) = some (.inl (7, fs_7))) (hn : ∀ q, pT k j q → q ≠ (7, k, j) → φ q = none) (hz : sz = B + rk (4, k, j)) : sh_Call g nX7_init [sh_R (7, k, j)] φ sz (sh_mkd (pT k j) φ (sz + 4)) := by
  have a1 : sh_ad g (4, k, j) = sz := (hB (4, k, j) (by show (4 : Nat) < 25; omega)).trans hz.symm
  have a2 : sh_ad g (5, k, j) = sz + 1 + 2 := by
    rw [hB (5, k, j) (by show (5 : Nat) < 25; omega), hz]
    show B + (shb k + 30 + 5 * j) = B + (shb k + 27 + 5 * j) + 1 + 2
    omega
  have hz1 : sz + 1 = B + rk (13, k, j) := by
    rw [hz]
    show B + (shb k + 27 + 5 * j) + 1 = B + (shb k + 28 + 5 * j)
    omega
  refine sh_enter (ls := [(0, sh_R (7, k, j))]) (by decide +kernel) (Nat.le_of_ble_eq_true rfl) rfl ?_
  refine sh_aload_n (pc := 0) dX7_init_0 rfl ?_
  refine sh_objinit (pc := 1) dX7_init_1 ml_X7_3 jw_obj.1 jw_obj.2 (by decide) (by decide) ?_
  refine sh_aload_n (pc := 4) dX7_init_4 rfl ?_
  refine sh_new (pc := 5) (ci := 4) (o := (4, k, j)) (q := (RX4, TX4, 3)) (fs := fs_4) dX7_init_5 rfl (cf_4 _ rfl) kl_X7_9 nn_X4 in_X4 df_4 (hn _ (Or.inr (Or.inl (Or.inl rfl))) (by simp)) a1 ⟨by decide, by decide⟩ rfl ?_
  refine sh_dup (pc := 8) dX7_init_8 rfl ?_
  refine sh_icallN (pc := 9) (N := nX4_init) (b := (4, k, j)) (As := []) (st := [sh_R (4, k, j), sh_R (7, k, j)]) dX7_init_9 nl_X7_11 ld_4 ii_X4_init rfl rfl ⟨by decide, by decide⟩ rfl rfl (Nat.le_of_ble_eq_true rfl) ⟨by decide, by decide⟩ (i_X4 hB up_s (fun q hq hne => (up_n hne).trans (hn q (Or.inr (Or.inl hq)) (by rcases hq with rfl | rfl | rfl <;> simp))) hz1) ?_
  rintro r φ1 sz1 ⟨rfl, rfl, hI⟩
  have g7 : φ1 (7, k, j) = some (.inl (7, fs_7)) := ((hI _ id).2 (by simp [pP])).trans ((up_n (by simp)).trans h0)
  have g5 : φ1 (5, k, j) = none := ((hI _ id).2 (by simp [pP])).trans ((up_n (by simp)).trans (hn _ (Or.inr (Or.inr rfl)) (by simp)))
  refine sh_putF (pc := 12) (ci := 7) (k := 12) (fs := fs_7) dX7_init_12 fl_X7_12 cf_7 ft_7_12 rfl (fun q hq => by cases hq; rfl) rfl rfl g7 (by decide) rfl ?_
  refine sh_aload_n (pc := 15) dX7_init_15 rfl ?_
  refine sh_new (pc := 16) (ci := 5) (o := (5, k, j)) (q := (RX5, TX5, 7)) (fs := fs_5) dX7_init_16 rfl (cf_5 _ rfl) kl_X7_18 nn_X5 in_X5 df_5 ((up_n (by simp)).trans g5) a2 ⟨by decide, by decide⟩ rfl ?_
  refine sh_dup (pc := 19) dX7_init_19 rfl ?_
  refine sh_icallN (pc := 20) (N := nX5_init) (b := (5, k, j)) (As := []) (st := [sh_R (5, k, j), sh_R (7, k, j)]) dX7_init_20 nl_X7_20 ld_5 ii_X5_init rfl rfl ⟨by decide, by decide⟩ rfl rfl (Nat.le_of_ble_eq_true rfl) ⟨by decide, by decide⟩ i_X5 ?_
  rintro r φ2 sz2 ⟨rfl, rfl, rfl⟩
  refine sh_putF (pc := 23) (ci := 7) (k := 13) (fs := fs_7.set 12 (sh_R (4, k, j))) dX7_init_23 fl_X7_21 cf_7 ft_7_13 rfl (fun q hq => by cases hq; rfl) rfl rfl ((up_n (by simp)).trans up_s) (Nat.le_of_ble_eq_true rfl) rfl ?_
  refine sh_return (pc := 26) dX7_init_26 rfl ⟨rfl, rfl⟩ ⟨rfl, rfl, ?_⟩
  have t1 := is_tr (is_ex (o := (4, k, j)) (c := .inl (4, fs_4)) (is_rf (e := fun q => q = (4, k, j) ∨ q = (7, k, j)) (φ := φ)) (Or.inl rfl)) hI
  have t2 := is_to (p' := pP k j) (e' := fun q => q = (7, k, j)) t1 (fun q _ => ⟨fun h => h.elim False.elim id, Or.inr⟩) (fun q h => h.1.elim (fun z => absurd (Or.inl z) h.2) id)
  refine is_end (is_ex (is_put (is_ex t2 rfl) rfl) rfl) (fun q hq => by subst hq; exact up_s) (fun q => ?_)
  unfold pT
  simp only [or_assoc, or_comm, or_left_comm]
