/-! the makers of the history, the orders, the whole class -/
def pH (q : sh_O) : Prop := (q = (0, 0, 0) ∨ ∃ j, j < 5 ∧ pS (j + 2) q) ∨ q = (17, 0, 0)
set_option maxRecDepth 100000 in
set_option maxHeartbeats 4000000 in
theorem i_X0l {g : sh_G} {φ : sh_P} {sz B : Nat} (hB : sh_bas g B) (hn : ∀ q, pH q → q ≠ (0, 0, 0) → φ q = none) (hz : sz = B + 254) : ∀ n i, i + n = 5 → ∀ φ' : sh_P, is_C (fun q => q = (0, 0, 0) ∨ ∃ j, j < i ∧ pS (j + 2) q) (fun q => q = (17, 0, 0)) φ φ' → φ' (17, 0, 0) = some (rowTo 3 5 i (fun j => (6, j + 2, 0))) →
    sh_V g nX0_init (1 + 126 * i) (5 + 787 * i) 14 [(0, sh_R (0, 0, 0)), (1, sh_I (nI i))] [] φ' (sz + 1 + 126 * i) (sh_mkd pH φ (sz + 631)) := by
  intro n
  induction n with
  | zero =>
    intro i hi φ' hs hr
    obtain rfl : i = 5 := hi
    refine sh_iload_n (pc := 14) dX0_init_14 rfl ?_
    refine sh_iconst (v := 4) (pc := 15) dX0_init_15 rfl ?_
    refine sh_icmp_gt (tgt := 38) (pc := 16) dX0_init_16 (by decide) (fun _ => ?_) (fun h => absurd (by decide +kernel) h)
    refine sh_swap (f' := fun j => some (6, (nI (j + 2)).toNatClampNeg, 0)) hr (fun j hj => (if_pos hj).trans (by rw [nI_clamp (by omega)])) rfl ?_
    refine sh_return (pc := 38) dX0_init_38 rfl ⟨rfl, rfl⟩ ⟨rfl, rfl, ?_⟩
    exact is_end (is_ex hs rfl) (fun q hq => by subst hq; exact up_s) (fun q => Iff.rfl)
  | succ n ih =>
    intro i hi φ' hs hr
    have hi10 : i < 5 := by omega
    have ib : i < 2 ^ 31 := by omega
    have hb2 : shb (i + 2) = 255 + 126 * i := by
      unfold shb
      rw [if_neg (by omega)]
      omega
    have a1 : sh_ad g (6, i + 2, 0) = sz + 1 + 126 * i := by
      rw [hB (6, i + 2, 0) (by show (6 : Nat) < 25; omega), hz]
      show B + shb (i + 2) = _
      omega
    have hz1 : sz + 1 + 126 * i + 1 = B + rk (15, i + 2, 0) := by
      rw [hz]
      show _ = B + (shb (i + 2) + 1)
      omega
    have hnone : ∀ q, pS (i + 2) q → φ' q = none := fun q hq => by
      have hc := pS_c hq
      refine ((hs q (fun z => by subst z; simp at hc)).2 (fun z => ?_)).trans (hn q (Or.inl (Or.inr ⟨i, hi10, hq⟩)) (fun z => by subst z; simp at hc))
      rcases z with rfl | ⟨j, hj, hq2⟩
      · simp at hc
      · have := (pS_c hq2).2.symm.trans hc.2
        omega
    refine sh_iload_n (pc := 14) dX0_init_14 rfl ?_
    refine sh_iconst (v := 4) (pc := 15) dX0_init_15 rfl ?_
    refine sh_icmp_gt (tgt := 38) (pc := 16) dX0_init_16 (by decide) (fun h => absurd h (by show ¬ nI 4 < nI i; exact nI_nlt (by omega) (by decide))) (fun _ => ?_)
    refine sh_aload_n (pc := 19) dX0_init_19 rfl ?_
    refine sh_getf (pc := 20) (ci := 0) (k := 0) (fs := [sh_R (17, 0, 0), sh_I 0]) (v := sh_R (17, 0, 0)) dX0_init_20 fl_X0_11 cf_0 ((hs _ (by simp)).1 (Or.inl rfl)) rfl ?_
    refine sh_iload_n (pc := 23) dX0_init_23 rfl ?_
    refine sh_new (pc := 24) (ci := 6) (o := (6, i + 2, 0)) (q := (RX6, TX6, 5)) (fs := fs_6) dX0_init_24 rfl (cf_6 _ rfl) kl_X0_9 nn_X6 in_X6 df_6 (hnone _ (Or.inl (Or.inl rfl))) a1 ⟨by show 1 + 126 * i + 1 ≤ 631; omega, by show 5 + 787 * i + 5 ≤ 3940; omega⟩ rfl ?_
    refine sh_dup (pc := 27) dX0_init_27 rfl ?_
    refine sh_icall (pc := 28) (N := nX6_init) (b := (6, i + 2, 0)) (As := []) (st := [sh_R (6, i + 2, 0), sh_I (nI i), sh_R (17, 0, 0)]) dX0_init_28 ml_X0_17 ld_6 ii_X6_init rfl rfl ⟨by decide, by decide⟩ rfl rfl (Nat.le_of_ble_eq_true rfl) ⟨by show 1 + 126 * i + 1 + 125 ≤ 631; omega, by show 5 + 787 * i + 5 + 782 ≤ 3940; omega⟩ (i_X6 hB up_s (fun q hq hne => (up_n hne).trans (hnone q hq)) hz1) ?_
    rintro r φ1 sz1 ⟨rfl, rfl, hI⟩
    have n17 : ¬ pS (i + 2) (17, 0, 0) := fun h => by simpa using (pS_c h).1
    refine sh_aast (pc := 31) (t := 3) (ci := 6) (r := (RX6, TX6, 5)) dX0_init_31 rfl (((hI _ id).2 n17).trans ((up_n (by simp)).trans hr)) ((hI _ id).1 (Or.inl (Or.inl rfl))) rfl (vp_in_nI hi10 (by decide)) (rowTo_up (f := fun j => (6, j + 2, 0)) ib) ?_
    refine sh_iinc (v := nI (i + 1)) (ls' := [(1, sh_I (nI (i + 1))), (0, sh_R (0, 0, 0))]) (pc := 32) dX0_init_32 rfl (nI_1 i) (by decide) rfl ?_
    refine sh_goto (tgt := 14) (pc := 35) dX0_init_35 (by decide) ?_
    refine sh_sub (ls' := [(0, sh_R (0, 0, 0)), (1, sh_I (nI (i + 1)))]) (by simp) ?_
    refine sh_nums (by show 1 + 126 * i + 1 + 125 = 1 + 126 * (i + 1); omega) (by show 5 + 787 * i + 5 + 782 = 5 + 787 * (i + 1); omega) (by show sz + 1 + 126 * i + 1 + 125 = sz + 1 + 126 * (i + 1); omega) ?_
    refine ih (i + 1) (by omega) _ ?_ up_s
    have t1 := is_tr (is_ex (o := (6, i + 2, 0)) (c := .inl (6, fs_6)) (is_to (e' := fun q => q = (17, 0, 0) ∨ q = (6, i + 2, 0)) hs (fun q _ => Iff.rfl) (fun q h => Or.inl h)) (Or.inr rfl)) hI
    refine is_to (is_ex t1 ⟨Or.inl rfl, n17⟩) (fun q _ => ?_) (fun q h => h.1.elim id (fun z => absurd (Or.inl (Or.inl z)) h.2))
    rw [ex_succ (P := fun j => pS (j + 2) q), or_assoc]
set_option maxRecDepth 100000 in
set_option maxHeartbeats 4000000 in
theorem i_X0 {g : sh_G} {φ : sh_P} {sz B : Nat} (hB : sh_bas g B) (h0 : φ (0, 0, 0) = some (.inl (0, fs_0))) (hn : ∀ q, pH q → q ≠ (0, 0, 0) → φ q = none) (hz : sz = B + 254) : sh_Call g nX0_init [sh_R (0, 0, 0)] φ sz (sh_mkd pH φ (sz + 631)) := by
  have a1 : sh_ad g (17, 0, 0) = sz := (hB (17, 0, 0) (by decide)).trans hz.symm
  refine sh_enter (ls := [(0, sh_R (0, 0, 0))]) (by decide +kernel) (Nat.le_of_ble_eq_true rfl) rfl ?_
  refine sh_aload_n (pc := 0) dX0_init_0 rfl ?_
  refine sh_objinit (pc := 1) dX0_init_1 ml_X0_3 jw_obj.1 jw_obj.2 (by decide) (by decide) ?_
  refine sh_aload_n (pc := 4) dX0_init_4 rfl ?_
  refine sh_iconst (v := 5) (pc := 5) dX0_init_5 rfl ?_
  refine sh_newq (pc := 6) (t := 3) (C := RX6) (N' := 5) (o := (17, 0, 0)) dX0_init_6 kl_X0_9 ao_6 rfl (by decide) (by decide) (by decide) (hn _ (Or.inr rfl) (by simp)) a1 ⟨by decide, by decide⟩ rfl ?_
  refine sh_putF (pc := 9) (ci := 0) (k := 0) (fs := fs_0) dX0_init_9 fl_X0_11 cf_0 ft_0_0 rfl (fun q hq => by cases hq; rfl) rfl rfl ((up_n (by simp)).trans h0) (by decide) rfl ?_
  refine sh_iconst (v := 0) (pc := 12) dX0_init_12 rfl ?_
  refine sh_istore_n (ls' := [(1, sh_I 0), (0, sh_R (0, 0, 0))]) (pc := 13) dX0_init_13 (by decide) rfl ?_
  refine sh_sub (ls' := [(0, sh_R (0, 0, 0)), (1, sh_I (nI 0))]) (by simp [nI_0]) ?_
  refine sh_nums rfl rfl rfl (i_X0l hB hn hz 5 0 rfl _ ?_ ((up_n (by simp)).trans (up_s.trans ?_)))
  · have t1 := is_put (o := (0, 0, 0)) (c := .inl (0, fs_0.set 0 (sh_R (17, 0, 0)))) (is_ex (o := (17, 0, 0)) (c := .inr (.inr (.inr (3, 5, fun _ => none)))) (is_rf (e := fun q => q = (17, 0, 0)) (φ := φ)) rfl) rfl
    refine is_to t1 (fun q _ => ?_) (fun q h => h)
    rw [ex_zero (P := fun j => pS (j + 2) q)]
    simp only [or_comm]
  · congr 6
def pO (q : sh_O) : Prop := q = (18, 0, 0) ∨ q = (3, 0, 0)
set_option maxRecDepth 100000 in
set_option maxHeartbeats 4000000 in
theorem i_X3 {g : sh_G} {φ : sh_P} {sz B : Nat} (hB : sh_bas g B) (h0 : φ (3, 0, 0) = some (.inl (3, fs_3))) (h1 : φ (18, 0, 0) = none) (hz : sz = B + 886) : sh_Call g nX3_init [sh_R (3, 0, 0)] φ sz (sh_mkd pO φ (sz + 1)) := by
  refine sh_enter (ls := [(0, sh_R (3, 0, 0))]) (by decide +kernel) (Nat.le_of_ble_eq_true rfl) rfl ?_
  refine sh_aload_n (pc := 0) dX3_init_0 rfl ?_
  refine sh_objinit (pc := 1) dX3_init_1 ml_X3_3 jw_obj.1 jw_obj.2 (by decide) (by decide) ?_
  refine sh_aload_n (pc := 4) dX3_init_4 rfl ?_
  refine sh_bipush (v := 60) (pc := 5) dX3_init_5 rfl ?_
  refine sh_newi (pc := 7) (ty := .char) (t := 1) (N' := 60) (o := (18, 0, 0)) (c0 := .inr (.inr (.inl (60, fun _ => 0)))) dX3_init_7 rfl aw_char rfl rfl (Or.inr rfl) (by decide) (by decide) (by decide) h1 ((hB (18, 0, 0) (by decide)).trans hz.symm) ⟨by decide, by decide⟩ rfl ?_
  refine sh_putF (pc := 9) (ci := 3) (k := 0) (fs := fs_3) dX3_init_9 fl_X3_9 cf_3 ft_3_0 rfl (fun q hq => by cases hq; rfl) rfl rfl ((up_n (by simp)).trans h0) (by decide) rfl ?_
  exact sh_return (pc := 12) dX3_init_12 rfl ⟨rfl, rfl⟩ ⟨rfl, rfl, is_to (is_put (is_put is_rf rfl) rfl) (fun q _ => by unfold pO; simp only [false_or]) (fun _ h => h)⟩
/-- all that the class makes -/
def p8 (q : sh_O) : Prop := (((pS 0 q ∨ pS 1 q) ∨ pH q) ∨ pO q) ∨ q = (8, 0, 0)
theorem pH_c {q : sh_O} (h : pH q) : q.1 = 0 ∨ q.1 = 17 ∨ (2 ≤ q.2.1 ∧ (q.1 = 1 ∨ q.1 = 2 ∨ q.1 = 4 ∨ q.1 = 5 ∨ q.1 = 6 ∨ q.1 = 7 ∨ (10 ≤ q.1 ∧ q.1 ≤ 16))) := by
  rcases h with (rfl | ⟨j, -, hj⟩) | rfl
  · exact Or.inl rfl
  · have := pS_c hj
    exact Or.inr (Or.inr ⟨by omega, this.1⟩)
  · exact Or.inr (Or.inl rfl)
set_option maxRecDepth 100000 in
set_option maxHeartbeats 4000000 in
theorem i_X8 {g : sh_G} {φ : sh_P} {sz B : Nat} (hB : sh_bas g B) (h0 : φ (8, 0, 0) = some (.inl (8, fs_8))) (hn : ∀ q, p8 q → q ≠ (8, 0, 0) → φ q = none) (hz : sz = B + 1) : sh_Call g nX8_init [sh_R (8, 0, 0)] φ sz (sh_mkd p8 φ (sz + 886)) := by
  have k0 : shb 0 = 1 := rfl
  have k1 : shb 1 = 127 := rfl
  have c0 : ∀ q, pS 0 q → q.1 ≠ 8 := fun q h z => by have := (pS_c h).1; omega
  have c1 : ∀ q, pS 1 q → q.1 ≠ 8 := fun q h z => by have := (pS_c h).1; omega
  have cH : ∀ q, pH q → q.1 ≠ 8 := fun q h z => by have := pH_c h; omega
  have hn0 : ∀ q, pS 0 q → φ q = none := fun q hq => hn q (Or.inl (Or.inl (Or.inl (Or.inl hq)))) (fun z => c0 q hq (by rw [z]))
  have hn1 : ∀ q, pS 1 q → φ q = none := fun q hq => hn q (Or.inl (Or.inl (Or.inl (Or.inr hq)))) (fun z => c1 q hq (by rw [z]))
  have hnH : ∀ q, pH q → φ q = none := fun q hq => hn q (Or.inl (Or.inl (Or.inr hq))) (fun z => cH q hq (by rw [z]))
  refine sh_enter (ls := [(0, sh_R (8, 0, 0))]) (by decide +kernel) (Nat.le_of_ble_eq_true rfl) rfl ?_
  refine sh_aload_n (pc := 0) dX8_init_0 rfl ?_
  refine sh_objinit (pc := 1) dX8_init_1 ml_X8_1 jw_obj.1 jw_obj.2 (by decide) (by decide) ?_
  refine sh_aload_n (pc := 4) dX8_init_4 rfl ?_
  refine sh_new (pc := 5) (ci := 6) (o := (6, 0, 0)) (q := (RX6, TX6, 5)) (fs := fs_6) dX8_init_5 rfl (cf_6 _ rfl) kl_X8_7 nn_X6 in_X6 df_6 (hn0 _ (Or.inl (Or.inl rfl))) ((hB (6, 0, 0) (by decide)).trans hz.symm) ⟨by decide, by decide⟩ rfl ?_
  refine sh_dup (pc := 8) dX8_init_8 rfl ?_
  refine sh_icall (pc := 9) (N := nX6_init) (b := (6, 0, 0)) (As := []) (st := [sh_R (6, 0, 0), sh_R (8, 0, 0)]) dX8_init_9 ml_X8_9 ld_6 ii_X6_init rfl rfl ⟨by decide, by decide⟩ rfl rfl (Nat.le_of_ble_eq_true rfl) ⟨by decide, by decide⟩ (i_X6 hB up_s (fun q hq hne => (up_n hne).trans (hn0 q hq)) (by rw [hz]; rfl)) ?_
  rintro r φ1 sz1 ⟨rfl, rfl, hI1⟩
  have t1 := is_to (p' := pS 0) (e' := fun q => q = (8, 0, 0)) (is_tr (is_ex (o := (6, 0, 0)) (c := .inl (6, fs_6)) (is_rf (e := fun q => q = (6, 0, 0) ∨ q = (8, 0, 0)) (φ := φ)) (Or.inl rfl)) hI1) (fun q _ => ⟨fun h => h.elim False.elim id, Or.inr⟩) (fun q h => h.1.elim (fun z => absurd (Or.inl (Or.inl z)) h.2) id)
  have g1 : φ1 (8, 0, 0) = some (.inl (8, fs_8)) := ((hI1 _ id).2 (fun h => c0 _ h rfl)).trans ((up_n (by simp)).trans h0)
  refine sh_putF (pc := 12) (ci := 8) (k := 0) (fs := fs_8) dX8_init_12 fl_X8_10 cf_8 ft_8_0 rfl (fun q hq => by cases hq; rfl) rfl rfl g1 (by decide) rfl ?_
  have t1' := is_ex (o := (8, 0, 0)) (c := .inl (8, fs_8.set 0 (sh_R (6, 0, 0)))) t1 rfl
  have hn1' : ∀ q, pS 1 q → sh_up φ1 (8, 0, 0) (.inl (8, fs_8.set 0 (sh_R (6, 0, 0)))) q = none := fun q hq => ((t1' q (fun z => c1 q hq (by rw [z]))).2 (fun z => by have a := (pS_c z).2; have b := (pS_c hq).2; omega)).trans (hn1 q hq)
  refine sh_aload_n (pc := 15) dX8_init_15 rfl ?_
  refine sh_new (pc := 16) (ci := 6) (o := (6, 1, 0)) (q := (RX6, TX6, 5)) (fs := fs_6) dX8_init_16 rfl (cf_6 _ rfl) kl_X8_7 nn_X6 in_X6 df_6 (hn1' _ (Or.inl (Or.inl rfl))) ((hB (6, 1, 0) (by decide)).trans (by rw [hz]; rfl)) ⟨by decide, by decide⟩ rfl ?_
  refine sh_dup (pc := 19) dX8_init_19 rfl ?_
  refine sh_icall (pc := 20) (N := nX6_init) (b := (6, 1, 0)) (As := []) (st := [sh_R (6, 1, 0), sh_R (8, 0, 0)]) dX8_init_20 ml_X8_9 ld_6 ii_X6_init rfl rfl ⟨by decide, by decide⟩ rfl rfl (Nat.le_of_ble_eq_true rfl) ⟨by decide, by decide⟩ (i_X6 hB up_s (fun q hq hne => (up_n hne).trans (hn1' q hq)) (by rw [hz]; rfl)) ?_
  rintro r φ2 sz2 ⟨rfl, rfl, hI2⟩
  have t2 := is_to (p' := fun q => pS 0 q ∨ pS 1 q) (e' := fun q => q = (8, 0, 0)) (is_tr (is_ex (o := (6, 1, 0)) (c := .inl (6, fs_6)) (is_to (e' := fun q => q = (6, 1, 0) ∨ q = (8, 0, 0)) t1' (fun q _ => Iff.rfl) (fun q h => Or.inr h)) (Or.inl rfl)) hI2) (fun q _ => Iff.rfl) (fun q h => h.1.elim (fun z => absurd (Or.inl (Or.inl z)) h.2) id)
  have g2 : φ2 (8, 0, 0) = some (.inl (8, fs_8.set 0 (sh_R (6, 0, 0)))) := ((hI2 _ id).2 (fun h => c1 _ h rfl)).trans ((up_n (by simp)).trans up_s)
  refine sh_putF (pc := 23) (ci := 8) (k := 1) (fs := fs_8.set 0 (sh_R (6, 0, 0))) dX8_init_23 fl_X8_16 cf_8 ft_8_1 rfl (fun q hq => by cases hq; rfl) rfl rfl g2 (by decide) rfl ?_
  have t2' := is_ex (o := (8, 0, 0)) (c := .inl (8, (fs_8.set 0 (sh_R (6, 0, 0))).set 1 (sh_R (6, 1, 0)))) t2 rfl
  have hnH' : ∀ q, pH q → sh_up φ2 (8, 0, 0) (.inl (8, (fs_8.set 0 (sh_R (6, 0, 0))).set 1 (sh_R (6, 1, 0)))) q = none := fun q hq => ((t2' q (fun z => cH q hq (by rw [z]))).2 (fun z => by have b := pH_c hq; rcases z with z | z <;> have a := pS_c z <;> omega)).trans (hnH q hq)
  refine sh_aload_n (pc := 26) dX8_init_26 rfl ?_
  refine sh_new (pc := 27) (ci := 0) (o := (0, 0, 0)) (q := (RX0, TX0, 2)) (fs := fs_0) dX8_init_27 rfl (cf_0 _ rfl) kl_X8_19 nn_X0 in_X0 df_0 (hnH' _ (Or.inl (Or.inl rfl))) ((hB (0, 0, 0) (by decide)).trans (by rw [hz]; rfl)) ⟨by decide, by decide⟩ rfl ?_
  refine sh_dup (pc := 30) dX8_init_30 rfl ?_
  refine sh_icall (pc := 31) (N := nX0_init) (b := (0, 0, 0)) (As := []) (st := [sh_R (0, 0, 0), sh_R (8, 0, 0)]) dX8_init_31 ml_X8_21 ld_0 ii_X0_init rfl rfl ⟨by decide, by decide⟩ rfl rfl (Nat.le_of_ble_eq_true rfl) ⟨by decide, by decide⟩ (i_X0 hB up_s (fun q hq hne => (up_n hne).trans (hnH' q hq)) (by rw [hz])) ?_
  rintro r φ3 sz3 ⟨rfl, rfl, hI3⟩
  have t3 := is_to (p' := fun q => (pS 0 q ∨ pS 1 q) ∨ pH q) (e' := fun q => q = (8, 0, 0)) (is_tr (is_ex (o := (0, 0, 0)) (c := .inl (0, fs_0)) (is_to (e' := fun q => q = (0, 0, 0) ∨ q = (8, 0, 0)) t2' (fun q _ => Iff.rfl) (fun q h => Or.inr h)) (Or.inl rfl)) hI3) (fun q _ => Iff.rfl) (fun q h => h.1.elim (fun z => absurd (Or.inl (Or.inl z)) h.2) id)
  have g3 : φ3 (8, 0, 0) = some (.inl (8, (fs_8.set 0 (sh_R (6, 0, 0))).set 1 (sh_R (6, 1, 0)))) := ((hI3 _ id).2 (fun h => cH _ h rfl)).trans ((up_n (by simp)).trans up_s)
  refine sh_putF (pc := 34) (ci := 8) (k := 2) (fs := (fs_8.set 0 (sh_R (6, 0, 0))).set 1 (sh_R (6, 1, 0))) dX8_init_34 fl_X8_22 cf_8 ft_8_2 rfl (fun q hq => by cases hq; rfl) rfl rfl g3 (by decide) rfl ?_
  have t3' := is_ex (o := (8, 0, 0)) (c := .inl (8, ((fs_8.set 0 (sh_R (6, 0, 0))).set 1 (sh_R (6, 1, 0))).set 2 (sh_R (0, 0, 0)))) t3 rfl
  have hnO : ∀ q, pO q → sh_up φ3 (8, 0, 0) (.inl (8, ((fs_8.set 0 (sh_R (6, 0, 0))).set 1 (sh_R (6, 1, 0))).set 2 (sh_R (0, 0, 0)))) q = none := fun q hq => by
    have hc : q.1 = 18 ∨ q.1 = 3 := by rcases hq with rfl | rfl <;> simp
    refine ((t3' q (fun z => by subst z; simp at hc)).2 (fun z => ?_)).trans (hn q (Or.inl (Or.inr hq)) (fun z => by subst z; simp at hc))
    rcases z with (z | z) | z
    · have a := pS_c z
      omega
    · have a := pS_c z
      omega
    · have a := pH_c z
      omega
  refine sh_aload_n (pc := 37) dX8_init_37 rfl ?_
  refine sh_new (pc := 38) (ci := 3) (o := (3, 0, 0)) (q := (RX3, TX3, 6)) (fs := fs_3) dX8_init_38 rfl (cf_3 _ rfl) kl_X8_26 nn_X3 in_X3 df_3 (hnO _ (Or.inr rfl)) ((hB (3, 0, 0) (by decide)).trans (by rw [hz]; rfl)) ⟨by decide, by decide⟩ rfl ?_
  refine sh_dup (pc := 41) dX8_init_41 rfl ?_
  refine sh_icallN (pc := 42) (N := nX3_init) (b := (3, 0, 0)) (As := []) (st := [sh_R (3, 0, 0), sh_R (8, 0, 0)]) dX8_init_42 nl_X8_28 ld_3 ii_X3_init rfl rfl ⟨by decide, by decide⟩ rfl rfl (Nat.le_of_ble_eq_true rfl) ⟨by decide, by decide⟩ (i_X3 hB up_s ((up_n (by simp)).trans (hnO _ (Or.inl rfl))) (by rw [hz])) ?_
  rintro r φ4 sz4 ⟨rfl, rfl, hI4⟩
  have t4 := is_to (p' := fun q => ((pS 0 q ∨ pS 1 q) ∨ pH q) ∨ pO q) (e' := fun q => q = (8, 0, 0)) (is_tr (is_ex (o := (3, 0, 0)) (c := .inl (3, fs_3)) (is_to (e' := fun q => q = (3, 0, 0) ∨ q = (8, 0, 0)) t3' (fun q _ => Iff.rfl) (fun q h => Or.inr h)) (Or.inl rfl)) hI4) (fun q _ => Iff.rfl) (fun q h => h.1.elim (fun z => absurd (Or.inr z) h.2) id)
  have g4 : φ4 (8, 0, 0) = some (.inl (8, ((fs_8.set 0 (sh_R (6, 0, 0))).set 1 (sh_R (6, 1, 0))).set 2 (sh_R (0, 0, 0)))) := ((hI4 _ id).2 (by simp [pO])).trans ((up_n (by simp)).trans up_s)
  refine sh_putF (pc := 45) (ci := 8) (k := 3) (fs := ((fs_8.set 0 (sh_R (6, 0, 0))).set 1 (sh_R (6, 1, 0))).set 2 (sh_R (0, 0, 0))) dX8_init_45 fl_X8_29 cf_8 ft_8_3 rfl (fun q hq => by cases hq; rfl) rfl rfl g4 (by decide) rfl ?_
  exact sh_return (pc := 48) dX8_init_48 rfl ⟨rfl, rfl⟩ ⟨rfl, rfl, is_end (is_ex t4 rfl) (fun q hq => by subst hq; exact up_s) (fun q => Iff.rfl)⟩
