/-! the makers of a shed, of the history -/
def pS (k : Nat) (q : sh_O) : Prop := (q = (6, k, 0) ∨ q = (15, k, 0) ∨ pMs k q) ∨ q = (16, k, 0) ∨ ∃ j, j < 20 ∧ pT k j q
theorem pS_c {k : Nat} {q : sh_O} (h : pS k q) : (q.1 = 1 ∨ q.1 = 2 ∨ q.1 = 4 ∨ q.1 = 5 ∨ q.1 = 6 ∨ q.1 = 7 ∨ (10 ≤ q.1 ∧ q.1 ≤ 16)) ∧ q.2.1 = k := by
  rcases h with (rfl | rfl | h) | rfl | ⟨j, -, h⟩
  · simp
  · simp
  · have := pMs_c h
    exact ⟨by omega, this.2⟩
  · simp
  · have := pT_c h
    exact ⟨by omega, by rw [this.2]⟩
set_option maxRecDepth 100000 in
set_option maxHeartbeats 4000000 in
theorem i_X6l {g : sh_G} {φ : sh_P} {sz B k : Nat} (hB : sh_bas g B) (hn : ∀ q, pS k q → q ≠ (6, k, 0) → φ q = none) (hz : sz = B + rk (15, k, 0)) : ∀ n i, i + n = 20 → ∀ φ' : sh_P, is_C (fun q => (q = (6, k, 0) ∨ q = (15, k, 0) ∨ pMs k q) ∨ ∃ j, j < i ∧ pT k j q) (fun q => q = (16, k, 0)) φ φ' → φ' (16, k, 0) = some (rowTo 4 20 i (fun j => (7, k, j))) →
    sh_V g nX6_init (25 + 5 * i) (182 + 30 * i) 48 [(0, sh_R (6, k, 0)), (1, sh_I (nI i))] [] φ' (sz + 25 + 5 * i) (sh_mkd (pS k) φ (sz + 125)) := by
  have hz' : sz = B + (shb k + 1) := hz
  intro n
  induction n with
  | zero =>
    intro i hi φ' hs hr
    obtain rfl : i = 20 := hi
    refine sh_iload_n (pc := 48) dX6_init_48 rfl ?_
    refine sh_bipush (v := 20) (pc := 49) dX6_init_49 rfl ?_
    refine sh_icmp_ge (tgt := 73) (pc := 51) dX6_init_51 (by decide) (fun _ => ?_) (fun h => absurd (by decide +kernel) h)
    refine sh_swap (f' := fun j => some (7, k, j)) hr (fun j hj => if_pos hj) rfl ?_
    refine sh_return (pc := 73) dX6_init_73 rfl ⟨rfl, rfl⟩ ⟨rfl, rfl, ?_⟩
    refine is_end (is_ex hs rfl) (fun q hq => by subst hq; exact up_s) (fun q => ?_)
    unfold pS
    simp only [or_assoc, or_comm, or_left_comm]
  | succ n ih =>
    intro i hi φ' hs hr
    have hi10 : i < 20 := by omega
    have ib : i < 2 ^ 31 := by omega
    have a1 : sh_ad g (7, k, i) = sz + 25 + 5 * i := by
      rw [hB (7, k, i) (by show (7 : Nat) < 25; omega), hz']
      show B + (shb k + 26 + 5 * i) = _
      omega
    have hz1 : sz + 25 + 5 * i + 1 = B + rk (4, k, i) := by
      rw [hz']
      show _ = B + (shb k + 27 + 5 * i)
      omega
    have hnone : ∀ q, pT k i q → φ' q = none := fun q hq => by
      have hc := pT_c hq
      refine ((hs q (fun z => by subst z; simp at hc)).2 (fun z => ?_)).trans (hn q (Or.inr (Or.inr ⟨i, hi10, hq⟩)) (fun z => by subst z; simp at hc))
      rcases z with (rfl | rfl | h) | ⟨j, hj, hq2⟩
      · simp at hc
      · simp at hc
      · have := pMs_c h
        omega
      · have := (pT_c hq2).2.symm.trans hc.2
        simp at this
        omega
    refine sh_iload_n (pc := 48) dX6_init_48 rfl ?_
    refine sh_bipush (v := 20) (pc := 49) dX6_init_49 rfl ?_
    refine sh_icmp_ge (tgt := 73) (pc := 51) dX6_init_51 (by decide) (fun h => absurd h (nI_ge hi10 (by decide))) (fun _ => ?_)
    refine sh_aload_n (pc := 54) dX6_init_54 rfl ?_
    refine sh_getf (pc := 55) (ci := 6) (k := 2) (fs := [sh_R (15, k, 0), sh_R (2, k, 0), sh_R (16, k, 0), sh_I 0, sh_I 0]) (v := sh_R (16, k, 0)) dX6_init_55 fl_X6_24 cf_6 ((hs _ (by simp)).1 (Or.inl (Or.inl rfl))) rfl ?_
    refine sh_iload_n (pc := 58) dX6_init_58 rfl ?_
    refine sh_new (pc := 59) (ci := 7) (o := (7, k, i)) (q := (RX7, TX7, 14)) (fs := fs_7) dX6_init_59 rfl (cf_7 _ rfl) kl_X6_22 nn_X7 in_X7 df_7 (hnone _ (Or.inl rfl)) a1 ⟨by show 25 + 5 * i + 1 ≤ 125; omega, by show 182 + 30 * i + 14 ≤ 782; omega⟩ rfl ?_
    refine sh_dup (pc := 62) dX6_init_62 rfl ?_
    refine sh_icallN (pc := 63) (N := nX7_init) (b := (7, k, i)) (As := []) (st := [sh_R (7, k, i), sh_I (nI i), sh_R (16, k, 0)]) dX6_init_63 nl_X6_37 ld_7 ii_X7_init rfl rfl ⟨by decide, by decide⟩ rfl rfl (Nat.le_of_ble_eq_true rfl) ⟨by show 25 + 5 * i + 1 + 4 ≤ 125; omega, by show 182 + 30 * i + 14 + 16 ≤ 782; omega⟩ (i_X7 hB up_s (fun q hq hne => (up_n hne).trans (hnone q hq)) hz1) ?_
    rintro r φ1 sz1 ⟨rfl, rfl, hI⟩
    refine sh_aast (pc := 66) (t := 4) (ci := 7) (r := (RX7, TX7, 14)) dX6_init_66 rfl (((hI _ id).2 (by simp [pT, pP])).trans ((up_n (by simp)).trans hr)) ((hI _ id).1 (Or.inl rfl)) rfl (vp_in_nI hi10 (by decide)) (rowTo_up ib) ?_
    refine sh_iinc (v := nI (i + 1)) (ls' := [(1, sh_I (nI (i + 1))), (0, sh_R (6, k, 0))]) (pc := 67) dX6_init_67 rfl (nI_1 i) (by decide) rfl ?_
    refine sh_goto (tgt := 48) (pc := 70) dX6_init_70 (by decide) ?_
    refine sh_sub (ls' := [(0, sh_R (6, k, 0)), (1, sh_I (nI (i + 1)))]) (by simp) ?_
    refine sh_nums (by show 25 + 5 * i + 1 + 4 = 25 + 5 * (i + 1); omega) (by show 182 + 30 * i + 14 + 16 = 182 + 30 * (i + 1); omega) (by show sz + 25 + 5 * i + 1 + 4 = sz + 25 + 5 * (i + 1); omega) ?_
    refine ih (i + 1) (by omega) _ ?_ up_s
    have t1 := is_tr (is_ex (o := (7, k, i)) (c := .inl (7, fs_7)) (is_to (e' := fun q => q = (16, k, 0) ∨ q = (7, k, i)) hs (fun q _ => Iff.rfl) (fun q h => Or.inl h)) (Or.inr rfl)) hI
    refine is_to (is_ex t1 ⟨Or.inl rfl, by simp [pT, pP]⟩) (fun q _ => ?_) (fun q h => h.1.elim id (fun z => absurd (Or.inl z) h.2))
    rw [ex_succ, or_assoc (a := q = (6, k, 0) ∨ _)]
set_option maxRecDepth 100000 in
set_option maxHeartbeats 4000000 in
theorem i_X6 {g : sh_G} {φ : sh_P} {sz B k : Nat} (hB : sh_bas g B) (h0 : φ (6, k, 0) = some (.inl (6, fs_6))) (hn : ∀ q, pS k q → q ≠ (6, k, 0) → φ q = none) (hz : sz = B + rk (15, k, 0)) : sh_Call g nX6_init [sh_R (6, k, 0)] φ sz (sh_mkd (pS k) φ (sz + 125)) := by
  have hz' : sz = B + (shb k + 1) := hz
  have a1 : sh_ad g (15, k, 0) = sz := (hB (15, k, 0) (by show (15 : Nat) < 25; omega)).trans hz.symm
  have a2 : sh_ad g (2, k, 0) = sz + 1 := by
    rw [hB (2, k, 0) (by show (2 : Nat) < 25; omega), hz]
    rfl
  have hz2 : sz + 1 + 1 = B + rk (12, k, 0) := by
    rw [hz]
    rfl
  have a3 : sh_ad g (16, k, 0) = sz + 1 + 1 + 22 := by
    rw [hB (16, k, 0) (by show (16 : Nat) < 25; omega), hz']
    show B + (shb k + 25) = _
    omega
  refine sh_enter (ls := [(0, sh_R (6, k, 0))]) (by decide +kernel) (Nat.le_of_ble_eq_true rfl) rfl ?_
  refine sh_aload_n (pc := 0) dX6_init_0 rfl ?_
  refine sh_objinit (pc := 1) dX6_init_1 ml_X6_3 jw_obj.1 jw_obj.2 (by decide) (by decide) ?_
  refine sh_aload_n (pc := 4) dX6_init_4 rfl ?_
  refine sh_bipush (v := 7) (pc := 5) dX6_init_5 rfl ?_
  refine sh_newi (pc := 7) (ty := .int) (t := 0) (N' := 7) (o := (15, k, 0)) (c0 := .inr (.inl (7, fun _ => 0))) dX6_init_7 rfl aw_int rfl rfl (Or.inl rfl) (by decide) (by decide) (by decide) (hn _ (Or.inl (Or.inr (Or.inl rfl))) (by simp)) a1 ⟨by decide, by decide⟩ rfl ?_
  refine sh_putF (pc := 9) (ci := 6) (k := 0) (fs := fs_6) dX6_init_9 fl_X6_9 cf_6 ft_6_0 rfl (fun q hq => by cases hq; rfl) rfl rfl ((up_n (by simp)).trans h0) (by decide) rfl ?_
  have t1 := is_ex (o := (6, k, 0)) (c := .inl (6, fs_6.set 0 (sh_R (15, k, 0)))) (is_ex (o := (15, k, 0)) (c := .inr (.inl (7, fun _ => 0))) (is_rf (e := fun q => q = (15, k, 0) ∨ q = (6, k, 0)) (φ := φ)) (Or.inl rfl)) (Or.inr rfl)
  have g6 : sh_up (sh_up φ (15, k, 0) (.inr (.inl (7, fun _ => 0)))) (6, k, 0) (.inl (6, fs_6.set 0 (sh_R (15, k, 0)))) (6, k, 0) = some (.inl (6, fs_6.set 0 (sh_R (15, k, 0)))) := up_s
  have g15 : sh_up (sh_up φ (15, k, 0) (.inr (.inl (7, fun _ => 0)))) (6, k, 0) (.inl (6, fs_6.set 0 (sh_R (15, k, 0)))) (15, k, 0) = some (.inr (.inl (7, fun _ => 0))) := (up_n (by simp)).trans up_s
  revert t1 g6 g15
  show is_C _ _ φ (sh_up (sh_up φ (15, k, 0) (.inr (.inl (7, fun _ => 0)))) (6, k, 0) (.inl (6, fs_6.set 0 (sh_R (15, k, 0))))) → _
  generalize sh_up (sh_up φ (15, k, 0) (.inr (.inl (7, fun _ => 0)))) (6, k, 0) (.inl (6, fs_6.set 0 (sh_R (15, k, 0)))) = φ1
  intro t1 g6 g15
  have hn1 : ∀ q, pMs k q → φ1 q = none := fun q hq => by
    have hc := (pMs_c hq).1
    exact ((t1 q (fun z => by rcases z with rfl | rfl <;> simp at hc)).2 id).trans (hn q (Or.inl (Or.inr (Or.inr hq))) (fun z => by subst z; simp at hc))
  refine sh_aload_n (pc := 12) dX6_init_12 rfl ?_
  refine sh_new (pc := 13) (ci := 2) (o := (2, k, 0)) (q := (RX2, TX2, 5)) (fs := fs_2) dX6_init_13 rfl (cf_2 _ rfl) kl_X6_15 nn_X2 in_X2 df_2 (hn1 _ (Or.inl (Or.inl rfl))) a2 ⟨by decide, by decide⟩ rfl ?_
  refine sh_dup (pc := 16) dX6_init_16 rfl ?_
  refine sh_icall (pc := 17) (N := nX2_init) (b := (2, k, 0)) (As := []) (st := [sh_R (2, k, 0), sh_R (6, k, 0)]) dX6_init_17 ml_X6_17 ld_2 ii_X2_init rfl rfl ⟨by decide, by decide⟩ rfl rfl (Nat.le_of_ble_eq_true rfl) ⟨by decide, by decide⟩ (i_X2 hB up_s (fun q hq hne => (up_n hne).trans (hn1 q hq)) hz2) ?_
  rintro r φ2 sz1 ⟨rfl, rfl, hI⟩
  have t2 := is_tr (is_ex (o := (2, k, 0)) (c := .inl (2, fs_2)) (is_to (e' := fun q => (q = (15, k, 0) ∨ q = (6, k, 0)) ∨ q = (2, k, 0)) t1 (fun q _ => Iff.rfl) (fun q h => Or.inl h)) (Or.inr rfl)) hI
  have t3 := is_to (p' := pMs k) (e' := fun q => q = (15, k, 0) ∨ q = (6, k, 0)) t2 (fun q _ => ⟨fun h => h.elim False.elim id, Or.inr⟩) (fun q h => h.1.elim id (fun z => absurd (Or.inl (Or.inl z)) h.2))
  have n6 : ¬ pMs k (6, k, 0) := fun h => by simpa using (pMs_c h).1
  have n15 : ¬ pMs k (15, k, 0) := fun h => by simpa using (pMs_c h).1
  have n16 : ¬ pMs k (16, k, 0) := fun h => by simpa using (pMs_c h).1
  have h6 : φ2 (6, k, 0) = some (.inl (6, fs_6.set 0 (sh_R (15, k, 0)))) := ((hI _ id).2 n6).trans ((up_n (by simp)).trans g6)
  have h15 : φ2 (15, k, 0) = some (.inr (.inl (7, fun _ => 0))) := ((hI _ id).2 n15).trans ((up_n (by simp)).trans g15)
  have h16 : φ2 (16, k, 0) = none := ((t3 _ (by simp)).2 n16).trans (hn _ (Or.inr (Or.inl rfl)) (by simp))
  refine sh_putF (pc := 20) (ci := 6) (k := 1) (fs := fs_6.set 0 (sh_R (15, k, 0))) dX6_init_20 fl_X6_18 cf_6 ft_6_1 rfl (fun q hq => by cases hq; rfl) rfl rfl h6 (Nat.le_of_ble_eq_true rfl) rfl ?_
  refine sh_aload_n (pc := 23) dX6_init_23 rfl ?_
  refine sh_bipush (v := 20) (pc := 24) dX6_init_24 rfl ?_
  refine sh_newq (pc := 26) (t := 4) (C := RX7) (N' := 20) (o := (16, k, 0)) dX6_init_26 kl_X6_22 ao_7 rfl (by decide) (by decide) (by decide) ((up_n (by simp)).trans h16) a3 ⟨by decide, by decide⟩ rfl ?_
  refine sh_putF (pc := 29) (ci := 6) (k := 2) (fs := (fs_6.set 0 (sh_R (15, k, 0))).set 1 (sh_R (2, k, 0))) dX6_init_29 fl_X6_24 cf_6 ft_6_2 rfl (fun q hq => by cases hq; rfl) rfl rfl ((up_n (by simp)).trans up_s) (Nat.le_of_ble_eq_true rfl) rfl ?_
  refine sh_sgetN (pc := 32) (i := 2) dX6_init_32 nl_X6_28 (by decide) ?_
  refine sh_iconst (v := 0) (pc := 35) dX6_init_35 rfl ?_
  refine sh_aload_n (pc := 36) dX6_init_36 rfl ?_
  refine sh_getf (pc := 37) (ci := 6) (k := 0) (fs := ((fs_6.set 0 (sh_R (15, k, 0))).set 1 (sh_R (2, k, 0))).set 2 (sh_R (16, k, 0))) (v := sh_R (15, k, 0)) dX6_init_37 fl_X6_9 cf_6 up_s rfl ?_
  refine sh_iconst (v := 0) (pc := 40) dX6_init_40 rfl ?_
  refine sh_bipush (v := 7) (pc := 41) dX6_init_41 rfl ?_
  refine sh_copyS (pc := 43) (i := 2) (o := (15, k, 0)) (n1 := 7) (h := fun _ => 0) dX6_init_43 (cw_X6_31 rfl) (by decide) ((up_n (by simp)).trans ((up_n (by simp)).trans ((up_n (by simp)).trans h15))) (by decide) (by decide) (by decide) (by decide) (by decide) (by decide) (by decide) rfl ?_
  refine sh_iconst (v := 0) (pc := 46) dX6_init_46 rfl ?_
  refine sh_istore_n (ls' := [(1, sh_I 0), (0, sh_R (6, k, 0))]) (pc := 47) dX6_init_47 (by decide) rfl ?_
  refine sh_sub (ls' := [(0, sh_R (6, k, 0)), (1, sh_I (nI 0))]) (by simp [nI_0]) ?_
  refine sh_nums rfl rfl (by show sz + 1 + 1 + 22 + 1 = sz + 25 + 5 * 0; omega) (i_X6l hB hn hz 20 0 rfl _ ?_ ((up_n (by simp)).trans ((up_n (by simp)).trans (up_s.trans ?_))))
  · have t4 := is_to (e' := fun q => q = (15, k, 0) ∨ q = (6, k, 0) ∨ q = (16, k, 0)) t3 (fun q _ => Iff.rfl) (fun q h => h.elim Or.inl (fun h => Or.inr (Or.inl h)))
    have t5 := is_ex (o := (15, k, 0)) (c := .inr (.inl (7, va_cpy (sh_sf 2) (fun _ => 0) (0 : Int32).toNatClampNeg (0 : Int32).toNatClampNeg (7 : Int32).toNatClampNeg))) (is_ex (o := (6, k, 0)) (c := .inl (6, ((fs_6.set 0 (sh_R (15, k, 0))).set 1 (sh_R (2, k, 0))).set 2 (sh_R (16, k, 0)))) (is_ex (o := (16, k, 0)) (c := .inr (.inr (.inr (4, 20, fun _ => none)))) (is_ex (o := (6, k, 0)) (c := .inl (6, (fs_6.set 0 (sh_R (15, k, 0))).set 1 (sh_R (2, k, 0)))) t4 (Or.inr (Or.inl rfl))) (Or.inr (Or.inr rfl))) (Or.inr (Or.inl rfl))) (Or.inl rfl)
    intro q hq
    by_cases h2 : q = (6, k, 0)
    · subst h2
      exact ⟨fun _ => (up_n (by simp)).trans up_s, fun z => absurd (Or.inl (Or.inl rfl)) z⟩
    · by_cases h3 : q = (15, k, 0)
      · subst h3
        exact ⟨fun _ => up_s, fun z => absurd (Or.inl (Or.inr (Or.inl rfl))) z⟩
      · have := t5 q (fun z => z.elim h3 (fun z => z.elim h2 hq))
        refine ⟨fun z => this.1 ?_, fun z => this.2 fun w => z (Or.inl (Or.inr (Or.inr w)))⟩
        rcases z with (z | z | z) | z
        · exact absurd z h2
        · exact absurd z h3
        · exact z
        · exact (ex_zero.mp z).elim
  · congr 6
