/-! the makers of the members, of a shed -/
abbrev fs_1 : List sh_v := [none]
section NUMS
variable {g : sh_G} {M : sh_M} {cells slots pc : Nat} {ls : List (Nat × sh_v)} {st : List sh_v} {φ φ' : sh_P} {sz : Nat} {Q : sh_T}
theorem sh_nums {c2 s2 z2 : Nat} (h : cells = c2) (h2 : slots = s2) (h3 : sz = z2) (k : sh_V g M c2 s2 pc ls st φ z2 Q) : sh_V g M cells slots pc ls st φ sz Q := by
  subst h h2 h3
  exact k
end NUMS
theorem ex_succ {i : Nat} {P : Nat → Prop} : (∃ j, j < i + 1 ∧ P j) ↔ (∃ j, j < i ∧ P j) ∨ P i :=
  ⟨fun ⟨j, hj, h⟩ => (Nat.lt_or_eq_of_le (Nat.le_of_lt_succ hj)).elim (fun z => Or.inl ⟨j, z, h⟩) (fun z => Or.inr (z ▸ h)), fun h => h.elim (fun ⟨j, hj, h⟩ => ⟨j, Nat.lt_succ_of_lt hj, h⟩) (fun h => ⟨i, Nat.lt_succ_self i, h⟩)⟩
theorem ex_zero {P : Nat → Prop} : (∃ j, j < 0 ∧ P j) ↔ False := ⟨fun ⟨_, h, _⟩ => absurd h (Nat.not_lt_zero _), False.elim⟩
/-- a row of references that is filled up to i -/
abbrev rowTo (t n i : Nat) (f : Nat → sh_O) : sh_c := .inr (.inr (.inr (t, n, fun j => if j < i then some (f j) else none)))
theorem rowTo_up {φ : sh_P} {o : sh_O} {t n i : Nat} {f : Nat → sh_O} (hi : i < 2 ^ 31) : sh_up φ o (.inr (.inr (.inr (t, n, va_up (fun j => if j < i then some (f j) else none) (nI i).toNatClampNeg (some (f i)))))) = sh_up φ o (rowTo t n (i + 1) f) := by
  congr 6
  funext j
  rw [nI_clamp hi]
  unfold va_up
  by_cases h : j = i
  · subst h
    rw [if_pos rfl, if_pos (Nat.lt_succ_self j)]
  · rw [if_neg h]
    by_cases h2 : j < i
    · exact (if_pos h2).trans (if_pos (Nat.lt_succ_of_lt h2)).symm
    · exact (if_neg h2).trans (if_neg (by omega)).symm
def pMs (k : Nat) (q : sh_O) : Prop := (q = (2, k, 0) ∨ q = (11, k, 0)) ∨ q = (12, k, 0) ∨ ∃ j, j < 10 ∧ pM k j q
theorem pM_c {k j : Nat} {q : sh_O} (h : pM k j q) : (q.1 = 1 ∨ q.1 = 10) ∧ q.2 = (k, j) := by
  rcases h with rfl | rfl <;> simp
theorem pMs_c {k : Nat} {q : sh_O} (h : pMs k q) : (q.1 = 1 ∨ q.1 = 2 ∨ q.1 = 10 ∨ q.1 = 11 ∨ q.1 = 12) ∧ q.2.1 = k := by
  rcases h with (rfl | rfl) | rfl | ⟨j, -, hj⟩
  · simp
  · simp
  · simp
  · have := pM_c hj
    refine ⟨?_, by rw [this.2]⟩
    rcases this.1 with h | h <;> simp [h]
theorem pT_c {k j : Nat} {q : sh_O} (h : pT k j q) : (q.1 = 4 ∨ q.1 = 5 ∨ q.1 = 7 ∨ q.1 = 13 ∨ q.1 = 14) ∧ q.2 = (k, j) := by
  rcases h with rfl | (rfl | rfl | rfl) | rfl <;> simp
set_option maxRecDepth 100000 in
set_option maxHeartbeats 4000000 in
theorem i_X2l {g : sh_G} {φ : sh_P} {sz B k : Nat} (hB : sh_bas g B) (hn : ∀ q, pMs k q → q ≠ (2, k, 0) → φ q = none) (hz : sz = B + rk (12, k, 0)) : ∀ n i, i + n = 10 → ∀ φ' : sh_P, is_C (fun q => (q = (2, k, 0) ∨ q = (11, k, 0)) ∨ ∃ j, j < i ∧ pM k j q) (fun q => q = (12, k, 0)) φ φ' → φ' (12, k, 0) = some (rowTo 2 10 i (fun j => (1, k, j))) →
    sh_V g nX2_init (2 + 2 * i) (20 + 13 * i) 23 [(0, sh_R (2, k, 0)), (1, sh_I (nI i))] [] φ' (sz + 2 + 2 * i) (sh_mkd (pMs k) φ (sz + 22)) := by
  have hz' : sz = B + (shb k + 3) := hz
  intro n
  induction n with
  | zero =>
    intro i hi φ' hs hr
    obtain rfl : i = 10 := hi
    refine sh_iload_n (pc := 23) dX2_init_23 rfl ?_
    refine sh_bipush (v := 10) (pc := 24) dX2_init_24 rfl ?_
    refine sh_icmp_ge (tgt := 48) (pc := 26) dX2_init_26 (by decide) (fun _ => ?_) (fun h => absurd (by decide +kernel) h)
    refine sh_swap (f' := fun j => some (1, k, j)) hr (fun j hj => if_pos hj) rfl ?_
    refine sh_return (pc := 48) dX2_init_48 rfl ⟨rfl, rfl⟩ ⟨rfl, rfl, ?_⟩
    refine is_end (is_ex hs rfl) (fun q hq => by subst hq; exact up_s) (fun q => ?_)
    unfold pMs
    simp only [or_assoc, or_comm, or_left_comm]
  | succ n ih =>
    intro i hi φ' hs hr
    have hi10 : i < 10 := by omega
    have ib : i < 2 ^ 31 := by omega
    have a1 : sh_ad g (1, k, i) = sz + 2 + 2 * i := by
      rw [hB (1, k, i) (by show (1 : Nat) < 25; omega), hz']
      show B + (shb k + 5 + 2 * i) = _
      omega
    have hz1 : sz + 2 + 2 * i + 1 = B + rk (10, k, i) := by
      rw [hz']
      show _ = B + (shb k + 6 + 2 * i)
      omega
    have hnone : ∀ q, pM k i q → φ' q = none := fun q hq => by
      have hc := pM_c hq
      refine ((hs q (fun z => by subst z; simp at hc)).2 (fun z => ?_)).trans (hn q (Or.inr (Or.inr ⟨i, hi10, hq⟩)) (fun z => by subst z; simp at hc))
      rcases z with (rfl | rfl) | ⟨j, hj, hq2⟩
      · simp at hc
      · simp at hc
      · have := (pM_c hq2).2.symm.trans hc.2
        simp at this
        omega
    refine sh_iload_n (pc := 23) dX2_init_23 rfl ?_
    refine sh_bipush (v := 10) (pc := 24) dX2_init_24 rfl ?_
    refine sh_icmp_ge (tgt := 48) (pc := 26) dX2_init_26 (by decide) (fun h => absurd h (nI_ge hi10 (by decide))) (fun _ => ?_)
    refine sh_aload_n (pc := 29) dX2_init_29 rfl ?_
    refine sh_getf (pc := 30) (ci := 2) (k := 0) (fs := [sh_R (12, k, 0), sh_R (11, k, 0), sh_I 0, sh_I 0, sh_I 0]) (v := sh_R (12, k, 0)) dX2_init_30 fl_X2_11 cf_2 ((hs _ (by simp)).1 (Or.inl (Or.inl rfl))) rfl ?_
    refine sh_iload_n (pc := 33) dX2_init_33 rfl ?_
    refine sh_new (pc := 34) (ci := 1) (o := (1, k, i)) (q := (RX1, TX1, 1)) (fs := fs_1) dX2_init_34 rfl (cf_1 _ rfl) kl_X2_9 nn_X1 in_X1 df_1 (hnone _ (Or.inl rfl)) a1 ⟨by show 2 + 2 * i + 1 ≤ 22; omega, by show 20 + 13 * i + 1 ≤ 150; omega⟩ rfl ?_
    refine sh_dup (pc := 37) dX2_init_37 rfl ?_
    refine sh_icallN (pc := 38) (N := nX1_init) (b := (1, k, i)) (As := []) (st := [sh_R (1, k, i), sh_I (nI i), sh_R (12, k, 0)]) dX2_init_38 nl_X2_21 ld_1 ii_X1_init rfl rfl ⟨by decide, by decide⟩ rfl rfl (Nat.le_of_ble_eq_true rfl) ⟨by show 2 + 2 * i + 1 + 1 ≤ 22; omega, by show 20 + 13 * i + 1 + 12 ≤ 150; omega⟩ (i_X1 hB up_s ((up_n (by simp)).trans (hnone _ (Or.inr rfl))) hz1) ?_
    rintro r φ1 sz1 ⟨rfl, rfl, hI⟩
    refine sh_aast (pc := 41) (t := 2) (ci := 1) (r := (RX1, TX1, 1)) dX2_init_41 rfl (((hI _ id).2 (by simp [pM])).trans ((up_n (by simp)).trans hr)) ((hI _ id).1 (Or.inl rfl)) rfl (vp_in_nI hi10 (by decide)) (rowTo_up ib) ?_
    refine sh_iinc (v := nI (i + 1)) (ls' := [(1, sh_I (nI (i + 1))), (0, sh_R (2, k, 0))]) (pc := 42) dX2_init_42 rfl (nI_1 i) (by decide) rfl ?_
    refine sh_goto (tgt := 23) (pc := 45) dX2_init_45 (by decide) ?_
    refine sh_sub (ls' := [(0, sh_R (2, k, 0)), (1, sh_I (nI (i + 1)))]) (by simp) ?_
    refine sh_nums (by show 2 + 2 * i + 1 + 1 = 2 + 2 * (i + 1); omega) (by show 20 + 13 * i + 1 + 12 = 20 + 13 * (i + 1); omega) (by show sz + 2 + 2 * i + 1 + 1 = sz + 2 + 2 * (i + 1); omega) ?_
    refine ih (i + 1) (by omega) _ ?_ up_s
    have t1 := is_tr (is_ex (o := (1, k, i)) (c := .inl (1, fs_1)) (is_to (e' := fun q => q = (12, k, 0) ∨ q = (1, k, i)) hs (fun q _ => Iff.rfl) (fun q h => Or.inl h)) (Or.inr rfl)) hI
    refine is_to (is_ex t1 ⟨Or.inl rfl, by simp [pM]⟩) (fun q _ => ?_) (fun q h => h.1.elim id (fun z => absurd (Or.inl z) h.2))
    rw [ex_succ, or_assoc]

set_option maxRecDepth 100000 in
set_option maxHeartbeats 4000000 in
theorem i_X2 {g : sh_G} {φ : sh_P} {sz B k : Nat} (hB : sh_bas g B) (h0 : φ (2, k, 0) = some (.inl (2, fs_2))) (hn : ∀ q, pMs k q → q ≠ (2, k, 0) → φ q = none) (hz : sz = B + rk (12, k, 0)) : sh_Call g nX2_init [sh_R (2, k, 0)] φ sz (sh_mkd (pMs k) φ (sz + 22)) := by
  have a1 : sh_ad g (12, k, 0) = sz := (hB (12, k, 0) (by show (12 : Nat) < 25; omega)).trans hz.symm
  have a2 : sh_ad g (11, k, 0) = sz + 1 := by
    rw [hB (11, k, 0) (by show (11 : Nat) < 25; omega), hz]
    rfl
  refine sh_enter (ls := [(0, sh_R (2, k, 0))]) (by decide +kernel) (Nat.le_of_ble_eq_true rfl) rfl ?_
  refine sh_aload_n (pc := 0) dX2_init_0 rfl ?_
  refine sh_objinit (pc := 1) dX2_init_1 ml_X2_3 jw_obj.1 jw_obj.2 (by decide) (by decide) ?_
  refine sh_aload_n (pc := 4) dX2_init_4 rfl ?_
  refine sh_bipush (v := 10) (pc := 5) dX2_init_5 rfl ?_
  refine sh_newq (pc := 7) (t := 2) (C := RX1) (N' := 10) (o := (12, k, 0)) dX2_init_7 kl_X2_9 ao_1 rfl (by decide) (by decide) (by decide) (hn _ (Or.inr (Or.inl rfl)) (by simp)) a1 ⟨by decide, by decide⟩ rfl ?_
  refine sh_putF (pc := 10) (ci := 2) (k := 0) (fs := fs_2) dX2_init_10 fl_X2_11 cf_2 ft_2_0 rfl (fun q hq => by cases hq; rfl) rfl rfl ((up_n (by simp)).trans h0) (by decide) rfl ?_
  refine sh_aload_n (pc := 13) dX2_init_13 rfl ?_
  refine sh_bipush (v := 10) (pc := 14) dX2_init_14 rfl ?_
  refine sh_newi (pc := 16) (ty := .int) (t := 0) (N' := 10) (o := (11, k, 0)) (c0 := .inr (.inl (10, fun _ => 0))) dX2_init_16 rfl aw_int rfl rfl (Or.inl rfl) (by decide) (by decide) (by decide) ((up_n (by simp)).trans ((up_n (by simp)).trans (hn _ (Or.inl (Or.inr rfl)) (by simp)))) a2 ⟨by decide, by decide⟩ rfl ?_
  refine sh_putF (pc := 18) (ci := 2) (k := 1) (fs := fs_2.set 0 (sh_R (12, k, 0))) dX2_init_18 fl_X2_17 cf_2 ft_2_1 rfl (fun q hq => by cases hq; rfl) rfl rfl ((up_n (by simp)).trans up_s) (Nat.le_of_ble_eq_true rfl) rfl ?_
  refine sh_iconst (v := 0) (pc := 21) dX2_init_21 rfl ?_
  refine sh_istore_n (ls' := [(1, sh_I 0), (0, sh_R (2, k, 0))]) (pc := 22) dX2_init_22 (by decide) rfl ?_
  refine sh_sub (ls' := [(0, sh_R (2, k, 0)), (1, sh_I (nI 0))]) (by simp [nI_0]) ?_
  refine sh_nums rfl rfl rfl (i_X2l hB hn hz 10 0 rfl _ ?_ ((up_n (by simp)).trans ((up_n (by simp)).trans ((up_n (by simp)).trans (up_s.trans ?_)))))
  · have t1 := is_put (o := (2, k, 0)) (c := .inl (2, (fs_2.set 0 (sh_R (12, k, 0))).set 1 (sh_R (11, k, 0)))) (is_put (o := (11, k, 0)) (c := .inr (.inl (10, fun _ => 0))) (is_ex (o := (2, k, 0)) (c := .inl (2, fs_2.set 0 (sh_R (12, k, 0)))) (is_ex (o := (12, k, 0)) (c := .inr (.inr (.inr (2, 10, fun _ => none)))) (is_rf (e := fun q => q = (12, k, 0) ∨ q = (2, k, 0)) (φ := φ)) (Or.inl rfl)) (Or.inr rfl)) rfl) rfl
    intro q hq
    by_cases h2 : q = (2, k, 0)
    · subst h2
      exact ⟨fun _ => up_s, fun z => absurd (Or.inl (Or.inl rfl)) z⟩
    · have := t1 q (fun z => z.elim hq h2)
      refine ⟨fun z => this.1 ?_, fun z => this.2 fun w => z ?_⟩
      · rcases z with (z | z) | z
        · exact absurd z h2
        · exact Or.inl (Or.inr z)
        · exact (ex_zero.mp z).elim
      · rcases w with (w | w) | w
        · exact w.elim
        · exact Or.inl (Or.inr w)
        · exact absurd w h2
  · congr 6
