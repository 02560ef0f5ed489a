/-! the law's body: both are made, then the script is played, five ints at a time -/
section LAW2
variable {g : sh_G} {S : sh_S} {sz b c : Nat} {Q : sh_T} {nm : String}
set_option maxRecDepth 100000 in
theorem law_go {x : Int32} (G : sh_GR b S) (hb : b + 2000000 ≤ sh_LIM) (hL : sh_L g ≤ 2560) (hi : 5 * c + 5 ≤ sh_L g) (ih : ∀ S2, sh_GR (b + 2000000) S2 → sh_V g (mL nm) 894 9877 1247 (law_ls c) [] (sh_St S2) sz Q) : sh_V g (mL nm) 894 9877 32 (law_ls c) [sh_I x] (sh_St S) sz Q := by
  by_cases hx : ∃ j, j < 37 ∧ x = nI j
  · obtain ⟨j, hj, rfl⟩ := hx
    match j, hj with
    | 0, _ => exact sh_tin 0 (pc := 32) (tgt := 196) dL_law_32 rfl (by decide) (by decide) rfl (by decide) (law_0 G hb hL hi ih)
    | 1, _ => exact sh_tin 1 (pc := 32) (tgt := 229) dL_law_32 rfl (by decide) (by decide) rfl (by decide) (law_1 G hb hL hi ih)
    | 2, _ => exact sh_tin 2 (pc := 32) (tgt := 242) dL_law_32 rfl (by decide) (by decide) rfl (by decide) (law_2 G hb hL hi ih)
    | 3, _ => exact sh_tin 3 (pc := 32) (tgt := 275) dL_law_32 rfl (by decide) (by decide) rfl (by decide) (law_3 G hb hL hi ih)
    | 4, _ => exact sh_tin 4 (pc := 32) (tgt := 298) dL_law_32 rfl (by decide) (by decide) rfl (by decide) (law_4 G hb hL hi ih)
    | 5, _ => exact sh_tin 5 (pc := 32) (tgt := 331) dL_law_32 rfl (by decide) (by decide) rfl (by decide) (law_5 G hb hL hi ih)
    | 6, _ => exact sh_tin 6 (pc := 32) (tgt := 364) dL_law_32 rfl (by decide) (by decide) rfl (by decide) (law_6 G hb hL hi ih)
    | 7, _ => exact sh_tin 7 (pc := 32) (tgt := 387) dL_law_32 rfl (by decide) (by decide) rfl (by decide) (law_7 G hb hL hi ih)
    | 8, _ => exact sh_tin 8 (pc := 32) (tgt := 410) dL_law_32 rfl (by decide) (by decide) rfl (by decide) (law_8 G hb hL hi ih)
    | 9, _ => exact sh_tin 9 (pc := 32) (tgt := 453) dL_law_32 rfl (by decide) (by decide) rfl (by decide) (law_9 G hb hL hi ih)
    | 10, _ => exact sh_tin 10 (pc := 32) (tgt := 496) dL_law_32 rfl (by decide) (by decide) rfl (by decide) (law_10 G hb hL hi ih)
    | 11, _ => exact sh_tin 11 (pc := 32) (tgt := 529) dL_law_32 rfl (by decide) (by decide) rfl (by decide) (law_11 G hb hL hi ih)
    | 12, _ => exact sh_tin 12 (pc := 32) (tgt := 552) dL_law_32 rfl (by decide) (by decide) rfl (by decide) (law_12 G hb hL hi ih)
    | 13, _ => exact sh_tin 13 (pc := 32) (tgt := 585) dL_law_32 rfl (by decide) (by decide) rfl (by decide) (law_13 G hb hL hi ih)
    | 14, _ => exact sh_tin 14 (pc := 32) (tgt := 608) dL_law_32 rfl (by decide) (by decide) rfl (by decide) (law_14 G hb hL hi ih)
    | 15, _ => exact sh_tin 15 (pc := 32) (tgt := 641) dL_law_32 rfl (by decide) (by decide) rfl (by decide) (law_15 G hb hL hi ih)
    | 16, _ => exact sh_tin 16 (pc := 32) (tgt := 664) dL_law_32 rfl (by decide) (by decide) rfl (by decide) (law_16 G hb hL hi ih)
    | 17, _ => exact sh_tin 17 (pc := 32) (tgt := 697) dL_law_32 rfl (by decide) (by decide) rfl (by decide) (law_17 G hb hL hi ih)
    | 18, _ => exact sh_tin 18 (pc := 32) (tgt := 710) dL_law_32 rfl (by decide) (by decide) rfl (by decide) (law_18 G hb hL hi ih)
    | 19, _ => exact sh_tin 19 (pc := 32) (tgt := 743) dL_law_32 rfl (by decide) (by decide) rfl (by decide) (law_19 G hb hL hi ih)
    | 20, _ => exact sh_tin 20 (pc := 32) (tgt := 766) dL_law_32 rfl (by decide) (by decide) rfl (by decide) (law_20 G hb hL hi ih)
    | 21, _ => exact sh_tin 21 (pc := 32) (tgt := 789) dL_law_32 rfl (by decide) (by decide) rfl (by decide) (law_21 G hb hL hi ih)
    | 22, _ => exact sh_tin 22 (pc := 32) (tgt := 812) dL_law_32 rfl (by decide) (by decide) rfl (by decide) (law_22 G hb hL hi ih)
    | 23, _ => exact sh_tin 23 (pc := 32) (tgt := 855) dL_law_32 rfl (by decide) (by decide) rfl (by decide) (law_23 G hb hL hi ih)
    | 24, _ => exact sh_tin 24 (pc := 32) (tgt := 878) dL_law_32 rfl (by decide) (by decide) rfl (by decide) (law_24 G hb hL hi ih)
    | 25, _ => exact sh_tin 25 (pc := 32) (tgt := 921) dL_law_32 rfl (by decide) (by decide) rfl (by decide) (law_25 G hb hL hi ih)
    | 26, _ => exact sh_tin 26 (pc := 32) (tgt := 964) dL_law_32 rfl (by decide) (by decide) rfl (by decide) (law_26 G hb hL hi ih)
    | 27, _ => exact sh_tin 27 (pc := 32) (tgt := 1007) dL_law_32 rfl (by decide) (by decide) rfl (by decide) (law_27 G hb hL hi ih)
    | 28, _ => exact sh_tin 28 (pc := 32) (tgt := 1040) dL_law_32 rfl (by decide) (by decide) rfl (by decide) (law_28 G hb hL hi ih)
    | 29, _ => exact sh_tin 29 (pc := 32) (tgt := 1093) dL_law_32 rfl (by decide) (by decide) rfl (by decide) (law_29 G hb hL hi ih)
    | 30, _ => exact sh_tin 30 (pc := 32) (tgt := 1116) dL_law_32 rfl (by decide) (by decide) rfl (by decide) (law_30 G hb hL hi ih)
    | 31, _ => exact sh_tin 31 (pc := 32) (tgt := 1139) dL_law_32 rfl (by decide) (by decide) rfl (by decide) (law_31 G hb hL hi ih)
    | 32, _ => exact sh_tin 32 (pc := 32) (tgt := 1162) dL_law_32 rfl (by decide) (by decide) rfl (by decide) (law_32 G hb hL hi ih)
    | 33, _ => exact sh_tin 33 (pc := 32) (tgt := 1175) dL_law_32 rfl (by decide) (by decide) rfl (by decide) (law_33 G hb hL hi ih)
    | 34, _ => exact sh_tin 34 (pc := 32) (tgt := 1198) dL_law_32 rfl (by decide) (by decide) rfl (by decide) (law_34 G hb hL hi ih)
    | 35, _ => exact sh_tin 35 (pc := 32) (tgt := 1211) dL_law_32 rfl (by decide) (by decide) rfl (by decide) (law_35 G hb hL hi ih)
    | 36, _ => exact sh_tin 36 (pc := 32) (tgt := 1234) dL_law_32 rfl (by decide) (by decide) rfl (by decide) (law_36 G hb hL hi ih)
    | j + 37, h => exact absurd h (by omega)
  · refine sh_tout 0 37 (pc := 32) (tgt := 1247) dL_law_32 (by decide) (by decide) (fun j hj z => hx ⟨j, hj, by rw [z, Nat.zero_add]⟩) (by decide) ?_
    exact ih S (GR_mono (Nat.le_add_right b 2000000) G)
/-- five more ints are there, as the law asks -/
theorem law_lim {L i : Nat} (hL : L ≤ 2560) (hi : i ≤ 2560) (h : ¬ nI L - 5 < nI i) : i + 5 ≤ L := by
  by_cases h5 : 5 ≤ L
  · obtain ⟨l, rfl⟩ : ∃ l, L = l + 5 := ⟨L - 5, by omega⟩
    have e : nI (l + 5) - 5 = nI l := by
      rw [← nI_add l 5]
      show nI l + 5 - 5 = nI l
      exact Int32.add_sub_cancel _ _
    rw [e] at h
    have : ¬ l < i := fun z => h (nI_lt (a := l) (b := i) z (by omega))
    omega
  · refine absurd ?_ h
    have h0 : (0 : Int32) ≤ nI i := nI_pos' (by omega)
    have hL4 : L = 0 ∨ L = 1 ∨ L = 2 ∨ L = 3 ∨ L = 4 := by omega
    rcases hL4 with rfl | rfl | rfl | rfl | rfl
    · exact Int32.lt_of_lt_of_le (by decide +kernel) h0
    · exact Int32.lt_of_lt_of_le (by decide +kernel) h0
    · exact Int32.lt_of_lt_of_le (by decide +kernel) h0
    · exact Int32.lt_of_lt_of_le (by decide +kernel) h0
    · exact Int32.lt_of_lt_of_le (by decide +kernel) h0
set_option maxRecDepth 100000 in
theorem law_loop (hL : sh_L g ≤ 2560) (hQ : ∀ φ sz1, Q (some (sh_I 1)) φ sz1) : ∀ n c S, sh_L g < 5 * c + n → 5 * c ≤ sh_L g → sh_GR (2000000 * c) S → sh_V g (mL nm) 894 9877 18 (law_ls c) [] (sh_St S) sz Q := by
  intro n
  induction n with
  | zero => exact fun c S h1 h2 _ => absurd h1 (by omega)
  | succ n ih =>
    intro c S h1 h2 G
    refine sh_iload_n (pc := 18) dL_law_18 rfl ?_
    refine sh_aload_n (pc := 19) dL_law_19 rfl ?_
    refine sh_slen (pc := 20) dL_law_20 ?_
    refine sh_iconst (v := 5) (pc := 21) dL_law_21 rfl ?_
    refine sh_isub (pc := 22) dL_law_22 ?_
    refine sh_icmp_gt (tgt := 1253) (pc := 23) dL_law_23 (by decide) (fun _ => ?_) (fun hlt => ?_)
    · refine sh_wid (c2 := 600000) (s2 := 7302250) ⟨by decide, by decide⟩ ?_
      refine sh_iconst (v := 1) (pc := 1253) dL_law_1253 rfl ?_
      exact sh_zreturn (ty := .boolean) (pc := 1254) dL_law_1254 rfl rfl ⟨rfl, rfl⟩ (hQ _ _)
    · have hi : 5 * c + 5 ≤ sh_L g := law_lim hL (by omega) hlt
      refine sh_aload_n (pc := 26) dL_law_26 rfl ?_
      refine sh_iload_n (pc := 27) dL_law_27 rfl ?_
      refine sh_sald (pc := 28) dL_law_28 (vp_in_nI (by omega) (by omega)) ?_
      refine sh_bipush (v := 63) (pc := 29) dL_law_29 rfl ?_
      refine sh_iand (pc := 31) dL_law_31 ?_
      refine law_go G (by unfold sh_LIM; omega) hL hi fun S2 G2 => ?_
      refine sh_iinc (v := nI (5 * (c + 1))) (ls' := [(3, sh_I (nI (5 * (c + 1)))), (0, sh_R (99, 0, 0)), (1, sh_R (8, 0, 0)), (2, sh_R (9, 0, 0))]) (pc := 1247) dL_law_1247 rfl (nI_add (5 * c) 5) (Nat.le_of_ble_eq_true rfl) rfl ?_
      refine sh_goto (tgt := 18) (pc := 1250) dL_law_1250 (by decide) ?_
      refine sh_sub (ls' := law_ls (c + 1)) (by simp) ?_
      exact ih (c + 1) S2 (by omega) (by omega) (by rw [show 2000000 * (c + 1) = 2000000 * c + 2000000 by omega]; exact G2)
theorem p8_c {q : sh_O} (h : p8 q) : q.1 ≤ 8 ∨ (10 ≤ q.1 ∧ q.1 ≤ 18) := by
  rcases h with (((h | h) | h) | (rfl | rfl)) | rfl
  · have := pS_c h; omega
  · have := pS_c h; omega
  · have := pH_c h; omega
  · simp
  · simp
  · simp
theorem p9_c {q : sh_O} (h : p9 q) : q.1 = 9 ∨ 19 ≤ q.1 := by
  rcases h with ((((rfl | rfl) | rfl) | rfl) | rfl) | (rfl | rfl) <;> simp
theorem pS_ok {k : Nat} {q : sh_O} (hk : k < 7) (h : pS k q) : sh_ok q := by
  rcases h with (rfl | rfl | ((rfl | rfl) | rfl | ⟨j, hj, (rfl | rfl)⟩)) | rfl | ⟨j, hj, (rfl | (rfl | rfl | rfl) | rfl)⟩
  all_goals first | exact ⟨hk, hj⟩ | exact ⟨hk, Nat.lt_succ_self 0⟩
theorem p8_ok {q : sh_O} (h : p8 q) : sh_ok q := by
  rcases h with (((h | h) | ((rfl | ⟨j, hj, h⟩) | rfl)) | (rfl | rfl)) | rfl
  · exact pS_ok (by omega) h
  · exact pS_ok (by omega) h
  · decide
  · exact pS_ok (by omega) h
  · decide
  · decide
  · decide
  · decide
theorem p9_ok {q : sh_O} (h : p9 q) : sh_ok q := by
  rcases h with ((((rfl | rfl) | rfl) | rfl) | rfl) | (rfl | rfl) <;> decide
theorem p8_S {k : Nat} {q : sh_O} (hk : k < 7) (h : pS k q) : p8 q := by
  match k, hk with
  | 0, _ => exact Or.inl (Or.inl (Or.inl (Or.inl h)))
  | 1, _ => exact Or.inl (Or.inl (Or.inl (Or.inr h)))
  | k + 2, hk => exact Or.inl (Or.inl (Or.inr (Or.inl (Or.inr ⟨k, by omega, h⟩))))
theorem ok_p {q : sh_O} (h : sh_ok q) : p8 q ∨ p9 q := by
  obtain ⟨a, k, j⟩ := q
  obtain ⟨h1, h2⟩ := h
  have z1 : ∀ n : Nat, n < 1 → n = 0 := fun n hn => by omega
  match a, h1, h2 with
  | 0, h1, h2 => rw [z1 k h1, z1 j h2]; exact Or.inl (Or.inl (Or.inl (Or.inr (Or.inl (Or.inl rfl)))))
  | 1, h1, h2 => exact Or.inl (p8_S h1 (Or.inl (Or.inr (Or.inr (Or.inr (Or.inr ⟨j, h2, Or.inl rfl⟩))))))
  | 2, h1, h2 => rw [z1 j h2]; exact Or.inl (p8_S h1 (Or.inl (Or.inr (Or.inr (Or.inl (Or.inl rfl))))))
  | 3, h1, h2 => rw [z1 k h1, z1 j h2]; exact Or.inl (Or.inl (Or.inr (Or.inr rfl)))
  | 4, h1, h2 => exact Or.inl (p8_S h1 (Or.inr (Or.inr ⟨j, h2, Or.inr (Or.inl (Or.inl rfl))⟩)))
  | 5, h1, h2 => exact Or.inl (p8_S h1 (Or.inr (Or.inr ⟨j, h2, Or.inr (Or.inr rfl)⟩)))
  | 6, h1, h2 => rw [z1 j h2]; exact Or.inl (p8_S h1 (Or.inl (Or.inl rfl)))
  | 7, h1, h2 => exact Or.inl (p8_S h1 (Or.inr (Or.inr ⟨j, h2, Or.inl rfl⟩)))
  | 8, h1, h2 => rw [z1 k h1, z1 j h2]; exact Or.inl (Or.inr rfl)
  | 9, h1, h2 => rw [z1 k h1, z1 j h2]; exact Or.inr (Or.inr (Or.inr rfl))
  | 10, h1, h2 => exact Or.inl (p8_S h1 (Or.inl (Or.inr (Or.inr (Or.inr (Or.inr ⟨j, h2, Or.inr rfl⟩))))))
  | 11, h1, h2 => rw [z1 j h2]; exact Or.inl (p8_S h1 (Or.inl (Or.inr (Or.inr (Or.inl (Or.inr rfl))))))
  | 12, h1, h2 => rw [z1 j h2]; exact Or.inl (p8_S h1 (Or.inl (Or.inr (Or.inr (Or.inr (Or.inl rfl))))))
  | 13, h1, h2 => exact Or.inl (p8_S h1 (Or.inr (Or.inr ⟨j, h2, Or.inr (Or.inl (Or.inr (Or.inl rfl)))⟩)))
  | 14, h1, h2 => exact Or.inl (p8_S h1 (Or.inr (Or.inr ⟨j, h2, Or.inr (Or.inl (Or.inr (Or.inr rfl)))⟩)))
  | 15, h1, h2 => rw [z1 j h2]; exact Or.inl (p8_S h1 (Or.inl (Or.inr (Or.inl rfl))))
  | 16, h1, h2 => rw [z1 j h2]; exact Or.inl (p8_S h1 (Or.inr (Or.inl rfl)))
  | 17, h1, h2 => rw [z1 k h1, z1 j h2]; exact Or.inl (Or.inl (Or.inl (Or.inr (Or.inr rfl))))
  | 18, h1, h2 => rw [z1 k h1, z1 j h2]; exact Or.inl (Or.inl (Or.inr (Or.inl rfl)))
  | 19, h1, h2 => rw [z1 k h1, z1 j h2]; exact Or.inr (Or.inr (Or.inl rfl))
  | 20, h1, h2 => rw [z1 k h1, z1 j h2]; exact Or.inr (Or.inl (Or.inl (Or.inl (Or.inl (Or.inl rfl)))))
  | 21, h1, h2 => rw [z1 k h1, z1 j h2]; exact Or.inr (Or.inl (Or.inl (Or.inl (Or.inl (Or.inr rfl)))))
  | 22, h1, h2 => rw [z1 k h1, z1 j h2]; exact Or.inr (Or.inl (Or.inl (Or.inl (Or.inr rfl))))
  | 23, h1, h2 => rw [z1 k h1, z1 j h2]; exact Or.inr (Or.inl (Or.inl (Or.inr rfl)))
  | 24, h1, h2 => rw [z1 k h1, z1 j h2]; exact Or.inr (Or.inl (Or.inr rfl))
  | a + 25, h1, h2 => exact absurd h1 (Nat.not_lt_zero k)
set_option maxRecDepth 100000 in
theorem law_body (hB : sh_bas g sz) (hL : sh_L g ≤ 2560) (hQ : ∀ φ sz1, Q (some (sh_I 1)) φ sz1) : sh_V g (mL nm) 0 0 0 [(0, sh_R (99, 0, 0))] [] (fun _ => none) sz Q := by
  refine sh_new (pc := 0) (ci := 8) (o := (8, 0, 0)) (q := (RX8, TX8, 4)) (fs := fs_8) dL_law_0 rfl (cf_8 _ rfl) kl_L_7 nn_X8 in_X8 df_8 rfl (hB (8, 0, 0) (by decide)) ⟨Nat.le_of_ble_eq_true rfl, Nat.le_of_ble_eq_true rfl⟩ rfl ?_
  refine sh_dup (pc := 3) dL_law_3 rfl ?_
  refine sh_icall (pc := 4) (N := nX8_init) (b := (8, 0, 0)) (As := []) (st := [sh_R (8, 0, 0)]) dL_law_4 ml_L_9 ld_8 ii_X8_init rfl rfl ⟨Nat.le_of_ble_eq_true rfl, Nat.le_of_ble_eq_true rfl⟩ rfl rfl (Nat.le_of_ble_eq_true rfl) ⟨Nat.le_of_ble_eq_true rfl, Nat.le_of_ble_eq_true rfl⟩ (i_X8 hB up_s (fun q hq hne => (up_n hne).trans rfl) rfl) ?_
  rintro r φ1 sz1 ⟨rfl, rfl, hI1⟩
  refine sh_astore_n (ls' := [(1, sh_R (8, 0, 0)), (0, sh_R (99, 0, 0))]) (pc := 7) dL_law_7 (Nat.le_of_ble_eq_true rfl) rfl ?_
  have n9 : ∀ q, p9 q → ¬ p8 q := fun q h h' => by
    have a := p9_c h
    have b := p8_c h'
    omega
  have hn9 : ∀ q, p9 q → φ1 q = none := fun q hq => ((hI1 q id).2 (n9 q hq)).trans ((up_n (fun z => by subst z; have := p9_c hq; simp at this)).trans rfl)
  refine sh_new (pc := 8) (ci := 9) (o := (9, 0, 0)) (q := (RX9, TX9, 14)) (fs := fs_9) dL_law_8 rfl (cf_9 _ rfl) kl_L_10 nn_X9 in_X9 df_9 (hn9 _ (Or.inr (Or.inr rfl))) ((hB (9, 0, 0) (by decide)).trans (by show sz + 887 = sz + 1 + 886; omega)) ⟨Nat.le_of_ble_eq_true rfl, Nat.le_of_ble_eq_true rfl⟩ rfl ?_
  refine sh_dup (pc := 11) dL_law_11 rfl ?_
  refine sh_icall (pc := 12) (N := nX9_init) (b := (9, 0, 0)) (As := []) (st := [sh_R (9, 0, 0)]) dL_law_12 ml_L_12 ld_9 ii_X9_init rfl rfl ⟨Nat.le_of_ble_eq_true rfl, Nat.le_of_ble_eq_true rfl⟩ rfl rfl (Nat.le_of_ble_eq_true rfl) ⟨Nat.le_of_ble_eq_true rfl, Nat.le_of_ble_eq_true rfl⟩ (i_X9 hB up_s (fun q hq hne => (up_n hne).trans (hn9 q hq)) (by omega)) ?_
  rintro r φ2 sz2 ⟨rfl, rfl, hI2⟩
  refine sh_astore_n (ls' := [(2, sh_R (9, 0, 0)), (1, sh_R (8, 0, 0)), (0, sh_R (99, 0, 0))]) (pc := 15) dL_law_15 (Nat.le_of_ble_eq_true rfl) rfl ?_
  refine sh_iconst (v := 0) (pc := 16) dL_law_16 rfl ?_
  refine sh_istore_n (ls' := [(3, sh_I 0), (2, sh_R (9, 0, 0)), (1, sh_R (8, 0, 0)), (0, sh_R (99, 0, 0))]) (pc := 17) dL_law_17 (Nat.le_of_ble_eq_true rfl) rfl ?_
  have e : φ2 = sh_St sh_S0 := by
    funext q
    by_cases h9 : p9 q
    · exact ((hI2 q id).1 h9).trans (if_pos (p9_ok h9)).symm
    · refine ((hI2 q id).2 h9).trans ((up_n (o := (9, 0, 0)) (fun z => h9 (by rw [z]; exact Or.inr (Or.inr rfl)))).trans ?_)
      by_cases h8 : p8 q
      · exact ((hI1 q id).1 h8).trans (if_pos (p8_ok h8)).symm
      · exact ((hI1 q id).2 h8).trans ((up_n (o := (8, 0, 0)) (fun z => h8 (by rw [z]; exact Or.inr rfl))).trans (if_neg (fun z => (ok_p z).elim h8 h9)).symm)
  rw [e]
  refine sh_sub (ls' := law_ls 0) (by simp [nI_0]) ?_
  exact law_loop hL hQ (sh_L g + 1) 0 sh_S0 (by omega) (by omega) GR_0
end LAW2
