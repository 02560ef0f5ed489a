theorem ct2_pos {P : Nat → Int32} {but : Int32} {m : Nat} (hm : m < nM P) (hb : nI m ≠ but) (hg : pm P m 0 ≠ 2) : 0 < sh_ct2 P but := by
  refine Nat.pos_of_ne_zero fun z => ?_
  have := cnt_pos.mp z m hm
  rw [sh_tk, decide_eq_true ⟨hm, hb, hg⟩] at this
  exact Bool.noConfusion this
theorem nI_neg1 {m : Nat} (h : m < 2 ^ 31) : nI m ≠ -1 := fun z => by
  have := nI_pos h
  rw [z] at this
  exact this (by decide)
theorem dec_nn {a b c : Int32} : ¬ sh_dec a b c < 0 := by
  unfold sh_dec
  split
  · rename_i h; exact h.1
  · split
    · rename_i h; exact h.1
    · split <;> decide
section MOPS5
variable {g : sh_G} {S : sh_S} {P : Nat → Int32} {sz b : Nat} {Q : Int32 → sh_S → Prop} {U : sh_S → Prop}
theorem c_decided {t : Int32} (i : Nat) (ht : t = nI i) (hi : i < 20) (h : Q (sh_dec (pt P i 15) (pt P i 16) (pt P i 17)) (sh_mp S P)) : sh_Ci g mX9_decided [sh_R (9, 0, 0), sh_I t] (sh_mp S P) sz Q := by
  refine wp_X9_decided (c_its i 15 ht rfl hi (by omega) (c_its i 16 ht rfl hi (by omega) (c_its i 17 ht rfl hi (by omega) ?_)))
  have h : Q (sh_dec (P (142 + 23 * i + 15)) (P (142 + 23 * i + 16)) (P (142 + 23 * i + 17))) (sh_mp S P) := h
  generalize P (142 + 23 * i + 15) = a at h ⊢
  generalize P (142 + 23 * i + 16) = b at h ⊢
  generalize P (142 + 23 * i + 17) = c at h ⊢
  unfold sh_dec at h
  by_cases ha : a < 0 <;> by_cases hb : b < 0 <;> by_cases hc : c < 0 <;> by_cases e1 : a = b <;> by_cases e2 : a = c <;> by_cases e3 : b = c <;> simp_all <;> (try simp [Int32.not_lt.mpr ha]) <;> (try simp [Int32.not_lt.mpr hb]) <;> (try simp [Int32.not_lt.mpr hc])
theorem c_paysFor (B : sh_B P) {t w : Int32} (i v m : Nat) (ht : t = nI i) (hi : i < nT P) (hv : v ≤ 400) (ev : pt P i 1 = nI v) (hm : m < nM P) (em : pt P i 4 = nI m) (h1 : 0 < sh_ct2 P (-1)) (h2 : 0 < sh_ct2 P (nI m)) (h : U (sh_mp S (f_pay P i w))) : sh_Cu g mX9_paysFor [sh_R (9, 0, 0), sh_I t, sh_I w] (sh_mp S P) sz U := by
  have htl := B.tl
  have hl := B.ml
  have ev' : P (142 + 23 * i + 1) = nI v := ev
  have em' : P (142 + 23 * i + 4) = nI m := em
  unfold f_pay at h
  rw [em, ev, nI_clamp (by omega), nI_clamp (by omega)] at h
  refine wp_X9_paysFor (c_its i 4 ht rfl (by omega) (by omega) (c_its i 1 ht rfl (by omega) (by omega) ?_))
  rw [ev', em']
  refine ⟨fun c => ⟨fun c2 => ?_, fun c2 => ?_⟩, fun c => ?_⟩
  · rw [if_neg c, if_neg c2] at h
    refine c_charges m 1 rfl rfl (by omega) (by omega) (c_shared (B_wr B m _) (v / 2) 1 (pk_div (d := 2) (by omega) (by omega) (by omega)) (by omega) (.inl ⟨rfl, by omega⟩) ?_ (c_lay0 i 3 ht rfl (by omega) (by omega) (c_layR i 18 ht rfl (by omega) (by omega) h)))
    rw [ct2_congr (P := P) nM_wr (fun k hk hne => ?_)]
    · exact h2
    · have : k ≠ m := fun z => hne (by rw [z])
      show sh_wr _ _ _ _ = 2 ↔ _
      rw [wr_out (by omega)]
  · rw [if_neg c, if_pos c2] at h
    exact c_shared B v 1 rfl (by omega) (.inl ⟨rfl, by omega⟩) h1 (c_lay0 i 3 ht rfl (by omega) (by omega) (c_layR i 18 ht rfl (by omega) (by omega) h))
  · rw [if_pos c] at h
    exact c_charges m 1 rfl rfl (by omega) (by omega) (c_lay0 i 3 ht rfl (by omega) (by omega) (c_layR i 18 ht rfl (by omega) (by omega) h))
theorem pl_nat {t : Nat} {m : Int32} (h : ¬ sh_pl P t m < 0) : ∃ j, j < 3 ∧ pt P t (12 + j) = m ∧ sh_pl P t m = nI j := by
  rcases fnd_cases (fun j => decide (pt P t (12 + j) = m)) 3 (-1) with ⟨i, h1, h2, h3, h4⟩ | ⟨h1, h4⟩
  · exact ⟨i, h1, of_decide_eq_true h2, h4⟩
  · rw [sh_pl, h4] at h; exact absurd (by decide) h
theorem c_say (hs : sh_ss S) (I : sh_IP P b) {t m w : Int32} (h : sh_go Q S P (o_say P t m w)) : sh_Ci g mX9_say [sh_R (9, 0, 0), sh_I t, sh_I m, sh_I w] (sh_mp S P) sz Q := by
  unfold o_say at h
  have htl := I.tl20
  have hl := I.ml
  refine wp_X9_say (c_isTool I.B (wb (fun c => ?_) (fun c => c_isMember I.B (wb (fun c2 => ?_) (fun c2 => c_inb (wb' (fun c3 => ?_) (fun c3 => ?_)))))))
  · rw [if_neg (by rw [c]; exact fun z => Bool.noConfusion z.1)] at h
    exact h.1 (show (-1000001 : Int32) < 0 by decide)
  · rw [if_neg (by rw [c2]; exact fun z => Bool.noConfusion z.2.1)] at h
    exact h.1 (show (-1000001 : Int32) < 0 by decide)
  · rw [if_neg (by rw [c3]; exact fun z => Bool.noConfusion z.2.2)] at h
    exact h.1 (show (-1000001 : Int32) < 0 by decide)
  · rw [if_pos ⟨c, c2, c3⟩] at h
    obtain ⟨i, hi, rfl⟩ := I.B.tB_t c
    rw [nI_clamp (by omega)] at h
    have hno : ¬ (pt P i 3 = 2 ∧ ¬ sh_pl P i m < 0 ∧ pt P i (15 + (sh_pl P i m).toNatClampNeg) < 0) → Q (-1000002) (sh_mp S P) := fun z => by
      rw [if_neg z] at h
      exact h.1 (show (-1000002 : Int32) < 0 by decide)
    refine c_placeIn i rfl (by omega) (c_its i 3 rfl rfl (by omega) (by omega) ⟨fun z => hno fun y => z y.1, fun z1 => ⟨fun z => hno fun y => y.2.1 z, fun z2 => ?_⟩⟩)
    obtain ⟨j, hj, ej, ep⟩ := pl_nat z2
    rw [ep, nI_clamp (by omega)] at h hno
    rw [ep]
    refine c_its i (15 + j) rfl (nI_add 15 j) (by omega) (by omega) ⟨fun z3 => ?_, fun z => hno fun y => z y.2.2⟩
    rw [if_pos ⟨z1, nI_pos (by omega), z3⟩] at h
    refine c_hold (c_lay0 i (15 + j) rfl (nI_add 15 j) (by omega) (by omega) (c_decided i rfl (by omega) ?_))
    dsimp only at h
    generalize hX : sh_wt P i (upd (sh_tr P i) (15 + j) w) = X at h ⊢
    have hd : ¬ sh_dec (pt X i 15) (pt X i 16) (pt X i 17) < 0 := dec_nn
    have hT : nT X = nT P := by rw [← hX, nT_wt]
    have hM : nM X = nM P := by rw [← hX, nM_wt]
    have hpm : ∀ k, k < 10 → pm X k 0 = pm P k 0 := fun k hk => by rw [← hX]; exact wt_out (by omega)
    have hpt : ∀ v, v < 15 → pt X i v = pt P i v := fun v hv => by
      rw [← hX]
      show sh_wt _ _ _ _ = _
      rw [wt_at _ _ _ _ (by omega), upd_ne (by omega)]
      rfl
    refine ⟨fun z4 => ?_, fun z4 => ?_⟩
    · rw [if_neg (Int32.not_lt.mpr z4)] at h
      exact c_fin hs hd h
    · rw [if_pos (Int32.not_le.mp z4)] at h
      have hr := I.tl i hi
      obtain ⟨v, hv1, hv, ev⟩ := hr.1.2.1
      obtain ⟨x, hx, ex⟩ := hr.2.1.2.1 (.inr z1)
      obtain ⟨s0, hs0, es0, hg0, hne0⟩ := I.ls i hi z1 0 (by omega)
      have ex : pt P i 4 = nI x := ex
      rw [ex] at hne0
      refine c_paysFor (by rw [← hX]; exact B_wt I.B _ _) i v x rfl (by rw [hT]; exact hi) hv (by rw [hpt 1 (by omega)]; exact ev) (by rw [hM]; exact hx) (by rw [hpt 4 (by omega)]; exact ex)
        (ct2_pos (m := s0) (by rw [hM]; exact hs0) (nI_neg1 (by omega)) (by rw [hpm s0 (by omega)]; exact hg0)) (ct2_pos (m := s0) (by rw [hM]; exact hs0) hne0 (by rw [hpm s0 (by omega)]; exact hg0)) (c_fin hs hd h)
theorem c_counted (B : sh_B P) {t : Int32} (i c : Nat) (ht : t = nI i) (hi : i < nT P) (hc : c ≤ 400) (ec : pt P i 18 = nI c) (h1 : 0 < sh_ct2 P (-1)) (h : Q (o_counted P i).1 (sh_mp S (o_counted P i).2)) : sh_Ci g mX9_counted [sh_R (9, 0, 0), sh_I t] (sh_mp S P) sz Q := by
  have htl := B.tl
  have ec' : P (142 + 23 * i + 18) = nI c := ec
  unfold o_counted at h
  rw [ec, nI_clamp (by omega)] at h
  refine wp_X9_counted (c_sharing B (c_its i 21 ht rfl (by omega) (by omega) (c_bitsIn ?_)))
  rw [show sh_cnt (sh_tk P (-1)) (nM P) = sh_ct2 P (-1) from rfl]
  refine ⟨fun z => c_its i 22 ht rfl (by omega) (by omega) (c_bitsIn ⟨fun z2 => ?_, fun z2 => ?_⟩), fun z => c_its i 18 ht rfl (by omega) (by omega) (c_lay0 i 18 ht rfl (by omega) (by omega) (c_itsR i 2 ht rfl (by omega) (by omega) (c_itsR i 19 ht rfl (by omega) (by omega) (c_layR i 2 ht rfl (by omega) (by omega) ?_))))⟩
  · rw [if_neg (Int32.not_lt.mpr z), if_neg (fun w => w z2)] at h
    exact h
  · rw [if_neg (Int32.not_lt.mpr z), if_pos z2] at h
    exact c_lay0 i 18 ht rfl (by omega) (by omega) h
  · rw [if_pos (Int32.not_le.mp z)] at h
    rw [upd_ne (j := 2) (by omega), upd_ne (j := 19) (by omega), ec']
    refine c_shared (B_wt B i _) c 2 rfl (by omega) (.inl ⟨rfl, by omega⟩) ?_ h
    rw [ct2_congr (P := P) nM_wt (fun m hm hne => by have := B.ml; show sh_wt _ _ _ _ = 2 ↔ _; rw [wt_out (by omega)])]
    exact h1
theorem cd_nn {i : Nat} : ¬ (o_counted P i).1 < 0 := by
  unfold o_counted
  split
  · exact show ¬ (1 : Int32) < 0 by decide
  · split
    · exact show ¬ (0 : Int32) < 0 by decide
    · exact show ¬ (2 : Int32) < 0 by decide
theorem c_vote (hs : sh_ss S) (I : sh_IP P b) {t m y : Int32} (h : sh_go Q S P (o_vote P t m y)) : sh_Ci g mX9_vote [sh_R (9, 0, 0), sh_I t, sh_I m, sh_I y] (sh_mp S P) sz Q := by
  unfold o_vote at h
  have htl := I.tl20
  have hl := I.ml
  refine wp_X9_vote (c_isTool I.B (wb (fun c => ?_) (fun c => c_isMember I.B (wb (fun c2 => ?_) (fun c2 => c_inb (wb' (fun c3 => ?_) (fun c3 => ?_)))))))
  · rw [if_neg (by rw [c]; exact fun z => Bool.noConfusion z.1)] at h
    exact h.1 (show (-1000001 : Int32) < 0 by decide)
  · rw [if_neg (by rw [c2]; exact fun z => Bool.noConfusion z.2.1)] at h
    exact h.1 (show (-1000001 : Int32) < 0 by decide)
  · rw [if_neg (by rw [c3]; exact fun z => Bool.noConfusion z.2.2)] at h
    exact h.1 (show (-1000001 : Int32) < 0 by decide)
  · rw [if_pos ⟨c, c2, c3⟩] at h
    obtain ⟨i, hi, rfl⟩ := I.B.tB_t c
    obtain ⟨k, hk, rfl⟩ := I.B.mB_t c2
    rw [nI_clamp (by omega), nI_clamp (by omega)] at h
    have hno : (pt P i 18 = 0 ∨ pm P k 0 = 2 ∨ ((pt P i 21 ||| pt P i 22) >>> (nI k &&& 31)) &&& 1 = 1) → Q (-1000002) (sh_mp S P) := fun z => by
      rw [if_pos z] at h
      exact h.1 (show (-1000002 : Int32) < 0 by decide)
    refine c_its i 18 rfl rfl (by omega) (by omega) ⟨fun z => hno (.inl z), fun z1 => c_of k 0 rfl rfl (by omega) (by omega) ⟨fun z => hno (.inr (.inl z)), fun z2 => c_its i 21 rfl rfl (by omega) (by omega) (c_its i 22 rfl rfl (by omega) (by omega) ⟨fun z3 => c_hold ?_, fun z => hno (.inr (.inr z))⟩)⟩⟩
    rw [if_neg (fun z => z.elim z1 fun z => z.elim z2 z3)] at h
    obtain ⟨x, hx, ex, _⟩ := (I.tl i hi).2.2.2.2
    have ex : pt P i 18 = nI x := ex
    have hpos : ∀ X, nM X = nM P → (∀ m, m < 10 → pm X m 0 = pm P m 0) → 0 < sh_ct2 X (-1) := fun X hM hpm =>
      ct2_pos (m := k) (by rw [hM]; exact hk) (nI_neg1 (by omega)) (by rw [hpm k (by omega)]; exact z2)
    refine ⟨fun z4 => ?_, fun z4 => ?_⟩
    · rw [if_neg z4] at h
      refine c_its i 22 rfl rfl (by omega) (by omega) (c_lay0 i 22 rfl rfl (by omega) (by omega) (c_counted (B_wt I.B _ _) i x rfl (by rw [nT_wt]; exact hi) hx ?_ (hpos _ nM_wt fun m hm => wt_out (by omega)) (c_fin hs cd_nn h)))
      show sh_wt _ _ _ _ = _
      rw [wt_at _ _ _ _ (by omega), upd_ne (by omega)]
      exact ex
    · rw [if_pos z4] at h
      refine c_its i 21 rfl rfl (by omega) (by omega) (c_lay0 i 21 rfl rfl (by omega) (by omega) (c_counted (B_wt I.B _ _) i x rfl (by rw [nT_wt]; exact hi) hx ?_ (hpos _ nM_wt fun m hm => wt_out (by omega)) (c_fin hs cd_nn h)))
      show sh_wt _ _ _ _ = _
      rw [wt_at _ _ _ _ (by omega), upd_ne (by omega)]
      exact ex
end MOPS5
