section MOPS4
variable {g : sh_G} {S : sh_S} {P : Nat → Int32} {sz b : Nat} {Q : Int32 → sh_S → Prop} {U : sh_S → Prop}
theorem who_nat (I : sh_IP P b) (h : ¬ sh_who P < 0) : ∃ m, m < nM P ∧ pm P m 0 = 0 ∧ sh_who P = nI m := by
  have hl := I.ml
  rcases who_cases P with ⟨j, h1, h2, h3, h4⟩ | ⟨h1, h2⟩
  · obtain ⟨m, hm, em⟩ := I.B.tn j h1
    refine ⟨m, hm, ?_, by rw [h4, em]⟩
    rw [em, nI_clamp (by omega)] at h2
    exact h2
  · rw [h2] at h; exact absurd (by decide) h
theorem da_nat (P : Nat → Int32) (ix : Int32) : sh_da P ix = -1000004 ∨ ∃ t, t < nT P ∧ sh_cut P t = true ∧ sh_da P ix = nI t := by
  rcases fnd_cases (fun t => sh_cut P t && decide (nI (sh_ah P t) = ix)) (nT P) (-1000004) with ⟨i, h1, h2, h3, h4⟩ | ⟨h1, h4⟩
  · exact .inr ⟨i, h1, (Bool.and_eq_true_iff.mp h2).1, h4⟩
  · exact .inl h4
theorem c_sharpen (hs : sh_ss S) (I : sh_IP P b) (h : sh_go Q S P (o_sharp P)) : sh_Ci g mX9_sharpen [sh_R (9, 0, 0)] (sh_mp S P) sz Q := by
  unfold o_sharp at h
  have htl := I.tl20
  have hl := I.ml
  refine wp_X9_sharpen (c_whoSharpens I.B (c_dullest I.G2 I.B ?_))
  refine wc (fun c => ?_) (fun c => ?_)
  · have c := Int32.not_lt.mpr c
    rw [if_neg c] at h
    obtain ⟨m, hm, h0, em⟩ := who_nat I c
    rcases da_nat P 0 with hd | ⟨t, ht, hc, hd⟩
    · have hneg : sh_da P 0 < 0 := by rw [hd]; decide
      rw [if_neg (fun z => z.1 hneg)] at h
      unfold sh_db
      rw [if_pos hneg]
      refine c_isDull I.G2 I.B (fun _ => wt' rfl (h.1 (show (-1000004 : Int32) < 0 by decide))) (fun t ht z => ?_) (.inl (by decide))
      exact absurd (by decide : (-1 : Int32) < 0) (z ▸ nI_pos (by omega))
    · have hpos : ¬ sh_da P 0 < 0 := by rw [hd]; exact nI_pos (by omega)
      unfold sh_db
      rw [if_neg hpos]
      rw [hd, nI_clamp (by omega)] at h
      rw [hd]
      refine c_isDull I.G2 I.B (fun z => absurd z (nI_pos (by omega))) (fun t' ht' z => ?_) (.inr ⟨t, ht, rfl⟩)
      obtain rfl : t = t' := (nI_eq (by omega) (by omega)).mp z
      by_cases hth : sh_th (sh_sp P t) < P 4
      · rw [if_pos ⟨nI_pos (by omega), hth⟩] at h
        rw [decide_eq_true hth]
        rw [em, nI_clamp (by omega)] at h
        rw [em]
        exact wf' (by decide) (c_hold (c_sharpens I m t hm (by rw [h0]; decide) ht rfl rfl (c_fin hs (nI_pos (by omega)) h)))
      · rw [if_neg (fun z => hth z.2)] at h
        rw [decide_eq_false hth]
        exact wt' rfl (h.1 (show (-1000004 : Int32) < 0 by decide))
  · rw [if_pos (Int32.not_le.mp c)] at h
    exact h.1 (show (-1000002 : Int32) < 0 by decide)
theorem c_swap (hs : sh_ss S) (I : sh_IP P b) {x y : Int32} (h : sh_go Q S P (o_swap P x y)) : sh_Ci g mX9_swap [sh_R (9, 0, 0), sh_I x, sh_I y] (sh_mp S P) sz Q := by
  unfold o_swap at h
  have hl := I.ml
  have hY := I.B.yl
  refine wp_X9_swap (c_isMember I.B (wb (fun c => ?_) (fun c => c_isMember I.B (wb (fun c2 => ?_) (fun c2 => ⟨fun c3 => ?_, fun c3 => ?_⟩)))))
  · rw [if_neg (by rw [c]; exact fun z => Bool.noConfusion z.1)] at h
    exact h.1 (show (-1000001 : Int32) < 0 by decide)
  · rw [if_neg (by rw [c2]; exact fun z => Bool.noConfusion z.2.1)] at h
    exact h.1 (show (-1000001 : Int32) < 0 by decide)
  · rw [if_pos ⟨c, c2, c3⟩] at h
    obtain ⟨i, hi, rfl⟩ := I.B.mB_t c
    obtain ⟨k, hk, rfl⟩ := I.B.mB_t c2
    rw [nI_clamp (by omega), nI_clamp (by omega)] at h
    refine c_of i 0 rfl rfl (by omega) (by omega) ⟨fun z => ?_, fun z1 => c_of k 0 rfl rfl (by omega) (by omega) ⟨fun z2 => ?_, fun z => ?_⟩⟩
    · rw [if_pos (.inl z)] at h
      exact h.1 (show (-1000002 : Int32) < 0 by decide)
    · rw [if_neg (fun z => z.elim z1 z2)] at h
      obtain ⟨j, hj, ej, et⟩ := tn_of I.tn hi z1
      obtain ⟨j2, hj2, ej2, et2⟩ := tn_of I.tn hk z2
      have et := et (-1)
      have et2 := et2 (-1)
      rw [et, et2, nI_clamp (by omega), nI_clamp (by omega)] at h
      refine c_hold (c_turnOf I.B (c_turnOf I.B ?_))
      rw [et, et2, show (12 : Int32) + nI j = nI (12 + j) from nI_add 12 _, show (12 : Int32) + nI j2 = nI (12 + j2) from nI_add 12 _, nI_clamp (by omega), nI_clamp (by omega)]
      refine ⟨vp_in_nI (by omega) (by omega), ?_⟩
      rintro _ rfl
      refine ⟨vp_in_nI (by omega) (by omega), ?_⟩
      rintro _ rfl
      simp only [mp_p, mp_sr]
      exact c_fin hs (nI_pos (by omega)) h
    · rw [if_pos (.inr z)] at h
      exact h.1 (show (-1000002 : Int32) < 0 by decide)
  · rw [if_neg (fun z => z.2.2 c3)] at h
    exact h.1 (show (-1000001 : Int32) < 0 by decide)
theorem c_find (hs : sh_ss S) (I : sh_IP P b) {t : Int32} (h : sh_go Q S P (o_find P t)) : sh_Ci g mX9_find [sh_R (9, 0, 0), sh_I t] (sh_mp S P) sz Q := by
  unfold o_find at h
  have htl := I.tl20
  refine wp_X9_find (c_isTool I.B (wb' (fun c => ?_) (fun c => ?_)))
  · rw [if_neg (by rw [c]; decide)] at h
    exact h.1 (show (-1000001 : Int32) < 0 by decide)
  · obtain ⟨i, hi, rfl⟩ := I.B.tB_t c
    rw [if_pos c, nI_clamp (by omega)] at h
    refine c_its i 3 rfl rfl (by omega) (by omega) ⟨fun c3 => ?_, fun c3 => ?_⟩
    · rw [if_pos c3] at h
      refine c_hold ⟨fun v k S' => ∃ j, j ≤ 3 ∧ k = nI j ∧ v = nI (sh_cnt (sh_spk P i) j) ∧ S' = sh_mp (sh_hd S P) P, fun _ k _ => 3 - k.toNatClampNeg, ⟨0, by omega, rfl, rfl, rfl⟩, ?_⟩
      rintro _ _ _ ⟨j, hj, rfl, rfl, rfl⟩
      refine wc (fun c => ?_) (fun c => ?_)
      · obtain rfl := lp_end hj (by omega) c
        exact c_lay0 i 3 rfl rfl (by omega) (by omega) (c_fin hs (nI_pos (Nat.lt_of_le_of_lt (cnt_le _ 3) (by decide))) h)
      · have hlt := lp_go (by omega) hj c
        have hmu := mu_lt (N := 3) hlt (by omega)
        refine c_its i (15 + j) rfl (nI_add 15 j) (by omega) (by omega) (wc (fun c => ?_) (fun c => ?_)) <;> rintro _ rfl _ rfl <;> rw [nI_1 j]
        · exact ⟨⟨j + 1, hlt, rfl, by rw [cnt_f (decide_eq_false (fun z => z c)), Int32.add_zero], rfl⟩, hmu⟩
        · exact ⟨⟨j + 1, hlt, rfl, by rw [cnt_t (decide_eq_true c), nI_1], rfl⟩, hmu⟩
    · rw [if_neg c3] at h
      exact h.1 (show (-1000002 : Int32) < 0 by decide)
theorem c_propose (hs : sh_ss S) (I : sh_IP P b) {t c0 b0 : Int32} (h : sh_go Q S P (o_propose P t c0 b0)) : sh_Ci g mX9_propose [sh_R (9, 0, 0), sh_I t, sh_I c0, sh_I b0] (sh_mp S P) sz Q := by
  unfold o_propose at h
  have htl := I.tl20
  have hl := I.ml
  have hcl : sh_ct2 P (-1) ≤ 10 := Nat.le_trans (cnt_le _ _) hl
  refine wp_X9_propose (c_isTool I.B (wb (fun c => ?_) (fun c => c_inb (wb (fun c2 => ?_) (fun c2 => ?_)))))
  · rw [if_neg (by rw [c]; exact fun z => Bool.noConfusion z.1)] at h
    exact h.1 (show (-1000001 : Int32) < 0 by decide)
  · rw [if_neg (by rw [c2]; exact fun z => Bool.noConfusion z.2.1)] at h
    exact h.1 (show (-1000001 : Int32) < 0 by decide)
  · obtain ⟨i, hi, rfl⟩ := I.B.tB_t c
    rw [nI_clamp (by omega)] at h
    refine c_its i 2 rfl rfl (by omega) (by omega) (c_inb (wb' (fun c3 => ?_) (fun c3 => ?_)))
    · rw [if_neg (fun z => by rw [show inb b0 1 (pt P i 2) = false from c3] at z; exact Bool.noConfusion z.2.2)] at h
      exact h.1 (show (-1000001 : Int32) < 0 by decide)
    · rw [if_pos ⟨c, c2, c3⟩] at h
      have hno : (pt P i 3 = 4 ∨ 0 < pt P i 18 ∨ sh_ct2 P (-1) = 0) → Q (-1000002) (sh_mp S P) := fun z => by
        rw [if_pos z] at h
        exact h.1 (show (-1000002 : Int32) < 0 by decide)
      refine c_its i 3 rfl rfl (by omega) (by omega) ⟨fun z => hno (.inl z), fun z1 => c_its i 18 rfl rfl (by omega) (by omega) ⟨fun z => hno (.inr (.inl z)), fun z2 => c_sharing I.B ?_⟩⟩
      rw [show sh_cnt (sh_tk P (-1)) (nM P) = sh_ct2 P (-1) from rfl]
      refine ⟨fun z3 => ?_, fun z => hno (.inr (.inr ((nI_eq (b := 0) (by omega) (by omega)).mp z)))⟩
      rw [if_neg (fun z => z.elim z1 fun z => z.elim z2 fun z => z3 (by rw [z]; rfl))] at h
      refine c_hold (c_lay0 i 18 rfl rfl (by omega) (by omega) (c_layR i 19 rfl rfl (by omega) (by omega) ?_))
      rw [mp_p, wt_low (by omega), wt_low (by omega)]
      refine c_layR i 20 rfl rfl (by omega) (by omega) (c_layR i 21 rfl rfl (by omega) (by omega) (c_layR i 22 rfl rfl (by omega) (by omega) (c_itsR i 20 rfl rfl (by omega) (by omega) ?_)))
      rw [upd_ne (by omega), upd_ne (by omega), upd_eq]
      obtain ⟨n, hn, en⟩ := I.s 6 (by omega)
      have hn : n ≤ 60 := hn
      have := I.B.dl
      exact c_fin hs (by rw [en, I.B.d, nI_add]; exact nI_pos (by omega)) h
theorem c_lendOut (hs : sh_ss S) (I : sh_IP P b) {t s d f : Int32} (h : sh_go Q S P (o_lend P t s d f)) : sh_Ci g mX9_lendOut [sh_R (9, 0, 0), sh_I t, sh_I s, sh_I d, sh_I f] (sh_mp S P) sz Q := by
  unfold o_lend at h
  have htl := I.tl20
  refine wp_X9_lendOut (c_isTool I.B (wb (fun c => ?_) (fun c => c_inb (wb (fun c2 => ?_) (fun c2 => c_inb (wb (fun c3 => ?_) (fun c3 => c_inb (wb' (fun c4 => ?_) (fun c4 => ?_)))))))))
  · rw [if_neg (by rw [c]; exact fun z => Bool.noConfusion z.1)] at h
    exact h.1 (show (-1000001 : Int32) < 0 by decide)
  · rw [if_neg (by rw [c2]; exact fun z => Bool.noConfusion z.2.1)] at h
    exact h.1 (show (-1000001 : Int32) < 0 by decide)
  · rw [if_neg (by rw [c3]; exact fun z => Bool.noConfusion z.2.2.1)] at h
    exact h.1 (show (-1000001 : Int32) < 0 by decide)
  · rw [if_neg (by rw [c4]; exact fun z => Bool.noConfusion z.2.2.2)] at h
    exact h.1 (show (-1000001 : Int32) < 0 by decide)
  · rw [if_pos ⟨c, c2, c3, c4⟩] at h
    obtain ⟨i, hi, rfl⟩ := I.B.tB_t c
    rw [nI_clamp (by omega)] at h
    have c3 := of_decide_eq_true c3
    obtain ⟨x, hx, rfl⟩ := nI_of2 (n := 60) (M := 60) rfl (Int32.not_lt.mpr (Int32.le_trans (by decide) c3.1)) c3.2
    refine c_its i 3 rfl rfl (by omega) (by omega) ⟨fun z => ?_, fun z => ?_⟩
    · rw [if_pos z] at h
      refine c_hold ?_
      rw [mp_p]
      refine c_goesOut I.B i rfl (by omega) (c_lay0 i 10 rfl rfl (by omega) (by omega) (c_layR i 11 rfl rfl (by omega) (by omega) (c_itsR i 5 rfl rfl (by omega) (by omega) ?_)))
      have e5 : upd (upd (sh_tr (sh_wt P i (upd (upd (upd (upd (upd (upd (sh_tr P i) 3 3) 4 s) 5 (P 7 + nI x)) 8 (-1)) 9 (P 7)) 7 (P (142 + 23 * i + 7) + 1))) i) 10 (nI x)) 11 f 5 = P 7 + nI x := by
        rw [upd_ne (by omega), upd_ne (by omega)]
        show sh_wt _ _ _ (142 + 23 * i + 5) = _
        rw [wt_at _ _ _ _ (by omega), upd_ne (by omega), upd_ne (by omega), upd_ne (by omega), upd_eq]
      rw [e5]
      have ewt : sh_wt (sh_wt P i (upd (upd (upd (upd (upd (upd (sh_tr P i) 3 3) 4 s) 5 (P 7 + nI x)) 8 (-1)) 9 (P 7)) 7 (P (142 + 23 * i + 7) + 1))) i (upd (upd (sh_tr (sh_wt P i (upd (upd (upd (upd (upd (upd (sh_tr P i) 3 3) 4 s) 5 (P 7 + nI x)) 8 (-1)) 9 (P 7)) 7 (P (142 + 23 * i + 7) + 1))) i) 10 (nI x)) 11 f) = sh_wt P i (upd (upd (sh_tr (f_out P i 3 s (P 7 + nI x)) i) 10 (nI x)) 11 f) := by
        funext j
        unfold sh_wt
        by_cases hj : 142 + 23 * i ≤ j ∧ j < 142 + 23 * i + 23
        · rw [if_pos hj, if_pos hj]; rfl
        · rw [if_neg hj, if_neg hj, if_neg hj]
      rw [ewt]
      have := I.B.dl
      exact c_fin hs (by rw [I.B.d, nI_add]; exact nI_pos (by omega)) h
    · rw [if_neg z] at h
      exact h.1 (show (-1000002 : Int32) < 0 by decide)
theorem told_nat (I : sh_IP P b) {i : Nat} (hi : i < nT P) (hp : pt P i 3 = 3) : ∃ n, n ≤ 240000 ∧ sh_told P i = nI n := by
  obtain ⟨s, a, hs, es, ha, ea, _⟩ := (I.tl i hi).2.2.1.1 hp
  obtain ⟨f, hf, ef⟩ := (I.tl i hi).2.2.1.2
  obtain ⟨k, hk, hk1, ek⟩ := do_nat I.B.dl hs
  unfold sh_told
  rw [show pt P i 11 = nI f from ef, show pt P i 10 = nI a from ea, show sh_do (P 7) (pt P i 9) = nI k by rw [I.B.d, show pt P i 9 = nI s from es]; exact ek]
  split
  · rename_i h
    have h := (nI_ltI (by omega) (by omega)).mp h
    refine ⟨f * (k + (k - a)), ?_, by rw [pk_sub (by omega), nI_add, pk_mul]⟩
    have := Nat.mul_le_mul hf (show k + (k - a) ≤ 6000 by omega)
    omega
  · refine ⟨f * k, ?_, by rw [Int32.add_zero, pk_mul]⟩
    have := Nat.mul_le_mul hf (show k ≤ 6000 by omega)
    omega
theorem c_comeBack (hs : sh_ss S) (I : sh_IP P b) {t : Int32} (h : sh_go Q S P (o_come P t)) : sh_Ci g mX9_comeBack [sh_R (9, 0, 0), sh_I t] (sh_mp S P) sz Q := by
  unfold o_come at h
  have htl := I.tl20
  have hl := I.ml
  have hcl : sh_ct2 P (-1) ≤ 10 := Nat.le_trans (cnt_le _ _) hl
  refine wp_X9_comeBack (c_isTool I.B (wb' (fun c => ?_) (fun c => ?_)))
  · rw [if_neg (by rw [c]; decide)] at h
    exact h.1 (show (-1000001 : Int32) < 0 by decide)
  · obtain ⟨i, hi, rfl⟩ := I.B.tB_t c
    rw [if_pos c, nI_clamp (by omega)] at h
    refine c_its i 3 rfl rfl (by omega) (by omega) ⟨fun z => ?_, fun z1 => c_sharing I.B ?_⟩
    · rw [if_neg (fun w => z w.1)] at h
      exact h.1 (show (-1000002 : Int32) < 0 by decide)
    rw [show sh_cnt (sh_tk P (-1)) (nM P) = sh_ct2 P (-1) from rfl]
    refine ⟨fun z2 => ?_, fun z => ?_⟩
    · have z2' : sh_ct2 P (-1) ≠ 0 := fun w => z2 (by rw [w]; rfl)
      rw [if_pos ⟨z1, z2'⟩] at h
      have hr := I.tl i hi
      obtain ⟨s, a, hs9, es, ha, ea, _⟩ := hr.2.2.1.1 z1
      obtain ⟨k, hk, hk1, ek⟩ := do_nat I.B.dl hs9
      have ek : sh_do (P 7) (P (142 + 23 * i + 9)) = nI k := by rw [show P (142 + 23 * i + 9) = nI s from es, I.B.d]; exact ek
      obtain ⟨n, hn, en⟩ := told_nat I hi z1
      obtain ⟨hv, w, hw, ew⟩ := I.G2 i hi
      rw [en, nI_clamp (by omega)] at h
      have htail : sh_Cf g mX9_duller [sh_R (9, 0, 0), sh_I (nI i), sh_I (nI k)] (sh_mp (sh_hd S P) P) sz (fun f20 S19 => (sh_Ci g mX9_bitsOf [sh_F f20] S19 sz (fun r22 S21 => (sh_Cu g mX9_lay [sh_R (9, 0, 0), sh_I (nI i), sh_I 6, sh_I r22] S21 sz (fun S23 => (sh_Cu g mX9_lay [sh_R (9, 0, 0), sh_I (nI i), sh_I 3, sh_I 0] S23 sz (fun S24 => (sh_Cu g mX9_shared [sh_R (9, 0, 0), sh_I (nI n), sh_I (-1), sh_I (-1)] S24 sz (fun S25 => (sh_Ci g mX9_ends [sh_R (9, 0, 0), sh_I (nI n)] S25 sz (fun r27 S26 => Q r27 S26))))))))))) := by
        refine c_duller I.G2 I.B i k rfl rfl hi (by omega) (c_bitsOf ?_ (c_lay0 i 6 rfl rfl (by omega) (by omega) (c_layR i 3 rfl rfl (by omega) (by omega) ?_)))
        · rw [show P (142 + 23 * i + 2) = nI w from ew, show (100 : Int32) - nI w = nI (100 - w) from pk_sub (a := 100) (by omega)]
          exact fS_du hv (by omega) k
        · unfold sh_cin at h
          rw [show pt P i 9 = P (142 + 23 * i + 9) from rfl, ek, nI_clamp (by omega)] at h
          refine c_shared (B_wt I.B i _) n 3 rfl (by omega) (.inr ⟨rfl, rfl⟩) ?_ (c_fin hs (nI_pos (by omega)) h)
          rw [ct2_congr (P := P) nM_wt (fun m hm hne => by show sh_wt _ _ _ _ = 2 ↔ _; rw [wt_out (by omega)])]
          omega
      refine c_hold (c_daysOut i rfl (by omega) ?_)
      rw [ek]
      unfold sh_told at en
      refine c_its i 10 rfl rfl (by omega) (by omega) ⟨fun z3 => c_its i 11 rfl rfl (by omega) (by omega) ?_, fun z3 => c_its i 10 rfl rfl (by omega) (by omega) ?_⟩
      · rw [show pt P i 9 = P (142 + 23 * i + 9) from rfl, ek, if_neg (Int32.not_lt.mpr z3)] at en
        rintro _ rfl
        rw [show P (142 + 23 * i + 11) * (nI k + 0) = nI n from en]
        exact htail
      · rw [show pt P i 9 = P (142 + 23 * i + 9) from rfl, ek, if_pos (Int32.not_le.mp z3)] at en
        rintro _ rfl
        refine c_its i 11 rfl rfl (by omega) (by omega) ?_
        rintro _ rfl
        rw [show P (142 + 23 * i + 11) * (nI k + (nI k - P (142 + 23 * i + 10))) = nI n from en]
        exact htail
    · rw [if_neg (fun w => w.2 ((nI_eq (b := 0) (by omega) (by omega)).mp z))] at h
      exact h.1 (show (-1000002 : Int32) < 0 by decide)
end MOPS4
