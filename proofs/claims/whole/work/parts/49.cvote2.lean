/-! votes of the class -/
theorem sbt_or1 (x : Int32) {m : Nat} (hm : m < 31) {i : Nat} (hi : i < 32) : sh_bt (x ||| 1 <<< (nI m &&& 31)) i = (sh_bt x i || decide (i = m)) := by
  rw [sbt_or, sbt_shl m (by omega) hi]
theorem bi_put (x : Int32) {m : Nat} (hm : m < 10) (h0 : sh_bt x m = false) : sh_bi (x ||| 1 <<< (nI m &&& 31)) 10 = sh_bi x 10 + 1 := by
  rw [bi_cnt _ 10 (by omega), bi_cnt _ 10 (by omega), nI_1]
  congr 1
  refine cnt_put hm h0 ?_ fun i hi hne => ?_
  · rw [sbt_or1 x (by omega) (by omega), decide_eq_true rfl, Bool.or_true]
  · rw [sbt_or1 x (by omega) (by omega), decide_eq_false hne, Bool.or_false]
theorem or_l (x y z : Int32) : (x ||| y) ||| z = (x ||| z) ||| y := sbt_ext fun i _ => by
  rw [sbt_or, sbt_or, sbt_or, sbt_or, Bool.or_assoc, Bool.or_assoc, Bool.or_comm (sh_bt y i)]
theorem or_r (x y z : Int32) : (x ||| y) ||| z = x ||| (y ||| z) := sbt_ext fun i _ => by
  rw [sbt_or, sbt_or, sbt_or, sbt_or, Bool.or_assoc]
section CVOTE2
variable {g : sh_G} {S S0 : sh_S} {P X : Nat → Int32} {sz k b : Nat} {Q : Int32 → sh_S → Prop} {U : sh_S → Prop}
theorem k_voteEnd (hk : k < 7) (R : sh_RS k X S0 S) (B : sh_B X) {i c : Nat} (hi : i < nT X) (hs : S (5, k, i) 0 = 1) (hc : c ≤ 400) (ec : pt X i 18 = nI c) (hct : 0 < sh_ct2 X (-1)) {a : Int32} (ha : vp_in a 20) (h : ∀ S', sh_RS k (o_counted X i).2 S0 S' → Q (o_counted X i).1 S') :
    sh_Ci g mX2_countNotGone [sh_R (2, k, 0), sh_I (-1)] S sz (fun r21 S20 => (sh_Ci g mX5_outcome [sh_R (5, k, i), sh_I r21] S20 sz (fun r23 S22 => ((¬ r23 = 1 → ((¬ r23 = 2 → (∀ S26 : sh_S, S26 = sh_sr S22 (5, k, i) (upd (S22 (5, k, i)) 0 0) → Q r23 S26)) ∧ (r23 = 2 → (∀ S27 : sh_S, S27 = sh_sr S22 (5, k, i) (upd (S22 (5, k, i)) 0 1) → Q r23 S27)))) ∧ (r23 = 1 → (sh_Cu g mX2_share [sh_R (2, k, 0), sh_I (S22 (5, k, i) 1), sh_I 2, sh_I (-1)] S22 sz (fun S28 => (vp_in a 20 ∧ (∀ S30 : sh_S, S30 = sh_sr S28 (7, k, i) (upd (S28 (7, k, i)) 2 (((S28 (7, k, i) 2) - (S28 (5, k, i) 2)))) → ((¬ r23 = 2 → (∀ S32 : sh_S, S32 = sh_sr S30 (5, k, i) (upd (S30 (5, k, i)) 0 0) → Q r23 S32)) ∧ (r23 = 2 → (∀ S33 : sh_S, S33 = sh_sr S30 (5, k, i) (upd (S30 (5, k, i)) 0 1) → Q r23 S33)))))))))))) := by
  have htl := B.tl
  have hl := B.ml
  have hr := R.tol (t := i) (by omega)
  obtain ⟨h2, h3, hz | ⟨_, hne, h1, h4, h5, h6⟩⟩ := hr.2.2.2
  · rw [hs] at hz; exact absurd hz.1 (by decide)
  have h4 : S (5, k, i) 4 = sh_bi (pt X i 21) 10 := h4
  have h5 : S (5, k, i) 5 = sh_bi (pt X i 22) 10 := h5
  have h1 : S (5, k, i) 1 = pt X i 18 := h1
  refine k_countNotGone hk R B (wp_X5_outcome (ok5 hk (by omega)) ?_)
  rw [h4, h5]
  unfold o_counted at h
  refine ⟨fun z => ⟨fun z2 => ?_, fun z2 => ?_⟩, fun z => ?_⟩
  · rw [if_neg (Int32.not_lt.mpr z), if_neg (fun y => y z2)] at h
    refine wf' (by decide) (wt' rfl ?_)
    rintro _ rfl
    rw [← hs, upd_self, sr_self]
    exact h _ R
  · rw [if_neg (Int32.not_lt.mpr z), if_pos z2] at h
    refine wf' (by decide) (wf' (by decide) ?_)
    rintro _ rfl
    refine h _ (rs_tool R (by omega) (fun o h1 h2 h3 h4 h5 => sr_o h4) ?_)
    rw [sr_o (ne_k (by omega)), sr_o (ne_k (by omega)), sr_o (ne_k (by omega)), sh_sr_s]
    exact r_tool_off hr
  · rw [if_pos (Int32.not_le.mp z), ec, nI_clamp (by omega), share_wt B (by omega)] at h
    refine wt' rfl ?_
    rw [h1, ec]
    refine k_share hk R B c 2 rfl (by omega) rfl (by omega) hct fun S2 R2 => ⟨ha, ?_⟩
    rintro _ rfl
    refine wf' (by decide) ?_
    rintro _ rfl
    have hr2 := R2.tol (t := i) (by omega)
    have et : ∀ w, sh_tr (sh_share X c (-1) 2) i w = sh_tr X i w := fun w => share_out (by omega) (.inr (.inl (by omega)))
    refine h _ (rs_tool R2 (by omega) (fun o h1 h2 h3 h4 h5 => by rw [sr_o h4, sr_o h1]) ?_)
    rw [sr_o (o := (5, k, i)) (q := (7, k, i)) (ne_k (by omega)), sh_sr_s, sh_sr_s, sr_o (o := (5, k, i)) (q := (13, k, i)) (ne_k (by omega)), sr_o (o := (7, k, i)) (q := (13, k, i)) (ne_k (by omega)), sr_o (o := (5, k, i)) (q := (14, k, i)) (ne_k (by omega)), sr_o (o := (7, k, i)) (q := (14, k, i)) (ne_k (by omega)), sr_o (o := (7, k, i)) (q := (5, k, i)) (ne_k (by omega))]
    obtain ⟨⟨e0, e1, e2, e3, e4, e5, e6, e7, e8, e9⟩, hh, hs', hq1, hq2, hq3⟩ := hr2
    rw [et] at e0 e1 e2 e3 e4 e5 e6 e7 e8 e9 hq1 hq2
    simp only [et] at hh hs'
    refine ⟨⟨by simp [upd, e0], by simp [upd, e1], ?_, by simp [upd, e3], by simp [upd, e4], by simp [upd, e5], by simp [upd, e6], by simp [upd, e7], by simp [upd, e8], by simp [upd, e9]⟩, by simpa [upd] using hh, fun j hj => ?_, by simp [upd, hq1], by simp [upd, hq2], .inl ⟨by simp [upd], by simp [upd]⟩⟩
    · rw [upd_eq, upd_eq, e2, hq1]; rfl
    · rw [upd_ne (by omega), upd_ne (by omega), upd_ne (by omega), upd_ne (by omega)]
      exact hs' j hj
theorem k_takeVote (hk : k < 7) (R : sh_RS k P S0 S) (I : sh_IP P b) {t m y : Int32} (h : sh_kg Q k S0 S (o_vote P t m y)) : sh_Ci g mX6_takeVote [sh_R (6, k, 0), sh_I t, sh_I m, sh_I y] S sz Q := by
  unfold o_vote at h
  have htl := I.tl20
  have hl := I.ml
  refine wp_X6_takeVote (ok6 hk) (k_hasTool hk R I.B (wb (fun c => ?_) (fun c => k_has hk R I.B (wb (fun c2 => ?_) (fun c2 => wc (fun c3 => ?_) (fun c3 => wc (fun c4 => ?_) (fun c4 => ?_)))))))
  · rw [if_neg (ff_h c)] at h
    exact h.1 (show (-1000001 : Int32) < 0 by decide)
  · rw [if_neg (ff_m c2)] at h
    exact h.1 (show (-1000001 : Int32) < 0 by decide)
  · rw [if_neg (ff_m2 (inb_f1 c3))] at h
    exact h.1 (show (-1000001 : Int32) < 0 by decide)
  · rw [if_pos ⟨c, c2, inb_t1 c3 c4⟩] at h
    obtain ⟨i, hi, rfl⟩ := I.B.tB_t c
    obtain ⟨q, hq, rfl⟩ := I.B.mB_t c2
    rw [nI_clamp (n := i) (by omega), nI_clamp (n := q) (by omega)] at h
    have hno : (pt P i 18 = 0 ∨ pm P q 0 = 2 ∨ ((pt P i 21 ||| pt P i 22) >>> (nI q &&& 31)) &&& 1 = 1) → Q (-1000002) S := fun z => by
      rw [if_pos z] at h
      exact h.1 (show (-1000002 : Int32) < 0 by decide)
    refine ⟨vp_in_nI (by omega) (by omega), ?_⟩
    rw [nI_clamp (n := i) (by omega), nI_clamp (n := q) (by omega), R.stands (by omega)]
    refine ⟨fun z => hno (.inl z), fun z1 => ⟨vp_in_nI (by omega) (by omega), k_isGone hk (by omega) (wb' (fun z2 => ?_) (fun z2 => ?_))⟩⟩ <;> rw [R.row (by omega) (by omega)] at z2
    · have z2 := of_decide_eq_false z2
      have hr := R.tol (t := i) (by omega)
      obtain ⟨p2, p3, hz | ⟨p0, hne, p1, p4, p5, p6⟩⟩ := hr.2.2.2
      · exact absurd hz.2 z1
      have p6' : S (5, k, i) 6 = pt P i 21 ||| pt P i 22 := p6
      refine wp_X5_hasVoteOf (ok5 hk (by omega)) ?_
      rw [p6']
      refine ⟨fun z3 => wt rfl ?_, fun z3 => wf (by decide) (hno (.inr (.inr z3)))⟩
      rw [if_neg (fun y => y.elim z1 fun y => y.elim z2 z3)] at h
      have hb : sh_bt (pt P i 21) q = false ∧ sh_bt (pt P i 22) q = false := by
        rw [sbt_set q (by omega), sbt_or] at z3
        exact ⟨Bool.eq_false_iff.mpr fun w => z3 (by rw [w]; rfl), Bool.eq_false_iff.mpr fun w => z3 (by rw [w, Bool.or_true])⟩
      obtain ⟨x, hx, ex, _⟩ := (I.tl i hi).2.2.2.2
      have ex : pt P i 18 = nI x := ex
      have hct : 0 < sh_ct2 P (-1) := ct2_pos hq (nI_neg1 (by omega)) z2
      -- behind the vote
      have tail : ∀ (at' : Nat) (S' : sh_S), (at' = 21 ∨ at' = 22) → (if y = 1 then 21 else 22) = at' → (∀ o : sh_O, o ≠ (5, k, i) → S' o = S o) →
          (S' (5, k, i) 0 = 1 ∧ S' (5, k, i) 1 = S (5, k, i) 1 ∧ S' (5, k, i) 2 = S (5, k, i) 2 ∧ S' (5, k, i) 3 = S (5, k, i) 3 ∧ S' (5, k, i) 6 = (pt P i 21 ||| pt P i 22) ||| 1 <<< (nI q &&& 31) ∧ S' (5, k, i) 4 = (if at' = 21 then S (5, k, i) 4 + 1 else S (5, k, i) 4) ∧ S' (5, k, i) 5 = (if at' = 21 then S (5, k, i) 5 else S (5, k, i) 5 + 1)) →
          sh_Ci g mX2_countNotGone [sh_R (2, k, 0), sh_I (-1)] S' sz (fun r21 S20 => (sh_Ci g mX5_outcome [sh_R (5, k, i), sh_I r21] S20 sz (fun r23 S22 => ((¬ r23 = 1 → ((¬ r23 = 2 → (∀ S26 : sh_S, S26 = sh_sr S22 (5, k, i) (upd (S22 (5, k, i)) 0 0) → Q r23 S26)) ∧ (r23 = 2 → (∀ S27 : sh_S, S27 = sh_sr S22 (5, k, i) (upd (S22 (5, k, i)) 0 1) → Q r23 S27)))) ∧ (r23 = 1 → (sh_Cu g mX2_share [sh_R (2, k, 0), sh_I (S22 (5, k, i) 1), sh_I 2, sh_I (-1)] S22 sz (fun S28 => (vp_in (nI i) 20 ∧ (∀ S30 : sh_S, S30 = sh_sr S28 (7, k, i) (upd (S28 (7, k, i)) 2 (((S28 (7, k, i) 2) - (S28 (5, k, i) 2)))) → ((¬ r23 = 2 → (∀ S32 : sh_S, S32 = sh_sr S30 (5, k, i) (upd (S30 (5, k, i)) 0 0) → Q r23 S32)) ∧ (r23 = 2 → (∀ S33 : sh_S, S33 = sh_sr S30 (5, k, i) (upd (S30 (5, k, i)) 0 1) → Q r23 S33)))))))))))) := by
        rintro at' S' hat he ho ⟨f0, f1, f2, f3, f6, f4, f5⟩
        rw [he] at h
        have hX18 : pt (sh_wt P i (upd (sh_tr P i) at' (pt P i at' ||| 1 <<< (nI q &&& 31)))) i 18 = nI x := by
          show sh_wt _ _ _ _ = _
          rw [wt_at _ _ _ _ (by omega), upd_ne (by omega)]; exact ex
        have R1 : sh_RS k (sh_wt P i (upd (sh_tr P i) at' (pt P i at' ||| 1 <<< (nI q &&& 31)))) S0 S' := by
          refine rs_tool R (by omega) (fun o h1 h2 h3 h4 h5 => ho o h4) ?_
          rw [ho _ (ne_k (by omega)), ho _ (ne_k (by omega)), ho _ (ne_k (by omega))]
          have hu : ∀ w, w ≠ at' → upd (sh_tr P i) at' (pt P i at' ||| 1 <<< (nI q &&& 31)) w = sh_tr P i w := fun w h => upd_ne h
          obtain ⟨g1, g2, g3, _⟩ := hr
          refine ⟨?_, ?_, fun j hj => ?_, ?_, ?_, .inr ⟨f0, ?_, ?_, ?_, ?_, ?_⟩⟩
          · rw [hu 0 (by omega), hu 1 (by omega), hu 2 (by omega), hu 3 (by omega), hu 4 (by omega), hu 5 (by omega), hu 6 (by omega), hu 7 (by omega), hu 9 (by omega), hu 11 (by omega)]
            exact g1
          · rw [hu 8 (by omega)]; exact g2
          · rw [hu (12 + j) (by omega), hu (15 + j) (by omega)]; exact g3 j hj
          · rw [hu 19 (by omega), f2]; exact p2
          · rw [hu 20 (by omega), f3]; exact p3
          · rw [hu 18 (by omega)]; exact hne
          · rw [hu 18 (by omega), f1]; exact p1
          · rcases hat with rfl | rfl
            · rw [f4, if_pos rfl, upd_eq, p4]
              exact (bi_put (pt P i 21) (by omega) hb.1).symm
            · rw [f4, if_neg (by omega), hu 21 (by omega)]; exact p4
          · rcases hat with rfl | rfl
            · rw [f5, if_pos rfl, hu 22 (by omega)]; exact p5
            · rw [f5, if_neg (by omega), upd_eq, p5]
              exact (bi_put (pt P i 22) (by omega) hb.2).symm
          · rcases hat with rfl | rfl
            · rw [f6, upd_eq, hu 22 (by omega)]; exact or_l _ _ _
            · rw [f6, upd_eq, hu 21 (by omega)]; exact or_r _ _ _
        refine k_voteEnd hk R1 (B_wt I.B _ _) (by rw [nT_wt]; exact hi) f0 hx hX18 ?_ (vp_in_nI (by omega) (by omega)) (h.2 cd_nn)
        rw [ct2_congr (P := P) nM_wt (fun m hm hne => by show sh_wt _ _ _ _ = 2 ↔ _; rw [wt_out (by omega)])]
        exact hct
      refine ⟨fun z4 => wp_X5_countVote (ok5 hk (by omega)) ?_, fun z4 => wp_X5_countVote (ok5 hk (by omega)) ?_⟩
      · rintro _ rfl
        refine wt rfl ?_
        rintro _ rfl
        simp only [sr_sr, sh_sr_s]
        refine tail 22 _ (.inr rfl) (if_neg z4) (fun o ho => sr_o ho) ?_
        rw [sh_sr_s]
        refine ⟨by simp [upd, p0], by simp [upd], by simp [upd], by simp [upd], by simp [upd, p6'], by simp [upd], by simp [upd]⟩
      · rintro _ rfl
        refine wf (by decide) ?_
        rintro _ rfl
        simp only [sr_sr, sh_sr_s]
        refine tail 21 _ (.inl rfl) (if_pos z4) (fun o ho => sr_o ho) ?_
        rw [sh_sr_s]
        refine ⟨by simp [upd, p0], by simp [upd], by simp [upd], by simp [upd], by simp [upd, p6'], by simp [upd], by simp [upd]⟩
    · exact hno (.inr (.inl (of_decide_eq_true z2)))
  · rw [if_neg (ff_m2 (inb_f2 c4))] at h
    exact h.1 (show (-1000001 : Int32) < 0 by decide)
end CVOTE2
