def sh_kg (Q : Int32 → sh_S → Prop) (k : Nat) (S0 S : sh_S) (x : Int32 × (Nat → Int32)) : Prop := (x.1 < 0 → Q x.1 S) ∧ (¬ x.1 < 0 → ∀ S', sh_RS k x.2 S0 S' → Q x.1 S')
theorem kg_pos {Q : Int32 → sh_S → Prop} {k : Nat} {S0 S : sh_S} {a : Int32} {X : Nat → Int32} (h : sh_kg Q k S0 S (a, X)) (ha : ¬ a < 0) : ∀ S', sh_RS k X S0 S' → Q a S' := h.2 ha
theorem nI_ltz {v : Int32} (h : ¬ 0 ≤ v) : v < 0 := Int32.not_le.mp h
section CMEM2
variable {g : sh_G} {S S0 : sh_S} {P : Nat → Int32} {sz k b : Nat} {Q : Int32 → sh_S → Prop} {U : sh_S → Prop}
theorem k_has (hk : k < 7) (R : sh_RS k P S0 S) (B : sh_B P) {v : Int32} (h : Q (bI (mB P v)) S) : sh_Ci g mX2_has [sh_R (2, k, 0), sh_I v] S sz Q := by
  have hl := B.ml
  refine wp_X2_has (ok2 hk) ?_
  rw [R.mem]
  refine wc (fun c => ?_) (fun c => wc (fun c2 => ?_) (fun c2 => wc (fun c3 => ?_) (fun c3 => ?_)))
  · rwa [show mB P v = false from decide_eq_false fun z => Int32.not_lt.mpr z.1 c] at h
  · rwa [show mB P v = false from decide_eq_false fun z => Int32.not_lt.mpr c2 z.2] at h
  · have c2' := Int32.not_le.mp c2
    rw [B.m] at c2'
    obtain ⟨m, hm, rfl⟩ := nI_ex (by omega) (Int32.not_lt.mp c) c2'
    have := (nI_leI (a := 10) (b := m) (by omega) (by omega)).mp c3
    omega
  · rwa [show mB P v = true from decide_eq_true ⟨Int32.not_lt.mp c, Int32.not_le.mp c2⟩] at h
theorem mB_ni {m : Nat} (B : sh_B P) (hm : m < 2 ^ 31) : mB P (nI m) = decide (m < nM P) := by
  have hl := B.ml
  unfold mB
  rw [decide_eq_decide, B.m]
  exact ⟨fun z => (nI_ltI hm (by omega)).mp z.2, fun z => ⟨nI_pos' hm, nI_lt z (by omega)⟩⟩
theorem k_takesPart (hk : k < 7) (R : sh_RS k P S0 S) (B : sh_B P) {v but : Int32} (m : Nat) (hv : v = nI m) (hm : m < 10) (h : Q (bI (sh_tk P but m)) S) : sh_Ci g mX2_takesPart [sh_R (2, k, 0), sh_I v, sh_I but] S sz Q := by
  subst hv
  refine wp_X2_takesPart (ok2 hk) (k_has hk R B ?_)
  rw [mB_ni B (by omega)]
  refine wb (fun c => ?_) (fun c => wc (fun c2 => ?_) (fun c2 => ⟨vp_in_nI (by omega) (by omega), ?_⟩))
  · rwa [show sh_tk P but m = false from decide_eq_false fun z => of_decide_eq_false c z.1] at h
  · rwa [show sh_tk P but m = false from decide_eq_false fun z => z.2.1 c2] at h
  · rw [nI_clamp (by omega)]
    refine k_isGone hk hm (wb' (fun c3 => ?_) (fun c3 => ?_)) <;> rw [R.row hm (by omega)] at c3
    · rwa [show sh_tk P but m = true from decide_eq_true ⟨of_decide_eq_true c, c2, of_decide_eq_false c3⟩] at h
    · rwa [show sh_tk P but m = false from decide_eq_false fun z => z.2.2 (of_decide_eq_true c3)] at h
theorem k_countNotGone (hk : k < 7) (R : sh_RS k P S0 S) (B : sh_B P) {but : Int32} (h : Q (nI (sh_ct2 P but)) S) : sh_Ci g mX2_countNotGone [sh_R (2, k, 0), sh_I but] S sz Q := by
  have hl := B.ml
  refine wp_X2_countNotGone (ok2 hk) ⟨fun v i S' => ∃ j, j ≤ nM P ∧ i = nI j ∧ v = nI (sh_cnt (sh_tk P but) j) ∧ S' = S, fun _ i _ => nM P - i.toNatClampNeg, ⟨0, by omega, rfl, rfl, rfl⟩, ?_⟩
  rintro _ _ _ ⟨j, hj, rfl, rfl, rfl⟩
  rw [R.mem, B.m]
  refine wc (fun c => ?_) (fun c => ?_)
  · obtain rfl := lp_end hj (by omega) c
    exact h
  · have hlt := lp_go (by omega) hj c
    have hmu := mu_lt (N := nM P) hlt (by omega)
    refine k_takesPart hk R B j rfl (by omega) (wb (fun c => ?_) (fun c => ?_))
    · rintro _ rfl; rw [nI_1 j]
      exact ⟨⟨j + 1, hlt, rfl, by rw [cnt_f c], rfl⟩, hmu⟩
    · rintro _ rfl _ rfl; rw [nI_1 j]
      exact ⟨⟨j + 1, hlt, rfl, by rw [cnt_t c, nI_1], rfl⟩, hmu⟩
theorem k_countWithStatus (hk : k < 7) (R : sh_RS k P S0 S) (B : sh_B P) {s : Int32} (h : Q (nI (sh_cnt (sh_ist P s) (nM P))) S) : sh_Ci g mX2_countWithStatus [sh_R (2, k, 0), sh_I s] S sz Q := by
  have hl := B.ml
  refine wp_X2_countWithStatus (ok2 hk) ⟨fun v i S' => ∃ j, j ≤ nM P ∧ i = nI j ∧ v = nI (sh_cnt (sh_ist P s) j) ∧ S' = S, fun _ i _ => nM P - i.toNatClampNeg, ⟨0, by omega, rfl, rfl, rfl⟩, ?_⟩
  rintro _ _ _ ⟨j, hj, rfl, rfl, rfl⟩
  rw [R.mem, B.m]
  refine wc (fun c => ?_) (fun c => ?_)
  · obtain rfl := lp_end hj (by omega) c
    exact h
  · have hlt := lp_go (by omega) hj c
    have hmu := mu_lt (N := nM P) hlt (by omega)
    refine k_has hk R B ?_
    rw [B.mB_i hlt]
    refine wf (by decide) ⟨vp_in_nI (by omega) (by omega), ?_⟩
    rw [nI_clamp (by omega), R.row (by omega) (by omega)]
    refine ⟨fun c => ?_, fun c => ?_⟩
    · rintro _ rfl; rw [nI_1 j]
      exact ⟨⟨j + 1, hlt, rfl, by rw [cnt_f (decide_eq_false c)], rfl⟩, hmu⟩
    · rintro _ rfl _ rfl; rw [nI_1 j]
      exact ⟨⟨j + 1, hlt, rfl, by rw [cnt_t (decide_eq_true c), nI_1], rfl⟩, hmu⟩
theorem k_putBehind (hk : k < 7) (R : sh_RS k P S0 S) (hY : P 11 = nI (nY P)) (hl : nY P < 10) {v : Int32} (h : ∀ S', sh_RS k (upd (upd P (12 + nY P) v) 11 (nI (nY P + 1))) S0 S' → U S') : sh_Cu g mX2_putBehindTurns [sh_R (2, k, 0), sh_I v] S sz U := by
  refine wp_X2_putBehindTurns (ok2 hk) ?_
  rw [R.inT, hY]
  refine wf (nI_pos (by omega)) (wf (nI_ge (b := 10) hl (by omega)) ⟨vp_in_nI (by omega) (by omega), ?_⟩)
  rw [nI_clamp (by omega)]
  rintro _ rfl _ rfl
  refine h _ (rs_low R (fun j hj => by rw [upd_ne (by omega), upd_ne (by omega)]) (fun o h1 h2 h3 h4 => by rw [sr_o h1, sr_o h3]) ⟨fun j hj => ?_, ?_, ?_, ?_, ?_, ?_, fun j hj => ?_⟩)
  · rw [sr_o (ne_k (by omega)), sr_o (ne_k (by omega)), upd_ne (by omega), upd_ne (by omega)]; exact R.set hj
  · rw [sr_o (ne_k (by omega)), sr_o (ne_k (by omega)), upd_ne (by omega), upd_ne (by omega)]; exact R.day
  · rw [sh_sr_s, sr_o (ne_k (by omega)), upd_ne (by omega), upd_ne (by omega), upd_ne (by omega)]; exact R.mem
  · rw [sr_o (ne_k (by omega)), sr_o (ne_k (by omega)), upd_ne (by omega), upd_ne (by omega)]; exact R.add
  · rw [sh_sr_s, sr_o (ne_k (by omega)), upd_ne (by omega), upd_ne (by omega), upd_ne (by omega)]; exact R.ptr
  · rw [sh_sr_s, sr_o (ne_k (by omega)), upd_eq, upd_eq, R.inT, hY, nI_1]
  · rw [sr_o (ne_k (by omega)), sh_sr_s, upd_ne (f := upd P _ _) (by omega)]
    unfold upd
    by_cases e : j = nY P
    · rw [if_pos e, if_pos (by omega)]
    · rw [if_neg e, if_neg (by omega)]; exact R.trn hj
theorem k_takeOut (hk : k < 7) (R : sh_RS k P S0 S) (B : sh_B P) {v : Int32} (j : Nat) (hj : j < nY P) (ej : P (12 + j) = v) (hu : ∀ i, i < nY P → P (12 + i) = v → i = j) (h : ∀ S', sh_RS k (sh_ot P j) S0 S' → U S') : sh_Cu g mX2_takeOutOfTurns [sh_R (2, k, 0), sh_I v] S sz U := by
  have hY := B.yl
  have hend : ∀ i, i = nY P → U (sh_sr (sh_sr S (11, k, 0) (fun q => if j ≤ q ∧ q + 1 < i then S (11, k, 0) (q + 1) else S (11, k, 0) q)) (2, k, 0) (upd (sh_sr S (11, k, 0) (fun q => if j ≤ q ∧ q + 1 < i then S (11, k, 0) (q + 1) else S (11, k, 0) q) (2, k, 0)) 3 (nI (if i ≤ j then i else i - 1)))) := by
    rintro i rfl
    rw [if_neg (by omega)]
    refine h _ (rs_low R (fun q hq => ot_out (by omega) (by omega) hY) (fun o h1 h2 h3 h4 => by rw [sr_o h1, sr_o h3]) ⟨fun q hq => ?_, ?_, ?_, ?_, ?_, ?_, fun q hq => ?_⟩)
    · rw [sr_o (ne_k (by omega)), sr_o (ne_k (by omega)), ot_out (by omega) (by omega) hY]; exact R.set hq
    · rw [sr_o (ne_k (by omega)), sr_o (ne_k (by omega)), ot_out (by omega) (by omega) hY]; exact R.day
    · rw [sh_sr_s, sr_o (ne_k (by omega)), upd_ne (by omega), ot_out (by omega) (by omega) hY]; exact R.mem
    · rw [sr_o (ne_k (by omega)), sr_o (ne_k (by omega)), ot_out (by omega) (by omega) hY]; exact R.add
    · rw [sh_sr_s, sr_o (ne_k (by omega)), upd_ne (by omega), ot_out (by omega) (by omega) hY]; exact R.ptr
    · rw [sh_sr_s, upd_eq, ot_11]
    · rw [sr_o (ne_k (by omega)), sh_sr_s]
      unfold sh_ot
      rw [if_neg (show ¬ 12 + q = 11 by omega)]
      by_cases e : j ≤ q ∧ q + 1 < nY P
      · rw [if_pos e, if_pos (by omega)]; exact R.trn (by omega)
      · rw [if_neg e, if_neg (by omega)]; exact R.trn hq
  refine wp_X2_takeOutOfTurns (ok2 hk) ⟨fun v i S' => ∃ q, q ≤ nY P ∧ i = nI q ∧ v = nI (if q ≤ j then q else q - 1) ∧ S' = sh_sr S (11, k, 0) (fun x => if j ≤ x ∧ x + 1 < q then S (11, k, 0) (x + 1) else S (11, k, 0) x), fun _ i _ => nY P - i.toNatClampNeg, ⟨0, by omega, rfl, by rw [if_pos (by omega)]; rfl, ?_⟩, ?_⟩
  · rw [show (fun x => if j ≤ x ∧ x + 1 < 0 then S (11, k, 0) (x + 1) else S (11, k, 0) x) = S (11, k, 0) from funext fun x => if_neg (by omega), sr_self]
  rintro _ _ _ ⟨i, hi, rfl, rfl, rfl⟩
  refine wc (fun c => ?_) (fun c => ?_)
  · have := (nI_leI (a := 10) (b := i) (by omega) (by omega)).mp c
    rintro _ rfl
    exact hend i (by omega)
  · rw [sr_o (ne_k (by omega)), R.inT, B.y]
    refine wc (fun c2 => ?_) (fun c2 => ?_)
    · obtain rfl := lp_end hi (by omega) c2
      rintro _ rfl
      have := hend (nY P) rfl
      rw [sr_o (ne_k (by omega))] at this
      exact this
    · have hlt := lp_go (by omega) hi c2
      have hmu := mu_lt (N := nY P) hlt (by omega)
      rw [sh_sr_s, nI_clamp (n := i) (by omega)]
      dsimp only
      rw [if_neg (show ¬ (j ≤ i ∧ i + 1 < i) by omega), R.trn (j := i) (by omega)]
      refine ⟨vp_in_nI (by omega) (by omega), fun c3 => ?_, fun c3 => ⟨vp_in_nI (by omega) (by omega), ?_⟩⟩
      · obtain rfl := hu i hlt c3
        rintro _ rfl
        rw [nI_1 i]
        refine ⟨⟨i + 1, hlt, rfl, by rw [if_pos (by omega), if_neg (by omega)]; rfl, ?_⟩, hmu⟩
        congr 1; funext x
        by_cases e : i ≤ x ∧ x + 1 < i
        · omega
        · rw [if_neg e, if_neg (by omega)]
      · have hne : i ≠ j := fun z => c3 (by rw [z]; exact ej)
        rw [nI_clamp (by split <;> omega)]
        refine ⟨vp_in_nI (by split <;> omega) (by omega), ?_⟩
        rintro _ rfl _ rfl _ rfl
        rw [nI_1 i, nI_1]
        refine ⟨⟨i + 1, hlt, rfl, ?_, ?_⟩, hmu⟩
        · congr 1
          by_cases e : i ≤ j
          · rw [if_pos e, if_pos (by omega)]
          · rw [if_neg e, if_neg (by omega)]; omega
        · rw [sr_sr]
          congr 1; funext x
          unfold upd
          dsimp only
          by_cases e : i ≤ j
          · rw [if_pos e]
            by_cases ex : x = i
            · rw [if_pos ex, if_neg (by omega), ex]; exact (R.trn (by omega)).symm
            · rw [if_neg ex]
              by_cases e2 : j ≤ x ∧ x + 1 < i
              · omega
              · rw [if_neg e2, if_neg (by omega)]
          · rw [if_neg e]
            by_cases ex : x = i - 1
            · rw [if_pos ex, if_pos (by omega), ex, show i - 1 + 1 = i by omega]; exact (R.trn (by omega)).symm
            · rw [if_neg ex]
              by_cases e2 : j ≤ x ∧ x + 1 < i
              · rw [if_pos e2, if_pos (by omega)]
              · rw [if_neg e2, if_neg (by omega)]
theorem k_moveToEnd (hk : k < 7) (R : sh_RS k P S0 S) (B : sh_B P) {v : Int32} (j : Nat) (hj : j < nY P) (ej : P (12 + j) = v) (hu : ∀ i, i < nY P → P (12 + i) = v → i = j) (h : ∀ S', sh_RS k (sh_end P v) S0 S' → U S') : sh_Cu g mX2_moveToEndOfTurns [sh_R (2, k, 0), sh_I v] S sz U := by
  have hY := B.yl
  have et : sh_tn P v (-1) = nI j := fnd_s hj (decide_eq_true ej) fun i hi => decide_eq_false fun z => by
    have := hu i (by omega) z
    omega
  have hn := nY_ot (P := P) (i := j) hY
  refine wp_X2_moveToEndOfTurns (ok2 hk) (k_takeOut hk R B j hj ej hu fun S' R' => k_putBehind hk R' (by rw [hn]; exact ot_11) (by omega) fun S2 R2 => h S2 ?_)
  unfold sh_end
  rw [et, nI_clamp (by omega)]
  rw [hn, show nY P - 1 + 1 = nY P by omega] at R2
  exact R2
theorem k_placeInTurns (hk : k < 7) (R : sh_RS k P S0 S) (B : sh_B P) {v : Int32} (h : Q (sh_tn P v (-1000004)) S) : sh_Ci g mX2_placeInTurns [sh_R (2, k, 0), sh_I v] S sz Q := by
  have hl := B.yl
  refine wp_X2_placeInTurns (ok2 hk) ⟨fun i => ∃ j, j ≤ nY P ∧ i = nI j ∧ ∀ q, q < j → decide (P (12 + q) = v) = false, fun i => nY P - i.toNatClampNeg, ⟨0, by omega, rfl, fun q hq => by omega⟩, ?_⟩
  rintro _ ⟨j, hj, rfl, hb⟩
  rw [R.inT, B.y]
  refine wc (fun c => ?_) (fun c => wc (fun c2 => ?_) (fun c2 => ?_))
  · have := (nI_leI (a := 10) (b := j) (by omega) (by omega)).mp c
    obtain rfl : j = nY P := by omega
    rw [sh_tn, fnd_n hb] at h
    exact h
  · obtain rfl := lp_end hj (by omega) c2
    rw [sh_tn, fnd_n hb] at h
    exact h
  · have hlt := lp_go (by omega) hj c2
    rw [nI_clamp (by omega), R.trn (by omega)]
    refine ⟨vp_in_nI (by omega) (by omega), fun c3 => ?_, fun c3 => ?_⟩
    · rintro _ rfl
      rw [nI_1 j]
      exact ⟨⟨j + 1, hlt, rfl, all_succ hb (decide_eq_false c3)⟩, mu_lt hlt (by omega)⟩
    · rw [sh_tn, fnd_s hlt (decide_eq_true c3) hb] at h
      exact h
theorem k_memberInTurn (hk : k < 7) (R : sh_RS k P S0 S) (B : sh_B P) {ix : Int32} (h : Q (q_turnAt P ix) S) : sh_Ci g mX2_memberInTurn [sh_R (2, k, 0), sh_I ix] S sz Q := by
  unfold q_turnAt at h
  have hY := B.yl
  refine wp_X2_memberInTurn (ok2 hk) ⟨fun z => ?_, fun z => ?_⟩
  · rw [if_neg (Int32.not_lt.mpr z)] at h
    rw [R.inT]
    refine wc (fun z2 => ?_) (fun z2 => ?_)
    · rwa [if_neg (Int32.not_lt.mpr z2)] at h
    · have z2 := Int32.not_le.mp z2
      rw [if_pos z2] at h
      rw [B.y] at z2
      obtain ⟨j, hj, rfl⟩ := nI_ex (by omega) z z2
      rw [nI_clamp (by omega)] at h ⊢
      refine wf (nI_ge (b := 10) (by omega) (by omega)) ⟨vp_in_nI (by omega) (by omega), ?_⟩
      rw [R.trn (by omega)]; exact h
  · rwa [if_pos (Int32.not_le.mp z)] at h
theorem k_firstThere (hk : k < 7) (R : sh_RS k P S0 S) (B : sh_B P) (h : Q (sh_who P) S) : sh_Ci g mX2_firstThereInTurns [sh_R (2, k, 0)] S sz Q := by
  have hl := B.yl
  have hml := B.ml
  refine wp_X2_firstThereInTurns (ok2 hk) ⟨fun i S' => ∃ j, j ≤ nY P ∧ i = nI j ∧ S' = S ∧ ∀ q, q < j → ¬ P (22 + 12 * (P (12 + q)).toNatClampNeg) = 0, fun i _ => nY P - i.toNatClampNeg, ⟨0, by omega, rfl, rfl, fun q hq => by omega⟩, ?_⟩
  rintro _ _ ⟨j, hj, rfl, rfl, hb⟩
  rw [R.inT, B.y]
  refine wc (fun c => ?_) (fun c => wc (fun c2 => ?_) (fun c2 => ?_))
  · have := (nI_leI (a := 10) (b := j) (by omega) (by omega)).mp c
    obtain rfl : j = nY P := by omega
    rw [who_n hb] at h
    exact h
  · obtain rfl := lp_end hj (by omega) c2
    rw [who_n hb] at h
    exact h
  · have hlt := lp_go (by omega) hj c2
    have hmu := mu_lt (N := nY P) hlt (by omega)
    rw [nI_clamp (by omega), R.trn (by omega)]
    refine ⟨vp_in_nI (by omega) (by omega), ?_⟩
    rintro _ rfl
    obtain ⟨m, hm, em⟩ := B.tn j hlt
    have ec : (P (12 + j)).toNatClampNeg = m := by rw [em, nI_clamp (by omega)]
    refine k_has hk R B ?_
    rw [em, B.mB_i hm, nI_clamp (by omega)]
    refine wf (by decide) ⟨vp_in_nI (by omega) (by omega), k_isThere hk (by omega) (wb (fun c3 => ?_) (fun c3 => ?_))⟩ <;> rw [R.row (by omega) (by omega)] at c3
    · rintro _ rfl
      rw [nI_1 j]
      refine ⟨⟨j + 1, hlt, rfl, rfl, fun q hq => ?_⟩, hmu⟩
      by_cases e : q = j
      · rw [e, ec]; exact of_decide_eq_false c3
      · exact hb q (by omega)
    · rw [who_s hlt (by rw [ec]; exact of_decide_eq_true c3) hb, em] at h
      exact h
theorem k_swapTurns (hk : k < 7) (R : sh_RS k P S0 S) (I : sh_IP P b) {x y : Int32} (h : sh_kg Q k S0 S (o_swap P x y)) : sh_Ci g mX2_swapTurns [sh_R (2, k, 0), sh_I x, sh_I y] S sz Q := by
  unfold o_swap at h
  have hl := I.ml
  have hY := I.B.yl
  refine wp_X2_swapTurns (ok2 hk) (k_has hk R I.B (wb (fun c => ?_) (fun c => k_has hk R I.B (wb (fun c2 => ?_) (fun c2 => ⟨fun c3 => ?_, fun c3 => ?_⟩)))))
  · rw [if_neg (by rw [c]; exact fun z => Bool.noConfusion z.1)] at h
    exact h.1 (show (-1000001 : Int32) < 0 by decide)
  · rw [if_neg (by rw [c2]; exact fun z => Bool.noConfusion z.2.1)] at h
    exact h.1 (show (-1000001 : Int32) < 0 by decide)
  · rw [if_pos ⟨c, c2, c3⟩] at h
    obtain ⟨i, hi, rfl⟩ := I.B.mB_t c
    obtain ⟨q, hq, rfl⟩ := I.B.mB_t c2
    rw [nI_clamp (by omega), nI_clamp (by omega)] at h
    refine k_placeInTurns hk R I.B (k_placeInTurns hk R I.B ?_)
    by_cases z1 : pm P i 0 = 2
    · rw [if_pos (.inl z1)] at h
      rw [tn_gone I.tn I.B hi z1]
      exact wt (by decide) (h.1 (show (-1000002 : Int32) < 0 by decide))
    · obtain ⟨j, hj, ej, et⟩ := tn_of I.tn hi z1
      rw [et (-1000004)]
      refine wf (nI_pos (by omega)) ?_
      by_cases z2 : pm P q 0 = 2
      · rw [if_pos (.inr z2)] at h
        rw [tn_gone I.tn I.B hq z2]
        exact wf (by decide) (h.1 (show (-1000002 : Int32) < 0 by decide))
      · obtain ⟨j2, hj2, ej2, et2⟩ := tn_of I.tn hq z2
        rw [if_neg (fun z => z.elim z1 z2), et (-1), et2 (-1), nI_clamp (by omega), nI_clamp (by omega)] at h
        rw [et2 (-1000004)]
        refine wt (nI_pos' (by omega)) ⟨vp_in_nI (by omega) (by omega), ?_⟩
        rintro _ rfl
        refine ⟨vp_in_nI (by omega) (by omega), ?_⟩
        rintro _ rfl
        rw [sh_sr_s, sr_sr, nI_clamp (by omega), nI_clamp (by omega)]
        refine kg_pos h (nI_pos (by omega)) _ (rs_low R (fun j hj => by rw [upd_ne (by omega), upd_ne (by omega)]) (fun o h1 h2 h3 h4 => by rw [sr_o h3]) ⟨fun j hj => ?_, ?_, ?_, ?_, ?_, ?_, fun p hp => ?_⟩)
        · rw [sr_o (ne_k (by omega)), upd_ne (by omega), upd_ne (by omega)]; exact R.set hj
        · rw [sr_o (ne_k (by omega)), upd_ne (by omega), upd_ne (by omega)]; exact R.day
        · rw [sr_o (ne_k (by omega)), upd_ne (by omega), upd_ne (by omega)]; exact R.mem
        · rw [sr_o (ne_k (by omega)), upd_ne (by omega), upd_ne (by omega)]; exact R.add
        · rw [sr_o (ne_k (by omega)), upd_ne (by omega), upd_ne (by omega)]; exact R.ptr
        · rw [sr_o (ne_k (by omega)), upd_ne (by omega), upd_ne (by omega)]; exact R.inT
        · rw [sh_sr_s]
          unfold upd
          by_cases e : p = j2
          · rw [if_pos e, if_pos (by omega)]
          · rw [if_neg e, if_neg (show ¬ 12 + p = 12 + j2 by omega)]
            by_cases e2 : p = j
            · rw [if_pos e2, if_pos (show 12 + p = 12 + j by omega)]
            · rw [if_neg e2, if_neg (show ¬ 12 + p = 12 + j by omega)]; exact R.trn hp
  · rw [if_neg (fun z => z.2.2 c3)] at h
    exact h.1 (show (-1000001 : Int32) < 0 by decide)
end CMEM2
