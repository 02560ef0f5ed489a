section CTOOL2
variable {g : sh_G} {S S0 : sh_S} {P : Nat → Int32} {sz k b : Nat} {Q : Int32 → sh_S → Prop} {U : sh_S → Prop} {F : UInt32 → sh_S → Prop}
theorem k_lendToMember (hk : k < 7) (R : sh_RS k P S0 S) (I : sh_IP P b) {t m : Int32} (h : sh_kg Q k S0 S (o_borrow P t m)) : sh_Ci g mX6_lendToMember [sh_R (6, k, 0), sh_I t, sh_I m] S sz Q := by
  unfold o_borrow at h
  have hl := I.ml
  have htl := I.tl20
  refine wp_X6_lendToMember (ok6 hk) (k_hasTool hk R I.B (wb (fun c => ?_) (fun c => k_has hk R I.B (wb' (fun c2 => ?_) (fun c2 => ?_)))))
  · rw [if_neg (ff_h c)] at h
    exact h.1 (show (-1000001 : Int32) < 0 by decide)
  · rw [if_neg (ff_t c2)] at h
    exact h.1 (show (-1000001 : Int32) < 0 by decide)
  · rw [if_pos ⟨c, c2⟩] at h
    obtain ⟨i, hi, rfl⟩ := I.B.tB_t c
    obtain ⟨j, hj, rfl⟩ := I.B.mB_t c2
    rw [nI_clamp (by omega), nI_clamp (by omega)] at h
    have hno : ¬ (pt P i 3 = 0 ∧ pm P j 0 = 0 ∧ ¬ 0 < sh_opn P j ∧ sh_cnt (sh_on P (nI j) true) (nT P) ≤ 2) → Q (-1000002) S := fun z => by
      rw [if_neg z] at h
      exact h.1 (show (-1000002 : Int32) < 0 by decide)
    refine ⟨vp_in_nI (by omega) (by omega), vp_in_nI (by omega) (by omega), ?_⟩
    rw [nI_clamp (n := i) (by omega), nI_clamp (n := j) (by omega), R.place (by omega)]
    refine ⟨fun z => hno fun y => z y.1, fun z1 => k_isThere hk (by omega) (wb (fun z => ?_) (fun z2 => k_openS hk R (by omega) ⟨fun z => hno fun y => y.2.2.1 z, fun z3 => k_toolsOf (wl := true) hk R I.B ?_⟩))⟩
    · rw [R.row (by omega) (by omega)] at z
      exact hno fun y => of_decide_eq_false z y.2.1
    · rw [R.row (by omega) (by omega)] at z2
      have hcl := cnt_le (sh_on P (nI j) true) (nT P)
      rw [show nI (sh_cnt (sh_on P (nI j) true) (nT P)) < 3 ↔ sh_cnt (sh_on P (nI j) true) (nT P) < 3 from nI_ltI (b := 3) (by omega) (by omega)]
      refine ⟨fun z4 => ⟨vp_in_nI (by omega) (by omega), ?_⟩, fun z4 => hno fun y => z4 (by omega)⟩
      rw [if_pos ⟨z1, of_decide_eq_true z2, z3, by omega⟩] at h
      rw [R.day, R.set (by omega)]
      refine k_goOut hk R (by omega) rfl fun S' R' => ⟨vp_in_nI (by omega) (by omega), ?_⟩
      obtain ⟨n, hn, en⟩ := I.s 1 (by omega)
      have hn : n ≤ 60 := hn
      have := I.B.dl
      have hdue : S' (7, k, i) 7 = P 7 + P 1 := by
        rw [R'.due (by omega)]
        show sh_wt _ _ _ _ = _
        rw [wt_at _ _ _ _ (by omega), upd_ne (by omega), upd_ne (by omega), upd_ne (by omega), upd_eq]
      rw [hdue]
      exact kg_pos h (by rw [en, I.B.d, nI_add]; exact nI_pos (by omega)) S' R'
theorem do_min (I : sh_IP P b) {s : Nat} (hs : s ≤ nD P) : (if (1 : Int32) < (P 7 - nI s) then (P 7 - nI s) else 1) = sh_do (P 7) (nI s) := by
  have hd := I.B.dl
  unfold sh_do
  rw [I.B.d, pk_sub hs]
  by_cases h : s < nD P
  · rw [if_pos (nI_lt h (by omega))]
    by_cases h2 : nD P - s = 1
    · rw [h2]; rfl
    · rw [if_pos (show (1 : Int32) < nI (nD P - s) from nI_lt (a := 1) (by omega) (by omega))]
  · rw [if_neg (nI_nlt (by omega) (by omega)), if_neg (show ¬ (1 : Int32) < nI (nD P - s) from nI_nlt (a := 1) (by omega) (by omega))]
theorem k_daysOut (hk : k < 7) (R : sh_RS k P S0 S) (I : sh_IP P b) {t : Nat} (ht : t < nT P) {d : Int32} (hd : d = P 7) (h : Q (sh_do (P 7) (P (142 + 23 * t + 9))) S) : sh_Ci g mX7_daysOut [sh_R (7, k, t), sh_I d] S sz Q := by
  subst hd
  have htl := I.tl20
  obtain ⟨s, hs, es⟩ := (I.tl t ht).2.1.2.2.1
  have es : P (142 + 23 * t + 9) = nI s := es
  refine wp_X7_daysOut (ok7 hk (by omega)) ?_
  rw [R.since (by omega), es, do_min I hs, ← es]
  rintro _ rfl
  exact h
theorem k_behind (hk : k < 7) (R : sh_RS k P S0 S) (G : sh_G2 P) (B : sh_B P) {t d : Nat} (ht : t < nT P) {a : Int32} (ha : a = nI d) (hd : d < 2 ^ 30) (h : F (sh_du (sh_sp P t) (FP.i2f (100 - P (142 + 23 * t + 2))) d) S) : sh_Cf g mX7_sharpnessBehind [sh_R (7, k, t), sh_I a] S sz F := by
  subst ha
  have htl := B.tl
  obtain ⟨hv, w, hw, ew⟩ := G t ht
  have ew : P (142 + 23 * t + 2) = nI w := ew
  rw [ew, show (100 : Int32) - nI w = nI (100 - w) from pk_sub (a := 100) (by omega)] at h
  refine wp_X7_sharpnessBehind (ok7 hk (by omega)) ?_
  rw [R.wear (by omega), R.sharp (by omega), ew, show (100 : Int32) - nI w = nI (100 - w) from pk_sub (a := 100) (by omega)]
  rintro _ rfl _ rfl
  refine ⟨fun f i => ∃ j, j ≤ d ∧ i = nI j ∧ f = sh_du (sh_sp P t) (FP.i2f (nI (100 - w))) j, fun _ i => d - i.toNatClampNeg, ⟨0, by omega, rfl, rfl⟩, ?_⟩
  rintro _ _ ⟨j, hj, rfl, rfl⟩
  refine wc (fun c => ?_) (fun c => ?_)
  · obtain rfl := lp_end hj (by omega) c
    exact h
  · have hlt := lp_go (by omega) hj c
    obtain ⟨k1, k2, k3⟩ := fS_dull (fS_du (w := 100 - w) hv (by omega) j) (show 100 - w ≤ 100 by omega)
    refine ⟨k1, ?_⟩
    rintro _ rfl
    refine ⟨k2, ?_⟩
    rintro _ rfl _ rfl
    rw [nI_1]
    exact ⟨⟨j + 1, hlt, rfl, rfl⟩, mu_lt hlt (by omega)⟩
/-- comes in, on a page X that tells the same of this tool and the day as P -/
theorem k_comeIn (hk : k < 7) {X : Nat → Int32} (R : sh_RS k X S0 S) (I : sh_IP P b) (BX : sh_B X) (hT : nT X = nT P) (h7 : X 7 = P 7) (hX : ∀ j, 142 ≤ j → X j = P j) {t : Nat} (ht : t < nT P) {d : Int32} (hd : d = P 7) (h : ∀ S', sh_RS k (sh_wt X t (sh_cin P t)) S0 S' → U S') : sh_Cu g mX7_comeIn [sh_R (7, k, t), sh_I d] S sz U := by
  subst hd
  have htl := I.tl20
  obtain ⟨s, hs, es⟩ := (I.tl t ht).2.1.2.2.1
  have es : P (142 + 23 * t + 9) = nI s := es
  obtain ⟨q, hq, hq1, eq⟩ := do_nat I.B.dl hs
  have eq : sh_do (P 7) (P (142 + 23 * t + 9)) = nI q := by rw [es, I.B.d]; exact eq
  have G2X : sh_G2 X := fun u hu => by
    have := I.G2 u (by rw [← hT]; exact hu)
    unfold sh_sp at this ⊢
    rw [show pt X u 6 = pt P u 6 from hX _ (by omega), show pt X u 2 = pt P u 2 from hX _ (by omega)]
    exact this
  refine wp_X7_comeIn (ok7 hk (by omega)) ?_
  refine wp_X7_daysOut (ok7 hk (by omega)) ?_
  rw [R.since (by omega), hX _ (by omega), es, do_min I hs, ← es, eq]
  rintro _ rfl
  refine k_behind hk R G2X BX (by rw [hT]; exact ht) rfl (by omega) ?_
  rintro _ rfl _ rfl
  simp only [sr_sr, sh_sr_s]
  refine h _ (rs_tool R (by omega) (fun o h1 h2 h3 h4 h5 => sr_o h1) ?_)
  rw [sh_sr_s, sr_o (ne_k (by omega)), sr_o (ne_k (by omega)), sr_o (ne_k (by omega))]
  have hcin : sh_cin P t = upd (upd (sh_tr X t) 6 (sh_du (sh_sp X t) (FP.i2f (100 - X (142 + 23 * t + 2))) q).toInt32) 3 0 := by
    unfold sh_cin
    rw [show pt P t 9 = P (142 + 23 * t + 9) from rfl, eq, nI_clamp (by omega), show sh_tr X t = sh_tr P t from funext fun w => hX _ (by omega), show sh_sp X t = sh_sp P t from by unfold sh_sp; rw [show pt X t 6 = pt P t 6 from hX _ (by omega)], hX _ (by omega)]
  rw [hcin]
  obtain ⟨⟨e0, e1, e2, e3, e4, e5, e6, e7, e8, e9⟩, hh, hs', hq'⟩ := R.tol (t := t) (by omega)
  refine r_tool_mk (R.tol (by omega)) ⟨by simp [upd, e0], by simp [upd, e1], by simp [upd, e2], by simp [upd], by simp [upd], by simp [upd, e5], by simp [upd, e6], by simp [upd, e7], by simp [upd, e8], by simp [upd, e9]⟩ ?_ fun w h1 h2 => ?_
  · simpa [upd] using hh
  · rw [upd_ne (by omega), upd_ne (by omega)]
theorem late_max (I : sh_IP P b) {i : Nat} (hi : i < nT P) : (if (0 : Int32) < (P 7 - P (142 + 23 * i + 5)) then (P 7 - P (142 + 23 * i + 5)) else 0) = (if pt P i 5 < P 7 then P 7 - pt P i 5 else 0) := by
  obtain ⟨d, hd, ed⟩ := (I.tl i hi).2.1.2.2.2
  have ed : P (142 + 23 * i + 5) = nI d := ed
  have hdl := I.B.dl
  rw [show pt P i 5 = P (142 + 23 * i + 5) from rfl, ed, I.B.d]
  by_cases h : d < nD P
  · rw [if_pos (nI_lt h (by omega)), pk_sub (by omega), if_pos (show (0 : Int32) < nI (nD P - d) from nI_lt (a := 0) (by omega) (by omega))]
  · rw [if_neg (nI_nlt (by omega) (by omega))]
    rw [if_neg]
    rw [Int32.lt_iff_toInt_lt, pk_sub_toInt (by omega) (by omega), show (0 : Int32).toInt = 0 from rfl]
    omega
theorem k_takeBack (hk : k < 7) (R : sh_RS k P S0 S) (I : sh_IP P b) {t : Int32} (h : sh_kg Q k S0 S (o_back P t)) : sh_Ci g mX6_takeBack [sh_R (6, k, 0), sh_I t] S sz Q := by
  unfold o_back at h
  have hl := I.ml
  have htl := I.tl20
  refine wp_X6_takeBack (ok6 hk) (k_hasTool hk R I.B (wb' (fun c => ?_) (fun c => ?_)))
  · rw [if_neg (by rw [c]; decide)] at h
    exact h.1 (show (-1000001 : Int32) < 0 by decide)
  · obtain ⟨i, hi, rfl⟩ := I.B.tB_t c
    rw [if_pos c, nI_clamp (by omega)] at h
    rw [nI_clamp (by omega), R.place (by omega)]
    refine ⟨vp_in_nI (by omega) (by omega), fun z => ?_, fun z => ?_⟩
    · rw [if_neg z] at h
      exact h.1 (show (-1000002 : Int32) < 0 by decide)
    · rw [if_pos z] at h
      obtain ⟨m, hm, em⟩ := (I.tl i hi).2.1.2.1 (.inl z)
      have em : P (142 + 23 * i + 4) = nI m := em
      rw [R.who (by omega), em]
      refine k_has hk R I.B ?_
      rw [I.B.mB_i hm]
      refine wf' (by decide) ?_
      rw [R.day, R.due (by omega), R.set (by omega), late_max I hi, R.who (by omega), em]
      rintro _ rfl _ rfl
      rw [show (if pt P i 5 < P 7 then P 7 - pt P i 5 else 0) * P 2 = sh_late P i from rfl]
      refine ⟨vp_in_nI (by omega) (by omega), ?_⟩
      rw [nI_clamp (by omega)]
      refine k_charge hk (by omega) 1 rfl (by omega) ?_
      have R1 := rs_mem R (m := m) (by omega) (chg_congr (k := 1) (q := sh_late P i) (by omega) (rs_row R (m := m) (by omega)))
      refine k_comeIn hk R1 I (B_wr I.B _ _) nT_wr (wr_low (by omega)) (fun j hj => wr_out (by omega)) hi (by rw [R1.day, wr_low (by omega)]) fun S' R' => ?_
      obtain ⟨n, hn, en⟩ := late_nat I hi
      refine kg_pos h (by rw [en]; exact nI_pos (by omega)) S' ?_
      unfold f_back
      rw [show pt P i 4 = nI m from em, nI_clamp (by omega)]
      rw [wt_wr (by omega)] at R'
      rw [wr_congr (chg_congr (k := 1) (q := sh_late P i) (by omega) (row_wt (n' := sh_cin P i) (by omega)))]
      exact R'
theorem k_isCutter (hk : k < 7) (R : sh_RS k P S0 S) {t : Nat} (ht : t < 20) (h : Q (bI (sh_cut P t)) S) : sh_Ci g mX7_isCutterInShed [sh_R (7, k, t)] S sz Q := by
  refine wp_X7_isCutterInShed (ok7 hk ht) ?_
  rw [R.kind ht, R.place ht]
  refine ⟨fun c => ?_, fun c => ⟨fun c2 => ?_, fun c2 => ?_⟩⟩
  · rwa [show sh_cut P t = false from decide_eq_false fun z => c z.1] at h
  · rwa [show sh_cut P t = false from decide_eq_false fun z => c2 z.2] at h
  · rwa [show sh_cut P t = true from decide_eq_true ⟨c, c2⟩] at h
theorem k_cuttersAhead (hk : k < 7) (R : sh_RS k P S0 S) (G : sh_G2 P) (B : sh_B P) {v : Int32} (t : Nat) (hv : v = nI t) (ht : t < nT P) (h : Q (nI (sh_ah P t)) S) : sh_Ci g mX6_cuttersAheadOf [sh_R (6, k, 0), sh_I v] S sz Q := by
  subst hv
  have hl := B.tl
  refine wp_X6_cuttersAheadOf (ok6 hk) (k_hasTool hk R B ?_)
  rw [B.tB_i ht]
  refine wf' (by decide) ⟨vp_in_nI (by omega) (by omega), ?_⟩
  rw [nI_clamp (by omega), R.sharp (by omega)]
  rintro _ rfl
  refine ⟨fun v i S' => ∃ j, j ≤ nT P ∧ i = nI j ∧ v = nI (sh_cnt (fun q => sh_cut P q && sh_dl P q t) j) ∧ S = S', fun _ i _ => nT P - i.toNatClampNeg, ⟨0, by omega, rfl, rfl, rfl⟩, ?_⟩
  rintro _ _ _ ⟨j, hj, rfl, rfl, rfl⟩
  rw [R.add, B.t]
  refine wc (fun c => ?_) (fun c => ?_)
  · obtain rfl := lp_end hj (by omega) c
    exact h
  · have hlt := lp_go (by omega) hj c
    have hmu := mu_lt (N := nT P) hlt (by omega)
    have hf : (sh_cut P j && sh_dl P j t) = false → ∀ y : Int32, y = nI j + 1 → ((∃ j', j' ≤ nT P ∧ y = nI j' ∧ nI (sh_cnt (fun q => sh_cut P q && sh_dl P q t) j) = nI (sh_cnt (fun q => sh_cut P q && sh_dl P q t) j') ∧ S = S) ∧ nT P - y.toNatClampNeg < nT P - (nI j).toNatClampNeg) := fun w => by
      rintro _ rfl
      rw [nI_1 j]
      exact ⟨⟨j + 1, hlt, rfl, by rw [cnt_f w], rfl⟩, hmu⟩
    have htt : (sh_cut P j && sh_dl P j t) = true → ∀ x : Int32, x = nI (sh_cnt (fun q => sh_cut P q && sh_dl P q t) j) + 1 → ∀ y : Int32, y = nI j + 1 → ((∃ j', j' ≤ nT P ∧ y = nI j' ∧ x = nI (sh_cnt (fun q => sh_cut P q && sh_dl P q t) j') ∧ S = S) ∧ nT P - y.toNatClampNeg < nT P - (nI j).toNatClampNeg) := fun w => by
      rintro _ rfl _ rfl
      rw [nI_1 j, nI_1]
      exact ⟨⟨j + 1, hlt, rfl, by rw [cnt_t w], rfl⟩, hmu⟩
    refine k_hasTool hk R B ?_
    rw [B.tB_i hlt]
    refine wf (by decide) ⟨vp_in_nI (by omega) (by omega), ?_⟩
    rw [nI_clamp (by omega)]
    refine k_isCutter hk R (by omega) (wb (fun c2 => hf (by rw [c2]; rfl)) (fun c2 => ⟨vp_in_nI (by omega) (by omega), ?_⟩))
    rw [R.sharp (by omega)]
    rintro _ rfl
    have g1 := (G j hlt).1
    have g2 := (G t ht).1
    rw [show FP.fcmp (P (142 + 23 * j + 6)).toUInt32 (P (142 + 23 * t + 6)).toUInt32 = _ from fcmp_fm g1 g2, cv_lt, cv_eq, nI_leI (by omega) (by omega)]
    refine wc (fun z => htt ?_) (fun z => ⟨fun z2 => hf ?_, fun z2 => wc (fun z3 => hf ?_) (fun z3 => htt ?_)⟩)
    · rw [c2, show sh_dl P j t = true from decide_eq_true (.inl z)]; rfl
    · rw [show sh_dl P j t = false from decide_eq_false fun y => y.elim z fun y => z2 y.1, Bool.and_false]
    · rw [show sh_dl P j t = false from decide_eq_false fun y => y.elim z fun y => by omega, Bool.and_false]
    · rw [c2, show sh_dl P j t = true from decide_eq_true (.inr ⟨z2, by omega⟩)]; rfl
theorem k_cutterInOrder (hk : k < 7) (R : sh_RS k P S0 S) (G : sh_G2 P) (B : sh_B P) {ix : Int32} (h : Q (q_dullAt P ix) S) : sh_Ci g mX6_cutterInOrder [sh_R (6, k, 0), sh_I ix] S sz Q := by
  unfold q_dullAt sh_da at h
  have hl := B.tl
  refine wp_X6_cutterInOrder (ok6 hk) ⟨fun z => ?_, fun z => ?_⟩
  · rw [if_neg (Int32.not_lt.mpr z)] at h
    refine ⟨fun i S' => ∃ m, m ≤ nT P ∧ i = nI m ∧ S = S' ∧ ∀ q, q < m → (sh_cut P q && decide (nI (sh_ah P q) = ix)) = false, fun i _ => nT P - i.toNatClampNeg, ⟨0, by omega, rfl, rfl, fun q hq => by omega⟩, ?_⟩
    rintro _ _ ⟨m, hm, rfl, rfl, hb⟩
    rw [R.add, B.t]
    refine wc (fun c => ?_) (fun c => ?_)
    · obtain rfl := lp_end hm (by omega) c
      rw [fnd_n hb] at h
      exact h
    · have hlt := lp_go (by omega) hm c
      have hmu := mu_lt (N := nT P) hlt (by omega)
      refine k_hasTool hk R B ?_
      rw [B.tB_i hlt]
      refine wf (by decide) ⟨vp_in_nI (by omega) (by omega), ?_⟩
      rw [nI_clamp (by omega)]
      refine k_isCutter hk R (by omega) (wb (fun z2 => ?_) (fun z2 => k_cuttersAhead hk R G B m rfl hlt ⟨fun z3 => ?_, fun z3 => ?_⟩))
      · rintro _ rfl; rw [nI_1 m]
        exact ⟨⟨m + 1, hlt, rfl, rfl, all_succ hb (by rw [z2]; rfl)⟩, hmu⟩
      · rintro _ rfl; rw [nI_1 m]
        exact ⟨⟨m + 1, hlt, rfl, rfl, all_succ hb (by rw [decide_eq_false z3, Bool.and_false])⟩, hmu⟩
      · rw [fnd_s hlt (by rw [z2, decide_eq_true z3]; rfl) hb] at h
        exact h
  · rwa [if_pos (Int32.not_le.mp z)] at h
theorem rs_sharp (R : sh_RS k P S0 S) {t : Nat} (ht : t < 20) (v : UInt32) : sh_RS k (sh_wt P t (upd (sh_tr P t) 6 v.toInt32)) S0 (sh_sr S (7, k, t) (upd (S (7, k, t)) 3 v.toInt32)) := by
  refine rs_tool R ht (fun o h1 h2 h3 h4 h5 => sr_o h1) ?_
  rw [sh_sr_s, sr_o (ne_k (by omega)), sr_o (ne_k (by omega)), sr_o (ne_k (by omega))]
  obtain ⟨⟨e0, e1, e2, e3, e4, e5, e6, e7, e8, e9⟩, hh, hs', hq'⟩ := R.tol ht
  refine r_tool_mk (R.tol ht) ⟨by simp [upd, e0], by simp [upd, e1], by simp [upd, e2], by simp [upd], by simp [upd, e4], by simp [upd, e5], by simp [upd, e6], by simp [upd, e7], by simp [upd, e8], by simp [upd, e9]⟩ ?_ fun w h1 h2 => ?_
  · simpa [upd] using hh
  · rw [upd_ne (by omega)]
theorem k_sharpenBy (hk : k < 7) (R : sh_RS k P S0 S) (I : sh_IP P b) {t : Nat} (ht : t < nT P) (h : U (sh_sr S (7, k, t) (upd (S (7, k, t)) 3 (sh_shv (sh_sp P t) (P 5)).toInt32))) : sh_Cu g mX7_sharpenBy [sh_R (7, k, t), sh_I (P 5)] S sz U := by
  have htl := I.tl20
  obtain ⟨p, hp, ep⟩ := I.s 5 (by omega)
  have hp : p ≤ 100 := hp
  obtain ⟨k1, k2, k3, k4⟩ := fS_sharp (I.G2 t ht).1 hp
  unfold sh_shv at h
  rw [ep] at h ⊢
  refine wp_X7_sharpenBy (ok7 hk (by omega)) ?_
  rw [R.sharp (by omega)]
  refine ⟨k1, ?_⟩
  rintro _ rfl
  refine ⟨k2, ?_⟩
  rintro _ rfl
  refine ⟨k3, ?_⟩
  rintro _ rfl
  refine ⟨fV_nn k4, ?_⟩
  rintro _ rfl _ rfl
  exact h
theorem k_sharpEnd (hk : k < 7) (m t : Nat) (hm : m < nM P) (hg : pm P m 0 ≠ 2) (ht : t < nT P) (I : sh_IP P b) (R1 : sh_RS k (sh_wt P t (upd (sh_tr P t) 6 (sh_shv (sh_sp P t) (P 5)).toInt32)) S0 S) (h : ∀ S', sh_RS k (f_sharp P m t) S0 S' → Q (nI t) S') :
    sh_Cu g mX1_gainGiven [sh_R (1, k, m), sh_I (S (15, k, 0) 3)] S sz (fun S1 => sh_Cu g mX2_moveToEndOfTurns [sh_R (2, k, 0), sh_I (nI m)] S1 sz (fun S2 => Q (nI t) S2)) := by
  have hl := I.ml
  have htl := I.tl20
  have hY := I.B.yl
  rw [R1.set (by omega), wt_low (by omega)]
  unfold f_sharp at h
  have BX : sh_B (sh_wt P t (upd (sh_tr P t) 6 (sh_shv (sh_sp P t) (P 5)).toInt32)) := B_wt I.B _ _
  have hXl : ∀ j, j < 22 → sh_wt P t (upd (sh_tr P t) 6 (sh_shv (sh_sp P t) (P 5)).toInt32) j = P j := fun j hj => wt_low (by omega)
  generalize sh_wt P t (upd (sh_tr P t) 6 (sh_shv (sh_sp P t) (P 5)).toInt32) = X at R1 h BX hXl
  refine k_gainGiven hk (by omega) ?_
  have R2 := rs_mem R1 (m := m) (by omega) (gain_congr (v := 1) (q := P 3) (by omega) (rs_row R1 (m := m) (by omega)))
  have BY : sh_B (sh_wr X m (sh_gain (sh_row X m) 1 (P 3))) := B_wr BX _ _
  have hlow : ∀ j, j < 22 → sh_wr X m (sh_gain (sh_row X m) 1 (P 3)) j = P j := fun j hj => by rw [wr_low hj, hXl j hj]
  generalize sh_wr X m (sh_gain (sh_row X m) 1 (P 3)) = Y at R2 h BY hlow
  generalize sh_sr S (10, k, m) (sh_gain (S (10, k, m)) 1 (P 3)) = S1 at R2 ⊢
  have hY2 : nY Y = nY P := by unfold nY; rw [hlow 11 (by omega)]
  obtain ⟨j, hj, ej, et⟩ := tn_of I.tn hm hg
  refine k_moveToEnd hk R2 BY j (by rw [hY2]; exact hj) (by rw [hlow _ (by omega)]; exact ej) (fun i hi e => ?_) h
  rw [hY2] at hi
  rw [hlow _ (by omega)] at e
  exact I.tn.1 i j hi hj (e.trans ej.symm)
theorem k_sharpenDullest (hk : k < 7) (R : sh_RS k P S0 S) (I : sh_IP P b) (h : sh_kg Q k S0 S (o_sharp P)) : sh_Ci g mX6_sharpenDullest [sh_R (6, k, 0)] S sz Q := by
  unfold o_sharp at h
  have hl := I.ml
  have htl := I.tl20
  refine wp_X6_sharpenDullest (ok6 hk) (k_firstThere hk R I.B (k_has hk R I.B (wb' (fun c => ?_) (fun c => k_cutterInOrder hk R I.G2 I.B (k_hasTool hk R I.B (wb (fun c2 => ?_) (fun c2 => ?_)))))))
  · have hneg : sh_who P < 0 := Classical.byContradiction fun z => by
      obtain ⟨m, hm, h0, em⟩ := who_nat I z
      rw [em, I.B.mB_i hm] at c
      exact Bool.noConfusion c
    rw [if_pos hneg] at h
    exact h.1 (show (-1000002 : Int32) < 0 by decide)
  · have hpos : ¬ sh_who P < 0 := fun z => by
      have := (of_decide_eq_true c).1
      exact Int32.not_lt.mpr this z
    rw [if_neg hpos] at h
    unfold q_dullAt at c2
    rw [if_neg (by decide)] at c2
    have hno : ¬ (¬ sh_da P 0 < 0 ∧ sh_th (sh_sp P (sh_da P 0).toNatClampNeg) < P 4) := fun z => by
      rcases da_nat P 0 with hd | ⟨t, ht, hc, hd⟩
      · exact z.1 (by rw [hd]; decide)
      · rw [hd, I.B.tB_i ht] at c2; exact Bool.noConfusion c2
    rw [if_neg hno] at h
    exact h.1 (show (-1000004 : Int32) < 0 by decide)
  · have hpos : ¬ sh_who P < 0 := fun z => by
      have := (of_decide_eq_true c).1
      exact Int32.not_lt.mpr this z
    obtain ⟨m, hm, h0, em⟩ := who_nat I hpos
    rw [if_neg hpos, em, nI_clamp (by omega)] at h
    have hq : q_dullAt P 0 = sh_da P 0 := by unfold q_dullAt; rw [if_neg (by decide)]
    rw [hq] at c2 ⊢
    rcases da_nat P 0 with hd | ⟨t, ht, hc, hd⟩
    · rw [hd] at c2
      exact absurd (of_decide_eq_true c2).1 (by decide)
    · rw [hd] at h ⊢
      rw [nI_clamp (by omega)] at h
      have hv := (I.G2 t ht).1
      rw [em, nI_clamp (n := t) (by omega), nI_clamp (n := m) (by omega), R.sharp (by omega)]
      refine ⟨vp_in_nI (by omega) (by omega), k_thousandths hv ?_⟩
      rw [R.set (by omega)]
      refine ⟨fun z => ⟨vp_in_nI (by omega) (by omega), ?_⟩, fun z => ?_⟩
      · rw [if_pos ⟨nI_pos (by omega), z⟩] at h
        rw [R.set (by omega)]
        refine k_sharpenBy hk R I ht ⟨vp_in_nI (by omega) (by omega), ?_⟩
        exact k_sharpEnd hk m t hm (by rw [h0]; decide) ht I (rs_sharp R (by omega) _) (kg_pos h (nI_pos (by omega)))
      · rw [if_neg (fun y => z y.2)] at h
        exact h.1 (show (-1000004 : Int32) < 0 by decide)
end CTOOL2
