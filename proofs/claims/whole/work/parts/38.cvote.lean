/-! votes, other sheds, days and counts of the class -/
theorem wt_wt (P : Nat → Int32) (m : Nat) (n n' : Nat → Int32) : sh_wt (sh_wt P m n) m n' = sh_wt P m n' := by
  funext j
  unfold sh_wt
  by_cases h : 142 + 23 * m ≤ j ∧ j < 142 + 23 * m + 23
  · rw [if_pos h, if_pos h]
  · rw [if_neg h, if_neg h, if_neg h]
theorem nZ_wt {P : Nat → Int32} {m : Nat} {n : Nat → Int32} : nZ (sh_wt P m n) = nZ P := by unfold nZ; rw [wt_low (by omega)]
theorem tk_wt {P : Nat → Int32} {t m : Nat} {n : Nat → Int32} {but : Int32} (hm : m < 10) : sh_tk (sh_wt P t n) but m = sh_tk P but m :=
  tk_of hm (wt_low (by omega)) fun q hq => wt_out (by omega)
theorem sn_wt {P : Nat → Int32} {t : Nat} {n : Nat → Int32} {but : Int32} {kd e l z : Nat} (hkd : kd ≤ 3) : ∀ j, (sh_snn (sh_wt P t n) but kd e l z j).1 = sh_wt (sh_snn P but kd e l z j).1 t n ∧ (sh_snn (sh_wt P t n) but kd e l z j).2 = (sh_snn P but kd e l z j).2
  | 0 => ⟨rfl, rfl⟩
  | j + 1 => by
    obtain ⟨h1, h2⟩ := sn_wt (P := P) (t := t) (n := n) (but := but) (e := e) (l := l) (z := z) hkd j
    have hlt : (z + j) % 10 < 10 := Nat.mod_lt _ (by omega)
    show (sh_s1 (sh_wt P t n) but kd e z (sh_snn (sh_wt P t n) but kd e l z j) j).1 = sh_wt (sh_s1 P but kd e z (sh_snn P but kd e l z j) j).1 t n ∧ (sh_s1 (sh_wt P t n) but kd e z (sh_snn (sh_wt P t n) but kd e l z j) j).2 = (sh_s1 P but kd e z (sh_snn P but kd e l z j) j).2
    generalize sh_snn (sh_wt P t n) but kd e l z j = x at h1 h2 ⊢
    generalize sh_snn P but kd e l z j = y at h1 h2 ⊢
    unfold sh_s1
    rw [tk_wt hlt]
    by_cases c : sh_tk P but ((z + j) % 10) = true
    · rw [if_pos c, if_pos c]
      dsimp only
      rw [h2]
      refine ⟨?_, rfl⟩
      rw [h1]
      have hrow := act_congr (k := kd) (q := nI (if 0 < y.2 then e + 1 else e)) hkd (row_wt (P := y.1) (t := t) (n' := n) hlt)
      by_cases c2 : 0 < y.2
      · simp only [if_pos c2] at hrow ⊢
        rw [wt_wr hlt, wt_upd_low (by omega), wr_congr hrow]
      · simp only [if_neg c2] at hrow ⊢
        rw [wt_wr hlt, wr_congr hrow]
    · rw [if_neg c, if_neg c]
      exact ⟨h1, h2⟩
theorem share_wt {P : Nat → Int32} {t a : Nat} {n : Nat → Int32} {but : Int32} {kd : Nat} (B : sh_B P) (hkd : kd ≤ 3) : sh_share (sh_wt P t n) a but kd = sh_wt (sh_share P a but kd) t n := by
  have hl := B.ml
  unfold sh_share
  rw [nZ_wt, ct2_congr (P := P) nM_wt (fun m hm hne => by show sh_wt _ _ _ _ = 2 ↔ _; rw [wt_out (by omega)])]
  exact (sn_wt hkd 10).1
theorem tz_day {P : Nat → Int32} (B : sh_B P) (h : i_tz P) : i_tz (f_day P) := by
  have hT : nT (f_day P) = nT P := by unfold nT; rw [day_low B (by omega) (by omega)]
  have hl := B.ml
  intro t ht ht2 w hw
  rw [hT] at ht
  show f_day P (142 + 23 * t + w) = 0
  unfold f_day
  rw [lap_out _ (fun u hu => by omega)]
  split
  · rw [due_low (.inr (by omega)) _ hl, upd_ne (by omega)]
    exact h t ht ht2 w hw
  · rw [upd_ne (by omega)]
    exact h t ht ht2 w hw
section CVOTE
variable {g : sh_G} {S S0 : sh_S} {P : Nat → Int32} {sz k b : Nat} {Q : Int32 → sh_S → Prop} {U : sh_S → Prop}
/-- whether a vote stands -/
theorem sh_RS.stands (R : sh_RS k P S0 S) {t : Nat} (ht : t < 20) : (S (5, k, t) 0 = 0 ↔ pt P t 18 = 0) := by
  rcases (R.tol ht).2.2.2.2.2 with ⟨h1, h2⟩ | ⟨h1, h2, _⟩
  · exact ⟨fun _ => h2, fun _ => h1⟩
  · rw [h1]; exact ⟨fun z => absurd z (by decide), fun z => absurd z h2⟩
theorem cost_pos (I : sh_IP P b) {t : Nat} (ht : t < nT P) : (0 < pt P t 18 ↔ ¬ pt P t 18 = 0) := by
  obtain ⟨c, hc, ec, _⟩ := (I.tl t ht).2.2.2.2
  have ec : pt P t 18 = nI c := ec
  rw [ec, show nI c = 0 ↔ c = 0 from nI_eq (b := 0) (by omega) (by omega)]
  exact ⟨fun z => by have := (nI_ltI (a := 0) (by omega) (by omega)).mp z; omega, fun z => nI_lt (a := 0) (by omega) (by omega)⟩
theorem bi_0 : sh_bi 0 10 = 0 := by decide +kernel
theorem k_openProposal (hk : k < 7) (R : sh_RS k P S0 S) (I : sh_IP P b) {t c0 b0 : Int32} (h : sh_kg Q k S0 S (o_propose P t c0 b0)) : sh_Ci g mX6_openProposal [sh_R (6, k, 0), sh_I t, sh_I c0, sh_I b0] S sz Q := by
  unfold o_propose at h
  have htl := I.tl20
  have hl := I.ml
  have hcl : sh_ct2 P (-1) ≤ 10 := Nat.le_trans (cnt_le _ _) hl
  refine wp_X6_openProposal (ok6 hk) (k_hasTool hk R I.B (wb (fun c => ?_) (fun c => wc (fun c2 => ?_) (fun c2 => wc (fun c3 => ?_) (fun c3 => wc (fun c4 => ?_) (fun c4 => ?_))))))
  · rw [if_neg (ff_h c)] at h
    exact h.1 (show (-1000001 : Int32) < 0 by decide)
  · rw [if_neg (ff_m (inb_f1 c2))] at h
    exact h.1 (show (-1000001 : Int32) < 0 by decide)
  · rw [if_neg (ff_m (inb_f2 (Int32.not_le.mpr c3)))] at h
    exact h.1 (show (-1000001 : Int32) < 0 by decide)
  · rw [if_neg (ff_m2 (inb_f1 c4))] at h
    exact h.1 (show (-1000001 : Int32) < 0 by decide)
  · obtain ⟨i, hi, rfl⟩ := I.B.tB_t c
    rw [nI_clamp (by omega)] at h ⊢
    refine ⟨vp_in_nI (by omega) (by omega), ?_⟩
    rw [R.wear (by omega)]
    refine ⟨fun c5 => ⟨vp_in_nI (by omega) (by omega), ?_⟩, fun c5 => ?_⟩
    · rw [if_pos ⟨c, inb_t1 c2 (Int32.not_lt.mp c3), inb_t1 c4 c5⟩] at h
      have hno : (pt P i 3 = 4 ∨ 0 < pt P i 18 ∨ sh_ct2 P (-1) = 0) → Q (-1000002) S := fun z => by
        rw [if_pos z] at h
        exact h.1 (show (-1000002 : Int32) < 0 by decide)
      rw [R.place (by omega), R.stands (by omega)]
      refine ⟨fun z => hno (.inl z), fun z1 => ⟨fun z => hno (.inr (.inl ((cost_pos I hi).mpr z))), fun z2 => k_countNotGone hk R I.B ⟨fun z3 => ?_, fun z => hno (.inr (.inr ((nI_eq (b := 0) (by omega) (by omega)).mp z)))⟩⟩⟩
      rw [if_neg (fun y => y.elim z1 fun y => y.elim (fun y => (cost_pos I hi).mp y z2) fun y => z3 (by rw [y]; rfl))] at h
      rw [R.day, R.set (by omega)]
      refine wp_X5_begin (ok5 hk (by omega)) ?_
      rintro _ rfl _ rfl _ rfl _ rfl _ rfl _ rfl _ rfl
      simp only [sr_sr, sh_sr_s]
      have e3 : upd (upd (upd (upd (upd (upd (upd (S (5, k, i)) 0 1) 1 c0) 2 b0) 3 (P 7 + P 6)) 4 0) 5 0) 6 0 3 = P 7 + P 6 := by simp [upd]
      rw [e3]
      have hc0 : ¬ c0 = 0 := fun z => c2 (by rw [z]; decide)
      have R1 : sh_RS k (sh_wt P i (upd (upd (upd (upd (upd (sh_tr P i) 18 c0) 19 b0) 20 (P 7 + P 6)) 21 0) 22 0)) S0 (sh_sr S (5, k, i) (upd (upd (upd (upd (upd (upd (upd (S (5, k, i)) 0 1) 1 c0) 2 b0) 3 (P 7 + P 6)) 4 0) 5 0) 6 0)) := by
        refine rs_tool R (by omega) (fun o h1 h2 h3 h4 h5 => sr_o h4) ?_
        rw [sr_o (ne_k (by omega)), sr_o (ne_k (by omega)), sr_o (ne_k (by omega)), sh_sr_s]
        obtain ⟨⟨e0, e1, e2, e3, e4, e5, e6, e7, e8, e9⟩, hh, hs', hq'⟩ := R.tol (t := i) (by omega)
        refine ⟨⟨by simp [upd, e0], by simp [upd, e1], by simp [upd, e2], by simp [upd, e3], by simp [upd, e4], by simp [upd, e5], by simp [upd, e6], by simp [upd, e7], by simp [upd, e8], by simp [upd, e9]⟩, by simpa [upd] using hh, fun j hj => ?_, by simp [upd], by simp [upd], .inr ⟨by simp [upd], by simp [upd, hc0], by simp [upd], by simp [upd, bi_0], by simp [upd, bi_0], by simp [upd]⟩⟩
        rw [upd_ne (by omega), upd_ne (by omega), upd_ne (by omega), upd_ne (by omega), upd_ne (by omega), upd_ne (by omega), upd_ne (by omega), upd_ne (by omega), upd_ne (by omega), upd_ne (by omega)]
        exact hs' j hj
      obtain ⟨n, hn, en⟩ := I.s 6 (by omega)
      have hn : n ≤ 60 := hn
      have := I.B.dl
      exact kg_pos h (by rw [en, I.B.d, nI_add]; exact nI_pos (by omega)) _ R1
    · rw [if_neg (ff_m2 (inb_f2 c5))] at h
      exact h.1 (show (-1000001 : Int32) < 0 by decide)
theorem k_tellOfProposal (hk : k < 7) (R : sh_RS k P S0 S) (I : sh_IP P b) {t w : Int32} (h : Q (q_proposalOf P t w) S) : sh_Ci g mX6_tellOfProposal [sh_R (6, k, 0), sh_I t, sh_I w] S sz Q := by
  unfold q_proposalOf at h
  have htl := I.tl20
  refine wp_X6_tellOfProposal (ok6 hk) (k_hasTool hk R I.B (wb (fun c => ?_) (fun c => wc (fun c2 => ?_) (fun c2 => wc (fun c3 => ?_) (fun c3 => ?_)))))
  · rwa [if_neg (ff_h c)] at h
  · rwa [if_neg (ff_t (inb_f1 c2))] at h
  · rw [if_pos ⟨c, inb_t1 c2 c3⟩] at h
    obtain ⟨i, hi, rfl⟩ := I.B.tB_t c
    obtain ⟨x, hx, rfl⟩ := nI_of2 (n := 4) (M := 4) rfl c2 c3
    rw [nI_clamp (by omega), nI_clamp (by omega)] at h
    refine ⟨vp_in_nI (by omega) (by omega), ?_⟩
    rw [nI_clamp (by omega), R.stands (by omega)]
    refine ⟨fun z => ?_, fun z => ?_⟩
    · rwa [if_pos z] at h
    · rw [if_neg z] at h
      have hr := (R.tol (t := i) (by omega)).2.2.2
      rcases hr with ⟨h2, h3, ⟨h0, hz⟩ | ⟨h0, hz, h1, h4, h5, h6⟩⟩
      · exact absurd hz z
      · refine wp_X5_tell (ok5 hk (by omega)) ?_
        rw [h1, h2, h3, h4, h5]
        have hx : x = 0 ∨ x = 1 ∨ x = 2 ∨ x = 3 ∨ x = 4 := by omega
        rcases hx with rfl | rfl | rfl | rfl | rfl
        · rw [if_pos (by decide)] at h
          exact wt rfl h
        · rw [if_pos (by decide)] at h
          exact wf (by decide) (wt rfl h)
        · rw [if_pos (by decide)] at h
          exact wf (by decide) (wf (by decide) (wt rfl h))
        · rw [if_neg (by decide)] at h
          exact wf (by decide) (wf (by decide) (wf (by decide) (wt rfl h)))
        · rw [if_neg (by decide)] at h
          exact wf (by decide) (wf (by decide) (wf (by decide) (wf (by decide) (wt rfl h))))
  · rwa [if_neg (ff_t (inb_f2 c3))] at h
theorem k_lendToShed (hk : k < 7) (R : sh_RS k P S0 S) (I : sh_IP P b) {t s d f : Int32} (h : sh_kg Q k S0 S (o_lend P t s d f)) : sh_Ci g mX6_lendToShed [sh_R (6, k, 0), sh_I t, sh_I s, sh_I d, sh_I f] S sz Q := by
  unfold o_lend at h
  have htl := I.tl20
  refine wp_X6_lendToShed (ok6 hk) (k_hasTool hk R I.B (wb (fun c => ?_) (fun c => wc (fun c2 => ?_) (fun c2 => wc (fun c3 => ?_) (fun c3 => wc (fun c4 => ?_) (fun c4 => wc (fun c5 => ?_) (fun c5 => wc (fun c6 => ?_) (fun c6 => wc (fun c7 => ?_) (fun c7 => ?_)))))))))
  · rw [if_neg (ff_h c)] at h
    exact h.1 (show (-1000001 : Int32) < 0 by decide)
  · rw [if_neg (ff_m (inb_f1 c2))] at h
    exact h.1 (show (-1000001 : Int32) < 0 by decide)
  · rw [if_neg (ff_m (inb_f2 fun z => absurd (Int32.le_trans c3 z) (by decide)))] at h
    exact h.1 (show (-1000001 : Int32) < 0 by decide)
  · rw [if_neg (fun z => by rw [inb_f1 c4] at z; exact Bool.noConfusion z.2.2.1)] at h
    exact h.1 (show (-1000001 : Int32) < 0 by decide)
  · rw [if_neg (fun z => by rw [inb_f2 (Int32.not_le.mpr c5)] at z; exact Bool.noConfusion z.2.2.1)] at h
    exact h.1 (show (-1000001 : Int32) < 0 by decide)
  · rw [if_neg (fun z => by rw [inb_f1 c6] at z; exact Bool.noConfusion z.2.2.2)] at h
    exact h.1 (show (-1000001 : Int32) < 0 by decide)
  · rw [if_pos ⟨c, inb_t1 c2 (by
      obtain ⟨x, hx, rfl⟩ := nI_ex (n := 4) (by omega) (Int32.not_lt.mp c2) (Int32.not_le.mp c3)
      exact nI_le (b := 3) (by omega) (by omega)), inb_t1 c4 (Int32.not_lt.mp c5), inb_t1 c6 c7⟩] at h
    obtain ⟨i, hi, rfl⟩ := I.B.tB_t c
    rw [nI_clamp (by omega)] at h ⊢
    refine ⟨vp_in_nI (by omega) (by omega), ?_⟩
    rw [R.place (by omega)]
    refine ⟨fun z => ⟨vp_in_nI (by omega) (by omega), ?_⟩, fun z => ?_⟩
    · rw [if_pos z] at h
      obtain ⟨x, hx, rfl⟩ := nI_of2 (n := 60) (M := 60) rfl (Int32.not_lt.mpr (Int32.le_trans (by decide) (Int32.not_lt.mp c4))) (Int32.not_lt.mp c5)
      refine k_goOut hk R (by omega) R.day fun S' R' => ⟨vp_in_nI (by omega) (by omega), ?_⟩
      rintro _ rfl
      refine ⟨vp_in_nI (by omega) (by omega), ?_⟩
      have hdue : S' (7, k, i) 7 = P 7 + nI x := by
        rw [R'.due (by omega)]
        show sh_wt _ _ _ _ = _
        rw [wt_at _ _ _ _ (by omega), upd_ne (by omega), upd_ne (by omega), upd_ne (by omega), upd_eq]
      rw [sh_sr_s, upd_ne (by omega), hdue]
      have := I.B.dl
      refine kg_pos h (by rw [I.B.d, nI_add]; exact nI_pos (by omega)) _ ?_
      rw [← wt_wt P i (upd (upd (upd (upd (upd (upd (sh_tr P i) 3 3) 4 s) 5 (P 7 + nI x)) 8 (-1)) 9 (P 7)) 7 (pt P i 7 + 1))]
      refine rs_tool R' (by omega) (fun o h1 h2 h3 h4 h5 => sr_o h1) ?_
      rw [sh_sr_s, sr_o (ne_k (by omega)), sr_o (ne_k (by omega)), sr_o (ne_k (by omega))]
      obtain ⟨⟨e0, e1, e2, e3, e4, e5, e6, e7, e8, e9⟩, hh, hs', hq'⟩ := R'.tol (t := i) (by omega)
      exact r_tool_mk (R'.tol (by omega)) ⟨by simp [upd, e0], by simp [upd, e1], by simp [upd, e2], by simp [upd, e3], by simp [upd, e4], by simp [upd, e5], by simp [upd, e6], by simp [upd, e7], by simp [upd], by simp [upd, e9]⟩ (by simpa [upd] using hh) fun w h1 h2 => by rw [upd_ne (by omega), upd_ne (by omega)]
    · rw [if_neg z] at h
      exact h.1 (show (-1000002 : Int32) < 0 by decide)
  · rw [if_neg (fun z => by rw [inb_f2 c7] at z; exact Bool.noConfusion z.2.2.2)] at h
    exact h.1 (show (-1000001 : Int32) < 0 by decide)
theorem share_out {a : Nat} {but : Int32} {kd j : Nat} (h10 : j ≠ 10) (hj : j < 22 ∨ 142 ≤ j ∨ ∃ m, m < 10 ∧ j = 22 + 12 * m) : sh_share P a but kd j = P j := sn_out h10 hj 10
theorem B_share (B : sh_B P) {a : Nat} {but : Int32} {kd : Nat} : sh_B (sh_share P a but kd) := B_sn B 10
theorem k_takeFromShed (hk : k < 7) (R : sh_RS k P S0 S) (I : sh_IP P b) {t : Int32} (h : sh_kg Q k S0 S (o_come P t)) : sh_Ci g mX6_takeFromShed [sh_R (6, k, 0), sh_I t] S sz Q := by
  unfold o_come at h
  have htl := I.tl20
  have hl := I.ml
  have hcl : sh_ct2 P (-1) ≤ 10 := Nat.le_trans (cnt_le _ _) hl
  refine wp_X6_takeFromShed (ok6 hk) (k_hasTool hk R I.B (wb' (fun c => ?_) (fun c => ?_)))
  · rw [if_neg (by rw [c]; decide)] at h
    exact h.1 (show (-1000001 : Int32) < 0 by decide)
  · obtain ⟨i, hi, rfl⟩ := I.B.tB_t c
    rw [if_pos c, nI_clamp (by omega)] at h
    refine ⟨vp_in_nI (by omega) (by omega), ?_⟩
    rw [nI_clamp (by omega), R.place (by omega)]
    refine ⟨fun z => ?_, fun z1 => k_countNotGone hk R I.B ⟨fun z2 => ?_, fun z2 => ?_⟩⟩
    · rw [if_neg (fun y => z y.1)] at h
      exact h.1 (show (-1000002 : Int32) < 0 by decide)
    · have z2' : sh_ct2 P (-1) ≠ 0 := fun y => z2 (by rw [y]; rfl)
      rw [if_pos ⟨z1, z2'⟩] at h
      obtain ⟨n, hn, en⟩ := told_nat I hi z1
      obtain ⟨s, a, hs9, es, ha, ea, e5⟩ := (I.tl i hi).2.2.1.1 z1
      have es : P (142 + 23 * i + 9) = nI s := es
      have ea : P (142 + 23 * i + 10) = nI a := ea
      have e5 : P (142 + 23 * i + 5) = nI (s + a) := e5
      obtain ⟨q, hq, hq1, eq⟩ := do_nat I.B.dl hs9
      have eq : sh_do (P 7) (P (142 + 23 * i + 9)) = nI q := by rw [es, I.B.d]; exact eq
      refine k_daysOut hk R I hi R.day ?_
      rw [eq, R.due (by omega), R.since (by omega), R.fee (by omega), es, e5, show nI (s + a) - nI s = nI a from by rw [pk_sub (by omega)]; congr 1; omega]
      have emax : (if (0 : Int32) < (nI q - nI a) then (nI q - nI a) else 0) = (if nI a < nI q then nI q - nI a else 0) := by
        by_cases hqa : a < q
        · rw [if_pos (nI_lt hqa (by omega)), pk_sub (by omega), if_pos (show (0 : Int32) < nI (q - a) from nI_lt (a := 0) (by omega) (by omega))]
        · rw [if_neg (nI_nlt (by omega) (by omega)), if_neg]
          rw [Int32.lt_iff_toInt_lt, pk_sub_toInt (by omega) (by omega), show (0 : Int32).toInt = 0 from rfl]
          omega
      rw [emax]
      rintro _ rfl _ rfl
      have et : P (142 + 23 * i + 11) * (nI q + (if nI a < nI q then nI q - nI a else 0)) = nI n := by
        rw [← en]
        unfold sh_told
        rw [show pt P i 9 = P (142 + 23 * i + 9) from rfl, eq, show pt P i 10 = nI a from ea]
      rw [et]
      rw [en, nI_clamp (by omega), share_wt I.B (by omega)] at h
      refine k_share hk R I.B n 3 rfl (by omega) rfl (by omega) (by omega) fun S1 R1 => ?_
      have h7 : sh_share P n (-1) 3 7 = P 7 := share_out (by omega) (.inl (by omega))
      have hT : nT (sh_share P n (-1) 3) = nT P := by unfold nT; rw [share_out (by omega) (.inl (by omega))]
      exact k_comeIn hk R1 I (B_share I.B) hT h7 (fun j hj => share_out (by omega) (.inr (.inl hj))) hi (by rw [R1.day, h7]) fun S2 R2 => kg_pos h (nI_pos (by omega)) S2 R2
    · rw [if_neg (fun y => y.2 ((nI_eq (b := 0) (by omega) (by omega)).mp z2))] at h
      exact h.1 (show (-1000002 : Int32) < 0 by decide)
theorem r_tool_off {n r sd wd pr : Nat → Int32} (R : r_tool n r sd wd pr) : r_tool (upd n 18 0) r sd wd (upd pr 0 0) := by
  obtain ⟨h1, h2, h3, h4, h5, h6⟩ := R
  refine ⟨h1, h2, fun i hi => ?_, by simpa [upd] using h4, by simpa [upd] using h5, .inl ⟨by simp [upd], by simp [upd]⟩⟩
  rw [upd_ne (by omega), upd_ne (by omega)]
  exact h3 i hi
theorem rs_day (R : sh_RS k P S0 S) (v : Int32) : sh_RS k (upd P 7 v) S0 (sh_sr S (6, k, 0) (upd (S (6, k, 0)) 4 v)) := by
  refine rs_low R (fun j hj => upd_ne (by omega)) (fun o h1 h2 h3 h4 => sr_o h2) ⟨fun j hj => ?_, ?_, ?_, ?_, ?_, ?_, fun j hj => ?_⟩
  · rw [sr_o (ne_k (by omega)), upd_ne (by omega)]; exact R.set hj
  · rw [sh_sr_s, upd_eq, upd_eq]
  · rw [sr_o (ne_k (by omega)), upd_ne (by omega)]; exact R.mem
  · rw [sh_sr_s, upd_ne (by omega), upd_ne (by omega)]; exact R.add
  · rw [sr_o (ne_k (by omega)), upd_ne (by omega)]; exact R.ptr
  · rw [sr_o (ne_k (by omega)), upd_ne (by omega)]; exact R.inT
  · rw [sr_o (ne_k (by omega)), upd_ne (by omega)]; exact R.trn hj
theorem k_beginDay (hk : k < 7) (R : sh_RS k P S0 S) (B : sh_B P) (tz : i_tz P) (hd : nD P < 3000) (h : ∀ S', sh_RS k (f_day P) S0 S' → U S') : sh_Cu g mX6_beginDay [sh_R (6, k, 0)] S sz U := by
  have hl := B.ml
  have htl := B.tl
  have hday : f_day P = sh_lap (if (nD P + 1) % 30 = 0 then sh_due (upd P 7 (nI (nD P + 1))) (nM P) else upd P 7 (nI (nD P + 1))) (nT P) := rfl
  rw [hday] at h
  refine wp_X6_beginDay (ok6 hk) ?_
  rintro _ rfl
  rw [R.day, B.d, nI_1]
  have R1 := rs_day R (nI (nD P + 1))
  have hP1 : ∀ j, j < 22 → j ≠ 7 → upd P 7 (nI (nD P + 1)) j = P j := fun j _ h7 => upd_ne h7
  have hB1 : sh_B (upd P 7 (nI (nD P + 1))) := B_7 B (d := nD P + 1) (by omega) hP1 upd_eq
  have hM1 : nM (upd P 7 (nI (nD P + 1))) = nM P := by unfold nM; rw [upd_ne (by omega)]
  have hT1 : nT (upd P 7 (nI (nD P + 1))) = nT P := by unfold nT; rw [upd_ne (by omega)]
  have hz1 : ∀ t, nT P ≤ t → t < 20 → upd P 7 (nI (nD P + 1)) (142 + 23 * t + 18) = 0 := fun t h1 h2 => by
    rw [upd_ne (by omega)]; exact tz t h1 h2 18 (by omega)
  have hd1 : upd P 7 (nI (nD P + 1)) 7 = nI (nD P + 1) := upd_eq
  have h01 : upd P 7 (nI (nD P + 1)) 0 = P 0 := upd_ne (by omega)
  generalize hS1 : sh_sr S (6, k, 0) (upd (S (6, k, 0)) 4 (nI (nD P + 1))) = S1 at R1 ⊢
  have e4 : S1 (6, k, 0) 4 = nI (nD P + 1) := by rw [R1.day]; exact hd1
  rw [e4]
  generalize upd P 7 (nI (nD P + 1)) = P1 at *
  rw [show nI (nD P + 1) - nI (nD P + 1) / 30 * 30 = nI ((nD P + 1) % 30) from pk_rem (d := 30) (by omega) (by omega) (by omega)]
  have main : ∀ X S2, sh_RS k X S0 S2 → X 7 = nI (nD P + 1) → (∀ t, nT P ≤ t → t < 20 → X (142 + 23 * t + 18) = 0) → (∀ S', sh_RS k (sh_lap X (nT P)) S0 S' → U S') → (∃ (Iv3 : Int32 → sh_S → Prop) (mu3 : Int32 → sh_S → Nat), Iv3 0 S2 ∧ ∀ (v4 : Int32) (S5 : sh_S), Iv3 v4 S5 → ((20 ≤ v4 → U S5) ∧ (¬ 20 ≤ v4 → (vp_in v4 20 ∧ (((S5 (6, k, 0) 4) ≤ (S5 (5, k, (v4.toNatClampNeg)) 3) → (∀ x9 : Int32, x9 = v4 + 1 → (Iv3 x9 S5 ∧ mu3 x9 S5 < mu3 v4 S5))) ∧ (¬ (S5 (6, k, 0) 4) ≤ (S5 (5, k, (v4.toNatClampNeg)) 3) → (vp_in v4 20 ∧ (∀ S11 : sh_S, S11 = sh_sr S5 (5, k, (v4.toNatClampNeg)) (upd (S5 (5, k, (v4.toNatClampNeg))) 0 0) → (∀ x12 : Int32, x12 = v4 + 1 → (Iv3 x12 S11 ∧ mu3 x12 S11 < mu3 v4 S5)))))))))) := by
    intro X S2 R2 hX7 hXz hU
    refine ⟨fun i S' => ∃ j, j ≤ 20 ∧ i = nI j ∧ sh_RS k (sh_lap X (min j (nT P))) S0 S', fun i _ => 20 - i.toNatClampNeg, ⟨0, by omega, rfl, by rw [Nat.zero_min]; exact R2⟩, ?_⟩
    rintro _ S3 ⟨j, hj, rfl, R3⟩
    refine wc (fun c => ?_) (fun c => ?_)
    · obtain rfl := lp_end hj (by omega) c
      rw [Nat.min_eq_right htl] at R3
      exact hU _ R3
    · have hlt := lp_go (by omega) hj c
      have hmu := mu_lt (N := 20) hlt (by omega)
      rw [nI_clamp (by omega)]
      have e7 : S3 (6, k, 0) 4 = X 7 := by rw [R3.day]; exact lap_out _ (fun u _ => by omega)
      have e20 : S3 (5, k, j) 3 = X (142 + 23 * j + 20) := by
        rw [(R3.tol hlt).2.2.2.2.1]
        exact lap_out _ (fun u _ => by omega)
      rw [e7, e20]
      refine ⟨vp_in_nI (by omega) (by omega), fun z => ?_, fun z => ⟨vp_in_nI (by omega) (by omega), ?_⟩⟩
      · rintro _ rfl; rw [nI_1 j]
        refine ⟨⟨j + 1, hlt, rfl, ?_⟩, hmu⟩
        by_cases hjT : j < nT P
        · rw [Nat.min_eq_left (by omega)] at R3
          rw [Nat.min_eq_left (by omega)]
          have hst : sh_lap X (j + 1) = if pt X j 20 < X 7 then upd (sh_lap X j) (142 + 23 * j + 18) 0 else sh_lap X j := rfl
          rw [if_neg (Int32.not_lt.mpr z)] at hst
          rw [hst]; exact R3
        · rw [Nat.min_eq_right (by omega)] at R3 ⊢
          exact R3
      · rintro _ rfl _ rfl; rw [nI_1 j]
        refine ⟨⟨j + 1, hlt, rfl, ?_⟩, hmu⟩
        have hoff : ∀ Y, sh_RS k Y S0 S3 → sh_RS k (sh_wt Y j (upd (sh_tr Y j) 18 0)) S0 (sh_sr S3 (5, k, j) (upd (S3 (5, k, j)) 0 0)) := fun Y RY => by
          refine rs_tool RY hlt (fun o h1 h2 h3 h4 h5 => sr_o h4) ?_
          rw [sr_o (ne_k (by omega)), sr_o (ne_k (by omega)), sr_o (ne_k (by omega)), sh_sr_s]
          exact r_tool_off (RY.tol hlt)
        by_cases hjT : j < nT P
        · rw [Nat.min_eq_left (by omega)] at R3
          rw [Nat.min_eq_left (by omega)]
          have hst : sh_lap X (j + 1) = if pt X j 20 < X 7 then upd (sh_lap X j) (142 + 23 * j + 18) 0 else sh_lap X j := rfl
          rw [if_pos (Int32.not_le.mp z)] at hst
          rw [hst, upd_wt _ _ _ _ (by omega)]
          exact hoff _ R3
        · rw [Nat.min_eq_right (by omega)] at R3 ⊢
          have k := hoff _ R3
          have e18 : sh_lap X (nT P) (142 + 23 * j + 18) = 0 := by
            rw [lap_out _ (fun u hu => by omega)]
            exact hXz j (by omega) hlt
          rw [← upd_wt _ _ _ _ (by omega), ← e18, upd_self] at k
          rw [e18] at k
          exact k
  refine ⟨fun z => ?_, fun z => ?_⟩
  · have hne : ¬ (nD P + 1) % 30 = 0 := fun y => z (by rw [y]; rfl)
    rw [if_neg hne] at h
    exact main P1 S1 R1 hd1 hz1 h
  · have h30 : (nD P + 1) % 30 = 0 := (nI_eq (b := 0) (by omega) (by omega)).mp z
    rw [if_pos h30] at h
    refine k_chargeEach hk R1 hB1 (R1.set (by omega)) fun S2 R2 => ?_
    rw [hM1] at R2
    refine main _ S2 R2 (by rw [due_low (.inl (by omega)) _ hl]; exact hd1) (fun t h1 h2 => ?_) h
    rw [due_low (.inr (by omega)) _ hl]
    exact hz1 t h1 h2
theorem days_tz (B : sh_B P) (tz : i_tz P) : ∀ j, nD P + j ≤ 3000 → i_tz (f_days P j)
  | 0, _ => tz
  | j + 1, h => tz_day (days_B B j (by omega)).1 (days_tz B tz j (by omega))
theorem k_letDaysPass (hk : k < 7) (R : sh_RS k P S0 S) (I : sh_IP P b) {d : Int32} (h : sh_kg Q k S0 S (o_pass P d)) : sh_Ci g mX6_letDaysPass [sh_R (6, k, 0), sh_I d] S sz Q := by
  unfold o_pass at h
  have B := I.B
  have hdl := B.dl
  refine wp_X6_letDaysPass (ok6 hk) (wc (fun c => ?_) (fun c => wc (fun c2 => ?_) (fun c2 => ?_)))
  · rw [if_neg (by rw [inb_f1 c]; decide)] at h
    exact h.1 (show (-1000001 : Int32) < 0 by decide)
  · rw [if_pos (inb_t1 c c2)] at h
    obtain ⟨x, hx, rfl⟩ := nI_of2 (n := 60) (M := 60) rfl (Int32.not_lt.mpr (Int32.le_trans (by decide) (Int32.not_lt.mp c))) c2
    rw [R.day]
    rw [B.d, nI_add, nI_clamp (by omega)] at h
    rw [B.d, nI_add]
    refine ⟨fun c3 => ?_, fun c3 => ?_⟩
    · rw [if_pos c3] at h
      have hle : nD P + x ≤ 3000 := (nI_leI (b := 3000) (by omega) (by omega)).mp c3
      refine ⟨fun i S' => ∃ j, j ≤ x ∧ i = nI j ∧ sh_RS k (f_days P j) S0 S', fun i _ => x - i.toNatClampNeg, ⟨0, by omega, rfl, R⟩, ?_⟩
      rintro _ S2 ⟨j, hj, rfl, R2⟩
      obtain ⟨hBk, hDk⟩ := days_B B j (by omega)
      refine wc (fun c => ?_) (fun c => ?_)
      · obtain rfl := lp_end hj (by omega) c
        rw [R2.day, hBk.d, hDk]
        exact kg_pos h (nI_pos (by omega)) _ R2
      · have hlt := lp_go (by omega) hj c
        refine k_beginDay hk R2 hBk (days_tz B I.tz j (by omega)) (by omega) fun S3 R3 => ?_
        rintro _ rfl
        rw [nI_1 j]
        exact ⟨⟨j + 1, hlt, rfl, R3⟩, mu_lt hlt (by omega)⟩
    · rw [if_neg c3] at h
      exact h.1 (show (-1000003 : Int32) < 0 by decide)
  · rw [if_neg (by rw [inb_f2 c2]; decide)] at h
    exact h.1 (show (-1000001 : Int32) < 0 by decide)
theorem k_countAtPlace (hk : k < 7) (R : sh_RS k P S0 S) (B : sh_B P) {v : Int32} (h : Q (nI (sh_cnt (sh_ipl P v) (nT P))) S) : sh_Ci g mX6_countAtPlace [sh_R (6, k, 0), sh_I v] S sz Q := by
  have hl := B.tl
  refine wp_X6_countAtPlace (ok6 hk) ⟨fun v' i S' => ∃ j, j ≤ nT P ∧ i = nI j ∧ v' = nI (sh_cnt (sh_ipl P v) j) ∧ S = S', fun _ i _ => nT P - i.toNatClampNeg, ⟨0, by omega, rfl, rfl, rfl⟩, ?_⟩
  rintro _ _ _ ⟨j, hj, rfl, rfl, rfl⟩
  rw [R.add, B.t]
  refine wc (fun c => ?_) (fun c => ?_)
  · obtain rfl := lp_end hj (by omega) c
    exact h
  · have hlt := lp_go (by omega) hj c
    have hmu := mu_lt (N := nT P) hlt (by omega)
    refine k_hasTool hk R B ?_
    rw [B.tB_i hlt]
    refine wf (by decide) ⟨vp_in_nI (by omega) (by omega), ?_⟩
    rw [nI_clamp (by omega), R.place (by omega)]
    refine ⟨fun c2 => ?_, fun c2 => ?_⟩
    · rintro _ rfl; rw [nI_1 j]
      exact ⟨⟨j + 1, hlt, rfl, by rw [cnt_f (decide_eq_false c2)], rfl⟩, hmu⟩
    · rintro _ rfl _ rfl; rw [nI_1 j, nI_1]
      exact ⟨⟨j + 1, hlt, rfl, by rw [cnt_t (decide_eq_true c2)], rfl⟩, hmu⟩
theorem k_countProposals (hk : k < 7) (R : sh_RS k P S0 S) (I : sh_IP P b) (h : Q (nI (sh_cnt (sh_prp P) (nT P))) S) : sh_Ci g mX6_countProposals [sh_R (6, k, 0)] S sz Q := by
  have hl := I.tl20
  refine wp_X6_countProposals (ok6 hk) ⟨fun v' i S' => ∃ j, j ≤ nT P ∧ i = nI j ∧ v' = nI (sh_cnt (sh_prp P) j) ∧ S = S', fun _ i _ => nT P - i.toNatClampNeg, ⟨0, by omega, rfl, rfl, rfl⟩, ?_⟩
  rintro _ _ _ ⟨j, hj, rfl, rfl, rfl⟩
  rw [R.add, I.B.t]
  refine wc (fun c => ?_) (fun c => ?_)
  · obtain rfl := lp_end hj (by omega) c
    exact h
  · have hlt := lp_go (by omega) hj c
    have hmu := mu_lt (N := nT P) hlt (by omega)
    refine k_hasTool hk R I.B ?_
    rw [I.B.tB_i hlt]
    refine wf (by decide) ⟨vp_in_nI (by omega) (by omega), ?_⟩
    rw [nI_clamp (by omega), R.stands (by omega)]
    refine ⟨fun c2 => ?_, fun c2 => ?_⟩
    · rintro _ rfl; rw [nI_1 j]
      exact ⟨⟨j + 1, hlt, rfl, by rw [cnt_f (decide_eq_false fun z => (cost_pos I hlt).mp z c2)], rfl⟩, hmu⟩
    · rintro _ rfl _ rfl; rw [nI_1 j, nI_1]
      exact ⟨⟨j + 1, hlt, rfl, by rw [cnt_t (decide_eq_true ((cost_pos I hlt).mpr c2))], rfl⟩, hmu⟩
theorem k_tellCount (hk : k < 7) (R : sh_RS k P S0 S) (I : sh_IP P b) {w st ln : Int32} (h10 : ¬ w = 10) (h11 : ¬ w = 11) (h : Q (q_count P st ln w) S) : sh_Ci g mX6_tellCount [sh_R (6, k, 0), sh_I w] S sz Q := by
  unfold q_count at h
  have tail : (w < 0 ∨ 8 ≤ w) → ((¬ w = 8 → ((¬ w = 9 → ((w < 20 → Q (-1000001) S) ∧ (¬ w < 20 → ((27 ≤ w → Q (-1000001) S) ∧ (¬ 27 ≤ w → (vp_in (w - 20) 7 ∧ Q (S (15, k, 0) ((w - 20).toNatClampNeg)) S)))))) ∧ (w = 9 → Q (S (6, k, 0) 4) S))) ∧ (w = 8 → (sh_Ci g mX6_countProposals [sh_R (6, k, 0)] S sz (fun r9 S8 => Q r9 S8)))) := fun z => by
    refine ⟨fun n8 => ⟨fun n9 => ⟨fun c => ?_, fun c => ⟨fun c2 => ?_, fun c2 => ?_⟩⟩, fun e => ?_⟩, fun e => k_countProposals hk R I ?_⟩
    · have hf : ¬ (inb w 0 11 = true ∨ inb w 20 26 = true) := fun y => by
        rcases y with y | y
        · obtain ⟨x, hx, rfl⟩ := in_nat (n := 11) rfl y
          rcases z with z | z
          · exact nI_pos (by omega) z
          · have := (nI_leI (a := 8) (b := x) (by omega) (by omega)).mp z
            have a8 : x ≠ 8 := fun w => n8 (by rw [w]; rfl)
            have a9 : x ≠ 9 := fun w => n9 (by rw [w]; rfl)
            have a10 : x ≠ 10 := fun w => h10 (by rw [w]; rfl)
            have a11 : x ≠ 11 := fun w => h11 (by rw [w]; rfl)
            omega
        · exact Int32.not_le.mpr c (of_decide_eq_true y).1
      rwa [if_neg hf] at h
    · have hf : ¬ (inb w 0 11 = true ∨ inb w 20 26 = true) := fun y => by
        rcases y with y | y
        · exact absurd (Int32.le_trans c2 (of_decide_eq_true y).2) (by decide)
        · exact absurd (Int32.le_trans c2 (of_decide_eq_true y).2) (by decide)
      rwa [if_neg hf] at h
    · obtain ⟨x, hx, rfl⟩ := nI_ex (n := 27) (by omega) (Int32.le_trans (by decide) (Int32.not_lt.mp c)) (Int32.not_le.mp c2)
      have h20 := (nI_leI (a := 20) (b := x) (by omega) (by omega)).mp (Int32.not_lt.mp c)
      have hb : inb (nI x) 20 26 = true := decide_eq_true ⟨nI_le (a := 20) h20 (by omega), nI_le (b := 26) (by omega) (by omega)⟩
      rw [if_pos (.inr hb), if_neg (show ¬ nI x < 3 from nI_nlt (b := 3) (by omega) (by omega)), if_neg (show ¬ nI x < 8 from nI_nlt (b := 8) (by omega) (by omega)), if_neg n8, if_neg n9, if_neg h10, if_neg h11] at h
      rw [show nI x - 20 = nI (x - 20) from pk_sub (b := 20) h20] at h ⊢
      rw [nI_clamp (by omega)] at h ⊢
      refine ⟨vp_in_nI (by omega) (by omega), ?_⟩
      rw [R.set (by omega)]; exact h
    · rw [e, if_pos (.inl (by decide)), if_neg (by decide), if_neg (by decide), if_neg (by decide), if_pos rfl] at h
      rw [R.day]; exact h
    · rw [e, if_pos (.inl (by decide)), if_neg (by decide), if_neg (by decide), if_pos rfl] at h
      exact h
  refine wp_X6_tellCount (ok6 hk) ⟨fun c => ⟨fun _ => tail (.inl c), fun z => absurd (Int32.lt_trans c (by decide)) z⟩, fun c => ⟨fun c2 => ⟨fun z => ?_, fun z => ⟨fun z8 => tail (.inr z8), fun z8 => k_countAtPlace hk R I.B ?_⟩⟩, fun c2 => k_countWithStatus hk R I.B ?_⟩⟩
  · obtain ⟨x, hx, rfl⟩ := nI_ex (n := 3) (by omega) (Int32.not_lt.mp c) z
    have := (nI_ltI (a := 2) (by omega) (by omega)).mp c2
    omega
  · obtain ⟨x, hx, rfl⟩ := nI_ex (n := 8) (by omega) (Int32.not_lt.mp c) (Int32.not_le.mp z8)
    rw [if_pos (.inl (decide_eq_true ⟨nI_pos' (by omega), nI_le (b := 11) (by omega) (by omega)⟩)), if_neg z, if_pos (Int32.not_le.mp z8)] at h
    exact h
  · obtain ⟨x, hx, rfl⟩ := nI_of2 (n := 2) (M := 2) rfl c (Int32.not_lt.mp c2)
    rw [if_pos (.inl (decide_eq_true ⟨nI_pos' (by omega), nI_le (b := 11) (by omega) (by omega)⟩)), if_pos (show nI x < 3 from nI_lt (b := 3) (by omega) (by omega))] at h
    exact h
end CVOTE
