section INV5
variable {P P' : Nat → Int32} {b : Nat}
theorem IS_tool (I : sh_IS P) (hT : nT P < 20) {k v w : Nat} (hk : k ≤ 1) (hv : 1 ≤ v ∧ v ≤ 400) (hw : w ≤ 50) : sh_IS (upd (sh_wt P (nT P) (upd (upd (upd (upd (upd (sh_tr P (nT P)) 0 (nI k)) 1 (nI v)) 2 (nI w)) 6 FP.fconst1.toInt32) 8 (-1))) 9 (nI (nT P + 1))) := by
  have hl := I.B.ml
  have hY := I.B.yl
  have hz : ∀ w, w < 23 → sh_tr P (nT P) w = 0 := fun w hw => I.tz (nT P) (Nat.le_refl _) hT w hw
  have hrow : i_row (nM P) (nD P) (upd (upd (upd (upd (upd (sh_tr P (nT P)) 0 (nI k)) 1 (nI v)) 2 (nI w)) 6 FP.fconst1.toInt32) 8 (-1)) := by
    have z3 := hz 3 (by omega)
    have z5 := hz 5 (by omega)
    have z9 := hz 9 (by omega)
    have z11 := hz 11 (by omega)
    have z18 := hz 18 (by omega)
    refine ⟨⟨?_, ⟨v, hv.1, hv.2, by simp [upd]⟩, ⟨w, hw, by simp [upd]⟩, ⟨0, by omega, by simp [upd, z3]; rfl⟩, by simp [upd]; exact fV_mono (by omega) fV_1⟩, ⟨.inl (by simp [upd]), fun z => ?_, ⟨0, by omega, by simp [upd, z9]; rfl⟩, ⟨0, by omega, by simp [upd, z5]; rfl⟩⟩, ⟨fun z => ?_, ⟨0, by omega, by simp [upd, z11]; rfl⟩⟩, fun z => ?_, ⟨0, by omega, by simp [upd, z18]; rfl, fun z => by omega⟩⟩
    · have : k = 0 ∨ k = 1 := by omega
      rcases this with rfl | rfl
      · exact .inl (by simp [upd]; rfl)
      · exact .inr (by simp [upd]; rfl)
    · simp [upd, z3] at z
    · simp [upd, z3] at z
    · simp [upd, z3] at z
  have h8 : upd (upd (upd (upd (upd (sh_tr P (nT P)) 0 (nI k)) 1 (nI v)) 2 (nI w)) 6 FP.fconst1.toInt32) 8 (-1) 8 = -1 := upd_eq
  have h3 : upd (upd (upd (upd (upd (sh_tr P (nT P)) 0 (nI k)) 1 (nI v)) 2 (nI w)) 6 FP.fconst1.toInt32) 8 (-1) 3 = 0 := by simp [upd, hz 3 (by omega)]
  generalize upd (upd (upd (upd (upd (sh_tr P (nT P)) 0 (nI k)) 1 (nI v)) 2 (nI w)) 6 FP.fconst1.toInt32) 8 (-1) = n at hrow h8 h3 ⊢
  generalize hX : upd (sh_wt P (nT P) n) 9 (nI (nT P + 1)) = X
  have ho : ∀ j, j < 142 → j ≠ 9 → X j = P j := fun j h1 h2 => by rw [← hX, upd_ne h2, wt_low h1]
  have e9 : X 9 = nI (nT P + 1) := by rw [← hX, upd_eq]
  have eT : nT X = nT P + 1 := by unfold nT; rw [e9, nI_clamp (by omega)]; rfl
  have eM := nM_e (P := P) (P' := X) (ho 8 (by omega) (by omega))
  have eY := nY_e (P := P) (P' := X) (ho 11 (by omega) (by omega))
  have eD := nD_e (P := P) (P' := X) (ho 7 (by omega) (by omega))
  have eZ : nZ X = nZ P := by unfold nZ; rw [ho 10 (by omega) (by omega)]
  have hpm : ∀ m w, m < 10 → w < 12 → pm X m w = pm P m w := fun m w h1 h2 => ho _ (by omega) (by omega)
  have hpt : ∀ t w, w < 23 → pt X t w = if t = nT P then n w else pt P t w := fun t w hw => by
    rw [← hX]
    show upd _ _ _ _ = _
    rw [upd_ne (by omega)]
    by_cases e : t = nT P
    · rw [if_pos e, e]; exact wt_at _ _ _ _ hw
    · rw [if_neg e]; exact wt_out (by omega)
  clear hX
  refine ⟨⟨⟨⟨?_, ?_⟩, ⟨?_, ?_⟩, ⟨?_, ?_⟩, ⟨?_, ?_⟩, ⟨?_, ?_⟩, fun j hj => ?_⟩, fun j hj => ?_, fun m hm => ?_, fun m hm hm2 w hw => ?_, fun t h1 h2 w hw => ?_⟩, ⟨fun i j hi hj e => ?_, fun m hm hg => ?_, fun j hj => ?_⟩, fun t h1 => ?_, fun t u h1 h2 h3' h4 => ?_, fun t h1 h2 j hj => ?_⟩
  · rw [ho 8 (by omega) (by omega), eM]; exact I.B.m
  · rw [eM]; exact hl
  · rw [e9, eT]
  · rw [eT]; omega
  · rw [ho 11 (by omega) (by omega), eY]; exact I.B.y
  · rw [eY]; exact hY
  · rw [ho 10 (by omega) (by omega), eZ]; exact I.B.z
  · rw [eZ]; exact I.B.zl
  · rw [ho 7 (by omega) (by omega), eD]; exact I.B.d
  · rw [eD]; exact I.B.dl
  · rw [eY] at hj
    obtain ⟨m, h1, h2⟩ := I.B.tn j hj
    exact ⟨m, by rw [eM]; exact h1, by rw [ho _ (by omega) (by omega)]; exact h2⟩
  · rw [ho j (by omega) (by omega)]; exact I.s j hj
  · rw [eM] at hm
    rw [hpm m 0 (by omega) (by omega)]; exact I.st m hm
  · rw [eM] at hm
    rw [hpm m w hm2 hw]; exact I.mz m hm hm2 w hw
  · rw [eT] at h1
    rw [hpt t w hw, if_neg (by omega)]; exact I.tz t (by omega) h2 w hw
  · rw [eY] at hi hj
    rw [ho _ (by omega) (by omega), ho _ (by omega) (by omega)] at e
    exact I.tn.1 i j hi hj e
  · rw [eM] at hm
    rw [hpm m 0 (by omega) (by omega)] at hg
    obtain ⟨j, h1, h2⟩ := I.tn.2.1 m hm hg
    exact ⟨j, by rw [eY]; exact h1, by rw [ho _ (by omega) (by omega)]; exact h2⟩
  · rw [eY] at hj
    obtain ⟨m, h1, h2, h3⟩ := I.tn.2.2 j hj
    exact ⟨m, by rw [eM]; exact h1, by rw [ho _ (by omega) (by omega)]; exact h2, by rw [hpm m 0 (by omega) (by omega)]; exact h3⟩
  · rw [eT] at h1
    rw [eM, eD]
    by_cases e : t = nT P
    · exact row_eq (fun w hw => (hpt t w hw).trans (if_pos e)) hrow
    · exact row_eq (fun w hw => (hpt t w hw).trans (if_neg e)) (I.tl t (by omega))
  · rw [eT] at h1 h2
    rw [hpt t 8 (by omega), hpt u 8 (by omega)] at h4
    rw [hpt t 8 (by omega)]
    by_cases e : t = nT P
    · rw [if_pos e]; exact h8
    · rw [if_neg e] at h4 ⊢
      by_cases e2 : u = nT P
      · rw [if_pos e2] at h4
        rw [h4]; exact h8
      · rw [if_neg e2] at h4
        exact I.hk t u (by omega) (by omega) h3' h4
  · rw [eT] at h1
    rw [hpt t 3 (by omega)] at h2
    by_cases e : t = nT P
    · rw [if_pos e, h3] at h2; exact absurd h2 (by decide)
    · rw [if_neg e] at h2
      obtain ⟨m, a1, a2, a3, a4⟩ := I.ls t (by omega) h2 j hj
      exact ⟨m, by rw [eM]; exact a1, by rw [hpt t (12 + j) (by omega), if_neg e]; exact a2, by rw [hpm m 0 (by omega) (by omega)]; exact a3, by rw [hpt t 4 (by omega), if_neg e]; exact a4⟩
theorem IP_tool (I : sh_IP P b) {k v w : Int32} (h : ¬ (o_tool P k v w).1 < 0) : sh_IP (o_tool P k v w).2 b := by
  have htl := I.tl20
  unfold o_tool at h ⊢
  by_cases c : inb k 0 1 = true ∧ inb v 1 400 = true ∧ inb w 0 50 = true
  · rw [if_pos c] at h ⊢
    by_cases c2 : nT P = 20
    · rw [if_pos c2] at h; exact neg_no (by decide) h
    · rw [if_neg c2]
      obtain ⟨k', hk, rfl⟩ := inb_nat (n := 1) (by decide) rfl c.1
      have cv := of_decide_eq_true c.2.1
      obtain ⟨v', hv, rfl⟩ := inb_nat (n := 400) (by decide) rfl c.2.1
      obtain ⟨w', hw, rfl⟩ := inb_nat (n := 50) (by decide) rfl c.2.2
      have hv1 := (nI_leI (a := 1) (b := v') (by omega) (by omega)).mp cv.1
      have e : ∀ (n : Nat → Int32) (v : Int32) m w, m < 10 → w < 12 → pm (upd (sh_wt P (nT P) n) 9 v) m w = pm P m w := fun n v m w h1 h2 => by
        show upd (sh_wt P (nT P) n) 9 v (22 + 12 * m + w) = _
        rw [upd_ne (by omega), wt_out (by omega)]
      exact IP_of (IS_tool I.S (by omega) hk ⟨hv1, hv⟩ hw) (c2_congr (fun m hm => ⟨e _ _ m 3 hm (by omega), e _ _ m 8 hm (by omega), e _ _ m 9 hm (by omega), e _ _ m 10 hm (by omega)⟩) I.cr)
  · rw [if_neg c] at h; exact neg_no (by decide) h
theorem IP_hang (I : sh_IP P b) {t w q : Int32} (h : ¬ (o_hang P t w q).1 < 0) : sh_IP (o_hang P t w q).2 b := by
  have htl := I.tl20
  unfold o_hang at h ⊢
  by_cases c : tB P t = true ∧ inb w 0 2 = true ∧ inb q 0 3 = true
  · rw [if_pos c] at h ⊢
    obtain ⟨i, hi, rfl⟩ := I.B.tB_t c.1
    obtain ⟨x, hx, rfl⟩ := inb_nat (n := 2) (by decide) rfl c.2.1
    obtain ⟨y, hy, rfl⟩ := inb_nat (n := 3) (by decide) rfl c.2.2
    rw [nI_clamp (n := i) (by omega), show (10 : Int32) * nI x = nI (10 * x) from pk_mul 10 x, nI_add] at h ⊢
    split at h
    · rename_i c2
      rw [if_pos c2]
      show sh_IP (f_hang P i (nI (10 * x + y))) b
      unfold f_hang
      have hn := (hk_neg I.B).mp c2.2.2.1
      obtain ⟨⟨r0, r1, r2, r3, r6⟩, ⟨r8, r4, r9, r5⟩, ⟨r33, r11⟩, rl, rc⟩ := I.tl i hi
      have e3 : sh_tr P i 3 = 0 := c2.1
      refine IP_of (IS_wt I.S hi ⟨⟨by simpa [upd] using r0, by simpa [upd] using r1, by simpa [upd] using r2, by simpa [upd] using r3, by simpa [upd] using r6⟩, ⟨.inr ⟨x, y, hx, hy, upd_eq⟩, by simpa [upd] using r4, by simpa [upd] using r9, by simpa [upd] using r5⟩, ⟨by simpa [upd] using r33, by simpa [upd] using r11⟩, fun z => ?_, by simpa [upd] using rc⟩ (.inr (.inr fun u hu => ?_)) (fun z => ?_)) (wt_c2 I.cr)
      · rw [upd_ne (by omega), e3] at z; exact absurd z (by decide)
      · rw [upd_eq]; exact fun z => hn ⟨u, hu, z⟩
      · rw [upd_ne (by omega), e3] at z; exact absurd z (by decide)
    · exact neg_no (by decide) h
  · rw [if_neg c] at h; exact neg_no (by decide) h
theorem IP_find (I : sh_IP P b) {t : Int32} (h : ¬ (o_find P t).1 < 0) : sh_IP (o_find P t).2 b := by
  have htl := I.tl20
  unfold o_find at h ⊢
  by_cases c : tB P t = true
  · rw [if_pos c] at h ⊢
    obtain ⟨i, hi, rfl⟩ := I.B.tB_t c
    rw [nI_clamp (by omega)] at h ⊢
    by_cases c2 : pt P i 3 = 2
    · rw [if_pos c2]
      obtain ⟨⟨r0, r1, r2, r3, r6⟩, ⟨r8, r4, r9, r5⟩, ⟨r33, r11⟩, rl, rc⟩ := I.tl i hi
      refine IP_of (IS_wt I.S hi ⟨⟨by simpa [upd] using r0, by simpa [upd] using r1, by simpa [upd] using r2, ⟨0, by omega, by simp [upd]; rfl⟩, by simpa [upd] using r6⟩, ⟨by simpa [upd] using r8, fun z => ?_, by simpa [upd] using r9, by simpa [upd] using r5⟩, ⟨fun z => ?_, by simpa [upd] using r11⟩, fun z => ?_, by simpa [upd] using rc⟩ (.inr (.inl (upd_ne (by omega)))) (fun z => ?_)) (wt_c2 I.cr)
      · rw [upd_eq] at z; exact z.elim (fun z => absurd z (by decide)) (fun z => absurd z (by decide))
      · rw [upd_eq] at z; exact absurd z (by decide)
      · rw [upd_eq] at z; exact absurd z (by decide)
      · rw [upd_eq] at z; exact absurd z (by decide)
    · rw [if_neg c2] at h; exact neg_no (by decide) h
  · rw [if_neg c] at h; exact neg_no (by decide) h
theorem IP_propose (I : sh_IP P b) {t c0 b0 : Int32} (h : ¬ (o_propose P t c0 b0).1 < 0) : sh_IP (o_propose P t c0 b0).2 b := by
  have htl := I.tl20
  unfold o_propose at h ⊢
  by_cases c : tB P t = true ∧ inb c0 1 400 = true ∧ inb b0 1 (pt P t.toNatClampNeg 2) = true
  · rw [if_pos c] at h ⊢
    obtain ⟨i, hi, rfl⟩ := I.B.tB_t c.1
    obtain ⟨x, hx, rfl⟩ := inb_nat (n := 400) (by decide) rfl c.2.1
    have c3 := c.2.2
    rw [nI_clamp (by omega)] at h c3 ⊢
    split at h
    · exact neg_no (by decide) h
    · rename_i c2
      rw [if_neg c2]
      obtain ⟨⟨r0, r1, r2, r3, r6⟩, ⟨r8, r4, r9, r5⟩, ⟨r33, r11⟩, rl, rc⟩ := I.tl i hi
      obtain ⟨w, hw, ew⟩ := r2
      have ew' : pt P i 2 = nI w := ew
      rw [ew'] at c3
      have c4 := of_decide_eq_true c3
      obtain ⟨y, hy, rfl⟩ := nI_of2 (n := w) (M := nI w) (nI_toInt (by omega)) (Int32.not_lt.mpr (Int32.le_trans (by decide) c4.1)) c4.2
      have hy1 := (nI_leI (a := 1) (b := y) (by omega) (by omega)).mp c4.1
      refine IP_of (IS_wt I.S hi ⟨⟨by simpa [upd] using r0, by simpa [upd] using r1, ⟨w, hw, by simpa [upd] using ew⟩, by simpa [upd] using r3, by simpa [upd] using r6⟩, ⟨by simpa [upd] using r8, by simpa [upd] using r4, by simpa [upd] using r9, by simpa [upd] using r5⟩, ⟨by simpa [upd] using r33, by simpa [upd] using r11⟩, fun z => ?_, ⟨x, hx, by simp [upd], fun _ => ⟨y, w, hy1, hy, hw, by simpa [upd] using ew, by simp [upd]⟩⟩⟩ (.inr (.inl (by rw [upd_ne (by omega), upd_ne (by omega), upd_ne (by omega), upd_ne (by omega), upd_ne (by omega)]; rfl))) (fun z j hj => ?_)) (wt_c2 I.cr)
      · have hu : ∀ w, w < 18 → upd (upd (upd (upd (upd (sh_tr P i) 18 (nI x)) 19 (nI y)) 20 (P 7 + P 6)) 21 0) 22 0 w = sh_tr P i w := fun w hw => by rw [upd_ne (by omega), upd_ne (by omega), upd_ne (by omega), upd_ne (by omega), upd_ne (by omega)]
        rw [hu 3 (by omega)] at z
        obtain ⟨r7, r8'⟩ := rl z
        refine ⟨fun j hj => ?_, ?_⟩
        · rw [hu (12 + j) (by omega), hu (15 + j) (by omega)]; exact r7 j hj
        · rw [hu 12 (by omega), hu 13 (by omega), hu 14 (by omega)]; exact r8'
      · have hu : ∀ w, w < 18 → upd (upd (upd (upd (upd (sh_tr P i) 18 (nI x)) 19 (nI y)) 20 (P 7 + P 6)) 21 0) 22 0 w = sh_tr P i w := fun w hw => by rw [upd_ne (by omega), upd_ne (by omega), upd_ne (by omega), upd_ne (by omega), upd_ne (by omega)]
        rw [hu 3 (by omega)] at z
        rw [hu (12 + j) (by omega), hu 4 (by omega)]
        exact I.ls i hi z j hj
  · rw [if_neg c] at h; exact neg_no (by decide) h
theorem IP_lend (I : sh_IP P b) {t s d f : Int32} (h : ¬ (o_lend P t s d f).1 < 0) : sh_IP (o_lend P t s d f).2 b := by
  have htl := I.tl20
  have hdl := I.B.dl
  unfold o_lend at h ⊢
  by_cases c : tB P t = true ∧ inb s 0 3 = true ∧ inb d 1 60 = true ∧ inb f 0 40 = true
  · rw [if_pos c] at h ⊢
    obtain ⟨i, hi, rfl⟩ := I.B.tB_t c.1
    obtain ⟨x, hx, rfl⟩ := inb_nat (n := 60) (by decide) rfl c.2.2.1
    obtain ⟨y, hy, rfl⟩ := inb_nat (n := 40) (by decide) rfl c.2.2.2
    rw [nI_clamp (by omega)] at h ⊢
    by_cases c2 : pt P i 3 = 0
    · rw [if_pos c2]
      have e7 : P 7 + nI x = nI (nD P + x) := by rw [I.B.d, nI_add]
      refine IP_out I (x := x) (p := 3) (a3 := s) (a4 := P 7 + nI x) hi (.inr rfl) ⟨nD P + x, by omega, e7⟩ (fun z => absurd z (by decide)) (fun w hw h10 h11 => ?_) (fun _ => ⟨hx, by rw [upd_ne (by omega), upd_eq], e7⟩) ⟨y, hy, upd_eq⟩
      rw [upd_ne h11, upd_ne h10]
      exact wt_at _ _ _ _ hw
    · rw [if_neg c2] at h; exact neg_no (by decide) h
  · rw [if_neg c] at h; exact neg_no (by decide) h
theorem IP_come (I : sh_IP P b) (hb : b ≤ sh_LIM) {t : Int32} (h : ¬ (o_come P t).1 < 0) : sh_IP (o_come P t).2 (b + 240000) := by
  unfold sh_LIM at hb
  have htl := I.tl20
  unfold o_come at h ⊢
  by_cases c : tB P t = true
  · rw [if_pos c] at h ⊢
    obtain ⟨i, hi, rfl⟩ := I.B.tB_t c
    rw [nI_clamp (by omega)] at h ⊢
    by_cases c2 : pt P i 3 = 3 ∧ sh_ct2 P (-1) ≠ 0
    · rw [if_pos c2]
      obtain ⟨n, hn, en⟩ := told_nat I hi c2.1
      show sh_IP (sh_share (sh_wt P i (sh_cin P i)) (sh_told P i).toNatClampNeg (-1) 3) _
      rw [en, nI_clamp (by omega)]
      have IS1 := IS_cin I hi
      have k := c2_share (but := -1) (kd := 3) (q := n) IS1.B (wt_c2 (t := i) (n := sh_cin P i) I.cr) (by omega) (by omega) (by omega)
      rw [if_pos rfl, if_pos rfl] at k
      exact IP_of (IS_share IS1 (by omega)) (c2_mono k (by omega) (by omega))
    · rw [if_neg c2] at h; exact neg_no (by decide) h
  · rw [if_neg c] at h; exact neg_no (by decide) h
theorem IP_swap (I : sh_IP P b) {x y : Int32} (h : ¬ (o_swap P x y).1 < 0) : sh_IP (o_swap P x y).2 b := by
  have hl := I.ml
  have hY := I.B.yl
  unfold o_swap at h ⊢
  by_cases c : mB P x = true ∧ mB P y = true ∧ x ≠ y
  · rw [if_pos c] at h ⊢
    obtain ⟨i, hi, rfl⟩ := I.B.mB_t c.1
    obtain ⟨k, hk, rfl⟩ := I.B.mB_t c.2.1
    rw [nI_clamp (n := i) (by omega), nI_clamp (n := k) (by omega)] at h ⊢
    split at h
    · exact neg_no (by decide) h
    · rename_i c2
      rw [if_neg c2]
      obtain ⟨j, hj, ej, et⟩ := tn_of I.tn hi (fun z => c2 (.inl z))
      obtain ⟨j2, hj2, ej2, et2⟩ := tn_of I.tn hk (fun z => c2 (.inr z))
      rw [et, et2, nI_clamp (by omega), nI_clamp (by omega)]
      show sh_IP (upd (upd P (12 + j) (nI k)) (12 + j2) (nI i)) b
      have ho : ∀ q, (q < 12 ∨ 22 ≤ q) → upd (upd P (12 + j) (nI k)) (12 + j2) (nI i) q = P q := fun q hq => by rw [upd_ne (by omega), upd_ne (by omega)]
      have hv : ∀ q, upd (upd P (12 + j) (nI k)) (12 + j2) (nI i) (12 + q) = P (12 + (if q = j2 then j else if q = j then j2 else q)) := fun q => by
        unfold upd
        by_cases e2 : q = j2
        · rw [if_pos (by omega), if_pos e2]; exact ej.symm
        · rw [if_neg (by omega), if_neg e2]
          by_cases e1 : q = j
          · rw [if_pos (by omega), if_pos e1]; exact ej2.symm
          · rw [if_neg (by omega), if_neg e1]
      generalize hX : upd (upd P (12 + j) (nI k)) (12 + j2) (nI i) = X at ho hv
      have eY := nY_e (P := P) (P' := X) (ho 11 (by omega))
      have eM := nM_e (P := P) (P' := X) (ho 8 (by omega))
      have hpm : ∀ m w, pm X m w = pm P m w := fun m w => ho _ (by omega)
      have hlt : ∀ q, q < nY P → (if q = j2 then j else if q = j then j2 else q) < nY P := fun q hq => by split <;> (try split) <;> omega
      have eT := nT_e (P := P) (P' := X) (ho 9 (by omega))
      have eD := nD_e (P := P) (P' := X) (ho 7 (by omega))
      have eZ : nZ X = nZ P := by unfold nZ; rw [ho 10 (by omega)]
      refine IP_of (IS_turns I.S (fun q _ hq => ho q hq) ⟨⟨?_, ?_⟩, ⟨?_, ?_⟩, ⟨?_, ?_⟩, ⟨?_, ?_⟩, ⟨?_, ?_⟩, fun q hq => ?_⟩ ⟨fun q r hq hr e => ?_, fun m hm hg => ?_, fun q hq => ?_⟩) (c2_congr (fun m hm => ⟨hpm m 3, hpm m 8, hpm m 9, hpm m 10⟩) I.cr)
      · rw [ho 8 (by omega), eM]; exact I.B.m
      · rw [eM]; exact hl
      · rw [ho 9 (by omega), eT]; exact I.B.t
      · rw [eT]; exact I.B.tl
      · rw [ho 11 (by omega), eY]; exact I.B.y
      · rw [eY]; exact hY
      · rw [ho 10 (by omega), eZ]; exact I.B.z
      · rw [eZ]; exact I.B.zl
      · rw [ho 7 (by omega), eD]; exact I.B.d
      · rw [eD]; exact I.B.dl
      · rw [eY] at hq
        rw [hv, eM]
        exact I.B.tn _ (hlt q hq)
      · rw [eY] at hq hr
        rw [hv, hv] at e
        have := I.tn.1 _ _ (hlt q hq) (hlt r hr) e
        split at this <;> split at this <;> (try split at this) <;> (try split at this) <;> omega
      · rw [eM] at hm
        rw [hpm] at hg
        obtain ⟨q, h1, h2⟩ := I.tn.2.1 m hm hg
        refine ⟨if q = j2 then j else if q = j then j2 else q, by rw [eY]; exact hlt q h1, ?_⟩
        rw [hv, ← h2]
        congr 2
        by_cases a1 : q = j2
        · rw [if_pos a1]
          by_cases a2 : j = j2
          · rw [if_pos a2]; omega
          · rw [if_neg a2, if_pos rfl]; omega
        · rw [if_neg a1]
          by_cases a2 : q = j
          · rw [if_pos a2, if_pos rfl]; omega
          · rw [if_neg a2, if_neg a1, if_neg a2]
      · rw [eY] at hq
        rw [hv]
        obtain ⟨m, a1, a2, a3⟩ := I.tn.2.2 _ (hlt q hq)
        exact ⟨m, by rw [eM]; exact a1, a2, by rw [hpm]; exact a3⟩
  · rw [if_neg c] at h; exact neg_no (by decide) h
theorem IS_gone (I : sh_IS P) {t : Nat} (ht : t < nT P) : sh_IS (sh_gone P t) := by
  obtain ⟨⟨r0, r1, r2, r3, r6⟩, ⟨r8, r4, r9, r5⟩, ⟨r33, r11⟩, rl, rc⟩ := I.tl t ht
  unfold sh_gone
  have e3 : upd (upd (sh_tr P t) 3 4) 18 0 3 = 4 := by rw [upd_ne (by omega), upd_eq]
  refine IS_wt I ht ⟨⟨by simpa [upd] using r0, by simpa [upd] using r1, by simpa [upd] using r2, ⟨4, by omega, by rw [e3]; rfl⟩, by simpa [upd] using r6⟩, ⟨by simpa [upd] using r8, fun z => ?_, by simpa [upd] using r9, by simpa [upd] using r5⟩, ⟨fun z => ?_, by simpa [upd] using r11⟩, fun z => ?_, ⟨0, by omega, by simp [upd]; rfl, fun z => by omega⟩⟩ (.inr (.inl (by rw [upd_ne (by omega), upd_ne (by omega)]; rfl))) (fun z => ?_)
  · rw [e3] at z; exact z.elim (fun z => absurd z (by decide)) (fun z => absurd z (by decide))
  · rw [e3] at z; exact absurd z (by decide)
  · rw [e3] at z; exact absurd z (by decide)
  · rw [e3] at z; exact absurd z (by decide)
theorem IP_pay (I : sh_IP P b) (hb : b ≤ sh_LIM) {i v m : Nat} {w : Int32} (hi : i < nT P) (hv : v ≤ 400) (ev : pt P i 1 = nI v) (hm : m < nM P) (em : pt P i 4 = nI m) : sh_IP (f_pay P i w) (b + 400) := by
  unfold sh_LIM at hb
  have hl := I.ml
  unfold f_pay
  rw [em, ev, nI_clamp (by omega), nI_clamp (by omega)]
  have gone : ∀ X d, sh_IS X → nT X = nT P → i_c2 X (b + d) (b + d) → d ≤ 400 → sh_IP (sh_gone X i) (b + 400) := fun X d h1 h2 h3 h4 => IP_of (IS_gone h1 (by rw [h2]; exact hi)) (c2_mono (wt_c2 h3) (by omega) (by omega))
  split
  · exact gone _ v (IS_wr I.S hm (chg_ne (by omega) (by omega) (by omega))) nT_wr (c2_mono (c2_chg I.cr (by omega) (by omega) (by omega) (by omega)) (by omega) (by omega)) hv
  · split
    · have k := c2_share (but := -1) (kd := 1) (q := v) I.B I.cr (by omega) (by omega) (by omega)
      rw [if_neg (by omega), if_neg (by omega)] at k
      exact gone _ v (IS_share I.S (by omega)) (nT_e (share_out (by omega) (.inl (by omega)))) (c2_mono k (by omega) (by omega)) hv
    · dsimp only
      have e2 : nI v - nI v / 2 = nI (v - v / 2) := by rw [show nI v / 2 = nI (v / 2) from pk_div (d := 2) (by omega) (by omega) (by omega), pk_sub (by omega)]
      rw [e2]
      have IS1 := IS_wr I.S hm (n := sh_chg (sh_row P m) 1 (nI (v - v / 2))) (chg_ne (by omega) (by omega) (by omega))
      have C1 := c2_chg (m := m) (kd := 1) (q := v - v / 2) I.cr (by omega) (by omega) (by omega) (by omega)
      have k := c2_share (but := nI m) (kd := 1) (q := v / 2) IS1.B C1 (by omega) (by omega) (by omega)
      rw [if_neg (by omega), if_neg (by omega)] at k
      exact gone _ v (IS_share IS1 (by omega)) ((nT_e (share_out (by omega) (.inl (by omega)))).trans nT_wr) (c2_mono k (by omega) (by omega)) hv
theorem IP_say (I : sh_IP P b) (hb : b ≤ sh_LIM) {t m w : Int32} (h : ¬ (o_say P t m w).1 < 0) : sh_IP (o_say P t m w).2 (b + 400) := by
  have htl := I.tl20
  have hl := I.ml
  unfold o_say at h ⊢
  by_cases c : tB P t = true ∧ mB P m = true ∧ inb w 0 2 = true
  · rw [if_pos c] at h ⊢
    obtain ⟨i, hi, rfl⟩ := I.B.tB_t c.1
    obtain ⟨x, hx, rfl⟩ := inb_nat (n := 2) (by decide) rfl c.2.2
    rw [nI_clamp (n := i) (by omega)] at h ⊢
    by_cases c2 : pt P i 3 = 2 ∧ ¬ sh_pl P i m < 0 ∧ pt P i (15 + (sh_pl P i m).toNatClampNeg) < 0
    · rw [if_pos c2]
      obtain ⟨j, hj, ej, ep⟩ := pl_nat c2.2.1
      rw [ep, nI_clamp (by omega)]
      dsimp only
      have hr := I.tl i hi
      obtain ⟨⟨r0, r1, r2, r3, r6⟩, ⟨r8, r4, r9, r5⟩, ⟨r33, r11⟩, rl, rc⟩ := I.tl i hi
      obtain ⟨r7, r7'⟩ := rl c2.1
      have hu : ∀ w, w ≠ 15 + j → upd (sh_tr P i) (15 + j) (nI x) w = sh_tr P i w := fun w h => upd_ne h
      have hrow : i_row (nM P) (nD P) (upd (sh_tr P i) (15 + j) (nI x)) := by
        unfold i_row
        rw [hu 0 (by omega), hu 1 (by omega), hu 2 (by omega), hu 3 (by omega), hu 4 (by omega), hu 5 (by omega), hu 6 (by omega), hu 8 (by omega), hu 9 (by omega), hu 10 (by omega), hu 11 (by omega), hu 12 (by omega), hu 13 (by omega), hu 14 (by omega), hu 18 (by omega), hu 19 (by omega)]
        refine ⟨⟨r0, r1, r2, r3, r6⟩, ⟨r8, r4, r9, r5⟩, ⟨r33, r11⟩, fun _ => ⟨fun q hq => ?_, r7'⟩, rc⟩
        rw [hu (12 + q) (by omega)]
        refine ⟨(r7 q hq).1, ?_⟩
        by_cases e : q = j
        · rw [e, upd_eq]; exact .inr ⟨x, hx, rfl⟩
        · rw [hu (15 + q) (by omega)]; exact (r7 q hq).2
      have IX : sh_IP (sh_wt P i (upd (sh_tr P i) (15 + j) (nI x))) b := by
        refine IP_of (IS_wt I.S hi hrow (.inr (.inl (hu 8 (by omega)))) (fun z q hq => ?_)) (wt_c2 I.cr)
        rw [hu (12 + q) (by omega), hu 4 (by omega)]
        exact I.ls i hi c2.1 q hq
      have hpt : ∀ v, v < 15 → pt (sh_wt P i (upd (sh_tr P i) (15 + j) (nI x))) i v = pt P i v := fun v hv => by
        show sh_wt _ _ _ _ = _
        rw [wt_at _ _ _ _ (by omega), upd_ne (by omega)]; rfl
      split
      · obtain ⟨v, hv1, hv, ev⟩ := r1
        obtain ⟨y, hy, ey⟩ := r4 (.inr c2.1)
        exact IP_pay IX hb (by rw [nT_wt]; exact hi) hv (by rw [hpt 1 (by omega)]; exact ev) (by rw [nM_wt]; exact hy) (by rw [hpt 4 (by omega)]; exact ey)
      · exact IP_mono IX (by omega)
    · rw [if_neg c2] at h; exact neg_no (by decide) h
  · rw [if_neg c] at h; exact neg_no (by decide) h
theorem IP_vote (I : sh_IP P b) (hb : b ≤ sh_LIM) {t m y : Int32} (h : ¬ (o_vote P t m y).1 < 0) : sh_IP (o_vote P t m y).2 (b + 400) := by
  unfold sh_LIM at hb
  have htl := I.tl20
  unfold o_vote at h ⊢
  by_cases c : tB P t = true ∧ mB P m = true ∧ inb y 0 1 = true
  · rw [if_pos c] at h ⊢
    obtain ⟨i, hi, rfl⟩ := I.B.tB_t c.1
    rw [nI_clamp (n := i) (by omega)] at h ⊢
    by_cases c2 : pt P i 18 = 0 ∨ pm P m.toNatClampNeg 0 = 2 ∨ ((pt P i 21 ||| pt P i 22) >>> (m &&& 31)) &&& 1 = 1
    · rw [if_pos c2] at h; exact neg_no (by decide) h
    · rw [if_neg c2]
      have hk : (if y = 1 then 21 else 22) = 21 ∨ (if y = 1 then 21 else 22) = 22 := by split <;> omega
      generalize hat : (if y = 1 then 21 else 22) = k at hk
      generalize pt P i k ||| 1 <<< (m &&& 31) = v
      have IX : sh_IP (sh_wt P i (upd (sh_tr P i) k v)) b := by
        refine IP_of (IS_wt I.S hi (row_eq2 (fun w hw _ => upd_ne (by omega)) (I.tl i hi)) (.inr (.inl (upd_ne (by omega)))) (fun z q hq => ?_)) (wt_c2 I.cr)
        rw [upd_ne (by omega)] at z
        rw [upd_ne (by omega), upd_ne (by omega)]
        exact I.ls i hi z q hq
      have hT : nT (sh_wt P i (upd (sh_tr P i) k v)) = nT P := nT_wt
      have h18 : pt (sh_wt P i (upd (sh_tr P i) k v)) i 18 = pt P i 18 := by
        show sh_wt _ _ _ _ = _
        rw [wt_at _ _ _ _ (by omega), upd_ne (by omega)]; rfl
      generalize sh_wt P i (upd (sh_tr P i) k v) = X at IX hT h18
      obtain ⟨⟨r0, r1, r2, r3, r6⟩, ⟨r8, r4, r9, r5⟩, ⟨r33, r11⟩, rl, rc⟩ := IX.tl i (by omega)
      obtain ⟨x, hx, ex, hex⟩ := rc
      have off : ∀ n : Nat → Int32, (∀ w, w < 20 → w ≠ 2 → w ≠ 18 → n w = sh_tr X i w) → (∃ w, w ≤ 50 ∧ n 2 = nI w) → n 18 = 0 → sh_IS (sh_wt X i n) := fun n hn h2 h18' => by
        refine IS_wt IX.S (by omega) ?_ (.inr (.inl (hn 8 (by omega) (by omega) (by omega)))) (fun z q hq => ?_)
        · unfold i_row
          rw [hn 0 (by omega) (by omega) (by omega), hn 1 (by omega) (by omega) (by omega), hn 3 (by omega) (by omega) (by omega), hn 4 (by omega) (by omega) (by omega), hn 5 (by omega) (by omega) (by omega), hn 6 (by omega) (by omega) (by omega), hn 8 (by omega) (by omega) (by omega), hn 9 (by omega) (by omega) (by omega), hn 10 (by omega) (by omega) (by omega), hn 11 (by omega) (by omega) (by omega), hn 12 (by omega) (by omega) (by omega), hn 13 (by omega) (by omega) (by omega), hn 14 (by omega) (by omega) (by omega)]
          refine ⟨⟨r0, r1, h2, r3, r6⟩, ⟨r8, r4, r9, r5⟩, ⟨r33, r11⟩, fun z => ?_, ⟨0, by omega, by rw [h18']; rfl, fun z => by omega⟩⟩
          obtain ⟨r7, r7'⟩ := rl z
          exact ⟨fun q hq => by rw [hn (12 + q) (by omega) (by omega) (by omega), hn (15 + q) (by omega) (by omega) (by omega)]; exact r7 q hq, r7'⟩
        · rw [hn 3 (by omega) (by omega) (by omega)] at z
          rw [hn (12 + q) (by omega) (by omega) (by omega), hn 4 (by omega) (by omega) (by omega)]
          exact IX.ls i (by omega) z q hq
      unfold o_counted
      split
      · show sh_IP (sh_share (sh_wt X i (upd (upd (sh_tr X i) 18 0) 2 (pt X i 2 - pt X i 19))) (pt X i 18).toNatClampNeg (-1) 2) (b + 400)
        have ex' : pt X i 18 = nI x := ex
        have h2 : ∃ w, w ≤ 50 ∧ upd (upd (sh_tr X i) 18 0) 2 (pt X i 2 - pt X i 19) 2 = nI w := by
          have hx0 : 0 < x := Nat.pos_of_ne_zero fun z => c2 (.inl (by rw [← h18, ex', z]; rfl))
          obtain ⟨e, w, a1, a2, a3, a4, a5⟩ := hex hx0
          refine ⟨w - e, by omega, ?_⟩
          rw [upd_eq, show pt X i 2 = nI w from a4, show pt X i 19 = nI e from a5]
          exact pk_sub a2
        have IS1 := off (upd (upd (sh_tr X i) 18 0) 2 (pt X i 2 - pt X i 19)) (fun w hw h2 h18 => by rw [upd_ne h2, upd_ne h18]) h2 (by rw [upd_ne (by omega), upd_eq])
        rw [ex', nI_clamp (by omega)]
        have k := c2_share (but := -1) (kd := 2) (q := x) IS1.B (wt_c2 (t := i) (n := upd (upd (sh_tr X i) 18 0) 2 (pt X i 2 - pt X i 19)) IX.cr) (by omega) (by omega) (by omega)
        rw [if_neg (by omega), if_neg (by omega)] at k
        exact IP_of (IS_share IS1 (by omega)) (c2_mono k (by omega) (by omega))
      · split
        · exact IP_of (off (upd (sh_tr X i) 18 0) (fun w hw h2 h18 => upd_ne h18) (by rw [upd_ne (by omega)]; exact r2) upd_eq) (c2_mono (wt_c2 IX.cr) (by omega) (by omega))
        · exact IP_mono IX (by omega)
  · rw [if_neg c] at h; exact neg_no (by decide) h
theorem seat_3 {t : Nat} {L : List Nat} : ∀ m, m ≤ 10 → sh_cnt (fun k => decide (k ∈ L)) m ≤ 3 → (sh_seat P t L m).2 (142 + 23 * t + 3) = 2
  | 0, _, _ => by
    show sh_wt P t _ (142 + 23 * t + 3) = 2
    rw [wt_at _ _ _ _ (by omega), upd_eq]
  | m + 1, hm, hc => by
    unfold sh_seat
    dsimp only
    unfold sh_cnt at hc
    split
    · rename_i h
      rw [if_pos (decide_eq_true h)] at hc
      dsimp only
      rw [seat_1, upd_ne (by omega), upd_ne (by omega), upd_ne (by omega)]
      exact seat_3 m (by omega) (by omega)
    · exact seat_3 m (by omega) (by omega)
theorem seat_up {t : Nat} {L : List Nat} {j : Nat} : ∀ m, 22 + 12 * m ≤ j → j < 142 → (sh_seat P t L m).2 j = P j
  | 0, _, h => wt_out (by omega)
  | m + 1, h, h2 => by
    unfold sh_seat
    dsimp only
    split
    · dsimp only
      rw [upd_ne (by omega), upd_ne (by omega), upd_ne (by omega)]
      exact seat_up m (by omega) h2
    · exact seat_up m (by omega) h2
theorem IP_lose (I : sh_IP P b) {t : Int32} (h : ¬ (o_lose P t).1 < 0) : sh_IP (o_lose P t).2 b := by
  have htl := I.tl20
  have hl := I.ml
  unfold o_lose at h ⊢
  by_cases c : tB P t = true
  · rw [if_pos c] at h ⊢
    obtain ⟨i, hi, rfl⟩ := I.B.tB_t c
    rw [nI_clamp (by omega)] at h ⊢
    by_cases c2 : pt P i 3 = 1
    · rw [if_pos c2] at h ⊢
      cases hc : sh_call P (pt P i 4) 3 with
      | none => rw [hc] at h; exact neg_no (by decide) h
      | some L =>
        rw [hc] at h
        dsimp only at h ⊢
        obtain ⟨hlen, hnd, hmem⟩ := call_len hc
        have hcn := fun n => cnt_mem L n
        have hc3 : sh_cnt (fun k => decide (k ∈ L)) (nM P) = 3 := by rw [cnt_mem_eq L (nM P) hnd fun x hx => (hmem x hx).1, hlen]
        have hat := seat_at (P := P) (t := i) (L := L) (nM P) hl (by omega)
        have hlow := fun j hj => seat_low (P := P) (t := i) (L := L) (j := j) hj (nM P) hl (by omega)
        have h3 := seat_3 (P := P) (t := i) (L := L) (nM P) hl (by omega)
        have h0 := fun k w h1 h2 => seat_0 (P := P) (t := i) (L := L) (k := k) (w := w) h1 h2 (nM P)
        have hup := fun j => seat_up (P := P) (t := i) (L := L) (j := j) (nM P)
        generalize (sh_seat P i L (nM P)).2 = Z at hat hlow h3 h0 hup ⊢
        obtain ⟨⟨r0, r1, r2, r3, r6⟩, ⟨r8, r4, r9, r5⟩, ⟨r33, r11⟩, rl, rc⟩ := I.tl i hi
        have hn : ∀ w, w < 12 → w ≠ 3 → sh_tr Z i w = sh_tr P i w := fun w h1 h2 => hlow _ (by omega)
        have hn2 : ∀ w, 18 ≤ w → sh_tr Z i w = sh_tr P i w := fun w h1 => hlow _ (by omega)
        have e3 : sh_tr Z i 3 = 2 := h3
        have hs : ∀ j, j < 3 → ∃ k, k ∈ L ∧ sh_cnt (fun q => decide (q ∈ L)) k = j ∧ sh_tr Z i (12 + j) = nI k ∧ sh_tr Z i (15 + j) = -1 := fun j hj => by
          obtain ⟨k, a1, a2, a3, a4, a5⟩ := hat j (by omega)
          exact ⟨k, a2, a3, a4, a5⟩
        have hdis : ∀ j j', j < 3 → j' < 3 → j ≠ j' → sh_tr Z i (12 + j) ≠ sh_tr Z i (12 + j') := fun j j' h1 h2 h3 e => by
          obtain ⟨k, a1, a2, a3, a4⟩ := hs j h1
          obtain ⟨k', b1, b2, b3, b4⟩ := hs j' h2
          rw [a3, b3] at e
          have m1 := (hmem k a1).1
          have m2 := (hmem k' b1).1
          have := (nI_eq (by omega) (by omega)).mp e
          subst this
          omega
        have hrow : i_row (nM P) (nD P) (sh_tr Z i) := by
          unfold i_row
          rw [hn 0 (by omega) (by omega), hn 1 (by omega) (by omega), hn 2 (by omega) (by omega), e3, hn 4 (by omega) (by omega), hn 5 (by omega) (by omega), hn 6 (by omega) (by omega), hn 8 (by omega) (by omega), hn 9 (by omega) (by omega), hn 10 (by omega) (by omega), hn 11 (by omega) (by omega), hn2 18 (by omega), hn2 19 (by omega)]
          refine ⟨⟨r0, r1, r2, ⟨2, by omega, rfl⟩, r6⟩, ⟨r8, fun _ => r4 (.inl c2), r9, r5⟩, ⟨fun z => absurd z (by decide), r11⟩, fun _ => ⟨fun j hj => ?_, hdis 0 1 (by omega) (by omega) (by omega), hdis 0 2 (by omega) (by omega) (by omega), hdis 1 2 (by omega) (by omega) (by omega)⟩, rc⟩
          obtain ⟨k, a1, a2, a3, a4⟩ := hs j hj
          exact ⟨⟨k, (hmem k a1).1, a3⟩, .inl a4⟩
        have IX : sh_IS (sh_wt P i (sh_tr Z i)) := IS_wt I.S hi hrow (.inr (.inl (hn 8 (by omega) (by omega)))) fun _ j hj => by
          obtain ⟨k, a1, a2, a3, a4⟩ := hs j hj
          obtain ⟨m1, m2, m3⟩ := hmem k a1
          exact ⟨k, m1, a3, by rw [m3]; decide, by rw [hn 4 (by omega) (by omega)]; exact m2⟩
        have eM : nM (sh_wt P i (sh_tr Z i)) = nM P := nM_wt
        refine IP_of (IS_mem IX (fun j hj _ => ?_) ⟨nZ P, I.B.zl, ?_⟩ (fun m hm => ?_) (fun j hj => ?_) (fun m hm hm2 w hw => ?_)) (c2_congr (fun m hm => ⟨h0 m 3 hm (by omega), h0 m 8 hm (by omega), h0 m 9 hm (by omega), h0 m 10 hm (by omega)⟩) I.cr)
        · rw [wt_low (by omega)]; exact hlow j (.inl hj)
        · rw [hlow 10 (.inl (by omega))]; exact I.B.z
        · rw [eM] at hm
          have e1 : pm Z m 0 = pm P m 0 := h0 m 0 (by omega) (by omega)
          have e2 : pm (sh_wt P i (sh_tr Z i)) m 0 = pm P m 0 := wt_out (by omega)
          rw [e1, e2]
          exact ⟨Iff.rfl, I.st m hm⟩
        · by_cases e : 142 + 23 * i ≤ j ∧ j < 142 + 23 * i + 23
          · obtain ⟨w, rfl⟩ : ∃ w, j = 142 + 23 * i + w := ⟨j - (142 + 23 * i), by omega⟩
            rw [wt_at _ _ _ _ (by omega)]; rfl
          · rw [wt_out e]; exact hlow j (by omega)
        · rw [eM] at hm
          have e1 : pm Z m w = pm P m w := hup _ (by omega) (by omega)
          rw [e1]; exact I.mz m hm hm2 w hw
    · rw [if_neg c2] at h; exact neg_no (by decide) h
  · rw [if_neg c] at h; exact neg_no (by decide) h
theorem IS_lap (I : sh_IS P) : ∀ t, t ≤ nT P → sh_IS (sh_lap P t) ∧ nT (sh_lap P t) = nT P
  | 0, _ => ⟨I, rfl⟩
  | t + 1, h => by
    obtain ⟨I1, eT⟩ := IS_lap I t (by omega)
    unfold sh_lap
    split
    · rw [upd_wt _ _ _ _ (by omega)]
      refine ⟨?_, nT_wt.trans eT⟩
      obtain ⟨⟨r0, r1, r2, r3, r6⟩, ⟨r8, r4, r9, r5⟩, ⟨r33, r11⟩, rl, rc⟩ := I1.tl t (by omega)
      refine IS_wt I1 (by omega) ⟨⟨by simpa [upd] using r0, by simpa [upd] using r1, by simpa [upd] using r2, by simpa [upd] using r3, by simpa [upd] using r6⟩, ⟨by simpa [upd] using r8, by simpa [upd] using r4, by simpa [upd] using r9, by simpa [upd] using r5⟩, ⟨by simpa [upd] using r33, by simpa [upd] using r11⟩, fun z => ?_, ⟨0, by omega, by simp [upd]; rfl, fun z => by omega⟩⟩ (.inr (.inl (upd_ne (by omega)))) (fun z j hj => ?_)
      · rw [upd_ne (by omega)] at z
        obtain ⟨r7, r7'⟩ := rl z
        refine ⟨fun j hj => ?_, by simpa [upd] using r7'⟩
        rw [upd_ne (by omega), upd_ne (by omega)]; exact r7 j hj
      · rw [upd_ne (by omega)] at z
        rw [upd_ne (by omega), upd_ne (by omega)]
        exact I1.ls t (by omega) z j hj
    · exact ⟨I1, eT⟩
theorem IS_7 (I : sh_IS P) (hd : nD P < 3000) : sh_IS (upd P 7 (nI (nD P + 1))) := by
  generalize hX : upd P 7 (nI (nD P + 1)) = X
  have ho : ∀ j, j ≠ 7 → X j = P j := fun j h => by rw [← hX, upd_ne h]
  have e7 : X 7 = nI (nD P + 1) := by rw [← hX, upd_eq]
  clear hX
  have hY := I.B.yl
  have eM := nM_e (P := P) (P' := X) (ho 8 (by omega))
  have eT := nT_e (P := P) (P' := X) (ho 9 (by omega))
  have eY := nY_e (P := P) (P' := X) (ho 11 (by omega))
  have eD : nD X = nD P + 1 := by unfold nD; rw [e7, nI_clamp (by omega)]; rfl
  have hpm : ∀ m w, pm X m w = pm P m w := fun m w => ho _ (by omega)
  have hpt : ∀ t w, pt X t w = pt P t w := fun t w => ho _ (by omega)
  have htr : ∀ t, sh_tr X t = sh_tr P t := fun t => funext fun w => hpt t w
  refine ⟨⟨B_7 I.B (d := nD P + 1) (by omega) (fun j _ h7 => ho j h7) e7, fun j hj => ?_, fun m hm => ?_, fun m hm hm2 w hw => ?_, fun t h1 h2 w hw => ?_⟩, ⟨fun i j hi hj e => ?_, fun m hm hg => ?_, fun j hj => ?_⟩, fun t h1 => ?_, fun t u h1 h2 h3 h4 => ?_, fun t h1 h2 j hj => ?_⟩
  · rw [ho j (by omega)]; exact I.s j hj
  · rw [eM] at hm; rw [hpm]; exact I.st m hm
  · rw [eM] at hm; rw [hpm]; exact I.mz m hm hm2 w hw
  · rw [eT] at h1; rw [hpt]; exact I.tz t h1 h2 w hw
  · rw [eY] at hi hj
    rw [ho _ (by omega), ho _ (by omega)] at e
    exact I.tn.1 i j hi hj e
  · rw [eM] at hm
    rw [hpm] at hg
    obtain ⟨j, h1, h2⟩ := I.tn.2.1 m hm hg
    exact ⟨j, by rw [eY]; exact h1, by rw [ho _ (by omega)]; exact h2⟩
  · rw [eY] at hj
    obtain ⟨m, h1, h2, h3⟩ := I.tn.2.2 j hj
    exact ⟨m, by rw [eM]; exact h1, by rw [ho _ (by omega)]; exact h2, by rw [hpm]; exact h3⟩
  · rw [eT] at h1; rw [eM, eD, htr]; exact row_mono (Nat.le_refl _) (by omega) (I.tl t h1)
  · rw [eT] at h1 h2
    rw [hpt, hpt] at h4
    rw [hpt]; exact I.hk t u h1 h2 h3 h4
  · rw [eT] at h1
    rw [hpt] at h2
    obtain ⟨m, a1, a2, a3, a4⟩ := I.ls t h1 h2 j hj
    exact ⟨m, by rw [eM]; exact a1, by rw [hpt]; exact a2, by rw [hpm]; exact a3, by rw [hpt]; exact a4⟩
theorem c2_due {a d q : Nat} (H : i_c2 P a d) (hq : P 0 = nI q) (ha : a < 2 ^ 31) (hq2 : q < 2 ^ 31) : ∀ m, m ≤ 10 → i_c2 (sh_due P m) a (d + q)
  | 0, _ => c2_mono H (Nat.le_refl _) (by omega)
  | m + 1, hm => by
    have ih := c2_due H hq ha hq2 m (by omega)
    unfold sh_due
    split
    · exact ih
    · obtain ⟨c, hc, ec⟩ := c2_nat H (show m < 10 by omega)
      obtain ⟨v, h1, h2, h3⟩ := chg_nat (n := sh_row P m) (kd := 0) (q := q) (d := d) (by omega) (fun k hk => H.2 m (by omega) k hk) hq2 ec (by omega)
      rw [hq]
      exact c2_wr ih (by omega) c ((due_up m (by omega)).trans ec) (by omega) h2 (by omega) ha (Nat.le_refl _) h3
theorem IP_day (I : sh_IP P b) (hb : b < 2 ^ 30) (hd : nD P < 3000) : sh_IP (f_day P) (b + 400) := by
  have hl := I.ml
  have hday : f_day P = sh_lap (if (nD P + 1) % 30 = 0 then sh_due (upd P 7 (nI (nD P + 1))) (nM P) else upd P 7 (nI (nD P + 1))) (nT P) := rfl
  have I1 := IS_7 I.S hd
  have C1 : i_c2 (upd P 7 (nI (nD P + 1))) b b := c2_congr (fun m hm => ⟨upd_ne (by omega), upd_ne (by omega), upd_ne (by omega), upd_ne (by omega)⟩) I.cr
  have hM1 : nM (upd P 7 (nI (nD P + 1))) = nM P := nM_e (upd_ne (by omega))
  have hT1 : nT (upd P 7 (nI (nD P + 1))) = nT P := nT_e (upd_ne (by omega))
  have h01 : upd P 7 (nI (nD P + 1)) 0 = P 0 := upd_ne (by omega)
  rw [hday]
  generalize upd P 7 (nI (nD P + 1)) = P1 at *
  obtain ⟨q, hq, eq⟩ := I.s 0 (by omega)
  have hq : q ≤ 400 := hq
  have fin : ∀ X, sh_IS X → nT X = nT P → i_c2 X b (b + 400) → sh_IP (sh_lap X (nT P)) (b + 400) := fun X h1 h2 h3 =>
    IP_of (IS_lap h1 (nT P) (by omega)).1 (c2_mono (c2_congr (fun m hm => ⟨lap_out _ (fun u _ => by omega), lap_out _ (fun u _ => by omega), lap_out _ (fun u _ => by omega), lap_out _ (fun u _ => by omega)⟩) h3) (by omega) (Nat.le_refl _))
  split
  · have k := c2_due C1 (h01.trans eq) (by omega) (by omega) (nM P) hl
    have IS2 := IS_due I1
    rw [hM1] at IS2
    exact fin _ IS2 ((nT_e (due_low (.inl (by omega)) _ hl)).trans hT1) (c2_mono k (Nat.le_refl _) (by omega))
  · exact fin _ I1 hT1 (c2_mono C1 (Nat.le_refl _) (by omega))
theorem IP_days (I : sh_IP P b) (hb : b ≤ sh_LIM) : ∀ k, k ≤ 60 → nD P + k ≤ 3000 → sh_IP (f_days P k) (b + 400 * k)
  | 0, _, _ => I
  | k + 1, h, h2 => by
    have ih := IP_days I hb k (by omega) (by omega)
    unfold sh_LIM at hb
    have hD := (days_B I.B k (by omega)).2
    have := IP_day ih (by omega) (by omega)
    rw [show b + 400 * (k + 1) = b + 400 * k + 400 by omega]
    exact this
theorem IP_pass (I : sh_IP P b) (hb : b ≤ sh_LIM) {d : Int32} (h : ¬ (o_pass P d).1 < 0) : sh_IP (o_pass P d).2 (b + 24000) := by
  have hdl := I.B.dl
  unfold o_pass at h ⊢
  by_cases c : inb d 1 60 = true
  · rw [if_pos c] at h ⊢
    obtain ⟨x, hx, rfl⟩ := inb_nat (n := 60) (by decide) rfl c
    rw [I.B.d, nI_add, nI_clamp (by omega)] at h ⊢
    by_cases c2 : nI (nD P + x) ≤ 3000
    · rw [if_pos c2]
      have hle : nD P + x ≤ 3000 := (nI_leI (b := 3000) (by omega) (by omega)).mp c2
      exact IP_mono (IP_days I hb x hx hle) (by omega)
    · rw [if_neg c2] at h; exact neg_no (by decide) h
  · rw [if_neg c] at h; exact neg_no (by decide) h
end INV5
