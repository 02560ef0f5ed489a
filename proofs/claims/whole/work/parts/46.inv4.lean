/-! each call keeps what holds of a page: the others -/
theorem row_eq2 {M D : Nat} {n n' : Nat → Int32} (h : ∀ w, w < 20 → w ≠ 7 → n' w = n w) (R : i_row M D n) : i_row M D n' := by
  unfold i_row at R ⊢
  rw [h 0 (by omega) (by omega), h 1 (by omega) (by omega), h 2 (by omega) (by omega), h 3 (by omega) (by omega), h 4 (by omega) (by omega), h 5 (by omega) (by omega), h 6 (by omega) (by omega), h 8 (by omega) (by omega), h 9 (by omega) (by omega), h 10 (by omega) (by omega), h 11 (by omega) (by omega), h 12 (by omega) (by omega), h 13 (by omega) (by omega), h 14 (by omega) (by omega), h 18 (by omega) (by omega), h 19 (by omega) (by omega)]
  obtain ⟨r1, r2, r3, r4, r5⟩ := R
  refine ⟨r1, r2, r3, fun z => ?_, r5⟩
  obtain ⟨r6, r7⟩ := r4 z
  refine ⟨fun j hj => ?_, r7⟩
  rw [h (12 + j) (by omega) (by omega), h (15 + j) (by omega) (by omega)]
  exact r6 j hj
theorem pig_c (f : Nat → Nat) (m : Nat) : ∀ n, (∀ i, i < n → f i < m) → (∀ i j, i < n → j < n → f i = f j → i = j) → sh_cnt (fun v => (List.range n).any (fun i => decide (f i = v))) m = n
  | 0, _, _ => cnt_pos.mpr fun i _ => rfl
  | n + 1, h1, h2 => by
    have ih := pig_c f m n (fun i hi => h1 i (by omega)) (fun i j hi hj => h2 i j (by omega) (by omega))
    have hr : ∀ v, (List.range (n + 1)).any (fun i => decide (f i = v)) = ((List.range n).any (fun i => decide (f i = v)) || decide (f n = v)) := fun v => by
      rw [List.range_succ, List.any_append]; simp
    rw [cnt_put (f := fun v => (List.range n).any (fun i => decide (f i = v))) (m := f n) (h1 n (by omega)) ?_ ?_ (fun v hv hne => ?_), ih]
    · refine Bool.eq_false_iff.mpr fun z => ?_
      obtain ⟨i, hi, e⟩ := List.any_eq_true.mp z
      have hi := List.mem_range.mp hi
      have := h2 i n (by omega) (by omega) (of_decide_eq_true e)
      omega
    · rw [hr, decide_eq_true rfl, Bool.or_true]
    · rw [hr, decide_eq_false (fun z => hne z.symm), Bool.or_false]
theorem pig (f : Nat → Nat) (n m : Nat) (h1 : ∀ i, i < n → f i < m) (h2 : ∀ i j, i < n → j < n → f i = f j → i = j) : n ≤ m := by
  have := pig_c f m n h1 h2
  have := cnt_le (fun v => (List.range n).any (fun i => decide (f i = v))) m
  omega
section INV4
variable {P P' : Nat → Int32} {b : Nat}
theorem nY_le (I : sh_IS P) : nY P ≤ nM P := by
  have hl := I.B.ml
  refine pig (fun j => (P (12 + j)).toNatClampNeg) _ _ (fun i hi => ?_) (fun i j hi hj e => ?_)
  · obtain ⟨m, hm, em⟩ := I.B.tn i hi
    show (P (12 + i)).toNatClampNeg < _
    rw [em, nI_clamp (by omega)]; exact hm
  · obtain ⟨m, hm, em⟩ := I.B.tn i hi
    obtain ⟨m', hm', em'⟩ := I.B.tn j hj
    have e : (P (12 + i)).toNatClampNeg = (P (12 + j)).toNatClampNeg := e
    rw [em, em', nI_clamp (by omega), nI_clamp (by omega)] at e
    exact I.tn.1 i j hi hj (by rw [em, em', e])
theorem B_hi (B : sh_B P) (h : ∀ j, 7 ≤ j → j < 22 → P' j = P j) : sh_B P' := by
  have n7 := nD_e (h 7 (by omega) (by omega))
  have n8 := nM_e (h 8 (by omega) (by omega))
  have n9 := nT_e (h 9 (by omega) (by omega))
  have n11 := nY_e (h 11 (by omega) (by omega))
  have n10 : nZ P' = nZ P := by unfold nZ; rw [h 10 (by omega) (by omega)]
  refine ⟨⟨?_, ?_⟩, ⟨?_, ?_⟩, ⟨?_, ?_⟩, ⟨?_, ?_⟩, ⟨?_, ?_⟩, fun j hj => ?_⟩
  · rw [h 8 (by omega) (by omega), n8]; exact B.m
  · rw [n8]; exact B.ml
  · rw [h 9 (by omega) (by omega), n9]; exact B.t
  · rw [n9]; exact B.tl
  · rw [h 11 (by omega) (by omega), n11]; exact B.y
  · rw [n11]; exact B.yl
  · rw [h 10 (by omega) (by omega), n10]; exact B.z
  · rw [n10]; exact B.zl
  · rw [h 7 (by omega) (by omega), n7]; exact B.d
  · rw [n7]; exact B.dl
  · rw [n11] at hj
    obtain ⟨m, h1, h2⟩ := B.tn j hj
    have := B.yl
    exact ⟨m, by rw [n8]; exact h1, by rw [h (12 + j) (by omega) (by omega)]; exact h2⟩
theorem IS_low (I : sh_IS P) (h : ∀ j, 7 ≤ j → P' j = P j) (hs : i_set P') : sh_IS P' := by
  have hY := I.B.yl
  have eM := nM_e (h 8 (by omega))
  have eT := nT_e (h 9 (by omega))
  have eY := nY_e (h 11 (by omega))
  have eD := nD_e (h 7 (by omega))
  have hpm : ∀ m w, pm P' m w = pm P m w := fun m w => h _ (by omega)
  have hpt : ∀ t w, pt P' t w = pt P t w := fun t w => h _ (by omega)
  have htr : ∀ t, sh_tr P' t = sh_tr P t := fun t => funext fun w => hpt t w
  refine ⟨⟨B_hi I.B fun j h1 _ => h j h1, hs, fun m hm => ?_, fun m hm hm2 w hw => ?_, fun t h1 h2 w hw => ?_⟩, ⟨fun i j hi hj e => ?_, fun m hm hg => ?_, fun j hj => ?_⟩, fun t h1 => ?_, fun t u h1 h2 h3 h4 => ?_, fun t h1 h2 j hj => ?_⟩
  · rw [eM] at hm; rw [hpm]; exact I.st m hm
  · rw [eM] at hm; rw [hpm]; exact I.mz m hm hm2 w hw
  · rw [eT] at h1; rw [hpt]; exact I.tz t h1 h2 w hw
  · rw [eY] at hi hj
    rw [h _ (by omega), h _ (by omega)] at e
    exact I.tn.1 i j hi hj e
  · rw [eM] at hm
    rw [hpm] at hg
    obtain ⟨j, h1, h2⟩ := I.tn.2.1 m hm hg
    exact ⟨j, by rw [eY]; exact h1, by rw [h _ (by omega)]; exact h2⟩
  · rw [eY] at hj
    obtain ⟨m, h1, h2, h3⟩ := I.tn.2.2 j hj
    exact ⟨m, by rw [eM]; exact h1, by rw [h _ (by omega)]; exact h2, by rw [hpm]; exact h3⟩
  · rw [eT] at h1; rw [eM, eD, htr]; exact I.tl t h1
  · rw [eT] at h1 h2
    rw [hpt, hpt] at h4
    rw [hpt]; exact I.hk t u h1 h2 h3 h4
  · rw [eT] at h1
    rw [hpt] at h2
    obtain ⟨m, a1, a2, a3, a4⟩ := I.ls t h1 h2 j hj
    exact ⟨m, by rw [eM]; exact a1, by rw [hpt]; exact a2, by rw [hpm]; exact a3, by rw [hpt]; exact a4⟩
theorem hi_eq : ∀ i, i < 7 → (if nI i = 0 then 400 else if nI i = 1 ∨ nI i = 6 then 60 else if nI i = 2 then 20 else if nI i = 3 then 40 else if nI i = 4 then 1000 else (100 : Int32)) = nI (sh_hi i) := by decide +kernel
theorem hi_le : ∀ i, i < 7 → sh_hi i ≤ 1000 := by decide +kernel
theorem IP_set (I : sh_IP P b) {w v : Int32} (h : ¬ (o_set P w v).1 < 0) : sh_IP (o_set P w v).2 b := by
  unfold o_set at h ⊢
  by_cases c : inb w 0 6 = true ∧ inb v (if w = 1 ∨ w = 6 then 1 else 0) (if w = 0 then 400 else if w = 1 ∨ w = 6 then 60 else if w = 2 then 20 else if w = 3 then 40 else if w = 4 then 1000 else 100) = true
  · rw [if_pos c]
    obtain ⟨i, hi, rfl⟩ := inb_nat (n := 6) (by decide) rfl c.1
    rw [nI_clamp (by omega)]
    have c2 := of_decide_eq_true c.2
    rw [hi_eq i (by omega)] at c2
    have hlo : (0 : Int32) ≤ (if nI i = 1 ∨ nI i = 6 then 1 else 0) := by split <;> decide
    have hle := hi_le i (by omega)
    obtain ⟨x, hx, rfl⟩ := nI_of2 (n := sh_hi i) (M := nI (sh_hi i)) (nI_toInt (by omega)) (Int32.not_lt.mpr (Int32.le_trans hlo c2.1)) c2.2
    refine IP_of (IS_low I.S (fun j hj => upd_ne (by omega)) fun j hj => ?_) (c2_congr (fun m hm => ⟨upd_ne (by omega), upd_ne (by omega), upd_ne (by omega), upd_ne (by omega)⟩) I.cr)
    by_cases e : j = i
    · subst e; exact ⟨x, hx, upd_eq⟩
    · dsimp only
      rw [upd_ne e]; exact I.s j hj
  · rw [if_neg c] at h; exact neg_no (by decide) h
theorem IS_member (I : sh_IS P) (hM : nM P < 10) : sh_IS (upd (upd (upd P (12 + nY P) (P 8)) 11 (nI (nY P + 1))) 8 (nI (nM P + 1))) := by
  have hY := nY_le I
  generalize hX : upd (upd (upd P (12 + nY P) (P 8)) 11 (nI (nY P + 1))) 8 (nI (nM P + 1)) = X
  have ho : ∀ j, j ≠ 8 → j ≠ 11 → j ≠ 12 + nY P → X j = P j := fun j h1 h2 h3 => by rw [← hX, upd_ne h1, upd_ne h2, upd_ne h3]
  have e8 : X 8 = nI (nM P + 1) := by rw [← hX, upd_eq]
  have e11 : X 11 = nI (nY P + 1) := by rw [← hX, upd_ne (by omega), upd_eq]
  have eN : X (12 + nY P) = nI (nM P) := by rw [← hX, upd_ne (by omega), upd_ne (by omega), upd_eq]; exact I.B.m
  have eM : nM X = nM P + 1 := by unfold nM; rw [e8, nI_clamp (by omega)]; rfl
  have eY : nY X = nY P + 1 := by
    have : nY P < 10 := by omega
    unfold nY; rw [e11, nI_clamp (by omega)]; rfl
  have eT := nT_e (P := P) (P' := X) (ho 9 (by omega) (by omega) (by omega))
  have eD := nD_e (P := P) (P' := X) (ho 7 (by omega) (by omega) (by omega))
  have eZ : nZ X = nZ P := by unfold nZ; rw [ho 10 (by omega) (by omega) (by omega)]
  have hpm : ∀ m w, pm X m w = pm P m w := fun m w => ho _ (by omega) (by omega) (by omega)
  have hpt : ∀ t w, pt X t w = pt P t w := fun t w => ho _ (by omega) (by omega) (by omega)
  have htr : ∀ t, sh_tr X t = sh_tr P t := fun t => funext fun w => hpt t w
  have hz : pm P (nM P) 0 = 0 := I.mz (nM P) (Nat.le_refl _) hM 0 (by omega)
  have htn : ∀ j, j < nY P → X (12 + j) = P (12 + j) := fun j hj => ho _ (by omega) (by omega) (by omega)
  clear hX
  refine ⟨⟨⟨⟨?_, ?_⟩, ⟨?_, ?_⟩, ⟨?_, ?_⟩, ⟨?_, ?_⟩, ⟨?_, ?_⟩, fun j hj => ?_⟩, fun j hj => ?_, fun m hm => ?_, fun m hm hm2 w hw => ?_, fun t h1 h2 w hw => ?_⟩, ⟨fun i j hi hj e => ?_, fun m hm hg => ?_, fun j hj => ?_⟩, fun t h1 => ?_, fun t u h1 h2 h3 h4 => ?_, fun t h1 h2 j hj => ?_⟩
  · rw [e8, eM]
  · rw [eM]; exact hM
  · rw [ho 9 (by omega) (by omega) (by omega), eT]; exact I.B.t
  · rw [eT]; exact I.B.tl
  · rw [e11, eY]
  · rw [eY]; omega
  · rw [ho 10 (by omega) (by omega) (by omega), eZ]; exact I.B.z
  · rw [eZ]; exact I.B.zl
  · rw [ho 7 (by omega) (by omega) (by omega), eD]; exact I.B.d
  · rw [eD]; exact I.B.dl
  · rw [eY] at hj
    rw [eM]
    by_cases e : j = nY P
    · subst e; exact ⟨nM P, by omega, eN⟩
    · obtain ⟨m, h1, h2⟩ := I.B.tn j (by omega)
      exact ⟨m, by omega, by rw [htn j (by omega)]; exact h2⟩
  · rw [ho j (by omega) (by omega) (by omega)]; exact I.s j hj
  · rw [eM] at hm
    rw [hpm]
    by_cases e : m = nM P
    · rw [e]; exact ⟨0, by omega, hz⟩
    · exact I.st m (by omega)
  · rw [eM] at hm
    rw [hpm]; exact I.mz m (by omega) hm2 w hw
  · rw [eT] at h1; rw [hpt]; exact I.tz t h1 h2 w hw
  · rw [eY] at hi hj
    have hne : ∀ q, q < nY P → ¬ P (12 + q) = nI (nM P) := fun q hq z => by
      obtain ⟨m, h1, h2⟩ := I.B.tn q hq
      rw [h2] at z
      have := (nI_eq (by omega) (by omega)).mp z
      omega
    by_cases c1 : i = nY P
    · by_cases c2 : j = nY P
      · omega
      · rw [c1, eN, htn j (by omega)] at e
        exact absurd e.symm (hne j (by omega))
    · by_cases c2 : j = nY P
      · rw [c2, eN, htn i (by omega)] at e
        exact absurd e (hne i (by omega))
      · rw [htn i (by omega), htn j (by omega)] at e
        exact I.tn.1 i j (by omega) (by omega) e
  · rw [eM] at hm
    rw [hpm] at hg
    rw [eY]
    by_cases e : m = nM P
    · exact ⟨nY P, by omega, by rw [e]; exact eN⟩
    · obtain ⟨j, h1, h2⟩ := I.tn.2.1 m (by omega) hg
      exact ⟨j, by omega, by rw [htn j h1]; exact h2⟩
  · rw [eY] at hj
    rw [eM]
    by_cases e : j = nY P
    · exact ⟨nM P, by omega, by rw [e]; exact eN, by rw [hpm, hz]; decide⟩
    · obtain ⟨m, h1, h2, h3⟩ := I.tn.2.2 j (by omega)
      exact ⟨m, by omega, by rw [htn j (by omega)]; exact h2, by rw [hpm]; exact h3⟩
  · rw [eT] at h1; rw [eM, eD, htr]; exact row_mono (by omega) (Nat.le_refl _) (I.tl t h1)
  · rw [eT] at h1 h2
    rw [hpt, hpt] at h4
    rw [hpt]; exact I.hk t u h1 h2 h3 h4
  · rw [eT] at h1
    rw [hpt] at h2
    obtain ⟨m, a1, a2, a3, a4⟩ := I.ls t h1 h2 j hj
    exact ⟨m, by rw [eM]; omega, by rw [hpt]; exact a2, by rw [hpm]; exact a3, by rw [hpt]; exact a4⟩
theorem IP_member (I : sh_IP P b) (h : ¬ (o_member P).1 < 0) : sh_IP (o_member P).2 b := by
  have hl := I.ml
  have hY := nY_le I.S
  unfold o_member at h ⊢
  by_cases c : nM P = 10
  · rw [if_pos c] at h; exact neg_no (by decide) h
  · rw [if_neg c]
    exact IP_of (IS_member I.S (by omega)) (c2_congr (fun m hm => ⟨by rw [show pm (upd (upd (upd P (12 + nY P) (P 8)) 11 (nI (nY P + 1))) 8 (nI (nM P + 1))) m 3 = _ from upd_ne (by omega), upd_ne (by omega), upd_ne (by omega)], by rw [show pm (upd (upd (upd P (12 + nY P) (P 8)) 11 (nI (nY P + 1))) 8 (nI (nM P + 1))) m 8 = _ from upd_ne (by omega), upd_ne (by omega), upd_ne (by omega)], by rw [show pm (upd (upd (upd P (12 + nY P) (P 8)) 11 (nI (nY P + 1))) 8 (nI (nM P + 1))) m 9 = _ from upd_ne (by omega), upd_ne (by omega), upd_ne (by omega)], by rw [show pm (upd (upd (upd P (12 + nY P) (P 8)) 11 (nI (nY P + 1))) 8 (nI (nM P + 1))) m 10 = _ from upd_ne (by omega), upd_ne (by omega), upd_ne (by omega)]⟩) I.cr)
theorem IP_away (I : sh_IP P b) {m a : Int32} (h : ¬ (o_away P m a).1 < 0) : sh_IP (o_away P m a).2 b := by
  have hl := I.ml
  unfold o_away at h ⊢
  by_cases c : mB P m = true ∧ inb a 0 1 = true
  · rw [if_pos c] at h ⊢
    obtain ⟨i, hi, rfl⟩ := I.B.mB_t c.1
    obtain ⟨x, hx, rfl⟩ := inb_nat (n := 1) (by decide) rfl c.2
    rw [nI_clamp (by omega)] at h ⊢
    by_cases c2 : pm P i 0 = 2
    · rw [if_pos c2] at h; exact neg_no (by decide) h
    · rw [if_neg c2]
      show sh_IP (upd P (22 + 12 * i) (nI x)) b
      refine IP_of (IS_mem I.S (fun j hj _ => upd_ne (by omega)) ⟨nZ P, I.B.zl, by rw [upd_ne (by omega)]; exact I.B.z⟩ (fun q hq => ?_) (fun j hj => upd_ne (by omega)) (fun q hq hq2 w hw => ?_)) (c2_congr (fun m hm => ⟨upd_ne (by omega), upd_ne (by omega), upd_ne (by omega), upd_ne (by omega)⟩) I.cr)
      · by_cases e : q = i
        · subst e
          have e0 : pm (upd P (22 + 12 * q) (nI x)) q 0 = nI x := upd_eq
          rw [e0]
          refine ⟨⟨fun z => ?_, fun z => absurd z c2⟩, ⟨x, by omega, rfl⟩⟩
          have := (nI_eq (b := 2) (by omega) (by omega)).mp z
          omega
        · have e0 : pm (upd P (22 + 12 * i) (nI x)) q 0 = pm P q 0 := upd_ne (by omega)
          rw [e0]; exact ⟨Iff.rfl, I.st q hq⟩
      · have e0 : pm (upd P (22 + 12 * i) (nI x)) q w = pm P q w := upd_ne (by omega)
        rw [e0]; exact I.mz q hq hq2 w hw
  · rw [if_neg c] at h; exact neg_no (by decide) h
theorem IS_leave (I : sh_IS P) {i j : Nat} (hi : i < nM P) (hj : j < nY P) (ej : P (12 + j) = nI i) {n : Nat → Int32} (h0 : n 0 = 2) (hp : sh_cnt (sh_inp P (nI i)) (nT P) = 0) : sh_IS (sh_wr (sh_ot P j) i n) := by
  have hl := I.B.ml
  have htl := I.B.tl
  have hY := I.B.yl
  have hB : sh_B (sh_wr (sh_ot P j) i n) := B_wr (B_ot I.B j hj) i n
  generalize hX : sh_wr (sh_ot P j) i n = X at hB ⊢
  have ho : ∀ q, q ≠ 11 → (q < 12 ∨ 142 ≤ q) → X q = P q := fun q h1 h2 => by rw [← hX, wr_out (by omega), ot_out h1 (by omega) hY]
  have eM := nM_e (P := P) (P' := X) (ho 8 (by omega) (by omega))
  have eT := nT_e (P := P) (P' := X) (ho 9 (by omega) (by omega))
  have eD := nD_e (P := P) (P' := X) (ho 7 (by omega) (by omega))
  have eY : nY X = nY P - 1 := by rw [← hX, nY_wr, nY_ot hY]
  have hpm : ∀ m w, m < 10 → w < 12 → m ≠ i → pm X m w = pm P m w := fun m w h1 h2 h3 => by
    rw [← hX]
    show sh_wr _ _ _ _ = _
    rw [wr_out (by omega), ot_out (by omega) (by omega) hY]
  have hpi : pm X i 0 = 2 := by rw [← hX]; exact (wr_at _ _ _ _ (by omega)).trans h0
  have hpt : ∀ t w, pt X t w = pt P t w := fun t w => ho _ (by omega) (by omega)
  have htr : ∀ t, sh_tr X t = sh_tr P t := fun t => funext fun w => hpt t w
  have htn : ∀ q, q < nY P - 1 → ∃ p, p < nY P ∧ p ≠ j ∧ X (12 + q) = P (12 + p) ∧ p = (if q < j then q else q + 1) := fun q hq => by
    obtain ⟨p, h1, h2, h3, h4⟩ := tn_ot I hj ej hi hq
    exact ⟨p, h1, h2, by rw [← hX, wr_low (by omega)]; exact h3, h4⟩
  clear hX
  refine ⟨⟨hB, fun q hq => ?_, fun m hm => ?_, fun m hm hm2 w hw => ?_, fun t h1 h2 w hw => ?_⟩, ⟨fun q r hq hr e => ?_, fun m hm hg => ?_, fun q hq => ?_⟩, fun t h1 => ?_, fun t u h1 h2 h3 h4 => ?_, fun t h1 h2 q hq => ?_⟩
  · rw [ho q (by omega) (by omega)]; exact I.s q hq
  · rw [eM] at hm
    by_cases e : m = i
    · rw [e]; exact ⟨2, by omega, hpi⟩
    · rw [hpm m 0 (by omega) (by omega) e]; exact I.st m hm
  · rw [eM] at hm
    rw [hpm m w hm2 hw (by omega)]; exact I.mz m hm hm2 w hw
  · rw [eT] at h1; rw [hpt]; exact I.tz t h1 h2 w hw
  · rw [eY] at hq hr
    obtain ⟨p1, a1, a2, a3, a4⟩ := htn q hq
    obtain ⟨p2, b1, b2, b3, b4⟩ := htn r hr
    rw [a3, b3] at e
    have := I.tn.1 p1 p2 a1 b1 e
    by_cases c1 : q < j <;> by_cases c2 : r < j <;> simp only [c1, c2, if_true, if_false] at a4 b4 <;> omega
  · rw [eM] at hm
    have hmi : m ≠ i := fun e => hg (by rw [e]; exact hpi)
    rw [hpm m 0 (by omega) (by omega) hmi] at hg
    obtain ⟨q, h1, h2⟩ := I.tn.2.1 m hm hg
    have hqj : q ≠ j := fun e => by
      rw [e, ej] at h2
      exact hmi ((nI_eq (by omega) (by omega)).mp h2).symm
    rw [eY]
    by_cases c : q < j
    · refine ⟨q, by omega, ?_⟩
      obtain ⟨p, _, _, h3, h4⟩ := htn q (by omega)
      rw [if_pos c] at h4
      rw [h3, h4]; exact h2
    · refine ⟨q - 1, by omega, ?_⟩
      obtain ⟨p, _, _, h3, h4⟩ := htn (q - 1) (by omega)
      rw [if_neg (by omega)] at h4
      rw [h3, h4, show q - 1 + 1 = q by omega]; exact h2
  · rw [eY] at hq
    obtain ⟨p, h1, h2, h3, _⟩ := htn q hq
    obtain ⟨m, a1, a2, a3⟩ := I.tn.2.2 p h1
    have hmi : m ≠ i := fun e => by
      rw [e] at a2
      exact h2 (I.tn.1 p j h1 hj (a2.trans ej.symm))
    exact ⟨m, by rw [eM]; exact a1, by rw [h3]; exact a2, by rw [hpm m 0 (by omega) (by omega) hmi]; exact a3⟩
  · rw [eT] at h1; rw [eM, eD, htr]; exact I.tl t h1
  · rw [eT] at h1 h2
    rw [hpt, hpt] at h4
    rw [hpt]; exact I.hk t u h1 h2 h3 h4
  · rw [eT] at h1
    rw [hpt] at h2
    obtain ⟨m, a1, a2, a3, a4⟩ := I.ls t h1 h2 q hq
    have hmi : m ≠ i := fun e => by
      have := cnt_pos.mp hp t h1
      rw [sh_inp, decide_eq_true ⟨h2, fun z => pl_neg.mp z ⟨q, hq, by rw [a2, e]⟩⟩] at this
      exact Bool.noConfusion this
    exact ⟨m, by rw [eM]; exact a1, by rw [hpt]; exact a2, by rw [hpm m 0 (by omega) (by omega) hmi]; exact a3, by rw [hpt]; exact a4⟩
theorem IP_leave (I : sh_IP P b) (hb : b ≤ sh_LIM) {m : Int32} (h : ¬ (o_leave P m).1 < 0) : sh_IP (o_leave P m).2 b := by
  unfold sh_LIM at hb
  have hl := I.ml
  have hY := I.B.yl
  unfold o_leave at h ⊢
  by_cases c : mB P m = true
  · rw [if_pos c] at h ⊢
    obtain ⟨i, hi, rfl⟩ := I.B.mB_t c
    rw [nI_clamp (by omega)] at h ⊢
    split at h
    · exact neg_no (by decide) h
    · rename_i c2
      rw [if_neg c2]
      have hg : pm P i 0 ≠ 2 := fun z => c2 (.inl z)
      have hp : sh_cnt (sh_inp P (nI i)) (nT P) = 0 := Nat.eq_zero_of_not_pos fun z => c2 (.inr (.inr (.inr (.inl z))))
      obtain ⟨j, hj, ej, et⟩ := tn_of I.tn hi hg
      obtain ⟨cr, hcr, ecr⟩ := cr_nat I.cr (show i < 10 by omega)
      show sh_IP (f_leave P i) b
      unfold f_leave
      rw [et, nI_clamp (by omega), ecr, nI_clamp (by omega)]
      have hIS := IS_leave I.S hi hj ej (n := upd (upd (upd (sh_row (sh_ot P j) i) 0 2) 3 0) 4 (pm P i 4 + nI cr)) (by simp [upd]) hp
      have hot : i_c2 (sh_ot P j) b b := c2_congr (fun m hm => ⟨ot_out (by omega) (by omega) hY, ot_out (by omega) (by omega) hY, ot_out (by omega) (by omega) hY, ot_out (by omega) (by omega) hY⟩) I.cr
      have hX : i_c2 (sh_wr (sh_ot P j) i (upd (upd (upd (sh_row (sh_ot P j) i) 0 2) 3 0) 4 (pm P i 4 + nI cr))) (b - cr) b := by
        refine c2_wr hot (by omega) cr ((ot_out (by omega) (by omega) hY).trans ecr) (by omega) (v := 0) (by simp [upd]; rfl) (by omega) (by omega) (Nat.le_refl _) (fun k hk => ?_)
        rw [upd_ne (by omega), upd_ne (by omega), upd_ne (by omega)]
        exact hot.2 i (by omega) k hk
      refine IP_of (IS_share hIS (by omega)) ?_
      have k := c2_share (but := nI i) (kd := 3) (q := cr) hIS.B hX (by omega) (by omega) (by omega)
      rw [if_pos rfl, if_pos rfl] at k
      exact c2_mono k (by omega) (Nat.le_refl _)
  · rw [if_neg c] at h; exact neg_no (by decide) h
end INV4
