/-! how the rest goes on: members, tools, low words -/
theorem row_eq {M D : Nat} {n n' : Nat → Int32} (h : ∀ w, w < 23 → n' w = n w) (R : i_row M D n) : i_row M D n' := by
  unfold i_row at R ⊢
  rw [h 0 (by omega), h 1 (by omega), h 2 (by omega), h 3 (by omega), h 4 (by omega), h 5 (by omega), h 6 (by omega), h 8 (by omega), h 9 (by omega), h 10 (by omega), h 11 (by omega), h 12 (by omega), h 13 (by omega), h 14 (by omega), h 18 (by omega), h 19 (by omega)]
  obtain ⟨r1, r2, r3, r4, r5⟩ := R
  refine ⟨r1, r2, r3, fun z => ?_, r5⟩
  obtain ⟨r6, r7⟩ := r4 z
  refine ⟨fun j hj => ?_, r7⟩
  rw [h (12 + j) (by omega), h (15 + j) (by omega)]
  exact r6 j hj
theorem row_mono {M D M' D' : Nat} {n : Nat → Int32} (hM : M ≤ M') (hD : D ≤ D') (R : i_row M D n) : i_row M' D' n := by
  obtain ⟨r1, ⟨r2, r3, ⟨s, hs, es⟩, r5⟩, ⟨r6, r7⟩, r8, r9⟩ := R
  refine ⟨r1, ⟨r2, fun z => ?_, ⟨s, by omega, es⟩, r5⟩, ⟨fun z => ?_, r7⟩, fun z => ?_, r9⟩
  · obtain ⟨m, hm, em⟩ := r3 z
    exact ⟨m, by omega, em⟩
  · obtain ⟨s, a, h1, h2⟩ := r6 z
    exact ⟨s, a, by omega, h2⟩
  · obtain ⟨h1, h2⟩ := r8 z
    refine ⟨fun j hj => ?_, h2⟩
    obtain ⟨⟨m, hm, em⟩, h3⟩ := h1 j hj
    exact ⟨⟨m, by omega, em⟩, h3⟩
section INV2
variable {P P' : Nat → Int32} {b : Nat}
theorem nM_e (h : P' 8 = P 8) : nM P' = nM P := by unfold nM; rw [h]
theorem nT_e (h : P' 9 = P 9) : nT P' = nT P := by unfold nT; rw [h]
theorem nY_e (h : P' 11 = P 11) : nY P' = nY P := by unfold nY; rw [h]
theorem nD_e (h : P' 7 = P 7) : nD P' = nD P := by unfold nD; rw [h]
theorem IS_mem (I : sh_IS P) (h : ∀ j, j < 22 → j ≠ 10 → P' j = P j) (h10 : ∃ z, z < 10 ∧ P' 10 = nI z) (hs : ∀ m, m < nM P → (pm P' m 0 = 2 ↔ pm P m 0 = 2) ∧ ∃ n, n ≤ 2 ∧ pm P' m 0 = nI n) (ht : ∀ j, 142 ≤ j → P' j = P j) (hz : ∀ m, nM P ≤ m → m < 10 → ∀ w, w < 12 → pm P' m w = 0) : sh_IS P' := by
  have eM := nM_e (h 8 (by omega) (by omega))
  have eT := nT_e (h 9 (by omega) (by omega))
  have eY := nY_e (h 11 (by omega) (by omega))
  have eD := nD_e (h 7 (by omega) (by omega))
  have hY := I.B.yl
  have htr : ∀ t, sh_tr P' t = sh_tr P t := fun t => funext fun w => ht _ (by omega)
  have hpt : ∀ t w, pt P' t w = pt P t w := fun t w => ht _ (by omega)
  refine ⟨⟨B_of I.B h h10, fun j hj => ?_, fun m hm => ?_, fun m hm hm2 => ?_, fun t h1 h2 w hw => ?_⟩, ⟨fun i j hi hj e => ?_, fun m hm hg => ?_, fun j hj => ?_⟩, fun t h1 => ?_, fun t u h1 h2 h3 h4 => ?_, fun t h1 h2 j hj => ?_⟩
  · rw [h j (by omega) (by omega)]; exact I.s j hj
  · exact (hs m (by rw [← eM]; exact hm)).2
  · exact hz m (by rw [← eM]; exact hm) hm2
  · rw [eT] at h1
    rw [hpt]; exact I.tz t h1 h2 w hw
  · rw [eY] at hi hj
    rw [h _ (by omega) (by omega), h _ (by omega) (by omega)] at e
    exact I.tn.1 i j hi hj e
  · rw [eM] at hm
    obtain ⟨j, h1, h2⟩ := I.tn.2.1 m hm (fun z => hg ((hs m hm).1.mpr z))
    exact ⟨j, by rw [eY]; exact h1, by rw [h _ (by omega) (by omega)]; exact h2⟩
  · rw [eY] at hj
    obtain ⟨m, h1, h2, h3⟩ := I.tn.2.2 j hj
    exact ⟨m, by rw [eM]; exact h1, by rw [h _ (by omega) (by omega)]; exact h2, fun z => h3 ((hs m h1).1.mp z)⟩
  · rw [eT] at h1
    rw [eM, eD, htr]; exact I.tl t h1
  · rw [eT] at h1 h2
    rw [hpt, hpt] at h4
    rw [hpt]; exact I.hk t u h1 h2 h3 h4
  · rw [eT] at h1
    rw [hpt] at h2
    obtain ⟨m, a1, a2, a3, a4⟩ := I.ls t h1 h2 j hj
    exact ⟨m, by rw [eM]; exact a1, by rw [hpt]; exact a2, fun z => a3 ((hs m a1).1.mp z), by rw [hpt]; exact a4⟩
theorem IS_wr (I : sh_IS P) {m : Nat} (hm : m < nM P) {n : Nat → Int32} (h0 : n 0 = pm P m 0) : sh_IS (sh_wr P m n) := by
  have hl := I.B.ml
  refine IS_mem I (fun j hj _ => wr_low hj) ⟨nZ P, I.B.zl, by rw [wr_low (by omega)]; exact I.B.z⟩ (fun q hq => ?_) (fun j hj => wr_out (by omega)) (fun q hq hq2 w hw => ?_)
  · have e : pm (sh_wr P m n) q 0 = pm P q 0 := by
      by_cases e : q = m
      · subst e; exact (wr_at _ _ _ _ (by omega)).trans h0
      · exact wr_out (by omega)
    rw [e]
    exact ⟨Iff.rfl, I.st q hq⟩
  · have : pm (sh_wr P m n) q w = pm P q w := wr_out (by omega)
    rw [this]; exact I.mz q hq hq2 w hw
theorem IS_wt (I : sh_IS P) {t : Nat} (ht : t < nT P) {n : Nat → Int32} (hr : i_row (nM P) (nD P) n) (hh : n 8 = -1 ∨ n 8 = pt P t 8 ∨ ∀ u, u < nT P → pt P u 8 ≠ n 8) (hls : n 3 = 2 → ∀ j, j < 3 → ∃ m, m < nM P ∧ n (12 + j) = nI m ∧ pm P m 0 ≠ 2 ∧ nI m ≠ n 4) : sh_IS (sh_wt P t n) := by
  have hl := I.B.ml
  have htl := I.B.tl
  have hY := I.B.yl
  have hlow : ∀ j, j < 142 → sh_wt P t n j = P j := fun j hj => wt_low hj
  have eM : nM (sh_wt P t n) = nM P := nM_wt
  have eT : nT (sh_wt P t n) = nT P := nT_wt
  have eY : nY (sh_wt P t n) = nY P := nY_wt
  have eD : nD (sh_wt P t n) = nD P := nD_e (hlow 7 (by omega))
  have hpm : ∀ m w, m < 10 → w < 12 → pm (sh_wt P t n) m w = pm P m w := fun m w h1 h2 => hlow _ (by omega)
  have hpt : ∀ u w, w < 23 → pt (sh_wt P t n) u w = if u = t then n w else pt P u w := fun u w hw => by
    by_cases e : u = t
    · subst e; rw [if_pos rfl]; exact wt_at _ _ _ _ hw
    · rw [if_neg e]; exact wt_out (by omega)
  refine ⟨⟨B_wt I.B _ _, fun j hj => ?_, fun m hm => ?_, fun m hm hm2 w hw => ?_, fun u h1 h2 w hw => ?_⟩, ⟨fun i j hi hj e => ?_, fun m hm hg => ?_, fun j hj => ?_⟩, fun u h1 => ?_, fun u v h1 h2 h3 h4 => ?_, fun u h1 h2 j hj => ?_⟩
  · rw [hlow j (by omega)]; exact I.s j hj
  · rw [eM] at hm
    rw [hpm m 0 (by omega) (by omega)]; exact I.st m hm
  · rw [eM] at hm
    rw [hpm m w hm2 hw]; exact I.mz m hm hm2 w hw
  · rw [eT] at h1
    rw [hpt u w hw, if_neg (by omega)]; exact I.tz u h1 h2 w hw
  · rw [eY] at hi hj
    rw [hlow _ (by omega), hlow _ (by omega)] at e
    exact I.tn.1 i j hi hj e
  · rw [eM] at hm
    rw [hpm m 0 (by omega) (by omega)] at hg
    obtain ⟨j, h1, h2⟩ := I.tn.2.1 m hm hg
    exact ⟨j, by rw [eY]; exact h1, by rw [hlow _ (by omega)]; exact h2⟩
  · rw [eY] at hj
    obtain ⟨m, h1, h2, h3⟩ := I.tn.2.2 j hj
    exact ⟨m, by rw [eM]; exact h1, by rw [hlow _ (by omega)]; exact h2, by rw [hpm m 0 (by omega) (by omega)]; exact h3⟩
  · rw [eT] at h1
    rw [eM, eD]
    by_cases e : u = t
    · subst e
      exact row_eq (fun w hw => wt_at _ _ _ _ hw) hr
    · exact row_eq (fun w hw => wt_out (by omega)) (I.tl u h1)
  · rw [eT] at h1 h2
    rw [hpt u 8 (by omega), hpt v 8 (by omega)] at h4
    rw [hpt u 8 (by omega)]
    by_cases e : u = t
    · rw [if_pos e] at h4 ⊢
      rw [if_neg (by omega)] at h4
      rcases hh with z | z | z
      · exact z
      · rw [z] at h4 ⊢
        exact I.hk t v ht h2 (by omega) h4
      · exact absurd h4.symm (z v h2)
    · rw [if_neg e] at h4 ⊢
      by_cases e2 : v = t
      · rw [if_pos e2] at h4
        rcases hh with z | z | z
        · rw [h4]; exact z
        · rw [z] at h4
          exact I.hk u t h1 ht e h4
        · exact absurd h4 (z u h1)
      · rw [if_neg e2] at h4
        exact I.hk u v h1 h2 h3 h4
  · rw [eT] at h1
    rw [hpt u 3 (by omega)] at h2
    by_cases e : u = t
    · rw [if_pos e] at h2
      obtain ⟨m, a1, a2, a3, a4⟩ := hls h2 j hj
      refine ⟨m, by rw [eM]; exact a1, ?_, by rw [hpm m 0 (by omega) (by omega)]; exact a3, ?_⟩
      · rw [hpt u (12 + j) (by omega), if_pos e]; exact a2
      · rw [hpt u 4 (by omega), if_pos e]; exact a4
    · rw [if_neg e] at h2
      obtain ⟨m, a1, a2, a3, a4⟩ := I.ls u h1 h2 j hj
      refine ⟨m, by rw [eM]; exact a1, ?_, by rw [hpm m 0 (by omega) (by omega)]; exact a3, ?_⟩
      · rw [hpt u (12 + j) (by omega), if_neg e]; exact a2
      · rw [hpt u 4 (by omega), if_neg e]; exact a4
theorem IS_turns (I : sh_IS P) (h : ∀ j, j ≠ 11 → (j < 12 ∨ 22 ≤ j) → P' j = P j) (hB : sh_B P') (htn : i_tn P') : sh_IS P' := by
  have hl := I.B.ml
  have htl := I.B.tl
  have eM := nM_e (h 8 (by omega) (by omega))
  have eT := nT_e (h 9 (by omega) (by omega))
  have eD := nD_e (h 7 (by omega) (by omega))
  have hpm : ∀ m w, pm P' m w = pm P m w := fun m w => h _ (by omega) (by omega)
  have hpt : ∀ t w, pt P' t w = pt P t w := fun t w => h _ (by omega) (by omega)
  have htr : ∀ t, sh_tr P' t = sh_tr P t := fun t => funext fun w => hpt t w
  refine ⟨⟨hB, fun j hj => ?_, fun m hm => ?_, fun m hm hm2 w hw => ?_, fun t h1 h2 w hw => ?_⟩, htn, fun t h1 => ?_, fun t u h1 h2 h3 h4 => ?_, fun t h1 h2 j hj => ?_⟩
  · rw [h j (by omega) (by omega)]; exact I.s j hj
  · rw [eM] at hm
    rw [hpm]; exact I.st m hm
  · rw [eM] at hm
    rw [hpm]; exact I.mz m hm hm2 w hw
  · rw [eT] at h1
    rw [hpt]; exact I.tz t h1 h2 w hw
  · rw [eT] at h1
    rw [eM, eD, htr]; exact I.tl t h1
  · rw [eT] at h1 h2
    rw [hpt, hpt] at h4
    rw [hpt]; exact I.hk t u h1 h2 h3 h4
  · rw [eT] at h1
    rw [hpt] at h2
    obtain ⟨m, a1, a2, a3, a4⟩ := I.ls t h1 h2 j hj
    exact ⟨m, by rw [eM]; exact a1, by rw [hpt]; exact a2, by rw [hpm]; exact a3, by rw [hpt]; exact a4⟩
theorem IS_share (I : sh_IS P) {a kd : Nat} {but : Int32} (hkd : kd ≤ 3) : sh_IS (sh_share P a but kd) := by
  have hl := I.B.ml
  have hsn : ∀ e l z j, (∀ m, nM P ≤ m → m < 10 → ∀ w, w < 12 → pm (sh_snn P but kd e l z j).1 m w = 0) := by
    intro e l z j
    induction j with
    | zero => exact I.mz
    | succ j ih =>
      intro m hm hm2 w hw
      have hlt : (z + j) % 10 < 10 := Nat.mod_lt _ (by omega)
      show pm (sh_s1 P but kd e z (sh_snn P but kd e l z j) j).1 m w = 0
      unfold sh_s1
      split
      · rename_i c
        have c := of_decide_eq_true c
        show sh_wr _ _ _ _ = 0
        rw [wr_out (by omega)]
        split
        · rw [upd_ne (by omega)]; exact ih m hm hm2 w hw
        · exact ih m hm hm2 w hw
      · exact ih m hm hm2 w hw
  refine IS_mem I (fun j hj h10 => share_out h10 (.inl hj)) (sn_10 ⟨_, I.B.zl, I.B.z⟩ 10) (fun m hm => ?_) (fun j hj => share_out (by omega) (.inr (.inl hj))) (hsn _ _ _ 10)
  have e : pm (sh_share P a but kd) m 0 = pm P m 0 := share_out (j := 22 + 12 * m) (by omega) (.inr (.inr ⟨m, by omega, rfl⟩))
  rw [e]
  exact ⟨Iff.rfl, I.st m hm⟩
theorem IS_due (I : sh_IS P) : sh_IS (sh_due P (nM P)) := by
  have hl := I.B.ml
  have hst : ∀ m, m ≤ 10 → ∀ q, q < 10 → pm (sh_due P m) q 0 = pm P q 0 := by
    intro m
    induction m with
    | zero => intro _ q _; rfl
    | succ m ih =>
      intro hm q hq
      show sh_due P (m + 1) (22 + 12 * q + 0) = _
      unfold sh_due
      split
      · exact ih (by omega) q hq
      · by_cases e : q = m
        · subst e
          rw [wr_at _ _ _ _ (by omega), chg_ne (by omega) (by omega) (by omega)]
          rfl
        · rw [wr_out (by omega)]; exact ih (by omega) q hq
  refine IS_mem I (fun j hj _ => due_low (.inl hj) _ hl) ⟨nZ P, I.B.zl, by rw [due_low (.inl (by omega)) _ hl]; exact I.B.z⟩ (fun m hm => ?_) (fun j hj => due_low (.inr hj) _ hl) (fun m hm hm2 w hw => ?_)
  · rw [hst _ hl m (by omega)]
    exact ⟨Iff.rfl, I.st m hm⟩
  · have : pm (sh_due P (nM P)) m w = pm P m w := due_up (nM P) (by omega)
    rw [this]; exact I.mz m hm hm2 w hw
/-- turns: one is taken out, put behind, two swapped -/
theorem tn_ot (I : sh_IS P) {j m : Nat} (hj : j < nY P) (e : P (12 + j) = nI m) (hm : m < nM P) {q : Nat} (hq : q < nY P - 1) : ∃ i, i < nY P ∧ i ≠ j ∧ sh_ot P j (12 + q) = P (12 + i) ∧ i = (if q < j then q else q + 1) := by
  unfold sh_ot
  rw [if_neg (by omega)]
  by_cases h : q < j
  · rw [if_neg (by omega), if_pos h]; exact ⟨q, by omega, by omega, rfl, rfl⟩
  · rw [if_pos (by omega), if_neg h]; exact ⟨q + 1, by omega, by omega, rfl, rfl⟩
theorem tn_end (I : sh_IS P) {j m : Nat} (hj : j < nY P) (e : P (12 + j) = nI m) (hm : m < nM P) : sh_IS (sh_end P (nI m)) := by
  have hl := I.B.ml
  have hY := I.B.yl
  have hg : pm P m 0 ≠ 2 := by
    obtain ⟨m', h1, h2, h3⟩ := I.tn.2.2 j hj
    have := (nI_eq (by omega) (by omega)).mp (e.symm.trans h2)
    subst this; exact h3
  have et : sh_tn P (nI m) (-1) = nI j := tn_at I.tn hj e (-1)
  have hend : sh_end P (nI m) = upd (upd (sh_ot P j) (12 + (nY P - 1)) (nI m)) 11 (nI (nY P)) := by
    unfold sh_end
    rw [et, nI_clamp (by omega)]
  rw [hend]
  have hout : ∀ i, i ≠ 11 → (i < 12 ∨ 22 ≤ i) → upd (upd (sh_ot P j) (12 + (nY P - 1)) (nI m)) 11 (nI (nY P)) i = P i := fun i h1 h2 => by
    rw [upd_ne h1, upd_ne (by omega), ot_out h1 h2 hY]
  have eY : nY (upd (upd (sh_ot P j) (12 + (nY P - 1)) (nI m)) 11 (nI (nY P))) = nY P := by
    unfold nY; rw [upd_eq]; exact nI_clamp (by have : nY P = (P 11).toNatClampNeg := rfl; omega)
  have hv : ∀ q, q < nY P → ∃ i, i < nY P ∧ upd (upd (sh_ot P j) (12 + (nY P - 1)) (nI m)) 11 (nI (nY P)) (12 + q) = P (12 + i) ∧ i = (if q = nY P - 1 then j else if q < j then q else q + 1) := fun q hq => by
    rw [upd_ne (by omega)]
    by_cases h : q = nY P - 1
    · subst h
      exact ⟨j, hj, by rw [upd_eq]; exact e.symm, by rw [if_pos rfl]⟩
    · rw [upd_ne (by omega), if_neg h]
      obtain ⟨i, h1, _, h2, h3⟩ := tn_ot I hj e hm (q := q) (by omega)
      exact ⟨i, h1, h2, h3⟩
  refine IS_turns I hout ?_ ⟨fun q r hq hr h => ?_, fun q hq hgq => ?_, fun q hq => ?_⟩
  · refine ⟨⟨?_, ?_⟩, ⟨?_, ?_⟩, ⟨?_, ?_⟩, ⟨?_, ?_⟩, ⟨?_, ?_⟩, fun q hq => ?_⟩
    · rw [hout 8 (by omega) (by omega), nM_e (hout 8 (by omega) (by omega))]; exact I.B.m
    · rw [nM_e (hout 8 (by omega) (by omega))]; exact hl
    · rw [hout 9 (by omega) (by omega), nT_e (hout 9 (by omega) (by omega))]; exact I.B.t
    · rw [nT_e (hout 9 (by omega) (by omega))]; exact I.B.tl
    · rw [eY, upd_eq]
    · rw [eY]; exact hY
    · have : nZ (upd (upd (sh_ot P j) (12 + (nY P - 1)) (nI m)) 11 (nI (nY P))) = nZ P := by unfold nZ; rw [hout 10 (by omega) (by omega)]
      rw [this, hout 10 (by omega) (by omega)]; exact I.B.z
    · have : nZ (upd (upd (sh_ot P j) (12 + (nY P - 1)) (nI m)) 11 (nI (nY P))) = nZ P := by unfold nZ; rw [hout 10 (by omega) (by omega)]
      rw [this]; exact I.B.zl
    · rw [hout 7 (by omega) (by omega), nD_e (hout 7 (by omega) (by omega))]; exact I.B.d
    · rw [nD_e (hout 7 (by omega) (by omega))]; exact I.B.dl
    · rw [eY] at hq
      obtain ⟨i, h1, h2, _⟩ := hv q hq
      rw [h2, nM_e (hout 8 (by omega) (by omega))]
      exact I.B.tn i h1
  · rw [eY] at hq hr
    obtain ⟨i1, a1, a2, a3⟩ := hv q hq
    obtain ⟨i2, b1, b2, b3⟩ := hv r hr
    rw [a2, b2] at h
    have := I.tn.1 i1 i2 a1 b1 h
    by_cases c1 : q = nY P - 1 <;> by_cases c2 : r = nY P - 1 <;> by_cases c3 : q < j <;> by_cases c4 : r < j <;> simp only [c1, c2, c3, c4, if_true, if_false] at a3 b3 <;> omega
  · rw [nM_e (hout 8 (by omega) (by omega))] at hq
    have hgq : pm P q 0 ≠ 2 := by
      have : pm (upd (upd (sh_ot P j) (12 + (nY P - 1)) (nI m)) 11 (nI (nY P))) q 0 = pm P q 0 := hout _ (by omega) (by omega)
      rw [this] at hgq; exact hgq
    obtain ⟨i, h1, h2⟩ := I.tn.2.1 q hq hgq
    rw [eY]
    by_cases c : i = j
    · refine ⟨nY P - 1, by omega, ?_⟩
      obtain ⟨i', _, h3, h4⟩ := hv (nY P - 1) (by omega)
      rw [if_pos rfl] at h4
      rw [h3, h4, ← c]; exact h2
    · by_cases c2 : i < j
      · refine ⟨i, h1, ?_⟩
        obtain ⟨i', _, h3, h4⟩ := hv i h1
        rw [if_neg (by omega), if_pos c2] at h4
        rw [h3, h4]; exact h2
      · refine ⟨i - 1, by omega, ?_⟩
        obtain ⟨i', _, h3, h4⟩ := hv (i - 1) (by omega)
        rw [if_neg (by omega), if_neg (by omega)] at h4
        rw [h3, h4, show i - 1 + 1 = i by omega]; exact h2
  · rw [eY] at hq
    obtain ⟨i, h1, h2, _⟩ := hv q hq
    obtain ⟨m', a1, a2, a3⟩ := I.tn.2.2 i h1
    refine ⟨m', by rw [nM_e (hout 8 (by omega) (by omega))]; exact a1, by rw [h2]; exact a2, ?_⟩
    have : pm (upd (upd (sh_ot P j) (12 + (nY P - 1)) (nI m)) 11 (nI (nY P))) m' 0 = pm P m' 0 := hout _ (by omega) (by omega)
    rw [this]; exact a3
end INV2
