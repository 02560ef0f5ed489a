/-! orders of the model -/
def sh_ny (S : sh_S) (p : Nat) : sh_S := sh_sr S (9, 0, 0) (upd (S (9, 0, 0)) 8 (nI p))
theorem ny_ny {S : sh_S} {p q : Nat} : sh_ny (sh_ny S p) q = sh_ny S q := by
  unfold sh_ny; rw [sr_sr, sh_sr_s, upd_upd]
theorem ny_8 {S : sh_S} {p : Nat} : sh_ny S p (9, 0, 0) 8 = nI p := by unfold sh_ny; rw [sh_sr_s, upd_eq]
theorem ny_f {S : sh_S} {p j : Nat} (h : j ≠ 8) : sh_ny S p (9, 0, 0) j = S (9, 0, 0) j := by unfold sh_ny; rw [sh_sr_s, upd_ne h]
theorem ny_o {S : sh_S} {p : Nat} {o : sh_O} (h : o ≠ (9, 0, 0)) : sh_ny S p o = S o := sr_o h
theorem ny_tx {c : Nat → Nat} {n : Nat} {S : sh_S} {p : Nat} (h : tx_m c n S) : tx_m c n (sh_ny S p) := ⟨(ny_f (by omega)).trans h.1, fun j hj => by rw [ny_o (by decide)]; exact h.2 j hj⟩
theorem res_neg {v : Int32} {P P' : Nat → Int32} {nm : Bool} (h : v < 0) : o_res (v, P') P nm = (if nm then 3 else 2, P) := if_pos h
theorem res_pos {v : Int32} {P P' : Nat → Int32} {nm : Bool} (h : ¬ v < 0) : o_res (v, P') P nm = (0, P') := if_neg h
theorem ng_res {P : Nat → Int32} {b : Nat} (I : sh_IP P b) (hb : b ≤ sh_LIM) (m q : Int32) : o_res (o_give P m q) P (mB P m) = (sh_ng P m q, if sh_ng P m q = 0 then sh_wr P m.toNatClampNeg (sh_gain (sh_row P m.toNatClampNeg) 1 q) else P) := by
  have hl := I.ml
  by_cases c : mB P m = true
  · obtain ⟨i, hi, rfl⟩ := I.B.mB_t c
    by_cases c2 : inb q 1 400 = true
    · by_cases c3 : pm P i 0 = 2
      · have e1 : o_give P (nI i) q = (-1000002, P) := by unfold o_give; rw [if_pos ⟨c, c2⟩, nI_clamp (by omega), if_pos c3]
        have e2 : sh_ng P (nI i) q = 3 := by unfold sh_ng; rw [if_pos c, nI_clamp (by omega), if_neg (fun z => z.2 c3)]
        rw [e1, e2, res_neg (by decide), c]; rfl
      · have e1 : o_give P (nI i) q = (sh_gain (sh_row P i) 1 q 3, sh_wr P i (sh_gain (sh_row P i) 1 q)) := by unfold o_give; rw [if_pos ⟨c, c2⟩, nI_clamp (by omega), if_neg c3]
        have e2 : sh_ng P (nI i) q = 0 := by unfold sh_ng; rw [if_pos c, nI_clamp (by omega), if_pos ⟨c2, c3⟩]
        rw [e1, e2, res_pos (give_hp I hb i hi rfl c2), nI_clamp (by omega), if_pos rfl]
    · have e1 : o_give P (nI i) q = (-1000001, P) := by unfold o_give; rw [if_neg (fun z => c2 z.2)]
      have e2 : sh_ng P (nI i) q = 3 := by unfold sh_ng; rw [if_pos c, if_neg (fun z => c2 z.1)]
      rw [e1, e2, res_neg (by decide), c]; rfl
  · have e1 : o_give P m q = (-1000001, P) := by unfold o_give; rw [if_neg (fun z => c z.1)]
    have e2 : sh_ng P m q = 2 := by unfold sh_ng; rw [if_neg c]
    rw [e1, e2, res_neg (by decide), Bool.eq_false_iff.mpr c]; rfl
theorem nl_res {P : Nat → Int32} {b : Nat} (I : sh_IP P b) (t m : Int32) : o_res (o_borrow P t m) P (tB P t && mB P m) = (sh_nl P t m, if sh_nl P t m = 0 then f_out P t.toNatClampNeg 1 m (P 7 + P 1) else P) := by
  have hd := I.B.dl
  by_cases c : tB P t = true ∧ mB P m = true
  · by_cases c2 : pt P t.toNatClampNeg 3 = 0 ∧ pm P m.toNatClampNeg 0 = 0 ∧ ¬ 0 < sh_opn P m.toNatClampNeg ∧ sh_cnt (sh_on P m true) (nT P) ≤ 2
    · have e1 : o_borrow P t m = (P 7 + P 1, f_out P t.toNatClampNeg 1 m (P 7 + P 1)) := by unfold o_borrow; rw [if_pos c, if_pos c2]
      have e2 : sh_nl P t m = 0 := by unfold sh_nl; rw [if_pos c, if_pos c2]
      obtain ⟨n, hn, en⟩ := I.s 1 (by omega)
      have hn : n ≤ 60 := hn
      rw [e1, e2, res_pos (by rw [day_num I (by omega) hn en]; exact nI_pos (by omega)), if_pos rfl]
    · have e1 : o_borrow P t m = (-1000002, P) := by unfold o_borrow; rw [if_pos c, if_neg c2]
      have e2 : sh_nl P t m = 3 := by unfold sh_nl; rw [if_pos c, if_neg c2]
      rw [e1, e2, res_neg (by decide), c.1, c.2]; rfl
  · have e1 : o_borrow P t m = (-1000001, P) := by unfold o_borrow; rw [if_neg c]
    have e2 : sh_nl P t m = 2 := by unfold sh_nl; rw [if_neg c]
    have : (tB P t && mB P m) = false := Bool.eq_false_iff.mpr fun z => c (Bool.and_eq_true_iff.mp z)
    rw [e1, e2, res_neg (by decide), this]; rfl
theorem nr_res {P : Nat → Int32} {b : Nat} (I : sh_IP P b) (t : Int32) : o_res (o_back P t) P (tB P t) = (sh_nr P t, if sh_nr P t = 0 then f_back P t.toNatClampNeg else P) := by
  have htl := I.tl20
  by_cases c : tB P t = true
  · obtain ⟨i, hi, rfl⟩ := I.B.tB_t c
    by_cases c2 : pt P i 3 = 1
    · have e1 : o_back P (nI i) = (sh_late P i, f_back P i) := by unfold o_back; rw [if_pos c, nI_clamp (by omega), if_pos c2]
      have e2 : sh_nr P (nI i) = 0 := by unfold sh_nr; rw [if_pos c, nI_clamp (by omega), if_pos c2]
      obtain ⟨n, hn, en⟩ := late_nat I hi
      rw [e1, e2, res_pos (by rw [en]; exact nI_pos (by omega)), nI_clamp (by omega), if_pos rfl]
    · have e1 : o_back P (nI i) = (-1000002, P) := by unfold o_back; rw [if_pos c, nI_clamp (by omega), if_neg c2]
      have e2 : sh_nr P (nI i) = 3 := by unfold sh_nr; rw [if_pos c, nI_clamp (by omega), if_neg c2]
      rw [e1, e2, res_neg (by decide), c]; rfl
  · have e1 : o_back P t = (-1000001, P) := by unfold o_back; rw [if_neg c]
    have e2 : sh_nr P t = 2 := by unfold sh_nr; rw [if_neg c]
    rw [e1, e2, res_neg (by decide), Bool.eq_false_iff.mpr c]; rfl
section MORDER
variable {g : sh_G} {S : sh_S} {P : Nat → Int32} {sz b n : Nat} {c : Nat → Nat} {Q : Int32 → sh_S → Prop} {U : sh_S → Prop}
theorem c_here (K : tx_k c n) (T : tx_m c n S) {p : Nat} (hp : p ≤ 100) (e : S (9, 0, 0) 8 = nI p) (h : Q (if p < n then nI (c p) else -1) S) : sh_Ci g mX9_here [sh_R (9, 0, 0)] S sz Q := by
  obtain ⟨hn, hc⟩ := K
  refine wp_X9_here ?_
  rw [e, T.1]
  refine wc (fun z => ?_) (fun z => ?_)
  · have z := (nI_leI (by omega) (by omega)).mp z
    rwa [if_neg (by omega)] at h
  · have z : p < n := Nat.lt_of_not_le fun y => z (nI_le y (by omega))
    rw [if_pos z] at h
    rw [nI_clamp (by omega), T.2 p z]
    exact ⟨vp_in_nI (by omega) (by omega), h⟩
theorem here_dg (K : tx_k c n) (p : Nat) : inb (if p < n then nI (c p) else -1) 48 57 = t_dg c n p := by
  unfold inb t_dg
  rw [decide_eq_decide]
  by_cases h : p < n
  · obtain ⟨h1, h2⟩ := K.2 p h
    rw [if_pos h]
    exact ⟨fun z => ⟨h, (nI_leI (a := 48) (by omega) (by omega)).mp z.1, (nI_leI (b := 57) (by omega) (by omega)).mp z.2⟩, fun z => ⟨nI_le (a := 48) z.2.1 (by omega), nI_le (b := 57) z.2.2 (by omega)⟩⟩
  · rw [if_neg h]
    exact ⟨fun z => absurd z.1 (by decide), fun z => absurd z.1 h⟩
theorem c_number (K : tx_k c n) (T : tx_m c n S) {p : Nat} (hp : p ≤ 90) (h : Q (if t_nd c n p = 0 then -1 else nI (t_v c p (t_nd c n p))) (sh_ny S (p + t_nd c n p))) : sh_Ci g mX9_number [sh_R (9, 0, 0)] (sh_ny S p) sz Q := by
  have hn := K.1
  have hend : ∀ j, j ≤ 3 → (∀ q, q < j → t_dg c n (p + q) = true) → (j = 3 ∨ t_dg c n (p + j) = false) → ((¬ sh_ny S (p + j) (9, 0, 0) 8 = nI p → Q (nI (t_v c p j)) (sh_ny S (p + j))) ∧ (sh_ny S (p + j) (9, 0, 0) 8 = nI p → Q (-1) (sh_ny S (p + j)))) := fun j h1 h2 h3 => by
    have e := nd_of h1 h2 h3
    rw [e] at h
    rw [ny_8]
    refine ⟨fun z => ?_, fun z => ?_⟩
    · rwa [if_neg (fun y => z (by rw [y]; rfl))] at h
    · have := (nI_eq (by omega) (by omega)).mp z
      rwa [if_pos (by omega)] at h
  refine wp_X9_number ?_
  rw [ny_8]
  rintro _ rfl
  refine ⟨fun v S' => ∃ j, j ≤ 3 ∧ v = nI (t_v c p j) ∧ S' = sh_ny S (p + j) ∧ ∀ q, q < j → t_dg c n (p + q) = true, fun _ S' => p + 4 - (S' (9, 0, 0) 8).toNatClampNeg, ⟨0, by omega, rfl, rfl, fun q hq => by omega⟩, ?_⟩
  rintro _ _ ⟨j, hj, rfl, rfl, hd⟩
  refine c_here K (ny_tx T) (p := p + j) (by omega) ny_8 (c_inb ?_)
  rw [here_dg K]
  refine wb (fun z => hend j hj hd (.inr z)) (fun z => ⟨fun z2 => ?_, fun z2 => ?_⟩)
  · rw [ny_8, show nI p + 3 = nI (p + 3) from nI_add p 3] at z2
    have z2 := (nI_leI (a := p + 3) (by omega) (by omega)).mp z2
    exact hend j hj hd (.inl (by omega))
  · have z2 : j < 3 := Nat.lt_of_not_le fun y => z2 (by rw [ny_8, show nI p + 3 = nI (p + 3) from nI_add p 3]; exact nI_le (a := p + 3) (by omega) (by omega))
    obtain ⟨d1, d2, d3⟩ := of_decide_eq_true z
    refine c_here K (ny_tx T) (p := p + j) (by omega) ny_8 ?_
    rw [if_pos d1, ny_8]
    rintro _ rfl _ rfl
    have e1 : sh_sr (sh_ny S (p + j)) (9, 0, 0) (upd (sh_ny S (p + j) (9, 0, 0)) 8 (nI (p + j) + 1)) = sh_ny S (p + (j + 1)) := by
      rw [nI_1]
      show sh_ny (sh_ny S (p + j)) (p + j + 1) = _
      rw [ny_ny]; rfl
    rw [e1]
    refine ⟨⟨j + 1, by omega, ?_, rfl, fun q hq => ?_⟩, ?_⟩
    · rw [show (10 : Int32) * nI (t_v c p j) = nI (10 * t_v c p j) from pk_mul 10 _, nI_add, show nI (10 * t_v c p j + c (p + j)) - 48 = nI (10 * t_v c p j + c (p + j) - 48) from pk_sub (b := 48) (by omega)]
      show _ = nI (10 * t_v c p j + (c (p + j) - 48))
      congr 1; omega
    · by_cases e : q = j
      · rw [e]; exact z
      · exact hd q (by omega)
    · dsimp only
      rw [ny_8, ny_8, nI_clamp (by omega), nI_clamp (by omega)]; omega
theorem c_passes (K : tx_k c n) (T : tx_m c n S) {p s : Nat} (hp : p ≤ 90) (hs : 1 ≤ s ∧ s ≤ 126) {a : Int32} (ha : a = nI s) (h1 : t_is c n p s = true → Q 1 (sh_ny S (p + 1))) (h0 : t_is c n p s = false → Q 0 (sh_ny S p)) : sh_Ci g mX9_passes [sh_R (9, 0, 0), sh_I a] (sh_ny S p) sz Q := by
  subst ha
  refine wp_X9_passes (c_here K (ny_tx T) (by omega) ny_8 ?_)
  rw [ny_8]
  have e0 : sh_sr (sh_ny S p) (9, 0, 0) (upd (sh_ny S p (9, 0, 0)) 8 (nI p + 0)) = sh_ny S p := by
    rw [Int32.add_zero]
    show sh_ny (sh_ny S p) p = _
    rw [ny_ny]
  have e1 : sh_sr (sh_ny S p) (9, 0, 0) (upd (sh_ny S p (9, 0, 0)) 8 (nI p + 1)) = sh_ny S (p + 1) := by
    rw [nI_1]
    show sh_ny (sh_ny S p) (p + 1) = _
    rw [ny_ny]
  rw [e0, e1]
  by_cases hpn : p < n
  · obtain ⟨hc1, hc2⟩ := K.2 _ hpn
    rw [if_pos hpn]
    refine ⟨fun z => ?_, fun z => ?_⟩
    · rintro _ rfl
      exact h0 (decide_eq_false fun y => z (by rw [y.2]))
    · rintro _ rfl
      exact h1 (decide_eq_true ⟨hpn, (nI_eq (by omega) (by omega)).mp z⟩)
  · rw [if_neg hpn]
    refine ⟨fun z => ?_, fun z => ?_⟩
    · rintro _ rfl
      exact h0 (decide_eq_false fun y => hpn y.1)
    · exact absurd z.symm (nI_neg1 (by omega))
/-- the model's row (9, 0, 0) behind a reading -/
def sh_fr (r r' : Nat → Int32) : Prop := ∀ i, i < 8 → r' i = r i
theorem c_readOrder (K : tx_k c n) (T : tx_m c n S) {p : Nat} (hp : p < n) (e : S (9, 0, 0) 8 = nI p)
    (h0 : t_prs c n p = none → ∀ r, (∀ i, i < 8 ∨ 12 ≤ i → r i = S (9, 0, 0) i) → Q 0 (sh_sr S (9, 0, 0) r))
    (h1 : ∀ l f s q, t_prs c n p = some (l, f, s, q) → ∀ r, (∀ i, i < 8 ∨ 12 ≤ i → r i = S (9, 0, 0) i) → r 8 = nI q → r 11 = nI l → (l ≠ 115 → r 9 = nI f) → (l = 103 ∨ l = 108 → r 10 = nI s) → Q 1 (sh_sr S (9, 0, 0) r)) :
    sh_Ci g mX9_readOrder [sh_R (9, 0, 0)] S sz Q := by
  have hn := K.1
  obtain ⟨hc1, hc2⟩ := K.2 p hp
  have hnv : ∀ a j : Nat, (∀ q, q < j → t_dg c n (a + q) = true) → j ≤ 3 → 0 ≤ nI (t_v c a j) := fun a j h1 h2 => by
    have := tv_lt j h1
    have : 10 ^ j ≤ 10 ^ 3 := Nat.pow_le_pow_right (by omega) h2
    exact nI_pos' (by omega)
  have hdg : ∀ a q, q < t_nd c n a → t_dg c n (a + q) = true := fun a q hq => by
    unfold t_nd at hq
    by_cases d0 : t_dg c n a = true
    · rw [if_pos d0] at hq
      by_cases d1 : t_dg c n (a + 1) = true
      · rw [if_pos d1] at hq
        by_cases d2 : t_dg c n (a + 2) = true
        · rw [if_pos d2] at hq
          have : q = 0 ∨ q = 1 ∨ q = 2 := by omega
          rcases this with rfl | rfl | rfl
          · exact d0
          · exact d1
          · exact d2
        · rw [if_neg d2] at hq
          have : q = 0 ∨ q = 1 := by omega
          rcases this with rfl | rfl
          · exact d0
          · exact d1
      · rw [if_neg d1] at hq
        obtain rfl : q = 0 := by omega
        exact d0
    · rw [if_neg d0] at hq; omega
  have h3 := fun a => nd_3 (c := c) (n := n) (p := a)
  have hle : ∀ a, a ≤ n → a + t_nd c n a ≤ n := fun a ha => nd_le ha
  have hb1 : ∀ x : Bool, narrow .boolean (.int (bI x)) = .int (bI x) := bI_n
  refine wp_X9_readOrder (c_here K T (p := p) (by omega) e ?_)
  rw [if_pos hp]
  rintro _ rfl _ rfl _ rfl _ rfl
  simp only [sr_sr, sh_sr_s]
  -- the row behind the letter
  generalize hr0 : upd (upd (upd (upd (S (9, 0, 0)) 11 (nI (c p))) 8 (upd (S (9, 0, 0)) 11 (nI (c p)) 8 + 1)) 9 (-1)) 10 (-1) = r0
  have r8 : r0 8 = nI (p + 1) := by
    rw [← hr0, upd_ne (by omega), upd_ne (by omega), upd_eq, upd_ne (by omega), e, nI_1]
  have r11 : r0 11 = nI (c p) := by
    rw [← hr0, upd_ne (by omega), upd_ne (by omega), upd_ne (by omega), upd_eq]
  have rf : ∀ i, i < 8 ∨ 12 ≤ i → r0 i = S (9, 0, 0) i := fun i hi => by
    rw [← hr0, upd_ne (by omega), upd_ne (by omega), upd_ne (by omega), upd_ne (by omega)]
  clear hr0
  have hny : ∀ (r : Nat → Int32) (q : Nat), sh_ny (sh_sr S (9, 0, 0) r) q = sh_sr S (9, 0, 0) (upd r 8 (nI q)) := fun r q => by
    unfold sh_ny; rw [sr_sr, sh_sr_s]
  have hself : sh_sr S (9, 0, 0) r0 = sh_ny (sh_sr S (9, 0, 0) r0) (p + 1) := by rw [hny, ← r8, upd_self]
  have hT : ∀ r : Nat → Int32, (∀ i, i < 8 ∨ 12 ≤ i → r i = S (9, 0, 0) i) → tx_m c n (sh_sr S (9, 0, 0) r) := fun r hr => ⟨by rw [sh_sr_s, hr 6 (by omega)]; exact T.1, fun j hj => by rw [sr_o (by decide)]; exact T.2 j hj⟩
  have hg : ∀ (r : Nat → Int32) (j : Nat) (v : Int32), (∀ i, i < 8 ∨ 12 ≤ i → r i = S (9, 0, 0) i) → 8 ≤ j → j < 12 → ∀ i, i < 8 ∨ 12 ≤ i → upd r j v i = S (9, 0, 0) i := fun r j v hr h1 h2 i hi => by rw [upd_ne (by omega)]; exact hr i hi
  have e103 : nI (c p) = 103 ↔ c p = 103 := nI_eq (b := 103) (by omega) (by omega)
  have e108 : nI (c p) = 108 ↔ c p = 108 := nI_eq (b := 108) (by omega) (by omega)
  have e98 : nI (c p) = 98 ↔ c p = 98 := nI_eq (b := 98) (by omega) (by omega)
  have e115 : nI (c p) = 115 ↔ c p = 115 := nI_eq (b := 115) (by omega) (by omega)
  have num : (c p = 103 ∨ c p = 108 ∨ c p = 98) → (sh_Ci g mX9_number [sh_R (9, 0, 0)] (sh_sr S (9, 0, 0) r0) sz (fun r10 S9 => (∀ S11 : sh_S, S11 = sh_sr S9 (9, 0, 0) (upd (S9 (9, 0, 0)) 9 r10) → ((0 ≤ (S11 (9, 0, 0) 9) → (((S11 (9, 0, 0) 11) = 98 → (sh_Ci g mX9_passes [sh_R (9, 0, 0), sh_I 59] S11 sz (fun r15 S14 => (narrow .boolean (.int r15) = .int r15 ∧ Q r15 S14)))) ∧ (¬ (S11 (9, 0, 0) 11) = 98 → (sh_Ci g mX9_passes [sh_R (9, 0, 0), sh_I 44] S11 sz (fun r17 S16 => ((¬ r17 = 0 → (sh_Ci g mX9_number [sh_R (9, 0, 0)] S16 sz (fun r20 S19 => (∀ S21 : sh_S, S21 = sh_sr S19 (9, 0, 0) (upd (S19 (9, 0, 0)) 10 r20) → ((0 ≤ (S21 (9, 0, 0) 10) → (sh_Ci g mX9_passes [sh_R (9, 0, 0), sh_I 59] S21 sz (fun r24 S23 => (narrow .boolean (.int r24) = .int r24 ∧ Q r24 S23)))) ∧ (¬ 0 ≤ (S21 (9, 0, 0) 10) → Q 0 S21)))))) ∧ (r17 = 0 → Q 0 S16))))))) ∧ (¬ 0 ≤ (S11 (9, 0, 0) 9) → Q 0 S11))))) := fun hl => by
    have n115 : ¬ c p = 115 := by omega
    have hle1 := hle (p + 1) (by omega)
    rw [hself]
    refine c_number K (hT r0 rf) (p := p + 1) (by omega) ?_
    rintro _ rfl
    rw [hny, sr_sr, sh_sr_s, sh_sr_s, upd_eq, upd_ne (j := 11) (by omega), upd_ne (j := 11) (by omega), r11]
    by_cases d0 : t_nd c n (p + 1) = 0
    · rw [if_pos d0]
      have hnone : t_prs c n p = none := by
        unfold t_prs
        rw [if_neg n115]
        by_cases c98 : c p = 98
        · rw [if_pos c98, if_pos d0]
        · rw [if_neg c98, if_pos (by omega), if_pos d0]
      exact wf (by decide) (h0 hnone _ (hg _ 9 _ (hg _ 8 _ rf (by omega) (by omega)) (by omega) (by omega)))
    · rw [if_neg d0]
      refine wt (hnv _ _ (hdg _) (h3 _)) ?_
      rw [e98]
      have hS11 : sh_sr S (9, 0, 0) (upd (upd r0 8 (nI (p + 1 + t_nd c n (p + 1)))) 9 (nI (t_v c (p + 1) (t_nd c n (p + 1))))) = sh_ny (sh_sr S (9, 0, 0) (upd r0 9 (nI (t_v c (p + 1) (t_nd c n (p + 1)))))) (p + 1 + t_nd c n (p + 1)) := by
        rw [hny, upd_comm (by omega)]
      rw [hS11]
      have rf1 := hg r0 9 (nI (t_v c (p + 1) (t_nd c n (p + 1)))) rf (by omega) (by omega)
      refine ⟨fun c98 => ?_, fun c98 => ?_⟩
      · refine c_passes K (hT _ rf1) (s := 59) (by omega) (by omega) rfl (fun z => ⟨hb1 true, ?_⟩) (fun z => ⟨hb1 false, ?_⟩)
        · have hsome : t_prs c n p = some (98, t_v c (p + 1) (t_nd c n (p + 1)), 0, p + 1 + t_nd c n (p + 1) + 1) := by unfold t_prs; rw [if_neg n115, if_pos c98, if_neg d0, if_pos z]
          rw [hny]
          refine h1 _ _ _ _ hsome _ (hg _ 8 _ rf1 (by omega) (by omega)) upd_eq ?_ (fun _ => ?_) (fun y => by omega)
          · rw [upd_ne (by omega), upd_ne (by omega), r11, c98]
          · rw [upd_ne (by omega), upd_eq]
        · have hnone : t_prs c n p = none := by unfold t_prs; rw [if_neg n115, if_pos c98, if_neg d0, if_neg (by rw [z]; decide)]
          rw [hny]
          exact h0 hnone _ (hg _ 8 _ rf1 (by omega) (by omega))
      · have hl2 : c p = 103 ∨ c p = 108 := by omega
        refine c_passes K (hT _ rf1) (s := 44) (by omega) (by omega) rfl (fun z => wf' (by decide) ?_) (fun z => wt' rfl ?_)
        · have hlt1 := (of_decide_eq_true z).1
          have hle2 := hle (p + 1 + t_nd c n (p + 1) + 1) (by omega)
          refine c_number K (hT _ rf1) (p := p + 1 + t_nd c n (p + 1) + 1) (by omega) ?_
          rintro _ rfl
          rw [hny, sr_sr, sh_sr_s, sh_sr_s, upd_eq]
          by_cases d2 : t_nd c n (p + 1 + t_nd c n (p + 1) + 1) = 0
          · have hnone : t_prs c n p = none := by unfold t_prs; rw [if_neg n115, if_neg c98, if_pos hl2, if_neg d0, if_pos z, if_pos d2]
            rw [if_pos d2]
            exact wf (by decide) (h0 hnone _ (hg _ 10 _ (hg _ 8 _ rf1 (by omega) (by omega)) (by omega) (by omega)))
          · rw [if_neg d2]
            have hS21 : ∀ v : Int32, sh_sr S (9, 0, 0) (upd (upd (upd r0 9 (nI (t_v c (p + 1) (t_nd c n (p + 1))))) 8 (nI (p + 1 + t_nd c n (p + 1) + 1 + t_nd c n (p + 1 + t_nd c n (p + 1) + 1)))) 10 v) = sh_ny (sh_sr S (9, 0, 0) (upd (upd r0 9 (nI (t_v c (p + 1) (t_nd c n (p + 1))))) 10 v)) (p + 1 + t_nd c n (p + 1) + 1 + t_nd c n (p + 1 + t_nd c n (p + 1) + 1)) := fun v => by
              rw [hny, upd_comm (by omega)]
            rw [hS21]
            have rf2 := hg _ 10 (nI (t_v c (p + 1 + t_nd c n (p + 1) + 1) (t_nd c n (p + 1 + t_nd c n (p + 1) + 1)))) rf1 (by omega) (by omega)
            refine wt (hnv _ _ (hdg _) (h3 _)) (c_passes K (hT _ rf2) (s := 59) (by omega) (by omega) rfl (fun z2 => ⟨hb1 true, ?_⟩) (fun z2 => ⟨hb1 false, ?_⟩))
            · have hsome : t_prs c n p = some (c p, t_v c (p + 1) (t_nd c n (p + 1)), t_v c (p + 1 + t_nd c n (p + 1) + 1) (t_nd c n (p + 1 + t_nd c n (p + 1) + 1)), p + 1 + t_nd c n (p + 1) + 1 + t_nd c n (p + 1 + t_nd c n (p + 1) + 1) + 1) := by unfold t_prs; rw [if_neg n115, if_neg c98, if_pos hl2, if_neg d0, if_pos z, if_neg d2, if_pos z2]
              rw [hny]
              refine h1 _ _ _ _ hsome _ (hg _ 8 _ rf2 (by omega) (by omega)) upd_eq ?_ (fun _ => ?_) (fun _ => ?_)
              · rw [upd_ne (by omega), upd_ne (by omega), upd_ne (by omega), r11]
              · rw [upd_ne (by omega), upd_ne (by omega), upd_eq]
              · rw [upd_ne (by omega), upd_eq]
            · have hnone : t_prs c n p = none := by unfold t_prs; rw [if_neg n115, if_neg c98, if_pos hl2, if_neg d0, if_pos z, if_neg d2, if_neg (by rw [z2]; decide)]
              rw [hny]
              exact h0 hnone _ (hg _ 8 _ rf2 (by omega) (by omega))
        · have hnone : t_prs c n p = none := by unfold t_prs; rw [if_neg n115, if_neg c98, if_pos hl2, if_neg d0, if_neg (by rw [z]; decide)]
          rw [hny]
          exact h0 hnone _ (hg _ 8 _ rf1 (by omega) (by omega))
  rw [r11, e103, e108, e98, e115]
  refine ⟨fun c4 => ⟨fun c1 => num (.inl c1), fun c1 => ⟨fun c2 => num (.inr (.inl c2)), fun c2 => ⟨fun c3 => num (.inr (.inr c3)), fun c3 => ?_⟩⟩⟩, fun c4 => ?_⟩
  · have hnone : t_prs c n p = none := by unfold t_prs; rw [if_neg c4, if_neg c3, if_neg (fun y => y.elim c1 c2)]
    exact h0 hnone _ rf
  · rw [hself]
    refine c_passes K (hT r0 rf) (s := 59) (by omega) (by omega) rfl (fun z2 => ⟨hb1 true, ?_⟩) (fun z2 => ⟨hb1 false, ?_⟩)
    · have hsome : t_prs c n p = some (115, 0, 0, p + 2) := by unfold t_prs; rw [if_pos c4, if_pos z2]
      rw [hny]
      refine h1 _ _ _ _ hsome _ (hg _ 8 _ rf (by omega) (by omega)) upd_eq ?_ (fun y => absurd rfl y) (fun y => by omega)
      rw [upd_ne (by omega), r11, c4]
    · have hnone : t_prs c n p = none := by unfold t_prs; rw [if_pos c4, if_neg (by rw [z2]; decide)]
      rw [hny]
      exact h0 hnone _ (hg _ 8 _ rf (by omega) (by omega))
theorem c_does (hb : b ≤ sh_LIM) (I : sh_IP P b) {l f s : Nat} (hl : l = 103 ∨ l = 108 ∨ l = 98 ∨ l = 115) (e11 : S (9, 0, 0) 11 = nI l) (e9 : l ≠ 115 → S (9, 0, 0) 9 = nI f) (e10 : l = 103 ∨ l = 108 → S (9, 0, 0) 10 = nI s)
    (h : ((o_stp P l f s).1 ≠ 0 → Q (o_stp P l f s).1 (sh_mp S P)) ∧ ((o_stp P l f s).1 = 0 → Q 0 (sh_mp S (o_stp P l f s).2))) : sh_Ci g mX9_does [sh_R (9, 0, 0)] (sh_mp S P) sz Q := by
  have hl2 := I.ml
  have htl := I.tl20
  have hp9 : ∀ X, sh_mp S X (9, 0, 0) = S (9, 0, 0) := fun X => mp_o (by decide)
  unfold o_stp at h
  refine wp_X9_does ?_
  simp only [hp9]
  rw [e11, show nI l = 98 ↔ l = 98 from nI_eq (b := 98) (by omega) (by omega), show nI l = 103 ↔ l = 103 from nI_eq (b := 103) (by omega) (by omega), show nI l = 108 ↔ l = 108 from nI_eq (b := 108) (by omega) (by omega)]
  refine ⟨fun c3 => ?_, fun c3 => ⟨fun c1 => ?_, fun c1 => ⟨fun c2 => ?_, fun c2 => ?_⟩⟩⟩
  · rw [if_neg (by omega), if_neg (by omega), if_pos c3, nr_res I] at h
    have e9 := e9 (by omega)
    rw [e9]
    refine c_noReturn I.B ⟨fun z => h.1 z, fun z => ?_⟩
    have h2 := h.2 z
    dsimp only at h2
    rw [if_pos z] at h2
    rw [hp9, e9, z]
    unfold sh_nr at z
    by_cases c : tB P (nI f) = true
    · rw [if_pos c] at z
      obtain ⟨i, hi, ei⟩ := I.B.tB_t c
      rw [ei, nI_clamp (by omega)] at z h2
      rw [ei]
      by_cases c4 : pt P i 3 = 1
      · exact c_returned I i rfl hi c4 h2
      · rw [if_neg c4] at z; exact absurd z (by decide)
    · rw [if_neg c] at z; exact absurd z (by decide)
  · rw [if_pos c1, ng_res I hb] at h
    have e9 := e9 (by omega)
    have e10 := e10 (.inl c1)
    rw [e9, e10]
    refine c_noGift I.B ⟨fun z => h.1 z, fun z => ?_⟩
    have h2 := h.2 z
    dsimp only at h2
    rw [if_pos z] at h2
    rw [hp9, e9, e10, z]
    unfold sh_ng at z
    by_cases c : mB P (nI f) = true
    · obtain ⟨i, hi, ei⟩ := I.B.mB_t c
      rw [ei, nI_clamp (by omega)] at h2
      rw [ei]
      exact c_gains i 1 rfl rfl (by omega) (by omega) h2
    · rw [if_neg c] at z; exact absurd z (by decide)
  · rw [if_neg c1, if_pos c2, nl_res I] at h
    have e9 := e9 (by omega)
    have e10 := e10 (.inr c2)
    rw [e9, e10]
    refine c_noLoan I.B ⟨fun z => h.1 z, fun z => ?_⟩
    have h2 := h.2 z
    dsimp only at h2
    rw [if_pos z] at h2
    rw [hp9, e9, e10, z]
    unfold sh_nl at z
    by_cases c : tB P (nI f) = true ∧ mB P (nI s) = true
    · obtain ⟨i, hi, ei⟩ := I.B.tB_t c.1
      rw [ei, nI_clamp (by omega)] at h2
      rw [ei]
      exact c_borrows I.B i rfl (by omega) h2
    · rw [if_neg c] at z; exact absurd z (by decide)
  · rw [if_neg c1, if_neg c2, if_neg c3] at h
    refine c_whoSharpens I.B (c_dullest I.G2 I.B ⟨fun z => ?_, fun z => ?_⟩)
    · have e1 : o_sharp P = (-1000002, P) := by unfold o_sharp; rw [if_pos z]
      rw [e1, res_neg (by decide)] at h
      exact h.1 (show (3 : Int32) ≠ 0 by decide)
    · obtain ⟨m, hm, h0, em⟩ := who_nat I z
      rcases da_nat P 0 with hd | ⟨t, ht, hc, hd⟩
      · have hneg : sh_da P 0 < 0 := by rw [hd]; decide
        have e1 : o_sharp P = (-1000004, P) := by unfold o_sharp; rw [if_neg z, if_neg (fun z => z.1 hneg)]
        rw [e1, res_neg (by decide)] at h
        have h3 : Q 3 (sh_mp S P) := h.1 (show (3 : Int32) ≠ 0 by decide)
        unfold sh_db
        rw [if_pos hneg]
        refine c_isDull I.G2 I.B (fun _ => wt' rfl h3) (fun t ht z => ?_) (.inl (by decide))
        exact absurd (by decide : (-1 : Int32) < 0) (z ▸ nI_pos (by omega))
      · have hpos : ¬ sh_da P 0 < 0 := by rw [hd]; exact nI_pos (by omega)
        unfold sh_db
        rw [if_neg hpos, hd]
        refine c_isDull I.G2 I.B (fun z => absurd z (nI_pos (by omega))) (fun t' ht' z' => ?_) (.inr ⟨t, ht, rfl⟩)
        obtain rfl : t = t' := (nI_eq (by omega) (by omega)).mp z'
        by_cases hth : sh_th (sh_sp P t) < P 4
        · have e1 : o_sharp P = (nI t, f_sharp P m t) := by
            unfold o_sharp
            rw [if_neg z, hd, em, nI_clamp (n := t) (by omega), nI_clamp (n := m) (by omega), if_pos ⟨nI_pos (by omega), hth⟩]
          rw [e1, res_pos (nI_pos (by omega))] at h
          rw [decide_eq_true hth, em]
          exact wf' (by decide) (c_sharpens I m t hm (by rw [h0]; decide) ht rfl rfl (h.2 rfl))
        · have e1 : o_sharp P = (-1000004, P) := by
            unfold o_sharp
            rw [if_neg z, hd, nI_clamp (n := t) (by omega), if_neg (fun z => hth z.2)]
          rw [e1, res_neg (by decide)] at h
          rw [decide_eq_false hth]
          exact wt' rfl (h.1 (show (3 : Int32) ≠ 0 by decide))
theorem c_runs (hb : b + 2000000 ≤ sh_LIM) (K : tx_k c n) (T : tx_m c n S) (I : sh_IP P b)
    (h0 : (o_run c n 60 P 0 0).1 = 0 → ∀ r, sh_fr (S (9, 0, 0)) r → r 12 = nI (o_run c n 60 P 0 0).2.2.1 → Q (-1000004) (sh_mp (sh_sr S (9, 0, 0) r) (o_run c n 60 P 0 0).2.2.2))
    (h1 : (o_run c n 60 P 0 0).1 ≠ 0 → ∀ r P', sh_fr (S (9, 0, 0)) r → r 13 = (o_run c n 60 P 0 0).1 → (o_run c n 60 P 0 0).2.1 ≤ 60 → Q (nI (o_run c n 60 P 0 0).2.1) (sh_mp (sh_sr S (9, 0, 0) r) P')) :
    sh_Ci g mX9_runs [sh_R (9, 0, 0)] (sh_mp S P) sz Q := by
  have hn := K.1
  have hp9 : ∀ (T : sh_S) X, sh_mp T X (9, 0, 0) = T (9, 0, 0) := fun T X => mp_o (by decide)
  have hms : ∀ (T : sh_S) X r, sh_sr (sh_mp T X) (9, 0, 0) r = sh_mp (sh_sr T (9, 0, 0) r) X := fun T X r => mp_sr2 (by decide)
  generalize hz : o_run c n 60 P 0 0 = z at h0 h1
  refine wp_X9_runs ?_
  rintro _ rfl _ rfl
  rw [hp9, hms, hp9, hms, sr_sr, sh_sr_s]
  refine ⟨fun S' => ∃ j p q r P', 2 * j ≤ p ∧ p ≤ n ∧ S' = sh_mp (sh_sr S (9, 0, 0) r) P' ∧ sh_fr (S (9, 0, 0)) r ∧ r 8 = nI p ∧ r 12 = nI q ∧ sh_IP P' (b + 30000 * p) ∧ o_run c n (60 - j) P' p q = z, fun S' => 60 - (S' (9, 0, 0) 8).toNatClampNeg, ⟨0, 0, 0, _, P, by omega, by omega, rfl, fun i hi => by rw [upd_ne (by omega), upd_ne (by omega)], by rw [upd_ne (by omega), upd_eq]; rfl, by rw [upd_eq]; rfl, IP_mono I (by omega), hz⟩, ?_⟩
  rintro _ ⟨j, p, q, r, P', hj, hpn, rfl, hfr, e8, e12, IP', hrun⟩
  rw [hp9, sh_sr_s, e8, hfr 6 (by omega), T.1]
  have ef : 60 - j = (60 - (j + 1)) + 1 := by omega
  rw [ef] at hrun
  refine wc (fun y => ?_) (fun y => ?_)
  · have y := (nI_leI (by omega) (by omega)).mp y
    have hz2 : z = (0, p, q, P') := by
      rw [← hrun]
      show (if n ≤ p then _ else _) = _
      rw [if_pos y]
    subst hz2
    exact h0 rfl r hfr e12
  · have y : p < n := Nat.lt_of_not_le fun w => y (nI_le w (by omega))
    rintro _ rfl
    have hrun : z = match t_prs c n p with
        | none => (1, p, q, P')
        | some (l, f, s, q') => if (o_stp P' l f s).1 = 0 then o_run c n (60 - (j + 1)) (o_stp P' l f s).2 q' (q + 1) else ((o_stp P' l f s).1, p, q, P') := by
      rw [← hrun]
      show (if n ≤ p then _ else _) = _
      rw [if_neg (by omega)]
      rfl
    have T2 : tx_m c n (sh_mp (sh_sr S (9, 0, 0) r) P') := ⟨by rw [hp9, sh_sr_s, hfr 6 (by omega)]; exact T.1, fun i hi => by rw [mp_o (by decide), sr_o (by decide)]; exact T.2 i hi⟩
    refine c_readOrder K T2 y (by rw [hp9, sh_sr_s]; exact e8) (fun hno r' hr' => ?_) (fun l f s q' hso r' hr' f8 f11 f9 f10 => ?_)
    · rw [hno] at hrun
      subst hrun
      rw [hms, sr_sr]
      refine wt rfl ?_
      rintro _ rfl
      rw [hp9, hms, sr_sr, sh_sr_s]
      refine wf (fun w => ?_) (h1 (show (1 : Int32) ≠ 0 by decide) _ _ (fun i hi => ?_) upd_eq (show p ≤ 60 by omega))
      · rw [hp9, sh_sr_s, upd_eq] at w; exact absurd w (by decide)
      · rw [upd_ne (by omega), hr' i (by omega), hp9, sh_sr_s]; exact hfr i hi
    · obtain ⟨b1, b2, b3, b4⟩ := prs_q hso
      rw [hso] at hrun
      dsimp only at hrun
      rw [hms, sr_sr]
      refine wf (by decide) (c_does (b := b + 30000 * p) (l := l) (f := f) (s := s) (by omega) IP' b3 (by rw [sh_sr_s]; exact f11) (fun w => by rw [sh_sr_s]; exact f9 w) (fun w => by rw [sh_sr_s]; exact f10 w) ⟨fun hr => ?_, fun hr => ?_⟩)
      · rw [if_neg hr] at hrun
        subst hrun
        rintro _ rfl
        rw [hp9, hms, sr_sr, sh_sr_s]
        refine wf (fun w => ?_) (h1 hr _ _ (fun i hi => ?_) upd_eq (show p ≤ 60 by omega))
        · rw [hp9, sh_sr_s, upd_eq] at w; exact hr w
        · rw [upd_ne (by omega), hr' i (by omega), hp9, sh_sr_s]; exact hfr i hi
      · rw [if_pos hr] at hrun
        rintro _ rfl
        rw [hp9, hms, sr_sr, sh_sr_s]
        refine wt (by rw [hp9, sh_sr_s, upd_eq]) ?_
        rintro _ rfl
        rw [hp9, hms, sr_sr, sh_sr_s]
        have hmul : 30000 * (p + 2) ≤ 30000 * q' := Nat.mul_le_mul_left _ b1
        refine ⟨⟨j + 1, q', q + 1, _, (o_stp P' l f s).2, by omega, b2, rfl, fun i hi => ?_, ?_, ?_, IP_mono (IP_stp IP' (by omega) hr) (by omega), hrun.symm⟩, ?_⟩
        · rw [upd_ne (by omega), upd_ne (by omega), hr' i (by omega), hp9, sh_sr_s]; exact hfr i hi
        · rw [upd_ne (by omega), upd_ne (by omega)]; exact f8
        · rw [upd_eq, upd_ne (by omega), hr' 12 (by omega), hp9, sh_sr_s, e12, nI_1]
        · dsimp only
          rw [hp9, sh_sr_s, upd_ne (by omega), upd_ne (by omega), f8, hp9, sh_sr_s, e8, nI_clamp (by omega), nI_clamp (by omega)]; omega
end MORDER
