/-! bits of an int; panels of the class -/
def sh_bt (x : Int32) (i : Nat) : Bool := x.toBitVec.getLsbD i
theorem sbt_ext {x y : Int32} (h : ∀ i, i < 32 → sh_bt x i = sh_bt y i) : x = y := Int32.toBitVec_inj.mp (BitVec.eq_of_getLsbD_eq (fun i hi => h i hi))
theorem sbt_or (x y : Int32) (i : Nat) : sh_bt (x ||| y) i = (sh_bt x i || sh_bt y i) := by unfold sh_bt; rw [Int32.toBitVec_or, BitVec.getLsbD_or]
theorem sbt_and (x y : Int32) (i : Nat) : sh_bt (x &&& y) i = (sh_bt x i && sh_bt y i) := by unfold sh_bt; rw [Int32.toBitVec_and, BitVec.getLsbD_and]
theorem sbt_0 (i : Nat) : sh_bt 0 i = false := BitVec.getLsbD_zero
theorem sbt_1 : ∀ i, i < 32 → sh_bt 1 i = decide (i = 0) := by decide +kernel
theorem sbt_s : ∀ n, n < 32 → ((nI n &&& 31).toBitVec.smod 32).toNat = n := by decide +kernel
theorem sbt_shl (n : Nat) (hn : n < 32) {i : Nat} (hi : i < 32) : sh_bt (1 <<< (nI n &&& 31)) i = decide (i = n) := by
  unfold sh_bt
  rw [Int32.toBitVec_shiftLeft]
  show ((1 : Int32).toBitVec <<< ((nI n &&& 31).toBitVec.smod 32).toNat).getLsbD i = _
  rw [sbt_s n hn, BitVec.getLsbD_shiftLeft]
  rcases Nat.lt_or_ge i n with h | h
  · rw [decide_eq_false (show ¬ i = n by omega), decide_eq_true hi, decide_eq_true h]; rfl
  · rw [decide_eq_true hi, decide_eq_false (show ¬ i < n by omega)]
    show sh_bt 1 (i - n) = _
    rw [sbt_1 _ (by omega), decide_eq_decide]
    omega
theorem sbt_shr (n : Nat) (hn : n < 31) (x : Int32) : ((x >>> (nI n &&& 31)) &&& 1) = if sh_bt x n then 1 else 0 := by
  refine sbt_ext fun i hi => ?_
  rw [sbt_and, sbt_1 i hi]
  by_cases h0 : i = 0
  · subst h0
    rw [decide_eq_true rfl, Bool.and_true]
    have : sh_bt (x >>> (nI n &&& 31)) 0 = sh_bt x n := by
      unfold sh_bt
      rw [Int32.toBitVec_shiftRight]
      show (x.toBitVec.sshiftRight ((nI n &&& 31).toBitVec.smod 32).toNat).getLsbD 0 = _
      rw [sbt_s n (by omega), BitVec.getLsbD_sshiftRight]
      simp
      omega
    rw [this]
    cases sh_bt x n
    · rfl
    · rfl
  · rw [decide_eq_false h0, Bool.and_false]
    cases sh_bt x n
    · exact (sbt_0 i).symm
    · exact ((sbt_1 i hi).trans (decide_eq_false h0)).symm
theorem sbt_set (n : Nat) (hn : n < 31) (x : Int32) : ((x >>> (nI n &&& 31)) &&& 1) = 1 ↔ sh_bt x n = true := by
  rw [sbt_shr n hn]
  cases sh_bt x n
  · exact ⟨fun z => absurd z (by decide), fun z => Bool.noConfusion z⟩
  · exact ⟨fun _ => rfl, fun _ => rfl⟩
theorem bi_cnt (a : Int32) : ∀ k, k ≤ 31 → sh_bi a k = nI (sh_cnt (sh_bt a) k)
  | 0, _ => rfl
  | k + 1, h => by
    show sh_bi a k + _ = nI (sh_cnt (sh_bt a) k + _)
    rw [bi_cnt a k (by omega), sbt_shr k (by omega)]
    cases sh_bt a k
    · exact Int32.add_zero _
    · exact nI_1 _
theorem cnt_put {f h : Nat → Bool} {m n : Nat} (hm : m < n) (h0 : f m = false) (h1 : h m = true) (he : ∀ i, i < n → i ≠ m → h i = f i) : sh_cnt h n = sh_cnt f n + 1 := by
  induction n with
  | zero => omega
  | succ n ih =>
    by_cases e : m = n
    · subst e
      rw [cnt_t h1, cnt_f h0, cnt_congr fun i hi => he i (by omega) (by omega)]
    · have := ih (by omega) fun i hi => he i (by omega)
      have e2 := he n (by omega) (by omega)
      unfold sh_cnt
      rw [this, e2]
      omega
theorem upd_comm {f : Nat → Int32} {i j : Nat} {x y : Int32} (h : i ≠ j) : upd (upd f i x) j y = upd (upd f j y) i x := by
  funext k
  unfold upd
  by_cases h1 : k = i
  · rw [if_pos h1, if_neg (show ¬ k = j by omega), if_pos h1]
  · rw [if_neg h1, if_neg h1]
theorem wt2 (X : Nat → Int32) (t w1 w2 : Nat) (v1 v2 : Int32) (h1 : w1 < 23) (h2 : w2 < 23) : sh_wt X t (upd (upd (sh_tr X t) w1 v1) w2 v2) = upd (upd X (142 + 23 * t + w1) v1) (142 + 23 * t + w2) v2 := by
  rw [← wt_upd _ _ _ _ _ h2, ← wt_upd _ _ _ _ _ h1, wt_row]
theorem seat_beyond {P : Nat → Int32} {t n : Nat} {L : List Nat} (hL : ∀ x, x ∈ L → x < n) : ∀ m, n ≤ m → sh_seat P t L m = sh_seat P t L n
  | 0, h => by obtain rfl : n = 0 := by omega
               rfl
  | m + 1, h => by
    by_cases e : n = m + 1
    · rw [e]
    · have : sh_seat P t L (m + 1) = sh_seat P t L m := by
        conv => lhs; unfold sh_seat
        rw [if_neg (fun z => by have := hL m z; omega)]
      rw [this]; exact seat_beyond hL m (by omega)
section CPANEL
variable {g : sh_G} {S S0 : sh_S} {P : Nat → Int32} {sz k b : Nat} {Q : Int32 → sh_S → Prop} {U : sh_S → Prop}
theorem k_next (hk : k < 7) (R : sh_RS k P S0 S) (B : sh_B P) {but cl : Int32} {L : List Nat} (hL : ∀ m, m < 10 → (sh_bt cl m = true ↔ m ∈ L)) (h : Q (sh_oi (sh_bst P (sh_el P but L) (nM P))) S) : sh_Ci g mX2_nextForPanel [sh_R (2, k, 0), sh_I but, sh_I cl] S sz Q := by
  have hl := B.ml
  refine wp_X2_nextForPanel (ok2 hk) ⟨fun v f i S' => ∃ j, j ≤ nM P ∧ i = nI j ∧ S = S' ∧ v = sh_oi (sh_bst P (sh_el P but L) j) ∧ ∀ m, sh_bst P (sh_el P but L) j = some m → f = pm P m 11, fun _ _ i _ => nM P - i.toNatClampNeg, ⟨0, by omega, rfl, rfl, rfl, fun m hm => nomatch hm⟩, ?_⟩
  rintro _ f _ _ ⟨j, hj, rfl, rfl, rfl, hf⟩
  rw [R.mem, B.m]
  refine wc (fun c => ?_) (fun c => ?_)
  · obtain rfl := lp_end hj (by omega) c
    exact h
  · have hlt := lp_go (by omega) hj c
    have hmu := mu_lt (N := nM P) hlt (by omega)
    have hskip : sh_el P but L j = false → ∀ x : Int32, x = nI j + 1 → ((∃ j', j' ≤ nM P ∧ x = nI j' ∧ S = S ∧ sh_oi (sh_bst P (sh_el P but L) j) = sh_oi (sh_bst P (sh_el P but L) j') ∧ ∀ m, sh_bst P (sh_el P but L) j' = some m → f = pm P m 11) ∧ nM P - x.toNatClampNeg < nM P - (nI j).toNatClampNeg) := fun z => by
      rintro _ rfl
      rw [nI_1 j]
      have hst : sh_bst P (sh_el P but L) (j + 1) = sh_bst P (sh_el P but L) j := by
        conv => lhs; unfold sh_bst
        rw [if_neg (by rw [z]; decide)]
      exact ⟨⟨j + 1, hlt, rfl, rfl, by rw [hst], by rw [hst]; exact hf⟩, hmu⟩
    refine k_has hk R B ?_
    rw [B.mB_i hlt]
    refine wf (by decide) (wc (fun z => hskip (decide_eq_false fun w => w.1 z)) (fun z1 => ⟨vp_in_nI (by omega) (by omega), ?_⟩))
    rw [nI_clamp (by omega)]
    refine k_isThere hk (by omega) (wb (fun z => ?_) (fun z2 => ?_))
    · rw [R.row (by omega) (by omega)] at z
      exact hskip (decide_eq_false fun w => of_decide_eq_false z w.2.1)
    · rw [R.row (by omega) (by omega)] at z2
      rw [sbt_set j (by omega)]
      refine ⟨fun z3 => ⟨vp_in_nI (by omega) (by omega), ?_⟩, fun z3 => hskip (decide_eq_false fun w => w.2.2 ((hL j (by omega)).mp z3))⟩
      have hel : sh_el P but L j = true := decide_eq_true ⟨z1, of_decide_eq_true z2, fun w => z3 ((hL j (by omega)).mpr w)⟩
      have hst : sh_bst P (sh_el P but L) (j + 1) = match sh_bst P (sh_el P but L) j with
          | none => some j
          | some b => if pm P j 11 < pm P b 11 then some j else some b := by
        conv => lhs; unfold sh_bst
        rw [if_pos hel]
        rfl
      rw [R.row (by omega) (by omega)]
      rintro _ rfl
      cases hb : sh_bst P (sh_el P but L) j with
      | none =>
        rw [hb] at hst
        refine wt rfl ?_
        rintro _ rfl
        rw [nI_1 j]
        exact ⟨⟨j + 1, hlt, rfl, rfl, by rw [hst]; rfl, fun m hm => by rw [hst] at hm; cases hm; rfl⟩, hmu⟩
      | some m =>
        rw [hb] at hst
        have hm := (bst_lt hb).1
        have hfm := hf m hb
        dsimp only at hst
        refine wf (show ¬ nI m = -1 from nI_neg1 (by omega)) ?_
        rw [hfm]
        refine wc (fun z => ?_) (fun z => ?_) <;> rintro _ rfl <;> rw [nI_1 j]
        · rw [if_neg (Int32.not_lt.mpr z)] at hst
          exact ⟨⟨j + 1, hlt, rfl, rfl, by rw [hst], fun m' hm' => by rw [hst] at hm'; cases hm'; rfl⟩, hmu⟩
        · rw [if_pos (Int32.not_le.mp z)] at hst
          exact ⟨⟨j + 1, hlt, rfl, rfl, by rw [hst]; rfl, fun m' hm' => by rw [hst] at hm'; cases hm'; rfl⟩, hmu⟩
theorem k_seat (hk : k < 7) {t c : Nat} (ht : t < 20) {a : Int32} (hc : c < 3) (e : S (4, k, t) 2 = nI c) (h : U (sh_sr (sh_sr (sh_sr S (13, k, t) (upd (S (13, k, t)) c a)) (14, k, t) (upd (S (14, k, t)) c (-1))) (4, k, t) (upd (S (4, k, t)) 2 (nI (c + 1))))) : sh_Cu g mX4_seat [sh_R (4, k, t), sh_I a] S sz U := by
  refine wp_X4_seat (ok4 hk ht) ?_
  rw [e]
  refine wf (nI_pos (by omega)) (wf (nI_ge (b := 3) hc (by omega)) ⟨vp_in_nI (by omega) (by omega), ?_⟩)
  rw [nI_clamp (by omega)]
  rintro _ rfl
  rw [sr_o (ne_k (by omega)), e, nI_clamp (by omega)]
  refine ⟨vp_in_nI (by omega) (by omega), ?_⟩
  rintro _ rfl _ rfl
  rw [sr_o (o := (13, k, t)) (q := (14, k, t)) (ne_k (by omega)), sr_o (o := (14, k, t)) (q := (4, k, t)) (ne_k (by omega)), sr_o (o := (13, k, t)) (q := (4, k, t)) (ne_k (by omega)), e, nI_1]
  exact h
/-- the shed with its tool t lost -/
def sh_lo (S : sh_S) (k t : Nat) : sh_S := sh_sr S (7, k, t) (upd (S (7, k, t)) 4 2)
theorem k_callPanel (hk : k < 7) (R : sh_RS k P S0 S) (B : sh_B P) {but : Int32} {t : Nat} (ht : t < 20) (h0 : sh_call P but 3 = none → Q 0 S)
    (h1 : ∀ L, sh_call P but 3 = some L → ∀ S', sh_RS k (sh_seat P t L (nM P)).2 S0 (sh_lo S' k t) → Q 1 S') : sh_Ci g mX2_callPanel [sh_R (2, k, 0), sh_I but, sh_R (4, k, t)] S sz Q := by
  have hl := B.ml
  refine wp_X2_callPanel (ok2 hk) (ok4 hk ht) ⟨fun v i S' => ∃ j L, j ≤ 3 ∧ i = nI j ∧ S = S' ∧ sh_call P but j = some L ∧ ∀ m, m < 10 → (sh_bt v m = true ↔ m ∈ L), fun _ i _ => 3 - i.toNatClampNeg, ⟨0, [], by omega, rfl, rfl, rfl, fun m hm => by rw [sbt_0]; simp⟩, ?_⟩
  rintro v _ _ ⟨j, L, hj, rfl, rfl, hcall, hL⟩
  obtain ⟨hlen, hnd, hmem⟩ := call_len hcall
  refine wc (fun c => ?_) (fun c => ?_)
  · obtain rfl := lp_end hj (by omega) c
    have h1 := h1 L hcall
    have hc3 := fun n => cnt_mem L n
    refine wp_X4_begin (ok4 hk ht) ?_
    rintro _ rfl
    refine ⟨fun i S' => ∃ m, m ≤ 10 ∧ i = nI m ∧ S' (4, k, t) 2 = nI (sh_cnt (fun q => decide (q ∈ L)) m) ∧ sh_RS k (sh_seat P t L m).2 S0 (sh_lo S' k t), fun i _ => 10 - i.toNatClampNeg, ⟨0, by omega, rfl, by rw [sh_sr_s, upd_eq]; rfl, ?_⟩, ?_⟩
    · unfold sh_lo
      refine rs_tool R ht (fun o e1 e2 e3 e4 e5 => by rw [sr_o e1, sr_o e5]) ?_
      rw [sh_sr_s, sr_o (o := (7, k, t)) (q := (13, k, t)) (ne_k (by omega)), sr_o (o := (4, k, t)) (q := (13, k, t)) (ne_k (by omega)), sr_o (o := (7, k, t)) (q := (14, k, t)) (ne_k (by omega)), sr_o (o := (4, k, t)) (q := (14, k, t)) (ne_k (by omega)), sr_o (o := (7, k, t)) (q := (5, k, t)) (ne_k (by omega)), sr_o (o := (4, k, t)) (q := (5, k, t)) (ne_k (by omega)), sr_o (o := (4, k, t)) (q := (7, k, t)) (ne_k (by omega))]
      obtain ⟨⟨e0, e1, e2, e3, e4, e5, e6, e7, e8, e9⟩, hh, hs', hq'⟩ := R.tol ht
      refine r_tool_mk (R.tol ht) ⟨by simp [upd, e0], by simp [upd, e1], by simp [upd, e2], by simp [upd, e3], by simp [upd], by simp [upd, e5], by simp [upd, e6], by simp [upd, e7], by simp [upd, e8], by simp [upd, e9]⟩ (by simpa [upd] using hh) fun w h1 h2 => upd_ne (by omega)
    · rintro _ S2 ⟨m, hm, rfl, e4, R2⟩
      refine wc (fun c2 => ?_) (fun c2 => ?_)
      · obtain rfl := lp_end hm (by omega) c2
        rw [seat_beyond (n := nM P) (fun x hx => (hmem x hx).1) 10 hl] at R2
        exact h1 _ R2
      · have hlt := lp_go (by omega) hm c2
        have hmu := mu_lt (N := 10) hlt (by omega)
        have hst : (sh_seat P t L (m + 1)) = if m ∈ L then ((sh_seat P t L m).1 + 1, upd (upd (upd (sh_seat P t L m).2 (142 + 23 * t + (12 + (sh_seat P t L m).1)) (nI m)) (142 + 23 * t + (15 + (sh_seat P t L m).1)) (-1)) (22 + 12 * m + 11) ((sh_seat P t L m).2 (22 + 12 * m + 11) + 1)) else sh_seat P t L m := rfl
        rw [sbt_set m (by omega)]
        refine ⟨fun z => ?_, fun z => ⟨vp_in_nI (by omega) (by omega), ?_⟩⟩
        · have z : ¬ m ∈ L := fun w => z ((hL m hlt).mpr w)
          rintro _ rfl
          rw [nI_1 m]
          rw [if_neg z] at hst
          exact ⟨⟨m + 1, hlt, rfl, by rw [cnt_f (by simpa using z)]; exact e4, by rw [hst]; exact R2⟩, hmu⟩
        · have z := (hL m hlt).mp z
          rw [if_pos z] at hst
          have hcl : sh_cnt (fun q => decide (q ∈ L)) m < 3 := by
            have := hc3 (m + 1)
            rw [cnt_t (by simpa using z)] at this
            omega
          have hs1 := seat_1 (P := P) (t := t) (L := L) m
          rw [nI_clamp (by omega)]
          rintro _ rfl
          refine k_seat hk ht hcl (by rw [sr_o (ne_k (by omega))]; exact e4) ?_
          rintro _ rfl
          rw [nI_1 m]
          refine ⟨⟨m + 1, hlt, rfl, by rw [sh_sr_s, upd_eq, cnt_t (by simpa using z)], ?_⟩, hmu⟩
          rw [hst]
          dsimp only
          rw [hs1]
          generalize sh_cnt (fun q => decide (q ∈ L)) m = cc at *
          generalize (sh_seat P t L m).2 = X at *
          have eL : sh_lo S2 k t (10, k, m) = S2 (10, k, m) := sr_o (ne_k (by omega))
          have R3 := rs_mem R2 (m := m) hlt (upd_congr (k := 11) (rs_row R2 hlt) (show sh_lo S2 k t (10, k, m) 11 + 1 = X (22 + 12 * m + 11) + 1 by rw [R2.row hlt (by omega)]))
          rw [← upd_wr _ _ _ _ (by omega), eL] at R3
          rw [upd_comm (show 142 + 23 * t + (15 + cc) ≠ 22 + 12 * m + 11 by omega), upd_comm (show 142 + 23 * t + (12 + cc) ≠ 22 + 12 * m + 11 by omega), ← wt2 _ _ _ _ _ _ (by omega) (by omega)]
          refine rs_tool R3 ht (fun o e1 e2 e3 e5 e6 => ?_) ?_
          · unfold sh_lo
            rw [sr_o e1, sr_o e6, sr_o e3, sr_o e2]
            by_cases eo : o = (10, k, m)
            · subst eo
              rw [sh_sr_s, sh_sr_s]
            · rw [sr_o eo, sr_o eo]
              exact (sr_o e1).symm
          · have hr := R3.tol ht
            rw [sr_o (o := (10, k, m)) (q := (7, k, t)) (ne_k (by omega)), sr_o (o := (10, k, m)) (q := (13, k, t)) (ne_k (by omega)), sr_o (o := (10, k, m)) (q := (14, k, t)) (ne_k (by omega)), sr_o (o := (10, k, m)) (q := (5, k, t)) (ne_k (by omega))] at hr
            unfold sh_lo at hr ⊢
            rw [sh_sr_s, sr_o (o := (7, k, t)) (q := (13, k, t)) (ne_k (by omega)), sr_o (o := (7, k, t)) (q := (14, k, t)) (ne_k (by omega)), sr_o (o := (7, k, t)) (q := (5, k, t)) (ne_k (by omega))] at hr
            rw [sh_sr_s, sr_o (o := (7, k, t)) (q := (13, k, t)) (ne_k (by omega)), sr_o (o := (7, k, t)) (q := (14, k, t)) (ne_k (by omega)), sr_o (o := (7, k, t)) (q := (5, k, t)) (ne_k (by omega)),
              sr_o (o := (4, k, t)) (q := (7, k, t)) (ne_k (by omega)), sr_o (o := (4, k, t)) (q := (13, k, t)) (ne_k (by omega)), sr_o (o := (4, k, t)) (q := (14, k, t)) (ne_k (by omega)), sr_o (o := (4, k, t)) (q := (5, k, t)) (ne_k (by omega)),
              sr_o (o := (14, k, t)) (q := (7, k, t)) (ne_k (by omega)), sr_o (o := (14, k, t)) (q := (13, k, t)) (ne_k (by omega)), sh_sr_s, sr_o (o := (14, k, t)) (q := (5, k, t)) (ne_k (by omega)),
              sr_o (o := (13, k, t)) (q := (7, k, t)) (ne_k (by omega)), sh_sr_s, sr_o (o := (13, k, t)) (q := (5, k, t)) (ne_k (by omega)),
              sr_o (o := (10, k, m)) (q := (7, k, t)) (ne_k (by omega)), sr_o (o := (10, k, m)) (q := (13, k, t)) (ne_k (by omega)), sr_o (o := (10, k, m)) (q := (14, k, t)) (ne_k (by omega)), sr_o (o := (10, k, m)) (q := (5, k, t)) (ne_k (by omega))]
            generalize upd X (22 + 12 * m + 11) (X (22 + 12 * m + 11) + 1) = Y at hr ⊢
            obtain ⟨⟨e0, e1, e2, e3, e4', e5, e6, e7, e8, e9⟩, hh, hs', hq1, hq2, hq3⟩ := hr
            have hu : ∀ w, w ≠ 12 + cc → w ≠ 15 + cc → upd (upd (sh_tr Y t) (12 + cc) (nI m)) (15 + cc) (-1) w = sh_tr Y t w := fun w h1 h2 => by rw [upd_ne h2, upd_ne h1]
            refine ⟨?_, ?_, fun j hj => ?_, ?_⟩
            · rw [hu 0 (by omega) (by omega), hu 1 (by omega) (by omega), hu 2 (by omega) (by omega), hu 3 (by omega) (by omega), hu 4 (by omega) (by omega), hu 5 (by omega) (by omega), hu 6 (by omega) (by omega), hu 7 (by omega) (by omega), hu 9 (by omega) (by omega), hu 11 (by omega) (by omega)]
              exact ⟨e0, e1, e2, e3, e4', e5, e6, e7, e8, e9⟩
            · rw [hu 8 (by omega) (by omega)]; exact hh
            · by_cases ej : j = cc
              · subst ej
                rw [upd_eq, upd_eq, upd_eq, upd_ne (show 12 + j ≠ 15 + j by omega), upd_eq]
                exact ⟨rfl, rfl⟩
              · rw [upd_ne ej, upd_ne ej, hu (12 + j) (by omega) (by omega), hu (15 + j) (by omega) (by omega)]
                exact hs' j hj
            · rw [hu 19 (by omega) (by omega), hu 20 (by omega) (by omega), hu 18 (by omega) (by omega), hu 21 (by omega) (by omega), hu 22 (by omega) (by omega)]
              exact ⟨hq1, hq2, hq3⟩
  · have hlt := lp_go (by omega) hj c
    have hs := call_s hcall
    refine k_next hk R B hL ?_
    cases hb : sh_bst P (sh_el P but L) (nM P) with
    | none =>
      rw [hb] at hs
      exact wt' rfl (h0 (call_none hs 3 (by omega)))
    | some m =>
      rw [hb] at hs
      have hm := (bst_lt hb).1
      refine wf' (show ¬ nI m = -1 from nI_neg1 (by omega)) ?_
      rintro _ rfl _ rfl
      rw [nI_1 j]
      refine ⟨⟨j + 1, L ++ [m], hlt, rfl, rfl, hs, fun q hq => ?_⟩, mu_lt hlt (by omega)⟩
      rw [sbt_or, show sh_oi (some m) = nI m from rfl, sbt_shl m (by omega) (show q < 32 by omega), Bool.or_eq_true, hL q hq, decide_eq_true_iff, List.mem_append, List.mem_singleton]
theorem k_loseTool (hk : k < 7) (R : sh_RS k P S0 S) (I : sh_IP P b) {t : Int32} (h : sh_kg Q k S0 S (o_lose P t)) : sh_Ci g mX6_loseTool [sh_R (6, k, 0), sh_I t] S sz Q := by
  unfold o_lose at h
  have hl := I.ml
  have htl := I.tl20
  refine wp_X6_loseTool (ok6 hk) (k_hasTool hk R I.B (wb' (fun c => ?_) (fun c => ?_)))
  · rw [if_neg (by rw [c]; decide)] at h
    exact h.1 (show (-1000001 : Int32) < 0 by decide)
  · obtain ⟨i, hi, rfl⟩ := I.B.tB_t c
    rw [if_pos c, nI_clamp (by omega)] at h
    refine ⟨vp_in_nI (by omega) (by omega), ?_⟩
    rw [nI_clamp (by omega), R.place (by omega), R.who (by omega)]
    refine ⟨fun z => ?_, fun z => k_callPanel hk R I.B (by omega) (fun hc => wt' rfl ?_) (fun L hc S' R' => wf' (by decide) ?_)⟩
    · rw [if_neg z] at h
      exact h.1 (show (-1000002 : Int32) < 0 by decide)
    · rw [if_pos z, show sh_call P (pt P i 4) 3 = none from hc] at h
      exact h.1 (show (-1000002 : Int32) < 0 by decide)
    · rw [if_pos z, show sh_call P (pt P i 4) 3 = some L from hc] at h
      dsimp only at h
      obtain ⟨hlen, hnd, hmem⟩ := call_len hc
      rintro _ rfl
      have e : sh_sr S' (7, k, i) (upd (S' (7, k, i)) 4 2) (13, k, i) 0 = (sh_seat P i L (nM P)).2 (142 + 23 * i + 12) := R'.seat (t := i) (j := 0) (by omega) (by omega)
      rw [e]
      have hnn : ¬ (sh_seat P i L (nM P)).2 (142 + 23 * i + 12) < 0 := by
        have hc3 : sh_cnt (fun k => decide (k ∈ L)) (nM P) = 3 := by rw [cnt_mem_eq L (nM P) hnd fun x hx => (hmem x hx).1, hlen]
        obtain ⟨k, k1, k2, k3, k4, k5⟩ := seat_at (P := P) (t := i) (L := L) (nM P) (by omega) (by omega) 0 (by omega)
        rw [show (sh_seat P i L (nM P)).2 (142 + 23 * i + 12) = nI k from k4]
        exact nI_pos (by omega)
      exact kg_pos h hnn _ R'
end CPANEL
