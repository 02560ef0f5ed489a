/-- the best so far, as the model writes it -/
def sh_oi (o : Option Nat) : Int32 := match o with
  | none => -1
  | some b => nI b
theorem bst_lt {P : Nat → Int32} {el : Nat → Bool} {n b : Nat} (h : sh_bst P el n = some b) : b < n ∧ el b = true := by
  induction n generalizing b with
  | zero => cases h
  | succ n ih =>
    unfold sh_bst at h
    split at h
    · rename_i he
      split at h
      · cases h; exact ⟨by omega, he⟩
      · rename_i b' hb'
        have k := ih hb'
        split at h <;> cases h
        · exact ⟨by omega, he⟩
        · exact ⟨by omega, k.2⟩
    · have k := ih h
      exact ⟨by omega, k.2⟩
theorem call_none {P : Nat → Int32} {but : Int32} {j : Nat} (h : sh_call P but j = none) : ∀ k, j ≤ k → sh_call P but k = none
  | 0, hk => by obtain rfl : j = 0 := by omega
                exact h
  | k + 1, hk => by
    by_cases e : j = k + 1
    · rw [← e]; exact h
    · have := call_none h k (by omega)
      unfold sh_call; rw [this]
theorem call_s {P : Nat → Int32} {but : Int32} {j : Nat} {L : List Nat} (h : sh_call P but j = some L) : sh_call P but (j + 1) = match sh_bst P (sh_el P but L) (nM P) with
      | none => none
      | some m => some (L ++ [m]) := by
  conv => lhs; unfold sh_call
  rw [h]
  rfl
theorem call_len {P : Nat → Int32} {but : Int32} : ∀ {j : Nat} {L : List Nat}, sh_call P but j = some L → L.length = j ∧ L.Nodup ∧ ∀ x, x ∈ L → x < nM P ∧ nI x ≠ but ∧ pm P x 0 = 0
  | 0, L, h => by cases h; exact ⟨rfl, List.nodup_nil, fun x hx => nomatch hx⟩
  | j + 1, L, h => by
    cases hj : sh_call P but j with
    | none => rw [call_none hj (j + 1) (by omega)] at h; cases h
    | some L' =>
      rw [call_s hj] at h
      obtain ⟨a, b, c⟩ := call_len hj
      split at h
      · cases h
      · rename_i m hm
        cases h
        obtain ⟨k1, k2⟩ := bst_lt hm
        have k2 := of_decide_eq_true k2
        refine ⟨by rw [List.length_append, a]; rfl, ?_, fun x hx => ?_⟩
        · rw [List.nodup_append]
          refine ⟨b, by simp, fun x hx y hy => ?_⟩
          rw [List.mem_singleton] at hy
          exact fun z => k2.2.2 (by rw [← hy, ← z]; exact hx)
        · rcases List.mem_append.mp hx with hx | hx
          · exact c x hx
          · rw [List.mem_singleton] at hx
            subst hx
            exact ⟨k1, k2.1, k2.2.1⟩
theorem cnt_mem (L : List Nat) (n : Nat) : sh_cnt (fun k => decide (k ∈ L)) n ≤ L.length := by
  induction L with
  | nil => exact Nat.le_of_eq (cnt_pos.mpr fun i _ => by simp)
  | cons x L ih =>
    have h1 : ∀ n, sh_cnt (fun k => decide (k ∈ x :: L)) n ≤ sh_cnt (fun k => decide (k ∈ L)) n + (if x < n then 1 else 0) := by
      intro n
      induction n with
      | zero => exact Nat.zero_le _
      | succ n ihn =>
        have hR : sh_cnt (fun k => decide (k ∈ L)) (n + 1) = sh_cnt (fun k => decide (k ∈ L)) n + (if decide (n ∈ L) = true then 1 else 0) := rfl
        have hL : sh_cnt (fun k => decide (k ∈ x :: L)) (n + 1) = sh_cnt (fun k => decide (k ∈ x :: L)) n + (if decide (n ∈ x :: L) = true then 1 else 0) := rfl
        rw [hR, hL]
        by_cases hx : n = x
        · subst hx
          rw [if_neg (show ¬ n < n by omega)] at ihn
          rw [if_pos (show n < n + 1 by omega), if_pos (show decide (n ∈ n :: L) = true by simp)]
          omega
        · have e : decide (n ∈ x :: L) = decide (n ∈ L) := by simp [hx]
          rw [e]
          by_cases h2 : x < n
          · rw [if_pos h2] at ihn
            rw [if_pos (show x < n + 1 by omega)]
            omega
          · rw [if_neg h2] at ihn
            rw [if_neg (show ¬ x < n + 1 by omega)]
            omega
    have := h1 n
    rw [List.length_cons]
    split at this <;> omega
theorem cnt_mem_eq (L : List Nat) (n : Nat) (hnd : L.Nodup) (hl : ∀ x, x ∈ L → x < n) : sh_cnt (fun k => decide (k ∈ L)) n = L.length := by
  induction L with
  | nil => exact cnt_pos.mpr fun i _ => by simp
  | cons x L ih =>
    have hxL : ¬ x ∈ L := (List.nodup_cons.mp hnd).1
    have h1 : ∀ n, sh_cnt (fun k => decide (k ∈ x :: L)) n = sh_cnt (fun k => decide (k ∈ L)) n + (if x < n then 1 else 0) := by
      intro n
      induction n with
      | zero => rfl
      | succ n ihn =>
        have hR : sh_cnt (fun k => decide (k ∈ L)) (n + 1) = sh_cnt (fun k => decide (k ∈ L)) n + (if decide (n ∈ L) = true then 1 else 0) := rfl
        have hL : sh_cnt (fun k => decide (k ∈ x :: L)) (n + 1) = sh_cnt (fun k => decide (k ∈ x :: L)) n + (if decide (n ∈ x :: L) = true then 1 else 0) := rfl
        rw [hR, hL]
        by_cases hx : n = x
        · subst hx
          rw [if_neg (show ¬ n < n by omega)] at ihn
          rw [if_pos (show n < n + 1 by omega), if_pos (show decide (n ∈ n :: L) = true by simp), if_neg (show ¬ decide (n ∈ L) = true by simpa using hxL)]
          omega
        · have e : decide (n ∈ x :: L) = decide (n ∈ L) := by simp [hx]
          rw [e]
          by_cases h2 : x < n
          · rw [if_pos h2] at ihn
            rw [if_pos (show x < n + 1 by omega)]
            omega
          · rw [if_neg h2] at ihn
            rw [if_neg (show ¬ x < n + 1 by omega)]
            omega
    have := h1 n
    rw [if_pos (hl x (by simp)), ih (List.nodup_cons.mp hnd).2 (fun y hy => hl y (by simp [hy]))] at this
    rw [List.length_cons]
    exact this
theorem seat_1 {P : Nat → Int32} {t : Nat} {L : List Nat} : ∀ m, (sh_seat P t L m).1 = sh_cnt (fun k => decide (k ∈ L)) m
  | 0 => rfl
  | m + 1 => by
    unfold sh_seat sh_cnt
    dsimp only
    by_cases h : m ∈ L
    · rw [if_pos h, if_pos (decide_eq_true h), ← seat_1 m]
    · rw [if_neg h, if_neg (by simpa using h), ← seat_1 m]; rfl
theorem seat_low {P : Nat → Int32} {t : Nat} {L : List Nat} {j : Nat} (hj : j < 22 ∨ 142 ≤ j ∧ j < 142 + 23 * t + 3 ∨ 142 + 23 * t + 3 < j ∧ j < 142 + 23 * t + 12 ∨ 142 + 23 * t + 18 ≤ j) : ∀ m, m ≤ 10 → sh_cnt (fun k => decide (k ∈ L)) m ≤ 3 → (sh_seat P t L m).2 j = P j
  | 0, _, _ => by
    show sh_wt P t _ j = _
    rw [← upd_wt _ _ _ _ (by omega), upd_ne (by omega)]
  | m + 1, hm, hc => by
    unfold sh_seat
    dsimp only
    unfold sh_cnt at hc
    split
    · rename_i h
      rw [if_pos (decide_eq_true h)] at hc
      dsimp only
      rw [seat_1, upd_ne (by omega), upd_ne (by omega), upd_ne (by omega)]
      exact seat_low hj m (by omega) (by omega)
    · exact seat_low hj m (by omega) (by omega)
theorem seat_0 {P : Nat → Int32} {t : Nat} {L : List Nat} {k w : Nat} (hk : k < 10) (hw : w < 11) : ∀ m, (sh_seat P t L m).2 (22 + 12 * k + w) = P (22 + 12 * k + w)
  | 0 => wt_out (by omega)
  | m + 1 => by
    unfold sh_seat
    dsimp only
    split
    · dsimp only
      rw [upd_ne (by omega), upd_ne (by omega), upd_ne (by omega)]
      exact seat_0 hk hw m
    · exact seat_0 hk hw m
theorem seat_at {P : Nat → Int32} {t : Nat} {L : List Nat} : ∀ m, m ≤ 10 → sh_cnt (fun k => decide (k ∈ L)) m ≤ 3 → ∀ j, j < sh_cnt (fun k => decide (k ∈ L)) m → ∃ k, k < m ∧ k ∈ L ∧ sh_cnt (fun k => decide (k ∈ L)) k = j ∧ (sh_seat P t L m).2 (142 + 23 * t + (12 + j)) = nI k ∧ (sh_seat P t L m).2 (142 + 23 * t + (15 + j)) = -1
  | 0, _, _, j, hj => absurd hj (Nat.not_lt_zero _)
  | m + 1, hm, hc, j, hj => by
    have hs : (sh_seat P t L (m + 1)) = if m ∈ L then ((sh_seat P t L m).1 + 1, upd (upd (upd (sh_seat P t L m).2 (142 + 23 * t + (12 + (sh_seat P t L m).1)) (nI m)) (142 + 23 * t + (15 + (sh_seat P t L m).1)) (-1)) (22 + 12 * m + 11) ((sh_seat P t L m).2 (22 + 12 * m + 11) + 1)) else sh_seat P t L m := rfl
    by_cases h : m ∈ L
    · rw [if_pos h] at hs
      rw [cnt_t (decide_eq_true h)] at hc hj
      rw [hs]
      dsimp only
      rw [seat_1]
      by_cases hj2 : j < sh_cnt (fun k => decide (k ∈ L)) m
      · obtain ⟨k, h1, h2, h3, h4, h5⟩ := seat_at m (by omega) (by omega) j hj2
        refine ⟨k, by omega, h2, h3, ?_, ?_⟩
        · rw [upd_ne (by omega), upd_ne (by omega), upd_ne (by omega)]; exact h4
        · rw [upd_ne (by omega), upd_ne (by omega), upd_ne (by omega)]; exact h5
      · obtain rfl : j = sh_cnt (fun k => decide (k ∈ L)) m := by omega
        refine ⟨m, by omega, h, rfl, ?_, ?_⟩
        · rw [upd_ne (by omega), upd_ne (by omega), upd_eq]
        · rw [upd_ne (by omega), upd_eq]
    · rw [if_neg h] at hs
      rw [cnt_f (decide_eq_false h)] at hc hj
      obtain ⟨k, h1, h2, h3, h4, h5⟩ := seat_at m (by omega) (by omega) j hj
      exact ⟨k, by omega, h2, h3, by rw [hs]; exact h4, by rw [hs]; exact h5⟩
theorem B_low {P P' : Nat → Int32} (B : sh_B P) (h : ∀ j, j < 22 → P' j = P j) : sh_B P' := B_of B (fun j hj _ => h j hj) ⟨nZ P, B.zl, by rw [h 10 (by omega)]; exact B.z⟩
section MOPS6
variable {g : sh_G} {S : sh_S} {P : Nat → Int32} {sz b : Nat} {Q : Int32 → sh_S → Prop} {U : sh_S → Prop}
theorem c_isCalled {r : Nat → Int32} {a1 a2 : Int32} (m : Nat) (L : List Nat) (h1 : a1 = nI m) (hm : m < 10) (h2 : a2 = nI L.length) (hL : L.length ≤ 3) (hr : ∀ i x, L[i]? = some x → r i = nI x ∧ x < 10) (h : Q (bI (decide (m ∈ L))) (sh_mp (sh_sr S (24, 0, 0) r) P)) :
    sh_Ci g mX9_isCalled [sh_R (9, 0, 0), sh_I a1, sh_I a2] (sh_mp (sh_sr S (24, 0, 0) r) P) sz Q := by
  subst h1; subst h2
  refine wp_X9_isCalled ⟨fun v i => ∃ j, j ≤ L.length ∧ i = nI j ∧ v = bI (decide (m ∈ L.take j)), fun _ i => L.length - i.toNatClampNeg, ⟨0, by omega, rfl, by simp [bI]⟩, ?_⟩
  rintro _ _ ⟨j, hj, rfl, rfl⟩
  rw [mp_o (by decide), sh_sr_s]
  refine wc (fun c => ⟨bI_n _, ?_⟩) (fun c => ?_)
  · obtain rfl := lp_end hj (by omega) c
    rw [List.take_length]
    exact h
  · have hlt := lp_go (by omega) hj c
    have hmu := mu_lt (N := L.length) hlt (by omega)
    obtain ⟨x, hx⟩ : ∃ x, L[j]? = some x := ⟨L[j], List.getElem?_eq_getElem hlt⟩
    obtain ⟨hrx, hx10⟩ := hr j x hx
    have htk : L.take (j + 1) = L.take j ++ [x] := by rw [List.take_succ, hx]; rfl
    refine wb' (fun c0 => ⟨vp_in_nI (by omega) (by omega), ?_⟩) (fun c0 => ?_)
    · rw [nI_clamp (by omega), hrx]
      have c0 := of_decide_eq_false c0
      refine ⟨fun c1 => ?_, fun c1 => ?_⟩ <;> rintro _ rfl <;> rw [nI_1 j]
      · refine ⟨⟨j + 1, hlt, rfl, ?_⟩, hmu⟩
        rw [htk, decide_eq_false (fun z => (List.mem_append.mp z).elim c0 fun z => c1 (by rw [List.mem_singleton.mp z]))]; rfl
      · refine ⟨⟨j + 1, hlt, rfl, ?_⟩, hmu⟩
        have : x = m := (nI_eq (by omega) (by omega)).mp c1
        rw [htk, decide_eq_true (List.mem_append.mpr (.inr (List.mem_singleton.mpr this.symm)))]; rfl
    · have c0 := of_decide_eq_true c0
      rintro _ rfl
      rw [nI_1 j]
      refine ⟨⟨j + 1, hlt, rfl, ?_⟩, hmu⟩
      rw [htk, decide_eq_true (List.mem_append.mpr (.inl c0))]; rfl
theorem c_calls (B : sh_B P) {but : Int32} (h0 : sh_call P but 3 = none → ∀ r, Q 0 (sh_mp (sh_sr S (24, 0, 0) r) P))
    (h1 : ∀ L, sh_call P but 3 = some L → ∀ r, (∀ i x, L[i]? = some x → r i = nI x ∧ x < 10) → Q 1 (sh_mp (sh_sr S (24, 0, 0) r) P)) : sh_Ci g mX9_calls [sh_R (9, 0, 0), sh_I but] (sh_mp S P) sz Q := by
  have hl := B.ml
  refine wp_X9_calls ⟨fun v S' => ∃ j L r, j ≤ 3 ∧ v = nI j ∧ sh_call P but j = some L ∧ (∀ i x, L[i]? = some x → r i = nI x ∧ x < 10) ∧ S' = sh_mp (sh_sr S (24, 0, 0) r) P, fun v _ => 3 - v.toNatClampNeg, ⟨0, [], S (24, 0, 0), by omega, rfl, rfl, fun i x hx => by simp at hx, by rw [sr_self]⟩, ?_⟩
  rintro _ _ ⟨j, L, r, hj, rfl, hcall, hr, rfl⟩
  obtain ⟨hlen, hnd, hmem⟩ := call_len hcall
  refine wc (fun c => ?_) (fun c => ?_)
  · obtain rfl := lp_end hj (by omega) c
    exact h1 L hcall r hr
  · have hlt := lp_go (by omega) hj c
    refine ⟨fun v i S' => ∃ k, k ≤ nM P ∧ i = nI k ∧ v = sh_oi (sh_bst P (sh_el P but L) k) ∧ S' = sh_mp (sh_sr S (24, 0, 0) r) P, fun _ i _ => nM P - i.toNatClampNeg, ⟨0, by omega, rfl, rfl, rfl⟩, ?_⟩
    rintro _ _ _ ⟨k, hk, rfl, rfl, rfl⟩
    rw [mp_p, B.m]
    refine wc (fun c2 => ?_) (fun c2 => ?_)
    · obtain rfl := lp_end hk (by omega) c2
      have hs := call_s hcall
      cases hb : sh_bst P (sh_el P but L) (nM P) with
      | none =>
        rw [hb] at hs
        exact wf (by decide) (h0 (call_none hs 3 (by omega)) r)
      | some m =>
        rw [hb] at hs
        have hm := (bst_lt hb).1
        refine wt (show (0 : Int32) ≤ nI m from nI_pos' (by omega)) ⟨vp_in_nI (by omega) (by omega), ?_⟩
        rintro _ rfl _ rfl
        rw [nI_1 j, nI_clamp (by omega), mp_o (by decide), sh_sr_s, mp_sr2 (by decide), sr_sr]
        refine ⟨⟨j + 1, L ++ [m], upd r j (nI m), hlt, rfl, hs, fun i x hx => ?_, rfl⟩, mu_lt hlt (by omega)⟩
        by_cases hi : i < L.length
        · rw [List.getElem?_append_left hi] at hx
          rw [upd_ne (by omega)]
          exact hr i x hx
        · by_cases hi2 : i = L.length
          · subst hi2
            rw [List.getElem?_append_right (by omega), Nat.sub_self] at hx
            cases hx
            rw [hlen, upd_eq]
            exact ⟨rfl, by omega⟩
          · rw [List.getElem?_eq_none (by rw [List.length_append]; show L.length + 1 ≤ i; omega)] at hx
            cases hx
    · have hlt2 := lp_go (by omega) hk c2
      have hmu := mu_lt (N := nM P) hlt2 (by omega)
      have hskip : sh_el P but L k = false → ∀ x : Int32, x = nI k + 1 → ((∃ k', k' ≤ nM P ∧ x = nI k' ∧ sh_oi (sh_bst P (sh_el P but L) k) = sh_oi (sh_bst P (sh_el P but L) k') ∧ sh_mp (sh_sr S (24, 0, 0) r) P = sh_mp (sh_sr S (24, 0, 0) r) P) ∧ nM P - x.toNatClampNeg < nM P - (nI k).toNatClampNeg) := fun z => by
        rintro _ rfl
        rw [nI_1 k]
        refine ⟨⟨k + 1, hlt2, rfl, ?_, rfl⟩, hmu⟩
        conv => rhs; unfold sh_bst
        rw [if_neg (by rw [z]; decide)]
      refine wc (fun z => hskip (decide_eq_false fun w => w.1 z)) (fun z1 => c_of k 0 rfl rfl (by omega) (by omega) ⟨fun z => hskip (decide_eq_false fun w => z w.2.1), fun z2 => c_isCalled k L rfl (by omega) (by rw [hlen]) (by omega) hr (wb' (fun z3 => ?_) (fun z => hskip (decide_eq_false fun w => w.2.2 (of_decide_eq_true z))))⟩)
      have hel : sh_el P but L k = true := decide_eq_true ⟨z1, z2, of_decide_eq_false z3⟩
      have hst : sh_bst P (sh_el P but L) (k + 1) = match sh_bst P (sh_el P but L) k with
          | none => some k
          | some b => if pm P k 11 < pm P b 11 then some k else some b := by
        conv => lhs; unfold sh_bst
        rw [if_pos hel]
        rfl
      cases hb : sh_bst P (sh_el P but L) k with
      | none =>
        rw [hb] at hst
        refine wt (by decide) ?_
        rintro _ rfl
        rw [nI_1 k]
        exact ⟨⟨k + 1, hlt2, rfl, by rw [hst]; rfl, rfl⟩, hmu⟩
      | some m =>
        rw [hb] at hst
        have hm := (bst_lt hb).1
        dsimp only at hst
        refine wf (show ¬ nI m < 0 from nI_pos (by omega)) (c_of k 11 rfl rfl (by omega) (by omega) (c_of m 11 rfl rfl (by omega) (by omega) (wc (fun z => ?_) (fun z => ?_)))) <;> rintro _ rfl <;> rw [nI_1 k]
        · rw [if_neg (Int32.not_lt.mpr z)] at hst
          exact ⟨⟨k + 1, hlt2, rfl, by rw [hst], rfl⟩, hmu⟩
        · rw [if_pos (Int32.not_le.mp z)] at hst
          exact ⟨⟨k + 1, hlt2, rfl, by rw [hst]; rfl, rfl⟩, hmu⟩
theorem hd_24 {r : Nat → Int32} : sh_hd (sh_sr S (24, 0, 0) r) P = sh_sr (sh_hd S P) (24, 0, 0) r := by
  unfold sh_hd
  rw [sr_o (by decide), sr_comm _ (by decide)]
theorem c_lose (hs : sh_ss S) (I : sh_IP P b) {t : Int32} (h : ∀ r, sh_go Q (sh_sr S (24, 0, 0) r) P (o_lose P t)) : sh_Ci g mX9_lose [sh_R (9, 0, 0), sh_I t] (sh_mp S P) sz Q := by
  unfold o_lose at h
  have htl := I.tl20
  have hl := I.ml
  have hself := h (S (24, 0, 0))
  rw [sr_self] at hself
  refine wp_X9_lose (c_isTool I.B (wb' (fun c => ?_) (fun c => ?_)))
  · rw [if_neg (by rw [c]; decide)] at hself
    exact hself.1 (show (-1000001 : Int32) < 0 by decide)
  · obtain ⟨i, hi, rfl⟩ := I.B.tB_t c
    rw [if_pos c, nI_clamp (by omega)] at h hself
    refine c_its i 3 rfl rfl (by omega) (by omega) ⟨fun z => ?_, fun z1 => c_its i 4 rfl rfl (by omega) (by omega) (c_calls I.B (fun hc r => wt' rfl ?_) (fun L hc r hr => wf' (by decide) ?_))⟩
    · rw [if_neg z] at hself
      exact hself.1 (show (-1000002 : Int32) < 0 by decide)
    · have h := h r
      rw [if_pos z1, show sh_call P (pt P i 4) 3 = none from hc] at h
      exact h.1 (show (-1000002 : Int32) < 0 by decide)
    · have h := h r
      rw [if_pos z1, show sh_call P (pt P i 4) 3 = some L from hc] at h
      dsimp only at h
      obtain ⟨hlen, hnd, hmem⟩ := call_len hc
      have hs2 : sh_ss (sh_sr S (24, 0, 0) r) := by
        obtain ⟨s, h1, h2⟩ := hs
        exact ⟨s, h1, by rw [sr_o (by decide)]; exact h2⟩
      refine c_hold (c_lay0 i 3 rfl rfl (by omega) (by omega) ?_)
      rw [hd_24]
      have hcn := fun n => cnt_mem L n
      have hB : ∀ m, m ≤ 10 → sh_B (sh_seat P i L m).2 := fun m hm => B_low I.B fun j hj => seat_low (.inl hj) m hm (by have := hcn m; omega)
      refine ⟨fun v k S' => ∃ m, m ≤ nM P ∧ k = nI m ∧ v = nI (sh_seat P i L m).1 ∧ S' = sh_mp (sh_sr (sh_hd S P) (24, 0, 0) r) (sh_seat P i L m).2, fun _ k _ => nM P - k.toNatClampNeg, ⟨0, by omega, rfl, rfl, rfl⟩, ?_⟩
      rintro _ _ _ ⟨m, hm, rfl, rfl, rfl⟩
      have e8 : (sh_seat P i L m).2 8 = nI (nM P) := by
        rw [seat_low (.inl (by omega)) m (by omega) (by have := hcn m; omega)]
        exact I.B.m
      rw [mp_p, e8]
      refine wc (fun c2 => ?_) (fun c2 => ?_)
      · obtain rfl := lp_end hm (by omega) c2
        refine c_its i 12 rfl rfl (by omega) (by omega) ?_
        have hnn : ¬ (sh_seat P i L (nM P)).2 (142 + 23 * i + 12) < 0 := by
          have hc3 : sh_cnt (fun k => decide (k ∈ L)) (nM P) = 3 := by rw [cnt_mem_eq L (nM P) hnd fun x hx => (hmem x hx).1, hlen]
          obtain ⟨k, k1, k2, k3, k4, k5⟩ := seat_at (P := P) (t := i) (L := L) (nM P) (by omega) (by omega) 0 (by omega)
          rw [show (sh_seat P i L (nM P)).2 (142 + 23 * i + 12) = nI k from k4]
          exact nI_pos (by omega)
        have k := c_fin (g := g) (sz := sz) (Q := Q) (P := P) (P' := (sh_seat P i L (nM P)).2) hs2 hnn h
        rw [hd_24] at k
        exact k
      · have hlt := lp_go (by omega) hm c2
        have hmu := mu_lt (N := nM P) hlt (by omega)
        refine c_isCalled m L rfl (by omega) (by rw [hlen]; rfl) (by omega) hr (wb (fun z => ?_) (fun z => ?_))
        · have z := of_decide_eq_false z
          rintro _ rfl
          rw [nI_1 m]
          refine ⟨⟨m + 1, hlt, rfl, ?_, ?_⟩, hmu⟩
          · conv => rhs; unfold sh_seat
            rw [if_neg z]
          · conv => rhs; unfold sh_seat
            rw [if_neg z]
        · have z := of_decide_eq_true z
          have hn : (sh_seat P i L m).1 < 3 := by
            have := hcn (m + 1)
            rw [cnt_t (decide_eq_true z), ← seat_1 (P := P) (t := i)] at this
            omega
          refine c_lay i (12 + (sh_seat P i L m).1) rfl (nI_add 12 _) (by omega) (by omega) (c_lay i (15 + (sh_seat P i L m).1) rfl (nI_add 15 _) (by omega) (by omega) (c_more m 11 rfl rfl (by omega) (by omega) ?_))
          rintro _ rfl _ rfl
          rw [nI_1 m, nI_1]
          refine ⟨⟨m + 1, hlt, rfl, ?_, ?_⟩, hmu⟩
          · conv => rhs; unfold sh_seat
            rw [if_pos z]
          · conv => rhs; unfold sh_seat
            rw [if_pos z, upd_ne (j := 22 + 12 * m + 11) (by omega), upd_ne (j := 22 + 12 * m + 11) (by omega)]
end MOPS6
