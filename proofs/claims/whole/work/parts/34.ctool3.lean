/-! more of a shed: settings, members, hooks, what is told of tools -/
theorem sf_lo : ∀ i, i < 7 → sh_sf 0 i = (if nI i = 1 ∨ nI i = 6 then 1 else 0) := by decide +kernel
theorem sf_hi : ∀ i, i < 7 → sh_sf 1 i = (if nI i = 0 then 400 else if nI i = 1 ∨ nI i = 6 then 60 else if nI i = 2 then 20 else if nI i = 3 then 40 else if nI i = 4 then 1000 else 100) := by decide +kernel
theorem ot_wr {P : Nat → Int32} {m i : Nat} {n : Nat → Int32} (hY : nY P ≤ 10) : sh_ot (sh_wr P m n) i = sh_wr (sh_ot P i) m n := by
  funext q
  have hY2 : nY (sh_wr P m n) = nY P := nY_wr
  by_cases h : 22 + 12 * m ≤ q ∧ q < 22 + 12 * m + 12
  · rw [ot_out (by omega) (by omega) (by rw [hY2]; exact hY)]
    unfold sh_wr
    rw [if_pos h, if_pos h]
  · rw [wr_out h]
    unfold sh_ot
    rw [hY2]
    by_cases h11 : q = 11
    · rw [if_pos h11, if_pos h11]
    · rw [if_neg h11, if_neg h11]
      by_cases h2 : 12 + i ≤ q ∧ q + 1 < 12 + nY P
      · rw [if_pos h2, if_pos h2, wr_low (by omega)]
      · rw [if_neg h2, if_neg h2, wr_out h]
theorem cnt_or (f0 f1 f2 f3 f : Nat → Bool) : ∀ n, (∀ t, t < n → (if f t then 1 else 0) = (if f0 t then 1 else 0) + (if f1 t then 1 else 0) + (if f2 t then 1 else 0) + (if f3 t then 1 else 0)) → sh_cnt f n = sh_cnt f0 n + sh_cnt f1 n + sh_cnt f2 n + sh_cnt f3 n
  | 0, _ => rfl
  | n + 1, h => by
    have ih := cnt_or f0 f1 f2 f3 f n fun t ht => h t (by omega)
    have := h n (by omega)
    unfold sh_cnt
    omega
theorem cnt_one {f : Nat → Bool} : ∀ n, (∀ i j, i < n → j < n → f i = true → f j = true → i = j) → sh_cnt f n ≤ 1
  | 0, _ => Nat.zero_le _
  | n + 1, h => by
    cases hf : f n
    · rw [cnt_f hf]; exact cnt_one n fun i j hi hj => h i j (by omega) (by omega)
    · rw [cnt_t hf, cnt_pos.mpr fun i hi => Bool.eq_false_iff.mpr fun z => by
        have := h i n (by omega) (by omega) z hf
        omega]
      omega
theorem cnt_ex {f : Nat → Bool} {n : Nat} {p : Bool} (h : ∀ i j, i < n → j < n → f i = true → f j = true → i = j) (hp : p = true ↔ ∃ i, i < n ∧ f i = true) : sh_cnt f n = if p then 1 else 0 := by
  have h1 := cnt_one n h
  cases p
  · rw [if_neg (by decide)]
    exact cnt_pos.mpr fun i hi => Bool.eq_false_iff.mpr fun z => Bool.noConfusion (hp.mpr ⟨i, hi, z⟩)
  · rw [if_pos rfl]
    obtain ⟨i, hi, e⟩ := hp.mp rfl
    have : sh_cnt f n ≠ 0 := fun z => by
      rw [cnt_pos.mp z i hi] at e; exact Bool.noConfusion e
    omega
/-- tools on a wall, by its hooks -/
theorem wall_cnt {X : Nat → Int32} (B : sh_B X) (hh : i_hk X) (hr : ∀ t, t < nT X → pt X t 8 = -1 ∨ ∃ w h, w ≤ 2 ∧ h ≤ 3 ∧ pt X t 8 = nI (10 * w + h)) {w : Nat} (hw : w ≤ 2) {f : Nat → Bool} (hf : ∀ t, t < nT X → (f t = true ↔ ∃ h, h ≤ 3 ∧ pt X t 8 = nI (10 * w + h))) : sh_cnt f (nT X) = sh_cnt (sh_ow X w) 4 := by
  have hne : ∀ h : Nat, h ≤ 3 → ∀ i j, i < nT X → j < nT X → decide (pt X i 8 = nI (10 * w + h)) = true → decide (pt X j 8 = nI (10 * w + h)) = true → i = j := fun h hh3 i j hi hj e1 e2 => by
    refine Classical.byContradiction fun z => ?_
    have e1 := of_decide_eq_true e1
    have e2 := of_decide_eq_true e2
    have := hh i j hi hj z (e1.trans e2.symm)
    rw [e1] at this
    exact nI_neg1 (by omega) this
  have hone : ∀ h : Nat, h ≤ 3 → sh_cnt (fun t => decide (pt X t 8 = nI (10 * w + h))) (nT X) = if sh_ow X w h then 1 else 0 := fun h hh3 => by
    refine cnt_ex (hne h hh3) ?_
    unfold sh_ow
    rw [decide_eq_true_iff, hk_neg B, Classical.not_not]
    exact ⟨fun ⟨t, h1, h2⟩ => ⟨t, h1, decide_eq_true h2⟩, fun ⟨t, h1, h2⟩ => ⟨t, h1, of_decide_eq_true h2⟩⟩
  rw [cnt_or (fun t => decide (pt X t 8 = nI (10 * w + 0))) (fun t => decide (pt X t 8 = nI (10 * w + 1))) (fun t => decide (pt X t 8 = nI (10 * w + 2))) (fun t => decide (pt X t 8 = nI (10 * w + 3))) f (nT X) fun t ht => ?_, hone 0 (by omega), hone 1 (by omega), hone 2 (by omega), hone 3 (by omega)]
  · show _ = 0 + (if sh_ow X w 0 then 1 else 0) + (if sh_ow X w 1 then 1 else 0) + (if sh_ow X w 2 then 1 else 0) + (if sh_ow X w 3 then 1 else 0)
    omega
  · have hft := hf t ht
    have heq : ∀ a b : Nat, a ≤ 30 → b ≤ 30 → (nI a = nI b ↔ a = b) := fun a b ha hb => nI_eq (by omega) (by omega)
    rcases hr t ht with e | ⟨w', h', hw', hh', e⟩
    · have hn : ∀ a : Nat, a ≤ 30 → ¬ (-1 : Int32) = nI a := fun a ha z => nI_neg1 (m := a) (by omega) z.symm
      rw [e] at hft
      have : f t = false := Bool.eq_false_iff.mpr fun z => by
        obtain ⟨h, h1, h2⟩ := hft.mp z
        exact hn _ (by omega) h2
      simp only [this, e, decide_eq_false (hn (10 * w + 0) (by omega)), decide_eq_false (hn (10 * w + 1) (by omega)), decide_eq_false (hn (10 * w + 2) (by omega)), decide_eq_false (hn (10 * w + 3) (by omega))]
      rfl
    · rw [e] at hft
      simp only [e, heq (10 * w' + h') (10 * w + 0) (by omega) (by omega), heq (10 * w' + h') (10 * w + 1) (by omega) (by omega), heq (10 * w' + h') (10 * w + 2) (by omega) (by omega), heq (10 * w' + h') (10 * w + 3) (by omega) (by omega)]
      by_cases hww : w' = w
      · subst hww
        have : f t = true := hft.mpr ⟨h', hh', rfl⟩
        rw [this]
        have : h' = 0 ∨ h' = 1 ∨ h' = 2 ∨ h' = 3 := by omega
        rcases this with rfl | rfl | rfl | rfl <;> simp
      · have : f t = false := Bool.eq_false_iff.mpr fun z => by
          obtain ⟨h, h1, h2⟩ := hft.mp z
          have := (heq _ _ (by omega) (by omega)).mp h2
          omega
        rw [this, decide_eq_false (show ¬ 10 * w' + h' = 10 * w + 0 by omega), decide_eq_false (show ¬ 10 * w' + h' = 10 * w + 1 by omega), decide_eq_false (show ¬ 10 * w' + h' = 10 * w + 2 by omega), decide_eq_false (show ¬ 10 * w' + h' = 10 * w + 3 by omega)]
        rfl
section CTOOL3
variable {g : sh_G} {S S0 : sh_S} {P : Nat → Int32} {sz k b : Nat} {Q : Int32 → sh_S → Prop} {U : sh_S → Prop} {F : UInt32 → sh_S → Prop}
theorem k_changeSetting (hk : k < 7) (R : sh_RS k P S0 S) (I : sh_IP P b) {w v : Int32} (h : sh_kg Q k S0 S (o_set P w v)) : sh_Ci g mX6_changeSetting [sh_R (6, k, 0), sh_I w, sh_I v] S sz Q := by
  unfold o_set at h
  refine wp_X6_changeSetting (ok6 hk) (wc (fun c => ?_) (fun c => wc (fun c2 => ?_) (fun c2 => ?_)))
  · rw [if_neg (ff_h (inb_f1 c))] at h
    exact h.1 (show (-1000001 : Int32) < 0 by decide)
  · rw [if_neg (ff_h (inb_f2 fun z => absurd (Int32.le_trans c2 z) (by decide)))] at h
    exact h.1 (show (-1000001 : Int32) < 0 by decide)
  · obtain ⟨i, hi, rfl⟩ := nI_ex (n := 7) (by omega) (Int32.not_lt.mp c) (Int32.not_le.mp c2)
    have hin : inb (nI i) 0 6 = true := decide_eq_true ⟨nI_pos' (by omega), nI_le (b := 6) (by omega) (by omega)⟩
    refine ⟨vp_in_nI (by omega) (by omega), ?_⟩
    rw [nI_clamp (by omega)] at h ⊢
    rw [sf_lo i hi, sf_hi i hi]
    refine wc (fun c3 => ?_) (fun c3 => ⟨vp_in_nI (by omega) (by omega), wc (fun c4 => ⟨vp_in_nI (by omega) (by omega), ?_⟩) (fun c4 => ?_)⟩)
    · rw [if_neg (ff_t (inb_f1 c3))] at h
      exact h.1 (show (-1000001 : Int32) < 0 by decide)
    · rw [if_pos ⟨hin, inb_t1 c3 c4⟩] at h
      rw [R.set hi]
      rintro _ rfl
      refine ⟨vp_in_nI (by omega) (by omega), ?_⟩
      rintro _ rfl
      obtain ⟨n, hn, en⟩ := I.s i hi
      have hn2 : n < 2 ^ 31 := by
        have : ∀ i, i < 7 → sh_hi i ≤ 1000 := by decide
        have := this i hi
        omega
      refine kg_pos h (by rw [en]; exact nI_pos hn2) _ (rs_low R (fun j hj => upd_ne (by omega)) (fun o h1 h2 h3 h4 => sr_o h4) ⟨fun j hj => ?_, ?_, ?_, ?_, ?_, ?_, fun j hj => ?_⟩)
      · rw [sh_sr_s]
        unfold upd; split
        · rfl
        · exact R.set hj
      · rw [sr_o (ne_k (by omega)), upd_ne (by omega)]; exact R.day
      · rw [sr_o (ne_k (by omega)), upd_ne (by omega)]; exact R.mem
      · rw [sr_o (ne_k (by omega)), upd_ne (by omega)]; exact R.add
      · rw [sr_o (ne_k (by omega)), upd_ne (by omega)]; exact R.ptr
      · rw [sr_o (ne_k (by omega)), upd_ne (by omega)]; exact R.inT
      · rw [sr_o (ne_k (by omega)), upd_ne (by omega)]; exact R.trn hj
    · rw [if_neg (ff_t (inb_f2 c4))] at h
      exact h.1 (show (-1000001 : Int32) < 0 by decide)
theorem k_tellOfMember (hk : k < 7) (R : sh_RS k P S0 S) (I : sh_IP P b) {m w : Int32} (h : Q (q_memberOf P m w) S) : sh_Ci g mX6_tellOfMember [sh_R (6, k, 0), sh_I m, sh_I w] S sz Q := by
  unfold q_memberOf at h
  have hl := I.ml
  refine wp_X6_tellOfMember (ok6 hk) (k_has hk R I.B (wb (fun c => ?_) (fun c => wc (fun c2 => ?_) (fun c2 => wc (fun c3 => ?_) (fun c3 => ?_)))))
  · rwa [if_neg (ff_h c)] at h
  · rwa [if_neg (ff_t (inb_f1 c2))] at h
  · rw [if_pos ⟨c, inb_t1 c2 c3⟩] at h
    obtain ⟨i, hi, rfl⟩ := I.B.mB_t c
    obtain ⟨x, hx, rfl⟩ := nI_of2 (n := 13) (M := 13) rfl c2 c3
    rw [nI_clamp (by omega), nI_clamp (by omega)] at h
    refine ⟨fun z => ⟨fun z2 => wc (fun z3 => ?_) (fun z3 => ?_), fun z2 => k_toolsOf (wl := false) hk R I.B ?_⟩, fun z => k_placeInTurns hk R I.B ?_⟩
    · have := (nI_leI (a := 12) (b := x) (by omega) (by omega)).mp z3
      have e1 : x ≠ 12 := fun w => z2 (by rw [w]; rfl)
      have e2 : x ≠ 13 := fun w => z (by rw [w]; rfl)
      omega
    · have hx12 : x < 12 := Classical.byContradiction fun y => z3 (nI_le (a := 12) (by omega) (by omega))
      rw [if_pos (Int32.not_le.mp z3)] at h
      refine ⟨vp_in_nI (by omega) (by omega), vp_in_nI (by omega) (by omega), ?_⟩
      rw [nI_clamp (by omega), nI_clamp (by omega), R.row (by omega) hx12]
      exact h
    · rwa [z2, if_neg (by decide), if_pos rfl] at h
    · rw [z, if_neg (by decide), if_neg (by decide)] at h
      by_cases zg : pm P i 0 = 2
      · rw [if_pos zg] at h
        rwa [tn_gone I.tn I.B hi zg]
      · rw [if_neg zg] at h
        obtain ⟨j, hj, ej, et⟩ := tn_of I.tn hi zg
        rw [et] at h ⊢
        exact h
  · rwa [if_neg (ff_t (inb_f2 c3))] at h
theorem k_hasSeated (hk : k < 7) (R : sh_RS k P S0 S) {t : Nat} (ht : t < 20) {m : Int32} (h : Q (bI (decide (¬ sh_pl P t m < 0))) S) : sh_Ci g mX4_hasSeated [sh_R (4, k, t), sh_I m] S sz Q := by
  refine wp_X4_hasSeated (ok4 hk ht) ⟨fun i => ∃ j, j ≤ 3 ∧ i = nI j ∧ ∀ q, q < j → decide (pt P t (12 + q) = m) = false, fun i => 3 - i.toNatClampNeg, ⟨0, by omega, rfl, fun q hq => by omega⟩, ?_⟩
  rintro _ ⟨j, hj, rfl, hb⟩
  refine wc (fun c => ?_) (fun c => ?_)
  · obtain rfl := lp_end hj (by omega) c
    rw [sh_pl, fnd_n hb] at h
    exact h
  · have hlt := lp_go (by omega) hj c
    rw [nI_clamp (by omega), R.seat ht hlt]
    refine ⟨vp_in_nI (by omega) (by omega), fun c2 => ?_, fun c2 => ?_⟩
    · rintro _ rfl; rw [nI_1 j]
      exact ⟨⟨j + 1, hlt, rfl, all_succ hb (decide_eq_false c2)⟩, mu_lt hlt (by omega)⟩
    · rw [sh_pl, fnd_s hlt (decide_eq_true c2) hb, decide_eq_true (nI_pos (by omega))] at h
      exact h
theorem k_isBound (hk : k < 7) (R : sh_RS k P S0 S) (B : sh_B P) {m : Int32} (h0 : 0 < sh_cnt (sh_on P m true) (nT P) ∨ 0 < sh_cnt (sh_inp P m) (nT P) → Q 1 S) (h1 : ¬ (0 < sh_cnt (sh_on P m true) (nT P) ∨ 0 < sh_cnt (sh_inp P m) (nT P)) → Q 0 S) : sh_Ci g mX6_isBound [sh_R (6, k, 0), sh_I m] S sz Q := by
  have hl := B.tl
  refine wp_X6_isBound (ok6 hk) ⟨fun i S' => ∃ j, j ≤ nT P ∧ i = nI j ∧ S = S' ∧ ∀ q, q < j → sh_on P m true q = false ∧ sh_inp P m q = false, fun i _ => nT P - i.toNatClampNeg, ⟨0, by omega, rfl, rfl, fun q hq => by omega⟩, ?_⟩
  rintro _ _ ⟨j, hj, rfl, rfl, hb⟩
  rw [R.add, B.t]
  refine wc (fun c => ?_) (fun c => ?_)
  · obtain rfl := lp_end hj (by omega) c
    refine h1 fun z => ?_
    rw [cnt_pos.mpr fun i hi => (hb i hi).1, cnt_pos.mpr fun i hi => (hb i hi).2] at z
    omega
  · have hlt := lp_go (by omega) hj c
    have hmu := mu_lt (N := nT P) hlt (by omega)
    have hyes : sh_on P m true j = true ∨ sh_inp P m j = true → Q 1 S := fun z => h0 (z.imp (fun z => Nat.pos_of_ne_zero fun y => by rw [cnt_pos.mp y j hlt] at z; exact Bool.noConfusion z) (fun z => Nat.pos_of_ne_zero fun y => by rw [cnt_pos.mp y j hlt] at z; exact Bool.noConfusion z))
    have hgo : sh_on P m true j = false → sh_inp P m j = false → ∀ y : Int32, y = nI j + 1 → ((∃ j', j' ≤ nT P ∧ y = nI j' ∧ S = S ∧ ∀ q, q < j' → sh_on P m true q = false ∧ sh_inp P m q = false) ∧ nT P - y.toNatClampNeg < nT P - (nI j).toNatClampNeg) := fun z1 z2 => by
      rintro _ rfl; rw [nI_1 j]
      refine ⟨⟨j + 1, hlt, rfl, rfl, fun q hq => ?_⟩, hmu⟩
      by_cases e : q = j
      · rw [e]; exact ⟨z1, z2⟩
      · exact hb q (by omega)
    refine k_hasTool hk R B ?_
    rw [B.tB_i hlt]
    refine wf (by decide) ⟨vp_in_nI (by omega) (by omega), ?_⟩
    rw [nI_clamp (by omega)]
    refine k_isOnMember hk R (by omega) (wb (fun c2 => k_hasTool hk R B ?_) (fun c2 => hyes (.inl c2)))
    rw [B.tB_i hlt]
    refine wf (by decide) ⟨vp_in_nI (by omega) (by omega), ?_⟩
    rw [R.place (by omega)]
    refine ⟨fun z => hgo c2 (decide_eq_false fun y => z y.1), fun z => ⟨vp_in_nI (by omega) (by omega), k_hasSeated hk R (by omega) (wb (fun c3 => hgo c2 (decide_eq_false fun y => of_decide_eq_false c3 y.2)) (fun c3 => hyes (.inr (decide_eq_true ⟨z, of_decide_eq_true c3⟩))))⟩⟩
theorem k_depart (hk : k < 7) (hb : b < 2 ^ 30) (R : sh_RS k P S0 S) (I : sh_IP P b) {v : Int32} (i : Nat) (hv : v = nI i) (hi : i < nM P) (hg : pm P i 0 ≠ 2) (hc : 0 < sh_ct2 P (nI i)) (h : ∀ S', sh_RS k (f_leave P i) S0 S' → Q (pm P i 3) S') : sh_Ci g mX2_depart [sh_R (2, k, 0), sh_I v] S sz Q := by
  subst hv
  have hl := I.ml
  have hY := I.B.yl
  obtain ⟨j, hj, ej, et⟩ := tn_of I.tn hi hg
  obtain ⟨cr, hcr, ecr⟩ := cr_nat I.cr (show i < 10 by omega)
  unfold f_leave at h
  rw [et, nI_clamp (by omega), ecr, nI_clamp (by omega)] at h
  refine wp_X2_depart (ok2 hk) (k_has hk R I.B ?_)
  rw [I.B.mB_i hi]
  refine wf' (by decide) ⟨vp_in_nI (by omega) (by omega), ?_⟩
  rw [nI_clamp (by omega), R.row (by omega) (by omega), show P (22 + 12 * i + 3) = nI cr from ecr]
  rintro _ rfl
  refine ⟨vp_in_nI (by omega) (by omega), ?_⟩
  rintro _ rfl
  refine ⟨vp_in_nI (by omega) (by omega), ?_⟩
  rintro _ rfl
  refine ⟨vp_in_nI (by omega) (by omega), ?_⟩
  rintro _ rfl
  simp only [sr_sr, sh_sr_s]
  have hn : ∀ w, w < 12 → upd (upd (upd (S (10, k, i)) 3 0) 4 (upd (S (10, k, i)) 3 0 4 + nI cr)) 0 2 w = upd (upd (upd (sh_row (sh_ot P j) i) 0 2) 3 0) 4 (pm P i 4 + nI cr) w := fun w hw => by
    have e : S (10, k, i) w = sh_row (sh_ot P j) i w := (R.row (by omega) hw).trans (ot_out (by omega) (by omega) hY).symm
    have e4 : S (10, k, i) 4 = pm P i 4 := R.row (by omega) (by omega)
    unfold upd
    by_cases w0 : w = 0
    · subst w0; rfl
    · by_cases w3 : w = 3
      · subst w3; rfl
      · by_cases w4 : w = 4
        · subst w4
          rw [if_neg (by omega), if_pos rfl, if_pos rfl, if_neg (by omega), e4]
        · rw [if_neg w0, if_neg w4, if_neg w3, if_neg w4, if_neg w3, if_neg w0]
          exact e
  have R1 := rs_mem R (m := i) (by omega) hn
  refine k_takeOut hk R1 (B_wr I.B _ _) j (by rw [nY_wr]; exact hj) (by rw [wr_low (by omega)]; exact ej) (fun q hq e => ?_) fun S2 R2 => ?_
  · rw [nY_wr] at hq
    rw [wr_low (by omega)] at e
    exact I.tn.1 q j hq hj (e.trans ej.symm)
  · rw [ot_wr hY] at R2
    refine k_share hk R2 (B_wr (B_ot I.B j hj) i _) cr 3 rfl (by omega) rfl (by omega) ?_ fun S3 R3 => h S3 R3
    rw [ct2_congr (P := P) (by rw [nM_wr, nM_ot hY]) (fun m hm hne => ?_)]
    · exact hc
    · have hmi : m ≠ i := fun z => hne (by rw [z])
      show sh_wr _ _ _ _ = 2 ↔ _
      rw [wr_out (by omega), ot_out (by omega) (by omega) hY]
theorem k_letLeave (hk : k < 7) (hb : b < 2 ^ 30) (R : sh_RS k P S0 S) (I : sh_IP P b) {m : Int32} (h : sh_kg Q k S0 S (o_leave P m)) : sh_Ci g mX6_letLeave [sh_R (6, k, 0), sh_I m] S sz Q := by
  unfold o_leave at h
  have hl := I.ml
  refine wp_X6_letLeave (ok6 hk) (k_has hk R I.B (wb' (fun c => ?_) (fun c => ?_)))
  · rw [if_neg (by rw [c]; decide)] at h
    exact h.1 (show (-1000001 : Int32) < 0 by decide)
  · obtain ⟨i, hi, rfl⟩ := I.B.mB_t c
    rw [if_pos c, nI_clamp (by omega)] at h
    have hno : ∀ z : (pm P i 0 = 2 ∨ 0 < sh_cnt (sh_on P (nI i) true) (nT P) ∨ 0 < sh_opn P i ∨ 0 < sh_cnt (sh_inp P (nI i)) (nT P) ∨ sh_ct2 P (nI i) = 0), Q (-1000002) S := fun z => by
      rw [if_pos z] at h
      exact h.1 (show (-1000002 : Int32) < 0 by decide)
    have hcl : sh_ct2 P (nI i) ≤ 10 := Nat.le_trans (cnt_le _ _) hl
    refine ⟨vp_in_nI (by omega) (by omega), ?_⟩
    rw [nI_clamp (by omega)]
    refine k_isGone hk (by omega) (wb' (fun c1 => k_openS hk R (by omega) ⟨fun c2 => hno (.inr (.inr (.inl c2))), fun c2 => ?_⟩) (fun c1 => ?_)) <;> rw [R.row (by omega) (by omega)] at c1
    · have c1 := of_decide_eq_false c1
      refine k_isBound hk R I.B (fun z => wf' (by decide) (hno (z.elim (fun z => .inr (.inl z)) (fun z => .inr (.inr (.inr (.inl z))))))) (fun z => wt' (by decide) (k_countNotGone hk R I.B ⟨fun z2 => ?_, fun z2 => ?_⟩))
      · have z2' : sh_ct2 P (nI i) ≠ 0 := fun y => z2 (by rw [y]; rfl)
        rw [if_neg (fun y => y.elim c1 fun y => y.elim (fun y => z (.inl y)) fun y => y.elim c2 fun y => y.elim (fun y => z (.inr y)) z2')] at h
        obtain ⟨cr, hcr, ecr⟩ := cr_nat I.cr (show i < 10 by omega)
        exact k_depart hk hb R I i rfl hi c1 (by omega) fun S' R' => kg_pos h (by rw [ecr]; exact nI_pos (by omega)) S' R'
      · exact hno (.inr (.inr (.inr (.inr ((nI_eq (b := 0) (by omega) (by omega)).mp z2)))))
    · exact hno (.inl (of_decide_eq_true c1))
end CTOOL3
