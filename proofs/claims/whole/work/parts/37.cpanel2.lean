/-! what a panel says; votes; other sheds; days; counts -/
def sh_c3 (a b c w : Int32) : Nat := (if a = w then 1 else 0) + (if b = w then 1 else 0) + (if c = w then 1 else 0)
def sh_w4 (a : Int32) : Prop := a = -1 ∨ a = 0 ∨ a = 1 ∨ a = 2
theorem dec_c3 {a b c : Int32} (ha : sh_w4 a) (hb : sh_w4 b) (hc : sh_w4 c) : (∀ w, w < 3 → 2 ≤ sh_c3 a b c (nI w) → sh_dec a b c = nI w) ∧ ((∀ w, w < 3 → sh_c3 a b c (nI w) < 2) → sh_dec a b c = if sh_c3 a b c (-1) = 0 then 2 else 3) := by
  rcases ha with rfl | rfl | rfl | rfl <;> rcases hb with rfl | rfl | rfl | rfl <;> rcases hc with rfl | rfl | rfl | rfl <;> decide +kernel
theorem spk_c3 {a b c : Int32} (ha : sh_w4 a) (hb : sh_w4 b) (hc : sh_w4 c) : 3 - nI (sh_c3 a b c (-1)) = nI ((if ¬ a < 0 then 1 else 0) + (if ¬ b < 0 then 1 else 0) + (if ¬ c < 0 then 1 else 0)) := by
  rcases ha with rfl | rfl | rfl | rfl <;> rcases hb with rfl | rfl | rfl | rfl <;> rcases hc with rfl | rfl | rfl | rfl <;> decide +kernel
theorem dec_4 {a b c : Int32} (ha : sh_w4 a) (hb : sh_w4 b) (hc : sh_w4 c) : sh_dec a b c = 0 ∨ sh_dec a b c = 1 ∨ sh_dec a b c = 2 ∨ sh_dec a b c = 3 := by
  rcases ha with rfl | rfl | rfl | rfl <;> rcases hb with rfl | rfl | rfl | rfl <;> rcases hc with rfl | rfl | rfl | rfl <;> decide +kernel
theorem w4_of {a : Int32} (h : a = -1 ∨ ∃ w, w ≤ 2 ∧ a = nI w) : sh_w4 a := by
  rcases h with rfl | ⟨w, hw, rfl⟩
  · exact .inl rfl
  · have : w = 0 ∨ w = 1 ∨ w = 2 := by omega
    rcases this with rfl | rfl | rfl
    · exact .inr (.inl rfl)
    · exact .inr (.inr (.inl rfl))
    · exact .inr (.inr (.inr rfl))
/-- nothing is charged: nothing changes -/
theorem chg_0 {n : Nat → Int32} {k : Nat} (h : ¬ n 3 < 0) : sh_chg n k 0 = n := by
  have e : sh_mn (n 3) 0 = 0 := by
    unfold sh_mn
    by_cases h2 : n 3 ≤ 0
    · rw [if_pos h2]; exact Int32.le_antisymm h2 (Int32.not_lt.mp h)
    · rw [if_neg h2]
  unfold sh_chg
  rw [e]
  show upd (upd (upd n 3 (n 3 + -0)) (5 + k) (n (5 + k) + 0)) (8 + k) (n (8 + k) + (0 - 0)) = n
  rw [show n 3 + -0 = n 3 from Int32.add_zero _, show n (8 + k) + (0 - 0) = n (8 + k) from Int32.add_zero _, Int32.add_zero, upd_self, upd_self, upd_self]
theorem sn_0 {P : Nat → Int32} {but : Int32} {kd z : Nat} (hk : kd < 3) (h : ∀ m, m < 10 → sh_tk P but m = true → ¬ pm P m 3 < 0) : ∀ j, sh_snn P but kd 0 0 z j = (P, 0)
  | 0 => rfl
  | j + 1 => by
    show sh_s1 P but kd 0 z (sh_snn P but kd 0 0 z j) j = _
    rw [sn_0 hk h j]
    unfold sh_s1
    have hlt : (z + j) % 10 < 10 := Nat.mod_lt _ (by omega)
    by_cases c : sh_tk P but ((z + j) % 10) = true
    · rw [if_pos c]
      dsimp only
      rw [if_neg (Nat.lt_irrefl 0), if_neg (Nat.lt_irrefl 0)]
      unfold sh_act
      rw [if_neg (by omega), show nI 0 = (0 : Int32) from rfl, chg_0 (show ¬ sh_row P ((z + j) % 10) 3 < 0 from h _ hlt c), wr_row]
    · rw [if_neg c]
theorem share_0 {P : Nat → Int32} {but : Int32} {kd : Nat} (hk : kd < 3) (h : ∀ m, m < 10 → sh_tk P but m = true → ¬ pm P m 3 < 0) : sh_share P 0 but kd = P := by
  unfold sh_share
  rw [Nat.zero_div, Nat.zero_mod, sn_0 hk h]
theorem mn_nI {a b : Nat} (ha : a < 2 ^ 31) (hb : b < 2 ^ 31) : sh_mn (nI a) (nI b) = nI (min a b) := by
  unfold sh_mn
  by_cases h : a ≤ b
  · rw [if_pos (nI_le h hb), Nat.min_eq_left h]
  · rw [if_neg (fun z => h ((nI_leI ha hb).mp z)), Nat.min_eq_right (by omega)]
theorem chg_3 {n : Nat → Int32} {k c q : Nat} (hc : c < 2 ^ 31) (hq : q < 2 ^ 31) (e : n 3 = nI c) : sh_chg n k (nI q) 3 = nI (c - min c q) := by
  unfold sh_chg
  rw [upd_ne (by omega), upd_ne (by omega), upd_eq, e, mn_nI hc hq]
  show nI c + -nI (min c q) = _
  rw [← Int32.sub_eq_add_neg]
  exact pk_sub (Nat.min_le_left _ _)
section CPANEL2
variable {g : sh_G} {S S0 : sh_S} {P : Nat → Int32} {sz k b : Nat} {Q : Int32 → sh_S → Prop} {U : sh_S → Prop}
theorem k_countOfWord (hk : k < 7) {t : Nat} (ht : t < 20) {w : Int32} (h : Q (nI (sh_c3 (S (14, k, t) 0) (S (14, k, t) 1) (S (14, k, t) 2) w)) S) : sh_Ci g mX4_countOfWord [sh_R (4, k, t), sh_I w] S sz Q := by
  generalize hf : (fun j => decide (S (14, k, t) j = w)) = f
  have hfe : ∀ j, f j = decide (S (14, k, t) j = w) := fun j => by rw [← hf]
  have h3 : sh_c3 (S (14, k, t) 0) (S (14, k, t) 1) (S (14, k, t) 2) w = sh_cnt f 3 := by
    show _ = 0 + (if f 0 then 1 else 0) + (if f 1 then 1 else 0) + (if f 2 then 1 else 0)
    rw [hfe, hfe, hfe]
    unfold sh_c3
    simp only [decide_eq_true_iff]
    omega
  rw [h3] at h
  refine wp_X4_countOfWord (ok4 hk ht) ⟨fun v i => ∃ j, j ≤ 3 ∧ i = nI j ∧ v = nI (sh_cnt f j), fun _ i => 3 - i.toNatClampNeg, ⟨0, by omega, rfl, rfl⟩, ?_⟩
  rintro _ _ ⟨j, hj, rfl, rfl⟩
  refine wc (fun c => ?_) (fun c => ?_)
  · obtain rfl := lp_end hj (by omega) c
    exact h
  · have hlt := lp_go (by omega) hj c
    rw [nI_clamp (by omega)]
    refine ⟨vp_in_nI (by omega) (by omega), fun c2 => ?_, fun c2 => ?_⟩
    · rintro _ rfl; rw [nI_1 j]
      exact ⟨⟨j + 1, hlt, rfl, by rw [cnt_f (by rw [hfe]; exact decide_eq_false c2)]⟩, mu_lt hlt (by omega)⟩
    · rintro _ rfl _ rfl; rw [nI_1 j, nI_1]
      exact ⟨⟨j + 1, hlt, rfl, by rw [cnt_t (by rw [hfe]; exact decide_eq_true c2)]⟩, mu_lt hlt (by omega)⟩
theorem c3_le {a b c w : Int32} : sh_c3 a b c w ≤ 3 := by
  unfold sh_c3
  split <;> split <;> split <;> omega
theorem k_decision (hk : k < 7) {t : Nat} (ht : t < 20) (ha : sh_w4 (S (14, k, t) 0)) (hb : sh_w4 (S (14, k, t) 1)) (hc : sh_w4 (S (14, k, t) 2)) (h : Q (sh_dec (S (14, k, t) 0) (S (14, k, t) 1) (S (14, k, t) 2)) S) : sh_Ci g mX4_decision [sh_R (4, k, t)] S sz Q := by
  obtain ⟨d1, d2⟩ := dec_c3 ha hb hc
  refine wp_X4_decision (ok4 hk ht) ⟨fun i S' => ∃ j, j ≤ 3 ∧ i = nI j ∧ S = S' ∧ ∀ w, w < j → sh_c3 (S (14, k, t) 0) (S (14, k, t) 1) (S (14, k, t) 2) (nI w) < 2, fun i _ => 3 - i.toNatClampNeg, ⟨0, by omega, rfl, rfl, fun w hw => by omega⟩, ?_⟩
  rintro _ _ ⟨j, hj, rfl, rfl, hlow⟩
  refine wc (fun c => ?_) (fun c => ?_)
  · have := (nI_ltI (a := 2) (b := j) (by omega) (by omega)).mp c
    obtain rfl : j = 3 := by omega
    have d2 := d2 hlow
    have hle : sh_c3 (S (14, k, t) 0) (S (14, k, t) 1) (S (14, k, t) 2) (-1) ≤ 3 := c3_le
    refine wp_X4_countOfSpeakers (ok4 hk ht) (k_countOfWord hk ht ?_)
    rw [show (3 : Int32) - nI _ = nI _ from pk_sub (a := 3) hle]
    refine ⟨fun z => ?_, fun z => ?_⟩
    · have hz : ¬ sh_c3 (S (14, k, t) 0) (S (14, k, t) 1) (S (14, k, t) 2) (-1) = 0 := fun y => z (by rw [y]; rfl)
      rw [d2, if_neg hz] at h
      exact h
    · have hz : sh_c3 (S (14, k, t) 0) (S (14, k, t) 1) (S (14, k, t) 2) (-1) = 0 := by
        have := (nI_eq (b := 3) (by omega) (by omega)).mp z
        omega
      rw [d2, if_pos hz] at h
      exact h
  · have hlt : j < 3 := by
      have : ¬ 2 < j := fun z => c (nI_lt (a := 2) z (by omega))
      omega
    have hle : sh_c3 (S (14, k, t) 0) (S (14, k, t) 1) (S (14, k, t) 2) (nI j) ≤ 3 := c3_le
    refine k_countOfWord hk ht (wc (fun z => ?_) (fun z => ?_))
    · have z := (nI_ltI (b := 2) (by omega) (by omega)).mp z
      rintro _ rfl; rw [nI_1 j]
      refine ⟨⟨j + 1, hlt, rfl, rfl, fun w hw => ?_⟩, mu_lt hlt (by omega)⟩
      by_cases e : w = j
      · rw [e]; exact z
      · exact hlow w (by omega)
    · have z : ¬ sh_c3 (S (14, k, t) 0) (S (14, k, t) 1) (S (14, k, t) 2) (nI j) < 2 := fun y => z (nI_lt (b := 2) y (by omega))
      rw [d1 j hlt (by omega)] at h
      exact h
theorem r_tool_say {n r sd wd pr : Nat → Int32} {j : Nat} {w : Int32} (hj : j < 3) (R : r_tool n r sd wd pr) : r_tool (upd n (15 + j) w) r sd (upd wd j w) pr := by
  obtain ⟨h1, h2, h3, h4⟩ := R
  have hu : ∀ v, v ≠ 15 + j → upd n (15 + j) w v = n v := fun v h => upd_ne h
  refine ⟨?_, ?_, fun i hi => ?_, ?_⟩
  · rw [hu 0 (by omega), hu 1 (by omega), hu 2 (by omega), hu 3 (by omega), hu 4 (by omega), hu 5 (by omega), hu 6 (by omega), hu 7 (by omega), hu 9 (by omega), hu 11 (by omega)]
    exact h1
  · rw [hu 8 (by omega)]; exact h2
  · have := h3 i hi
    rw [hu (12 + i) (by omega)]
    refine ⟨this.1, ?_⟩
    by_cases e : i = j
    · subst e; rw [upd_eq, upd_eq]
    · rw [upd_ne e, hu (15 + i) (by omega)]; exact this.2
  · rw [hu 19 (by omega), hu 20 (by omega), hu 18 (by omega), hu 21 (by omega), hu 22 (by omega)]
    exact h4
/-- said by one who sits there and was silent -/
theorem k_hears (hk : k < 7) (R : sh_RS k P S0 S) (I : sh_IP P b) {t : Nat} (ht : t < nT P) (hp : pt P t 3 = 2) {m w : Int32}
    (h0 : ¬ (¬ sh_pl P t m < 0 ∧ pt P t (15 + (sh_pl P t m).toNatClampNeg) < 0) → Q 0 S)
    (h1 : ∀ j, j < 3 → sh_pl P t m = nI j → pt P t (15 + j) < 0 → Q 1 (sh_sr S (14, k, t) (upd (S (14, k, t)) j w))) : sh_Ci g mX4_hears [sh_R (4, k, t), sh_I m, sh_I w] S sz Q := by
  have htl := I.tl20
  obtain ⟨hseat, hd1, hd2, hd3⟩ := (I.tl t ht).2.2.2.1 hp
  have hneq : ∀ i j, i < 3 → j < 3 → pt P t (12 + i) = m → pt P t (12 + j) = m → i = j := fun i j hi hj e1 e2 => by
    have hd1 : pt P t (12 + 0) ≠ pt P t (12 + 1) := hd1
    have hd2 : pt P t (12 + 0) ≠ pt P t (12 + 2) := hd2
    have hd3 : pt P t (12 + 1) ≠ pt P t (12 + 2) := hd3
    have hi : i = 0 ∨ i = 1 ∨ i = 2 := by omega
    have hj : j = 0 ∨ j = 1 ∨ j = 2 := by omega
    rcases hi with rfl | rfl | rfl <;> rcases hj with rfl | rfl | rfl <;> first
      | rfl
      | exact absurd (e1.trans e2.symm) hd1
      | exact absurd (e1.trans e2.symm) hd2
      | exact absurd (e1.trans e2.symm) hd3
      | exact absurd (e2.trans e1.symm) hd1
      | exact absurd (e2.trans e1.symm) hd2
      | exact absurd (e2.trans e1.symm) hd3
  have hw : ∀ j, j < 3 → (pt P t (15 + j) < 0 ↔ pt P t (15 + j) = -1) := fun j hj => by
    have := (hseat j hj).2
    have e : sh_tr P t (15 + j) = pt P t (15 + j) := rfl
    rw [e] at this
    rcases this with e | ⟨x, hx, e⟩
    · rw [e]; exact ⟨fun _ => rfl, fun _ => by decide⟩
    · rw [e]; exact ⟨fun z => absurd z (nI_pos (by omega)), fun z => absurd z (nI_neg1 (by omega))⟩
  refine wp_X4_hears (ok4 hk (by omega)) ⟨fun i S' => ∃ j, j ≤ 3 ∧ i = nI j ∧ S = S' ∧ ∀ q, q < j → ¬ (pt P t (12 + q) = m ∧ pt P t (15 + q) < 0), fun i _ => 3 - i.toNatClampNeg, ⟨0, by omega, rfl, rfl, fun q hq => by omega⟩, ?_⟩
  rintro _ _ ⟨j, hj, rfl, rfl, hb⟩
  refine wc (fun c => ?_) (fun c => ?_)
  · obtain rfl := lp_end hj (by omega) c
    refine h0 fun z => ?_
    obtain ⟨q, hq, eq, ep⟩ := pl_nat z.1
    rw [ep, nI_clamp (by omega)] at z
    exact hb q hq ⟨eq, z.2⟩
  · have hlt := lp_go (by omega) hj c
    rw [nI_clamp (by omega), R.seat (by omega) hlt, R.word (by omega) hlt]
    have hgo : ¬ (pt P t (12 + j) = m ∧ pt P t (15 + j) < 0) → ∀ x : Int32, x = nI j + 1 → ((∃ j', j' ≤ 3 ∧ x = nI j' ∧ S = S ∧ ∀ q, q < j' → ¬ (pt P t (12 + q) = m ∧ pt P t (15 + q) < 0)) ∧ 3 - x.toNatClampNeg < 3 - (nI j).toNatClampNeg) := fun z => by
      rintro _ rfl; rw [nI_1 j]
      refine ⟨⟨j + 1, hlt, rfl, rfl, fun q hq => ?_⟩, mu_lt hlt (by omega)⟩
      by_cases e : q = j
      · rw [e]; exact z
      · exact hb q (by omega)
    refine ⟨vp_in_nI (by omega) (by omega), fun z => hgo fun y => z y.1, fun z => ⟨vp_in_nI (by omega) (by omega), fun z2 => hgo fun y => z2 ((hw j hlt).mp y.2), fun z2 => ⟨vp_in_nI (by omega) (by omega), ?_⟩⟩⟩
    rintro _ rfl
    refine h1 j hlt (fnd_s hlt (decide_eq_true z) fun q hq => decide_eq_false fun y => ?_) ((hw j hlt).mpr z2)
    have := hneq q j (by omega) hlt y z
    omega
theorem k_vanish (hk : k < 7) {X : Nat → Int32} (R : sh_RS k X S0 S) {t : Nat} (ht : t < 20) (h : ∀ S', sh_RS k (sh_gone X t) S0 S' → U S') : sh_Cu g mX7_vanish [sh_R (7, k, t)] S sz U := by
  refine wp_X7_vanish (ok7 hk ht) ?_
  rintro _ rfl _ rfl
  refine h _ (rs_tool R ht (fun o h1 h2 h3 h4 h5 => by rw [sr_o h4, sr_o h1]) ?_)
  rw [sr_o (o := (5, k, t)) (q := (7, k, t)) (ne_k (by omega)), sh_sr_s, sh_sr_s, sr_o (o := (5, k, t)) (q := (13, k, t)) (ne_k (by omega)), sr_o (o := (7, k, t)) (q := (13, k, t)) (ne_k (by omega)), sr_o (o := (5, k, t)) (q := (14, k, t)) (ne_k (by omega)), sr_o (o := (7, k, t)) (q := (14, k, t)) (ne_k (by omega)), sr_o (o := (7, k, t)) (q := (5, k, t)) (ne_k (by omega))]
  obtain ⟨⟨e0, e1, e2, e3, e4, e5, e6, e7, e8, e9⟩, hh, hs', hq1, hq2, hq3⟩ := R.tol ht
  refine ⟨⟨by simp [upd, e0], by simp [upd, e1], by simp [upd, e2], by simp [upd, e3], by simp [upd], by simp [upd, e5], by simp [upd, e6], by simp [upd, e7], by simp [upd, e8], by simp [upd, e9]⟩, by simpa [upd] using hh, fun j hj => ?_, by simp [upd, hq1], by simp [upd, hq2], .inl ⟨by simp [upd], by simp [upd]⟩⟩
  rw [upd_ne (by omega), upd_ne (by omega), upd_ne (by omega), upd_ne (by omega)]
  exact hs' j hj
theorem k_settle (hk : k < 7) (R : sh_RS k P S0 S) (B : sh_B P) {w : Int32} (i v m : Nat) (hi : i < nT P) (hw : w = 0 ∨ w = 1 ∨ w = 2) (hv : v ≤ 400) (ev : pt P i 1 = nI v) (hm : m < nM P) (em : pt P i 4 = nI m) (hcr : ∀ m, m < 10 → ∃ c, c < 2 ^ 31 ∧ pm P m 3 = nI c) (h1 : 0 < sh_ct2 P (-1)) (h2 : 0 < sh_ct2 P (nI m)) (h : ∀ S', sh_RS k (f_pay P i w) S0 S' → U S') : sh_Cu g mX6_settleLoss [sh_R (6, k, 0), sh_R (7, k, i), sh_I w] S sz U := by
  have htl := B.tl
  have hl := B.ml
  have ev' : P (142 + 23 * i + 1) = nI v := ev
  have em' : P (142 + 23 * i + 4) = nI m := em
  have hk7 : ∀ (n : Nat → Int32), sh_sr S (10, k, m) n (7, k, i) = S (7, k, i) := fun n => sr_o (ne_k (by omega))
  refine wp_X6_settleLoss (ok6 hk) (ok7 hk (by omega)) ?_
  rw [R.who (by omega), R.value (by omega), em', ev']
  unfold f_pay at h
  rw [em, ev, nI_clamp (by omega), nI_clamp (by omega)] at h
  have hct : ∀ n : Nat → Int32, 0 < sh_ct2 (sh_wr P m n) (nI m) := fun n => by
    rw [ct2_congr (P := P) nM_wr (fun q hq hne => by
      have : q ≠ m := fun z => hne (by rw [z])
      show sh_wr _ _ _ _ = 2 ↔ _
      rw [wr_out (by omega)])]
    exact h2
  have hrow := fun q : Int32 => chg_congr (k := 1) (q := q) (by omega) (rs_row R (m := m) (by omega))
  rcases hw with rfl | rfl | rfl
  · rw [if_pos rfl] at h
    refine ⟨fun _ => ⟨fun _ => k_has hk R B ?_, fun z => absurd z (by decide)⟩, fun z => absurd z (by decide)⟩
    rw [B.mB_i hm]
    refine wf (by decide) ⟨?_, ?_⟩
    · rw [R.who (by omega), em']; exact vp_in_nI (by omega) (by omega)
    · rw [R.who (by omega), R.value (by omega), em', ev', nI_clamp (by omega), Int32.sub_zero]
      refine k_charge hk (by omega) 1 rfl (by omega) ⟨fun _ => ?_, fun z => absurd z (by decide)⟩
      rw [hk7, R.who (by omega), em']
      have R1 := rs_mem R (m := m) (by omega) (hrow (nI v))
      refine k_share hk R1 (B_wr B _ _) 0 1 rfl (by omega) rfl (by omega) (hct _) fun S2 R2 => ?_
      rw [share_0 (by omega) fun q hq _ => ?_] at R2
      · exact k_vanish hk R2 (by omega) h
      · obtain ⟨c, hc, ec⟩ := hcr q hq
        by_cases e : q = m
        · subst e
          have : pm (sh_wr P q (sh_chg (sh_row P q) 1 (nI v))) q 3 = nI (c - min c v) := (wr_at _ _ _ _ (by omega)).trans (chg_3 hc (by omega) ec)
          rw [this]; exact nI_pos (by omega)
        · have : pm (sh_wr P m (sh_chg (sh_row P m) 1 (nI v))) q 3 = pm P q 3 := wr_out (by omega)
          rw [this, ec]; exact nI_pos hc
  · rw [if_neg (by decide), if_pos rfl] at h
    refine ⟨fun z => absurd rfl z, fun _ => ?_⟩
    rintro _ rfl
    refine k_has hk R B ?_
    rw [B.mB_i hm]
    refine wf (by decide) ⟨?_, ?_⟩
    · rw [R.who (by omega), em']; exact vp_in_nI (by omega) (by omega)
    · rw [R.who (by omega), R.value (by omega), em', ev', nI_clamp (by omega), Int32.sub_self]
      refine k_charge hk (by omega) 1 rfl (by omega) ⟨fun z => absurd rfl z, fun _ => ?_⟩
      have R1 : sh_RS k P S0 (sh_sr S (10, k, m) (sh_chg (S (10, k, m)) 1 0)) := by
        have R1 := rs_mem R (m := m) (by omega) (hrow 0)
        obtain ⟨c, hc, ec⟩ := hcr m (by omega)
        rw [chg_0 (show ¬ sh_row P m 3 < 0 by rw [show sh_row P m 3 = nI c from ec]; exact nI_pos hc), wr_row] at R1
        exact R1
      exact k_share hk R1 B v 1 rfl (by omega) rfl (by omega) h1 fun S2 R2 => k_vanish hk R2 (by omega) h
  · rw [if_neg (by decide), if_neg (by decide)] at h
    refine ⟨fun _ => ⟨fun z => absurd rfl z, fun _ => ?_⟩, fun z => absurd z (by decide)⟩
    rw [show nI v / 2 = nI (v / 2) from pk_div (d := 2) (by omega) (by omega) (by omega)]
    rintro _ rfl
    refine k_has hk R B ?_
    rw [B.mB_i hm]
    refine wf (by decide) ⟨?_, ?_⟩
    · rw [R.who (by omega), em']; exact vp_in_nI (by omega) (by omega)
    · rw [R.who (by omega), R.value (by omega), em', ev', nI_clamp (by omega)]
      refine k_charge hk (by omega) 1 rfl (by omega) ⟨fun _ => ?_, fun z => absurd z (by decide)⟩
      rw [hk7, R.who (by omega), em']
      have R1 := rs_mem R (m := m) (by omega) (hrow (nI v - nI (v / 2)))
      rw [show nI v / 2 = nI (v / 2) from pk_div (d := 2) (by omega) (by omega) (by omega)] at h
      exact k_share hk R1 (B_wr B _ _) (v / 2) 1 rfl (by omega) rfl (by omega) (hct _) fun S2 R2 => k_vanish hk R2 (by omega) h
theorem cr_all (I : sh_IP P b) (hb : b < 2 ^ 30) : ∀ m, m < 10 → ∃ c, c < 2 ^ 31 ∧ pm P m 3 = nI c := fun m hm => by
  obtain ⟨c, h1, h2⟩ := cr_nat I.cr hm
  exact ⟨c, by omega, h2⟩
theorem k_hearPanel (hk : k < 7) (hb : b < 2 ^ 30) (R : sh_RS k P S0 S) (I : sh_IP P b) {t m w : Int32} (h : sh_kg Q k S0 S (o_say P t m w)) : sh_Ci g mX6_hearPanel [sh_R (6, k, 0), sh_I t, sh_I m, sh_I w] S sz Q := by
  unfold o_say at h
  have htl := I.tl20
  have hl := I.ml
  refine wp_X6_hearPanel (ok6 hk) (k_hasTool hk R I.B (wb (fun c => ?_) (fun c => k_has hk R I.B (wb (fun c2 => ?_) (fun c2 => wc (fun c3 => ?_) (fun c3 => wc (fun c4 => ?_) (fun c4 => ?_)))))))
  · rw [if_neg (ff_h c)] at h
    exact h.1 (show (-1000001 : Int32) < 0 by decide)
  · rw [if_neg (ff_m c2)] at h
    exact h.1 (show (-1000001 : Int32) < 0 by decide)
  · rw [if_neg (ff_m2 (inb_f1 c3))] at h
    exact h.1 (show (-1000001 : Int32) < 0 by decide)
  · rw [if_pos ⟨c, c2, inb_t1 c3 c4⟩] at h
    obtain ⟨x, hx, rfl⟩ := nI_of2 (n := 2) (M := 2) rfl c3 c4
    obtain ⟨i, hi, rfl⟩ := I.B.tB_t c
    rw [nI_clamp (n := i) (by omega)] at h
    have hno : ¬ (pt P i 3 = 2 ∧ ¬ sh_pl P i m < 0 ∧ pt P i (15 + (sh_pl P i m).toNatClampNeg) < 0) → Q (-1000002) S := fun z => by
      rw [if_neg z] at h
      exact h.1 (show (-1000002 : Int32) < 0 by decide)
    refine ⟨vp_in_nI (by omega) (by omega), ?_⟩
    rw [nI_clamp (by omega), R.place (by omega)]
    refine ⟨fun z => hno fun y => z y.1, fun z1 => k_hears hk R I hi z1 (fun z => wt' rfl (hno fun y => z y.2)) (fun j hj ep z3 => wf' (by decide) ?_)⟩
    rw [ep, nI_clamp (by omega)] at h
    rw [if_pos ⟨z1, nI_pos (by omega), z3⟩] at h
    dsimp only at h
    have R1 : sh_RS k (sh_wt P i (upd (sh_tr P i) (15 + j) (nI x))) S0 (sh_sr S (14, k, i) (upd (S (14, k, i)) j (nI x))) := by
      refine rs_tool R (by omega) (fun o h1 h2 h3 h4 h5 => sr_o h3) ?_
      rw [sr_o (ne_k (by omega)), sr_o (ne_k (by omega)), sh_sr_s, sr_o (ne_k (by omega))]
      exact r_tool_say hj (R.tol (by omega))
    obtain ⟨hseat, _⟩ := (I.tl i hi).2.2.2.1 z1
    generalize hX : sh_wt P i (upd (sh_tr P i) (15 + j) (nI x)) = X at h R1
    have hwd : ∀ q, q < 3 → sh_w4 (pt X i (15 + q)) := fun q hq => by
      have e : pt X i (15 + q) = upd (sh_tr P i) (15 + j) (nI x) (15 + q) := by rw [← hX]; exact wt_at _ _ _ _ (by omega)
      rw [e]
      by_cases ej : q = j
      · subst ej; rw [upd_eq]; exact w4_of (.inr ⟨x, hx, rfl⟩)
      · rw [upd_ne (by omega)]; exact w4_of (hseat q hq).2
    have hw0 := hwd 0 (by omega)
    have hw1 := hwd 1 (by omega)
    have hw2 := hwd 2 (by omega)
    have hd := dec_4 hw0 hw1 hw2
    have e0 := R1.word (t := i) (j := 0) (by omega) (by omega)
    have e1 := R1.word (t := i) (j := 1) (by omega) (by omega)
    have e2 := R1.word (t := i) (j := 2) (by omega) (by omega)
    have hT : nT X = nT P := by rw [← hX, nT_wt]
    have hM : nM X = nM P := by rw [← hX, nM_wt]
    have hpm : ∀ q, q < 10 → ∀ w, w < 12 → pm X q w = pm P q w := fun q hq w hw => by rw [← hX]; exact wt_out (by omega)
    have hpt : ∀ v, v < 15 → pt X i v = pt P i v := fun v hv => by
      rw [← hX]
      show sh_wt _ _ _ _ = _
      rw [wt_at _ _ _ _ (by omega), upd_ne (by omega)]
      rfl
    refine k_decision hk (by omega) (by rw [e0]; exact hw0) (by rw [e1]; exact hw1) (by rw [e2]; exact hw2) ?_
    rw [e0, e1, e2]
    have hnn : ¬ sh_dec (pt X i 15) (pt X i 16) (pt X i 17) < 0 := dec_nn
    have hd : sh_dec (pt X i 15) (pt X i 16) (pt X i 17) = 0 ∨ sh_dec (pt X i 15) (pt X i 16) (pt X i 17) = 1 ∨ sh_dec (pt X i 15) (pt X i 16) (pt X i 17) = 2 ∨ sh_dec (pt X i 15) (pt X i 16) (pt X i 17) = 3 := hd
    show (sh_dec (pt X i 15) (pt X i 16) (pt X i 17) = 3 → _) ∧ (¬ sh_dec (pt X i 15) (pt X i 16) (pt X i 17) = 3 → _)
    generalize sh_dec (pt X i 15) (pt X i 16) (pt X i 17) = d at *
    refine ⟨fun z => ?_, fun z => ?_⟩
    · rw [if_neg (by rw [z]; decide)] at h
      exact kg_pos h hnn _ R1
    · have hd3 : d = 0 ∨ d = 1 ∨ d = 2 := by
        rcases hd with y | y | y | y
        · exact .inl y
        · exact .inr (.inl y)
        · exact .inr (.inr y)
        · exact absurd y z
      rw [if_pos (by rcases hd3 with y | y | y <;> rw [y] <;> decide)] at h
      have hr := I.tl i hi
      obtain ⟨v, hv1, hv, ev⟩ := hr.1.2.1
      obtain ⟨y, hy, ey⟩ := hr.2.1.2.1 (.inr z1)
      obtain ⟨s0, hs0, es0, hg0, hne0⟩ := I.ls i hi z1 0 (by omega)
      have ey : pt P i 4 = nI y := ey
      rw [ey] at hne0
      refine k_settle hk R1 (by rw [← hX]; exact B_wt I.B _ _) i v y (by rw [hT]; exact hi) hd3 hv (by rw [hpt 1 (by omega)]; exact ev) (by rw [hM]; exact hy) (by rw [hpt 4 (by omega)]; exact ey) (fun q hq => ?_)
        (ct2_pos (m := s0) (by rw [hM]; exact hs0) (nI_neg1 (by omega)) (by rw [hpm s0 (by omega) 0 (by omega)]; exact hg0)) (ct2_pos (m := s0) (by rw [hM]; exact hs0) hne0 (by rw [hpm s0 (by omega) 0 (by omega)]; exact hg0)) (kg_pos h hnn)
      rw [hpm q hq 3 (by omega)]
      exact cr_all I hb q hq
  · rw [if_neg (ff_m2 (inb_f2 c4))] at h
    exact h.1 (show (-1000001 : Int32) < 0 by decide)
theorem k_findTool (hk : k < 7) (R : sh_RS k P S0 S) (I : sh_IP P b) {t : Int32} (h : sh_kg Q k S0 S (o_find P t)) : sh_Ci g mX6_findTool [sh_R (6, k, 0), sh_I t] S sz Q := by
  unfold o_find at h
  have htl := I.tl20
  refine wp_X6_findTool (ok6 hk) (k_hasTool hk R I.B (wb' (fun c => ?_) (fun c => ?_)))
  · rw [if_neg (by rw [c]; decide)] at h
    exact h.1 (show (-1000001 : Int32) < 0 by decide)
  · obtain ⟨i, hi, rfl⟩ := I.B.tB_t c
    rw [if_pos c, nI_clamp (by omega)] at h
    refine ⟨vp_in_nI (by omega) (by omega), ?_⟩
    rw [nI_clamp (by omega), R.place (by omega)]
    refine ⟨fun z => ⟨vp_in_nI (by omega) (by omega), ?_⟩, fun z => ?_⟩
    · rw [if_pos z] at h
      rintro _ rfl
      refine ⟨vp_in_nI (by omega) (by omega), ?_⟩
      obtain ⟨hseat, _⟩ := (I.tl i hi).2.2.2.1 z
      have R1 : sh_RS k (sh_wt P i (upd (sh_tr P i) 3 0)) S0 (sh_sr S (7, k, i) (upd (S (7, k, i)) 4 0)) := by
        refine rs_tool R (by omega) (fun o h1 h2 h3 h4 h5 => sr_o h1) ?_
        rw [sh_sr_s, sr_o (ne_k (by omega)), sr_o (ne_k (by omega)), sr_o (ne_k (by omega))]
        obtain ⟨⟨e0, e1, e2, e3, e4, e5, e6, e7, e8, e9⟩, hh, hs', hq'⟩ := R.tol (t := i) (by omega)
        exact r_tool_mk (R.tol (by omega)) ⟨by simp [upd, e0], by simp [upd, e1], by simp [upd, e2], by simp [upd, e3], by simp [upd], by simp [upd, e5], by simp [upd, e6], by simp [upd, e7], by simp [upd, e8], by simp [upd, e9]⟩ (by simpa [upd] using hh) fun w h1 h2 => upd_ne (by omega)
      refine wp_X4_countOfSpeakers (ok4 hk (by omega)) (k_countOfWord hk (by omega) ?_)
      rw [sr_o (o := (7, k, i)) (q := (14, k, i)) (ne_k (by omega)), R.word (by omega) (by omega), R.word (by omega) (by omega), R.word (by omega) (by omega)]
      have e : (3 : Int32) - nI (sh_c3 (P (142 + 23 * i + (15 + 0))) (P (142 + 23 * i + (15 + 1))) (P (142 + 23 * i + (15 + 2))) (-1)) = nI (sh_cnt (sh_spk P i) 3) := by
        have hw : ∀ j, j < 3 → sh_w4 (P (142 + 23 * i + (15 + j))) := fun j hj => w4_of (hseat j hj).2
        rw [spk_c3 (hw 0 (by omega)) (hw 1 (by omega)) (hw 2 (by omega))]
        congr 1
        show _ = 0 + (if sh_spk P i 0 = true then 1 else 0) + (if sh_spk P i 1 = true then 1 else 0) + (if sh_spk P i 2 = true then 1 else 0)
        unfold sh_spk
        simp only [decide_eq_true_iff]
        rw [Nat.zero_add]
      rw [e]
      exact kg_pos h (nI_pos (Nat.lt_of_le_of_lt (cnt_le _ 3) (by decide))) _ R1
    · rw [if_neg z] at h
      exact h.1 (show (-1000002 : Int32) < 0 by decide)
theorem k_tellOfPanel (hk : k < 7) (R : sh_RS k P S0 S) (I : sh_IP P b) {t x w : Int32} (h : Q (q_panelAt P t x w) S) : sh_Ci g mX6_tellOfPanel [sh_R (6, k, 0), sh_I t, sh_I x, sh_I w] S sz Q := by
  unfold q_panelAt at h
  have htl := I.tl20
  have hl := I.ml
  refine wp_X6_tellOfPanel (ok6 hk) (k_hasTool hk R I.B (wb (fun c => ?_) (fun c => wc (fun c2 => ?_) (fun c2 => wc (fun c3 => ?_) (fun c3 => wc (fun c4 => ?_) (fun c4 => wc (fun c5 => ?_) (fun c5 => ?_)))))))
  · rwa [if_neg (ff_h c)] at h
  · rwa [if_neg (ff_m (inb_f1 c2))] at h
  · rwa [if_neg (ff_m (inb_f2 fun z => absurd (Int32.le_trans c3 z) (by decide)))] at h
  · rwa [if_neg (ff_m2 (inb_f1 c4))] at h
  · obtain ⟨y, hy, rfl⟩ := nI_ex (n := 3) (by omega) (Int32.not_lt.mp c2) (Int32.not_le.mp c3)
    have hy2 : inb (nI y) 0 2 = true := decide_eq_true ⟨nI_pos' (by omega), nI_le (b := 2) (by omega) (by omega)⟩
    rw [if_pos ⟨c, hy2, inb_t1 c4 c5⟩] at h
    obtain ⟨i, hi, rfl⟩ := I.B.tB_t c
    rw [nI_clamp (n := i) (by omega), nI_clamp (n := y) (by omega)] at h
    refine ⟨vp_in_nI (by omega) (by omega), ?_⟩
    rw [nI_clamp (n := i) (by omega), nI_clamp (n := y) (by omega), R.place (by omega), R.seat (by omega) hy, R.word (by omega) hy]
    refine ⟨fun z => ⟨vp_in_nI (by omega) (by omega), ?_⟩, fun z => ?_⟩
    · obtain ⟨hseat, _⟩ := (I.tl i hi).2.2.2.1 z
      obtain ⟨⟨q, hq, eq⟩, hwd⟩ := hseat y hy
      have eq : pt P i (12 + y) = nI q := eq
      have ew : sh_tr P i (15 + y) = pt P i (15 + y) := rfl
      rw [ew] at hwd
      refine ⟨fun z2 => ⟨vp_in_nI (by omega) (by omega), ?_⟩, fun z2 => ⟨vp_in_nI (by omega) (by omega), ?_⟩⟩
      · rw [if_neg z2] at h
        refine ⟨fun z3 => ⟨vp_in_nI (by omega) (by omega), ?_⟩, fun z3 => ?_⟩
        · rcases hwd with e | ⟨v, hv, e⟩
          · exact absurd e z3
          · rw [if_pos ⟨z, by rw [e]; exact nI_pos (by omega)⟩] at h
            exact h
        · rw [if_neg (fun y => y.2 (by rw [show pt P i (15 + _) = -1 from z3]; decide))] at h
          exact h
      · rw [if_pos z2] at h
        rw [if_pos ⟨z, by rw [eq]; exact nI_pos (by omega)⟩] at h
        exact h
    · rwa [if_neg (fun y => z y.1)] at h
  · rwa [if_neg (ff_m2 (inb_f2 c5))] at h
end CPANEL2
