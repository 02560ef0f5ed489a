/-! what holds of a page goes on: all but what members have and owe -/
def sh_IS (P : Nat → Int32) : Prop := (sh_B P ∧ i_set P ∧ i_st P ∧ i_mz P ∧ i_tz P) ∧ i_tn P ∧ i_tl P ∧ i_hk P ∧ i_ls P
theorem sh_IP.S {P : Nat → Int32} {b : Nat} (I : sh_IP P b) : sh_IS P := ⟨I.1, I.2.1, I.tl, I.hk, I.ls⟩
theorem IP_of {P : Nat → Int32} {b : Nat} (I : sh_IS P) (h : i_cr P b) : sh_IP P b := ⟨I.1, I.2.1, h, I.2.2⟩
theorem sh_IS.B {P : Nat → Int32} (I : sh_IS P) : sh_B P := I.1.1
theorem sh_IS.s {P : Nat → Int32} (I : sh_IS P) : i_set P := I.1.2.1
theorem sh_IS.st {P : Nat → Int32} (I : sh_IS P) : i_st P := I.1.2.2.1
theorem sh_IS.mz {P : Nat → Int32} (I : sh_IS P) : i_mz P := I.1.2.2.2.1
theorem sh_IS.tz {P : Nat → Int32} (I : sh_IS P) : i_tz P := I.1.2.2.2.2
theorem sh_IS.tn {P : Nat → Int32} (I : sh_IS P) : i_tn P := I.2.1
theorem sh_IS.tl {P : Nat → Int32} (I : sh_IS P) : i_tl P := I.2.2.1
theorem sh_IS.hk {P : Nat → Int32} (I : sh_IS P) : i_hk P := I.2.2.2.1
theorem sh_IS.ls {P : Nat → Int32} (I : sh_IS P) : i_ls P := I.2.2.2.2
/-- credits sum to at most a, debts are at most d each -/
def i_c2 (P : Nat → Int32) (a d : Nat) : Prop := (∃ c : Nat → Nat, (∀ m, m < 10 → pm P m 3 = nI (c m)) ∧ sh_sum c 10 ≤ a) ∧ ∀ m, m < 10 → ∀ k, k < 3 → ∃ o, o ≤ d ∧ pm P m (8 + k) = nI o
theorem c2_cr {P : Nat → Int32} {b : Nat} : i_cr P b ↔ i_c2 P b b := Iff.rfl
theorem c2_mono {P : Nat → Int32} {a d a' d' : Nat} (h : i_c2 P a d) (ha : a ≤ a') (hd : d ≤ d') : i_c2 P a' d' := by
  obtain ⟨⟨c, h1, h2⟩, h3⟩ := h
  refine ⟨⟨c, h1, Nat.le_trans h2 ha⟩, fun m hm k hk => ?_⟩
  obtain ⟨o, h4, h5⟩ := h3 m hm k hk
  exact ⟨o, Nat.le_trans h4 hd, h5⟩
theorem IP_mono {P : Nat → Int32} {b b' : Nat} (I : sh_IP P b) (h : b ≤ b') : sh_IP P b' := IP_of I.S (c2_mono I.cr h h)
theorem c2_congr {P P' : Nat → Int32} {a d : Nat} (h : ∀ m, m < 10 → pm P' m 3 = pm P m 3 ∧ pm P' m 8 = pm P m 8 ∧ pm P' m 9 = pm P m 9 ∧ pm P' m 10 = pm P m 10) (H : i_c2 P a d) : i_c2 P' a d := by
  obtain ⟨⟨c, h1, h2⟩, h3⟩ := H
  refine ⟨⟨c, fun m hm => (h m hm).1.trans (h1 m hm), h2⟩, fun m hm k hk => ?_⟩
  obtain ⟨o, h4, h5⟩ := h3 m hm k hk
  refine ⟨o, h4, ?_⟩
  have hk : k = 0 ∨ k = 1 ∨ k = 2 := by omega
  rcases hk with rfl | rfl | rfl
  · exact (h m hm).2.1.trans h5
  · exact (h m hm).2.2.1.trans h5
  · exact (h m hm).2.2.2.trans h5
theorem sum_put (c : Nat → Nat) {m v : Nat} : ∀ n, m < n → sh_sum (fun i => if i = m then v else c i) n + c m = sh_sum c n + v
  | 0, h => absurd h (Nat.not_lt_zero _)
  | n + 1, h => by
    show sh_sum (fun i => if i = m then v else c i) n + (if n = m then v else c n) + c m = sh_sum c n + c n + v
    by_cases e : n = m
    · subst e
      rw [if_pos rfl]
      have : ∀ k, k ≤ n → sh_sum (fun i => if i = n then v else c i) k = sh_sum c k := by
        intro k
        induction k with
        | zero => intro _; rfl
        | succ k ih =>
          intro hk
          show sh_sum (fun i => if i = n then v else c i) k + (if k = n then v else c k) = sh_sum c k + c k
          rw [ih (by omega), if_neg (by omega)]
      rw [this n (Nat.le_refl _)]
      omega
    · rw [if_neg e]
      have := sum_put c (m := m) (v := v) n (by omega)
      omega
/-- one member's row is written -/
theorem c2_wr {P : Nat → Int32} {a d a' d' m v : Nat} {n : Nat → Int32} (H : i_c2 P a d) (hm : m < 10) (c0 : Nat) (e0 : pm P m 3 = nI c0) (hc0 : c0 < 2 ^ 31) (h3 : n 3 = nI v) (ha : a + v ≤ a' + c0) (hab : a < 2 ^ 31) (hd : d ≤ d') (ho : ∀ k, k < 3 → ∃ o, o ≤ d' ∧ n (8 + k) = nI o) : i_c2 (sh_wr P m n) a' d' := by
  obtain ⟨⟨c, h1, h2⟩, h4⟩ := H
  have hcm : c m = c0 := by
    have h5 := sum_ge c hm
    exact (nI_eq (by omega) hc0).mp ((h1 m hm).symm.trans e0)
  refine ⟨⟨fun i => if i = m then v else c i, fun i hi => ?_, ?_⟩, fun i hi k hk => ?_⟩
  · show sh_wr P m n (22 + 12 * i + 3) = nI (if i = m then v else c i)
    by_cases e : i = m
    · subst e; rw [wr_at _ _ _ _ (by omega), if_pos rfl]; exact h3
    · rw [wr_out (by omega), if_neg e]; exact h1 i hi
  · have := sum_put c (m := m) (v := v) 10 hm
    omega
  · show ∃ o, o ≤ d' ∧ sh_wr P m n (22 + 12 * i + (8 + k)) = nI o
    by_cases e : i = m
    · subst e; rw [wr_at _ _ _ _ (by omega)]; exact ho k hk
    · rw [wr_out (by omega)]
      obtain ⟨o, h5, h6⟩ := h4 i hi k hk
      exact ⟨o, by omega, h6⟩
theorem pks_nat {n : Nat → Int32} {o : Nat → Nat} {q : Nat} (ho : ∀ k, k < 3 → n (8 + k) = nI (o k) ∧ o k < 2 ^ 31) (hq : q < 2 ^ 31) : ∀ j, j ≤ 3 → ∃ L, L ≤ q ∧ (sh_pks (n, nI q) j).2 = nI L ∧ ∀ k, k < 3 → ∃ o', o' ≤ o k ∧ (sh_pks (n, nI q) j).1 (8 + k) = nI o'
  | 0, _ => ⟨q, Nat.le_refl _, rfl, fun k hk => ⟨o k, Nat.le_refl _, (ho k hk).1⟩⟩
  | j + 1, hj => by
    obtain ⟨L, h1, h2, h3⟩ := pks_nat ho hq j (by omega)
    obtain ⟨x, hx, ex⟩ := h3 j (by omega)
    have hxo := (ho j (by omega)).2
    show ∃ L, L ≤ q ∧ (sh_pk j (sh_pks (n, nI q) j)).2 = nI L ∧ ∀ k, k < 3 → ∃ o', o' ≤ o k ∧ (sh_pk j (sh_pks (n, nI q) j)).1 (8 + k) = nI o'
    generalize sh_pks (n, nI q) j = y at h2 h3 ex ⊢
    have hmin : sh_mn (y.1 (8 + j)) y.2 = nI (min x L) := by rw [ex, h2, mn_nI (by omega) (by omega)]
    refine ⟨L - min x L, by omega, ?_, fun k hk => ?_⟩
    · unfold sh_pk
      dsimp only
      rw [hmin, h2]
      exact pk_sub (Nat.min_le_right _ _)
    · unfold sh_pk
      dsimp only
      rw [hmin]
      by_cases e : k = j
      · subst e
        refine ⟨x - min x L, by omega, ?_⟩
        rw [upd_ne (by omega), upd_eq, ex, ← Int32.sub_eq_add_neg]
        exact pk_sub (Nat.min_le_left _ _)
      · obtain ⟨o', h4, h5⟩ := h3 k hk
        refine ⟨o', h4, ?_⟩
        rw [upd_ne (by omega), upd_ne (by omega)]
        exact h5
theorem gain_nat {n : Nat → Int32} {w q c d : Nat} (hw : w < 3) (ho : ∀ k, k < 3 → ∃ o, o ≤ d ∧ n (8 + k) = nI o) (hd : d < 2 ^ 31) (hq : q < 2 ^ 31) (hc : n 3 = nI c) : ∃ v, v ≤ c + q ∧ sh_gain n w (nI q) 3 = nI v ∧ ∀ k, k < 3 → ∃ o, o ≤ d ∧ sh_gain n w (nI q) (8 + k) = nI o := by
  have ho' : ∃ o : Nat → Nat, ∀ k, k < 3 → o k ≤ d ∧ n (8 + k) = nI (o k) := by
    obtain ⟨o0, h0⟩ := ho 0 (by omega)
    obtain ⟨o1, h1⟩ := ho 1 (by omega)
    obtain ⟨o2, h2⟩ := ho 2 (by omega)
    refine ⟨fun k => if k = 0 then o0 else if k = 1 then o1 else o2, fun k hk => ?_⟩
    have hk : k = 0 ∨ k = 1 ∨ k = 2 := by omega
    rcases hk with rfl | rfl | rfl
    · exact h0
    · exact h1
    · exact h2
  obtain ⟨o, ho⟩ := ho'
  have hn : ∀ k, k < 3 → upd n w (n w + nI q) (8 + k) = nI (o k) ∧ o k < 2 ^ 31 := fun k hk => ⟨by rw [upd_ne (by omega)]; exact (ho k hk).2, by have := (ho k hk).1; omega⟩
  obtain ⟨L, h1, h2, h3⟩ := pks_nat hn hq 3 (by omega)
  refine ⟨c + L, by omega, ?_, fun k hk => ?_⟩
  · unfold sh_gain sh_pay
    rw [upd_eq, pks_ne (by omega) 3 (by omega), h2]
    show upd n w (n w + nI q) 3 + _ = _
    by_cases e : w = 3
    · omega
    · rw [upd_ne (by omega), hc, nI_add]
  · obtain ⟨o', h4, h5⟩ := h3 k hk
    refine ⟨o', by have := (ho k hk).1; omega, ?_⟩
    unfold sh_gain sh_pay
    rw [upd_ne (by omega)]
    exact h5
theorem chg_nat {n : Nat → Int32} {kd q c d : Nat} (hkd : kd < 3) (ho : ∀ k, k < 3 → ∃ o, o ≤ d ∧ n (8 + k) = nI o) (hq : q < 2 ^ 31) (hc : n 3 = nI c) (hc2 : c < 2 ^ 31) : ∃ v, v ≤ c ∧ sh_chg n kd (nI q) 3 = nI v ∧ ∀ k, k < 3 → ∃ o, o ≤ d + q ∧ sh_chg n kd (nI q) (8 + k) = nI o := by
  refine ⟨c - min c q, by omega, chg_3 hc2 hq hc, fun k hk => ?_⟩
  obtain ⟨o, h1, h2⟩ := ho k hk
  unfold sh_chg
  by_cases e : k = kd
  · subst e
    refine ⟨o + (q - min c q), by omega, ?_⟩
    rw [upd_eq, h2, hc, mn_nI hc2 hq, pk_sub (Nat.min_le_right _ _), nI_add]
  · exact ⟨o, by omega, by rw [upd_ne (by omega), upd_ne (by omega), upd_ne (by omega)]; exact h2⟩
theorem c2_nat {P : Nat → Int32} {a d m : Nat} (h : i_c2 P a d) (hm : m < 10) : ∃ c, c ≤ a ∧ pm P m 3 = nI c := by
  obtain ⟨⟨c, h1, h2⟩, _⟩ := h
  exact ⟨c m, Nat.le_trans (sum_ge c hm) h2, h1 m hm⟩
theorem c2_gain {P : Nat → Int32} {a d m w q : Nat} (H : i_c2 P a d) (hm : m < 10) (hw : w < 3) (ha : a < 2 ^ 31) (hd : d < 2 ^ 31) (hq : q < 2 ^ 31) : i_c2 (sh_wr P m (sh_gain (sh_row P m) w (nI q))) (a + q) d := by
  obtain ⟨c, hc, ec⟩ := c2_nat H hm
  obtain ⟨v, h1, h2, h3⟩ := gain_nat (n := sh_row P m) hw (fun k hk => H.2 m hm k hk) hd hq ec
  exact c2_wr H hm c ec (by omega) h2 (by omega) ha (Nat.le_refl _) h3
theorem c2_chg {P : Nat → Int32} {a d m kd q : Nat} (H : i_c2 P a d) (hm : m < 10) (hkd : kd < 3) (ha : a < 2 ^ 31) (hq : q < 2 ^ 31) : i_c2 (sh_wr P m (sh_chg (sh_row P m) kd (nI q))) a (d + q) := by
  obtain ⟨c, hc, ec⟩ := c2_nat H hm
  obtain ⟨v, h1, h2, h3⟩ := chg_nat (n := sh_row P m) hkd (fun k hk => H.2 m hm k hk) hq ec (by omega)
  exact c2_wr H hm c ec (by omega) h2 (by omega) ha (by omega) h3
theorem c2_act {P : Nat → Int32} {a d m kd q : Nat} (H : i_c2 P a d) (hm : m < 10) (hkd : kd ≤ 3) (ha : a < 2 ^ 31) (hd : d < 2 ^ 31) (hq : q < 2 ^ 31) : i_c2 (sh_wr P m (sh_act (sh_row P m) kd (nI q))) (if kd = 3 then a + q else a) (if kd = 3 then d else d + q) := by
  unfold sh_act
  by_cases e : kd = 3
  · rw [if_pos e, if_pos e, if_pos e]; exact c2_gain H hm (by omega) ha hd hq
  · rw [if_neg e, if_neg e, if_neg e]; exact c2_chg H hm (by omega) ha hq
theorem cnt_rot (f : Nat → Bool) {z : Nat} (hz : z < 10) : sh_cnt (fun k => f ((z + k) % 10)) 10 = sh_cnt f 10 := by
  have e : ∀ h : Nat → Bool, sh_cnt h 10 = 0 + (if h 0 then 1 else 0) + (if h 1 then 1 else 0) + (if h 2 then 1 else 0) + (if h 3 then 1 else 0) + (if h 4 then 1 else 0) + (if h 5 then 1 else 0) + (if h 6 then 1 else 0) + (if h 7 then 1 else 0) + (if h 8 then 1 else 0) + (if h 9 then 1 else 0) := fun h => rfl
  rw [e, e]
  have : z = 0 ∨ z = 1 ∨ z = 2 ∨ z = 3 ∨ z = 4 ∨ z = 5 ∨ z = 6 ∨ z = 7 ∨ z = 8 ∨ z = 9 := by omega
  rcases this with rfl | rfl | rfl | rfl | rfl | rfl | rfl | rfl | rfl | rfl <;> simp only [Nat.reduceAdd, Nat.reduceMod] <;> omega
theorem cnt_mono {f : Nat → Bool} {j : Nat} : ∀ n, j ≤ n → sh_cnt f j ≤ sh_cnt f n
  | 0, h => by obtain rfl : j = 0 := by omega
               exact Nat.le_refl _
  | n + 1, h => by
    by_cases e : j = n + 1
    · rw [e]; exact Nat.le_refl _
    · exact Nat.le_trans (cnt_mono n (by omega)) (Nat.le_add_right _ _)
/-- a step of sharing, and all of it -/
theorem c2_sn {P : Nat → Int32} {but : Int32} {kd e l z a d : Nat} (H : i_c2 P a d) (hkd : kd ≤ 3) (q : Nat) (hq : e * sh_cnt (fun k => sh_tk P but ((z + k) % 10)) 10 + l ≤ q) (hb : a + q < 2 ^ 31) (hb2 : d + q < 2 ^ 31) : ∀ j, j ≤ 10 → ∃ s, s + (sh_snn P but kd e l z j).2 ≤ e * sh_cnt (fun k => sh_tk P but ((z + k) % 10)) j + l ∧ i_c2 (sh_snn P but kd e l z j).1 (if kd = 3 then a + s else a) (if kd = 3 then d else d + s)
  | 0, _ => ⟨0, by show 0 + l ≤ e * 0 + l; omega, by
    show i_c2 P _ _
    rw [Nat.add_zero, Nat.add_zero, ite_self, ite_self]; exact H⟩
  | j + 1, hj => by
    obtain ⟨s, h1, h3⟩ := c2_sn H hkd q hq hb hb2 j (by omega)
    have hlt : (z + j) % 10 < 10 := Nat.mod_lt _ (by omega)
    have hmj := Nat.mul_le_mul_left e (cnt_mono (f := fun k => sh_tk P but ((z + k) % 10)) (j := j + 1) 10 hj)
    show ∃ s, s + (sh_s1 P but kd e z (sh_snn P but kd e l z j) j).2 ≤ _ ∧ i_c2 (sh_s1 P but kd e z (sh_snn P but kd e l z j) j).1 _ _
    generalize sh_snn P but kd e l z j = x at h1 h3 ⊢
    unfold sh_s1
    by_cases c : sh_tk P but ((z + j) % 10) = true
    · rw [if_pos c]
      rw [cnt_t (f := fun k => sh_tk P but ((z + k) % 10)) c] at hmj ⊢
      dsimp only
      rw [Nat.mul_add, Nat.mul_one] at hmj ⊢
      generalize e * sh_cnt (fun k => sh_tk P but ((z + k) % 10)) j = T at h1 hmj ⊢
      have hA : i_c2 (if 0 < x.2 then upd x.1 10 (nI (((z + j) % 10 + 1) % 10)) else x.1) (if kd = 3 then a + s else a) (if kd = 3 then d else d + s) := by
        split
        · exact c2_congr (fun m hm => ⟨upd_ne (by omega), upd_ne (by omega), upd_ne (by omega), upd_ne (by omega)⟩) h3
        · exact h3
      have hrow : sh_row x.1 ((z + j) % 10) = sh_row (if 0 < x.2 then upd x.1 10 (nI (((z + j) % 10 + 1) % 10)) else x.1) ((z + j) % 10) := by
        split
        · funext w
          exact (upd_ne (j := 22 + 12 * ((z + j) % 10) + w) (by omega)).symm
        · rfl
      rw [hrow]
      have hle : s + (if 0 < x.2 then e + 1 else e) + (x.2 - 1) ≤ T + e + l := by split <;> omega
      refine ⟨s + (if 0 < x.2 then e + 1 else e), hle, ?_⟩
      have k := c2_act (q := if 0 < x.2 then e + 1 else e) hA hlt hkd (by split <;> omega) (by split <;> omega) (by omega)
      by_cases e3 : kd = 3
      · rw [if_pos e3, if_pos e3] at k ⊢
        rw [if_pos e3, if_pos e3] at k
        rw [← Nat.add_assoc]; exact k
      · rw [if_neg e3, if_neg e3] at k ⊢
        rw [if_neg e3, if_neg e3] at k
        rw [← Nat.add_assoc]; exact k
    · rw [if_neg c, cnt_f (f := fun k => sh_tk P but ((z + k) % 10)) (Bool.eq_false_iff.mpr c)]
      exact ⟨s, h1, h3⟩
theorem c2_share {P : Nat → Int32} {but : Int32} {kd q a d : Nat} (B : sh_B P) (H : i_c2 P a d) (hkd : kd ≤ 3) (hb : a + q < 2 ^ 31) (hb2 : d + q < 2 ^ 31) : i_c2 (sh_share P q but kd) (if kd = 3 then a + q else a) (if kd = 3 then d else d + q) := by
  have hl := B.ml
  have hct : sh_cnt (fun k => sh_tk P but ((nZ P + k) % 10)) 10 = sh_ct2 P but := by
    rw [cnt_rot (sh_tk P but) B.zl, cnt_beyond (f := sh_tk P but) hl (fun i h1 h2 => decide_eq_false fun z => by omega)]
    rfl
  have hdm : q / sh_ct2 P but * sh_ct2 P but + q % sh_ct2 P but = q := by rw [Nat.mul_comm]; exact Nat.div_add_mod q _
  obtain ⟨s, h1, h3⟩ := c2_sn (e := q / sh_ct2 P but) (l := q % sh_ct2 P but) (z := nZ P) (but := but) H hkd q (by rw [hct, hdm]; exact Nat.le_refl _) hb hb2 10 (Nat.le_refl _)
  rw [hct, hdm] at h1
  refine c2_mono h3 ?_ ?_
  · split <;> omega
  · split <;> omega
