/-! each call keeps what holds of a page -/
def sh_LIM : Nat := 1071000000
theorem neg_no {P : Nat → Int32} {v : Int32} {C : Prop} (hv : v < 0) (h : ¬ ((v, P) : Int32 × (Nat → Int32)).1 < 0) : C := absurd hv h
section INV3
variable {P : Nat → Int32} {b : Nat}
theorem inb_nat {q a c : Int32} {n : Nat} (ha : 0 ≤ a) (hc : c.toInt = n) (h : inb q a c = true) : ∃ x, x ≤ n ∧ q = nI x := by
  have h := of_decide_eq_true h
  exact nI_of2 hc (Int32.not_lt.mpr (Int32.le_trans ha h.1)) h.2
theorem give_pos (I : sh_IP P b) (hb : b ≤ sh_LIM) {i x : Nat} (hi : i < 10) (hx : x ≤ 400) : ¬ sh_gain (sh_row P i) 1 (nI x) 3 < 0 := by
  unfold sh_LIM at hb
  obtain ⟨c, hc, ec⟩ := cr_nat I.cr hi
  obtain ⟨v, h1, h2, h3⟩ := gain_nat (n := sh_row P i) (w := 1) (q := x) (d := b) (by omega) (fun k hk => I.cr.2 i hi k hk) (by omega) (by omega) ec
  rw [h2]; exact nI_pos (by omega)
theorem give_hp (I : sh_IP P b) (hb : b ≤ sh_LIM) {m q : Int32} : ∀ i, i < nM P → m = nI i → inb q 1 400 = true → ¬ sh_gain (sh_row P i) 1 q 3 < 0 := fun i hi _ h => by
  obtain ⟨x, hx, rfl⟩ := inb_nat (n := 400) (by decide) rfl h
  exact give_pos I hb (by have := I.ml; omega) hx
theorem IP_give (I : sh_IP P b) (hb : b ≤ sh_LIM) {m q : Int32} (h : ¬ (o_give P m q).1 < 0) : sh_IP (o_give P m q).2 (b + 400) := by
  unfold sh_LIM at hb
  have hl := I.ml
  unfold o_give at h ⊢
  by_cases c : mB P m = true ∧ inb q 1 400 = true
  · rw [if_pos c] at h ⊢
    obtain ⟨i, hi, rfl⟩ := I.B.mB_t c.1
    obtain ⟨x, hx, rfl⟩ := inb_nat (n := 400) (by decide) rfl c.2
    rw [nI_clamp (n := i) (by omega)] at h ⊢
    by_cases c2 : pm P i 0 = 2
    · rw [if_pos c2] at h; exact neg_no (by decide) h
    · rw [if_neg c2]
      exact IP_of (IS_wr I.S hi (gain_ne (by omega) (by omega) (by omega))) (c2_mono (c2_gain I.cr (by omega) (by omega) (by omega) (by omega) (by omega)) (by omega) (by omega))
  · rw [if_neg c] at h; exact neg_no (by decide) h
theorem wt_c2 {t a d : Nat} {n : Nat → Int32} (h : i_c2 P a d) : i_c2 (sh_wt P t n) a d := c2_congr (fun m hm => ⟨wt_out (by omega), wt_out (by omega), wt_out (by omega), wt_out (by omega)⟩) h
theorem IP_out (I : sh_IP P b) {i : Nat} (hi : i < nT P) {p a3 a4 : Int32} {x : Nat} (hp : p = 1 ∨ p = 3) (h4 : ∃ d, d ≤ 4000 ∧ a4 = nI d) (hw : p = 1 → ∃ m, m < nM P ∧ a3 = nI m) {n : Nat → Int32} (hn : ∀ w, w < 23 → w ≠ 10 → w ≠ 11 → n w = upd (upd (upd (upd (upd (upd (sh_tr P i) 3 p) 4 a3) 5 a4) 8 (-1)) 9 (P 7)) 7 (pt P i 7 + 1) w)
    (h10 : p = 3 → x ≤ 60 ∧ n 10 = nI x ∧ a4 = nI (nD P + x)) (h11 : ∃ f, f ≤ 40 ∧ n 11 = nI f) : sh_IP (sh_wt P i n) b := by
  refine IP_of (IS_wt I.S hi ?_ (.inl ?_) ?_) (wt_c2 I.cr)
  · obtain ⟨⟨r0, r1, r2, r3, r6⟩, ⟨r8, r4, r9, r5⟩, ⟨r33, r11⟩, rl, rc⟩ := I.tl i hi
    unfold i_row
    rw [hn 0 (by omega) (by omega) (by omega), hn 1 (by omega) (by omega) (by omega), hn 2 (by omega) (by omega) (by omega), hn 3 (by omega) (by omega) (by omega), hn 4 (by omega) (by omega) (by omega), hn 5 (by omega) (by omega) (by omega), hn 6 (by omega) (by omega) (by omega), hn 8 (by omega) (by omega) (by omega), hn 9 (by omega) (by omega) (by omega), hn 18 (by omega) (by omega) (by omega), hn 19 (by omega) (by omega) (by omega)]
    have e3 : upd (upd (upd (upd (upd (upd (sh_tr P i) 3 p) 4 a3) 5 a4) 8 (-1)) 9 (P 7)) 7 (pt P i 7 + 1) 3 = p := by simp [upd]
    have e2 : ¬ p = 2 := fun z => by rcases hp with y | y <;> rw [y] at z <;> exact absurd z (by decide)
    rw [e3]
    refine ⟨⟨by simpa [upd] using r0, by simpa [upd] using r1, by simpa [upd] using r2, ?_, by simpa [upd] using r6⟩, ⟨.inl (by simp [upd]), fun z => ?_, ⟨nD P, Nat.le_refl _, by simp only [upd, if_pos, if_neg]; simp; exact I.B.d⟩, ?_⟩, ⟨fun z => ?_, h11⟩, fun z => absurd z e2, by simpa [upd] using rc⟩
    · rcases hp with rfl | rfl
      · exact ⟨1, by omega, rfl⟩
      · exact ⟨3, by omega, rfl⟩
    · rcases z with z | z
      · obtain ⟨m, hm, em⟩ := hw z
        exact ⟨m, hm, by simp [upd, em]⟩
      · exact absurd z e2
    · obtain ⟨d, hd, ed⟩ := h4
      exact ⟨d, hd, by simp [upd, ed]⟩
    · obtain ⟨h1, h2, h3⟩ := h10 z
      exact ⟨nD P, x, Nat.le_refl _, by simp [upd]; exact I.B.d, h1, h2, by simp [upd, h3]⟩
  · rw [hn 8 (by omega) (by omega) (by omega)]; simp [upd]
  · intro z
    rw [hn 3 (by omega) (by omega) (by omega)] at z
    have z : p = 2 := by simpa [upd] using z
    rcases hp with y | y <;> rw [y] at z <;> exact absurd z (by decide)
theorem day_num (I : sh_IP P b) {k x : Nat} (hk : k < 7) (hx : x ≤ 60) (h : P k = nI x) : P 7 + P k = nI (nD P + x) := by rw [h, I.B.d, nI_add]
theorem IP_borrow (I : sh_IP P b) {t m : Int32} (h : ¬ (o_borrow P t m).1 < 0) : sh_IP (o_borrow P t m).2 b := by
  have hl := I.ml
  have htl := I.tl20
  have hd := I.B.dl
  unfold o_borrow at h ⊢
  by_cases c : tB P t = true ∧ mB P m = true
  · rw [if_pos c] at h ⊢
    obtain ⟨i, hi, rfl⟩ := I.B.tB_t c.1
    obtain ⟨j, hj, rfl⟩ := I.B.mB_t c.2
    rw [nI_clamp (n := i) (by omega), nI_clamp (n := j) (by omega)] at h ⊢
    split at h
    · rename_i c2
      rw [if_pos c2]
      obtain ⟨n, hn, en⟩ := I.s 1 (by omega)
      have hn : n ≤ 60 := hn
      obtain ⟨f, hf, ef⟩ := (I.tl i hi).2.2.1.2
      exact IP_out I (x := 0) hi (.inl rfl) ⟨nD P + n, by omega, day_num I (by omega) hn en⟩ (fun _ => ⟨j, hj, rfl⟩) (fun w _ _ _ => rfl) (fun z => absurd z (by decide)) ⟨f, hf, by simp [upd]; exact ef⟩
    · exact neg_no (by decide) h
  · rw [if_neg c] at h; exact neg_no (by decide) h
theorem IS_cin (I : sh_IP P b) {i : Nat} (hi : i < nT P) : sh_IS (sh_wt P i (sh_cin P i)) := by
  refine IS_wt I.S hi ?_ (.inr (.inl (by unfold sh_cin; rw [upd_ne (by omega), upd_ne (by omega)]; rfl))) (fun z => absurd (show (0 : Int32) = 2 from (by unfold sh_cin at z; rw [upd_eq] at z; exact z)) (by decide))
  obtain ⟨⟨r0, r1, r2, r3, r6⟩, ⟨r8, r4, r9, r5⟩, ⟨r33, r11⟩, rl, rc⟩ := I.tl i hi
  have hsh : fS (sh_du (sh_sp P i) (FP.i2f (100 - pt P i 2)) (sh_do (P 7) (pt P i 9)).toNatClampNeg) := by
    obtain ⟨w, hw, ew⟩ := r2
    rw [show pt P i 2 = nI w from ew, show (100 : Int32) - nI w = nI (100 - w) from pk_sub (a := 100) (by omega)]
    exact fS_du r6 (by omega) _
  unfold sh_cin
  generalize sh_du (sh_sp P i) (FP.i2f (100 - pt P i 2)) (sh_do (P 7) (pt P i 9)).toNatClampNeg = v at hsh
  refine ⟨⟨by simpa [upd] using r0, by simpa [upd] using r1, by simpa [upd] using r2, ⟨0, by omega, by simp [upd]; rfl⟩, by simpa [upd] using hsh⟩, ⟨by simpa [upd] using r8, fun z => ?_, by simpa [upd] using r9, by simpa [upd] using r5⟩, ⟨fun z => ?_, by simpa [upd] using r11⟩, fun z => ?_, by simpa [upd] using rc⟩
  · simp [upd] at z
  · simp [upd] at z
  · simp [upd] at z
theorem IP_back (I : sh_IP P b) (hb : b ≤ sh_LIM) {t : Int32} (h : ¬ (o_back P t).1 < 0) : sh_IP (o_back P t).2 (b + 60000) := by
  unfold sh_LIM at hb
  have hl := I.ml
  have htl := I.tl20
  unfold o_back at h ⊢
  by_cases c : tB P t = true
  · rw [if_pos c] at h ⊢
    obtain ⟨i, hi, rfl⟩ := I.B.tB_t c
    rw [nI_clamp (by omega)] at h ⊢
    by_cases c2 : pt P i 3 = 1
    · rw [if_pos c2]
      obtain ⟨m, hm, em⟩ := (I.tl i hi).2.1.2.1 (.inl c2)
      have em : pt P i 4 = nI m := em
      obtain ⟨n, hn, en⟩ := late_nat I hi
      show sh_IP (f_back P i) _
      unfold f_back
      rw [em, nI_clamp (by omega), en]
      exact IP_of (IS_wr (IS_cin I hi) (by rw [nM_wt]; exact hm) (chg_ne (by omega) (by omega) (by omega))) (c2_mono (c2_chg (wt_c2 I.cr) (by omega) (by omega) (by omega) (by omega)) (by omega) (by omega))
    · rw [if_neg c2] at h; exact neg_no (by decide) h
  · rw [if_neg c] at h; exact neg_no (by decide) h
theorem IS_sharp (I : sh_IP P b) {i : Nat} (hi : i < nT P) : sh_IS (sh_wt P i (upd (sh_tr P i) 6 (sh_shv (sh_sp P i) (P 5)).toInt32)) := by
  obtain ⟨⟨r0, r1, r2, r3, r6⟩, ⟨r8, r4, r9, r5⟩, ⟨r33, r11⟩, rl, rc⟩ := I.tl i hi
  obtain ⟨p, hp, ep⟩ := I.s 5 (by omega)
  have hp : p ≤ 100 := hp
  have hsh : fS (sh_shv (sh_sp P i) (P 5)) := by
    unfold sh_shv; rw [ep]; exact (fS_sharp r6 hp).2.2.2
  generalize sh_shv (sh_sp P i) (P 5) = v at hsh
  refine IS_wt I.S hi ?_ (.inr (.inl (upd_ne (by omega)))) (fun z j hj => ?_)
  · refine ⟨⟨by simpa [upd] using r0, by simpa [upd] using r1, by simpa [upd] using r2, by simpa [upd] using r3, by simpa [upd] using hsh⟩, ⟨by simpa [upd] using r8, by simpa [upd] using r4, by simpa [upd] using r9, by simpa [upd] using r5⟩, ⟨by simpa [upd] using r33, by simpa [upd] using r11⟩, fun z => ?_, by simpa [upd] using rc⟩
    rw [upd_ne (by omega)] at z
    obtain ⟨r7, r8⟩ := rl z
    refine ⟨fun j hj => ?_, by simpa [upd] using r8⟩
    rw [upd_ne (by omega), upd_ne (by omega)]
    exact r7 j hj
  · rw [upd_ne (by omega)] at z
    rw [upd_ne (by omega), upd_ne (by omega)]
    exact I.ls i hi z j hj
theorem IP_sharp (I : sh_IP P b) (hb : b ≤ sh_LIM) (h : ¬ (o_sharp P).1 < 0) : sh_IP (o_sharp P).2 (b + 400) := by
  unfold sh_LIM at hb
  have hl := I.ml
  have htl := I.tl20
  unfold o_sharp at h ⊢
  by_cases c : sh_who P < 0
  · rw [if_pos c] at h; exact neg_no (by decide) h
  · rw [if_neg c] at h ⊢
    obtain ⟨m, hm, h0, em⟩ := who_nat I c
    split at h
    · rename_i c2
      rw [if_pos c2]
      rcases da_nat P 0 with hd | ⟨t, ht, hc, hd⟩
      · exact absurd (by rw [hd]; decide) c2.1
      · rw [em, hd, nI_clamp (n := m) (by omega), nI_clamp (n := t) (by omega)]
        show sh_IP (f_sharp P m t) _
        unfold f_sharp
        obtain ⟨p, hp, ep⟩ := I.s 3 (by omega)
        have hp : p ≤ 40 := hp
        rw [ep]
        have I1 := IS_wr (IS_sharp I ht) (m := m) (n := sh_gain (sh_row (sh_wt P t (upd (sh_tr P t) 6 (sh_shv (sh_sp P t) (P 5)).toInt32)) m) 1 (nI p)) (by rw [nM_wt]; exact hm) (gain_ne (by omega) (by omega) (by omega))
        have C1 := c2_gain (m := m) (w := 1) (q := p) (wt_c2 (t := t) (n := upd (sh_tr P t) 6 (sh_shv (sh_sp P t) (P 5)).toInt32) I.cr) (by omega) (by omega) (by omega) (by omega) (by omega)
        generalize hX : sh_wr (sh_wt P t (upd (sh_tr P t) 6 (sh_shv (sh_sp P t) (P 5)).toInt32)) m (sh_gain (sh_row (sh_wt P t (upd (sh_tr P t) 6 (sh_shv (sh_sp P t) (P 5)).toInt32)) m) 1 (nI p)) = X at I1 C1 ⊢
        have hlow : ∀ j, j < 22 → X j = P j := fun j hj => by rw [← hX, wr_low hj, wt_low (by omega)]
        obtain ⟨j, hj, ej, et⟩ := tn_of I.tn hm (by rw [h0]; decide)
        have hY := I.B.yl
        have hXY : nY X = nY P := nY_e (hlow 11 (by omega))
        have hXM : nM X = nM P := nM_e (hlow 8 (by omega))
        refine IP_of (tn_end I1 (j := j) (by rw [hXY]; exact hj) (by rw [hlow _ (by omega)]; exact ej) (by rw [hXM]; exact hm)) (c2_mono (c2_congr (fun q hq => ?_) C1) (by omega) (by omega))
        have e : ∀ w, w < 12 → pm (sh_end X (nI m)) q w = pm X q w := fun w hw => by
          show sh_end X (nI m) (22 + 12 * q + w) = X (22 + 12 * q + w)
          unfold sh_end
          rw [upd_ne (by omega), upd_ne (by rw [hXY]; omega), ot_out (by omega) (by omega) (by rw [hXY]; exact hY)]
        exact ⟨e 3 (by omega), e 8 (by omega), e 9 (by omega), e 10 (by omega)⟩
    · exact neg_no (by decide) h
end INV3
