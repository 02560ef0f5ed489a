section MOPS2
variable {g : sh_G} {S : sh_S} {P : Nat → Int32} {sz b : Nat} {Q : Int32 → sh_S → Prop} {U : sh_S → Prop}
def sh_ng (P : Nat → Int32) (m q : Int32) : Int32 := if mB P m = true then (if inb q 1 400 = true ∧ pm P m.toNatClampNeg 0 ≠ 2 then 0 else 3) else 2
theorem c_noGift (B : sh_B P) {m q : Int32} (h : Q (sh_ng P m q) (sh_mp S P)) : sh_Ci g mX9_noGift [sh_R (9, 0, 0), sh_I m, sh_I q] (sh_mp S P) sz Q := by
  unfold sh_ng at h
  have hl := B.ml
  refine wp_X9_noGift (c_isMember B (wb' (fun c => ?_) (fun c => c_inb (wb (fun c2 => ?_) (fun c2 => ?_)))))
  · rwa [if_neg (by rw [c]; decide)] at h
  · rwa [if_pos c, if_neg (by rw [c2]; exact fun z => Bool.noConfusion z.1)] at h
  · obtain ⟨i, hi, rfl⟩ := B.mB_t c
    rw [if_pos c, nI_clamp (by omega)] at h
    refine c_of i 0 rfl rfl (by omega) (by omega) ⟨fun c3 => ?_, fun c3 => ?_⟩
    · rwa [if_pos ⟨c2, c3⟩] at h
    · rwa [if_neg (fun z => z.2 c3)] at h
def sh_nl (P : Nat → Int32) (t m : Int32) : Int32 :=
  if tB P t = true ∧ mB P m = true then (if pt P t.toNatClampNeg 3 = 0 ∧ pm P m.toNatClampNeg 0 = 0 ∧ ¬ 0 < sh_opn P m.toNatClampNeg ∧ sh_cnt (sh_on P m true) (nT P) ≤ 2 then 0 else 3) else 2
theorem c_noLoan (B : sh_B P) {t m : Int32} (h : Q (sh_nl P t m) (sh_mp S P)) : sh_Ci g mX9_noLoan [sh_R (9, 0, 0), sh_I t, sh_I m] (sh_mp S P) sz Q := by
  unfold sh_nl at h
  have hl := B.ml
  have htl := B.tl
  refine wp_X9_noLoan (c_isTool B (wb (fun c => ?_) (fun c => c_isMember B (wb' (fun c2 => ?_) (fun c2 => ?_)))))
  · rwa [if_neg (by rw [c]; exact fun z => Bool.noConfusion z.1)] at h
  · rwa [if_neg (by rw [c2]; exact fun z => Bool.noConfusion z.2)] at h
  · rw [if_pos ⟨c, c2⟩] at h
    obtain ⟨i, hi, rfl⟩ := B.tB_t c
    obtain ⟨j, hj, rfl⟩ := B.mB_t c2
    rw [nI_clamp (by omega), nI_clamp (by omega)] at h
    refine c_its i 3 rfl rfl (by omega) (by omega) ⟨fun c3 => ?_, fun c3 => c_of j 0 rfl rfl (by omega) (by omega) ⟨fun c4 => ?_, fun c4 => c_openOf j rfl (by omega) ⟨fun c5 => ?_, fun c5 => c_toolsOf (wl := true) B ?_⟩⟩⟩
    · rwa [if_neg (fun z => c3 z.1)] at h
    · rwa [if_neg (fun z => c4 z.2.1)] at h
    · rwa [if_neg (fun z => z.2.2.1 c5)] at h
    · have hcl := cnt_le (sh_on P (nI j) true) (nT P)
      rw [show nI (sh_cnt (sh_on P (nI j) true) (nT P)) ≤ 2 ↔ sh_cnt (sh_on P (nI j) true) (nT P) ≤ 2 from nI_leI (b := 2) (by omega) (by omega)]
      refine ⟨fun c6 => ?_, fun c6 => ?_⟩
      · rwa [if_pos ⟨c3, c4, c5, c6⟩] at h
      · rwa [if_neg (fun z => c6 z.2.2.2)] at h
def sh_nr (P : Nat → Int32) (t : Int32) : Int32 := if tB P t = true then (if pt P t.toNatClampNeg 3 = 1 then 0 else 3) else 2
theorem c_noReturn (B : sh_B P) {t : Int32} (h : Q (sh_nr P t) (sh_mp S P)) : sh_Ci g mX9_noReturn [sh_R (9, 0, 0), sh_I t] (sh_mp S P) sz Q := by
  unfold sh_nr at h
  have htl := B.tl
  refine wp_X9_noReturn (c_isTool B (wb' (fun c => ?_) (fun c => ?_)))
  · rwa [if_neg (by rw [c]; decide)] at h
  · obtain ⟨i, hi, rfl⟩ := B.tB_t c
    rw [if_pos c, nI_clamp (by omega)] at h
    refine c_its i 3 rfl rfl (by omega) (by omega) ⟨fun c3 => ?_, fun c3 => ?_⟩
    · rwa [if_pos c3] at h
    · rwa [if_neg c3] at h
theorem c_borrows (B : sh_B P) {t m : Int32} (i : Nat) (ht : t = nI i) (hi : i < 20) (h : U (sh_mp S (f_out P i 1 m (P 7 + P 1)))) : sh_Cu g mX9_borrows [sh_R (9, 0, 0), sh_I t, sh_I m] (sh_mp S P) sz U := by
  refine wp_X9_borrows ?_
  rw [mp_p]
  exact c_goesOut B i ht hi h
theorem do_nat {d s : Nat} (hd : d ≤ 3000) (hs : s ≤ d) : ∃ k, k ≤ 3000 ∧ 1 ≤ k ∧ sh_do (nI d) (nI s) = nI k := by
  unfold sh_do
  split
  · rename_i h
    have := (nI_ltI (by omega) (by omega)).mp h
    exact ⟨d - s, by omega, by omega, pk_sub (by omega)⟩
  · exact ⟨1, by omega, by omega, rfl⟩
theorem c_returned (I : sh_IP P b) {t : Int32} (i : Nat) (ht : t = nI i) (hi : i < nT P) (hp : pt P i 3 = 1) (h : Q (sh_late P i) (sh_mp S (f_back P i))) : sh_Ci g mX9_returned [sh_R (9, 0, 0), sh_I t] (sh_mp S P) sz Q := by
  have htl := I.tl20
  have hl := I.ml
  have hr := I.tl i hi
  obtain ⟨m, hm, em⟩ := hr.2.1.2.1 (.inl hp)
  have em : P (142 + 23 * i + 4) = nI m := em
  obtain ⟨s, hs, es⟩ := hr.2.1.2.2.1
  have es : P (142 + 23 * i + 9) = nI s := es
  obtain ⟨k, hk, hk1, ek⟩ := do_nat I.B.dl hs
  have ek : sh_do (P 7) (P (142 + 23 * i + 9)) = nI k := by rw [es, I.B.d]; exact ek
  have htail : ∀ x : Int32, (if pt P i 5 < P 7 then P 7 - pt P i 5 else 0) = x → sh_Ci g mX9_daysOut [sh_R (9, 0, 0), sh_I t] (sh_mp S P) sz (fun r6 S5 => (sh_Cf g mX9_duller [sh_R (9, 0, 0), sh_I t, sh_I r6] S5 sz (fun f8 S7 => (sh_Ci g mX9_bitsOf [sh_F f8] S7 sz (fun r10 S9 => (sh_Cu g mX9_lay [sh_R (9, 0, 0), sh_I t, sh_I 6, sh_I r10] S9 sz (fun S11 => (sh_Cu g mX9_lay [sh_R (9, 0, 0), sh_I t, sh_I 3, sh_I 0] S11 sz (fun S12 => (sh_Ci g mX9_its [sh_R (9, 0, 0), sh_I t, sh_I 4] S12 sz (fun r14 S13 => (sh_Cu g mX9_charges [sh_R (9, 0, 0), sh_I r14, sh_I (x * (S13 (19, 0, 0) 2)), sh_I 1] S13 sz (fun S16 => Q (x * (S16 (19, 0, 0) 2)) S16))))))))))))) := by
    rintro x rfl
    refine c_daysOut i ht (by omega) ?_
    rw [ek]
    obtain ⟨hv, w, hw, ew⟩ := I.G2 i hi
    refine c_duller I.G2 I.B i k ht rfl hi (by omega) (c_bitsOf ?_ (c_lay0 i 6 ht rfl (by omega) (by omega) (c_layR i 3 ht rfl (by omega) (by omega) (c_itsR i 4 ht rfl (by omega) (by omega) ?_))))
    · rw [show P (142 + 23 * i + 2) = nI w from ew, show (100 : Int32) - nI w = nI (100 - w) from pk_sub (a := 100) (by omega)]
      exact fS_du hv (by omega) k
    · rw [upd_ne (by omega), upd_ne (by omega), show sh_tr P i 4 = nI m from em, mp_p, wt_low (by omega)]
      refine c_charges m 1 rfl rfl (by omega) (by omega) ?_
      rw [mp_p, wr_low (by omega), wt_low (by omega)]
      unfold f_back sh_late sh_cin at h
      rw [show pt P i 4 = nI m from em, nI_clamp (by omega), show pt P i 9 = P (142 + 23 * i + 9) from rfl, ek, nI_clamp (by omega)] at h
      exact h
  refine wp_X9_returned (c_its i 5 ht rfl (by omega) (by omega) ?_)
  rw [mp_p]
  refine ⟨fun c => htail 0 (if_neg (Int32.not_lt.mpr c)), fun c => c_its i 5 ht rfl (by omega) (by omega) ?_⟩
  rintro _ rfl
  exact htail _ (if_pos (Int32.not_le.mp c))
theorem c_give (hs : sh_ss S) (I : sh_IP P b) {m q : Int32} (hp : ∀ i, i < nM P → m = nI i → inb q 1 400 = true → ¬ sh_gain (sh_row P i) 1 q 3 < 0) (h : sh_go Q S P (o_give P m q)) : sh_Ci g mX9_give [sh_R (9, 0, 0), sh_I m, sh_I q] (sh_mp S P) sz Q := by
  unfold o_give at h
  have hl := I.ml
  refine wp_X9_give (c_isMember I.B (wb (fun c => ?_) (fun c => c_inb (wb' (fun c2 => ?_) (fun c2 => c_noGift I.B ?_)))))
  · rw [if_neg (by rw [c]; exact fun z => Bool.noConfusion z.1)] at h
    exact h.1 (show (-1000001 : Int32) < 0 by decide)
  · rw [if_neg (by rw [c2]; exact fun z => Bool.noConfusion z.2)] at h
    exact h.1 (show (-1000001 : Int32) < 0 by decide)
  · rw [if_pos ⟨c, c2⟩] at h
    unfold sh_ng
    rw [if_pos c]
    obtain ⟨i, hi, rfl⟩ := I.B.mB_t c
    rw [nI_clamp (by omega)] at h ⊢
    by_cases c3 : pm P i 0 = 2
    · rw [if_pos c3] at h
      rw [if_neg (fun z => z.2 c3)]
      exact wf (by decide) (h.1 (show (-1000002 : Int32) < 0 by decide))
    · rw [if_neg c3] at h
      rw [if_pos ⟨c2, c3⟩]
      exact wt rfl (c_hold (c_gains i 1 rfl rfl (by omega) (by omega) (c_ofR i 3 rfl rfl (by omega) (by omega) (c_fin hs (hp i hi rfl c2) h))))
theorem c_borrow (hs : sh_ss S) (I : sh_IP P b) {t m : Int32} (h : sh_go Q S P (o_borrow P t m)) : sh_Ci g mX9_borrow [sh_R (9, 0, 0), sh_I t, sh_I m] (sh_mp S P) sz Q := by
  unfold o_borrow at h
  have htl := I.tl20
  refine wp_X9_borrow (c_noLoan I.B ?_)
  unfold sh_nl
  by_cases c : tB P t = true ∧ mB P m = true
  · rw [if_pos c] at h ⊢
    obtain ⟨i, hi, rfl⟩ := I.B.tB_t c.1
    split at h
    · rename_i c2
      rw [if_pos c2]
      rw [nI_clamp (by omega)] at h
      refine wt rfl (c_hold (c_borrows I.B i rfl (by omega) (c_itsR i 5 rfl rfl (by omega) (by omega) ?_)))
      rw [upd_ne (by omega), upd_ne (by omega), upd_ne (by omega), upd_eq]
      obtain ⟨n, hn, en⟩ := I.s 1 (by omega)
      have hn : n ≤ 60 := hn
      have := I.B.dl
      exact c_fin hs (by rw [en, I.B.d, nI_add]; exact nI_pos (by omega)) h
    · rename_i c2
      rw [if_neg c2]
      exact wf (by decide) (wf' (by decide) (h.1 (show (-1000002 : Int32) < 0 by decide)))
  · rw [if_neg c] at h ⊢
    exact wf (by decide) (wt' rfl (h.1 (show (-1000001 : Int32) < 0 by decide)))
theorem late_nat (I : sh_IP P b) {i : Nat} (hi : i < nT P) : ∃ n, n ≤ 60000 ∧ sh_late P i = nI n := by
  obtain ⟨d, hd, ed⟩ := (I.tl i hi).2.1.2.2.2
  obtain ⟨l, hl, el⟩ := I.s 2 (by omega)
  have hl : l ≤ 20 := hl
  have := I.B.dl
  unfold sh_late
  rw [show pt P i 5 = nI d from ed, el, I.B.d]
  split
  · rename_i h
    have h := (nI_ltI (by omega) (by omega)).mp h
    refine ⟨(nD P - d) * l, ?_, by rw [pk_sub (by omega), pk_mul]⟩
    have := Nat.mul_le_mul (show nD P - d ≤ 3000 by omega) hl
    omega
  · exact ⟨0, by omega, Int32.zero_mul⟩
theorem c_back (hs : sh_ss S) (I : sh_IP P b) {t : Int32} (h : sh_go Q S P (o_back P t)) : sh_Ci g mX9_giveBack [sh_R (9, 0, 0), sh_I t] (sh_mp S P) sz Q := by
  unfold o_back at h
  have htl := I.tl20
  refine wp_X9_giveBack (c_noReturn I.B ?_)
  unfold sh_nr
  by_cases c : tB P t = true
  · rw [if_pos c] at h ⊢
    obtain ⟨i, hi, rfl⟩ := I.B.tB_t c
    rw [nI_clamp (by omega)] at h ⊢
    by_cases c2 : pt P i 3 = 1
    · rw [if_pos c2] at h ⊢
      refine wt rfl (c_hold (c_returned I i rfl hi c2 ?_))
      obtain ⟨n, hn, en⟩ := late_nat I hi
      exact c_fin hs (by rw [en]; exact nI_pos (by omega)) h
    · rw [if_neg c2] at h ⊢
      exact wf (by decide) (wf' (by decide) (h.1 (show (-1000002 : Int32) < 0 by decide)))
  · rw [if_neg c] at h ⊢
    exact wf (by decide) (wt' rfl (h.1 (show (-1000001 : Int32) < 0 by decide)))
end MOPS2
