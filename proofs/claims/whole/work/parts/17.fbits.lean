/-! the bits of a sharpness, brought out by doubling -/
theorem ff_norm {s : Bool} : ∀ (k c : Nat) (q : Int), c < 16777216 → q = -149 + k → q ≤ 104 → ∃ c1 q1, FP.Core.fits fB (.fin s c1 q1) ∧ c1 * 2 ^ (q1 + 400).toNat = c * 2 ^ (q + 400).toNat ∧ q1 ≤ q
  | 0, c, q, hc, hq, h1 => ⟨c, q, (show c < 16777216 ∧ -149 ≤ q ∧ q ≤ 104 ∧ (q = -149 ∨ 8388608 ≤ c) from ⟨hc, by omega, h1, .inl (by omega)⟩), rfl, Int.le_refl _⟩
  | k + 1, c, q, hc, hq, h1 => by
    by_cases h : 8388608 ≤ c
    · exact ⟨c, q, (show c < 16777216 ∧ -149 ≤ q ∧ q ≤ 104 ∧ (q = -149 ∨ 8388608 ≤ c) from ⟨hc, by omega, h1, .inr h⟩), rfl, Int.le_refl _⟩
    · obtain ⟨c1, q1, a, b, d⟩ := ff_norm k (2 * c) (q - 1) (by omega) (by omega) (by omega)
      refine ⟨c1, q1, a, ?_, by omega⟩
      rw [b, show (q + 400).toNat = (q - 1 + 400).toNat + 1 by omega, Nat.pow_succ]
      ac_rfl
theorem val_2 : FP.Core.val32 FP.fconst2 = .fin false 8388608 (-22) := by decide +kernel
theorem val_23 : FP.Core.val32 1258291200 = .fin false 8388608 0 := by decide +kernel
theorem ff_dbl {x : UInt32} {c : Nat} {q : Int} (e : FP.Core.val32 x = .fin false c q) (hq : q ≤ 50) : ∃ c' q', FP.Core.val32 (FP.fmul x FP.fconst2) = .fin false c' q' ∧ c' * 2 ^ (q' + 400).toNat = c * 2 ^ (q + 400).toNat * 2 := by
  have f1 := FP.Core.val32_fits x
  rw [e] at f1
  have f1 := ff_fit f1
  have hr : FP.Core.val32 (FP.fmul x FP.fconst2) = FP.Core.roundRatio fB false (c * 8388608) 1 (q + -22) := by
    rw [show FP.Core.val32 (FP.fmul x FP.fconst2) = _ from FP.Core.val32_fmul x _, e, val_2]; rfl
  by_cases h : c < 8388608
  · have k := FP.Core.roundRatio_exact (f := fB) FP.Core.good_b32 (s := false) (A := c * 8388608) (B := 1) (c := 2 * c) (e := q + -22) (q := q) (by decide)
      (show 2 * c < 16777216 ∧ -149 ≤ q ∧ q ≤ 104 ∧ (q = -149 ∨ 8388608 ≤ 2 * c) from ⟨by omega, by omega, by omega, .inl (by omega)⟩)
      (by rw [show (q + -22 - q).toNat = 0 by omega, show (q - (q + -22)).toNat = 22 by omega, show (2 : Nat) ^ 22 = 4194304 by decide, Nat.pow_zero]; omega)
    exact ⟨2 * c, q, by rw [hr]; exact k, by ac_rfl⟩
  · have k := FP.Core.roundRatio_exact (f := fB) FP.Core.good_b32 (s := false) (A := c * 8388608) (B := 1) (c := c) (e := q + -22) (q := q + 1) (by decide)
      (show c < 16777216 ∧ -149 ≤ q + 1 ∧ q + 1 ≤ 104 ∧ (q + 1 = -149 ∨ 8388608 ≤ c) from ⟨by omega, by omega, by omega, .inr (by omega)⟩)
      (by rw [show (q + -22 - (q + 1)).toNat = 0 by omega, show (q + 1 - (q + -22)).toNat = 23 by omega, show (2 : Nat) ^ 23 = 8388608 by decide, Nat.pow_zero]; omega)
    exact ⟨c, q + 1, by rw [hr]; exact k, by rw [show (q + 1 + 400).toNat = (q + 400).toNat + 1 by omega, Nat.pow_succ]; ac_rfl⟩
/-- an exact rounding, in small units -/
theorem rr_units {s : Bool} {A c1 : Nat} {e q1 : Int} (he : -400 ≤ e) (hq : -149 ≤ q1) (hd : FP.Core.fits fB (.fin s c1 q1)) (h : A * 2 ^ (e + 400).toNat = c1 * 2 ^ (q1 + 400).toNat) : FP.Core.roundRatio fB s A 1 e = .fin s c1 q1 := by
  refine FP.Core.roundRatio_exact (f := fB) FP.Core.good_b32 (by decide) hd ?_
  rw [Nat.mul_one]
  by_cases hc : q1 ≤ e
  · rw [show (q1 - e).toNat = 0 by omega, Nat.pow_zero, Nat.mul_one]
    refine Nat.eq_of_mul_eq_mul_right (Nat.two_pow_pos (q1 + 400).toNat) ?_
    rw [Nat.mul_assoc, ← Nat.pow_add, ← h]; congr 2; omega
  · rw [show (e - q1).toNat = 0 by omega, Nat.pow_zero, Nat.mul_one]
    refine Nat.eq_of_mul_eq_mul_right (Nat.two_pow_pos (e + 400).toNat) ?_
    rw [h, Nat.mul_assoc, ← Nat.pow_add]; congr 2; omega
theorem ff_last {x : UInt32} {c : Nat} {q : Int} (c0 : Nat) (e : FP.Core.val32 x = .fin false c q) (hc0 : c0 < 16777216) (h : c * 2 ^ (q + 400).toNat = c0 * 2 ^ 377) :
    vf_n32 (FP.fsub x FP.fconst1) ∧ vf_n32 (FP.fmul (FP.fsub x FP.fconst1) 1258291200) ∧ FP.f2i (FP.fmul (FP.fsub x FP.fconst1) 1258291200) = nI c0 - nI 8388608 := by
  have f1 := FP.Core.val32_fits x
  rw [e] at f1
  have hq := (ff_fit f1).2.1
  have hsu := su_up (s := false) (t := true) (c := c) (d := 8388608) (q := q) (r := -23) hq (by decide)
  generalize hX : FP.Core.sumUnits false c q true 8388608 (-23) (min q (-23)) = X at hsu
  rw [sg_f, sg_t, h, show (8388608 : Nat) * 2 ^ ((-23 : Int) + 400).toNat = 8388608 * 2 ^ 377 by decide +kernel] at hsu
  have hval : FP.Core.val32 (FP.fsub x FP.fconst1) = FP.Core.roundRatio fB (FP.Core.sumSign false true X) X.natAbs 1 (min q (-23)) := by
    rw [show FP.Core.val32 (FP.fsub x FP.fconst1) = _ from FP.Core.val32_fsub x _, e, val_1, ← hX]; rfl
  have hm : ∃ s m, FP.Core.sumSign false true X = s ∧ m < 16777216 ∧ X.natAbs * 2 ^ (min q (-23) + 400).toNat = m * 2 ^ 377 ∧ FP.Core.signed s m = (c0 : Int) - 8388608 := by
    have hp := Nat.two_pow_pos (min q (-23) + 400).toNat
    have hp2 := Nat.two_pow_pos 377
    generalize 2 ^ (min q (-23) + 400).toNat = p at hsu hp ⊢
    generalize (2 : Nat) ^ 377 = p2 at hsu hp2 ⊢
    have hsu2 : X * (p : Int) = ((c0 : Int) - 8388608) * (p2 : Int) := by rw [hsu, Int.sub_mul]; simp only [Int.natCast_mul]; omega
    by_cases hlt : c0 < 8388608
    · have hneg : X < 0 := by
        refine Int.lt_of_not_ge fun z => ?_
        have k1 := Int.mul_nonneg z (show (0 : Int) ≤ p by omega)
        have k2 : ((c0 : Int) - 8388608) * (p2 : Int) < 0 := Int.mul_neg_of_neg_of_pos (by omega) (by omega)
        omega
      refine ⟨true, 8388608 - c0, ?_, by omega, ?_, ?_⟩
      · unfold FP.Core.sumSign; rw [if_neg (by omega)]; exact decide_eq_true hneg
      · have : ((X.natAbs * p : Nat) : Int) = (((8388608 - c0) * p2 : Nat) : Int) := by
          rw [Int.natCast_mul, Int.natCast_mul, show ((X.natAbs : Nat) : Int) = -X by omega, show ((8388608 - c0 : Nat) : Int) = -((c0 : Int) - 8388608) by omega, Int.neg_mul, Int.neg_mul, hsu2]
        omega
      · rw [sg_t]; omega
    · have hpos : 0 ≤ X := by
        refine Int.nonneg_of_mul_nonneg_left (b := (p : Int)) ?_ (by omega)
        rw [hsu2]
        exact Int.mul_nonneg (by omega) (by omega)
      refine ⟨false, c0 - 8388608, ?_, by omega, ?_, ?_⟩
      · unfold FP.Core.sumSign
        split
        · rfl
        · exact decide_eq_false (by omega)
      · have : ((X.natAbs * p : Nat) : Int) = (((c0 - 8388608) * p2 : Nat) : Int) := by
          rw [Int.natCast_mul, Int.natCast_mul, show ((X.natAbs : Nat) : Int) = X by omega, show ((c0 - 8388608 : Nat) : Int) = (c0 : Int) - 8388608 by omega, hsu2]
        omega
      · rw [sg_f]; omega
  obtain ⟨s, m, hs, hml, hmu, hsm⟩ := hm
  obtain ⟨c1, q1, hfit, hc1, hq1⟩ := ff_norm (s := s) 126 m (-23) hml (by decide) (by decide)
  have hq1' := (ff_fit hfit).2.1
  rw [show ((-23 : Int) + 400).toNat = 377 by decide] at hc1
  rw [hs, rr_units (by omega) hq1' hfit (by rw [hmu, hc1])] at hval
  have hw : FP.Core.Whole ((c0 : Int) - 8388608) (FP.Core.exactProduct (.fin s c1 q1) (.fin false 8388608 0)) := by
    show FP.Core.signed (s != false) (c1 * 8388608 * 2 ^ (q1 + 0).toNat) = ((c0 : Int) - 8388608) * ((2 ^ (-(q1 + 0)).toNat : Nat) : Int)
    rw [show (s != false) = s by cases s <;> rfl, ← hsm, ← FP.Core.signed_mul]
    congr 1
    rw [show (q1 + 0).toNat = 0 by omega, Nat.pow_zero, Nat.mul_one]
    refine Nat.eq_of_mul_eq_mul_right (Nat.two_pow_pos (q1 + 400).toNat) ?_
    have e1 : c1 * 8388608 * 2 ^ (q1 + 400).toNat = c1 * 2 ^ (q1 + 400).toNat * 8388608 := by ac_rfl
    rw [e1, hc1, show 8388608 = 2 ^ 23 by decide, Nat.mul_assoc, ← Nat.pow_add, Nat.mul_assoc, ← Nat.pow_add]
    congr 2; omega
  have hv2 : FP.Core.val32 (FP.fmul (FP.fsub x FP.fconst1) 1258291200) = FP.Core.round fB (FP.Core.exactProduct (.fin s c1 q1) (.fin false 8388608 0)) := by
    rw [show FP.Core.val32 (FP.fmul (FP.fsub x FP.fconst1) 1258291200) = _ from FP.Core.val32_fmul _ _, hval, val_23]
  have hwr := FP.Core.whole_round FP.Core.good_b32 FP.Core.wide_b32 (i := (c0 : Int) - 8388608) (show ((c0 : Int) - 8388608).natAbs ≤ 16777216 by omega) hw
  have hint : (nI c0 - nI 8388608).toInt = (c0 : Int) - 8388608 := pk_sub_toInt (by omega) (by omega)
  refine ⟨nn_val (by rw [hval]; exact fun z => FP.Core.Datum.noConfusion z), nn_val ?_, FP.Core.f2i_int ?_⟩
  · intro z
    rw [← hv2, z] at hwr
    exact hwr
  · show FP.Core.Whole _ (FP.Core.val32 _)
    rw [hint, show FP.Core.val32 (Jvm.FP.Core.fmul (Jvm.FP.Core.fsub x FP.fconst1) 1258291200) = _ from hv2]
    exact hwr
/-- the parts of a sharpness -/
theorem ff_enc (c : Nat) (q : Int) : FP.Core.encode fB (.fin false c q) = if c < 8388608 then c else ((q - -149).toNat + 1) * 8388608 + (c - 8388608) := by
  show (if c < FP.Core.Fmt.tails fB then FP.Core.assemble fB false 0 c else FP.Core.assemble fB false ((q - FP.Core.Fmt.qmin fB).toNat + 1) (c - FP.Core.Fmt.tails fB)) = _
  rw [show FP.Core.Fmt.tails fB = 8388608 by decide, show FP.Core.Fmt.qmin fB = -149 by decide]
  unfold FP.Core.assemble
  rw [show FP.Core.Fmt.tails fB = 8388608 by decide, show FP.Core.Fmt.exps fB = 256 by decide, show false.toNat = 0 by decide]
  rw [Nat.zero_mul, Nat.zero_add, Nat.zero_add]
set_option maxRecDepth 8000 in
theorem ff_parts {v : UInt32} (hv : fS v) : ∃ e c0 : Nat, 1 ≤ e ∧ e ≤ 127 ∧ c0 < 16777216 ∧ (e = 1 ∨ 8388608 ≤ c0) ∧ FP.Core.val32 v = .fin false c0 ((e : Int) - 150) ∧ v.toNat = (e - 1) * 8388608 + c0 := by
  obtain ⟨c, q, e, f1, v1⟩ := hv
  have f2 := f1
  rw [e] at f2
  have f2 := ff_fit f2
  have hn : FP.Core.of32 (FP.Core.val32 v) = v := FP.Core.of32_val32 (by rw [e]; exact fun z => FP.Core.Datum.noConfusion z)
  have hl := FP.Core.encode_lt FP.Core.good_b32 (FP.Core.val32 v) f1
  rw [FP.Core.size_b32] at hl
  have hN : v.toNat = FP.Core.encode fB (.fin false c q) := by
    rw [← e]
    conv => lhs; rw [← hn]
    exact Nat.mod_eq_of_lt hl
  rw [ff_enc] at hN
  by_cases h : c < 8388608
  · rw [if_pos h] at hN
    exact ⟨1, c, by omega, by omega, by omega, .inl rfl, by rw [e]; congr 1; omega, by omega⟩
  · rw [if_neg h] at hN
    have hq : q ≤ -23 := by
      refine Int.le_of_not_gt fun z => ?_
      have k1 : 8388608 * 2 ^ 378 ≤ c * 2 ^ (q + 400).toNat := ff_mul_le (by omega) (Nat.pow_le_pow_right (by decide) (by omega))
      have k2 : 10 * 2 ^ 397 < 8388608 * 2 ^ 378 := by decide +kernel
      omega
    have hw : (q - -149).toNat + 1 = (q + 150).toNat := by omega
    rw [hw] at hN
    have hw2 : ((q + 150).toNat : Int) - 150 = q := by omega
    have hw3 : 1 ≤ (q + 150).toNat := by omega
    have hw4 : (q + 150).toNat ≤ 127 := by omega
    generalize (q + 150).toNat = w at hN hw2 hw3 hw4
    refine ⟨w, c, hw3, hw4, f2.1, .inr (Nat.le_of_not_lt h), by rw [e, hw2], ?_⟩
    rw [hN]
    clear v1 f1 f2 hl hn hN hw hw2 e
    obtain ⟨w, rfl⟩ := Nat.exists_eq_succ_of_ne_zero (show w ≠ 0 by omega)
    obtain ⟨c, rfl⟩ := Nat.exists_eq_add_of_le (Nat.le_of_not_lt h)
    rw [Nat.succ_sub_one, Nat.add_sub_cancel_left, Nat.succ_mul]
    omega
theorem e_400 : (2 : Nat) ^ 400 = 8388608 * 2 ^ 377 := by decide +kernel
section FBITS
variable {g : sh_G} {S : sh_S} {sz : Nat} {Q : Int32 → sh_S → Prop}
theorem k_floatBits {v : UInt32} (hv : fS v) (h : Q v.toInt32 S) : sh_Ci g mX8_floatBits [sh_F v] S sz Q := by
  obtain ⟨e, c0, h1, h2, h3, h4, h5, h6⟩ := ff_parts hv
  have hres : nI e <<< ((23 : Int32) &&& 31) + (nI c0 - nI 8388608) = v.toInt32 := by
    have e1 : nI e <<< ((23 : Int32) &&& 31) = nI (e * 2 ^ 23) := pk_shlN _ 23 (by decide) (by omega)
    have e2 : v.toInt32 = nI v.toNat := by
      apply Int32.toBitVec_inj.mp
      show v.toBitVec = BitVec.ofNat 32 v.toNat
      simp
    rw [e1, e2, h6, show e * 2 ^ 23 = (e - 1) * 8388608 + 8388608 by rw [show (2 : Nat) ^ 23 = 8388608 by decide]; omega, ← nI_add, ← nI_add]
    generalize nI ((e - 1) * 8388608) = a
    generalize nI c0 = b
    generalize nI 8388608 = d
    rw [Int32.add_assoc, Int32.sub_eq_add_neg, ← Int32.add_assoc d, Int32.add_comm d, Int32.add_assoc b, ← Int32.sub_eq_add_neg d, Int32.sub_self, Int32.add_zero]
  have hlast : ∀ (x : UInt32) (c : Nat) (q : Int), FP.Core.val32 x = .fin false c q → c * 2 ^ (q + 400).toNat = c0 * 2 ^ 377 → (vf_n32 (FP.fsub x FP.fconst1) ∧ (∀ f7 : UInt32, f7 = (FP.fsub x FP.fconst1) → (vf_n32 (FP.fmul f7 1258291200) ∧ (∀ f9 : UInt32, f9 = (FP.fmul f7 1258291200) → Q ((nI e <<< ((23 : Int32) &&& 31)) + (FP.f2i f9)) S)))) := by
    intro x c q hx hc
    obtain ⟨a, b, d⟩ := ff_last c0 hx h3 hc
    refine ⟨a, ?_⟩
    rintro _ rfl
    refine ⟨b, ?_⟩
    rintro _ rfl
    rw [d, hres]; exact h
  refine wp_X8_floatBits ⟨fun x i => ∃ j c q, j ≤ 127 - e ∧ i = nI (127 - j) ∧ FP.Core.val32 x = .fin false c q ∧ c * 2 ^ (q + 400).toNat = c0 * 2 ^ (e + 250 + j), fun _ i => i.toNatClampNeg, ⟨0, c0, (e : Int) - 150, by omega, rfl, h5, by congr 2; omega⟩, ?_⟩
  rintro x _ ⟨j, c, q, hj, rfl, hx, hc⟩
  have hf := FP.Core.val32_fits x
  have hfV : fV x false 16 := by
    refine ⟨c, q, hx, hf, ?_⟩
    rw [hc]
    refine Nat.le_trans (ff_mul_le (Nat.le_of_lt h3) (Nat.pow_le_pow_right (by decide) (show e + 250 + j ≤ 377 by omega))) ?_
    decide +kernel
  rw [hx] at hf
  have hf := ff_fit hf
  rw [fcmp_fm hfV fV_1, cv_le, fm_of val_1, e_1, fm_of hx, hc, show 8 * 2 ^ 397 = 8388608 * 2 ^ 377 by decide +kernel]
  have hstop : 8388608 * 2 ^ 377 ≤ c0 * 2 ^ (e + 250 + j) → j = 127 - e := fun z => by
    refine Classical.byContradiction fun hne => ?_
    have k : c0 * 2 ^ (e + 250 + j) < 16777216 * 2 ^ 376 := by
      refine Nat.lt_of_lt_of_le (Nat.mul_lt_mul_of_pos_right h3 (Nat.two_pow_pos _)) (Nat.mul_le_mul_left _ (Nat.pow_le_pow_right (by decide) (by omega)))
    rw [show 16777216 * 2 ^ 376 = 8388608 * 2 ^ 377 by decide +kernel] at k
    omega
  have hend : j = 127 - e → c * 2 ^ (q + 400).toNat = c0 * 2 ^ 377 ∧ 127 - j = e := fun z => ⟨by rw [hc]; congr 2; omega, by omega⟩
  refine wc (fun z => ?_) (fun z => wc (fun z2 => ?_) (fun z2 => ?_))
  · have k := hend (hstop z)
    rw [k.2]
    exact hlast x c q hx k.1
  · have z2 : 127 - j ≤ 1 := (nI_leI (a := 127 - j) (b := 1) (by omega) (by omega)).mp z2
    have k := hend (by omega)
    rw [k.2]
    exact hlast x c q hx k.1
  · have z2 : ¬ 127 - j ≤ 1 := fun w => z2 ((nI_leI (a := 127 - j) (b := 1) (by omega) (by omega)).mpr w)
    have hlt : j + 1 ≤ 127 - e := by
      rcases h4 with rfl | h4
      · omega
      · refine Classical.byContradiction fun hne => z ?_
        exact ff_mul_le h4 (Nat.pow_le_pow_right (by decide) (by omega))
    have hq50 : q ≤ 50 := by
      refine Int.le_of_not_gt fun w => z ?_
      rw [← hc]
      rcases hf.2.2.2 with w2 | w2
      · omega
      · exact ff_mul_le w2 (Nat.pow_le_pow_right (by decide) (by omega))
    obtain ⟨c', q', a, b⟩ := ff_dbl hx hq50
    have hc2 : c' * 2 ^ (q' + 400).toNat = c0 * 2 ^ (e + 250 + (j + 1)) := by
      rw [b, hc, ← Nat.add_assoc, Nat.pow_succ, Nat.mul_assoc]
    refine ⟨nn_val (by rw [a]; exact fun w => FP.Core.Datum.noConfusion w), ?_⟩
    rintro _ rfl _ rfl
    have em : nI (127 - j) + (-1) = nI (127 - (j + 1)) := by
      rw [show 127 - j = (127 - (j + 1)) + 1 by omega]; exact pk_m1 _
    rw [em]
    refine ⟨⟨j + 1, c', q', hlt, rfl, a, hc2⟩, ?_⟩
    show (nI (127 - (j + 1))).toNatClampNeg < (nI (127 - j)).toNatClampNeg
    rw [nI_clamp (by omega), nI_clamp (by omega)]
    omega
end FBITS
