/-! order -/
theorem fcmp_fm {a b : UInt32} {K1 K2 : Nat} (ha : fV a false K1) (hb : fV b false K2) : FP.fcmp a b = some (compare (fm a : Int) (fm b : Int)) := by
  obtain ⟨c, q, e, hq, _⟩ := fV_dat ha
  obtain ⟨d, r, e', hr, _⟩ := fV_dat hb
  show FP.Core.order (FP.Core.val32 a) (FP.Core.val32 b) = _
  rw [e, e', fm_of e, fm_of e']
  show some (compare (FP.Core.signed false (FP.Core.inUnits c q (min q r))) (FP.Core.signed false (FP.Core.inUnits d r (min q r)))) = _
  rw [sg_f, sg_f, ← FP.Core.compare_mul_pos _ _ ((2 ^ (min q r + 400).toNat : Nat) : Int) (by have := Nat.two_pow_pos (min q r + 400).toNat; omega), ← Int.natCast_mul, ← Int.natCast_mul, iu_up (by omega) (by omega), iu_up (by omega) (by omega)]
theorem cv_lt {x y : Nat} {o : CmpOp} : Op.cmpValue (some (compare (x : Int) (y : Int))) o < 0 ↔ x < y := by
  rcases Nat.lt_trichotomy x y with h | h | h
  · rw [show compare (x : Int) (y : Int) = .lt from by rw [Int.compare_eq_lt]; omega]
    exact ⟨fun _ => h, fun _ => by cases o <;> decide⟩
  · rw [show compare (x : Int) (y : Int) = .eq from by rw [Int.compare_eq_eq]; omega]
    exact ⟨fun z => absurd z (by cases o <;> decide), fun z => by omega⟩
  · rw [show compare (x : Int) (y : Int) = .gt from by rw [Int.compare_eq_gt]; omega]
    exact ⟨fun z => absurd z (by cases o <;> decide), fun z => by omega⟩
theorem cv_eq {x y : Nat} {o : CmpOp} : Op.cmpValue (some (compare (x : Int) (y : Int))) o = 0 ↔ x = y := by
  rcases Nat.lt_trichotomy x y with h | h | h
  · rw [show compare (x : Int) (y : Int) = .lt from by rw [Int.compare_eq_lt]; omega]
    exact ⟨fun z => absurd z (by cases o <;> decide), fun z => by omega⟩
  · rw [show compare (x : Int) (y : Int) = .eq from by rw [Int.compare_eq_eq]; omega]
    exact ⟨fun _ => h, fun _ => by cases o <;> decide⟩
  · rw [show compare (x : Int) (y : Int) = .gt from by rw [Int.compare_eq_gt]; omega]
    exact ⟨fun z => absurd z (by cases o <;> decide), fun z => by omega⟩
theorem cv_le {x y : Nat} {o : CmpOp} : 0 ≤ Op.cmpValue (some (compare (x : Int) (y : Int))) o ↔ y ≤ x := by
  rw [← Int32.not_lt, cv_lt]; omega
/-! doubles: a sum of sharpnesses -/
def eV (a : UInt64) (K : Nat) : Prop := ∃ c q, FP.Core.val64 a = .fin false c q ∧ -1074 ≤ q ∧ c * 2 ^ (q + 3000).toNat ≤ K * 2 ^ 2997
theorem nn_val64 {a : UInt64} (h : FP.Core.val64 a ≠ .nan) : vf_n64 a := by
  unfold vf_n64
  rw [UInt64.le_iff_toNat_le, UInt64.toNat_and]
  show a.toNat &&& (2 ^ 63 - 1) ≤ 9218868437227405312
  rw [Nat.and_two_pow_sub_one_eq_mod]
  have hl := a.toNat_lt
  refine Nat.le_of_not_lt fun hc => h ?_
  show FP.Core.decode FP.Core.b64 a.toNat = .nan
  have hE : FP.Core.fieldE FP.Core.b64 a.toNat = FP.Core.b64.exps - 1 := by
    show a.toNat / 4503599627370496 % 2048 = 2047
    omega
  have hT : ¬ FP.Core.fieldT FP.Core.b64 a.toNat = 0 := by
    show ¬ a.toNat % 4503599627370496 = 0
    omega
  unfold FP.Core.decode
  rw [if_pos hE, if_neg hT]
theorem eV_nn {a : UInt64} {K : Nat} (h : eV a K) : vf_n64 a := by
  obtain ⟨c, q, e, _⟩ := h
  exact nn_val64 (by rw [e]; exact fun z => FP.Core.Datum.noConfusion z)
theorem rr_eV {A : Nat} {e : Int} (K : Nat) (hK : K < 9007199254740992) (he : -3000 ≤ e) (h : A * 2 ^ (e + 3000).toNat ≤ K * 2 ^ 2997) : ∃ c q, FP.Core.roundRatio FP.Core.b64 false A 1 e = .fin false c q ∧ -1074 ≤ q ∧ c * 2 ^ (q + 3000).toNat ≤ K * 2 ^ 2997 := by
  have h' : FP.Core.inUnits A e (-3000) ≤ FP.Core.inUnits K (-3) (-3000) * 1 := by
    unfold FP.Core.inUnits
    rw [show (e - -3000).toNat = (e + 3000).toNat by omega, Nat.mul_one]
    exact h
  obtain ⟨c, q, h1, h2, h3⟩ := rr_le (f := FP.Core.b64) (s := false) FP.Core.good_b64 (B := 1) (by decide) (c' := K) (q' := -3) (e0 := -3000) hK (by decide) (by decide) (by decide) he h'
  have h2' : c < 9007199254740992 ∧ -1074 ≤ q := ⟨h2.1, h2.2.1⟩
  refine ⟨c, q, h1, h2'.2, ?_⟩
  unfold FP.Core.inUnits at h3
  rw [show (q - -3000).toNat = (q + 3000).toNat by omega] at h3
  exact h3
theorem eV_0 : eV FP.dconst0 0 := ⟨0, -1074, by decide +kernel, by decide, by rw [Nat.zero_mul]; exact Nat.zero_le _⟩
theorem eV_f {a : UInt32} {K : Nat} (hK : K < 9007199254740992) (h : fV a false K) : eV (FP.f2d a) K := by
  obtain ⟨c, q, e, hq, hb⟩ := fV_dat h
  have e2 : FP.f2d a = FP.Core.f2d a := by
    unfold FP.f2d
    rw [if_neg]
    intro z
    have z : FP.Core.val32 a = .nan := of_decide_eq_true z
    rw [e] at z; exact FP.Core.Datum.noConfusion z
  unfold eV
  rw [e2, show FP.Core.val64 (FP.Core.f2d a) = _ from FP.Core.val64_f2d a, e]
  refine rr_eV K hK (by omega) ?_
  have k := Nat.mul_le_mul_right (2 ^ 2600) hb
  rw [Nat.mul_assoc, ← Nat.pow_add, Nat.mul_assoc, ← Nat.pow_add] at k
  rwa [show (q + 3000).toNat = (q + 400).toNat + 2600 by omega]
theorem eV_add {a b : UInt64} {K1 K2 : Nat} (hK : K1 + K2 < 9007199254740992) (h : eV a K1) (h2 : eV b K2) : eV (FP.dadd a b) (K1 + K2) := by
  obtain ⟨c, q, e, hq, hb⟩ := h
  obtain ⟨d, r, e', hr, hb'⟩ := h2
  unfold eV
  rw [show FP.Core.val64 (FP.dadd a b) = _ from FP.Core.val64_dadd a b, e, e']
  have hu : ∀ (c : Nat) (q : Int), min q r ≤ q → -1074 ≤ q → FP.Core.inUnits c q (min q r) * 2 ^ (min q r + 3000).toNat = c * 2 ^ (q + 3000).toNat := by
    intro c q _ _
    unfold FP.Core.inUnits
    rw [Nat.mul_assoc, ← Nat.pow_add]; congr 2; omega
  have hs : FP.Core.sumUnits false c q false d r (min q r) = ((FP.Core.inUnits c q (min q r) + FP.Core.inUnits d r (min q r) : Nat) : Int) := rfl
  have hsg : FP.Core.sumSign false false (FP.Core.sumUnits false c q false d r (min q r)) = false := by
    rw [hs]; unfold FP.Core.sumSign
    split
    · rfl
    · exact decide_eq_false (by omega)
  show ∃ c' q', FP.Core.roundRatio FP.Core.b64 (FP.Core.sumSign false false (FP.Core.sumUnits false c q false d r (min q r))) (FP.Core.sumUnits false c q false d r (min q r)).natAbs 1 (min q r) = _ ∧ _
  rw [hsg, hs, Int.natAbs_natCast]
  refine rr_eV (K1 + K2) hK (by omega) ?_
  rw [Nat.add_mul, Nat.add_mul]
  have e3 : FP.Core.inUnits c q (min q r) * 2 ^ (min q r + 3000).toNat = c * 2 ^ (q + 3000).toNat := by
    unfold FP.Core.inUnits
    rw [Nat.mul_assoc, ← Nat.pow_add]; congr 2; omega
  have e4 : FP.Core.inUnits d r (min q r) * 2 ^ (min q r + 3000).toNat = d * 2 ^ (r + 3000).toNat := by
    unfold FP.Core.inUnits
    rw [Nat.mul_assoc, ← Nat.pow_add]; congr 2; omega
  rw [e3, e4]
  omega
theorem val_d1000 : FP.Core.val64 4652007308841189376 = .fin false 8796093022208000 (-43) := by decide +kernel
def ff_ck2 (d : fD) : Bool := match d with
  | .fin _ c _ => decide (c ≠ 0)
  | _ => false
theorem i2d_fin : ∀ k : Nat, 0 < k → k ≤ 20 → ∃ s c q, FP.Core.val64 (FP.i2d (nI k)) = .fin s c q ∧ c ≠ 0 := by
  have h : ∀ k : Nat, k < 21 → 0 < k → ff_ck2 (FP.Core.val64 (FP.i2d (nI k))) = true := by decide +kernel
  intro k h0 hk
  have h := h k (by omega) h0
  unfold ff_ck2 at h
  split at h
  · rename_i s c q e
    exact ⟨s, c, q, e, of_decide_eq_true h⟩
  · exact absurd h (by decide)
theorem eV_mean {a : UInt64} {K k : Nat} (h : eV a K) (h0 : 0 < k) (hk : k ≤ 20) : vf_n64 (FP.ddiv a (FP.i2d (nI k))) ∧ vf_n64 (FP.dmul (FP.ddiv a (FP.i2d (nI k))) 4652007308841189376) := by
  obtain ⟨c, q, e, hq, hb⟩ := h
  obtain ⟨s, d, r, e', hd⟩ := i2d_fin k h0 hk
  have hq : FP.Core.val64 (FP.ddiv a (FP.i2d (nI k))) = FP.Core.roundRatio FP.Core.b64 (false != s) c d (q - r) := by
    rw [show FP.Core.val64 (FP.ddiv a (FP.i2d (nI k))) = _ from FP.Core.val64_ddiv a _, e, e']
    show (if d = 0 then _ else _) = _
    rw [if_neg hd]
  rcases rr_fin (f := FP.Core.b64) (false != s) c d (q - r) with ⟨c', q', h1⟩ | h1 <;> rw [h1] at hq <;> refine ⟨nn_val64 (by rw [hq]; exact fun z => FP.Core.Datum.noConfusion z), nn_val64 ?_⟩ <;> rw [show FP.Core.val64 (FP.dmul (FP.ddiv a (FP.i2d (nI k))) 4652007308841189376) = _ from FP.Core.val64_dmul _ _, hq, val_d1000]
  · show FP.Core.roundRatio FP.Core.b64 _ _ _ _ ≠ _
    rcases rr_fin (f := FP.Core.b64) ((false != s) != false) (c' * 8796093022208000) 1 (q' + -43) with ⟨c2, q2, h2⟩ | h2 <;> rw [h2] <;> exact fun z => FP.Core.Datum.noConfusion z
  · exact fun z => FP.Core.Datum.noConfusion z
