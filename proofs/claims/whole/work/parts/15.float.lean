/-! floats: magnitudes in eighths, no result that is not a number, order, and the bits by doubling -/
abbrev fD : Type := FP.Core.Datum
abbrev fB : FP.Core.Fmt := FP.Core.b32
theorem ff_mul_le {a b c d : Nat} (h1 : a ≤ b) (h2 : c ≤ d) : a * c ≤ b * d := Nat.mul_le_mul h1 h2
theorem ff_pow {a b c : Nat} (h : a = b + c) : 2 ^ a = 2 ^ b * 2 ^ c := by rw [h, Nat.pow_add]
theorem rr_sign {f : FP.Core.Fmt} {s t : Bool} {A B c : Nat} {e q : Int} (h : FP.Core.roundRatio f s A B e = .fin t c q) : t = s := by
  unfold FP.Core.roundRatio at h
  split at h
  · cases h; rfl
  · unfold FP.Core.roundAt FP.Core.settle FP.Core.bound at h
    split at h <;> split at h <;> cases h <;> rfl
theorem rr_fin {f : FP.Core.Fmt} (s : Bool) (A B : Nat) (e : Int) : (∃ c q, FP.Core.roundRatio f s A B e = .fin s c q) ∨ FP.Core.roundRatio f s A B e = .inf s := by
  unfold FP.Core.roundRatio
  split
  · exact .inl ⟨_, _, rfl⟩
  · unfold FP.Core.roundAt FP.Core.settle FP.Core.bound
    split <;> split <;> first | exact .inl ⟨_, _, rfl⟩ | exact .inr rfl
/-- what is not above a number of the format is not above it when it is rounded -/
theorem rr_le {f : FP.Core.Fmt} (hf : FP.Core.Good f) {s : Bool} {A B c' : Nat} {e q' e0 : Int} (hB : 0 < B) (hc' : c' < 2 ^ f.p) (hq' : f.qmin ≤ q') (hq2 : q' ≤ f.qmax - 1) (h0 : e0 < f.qmin) (h0e : e0 ≤ e)
    (h : FP.Core.inUnits A e e0 ≤ FP.Core.inUnits c' q' e0 * B) :
    ∃ c q, FP.Core.roundRatio f s A B e = .fin s c q ∧ FP.Core.fits f (.fin s c q) ∧ FP.Core.inUnits c q e0 ≤ FP.Core.inUnits c' q' e0 := by
  rcases rr_fin (f := f) s A B e with ⟨c, q, hr⟩ | hr
  · refine ⟨c, q, hr, hr ▸ FP.Core.roundRatio_fits hf s A hB e, ?_⟩
    have k := FP.Core.roundRatio_nearest hf hB hr hc' hq' (by omega) h0e
    unfold FP.Core.distance at k
    rw [← Int.natCast_mul, ← Int.natCast_mul] at k
    have k2 : FP.Core.inUnits c q e0 * B ≤ FP.Core.inUnits c' q' e0 * B := by omega
    exact Nat.le_of_mul_le_mul_right k2 hB
  · rw [FP.Core.roundRatio_inf hf hB h0 h0e] at hr
    have h1 : FP.Core.inUnits c' q' e0 < (2 ^ (f.p + 1) - 1) * 2 ^ (f.qmax - 1 - e0).toNat := by
      unfold FP.Core.inUnits
      refine Nat.lt_of_lt_of_le (m := 2 ^ f.p * 2 ^ (q' - e0).toNat) (Nat.mul_lt_mul_of_pos_right hc' (Nat.two_pow_pos _)) ?_
      refine ff_mul_le ?_ (Nat.pow_le_pow_right (by decide) (by omega))
      have : 2 ^ (f.p + 1) = 2 * 2 ^ f.p := by rw [Nat.pow_succ]; omega
      have := Nat.two_pow_pos f.p
      omega
    have h2 := Nat.mul_lt_mul_of_pos_right h1 hB
    omega
/-- at most K eighths, of sign s -/
def dV (d : fD) (s : Bool) (K : Nat) : Prop := ∃ c q, d = .fin s c q ∧ FP.Core.fits fB d ∧ c * 2 ^ (q + 400).toNat ≤ K * 2 ^ 397
theorem ff_fit {s : Bool} {c : Nat} {q : Int} (h : FP.Core.fits fB (.fin s c q)) : c < 16777216 ∧ -149 ≤ q ∧ q ≤ 104 ∧ (q = -149 ∨ 8388608 ≤ c) := h
theorem rr_dV {s : Bool} {A B : Nat} {e : Int} (K : Nat) (hB : 0 < B) (hK : K < 16777216) (he : -400 ≤ e) (h : A * 2 ^ (e + 400).toNat ≤ K * 2 ^ 397 * B) : dV (FP.Core.roundRatio fB s A B e) s K := by
  have h' : FP.Core.inUnits A e (-400) ≤ FP.Core.inUnits K (-3) (-400) * B := by
    unfold FP.Core.inUnits
    rw [show (e - -400).toNat = (e + 400).toNat by omega]
    exact h
  obtain ⟨c, q, h1, h2, h3⟩ := rr_le (f := fB) (s := s) FP.Core.good_b32 hB (c' := K) (q' := -3) (e0 := -400) hK (by decide) (by decide) (by decide) he h'
  refine ⟨c, q, h1, h1 ▸ h2, ?_⟩
  unfold FP.Core.inUnits at h3
  rw [show (q - -400).toNat = (q + 400).toNat by omega] at h3
  exact h3
theorem dV_prod {x y : fD} {s t : Bool} {K1 K2 : Nat} (K : Nat) (hK : K < 16777216) (h : K1 * K2 ≤ 8 * K) (hx : dV x s K1) (hy : dV y t K2) : dV (FP.Core.round fB (FP.Core.exactProduct x y)) (s != t) K := by
  obtain ⟨c, q, rfl, f1, v1⟩ := hx
  obtain ⟨d, r, rfl, f2, v2⟩ := hy
  have f1 := ff_fit f1
  have f2 := ff_fit f2
  show dV (FP.Core.roundRatio fB (s != t) (c * d) 1 (q + r)) _ K
  refine rr_dV K (by decide) hK (by omega) ?_
  have k := ff_mul_le v1 v2
  have e1 : c * 2 ^ (q + 400).toNat * (d * 2 ^ (r + 400).toNat) = c * d * 2 ^ (q + r + 400).toNat * 2 ^ 400 := by
    have : 2 ^ (q + 400).toNat * 2 ^ (r + 400).toNat = 2 ^ (q + r + 400).toNat * 2 ^ 400 := by rw [← Nat.pow_add, ← Nat.pow_add]; congr 1; omega
    calc c * 2 ^ (q + 400).toNat * (d * 2 ^ (r + 400).toNat) = c * d * (2 ^ (q + 400).toNat * 2 ^ (r + 400).toNat) := by ac_rfl
      _ = _ := by rw [this, ← Nat.mul_assoc (c * d)]
  have e2 : K1 * 2 ^ 397 * (K2 * 2 ^ 397) = K1 * K2 * 2 ^ 394 * 2 ^ 400 := by
    have : (2 : Nat) ^ 397 * 2 ^ 397 = 2 ^ 394 * 2 ^ 400 := by decide +kernel
    calc K1 * 2 ^ 397 * (K2 * 2 ^ 397) = K1 * K2 * (2 ^ 397 * 2 ^ 397) := by ac_rfl
      _ = _ := by rw [this, ← Nat.mul_assoc (K1 * K2)]
  rw [e1, e2] at k
  have k := Nat.le_of_mul_le_mul_right k (Nat.two_pow_pos 400)
  refine Nat.le_trans k ?_
  rw [Nat.mul_one]
  have : K * 2 ^ 397 = 8 * K * 2 ^ 394 := by rw [show (2 : Nat) ^ 397 = 8 * 2 ^ 394 by decide +kernel]; ac_rfl
  rw [this]
  exact Nat.mul_le_mul_right _ h
def fV (a : UInt32) (s : Bool) (K : Nat) : Prop := dV (FP.Core.val32 a) s K
theorem fV_mul {a b : UInt32} {s t : Bool} {K1 K2 : Nat} (K : Nat) (hK : K < 16777216) (h : K1 * K2 ≤ 8 * K) (hx : fV a s K1) (hy : fV b t K2) : fV (FP.fmul a b) (s != t) K := by
  show dV _ _ _
  rw [show FP.Core.val32 (FP.fmul a b) = _ from FP.Core.val32_fmul a b]
  exact dV_prod K hK h hx hy
theorem val_100 : FP.Core.val32 1120403456 = .fin false 13107200 (-17) := by decide +kernel
theorem fV_div {a : UInt32} {s : Bool} {K1 : Nat} (K : Nat) (hK : K < 16777216) (h : K1 ≤ 100 * K) (hx : fV a s K1) : fV (FP.fdiv a 1120403456) s K := by
  show dV _ _ _
  rw [show FP.Core.val32 (FP.fdiv a 1120403456) = _ from FP.Core.val32_fdiv a 1120403456, val_100]
  obtain ⟨c, q, e, f1, v1⟩ := hx
  rw [e] at f1
  have f1 := ff_fit f1
  rw [e]
  show dV (FP.Core.roundRatio fB (s != false) c 13107200 (q - -17)) s K
  rw [show (s != false) = s by cases s <;> rfl]
  refine rr_dV K (by decide) hK (by omega) ?_
  rw [show (q - -17 + 400).toNat = (q + 400).toNat + 17 by omega, Nat.pow_add, ← Nat.mul_assoc]
  have : K * 2 ^ 397 * 13107200 = 100 * K * 2 ^ 397 * 2 ^ 17 := by rw [show 13107200 = 100 * 2 ^ 17 by decide]; ac_rfl
  rw [this]
  exact Nat.mul_le_mul_right _ (Nat.le_trans v1 (Nat.mul_le_mul_right _ h))
theorem fV_mono {a : UInt32} {s : Bool} {K K' : Nat} (h : K ≤ K') (hx : fV a s K) : fV a s K' := by
  obtain ⟨c, q, e, f1, v1⟩ := hx
  exact ⟨c, q, e, f1, Nat.le_trans v1 (Nat.mul_le_mul_right _ h)⟩
/-- no NaN -/
theorem nn_val {a : UInt32} (h : FP.Core.val32 a ≠ .nan) : vf_n32 a := by
  unfold vf_n32
  rw [UInt32.le_iff_toNat_le, UInt32.toNat_and]
  show a.toNat &&& (2 ^ 31 - 1) ≤ 2139095040
  rw [Nat.and_two_pow_sub_one_eq_mod]
  have hl := a.toNat_lt
  refine Nat.le_of_not_lt fun hc => h ?_
  show FP.Core.decode fB a.toNat = .nan
  have hE : FP.Core.fieldE fB a.toNat = fB.exps - 1 := by
    show a.toNat / 8388608 % 256 = 255
    omega
  have hT : ¬ FP.Core.fieldT fB a.toNat = 0 := by
    show ¬ a.toNat % 8388608 = 0
    omega
  unfold FP.Core.decode
  rw [if_pos hE, if_neg hT]
theorem fV_nn {a : UInt32} {s : Bool} {K : Nat} (h : fV a s K) : vf_n32 a := by
  obtain ⟨c, q, e, _⟩ := h
  exact nn_val (by rw [e]; exact fun z => FP.Core.Datum.noConfusion z)
def ff_chk (d : fD) (s : Bool) (K : Nat) : Bool := match d with
  | .fin t c q => decide (t = s ∧ c * 2 ^ (q + 400).toNat ≤ K * 2 ^ 397)
  | _ => false
theorem ff_of {a : UInt32} {s : Bool} {K : Nat} (h : ff_chk (FP.Core.val32 a) s K = true) : fV a s K := by
  unfold ff_chk at h
  split at h
  · rename_i t c q e
    have h2 := of_decide_eq_true h
    obtain ⟨rfl, h3⟩ := h2
    exact ⟨c, q, e, FP.Core.val32_fits a, h3⟩
  · exact absurd h (by decide)
theorem fV_i : ∀ k : Nat, k ≤ 100 → fV (FP.i2f (nI k)) false (8 * k) := by
  have : ∀ k : Nat, k < 101 → ff_chk (FP.Core.val32 (FP.i2f (nI k))) false (8 * k) = true := by decide +kernel
  exact fun k hk => ff_of (this k (by omega))
theorem fV_1 : fV FP.fconst1 false 8 := ff_of (by decide +kernel)
theorem fV_1000 : fV 1148846080 false 8000 := ff_of (by decide +kernel)
theorem fV_0 : fV FP.fconst0 false 0 := ff_of (by decide +kernel)
/-- a sharpness: at most ten eighths -/
abbrev fS (a : UInt32) : Prop := fV a false 10
theorem fS_dull {v : UInt32} {k : Nat} (hv : fS v) (hk : k ≤ 100) : vf_n32 (FP.fmul v (FP.i2f (nI k))) ∧ vf_n32 (FP.fdiv (FP.fmul v (FP.i2f (nI k))) 1120403456) ∧ fS (FP.fdiv (FP.fmul v (FP.i2f (nI k))) 1120403456) := by
  have h1 := fV_mul 1000 (by decide) (by omega) hv (fV_i k hk)
  have h2 := fV_div 10 (by decide) (by decide) h1
  exact ⟨fV_nn h1, fV_nn h2, h2⟩
theorem fS_thou {v : UInt32} (hv : fS v) : vf_n32 (FP.fmul v 1148846080) := fV_nn (fV_mul 10000 (by decide) (by decide) hv fV_1000)
/-- sums: of two, whatever their signs, when the exact sum is known -/
theorem sum_dV {s t : Bool} {c d : Nat} {q r : Int} {K : Nat} (hq : -149 ≤ q) (hr : -149 ≤ r) (u : Bool) (hK : K < 16777216)
    (hs : FP.Core.sumSign s t (FP.Core.sumUnits s c q t d r (min q r)) = u) (h : (FP.Core.sumUnits s c q t d r (min q r)).natAbs * 2 ^ (min q r + 400).toNat ≤ K * 2 ^ 397) :
    dV (FP.Core.round fB (FP.Core.exactSum (.fin s c q) (.fin t d r))) u K := by
  show dV (FP.Core.roundRatio fB (FP.Core.sumSign s t _) _ 1 (min q r)) u K
  rw [hs]
  exact rr_dV K (by decide) hK (by omega) (by rw [Nat.mul_one]; exact h)
theorem iu_up {c : Nat} {q e : Int} (h : e ≤ q) (he : -400 ≤ e) : FP.Core.inUnits c q e * 2 ^ (e + 400).toNat = c * 2 ^ (q + 400).toNat := by
  unfold FP.Core.inUnits
  rw [Nat.mul_assoc, ← Nat.pow_add]; congr 2; omega
/-- the exact sum in the small units -/
theorem su_up {s t : Bool} {c d : Nat} {q r : Int} (hq : -149 ≤ q) (hr : -149 ≤ r) : FP.Core.sumUnits s c q t d r (min q r) * ((2 ^ (min q r + 400).toNat : Nat) : Int) = FP.Core.signed s (c * 2 ^ (q + 400).toNat) + FP.Core.signed t (d * 2 ^ (r + 400).toNat) := by
  unfold FP.Core.sumUnits
  rw [Int.add_mul, ← FP.Core.signed_mul, ← FP.Core.signed_mul, iu_up (by omega) (by omega), iu_up (by omega) (by omega)]
theorem sum_pos {s t : Bool} {c d : Nat} {q r : Int} {K : Nat} (hq : -149 ≤ q) (hr : -149 ≤ r) (hK : K < 16777216) (hst : (s && t) = false)
    (h0 : 0 ≤ FP.Core.signed s (c * 2 ^ (q + 400).toNat) + FP.Core.signed t (d * 2 ^ (r + 400).toNat)) (h : FP.Core.signed s (c * 2 ^ (q + 400).toNat) + FP.Core.signed t (d * 2 ^ (r + 400).toNat) ≤ ((K * 2 ^ 397 : Nat) : Int)) :
    dV (FP.Core.round fB (FP.Core.exactSum (.fin s c q) (.fin t d r))) false K := by
  rw [← su_up hq hr] at h0 h
  generalize hX : FP.Core.sumUnits s c q t d r (min q r) = X at h0 h
  have hp : (0 : Int) < ((2 ^ (min q r + 400).toNat : Nat) : Int) := by have := Nat.two_pow_pos (min q r + 400).toNat; omega
  have hX0 : 0 ≤ X := Int.nonneg_of_mul_nonneg_left h0 hp
  refine sum_dV hq hr false hK ?_ ?_
  · rw [hX]; unfold FP.Core.sumSign
    split
    · exact hst
    · exact decide_eq_false (by omega)
  · rw [hX]
    have : ((X.natAbs * 2 ^ (min q r + 400).toNat : Nat) : Int) = X * ((2 ^ (min q r + 400).toNat : Nat) : Int) := by
      rw [Int.natCast_mul, Int.natAbs_of_nonneg hX0]
    omega
theorem sum_neg {s t : Bool} {c d : Nat} {q r : Int} {K : Nat} (hq : -149 ≤ q) (hr : -149 ≤ r) (hK : K < 16777216)
    (h0 : FP.Core.signed s (c * 2 ^ (q + 400).toNat) + FP.Core.signed t (d * 2 ^ (r + 400).toNat) < 0) (h : -((K * 2 ^ 397 : Nat) : Int) ≤ FP.Core.signed s (c * 2 ^ (q + 400).toNat) + FP.Core.signed t (d * 2 ^ (r + 400).toNat)) :
    dV (FP.Core.round fB (FP.Core.exactSum (.fin s c q) (.fin t d r))) true K := by
  rw [← su_up hq hr] at h0 h
  generalize hX : FP.Core.sumUnits s c q t d r (min q r) = X at h0 h
  have hp : (0 : Int) < ((2 ^ (min q r + 400).toNat : Nat) : Int) := by have := Nat.two_pow_pos (min q r + 400).toNat; omega
  have hX0 : X < 0 := by
    refine Int.lt_of_not_ge fun z => ?_
    have := Int.mul_nonneg z (Int.le_of_lt hp)
    omega
  refine sum_dV hq hr true hK ?_ ?_
  · rw [hX]; unfold FP.Core.sumSign
    rw [if_neg (by omega)]
    exact decide_eq_true (by omega)
  · rw [hX]
    have : ((X.natAbs * 2 ^ (min q r + 400).toNat : Nat) : Int) = -(X * ((2 ^ (min q r + 400).toNat : Nat) : Int)) := by
      rw [Int.natCast_mul, ← Int.neg_mul]; congr 1; omega
    omega

/-! sharpening -/
theorem fV_dat {a : UInt32} {s : Bool} {K : Nat} (h : fV a s K) : ∃ c q, FP.Core.val32 a = .fin s c q ∧ -149 ≤ q ∧ c * 2 ^ (q + 400).toNat ≤ K * 2 ^ 397 := by
  obtain ⟨c, q, e, f1, v1⟩ := h
  rw [e] at f1
  exact ⟨c, q, e, (ff_fit f1).2.1, v1⟩
theorem val_1 : FP.Core.val32 FP.fconst1 = .fin false 8388608 (-23) := by decide +kernel
theorem e_1 : (8388608 : Nat) * 2 ^ ((-23 : Int) + 400).toNat = 8 * 2 ^ 397 := by decide +kernel
theorem sg_f (n : Nat) : FP.Core.signed false n = (n : Int) := rfl
theorem sg_t (n : Nat) : FP.Core.signed true n = -(n : Int) := rfl
/-- the size of a number, in small units -/
def fm (a : UInt32) : Nat := match FP.Core.val32 a with
  | .fin _ c q => c * 2 ^ (q + 400).toNat
  | _ => 0
theorem fm_of {a : UInt32} {s : Bool} {c : Nat} {q : Int} (h : FP.Core.val32 a = .fin s c q) : fm a = c * 2 ^ (q + 400).toNat := by unfold fm; rw [h]
theorem fV_m {a : UInt32} {s : Bool} {K : Nat} (h : fV a s K) : fm a ≤ K * 2 ^ 397 := by
  obtain ⟨c, q, e, _, v⟩ := fV_dat h
  rw [fm_of e]; exact v
theorem fV_of {a : UInt32} {s : Bool} {K K' : Nat} (h : fV a s K) (h2 : fm a ≤ K' * 2 ^ 397) : fV a s K' := by
  obtain ⟨c, q, e, f, v⟩ := h
  rw [fm_of e] at h2
  exact ⟨c, q, e, f, h2⟩
/-- 1 - v -/
theorem sub_lo {v : UInt32} (j : Nat) (hj : j < 8) (hv : fS v) (h0 : j * 2 ^ 397 ≤ fm v) (h1 : fm v < 8 * 2 ^ 397) : fV (FP.fsub FP.fconst1 v) false (8 - j) := by
  obtain ⟨c, q, e, hq, _⟩ := fV_dat hv
  rw [fm_of e] at h0 h1
  show dV _ _ _
  rw [show FP.Core.val32 (FP.fsub FP.fconst1 v) = _ from FP.Core.val32_fsub FP.fconst1 v, val_1, e]
  refine sum_pos (by decide) hq (by omega) rfl ?_ ?_ <;> rw [e_1, sg_f, Bool.not_false, sg_t]
  · omega
  · have : (8 - j) * 2 ^ 397 + j * 2 ^ 397 = 8 * 2 ^ 397 := by rw [← Nat.add_mul]; congr 1; omega
    omega
theorem sub_hi {v : UInt32} (hv : fS v) (h1 : 8 * 2 ^ 397 ≤ fm v) : ∃ u, fV (FP.fsub FP.fconst1 v) u 2 ∧ (u = false → fm (FP.fsub FP.fconst1 v) ≤ 0) := by
  obtain ⟨c, q, e, hq, hb⟩ := fV_dat hv
  rw [fm_of e] at h1
  by_cases hc : c * 2 ^ (q + 400).toNat = 8 * 2 ^ 397
  · have k : fV (FP.fsub FP.fconst1 v) false 0 := by
      show dV _ _ _
      rw [show FP.Core.val32 (FP.fsub FP.fconst1 v) = _ from FP.Core.val32_fsub FP.fconst1 v, val_1, e]
      refine sum_pos (by decide) hq (by omega) rfl ?_ ?_ <;> rw [e_1, sg_f, Bool.not_false, sg_t] <;> omega
    exact ⟨false, fV_mono (by omega) k, fun _ => by have := fV_m k; omega⟩
  · have k : fV (FP.fsub FP.fconst1 v) true 2 := by
      show dV _ _ _
      rw [show FP.Core.val32 (FP.fsub FP.fconst1 v) = _ from FP.Core.val32_fsub FP.fconst1 v, val_1, e]
      refine sum_neg (by decide) hq (by omega) ?_ ?_ <;> rw [e_1, sg_f, Bool.not_false, sg_t] <;> omega
    exact ⟨true, k, fun z => Bool.noConfusion z⟩
theorem add_lo {v r : UInt32} {K1 K2 : Nat} (K : Nat) (hK : K < 16777216) (hk : K1 + K2 ≤ K) (hv : fV v false K1) (hr : fV r false K2) : fV (FP.fadd v r) false K := by
  obtain ⟨c, q, e, hq, hb⟩ := fV_dat hv
  obtain ⟨d, r', e', hr', hb'⟩ := fV_dat hr
  show dV _ _ _
  rw [show FP.Core.val32 (FP.fadd v r) = _ from FP.Core.val32_fadd v r, e, e']
  have : (K1 + K2) * 2 ^ 397 ≤ K * 2 ^ 397 := Nat.mul_le_mul_right _ hk
  rw [Nat.add_mul] at this
  refine sum_pos hq hr' hK rfl ?_ ?_ <;> rw [sg_f, sg_f] <;> omega
theorem add_hi {v r : UInt32} (hv : fS v) (hv2 : 8 * 2 ^ 397 ≤ fm v) (hr : fV r true 2) : fV (FP.fadd v r) false 10 := by
  obtain ⟨c, q, e, hq, hb⟩ := fV_dat hv
  obtain ⟨d, r', e', hr', hb'⟩ := fV_dat hr
  rw [fm_of e] at hv2
  show dV _ _ _
  rw [show FP.Core.val32 (FP.fadd v r) = _ from FP.Core.val32_fadd v r, e, e']
  refine sum_pos hq hr' (by omega) rfl ?_ ?_ <;> rw [sg_f, sg_t] <;> omega
theorem fS_sharp {v : UInt32} {k : Nat} (hv : fS v) (hk : k ≤ 100) :
    vf_n32 (FP.fsub FP.fconst1 v) ∧ vf_n32 (FP.fmul (FP.fsub FP.fconst1 v) (FP.i2f (nI k))) ∧ vf_n32 (FP.fdiv (FP.fmul (FP.fsub FP.fconst1 v) (FP.i2f (nI k))) 1120403456) ∧
    fS (FP.fadd v (FP.fdiv (FP.fmul (FP.fsub FP.fconst1 v) (FP.i2f (nI k))) 1120403456)) := by
  have hi := fV_i k hk
  by_cases hc : 8 * 2 ^ 397 ≤ fm v
  · obtain ⟨u, h1, h2⟩ := sub_hi hv hc
    have h3 := fV_mul 200 (by decide) (by omega) h1 hi
    have h4 := fV_div 2 (by decide) (by omega) h3
    refine ⟨fV_nn h1, fV_nn h3, fV_nn h4, ?_⟩
    cases u with
    | false =>
      have h5 := fV_of (K' := 0) h1 (by rw [Nat.zero_mul]; exact h2 rfl)
      have h6 := fV_div 0 (by decide) (by omega) (fV_mul 0 (by decide) (by omega) h5 hi)
      exact add_lo 10 (by decide) (by omega) hv h6
    | true => exact add_hi hv hc h4
  · have hm : ∃ j, j < 8 ∧ j * 2 ^ 397 ≤ fm v ∧ fm v ≤ (j + 1) * 2 ^ 397 := by
      have hp := Nat.two_pow_pos 397
      refine ⟨fm v / 2 ^ 397, Nat.div_lt_of_lt_mul (by rw [Nat.mul_comm]; omega), Nat.div_mul_le_self _ _, Nat.le_of_lt ?_⟩
      have := Nat.lt_div_mul_add (a := fm v) hp
      rw [Nat.add_mul]; omega
    obtain ⟨j, hj, h0, h1⟩ := hm
    have k1 := sub_lo j hj hv h0 (by omega)
    have k2 := fV_mul ((8 - j) * 100) (by omega) (by
      have := Nat.mul_le_mul_left (8 - j) (show 8 * k ≤ 800 by omega)
      omega) k1 hi
    have k3 := fV_div (8 - j) (by omega) (by omega) k2
    exact ⟨fV_nn k1, fV_nn k2, fV_nn k3, add_lo 10 (by decide) (by omega) (fV_of hv h1) k3⟩
