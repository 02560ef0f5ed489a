/-! the model's small methods, exactly; the page is the row of (19, 0, 0) -/
def sh_mp (S : sh_S) (P : Nat → Int32) : sh_S := sh_sr S (19, 0, 0) P
theorem mp_p (S : sh_S) (P : Nat → Int32) : sh_mp S P (19, 0, 0) = P := sh_sr_s
theorem mp_o {S : sh_S} {P : Nat → Int32} {o : sh_O} (h : o ≠ (19, 0, 0)) : sh_mp S P o = S o := sh_sr_n h
theorem sr_sr (S : sh_S) (o : sh_O) (r r' : Nat → Int32) : sh_sr (sh_sr S o r) o r' = sh_sr S o r' := by
  funext q
  by_cases h : q = o <;> simp [sh_sr, h]
theorem sr_self (S : sh_S) (o : sh_O) : sh_sr S o (S o) = S := by
  funext q
  by_cases h : q = o <;> simp [sh_sr, h]
theorem sr_comm (S : sh_S) {o o' : sh_O} (h : o ≠ o') (r r' : Nat → Int32) : sh_sr (sh_sr S o r) o' r' = sh_sr (sh_sr S o' r') o r := by
  funext q
  by_cases h1 : q = o <;> by_cases h2 : q = o'
  · exact absurd (h1.symm.trans h2) h
  · subst h1; simp [sh_sr, h]
  · subst h2; simp [sh_sr, h1]
  · simp [sh_sr, h1, h2]
theorem mp_mp (S : sh_S) (P P' : Nat → Int32) : sh_mp (sh_mp S P) P' = sh_mp S P' := sr_sr S _ P P'
theorem mp_sr (S : sh_S) (P P' : Nat → Int32) : sh_sr (sh_mp S P) (19, 0, 0) P' = sh_mp S P' := sr_sr S _ P P'
theorem mp_self (S : sh_S) : sh_mp S (S (19, 0, 0)) = S := sr_self S _
theorem nI_lit_in {x : Int32} {n N : Nat} (hx : x = nI n) (h : n < N) (hN : N < 2 ^ 31) : vp_in x N := hx ▸ vp_in_nI h hN
theorem cl_of {x : Int32} {n : Nat} (hx : x = nI n) (h : n < 2 ^ 31) : x.toNatClampNeg = n := hx ▸ nI_clamp h
theorem ix_t {a b : Int32} {t w : Nat} (h1 : a = nI t) (h2 : b = nI w) : 142 + 23 * a + b = nI (142 + 23 * t + w) := by
  subst h1; subst h2
  show nI 142 + nI 23 * nI t + nI w = _
  rw [pk_mul, nI_add, nI_add]
theorem ix_m {a b : Int32} {t w : Nat} (h1 : a = nI t) (h2 : b = nI w) : 22 + 12 * a + b = nI (22 + 12 * t + w) := by
  subst h1; subst h2
  show nI 22 + nI 12 * nI t + nI w = _
  rw [pk_mul, nI_add, nI_add]
theorem mu_lt {i N : Nat} (h : i < N) (hN : N < 2 ^ 31) : N - (nI (i + 1)).toNatClampNeg < N - (nI i).toNatClampNeg := by
  rw [nI_clamp (by omega), nI_clamp (by omega)]
  omega
section MLEAF
variable {g : sh_G} {S : sh_S} {P : Nat → Int32} {sz : Nat} {Q : Int32 → sh_S → Prop} {U : sh_S → Prop}
theorem c_in {v a b : Int32} (h1 : a ≤ v ∧ v ≤ b → Q 1 S) (h2 : ¬ (a ≤ v ∧ v ≤ b) → Q 0 S) : sh_Ci g mX9_in [sh_I v, sh_I a, sh_I b] S sz Q := by
  refine wp_X9_in ⟨fun c => h2 fun z => ?_, fun c => ⟨fun c2 => h2 fun z => ?_, fun c2 => h1 ⟨Int32.not_lt.mp c, Int32.not_lt.mp c2⟩⟩⟩
  · exact absurd c (Int32.not_lt.mpr z.1)
  · exact absurd c2 (Int32.not_lt.mpr z.2)
theorem c_bring {o1 o3 : sh_O} {n1 n3 a b : Nat} {a2 a4 : Int32} (hk1 : sh_ok o1) (hr1 : ∀ r, sh_ct o1 r = .inr (.inl (n1, r))) (hk3 : sh_ok o3) (hr3 : ∀ r, sh_ct o3 r = .inr (.inl (n3, r))) (hne : o1 ≠ o3) (h2 : a2 = nI a) (h4 : a4 = nI b) (ha : a + 602 ≤ n1) (hb : b + 602 ≤ n3) (hn1 : n1 < 2 ^ 31) (hn3 : n3 < 2 ^ 31)
    (h : U (sh_sr S o3 (va_cpy (S o1) (S o3) a b 602))) : sh_Cu g mX9_bring [sh_R o1, sh_I a2, sh_R o3, sh_I a4] S sz U := by
  subst h2; subst h4
  refine wp_X9_bring hk1 hr1 hk3 hr3 ⟨fun v S3 => ∃ i, i ≤ 602 ∧ v = nI i ∧ S3 = sh_sr S o3 (va_cpy (S o1) (S o3) a b i), fun v _ => 602 - v.toNatClampNeg, ⟨0, by omega, rfl, ?_⟩, ?_⟩
  · rw [show va_cpy (S o1) (S o3) a b 0 = S o3 from funext fun k => by simp [va_cpy]; intro h1 h2; omega, sr_self]
  rintro v S3 ⟨i, hi, rfl, rfl⟩
  refine ⟨fun c => ?_, fun c => ?_⟩
  · have : i = 602 := by
      have := (nI_leI (a := 602) (b := i) (by omega) (by omega)).mp c
      omega
    subst this
    exact h
  · have hlt : i < 602 := Nat.lt_of_not_le fun z => c ((nI_leI (a := 602) (b := i) (by omega) (by omega)).mpr z)
    rw [nI_add, nI_add]
    refine ⟨vp_in_nI (by omega) hn1, vp_in_nI (by omega) hn3, ?_⟩
    rintro S7 rfl x8 rfl
    rw [nI_clamp (by omega), nI_clamp (by omega), sh_sr_s, sh_sr_n hne, sr_sr]
    refine ⟨⟨i + 1, by omega, nI_1 i, ?_⟩, ?_⟩
    · congr 1
      funext k
      unfold upd va_cpy
      by_cases hk : k = b + i
      · subst hk
        rw [if_pos rfl, if_pos (by omega), show b + i - b = i by omega]
      · rw [if_neg hk]
        by_cases h5 : b ≤ k ∧ k < b + i
        · rw [if_pos h5, if_pos (by omega)]
        · rw [if_neg h5, if_neg (by omega)]
    · rw [nI_1]
      exact mu_lt hlt (by omega)
theorem c_its {a1 a2 : Int32} (t w : Nat) (h1 : a1 = nI t) (h2 : a2 = nI w) (ht : t < 20) (hw : w < 23) (h : Q (P (142 + 23 * t + w)) (sh_mp S P)) : sh_Ci g mX9_its [sh_R (9, 0, 0), sh_I a1, sh_I a2] (sh_mp S P) sz Q := by
  refine wp_X9_its ?_
  rw [ix_t h1 h2, nI_clamp (by omega), mp_p]
  exact ⟨vp_in_nI (by omega) (by omega), h⟩
theorem c_of {a1 a2 : Int32} (m w : Nat) (h1 : a1 = nI m) (h2 : a2 = nI w) (hm : m < 10) (hw : w < 12) (h : Q (P (22 + 12 * m + w)) (sh_mp S P)) : sh_Ci g mX9_of [sh_R (9, 0, 0), sh_I a1, sh_I a2] (sh_mp S P) sz Q := by
  refine wp_X9_of ?_
  rw [ix_m h1 h2, nI_clamp (by omega), mp_p]
  exact ⟨vp_in_nI (by omega) (by omega), h⟩
theorem c_more {a1 a2 a3 : Int32} (m w : Nat) (h1 : a1 = nI m) (h2 : a2 = nI w) (hm : m < 10) (hw : w < 12) (h : U (sh_mp S (upd P (22 + 12 * m + w) (P (22 + 12 * m + w) + a3)))) : sh_Cu g mX9_more [sh_R (9, 0, 0), sh_I a1, sh_I a2, sh_I a3] (sh_mp S P) sz U := by
  refine wp_X9_more ?_
  rw [ix_m h1 h2, nI_clamp (by omega), mp_p, mp_sr]
  exact ⟨vp_in_nI (by omega) (by omega), vp_in_nI (by omega) (by omega), fun _ e => e ▸ h⟩
theorem c_lay {a1 a2 a3 : Int32} (t w : Nat) (h1 : a1 = nI t) (h2 : a2 = nI w) (ht : t < 20) (hw : w < 23) (h : U (sh_mp S (upd P (142 + 23 * t + w) a3))) : sh_Cu g mX9_lay [sh_R (9, 0, 0), sh_I a1, sh_I a2, sh_I a3] (sh_mp S P) sz U := by
  refine wp_X9_lay ?_
  rw [ix_t h1 h2, nI_clamp (by omega), mp_p, mp_sr]
  exact ⟨vp_in_nI (by omega) (by omega), fun _ e => e ▸ h⟩
end MLEAF
