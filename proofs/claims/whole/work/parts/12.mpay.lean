/-! rows of a member: what is gained, charged, shared; the model's methods for them -/
def sh_mn (a b : Int32) : Int32 := if a ≤ b then a else b
def sh_row (P : Nat → Int32) (m : Nat) : Nat → Int32 := fun w => P (22 + 12 * m + w)
def sh_wr (P : Nat → Int32) (m : Nat) (n : Nat → Int32) : Nat → Int32 := fun j => if 22 + 12 * m ≤ j ∧ j < 22 + 12 * m + 12 then n (j - (22 + 12 * m)) else P j
theorem wr_row (P : Nat → Int32) (m : Nat) : sh_wr P m (sh_row P m) = P := by
  funext j
  unfold sh_wr sh_row
  by_cases h : 22 + 12 * m ≤ j ∧ j < 22 + 12 * m + 12
  · rw [if_pos h, show 22 + 12 * m + (j - (22 + 12 * m)) = j by omega]
  · rw [if_neg h]
theorem wr_upd (P : Nat → Int32) (m w : Nat) (n : Nat → Int32) (v : Int32) (hw : w < 12) : upd (sh_wr P m n) (22 + 12 * m + w) v = sh_wr P m (upd n w v) := by
  funext j
  unfold upd sh_wr
  by_cases h : j = 22 + 12 * m + w
  · rw [if_pos h, if_pos (by omega)]
    exact (if_pos (by omega)).symm
  · rw [if_neg h]
    by_cases h2 : 22 + 12 * m ≤ j ∧ j < 22 + 12 * m + 12
    · rw [if_pos h2, if_pos h2]
      exact (if_neg (by omega)).symm
    · rw [if_neg h2, if_neg h2]
theorem wr_at (P : Nat → Int32) (m w : Nat) (n : Nat → Int32) (hw : w < 12) : sh_wr P m n (22 + 12 * m + w) = n w := by
  unfold sh_wr
  rw [if_pos (by omega), show 22 + 12 * m + w - (22 + 12 * m) = w by omega]
theorem wr_out {P : Nat → Int32} {m j : Nat} {n : Nat → Int32} (h : ¬ (22 + 12 * m ≤ j ∧ j < 22 + 12 * m + 12)) : sh_wr P m n j = P j := if_neg h
theorem wr_wr (P : Nat → Int32) (m : Nat) (n n' : Nat → Int32) : sh_wr (sh_wr P m n) m n' = sh_wr P m n' := by
  funext j
  unfold sh_wr
  by_cases h : 22 + 12 * m ≤ j ∧ j < 22 + 12 * m + 12
  · rw [if_pos h, if_pos h]
  · rw [if_neg h, if_neg h, if_neg h]
def sh_pk (k : Nat) (x : (Nat → Int32) × Int32) : (Nat → Int32) × Int32 := (upd (upd x.1 (8 + k) (x.1 (8 + k) + (-(sh_mn (x.1 (8 + k)) x.2)))) (5 + k) (x.1 (5 + k) + sh_mn (x.1 (8 + k)) x.2), x.2 - sh_mn (x.1 (8 + k)) x.2)
def sh_pks (x : (Nat → Int32) × Int32) : Nat → (Nat → Int32) × Int32
  | 0 => x
  | k + 1 => sh_pk k (sh_pks x k)
def sh_pay (n : Nat → Int32) (q : Int32) : Nat → Int32 := upd (sh_pks (n, q) 3).1 3 ((sh_pks (n, q) 3).1 3 + (sh_pks (n, q) 3).2)
def sh_gain (n : Nat → Int32) (w : Nat) (q : Int32) : Nat → Int32 := sh_pay (upd n w (n w + q)) q
def sh_chg (n : Nat → Int32) (k : Nat) (q : Int32) : Nat → Int32 := upd (upd (upd n 3 (n 3 + (-(sh_mn (n 3) q)))) (5 + k) (n (5 + k) + sh_mn (n 3) q)) (8 + k) (n (8 + k) + (q - sh_mn (n 3) q))
theorem upd_ne {f : Nat → Int32} {k j : Nat} {x : Int32} (h : j ≠ k) : upd f k x j = f j := if_neg h
theorem upd_eq {f : Nat → Int32} {k : Nat} {x : Int32} : upd f k x k = x := if_pos rfl
/-- a loop's counter, at its end and before -/
theorem lp_end {i N : Nat} (hi : i ≤ N) (hN : N < 2 ^ 31) (c : nI N ≤ nI i) : i = N := by
  have := (nI_leI hN (by omega)).mp c
  omega
theorem lp_go {i N : Nat} (hN : N < 2 ^ 31) (hi : i ≤ N) (c : ¬ nI N ≤ nI i) : i < N := Nat.lt_of_not_le fun z => c ((nI_leI hN (by omega)).mpr z)
section MPAY
variable {g : sh_G} {S : sh_S} {P : Nat → Int32} {sz : Nat} {Q : Int32 → sh_S → Prop} {U : sh_S → Prop}
theorem c_ofR {a1 a2 : Int32} {n : Nat → Int32} (m w : Nat) (h1 : a1 = nI m) (h2 : a2 = nI w) (hm : m < 10) (hw : w < 12) (h : Q (n w) (sh_mp S (sh_wr P m n))) : sh_Ci g mX9_of [sh_R (9, 0, 0), sh_I a1, sh_I a2] (sh_mp S (sh_wr P m n)) sz Q :=
  c_of m w h1 h2 hm hw (by rw [wr_at P m w n hw]; exact h)
theorem c_moreR {a1 a2 a3 : Int32} {n : Nat → Int32} (m w : Nat) (h1 : a1 = nI m) (h2 : a2 = nI w) (hm : m < 10) (hw : w < 12) (h : U (sh_mp S (sh_wr P m (upd n w (n w + a3))))) : sh_Cu g mX9_more [sh_R (9, 0, 0), sh_I a1, sh_I a2, sh_I a3] (sh_mp S (sh_wr P m n)) sz U :=
  c_more m w h1 h2 hm hw (by rw [wr_at P m w n hw, wr_upd P m w n _ hw]; exact h)
theorem c_gainsR {a1 a2 a3 : Int32} {n : Nat → Int32} (m w : Nat) (h1 : a1 = nI m) (h3 : a3 = nI w) (hm : m < 10) (hw : w < 12) (h : U (sh_mp S (sh_wr P m (sh_gain n w a2)))) : sh_Cu g mX9_gains [sh_R (9, 0, 0), sh_I a1, sh_I a2, sh_I a3] (sh_mp S (sh_wr P m n)) sz U := by
  refine wp_X9_gains (c_moreR m w h1 h3 hm hw ?_)
  refine ⟨fun v3 v4 S5 => ∃ k, k ≤ 3 ∧ v4 = nI k ∧ v3 = (sh_pks (upd n w (n w + a2), a2) k).2 ∧ S5 = sh_mp S (sh_wr P m (sh_pks (upd n w (n w + a2), a2) k).1), fun _ v4 _ => 3 - v4.toNatClampNeg, ⟨0, by omega, rfl, rfl, rfl⟩, ?_⟩
  rintro v3 v4 S5 ⟨k, hk, rfl, rfl, rfl⟩
  refine ⟨fun c => ?_, fun c => ?_⟩
  · obtain rfl := lp_end hk (by omega) c
    exact c_moreR m 3 h1 rfl hm (by omega) h
  · have hlt := lp_go (by omega) hk c
    have e8 : (8 : Int32) + nI k = nI (8 + k) := nI_add 8 k
    have e5 : (5 : Int32) + nI k = nI (5 + k) := nI_add 5 k
    have hm2 : 3 - (nI k + 1).toNatClampNeg < 3 - (nI k).toNatClampNeg := by rw [nI_1]; exact mu_lt hlt (by omega)
    refine c_ofR m (8 + k) h1 e8 hm (by omega) ⟨fun c1 => ?_, fun c1 => ?_⟩
    · refine c_ofR m (8 + k) h1 e8 hm (by omega) (c_moreR m (8 + k) h1 e8 hm (by omega) (c_moreR m (5 + k) h1 e5 hm (by omega) ?_))
      rintro x15 rfl x16 rfl
      refine ⟨⟨k + 1, by omega, nI_1 k, ?_, ?_⟩, hm2⟩
      · simp only [sh_pks, sh_pk, sh_mn, if_pos c1]
      · simp only [sh_pks, sh_pk, sh_mn, if_pos c1]
        rw [upd_ne (by omega)]
    · refine c_moreR m (8 + k) h1 e8 hm (by omega) (c_moreR m (5 + k) h1 e5 hm (by omega) ?_)
      rintro x15 rfl x16 rfl
      refine ⟨⟨k + 1, by omega, nI_1 k, ?_, ?_⟩, hm2⟩
      · simp only [sh_pks, sh_pk, sh_mn, if_neg c1]
      · simp only [sh_pks, sh_pk, sh_mn, if_neg c1]
        rw [upd_ne (by omega)]
theorem c_chargesR {a1 a2 a3 : Int32} {n : Nat → Int32} (m k : Nat) (h1 : a1 = nI m) (h3 : a3 = nI k) (hm : m < 10) (hk : k < 3) (h : U (sh_mp S (sh_wr P m (sh_chg n k a2)))) : sh_Cu g mX9_charges [sh_R (9, 0, 0), sh_I a1, sh_I a2, sh_I a3] (sh_mp S (sh_wr P m n)) sz U := by
  have e8 : (8 : Int32) + a3 = nI (8 + k) := by rw [h3]; exact nI_add 8 k
  have e5 : (5 : Int32) + a3 = nI (5 + k) := by rw [h3]; exact nI_add 5 k
  refine wp_X9_charges (c_ofR m 3 h1 rfl hm (by omega) ⟨fun c1 => ?_, fun c1 => ?_⟩)
  · refine c_ofR m 3 h1 rfl hm (by omega) (c_moreR m 3 h1 rfl hm (by omega) (c_moreR m (5 + k) h1 e5 hm (by omega) (c_moreR m (8 + k) h1 e8 hm (by omega) ?_)))
    simp only [sh_chg, sh_mn, if_pos c1] at h
    rw [upd_ne (j := 8 + k) (by omega), upd_ne (j := 8 + k) (by omega), upd_ne (j := 5 + k) (by omega)]
    exact h
  · refine (c_moreR m 3 h1 rfl hm (by omega) (c_moreR m (5 + k) h1 e5 hm (by omega) (c_moreR m (8 + k) h1 e8 hm (by omega) ?_)))
    simp only [sh_chg, sh_mn, if_neg c1] at h
    rw [upd_ne (j := 8 + k) (by omega), upd_ne (j := 8 + k) (by omega), upd_ne (j := 5 + k) (by omega)]
    exact h
theorem c_gains {a1 a2 a3 : Int32} (m w : Nat) (h1 : a1 = nI m) (h3 : a3 = nI w) (hm : m < 10) (hw : w < 12) (h : U (sh_mp S (sh_wr P m (sh_gain (sh_row P m) w a2)))) : sh_Cu g mX9_gains [sh_R (9, 0, 0), sh_I a1, sh_I a2, sh_I a3] (sh_mp S P) sz U := by
  have k := c_gainsR (g := g) (sz := sz) (S := S) (P := P) (n := sh_row P m) m w h1 h3 hm hw h
  rwa [wr_row] at k
theorem c_charges {a1 a2 a3 : Int32} (m k : Nat) (h1 : a1 = nI m) (h3 : a3 = nI k) (hm : m < 10) (hk : k < 3) (h : U (sh_mp S (sh_wr P m (sh_chg (sh_row P m) k a2)))) : sh_Cu g mX9_charges [sh_R (9, 0, 0), sh_I a1, sh_I a2, sh_I a3] (sh_mp S P) sz U := by
  have k := c_chargesR (g := g) (sz := sz) (S := S) (P := P) (n := sh_row P m) m k h1 h3 hm hk h
  rwa [wr_row] at k
end MPAY
