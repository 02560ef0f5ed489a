/-! what is shared, on the page -/
def sh_act (n : Nat → Int32) (kd : Nat) (q : Int32) : Nat → Int32 := if kd = 3 then sh_gain n 2 q else sh_chg n kd q
def sh_s1 (P0 : Nat → Int32) (but : Int32) (kd e z : Nat) (x : (Nat → Int32) × Nat) (k : Nat) : (Nat → Int32) × Nat :=
  if sh_tk P0 but ((z + k) % 10) = true then
    (sh_wr (if 0 < x.2 then upd x.1 10 (nI (((z + k) % 10 + 1) % 10)) else x.1) ((z + k) % 10) (sh_act (sh_row x.1 ((z + k) % 10)) kd (nI (if 0 < x.2 then e + 1 else e))), x.2 - 1)
  else x
def sh_snn (P : Nat → Int32) (but : Int32) (kd e l z : Nat) : Nat → (Nat → Int32) × Nat
  | 0 => (P, l)
  | k + 1 => sh_s1 P but kd e z (sh_snn P but kd e l z k) k
def sh_ct2 (P : Nat → Int32) (but : Int32) : Nat := sh_cnt (sh_tk P but) (nM P)
def sh_share (P : Nat → Int32) (a : Nat) (but : Int32) (kd : Nat) : Nat → Int32 := (sh_snn P but kd (a / sh_ct2 P but) (a % sh_ct2 P but) (nZ P) 10).1
theorem upd_self (f : Nat → Int32) (k : Nat) : upd f k (f k) = f := by
  funext j; unfold upd; split
  · rename_i h; rw [h]
  · rfl
theorem chg_ne {n : Nat → Int32} {k w : Nat} {q : Int32} (h3 : w ≠ 3) (h5 : w ≠ 5 + k) (h8 : w ≠ 8 + k) : sh_chg n k q w = n w := by
  unfold sh_chg; rw [upd_ne h8, upd_ne h5, upd_ne h3]
theorem pks_ne {x : (Nat → Int32) × Int32} {w : Nat} (h : w < 5 ∨ 10 < w) : ∀ k, k ≤ 3 → (sh_pks x k).1 w = x.1 w
  | 0, _ => rfl
  | k + 1, hk => by
    show (sh_pk k (sh_pks x k)).1 w = _
    unfold sh_pk
    dsimp only
    rw [upd_ne (by omega), upd_ne (by omega)]
    exact pks_ne h k (by omega)
theorem gain_ne {n : Nat → Int32} {v w : Nat} {q : Int32} (h : w < 5 ∨ 10 < w) (h3 : w ≠ 3) (hv : w ≠ v) : sh_gain n v q w = n w := by
  unfold sh_gain sh_pay
  rw [upd_ne h3, pks_ne h 3 (by omega)]
  exact upd_ne hv
theorem act_0 {n : Nat → Int32} {kd : Nat} {q : Int32} : sh_act n kd q 0 = n 0 := by
  unfold sh_act; split
  · exact gain_ne (by omega) (by omega) (by omega)
  · exact chg_ne (by omega) (by omega) (by omega)
theorem act_11 {n : Nat → Int32} {kd : Nat} (hk : kd ≤ 3) {q : Int32} : sh_act n kd q 11 = n 11 := by
  unfold sh_act; split
  · exact gain_ne (by omega) (by omega) (by omega)
  · exact chg_ne (by omega) (by omega) (by omega)
theorem act_4 {n : Nat → Int32} {kd : Nat} {q : Int32} : sh_act n kd q 4 = n 4 := by
  unfold sh_act; split
  · exact gain_ne (by omega) (by omega) (by omega)
  · exact chg_ne (by omega) (by omega) (by omega)
/-- a member's row is all that a step writes, and the pointer -/
theorem s1_out {P0 : Nat → Int32} {but : Int32} {kd e z : Nat} {x : (Nat → Int32) × Nat} {k j : Nat} (h10 : j ≠ 10) (hj : j < 22 ∨ 142 ≤ j ∨ ∃ m, m < 10 ∧ j = 22 + 12 * m) : (sh_s1 P0 but kd e z x k).1 j = x.1 j := by
  unfold sh_s1
  have hlt : (z + k) % 10 < 10 := Nat.mod_lt _ (by omega)
  split
  · dsimp only
    have h2 : (if 0 < x.2 then upd x.1 10 (nI (((z + k) % 10 + 1) % 10)) else x.1) j = x.1 j := by
      split
      · exact upd_ne h10
      · rfl
    by_cases hm : 22 + 12 * ((z + k) % 10) ≤ j ∧ j < 22 + 12 * ((z + k) % 10) + 12
    · rcases hj with hj | hj | ⟨m, hm1, hj⟩
      · omega
      · omega
      · obtain rfl : m = (z + k) % 10 := by omega
        subst hj
        show sh_wr _ _ _ (22 + 12 * ((z + k) % 10) + 0) = _
        rw [wr_at _ _ _ _ (by omega), act_0]; rfl
    · rw [wr_out hm, h2]
  · rfl
theorem sn_out {P : Nat → Int32} {but : Int32} {kd e l z : Nat} {j : Nat} (h10 : j ≠ 10) (hj : j < 22 ∨ 142 ≤ j ∨ ∃ m, m < 10 ∧ j = 22 + 12 * m) : ∀ k, (sh_snn P but kd e l z k).1 j = P j
  | 0 => rfl
  | k + 1 => (s1_out h10 hj).trans (sn_out h10 hj k)
theorem sn_2 {P : Nat → Int32} {but : Int32} {kd e l z : Nat} : ∀ k, (sh_snn P but kd e l z k).2 ≤ l
  | 0 => Nat.le_refl _
  | k + 1 => by
    have := sn_2 (P := P) (but := but) (kd := kd) (e := e) (l := l) (z := z) k
    show (sh_s1 P but kd e z _ k).2 ≤ l
    unfold sh_s1; split
    · dsimp only; omega
    · exact this
/-- sizes that only low words tell -/
theorem B_of {P P' : Nat → Int32} (B : sh_B P) (h : ∀ j, j < 22 → j ≠ 10 → P' j = P j) (h10 : ∃ z, z < 10 ∧ P' 10 = nI z) : sh_B P' := by
  obtain ⟨z, hz, e10⟩ := h10
  have e7 := h 7 (by omega) (by omega)
  have e8 := h 8 (by omega) (by omega)
  have e9 := h 9 (by omega) (by omega)
  have e11 := h 11 (by omega) (by omega)
  have n7 : nD P' = nD P := by unfold nD; rw [e7]
  have n8 : nM P' = nM P := by unfold nM; rw [e8]
  have n9 : nT P' = nT P := by unfold nT; rw [e9]
  have n11 : nY P' = nY P := by unfold nY; rw [e11]
  have n10 : nZ P' = z := by unfold nZ; rw [e10, nI_clamp (by omega)]
  refine ⟨⟨?_, ?_⟩, ⟨?_, ?_⟩, ⟨?_, ?_⟩, ⟨?_, ?_⟩, ⟨?_, ?_⟩, fun j hj => ?_⟩
  · rw [e8, n8]; exact B.m
  · rw [n8]; exact B.ml
  · rw [e9, n9]; exact B.t
  · rw [n9]; exact B.tl
  · rw [e11, n11]; exact B.y
  · rw [n11]; exact B.yl
  · rw [n10]; exact e10
  · rw [n10]; exact hz
  · rw [e7, n7]; exact B.d
  · rw [n7]; exact B.dl
  · rw [n11] at hj
    obtain ⟨m, h1, h2⟩ := B.tn j hj
    have := B.yl
    exact ⟨m, by rw [n8]; exact h1, by rw [h (12 + j) (by omega) (by omega)]; exact h2⟩
theorem s1_10 {P0 : Nat → Int32} {but : Int32} {kd e z : Nat} {x : (Nat → Int32) × Nat} {k : Nat} (h : ∃ z, z < 10 ∧ x.1 10 = nI z) : ∃ z', z' < 10 ∧ (sh_s1 P0 but kd e z x k).1 10 = nI z' := by
  unfold sh_s1
  split
  · dsimp only
    rw [wr_low (by omega)]
    split
    · exact ⟨((z + k) % 10 + 1) % 10, Nat.mod_lt _ (by omega), upd_eq⟩
    · exact h
  · exact h
theorem sn_10 {P : Nat → Int32} {but : Int32} {kd e l z : Nat} (h : ∃ z, z < 10 ∧ P 10 = nI z) : ∀ k, ∃ z', z' < 10 ∧ (sh_snn P but kd e l z k).1 10 = nI z'
  | 0 => h
  | k + 1 => s1_10 (sn_10 h k)
theorem B_sn {P : Nat → Int32} {but : Int32} {kd e l z : Nat} (B : sh_B P) (k : Nat) : sh_B (sh_snn P but kd e l z k).1 :=
  B_of B (fun j hj h10 => sn_out h10 (.inl hj) k) (sn_10 ⟨_, B.zl, B.z⟩ k)
theorem tk_of {P P' : Nat → Int32} {but : Int32} {m : Nat} (hm : m < 10) (h8 : P' 8 = P 8) (h : ∀ m, m < 10 → P' (22 + 12 * m) = P (22 + 12 * m)) : sh_tk P' but m = sh_tk P but m := by
  have n8 : nM P' = nM P := by unfold nM; rw [h8]
  unfold sh_tk
  rw [n8, show pm P' m 0 = pm P m 0 from h m hm]
theorem tk_sn {P : Nat → Int32} {but : Int32} {kd e l z : Nat} {m k : Nat} (hm : m < 10) : sh_tk (sh_snn P but kd e l z k).1 but m = sh_tk P but m :=
  tk_of hm (sn_out (j := 8) (by omega) (.inl (by omega)) k) (fun m hm => sn_out (j := 22 + 12 * m) (by omega) (.inr (.inr ⟨m, hm, rfl⟩)) k)
theorem dec_toInt {x : Int32} (h : -1000 ≤ x.toInt) : (x + (-1)).toInt = x.toInt - 1 := by
  have hl := x.toInt_lt
  rw [Int32.toInt_add, show (-1 : Int32).toInt = -1 from rfl]
  have e : ((2 ^ 32 : Nat) : Int) = 4294967296 := rfl
  simp only [Int.bmod, e]
  split <;> omega
section MSHARE
variable {g : sh_G} {S : sh_S} {P : Nat → Int32} {sz : Nat} {Q : Int32 → sh_S → Prop} {U : sh_S → Prop}
theorem c_actb {m : Nat} {a1 a3 q : Int32} (kd : Nat) (hm : m < 10) (h1 : a1 = nI m) (ha : a3 = nI kd ∧ kd < 3 ∨ a3 = -1 ∧ kd = 3) (h : U (sh_mp S (sh_wr P m (sh_act (sh_row P m) kd q)))) :
    (0 ≤ a3 → sh_Cu g mX9_charges [sh_R (9, 0, 0), sh_I a1, sh_I q, sh_I a3] (sh_mp S P) sz U) ∧ (¬ 0 ≤ a3 → sh_Cu g mX9_gains [sh_R (9, 0, 0), sh_I a1, sh_I q, sh_I 2] (sh_mp S P) sz U) := by
  rcases ha with ⟨rfl, hk⟩ | ⟨rfl, hk⟩
  · refine wt (nI_pos' (by omega)) (c_charges m kd h1 rfl hm hk ?_)
    rwa [sh_act, if_neg (by omega)] at h
  · refine wf (by decide) (c_gains m 2 h1 rfl hm (by omega) ?_)
    rwa [sh_act, if_pos hk] at h
theorem c_shared (B : sh_B P) {a1 but a3 : Int32} (a kd : Nat) (h1 : a1 = nI a) (hal : a < 2 ^ 31) (ha : a3 = nI kd ∧ kd < 3 ∨ a3 = -1 ∧ kd = 3) (hc : 0 < sh_ct2 P but) (h : U (sh_mp S (sh_share P a but kd))) :
    sh_Cu g mX9_shared [sh_R (9, 0, 0), sh_I a1, sh_I but, sh_I a3] (sh_mp S P) sz U := by
  have hml := B.ml
  have hcl : sh_ct2 P but ≤ 10 := Nat.le_trans (cnt_le _ _) hml
  have hzl := B.zl
  refine wp_X9_shared (c_sharing B ?_)
  rw [show sh_cnt (sh_tk P but) (nM P) = sh_ct2 P but from rfl]
  have hne := nI_ne0 hc (by omega)
  refine ⟨hne, ?_⟩
  rw [h1, pk_rem hal hc (by omega), pk_div hal hc (by omega), mp_p, B.z]
  rintro _ rfl _ rfl
  have hl10 : a % sh_ct2 P but < 10 := by have := Nat.mod_lt a hc; omega
  unfold sh_share at h
  generalize hE : a / sh_ct2 P but = e at h
  generalize hL : a % sh_ct2 P but = l at h hl10
  refine ⟨fun v i S' => ∃ j p, j ≤ 10 ∧ p ≤ j ∧ i = nI j ∧ v.toInt = (l : Int) - p ∧ (sh_snn P but kd e l (nZ P) j).2 = l - p ∧ S' = sh_mp S (sh_snn P but kd e l (nZ P) j).1, fun _ i _ => 10 - i.toNatClampNeg, ⟨0, 0, by omega, by omega, rfl, ?_, rfl, rfl⟩, ?_⟩
  · rw [nI_toInt (by omega)]; omega
  rintro v _ _ ⟨j, p, hj, hp, rfl, hv, hx2, rfl⟩
  refine wc (fun c => ?_) (fun c => ?_)
  · obtain rfl := lp_end hj (by omega) c
    exact h
  · have hlt := lp_go (by omega) hj c
    have hmu := mu_lt (N := 10) hlt (by omega)
    rw [nI_add, show nI (nZ P + j) - nI (nZ P + j) / 10 * 10 = nI ((nZ P + j) % 10) from pk_rem (d := 10) (by omega) (by omega) (by omega)]
    rintro _ rfl
    have hm10 : (nZ P + j) % 10 < 10 := Nat.mod_lt _ (by omega)
    have hstep : sh_snn P but kd e l (nZ P) (j + 1) = sh_s1 P but kd e (nZ P) (sh_snn P but kd e l (nZ P) j) j := rfl
    refine c_shares (B_sn B j) _ rfl hm10 ?_
    rw [tk_sn hm10]
    refine wb (fun c1 => ?_) (fun c1 => ⟨hne, ?_⟩)
    · rintro _ rfl
      rw [nI_1 j]
      unfold sh_s1 at hstep
      rw [if_neg (by rw [c1]; decide)] at hstep
      exact ⟨⟨j + 1, p, hlt, by omega, rfl, hv, by rw [hstep]; exact hx2, by rw [hstep]⟩, hmu⟩
    · have hle : v ≤ 0 ↔ l ≤ p := by rw [Int32.le_iff_toInt_le, hv, show (0 : Int32).toInt = 0 from rfl]; omega
      have hd : (v + (-1)).toInt = (l : Int) - (p + 1 : Nat) := by rw [dec_toInt (by omega), hv]; omega
      unfold sh_s1 at hstep
      rw [if_pos c1] at hstep
      generalize hX : sh_snn P but kd e l (nZ P) j = X at hstep hx2 ⊢
      by_cases hlp : l ≤ p
      · have h0 : ¬ 0 < X.2 := by rw [hx2, Nat.sub_eq_zero_of_le hlp]; exact Nat.lt_irrefl 0
        rw [if_neg h0, if_neg h0] at hstep
        refine wt (hle.mpr hlp) ?_
        rintro _ rfl
        refine wt (hle.mpr hlp) ?_
        rintro _ rfl _ rfl
        rw [mp_p, mp_sr, upd_self, Int32.add_zero]
        refine c_actb kd hm10 rfl ha ?_
        rintro _ rfl
        rw [nI_1 j]
        exact ⟨⟨j + 1, p + 1, hlt, Nat.succ_le_succ hp, rfl, hd, by rw [hstep]; show X.2 - 1 = _; rw [hx2, Nat.sub_sub], by rw [hstep]⟩, hmu⟩
      · have h0 : 0 < X.2 := by rw [hx2]; exact Nat.sub_pos_of_lt (Nat.lt_of_not_le hlp)
        rw [if_pos h0, if_pos h0] at hstep
        have hle' : ¬ v ≤ 0 := fun z => hlp (hle.mp z)
        refine wf hle' ?_
        rintro _ rfl
        refine wf hle' ?_
        rintro _ rfl _ rfl
        rw [mp_p, mp_sr, nI_1 e, nI_1 ((nZ P + j) % 10), show nI ((nZ P + j) % 10 + 1) - nI ((nZ P + j) % 10 + 1) / 10 * 10 = nI (((nZ P + j) % 10 + 1) % 10) from pk_rem (d := 10) (by omega) (by omega) (by omega)]
        refine c_actb kd hm10 rfl ha ?_
        rintro _ rfl
        rw [nI_1 j]
        have hrow : sh_row (upd X.1 10 (nI (((nZ P + j) % 10 + 1) % 10))) ((nZ P + j) % 10) = sh_row X.1 ((nZ P + j) % 10) := by
          funext w; exact upd_ne (by omega)
        rw [hrow]
        exact ⟨⟨j + 1, p + 1, hlt, Nat.succ_le_succ hp, rfl, hd, by rw [hstep]; show X.2 - 1 = _; rw [hx2, Nat.sub_sub], by rw [hstep]⟩, hmu⟩
end MSHARE
