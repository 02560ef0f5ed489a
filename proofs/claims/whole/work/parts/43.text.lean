/-! orders as texts: a text is c 0 .. c (n-1) -/
def t_dg (c : Nat → Nat) (n p : Nat) : Bool := decide (p < n ∧ 48 ≤ c p ∧ c p ≤ 57)
def t_v (c : Nat → Nat) (p : Nat) : Nat → Nat
  | 0 => 0
  | i + 1 => 10 * t_v c p i + (c (p + i) - 48)
def t_nd (c : Nat → Nat) (n p : Nat) : Nat := if t_dg c n p then (if t_dg c n (p + 1) then (if t_dg c n (p + 2) then 3 else 2) else 1) else 0
def t_is (c : Nat → Nat) (n p s : Nat) : Bool := decide (p < n ∧ c p = s)
/-- letter, first, second, the place behind; none: of a bad form -/
def t_prs (c : Nat → Nat) (n p : Nat) : Option (Nat × Nat × Nat × Nat) :=
  if c p = 115 then (if t_is c n (p + 1) 59 then some (115, 0, 0, p + 2) else none)
  else if c p = 98 then
    (if t_nd c n (p + 1) = 0 then none else if t_is c n (p + 1 + t_nd c n (p + 1)) 59 then some (98, t_v c (p + 1) (t_nd c n (p + 1)), 0, p + 1 + t_nd c n (p + 1) + 1) else none)
  else if c p = 103 ∨ c p = 108 then
    (if t_nd c n (p + 1) = 0 then none
     else if t_is c n (p + 1 + t_nd c n (p + 1)) 44 = true then
      (if t_nd c n (p + 1 + t_nd c n (p + 1) + 1) = 0 then none
       else if t_is c n (p + 1 + t_nd c n (p + 1) + 1 + t_nd c n (p + 1 + t_nd c n (p + 1) + 1)) 59 then
        some (c p, t_v c (p + 1) (t_nd c n (p + 1)), t_v c (p + 1 + t_nd c n (p + 1) + 1) (t_nd c n (p + 1 + t_nd c n (p + 1) + 1)), p + 1 + t_nd c n (p + 1) + 1 + t_nd c n (p + 1 + t_nd c n (p + 1) + 1) + 1)
       else none)
     else none)
  else none
theorem nd_3 {c : Nat → Nat} {n p : Nat} : t_nd c n p ≤ 3 := by unfold t_nd; split <;> (try split) <;> (try split) <;> omega
theorem nd_of {c : Nat → Nat} {n p j : Nat} (hj : j ≤ 3) (hd : ∀ q, q < j → t_dg c n (p + q) = true) (he : j = 3 ∨ t_dg c n (p + j) = false) : t_nd c n p = j := by
  have hj : j = 0 ∨ j = 1 ∨ j = 2 ∨ j = 3 := by omega
  unfold t_nd
  rcases hj with rfl | rfl | rfl | rfl
  · rcases he with z | z
    · omega
    · rw [show p + 0 = p from rfl] at z
      rw [z]; rfl
  · have h0 : t_dg c n p = true := hd 0 (by omega)
    rcases he with z | z
    · omega
    · rw [h0, z]; rfl
  · have h0 : t_dg c n p = true := hd 0 (by omega)
    have h1 := hd 1 (by omega)
    rcases he with z | z
    · omega
    · rw [h0, h1, z]; rfl
  · have h0 : t_dg c n p = true := hd 0 (by omega)
    have h1 := hd 1 (by omega)
    have h2 := hd 2 (by omega)
    rw [h0, h1, h2]; rfl
theorem tv_lt {c : Nat → Nat} {n p : Nat} : ∀ j, (∀ q, q < j → t_dg c n (p + q) = true) → t_v c p j < 10 ^ j
  | 0, _ => Nat.zero_lt_one
  | j + 1, h => by
    have ih := tv_lt (c := c) (p := p) j fun q hq => h q (by omega)
    have hd := of_decide_eq_true (h j (by omega))
    show 10 * t_v c p j + (c (p + j) - 48) < 10 ^ (j + 1)
    rw [Nat.pow_succ]
    omega
theorem nd_le {c : Nat → Nat} {n p : Nat} (hp : p ≤ n) : p + t_nd c n p ≤ n := by
  unfold t_nd
  split
  · rename_i h0
    have h0 := of_decide_eq_true h0
    split
    · rename_i h1
      have h1 := of_decide_eq_true h1
      split
      · rename_i h2
        have h2 := of_decide_eq_true h2
        omega
      · omega
    · omega
  · omega
/-- the text as class and model hold it -/
def tx_c (c : Nat → Nat) (n : Nat) (S : sh_S) : Prop := S (3, 0, 0) 1 = nI n ∧ ∀ j, j < n → S (18, 0, 0) j = nI (c j)
def tx_m (c : Nat → Nat) (n : Nat) (S : sh_S) : Prop := S (9, 0, 0) 6 = nI n ∧ ∀ j, j < n → S (23, 0, 0) j = nI (c j)
def tx_k (c : Nat → Nat) (n : Nat) : Prop := n ≤ 60 ∧ ∀ j, j < n → 32 ≤ c j ∧ c j ≤ 126
theorem nar_c : ∀ k, k < 127 → vp_nar .char (nI k) = nI k := by decide +kernel
/-- the class reads on at p -/
def sh_nx (S : sh_S) (p : Nat) : sh_S := sh_sr S (3, 0, 0) (upd (S (3, 0, 0)) 2 (nI p))
theorem upd_upd {f : Nat → Int32} {j : Nat} {x y : Int32} : upd (upd f j x) j y = upd f j y := by
  funext k; unfold upd; split <;> rfl
theorem nx_nx {S : sh_S} {p q : Nat} : sh_nx (sh_nx S p) q = sh_nx S q := by
  unfold sh_nx; rw [sr_sr, sh_sr_s, upd_upd]
theorem nx_2 {S : sh_S} {p : Nat} : sh_nx S p (3, 0, 0) 2 = nI p := by unfold sh_nx; rw [sh_sr_s, upd_eq]
theorem nx_f {S : sh_S} {p j : Nat} (h : j ≠ 2) : sh_nx S p (3, 0, 0) j = S (3, 0, 0) j := by unfold sh_nx; rw [sh_sr_s, upd_ne h]
theorem nx_o {S : sh_S} {p : Nat} {o : sh_O} (h : o ≠ (3, 0, 0)) : sh_nx S p o = S o := sr_o h
theorem nx_self {S : sh_S} {p : Nat} (h : S (3, 0, 0) 2 = nI p) : sh_nx S p = S := by
  unfold sh_nx; rw [← h, upd_self, sr_self]
theorem nx_tx {c : Nat → Nat} {n : Nat} {S : sh_S} {p : Nat} (h : tx_c c n S) : tx_c c n (sh_nx S p) := ⟨(nx_f (by omega)).trans h.1, fun j hj => by rw [nx_o (by decide)]; exact h.2 j hj⟩
section CTEXT
variable {g : sh_G} {S S0 : sh_S} {P : Nat → Int32} {sz k b n : Nat} {c : Nat → Nat} {Q : Int32 → sh_S → Prop} {U : sh_S → Prop}
theorem k_peek (K : tx_k c n) (T : tx_c c n S) {p : Nat} (hp : p ≤ 100) (e : S (3, 0, 0) 2 = nI p) (h : Q (if p < n then nI (c p) else 0) S) : sh_Ci g mX3_peek [sh_R (3, 0, 0)] S sz Q := by
  obtain ⟨hn, hc⟩ := K
  refine wp_X3_peek ?_
  rw [e, T.1]
  refine wf (nI_pos (by omega)) (wc (fun z => ?_) (fun z => ?_))
  · have z := (nI_leI (by omega) (by omega)).mp z
    rwa [if_neg (by omega)] at h
  · have z : p < n := Nat.lt_of_not_le fun y => z (nI_le y (by omega))
    rw [if_pos z] at h
    refine wf (nI_ge (b := 60) (by omega) (by omega)) ⟨vp_in_nI (by omega) (by omega), ?_⟩
    rw [nI_clamp (by omega), T.2 p z]
    have := hc p z
    refine ⟨?_, h⟩
    show Value.int (vp_nar .char (nI (c p))) = Value.int (nI (c p))
    rw [nar_c _ (by omega)]
theorem k_readNumber (K : tx_k c n) (T : tx_c c n S) {p : Nat} (hp : p ≤ 90) (h : Q (if t_nd c n p = 0 then -1 else nI (t_v c p (t_nd c n p))) (sh_nx S (p + t_nd c n p))) : sh_Ci g mX3_readNumber [sh_R (3, 0, 0)] (sh_nx S p) sz Q := by
  have hn := K.1
  have hend : ∀ j, j ≤ 3 → (∀ q, q < j → t_dg c n (p + q) = true) → (j = 3 ∨ t_dg c n (p + j) = false) → Q (if j = 0 then -1 else nI (t_v c p j)) (sh_nx S (p + j)) := fun j h1 h2 h3 => by
    have e := nd_of h1 h2 h3
    rw [e] at h; exact h
  refine wp_X3_readNumber ⟨fun v i S' => ∃ j, j ≤ 3 ∧ i = nI j ∧ v = (if j = 0 then -1 else nI (t_v c p j)) ∧ S' = sh_nx S (p + j) ∧ ∀ q, q < j → t_dg c n (p + q) = true, fun _ i _ => 3 - i.toNatClampNeg, ⟨0, by omega, rfl, rfl, rfl, fun q hq => by omega⟩, ?_⟩
  rintro _ _ _ ⟨j, hj, rfl, rfl, rfl, hd⟩
  refine wc (fun z => ?_) (fun z => ?_)
  · obtain rfl := lp_end hj (by omega) z
    exact hend 3 (by omega) hd (.inl rfl)
  · have hlt := lp_go (by omega) hj z
    refine k_peek K (nx_tx T) (p := p + j) (by omega) nx_2 ?_
    by_cases hpn : p + j < n
    · obtain ⟨hc1, hc2⟩ := K.2 _ hpn
      rw [if_pos hpn]
      refine wc (fun z2 => ?_) (fun z2 => wc (fun z3 => ?_) (fun z3 => ?_))
      · have z2 := (nI_ltI (b := 48) (by omega) (by omega)).mp z2
        exact hend j hj hd (.inr (decide_eq_false fun y => by omega))
      · have z2 : 48 ≤ c (p + j) := Nat.le_of_not_lt fun y => z2 (nI_lt (b := 48) y (by omega))
        have z3 := (nI_leI (b := 57) (by omega) (by omega)).mp z3
        have hdj : t_dg c n (p + j) = true := decide_eq_true ⟨hpn, z2, z3⟩
        have hv : t_v c p j < 1000 := by
          have := tv_lt j hd
          have : 10 ^ j ≤ 10 ^ 2 := Nat.pow_le_pow_right (by omega) (by omega)
          omega
        rintro _ rfl
        have e0 : (if (0 : Int32) < (if j = 0 then -1 else nI (t_v c p j)) then (if j = 0 then -1 else nI (t_v c p j)) else 0) = nI (t_v c p j) := by
          by_cases e : j = 0
          · rw [if_pos e, e]; rfl
          · rw [if_neg e]
            by_cases e2 : t_v c p j = 0
            · rw [e2]; rfl
            · rw [if_pos (show (0 : Int32) < nI (t_v c p j) from nI_lt (a := 0) (by omega) (by omega))]
        rw [e0]
        rintro _ rfl
        rw [show nI (c (p + j)) - 48 = nI (c (p + j) - 48) from pk_sub (b := 48) z2, show nI (t_v c p j) * 10 = nI (t_v c p j * 10) from pk_mul _ 10, nI_add]
        rintro _ rfl _ rfl
        rw [nI_1 j]
        refine ⟨⟨j + 1, hlt, rfl, ?_, ?_, fun q hq => ?_⟩, mu_lt hlt (by omega)⟩
        · rw [if_neg (by omega)]
          show nI (t_v c p j * 10 + (c (p + j) - 48)) = nI (10 * t_v c p j + (c (p + j) - 48))
          rw [Nat.mul_comm]
        · show sh_sr (sh_nx S (p + j)) (3, 0, 0) _ = _
          rw [nx_2, nI_1]
          show sh_nx (sh_nx S (p + j)) (p + j + 1) = _
          rw [nx_nx]; rfl
        · by_cases e : q = j
          · rw [e]; exact hdj
          · exact hd q (by omega)
      · have z3 : ¬ c (p + j) ≤ 57 := fun y => z3 (nI_le (b := 57) y (by omega))
        exact hend j hj hd (.inr (decide_eq_false fun y => by omega))
    · rw [if_neg hpn]
      exact wt (by decide) (hend j hj hd (.inr (decide_eq_false fun y => by omega)))
theorem k_takes (K : tx_k c n) (T : tx_c c n S) {p s : Nat} (hp : p ≤ 90) (hs : 1 ≤ s ∧ s ≤ 126) {a : Int32} (ha : a = nI s) (h1 : t_is c n p s = true → Q 1 (sh_nx S (p + 1))) (h0 : t_is c n p s = false → Q 0 (sh_nx S p)) : sh_Ci g mX3_takes [sh_R (3, 0, 0), sh_I a] (sh_nx S p) sz Q := by
  subst ha
  refine wp_X3_takes (k_peek K (nx_tx T) (by omega) nx_2 ?_)
  by_cases hpn : p < n
  · obtain ⟨hc1, hc2⟩ := K.2 _ hpn
    rw [if_pos hpn]
    refine wc (fun z => ?_) (fun z => ?_)
    · have z := (nI_eq (by omega) (by omega)).mp z
      rintro _ rfl
      rw [nx_2, nI_1]
      show Q 1 (sh_nx (sh_nx S p) (p + 1))
      rw [nx_nx]
      exact h1 (decide_eq_true ⟨hpn, z⟩)
    · exact h0 (decide_eq_false fun y => z (by rw [y.2]))
  · rw [if_neg hpn]
    refine wf (fun z => ?_) (h0 (decide_eq_false fun y => hpn y.1))
    have := (nI_eq (a := 0) (by omega) (by omega)).mp z
    omega
end CTEXT
