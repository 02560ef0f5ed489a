/-! the model's floats; the dullest; votes -/
def sh_th (v : UInt32) : Int32 := FP.f2i (FP.fmul v 1148846080)
def sh_du (v l : UInt32) : Nat → UInt32
  | 0 => v
  | k + 1 => FP.fdiv (FP.fmul (sh_du v l k) l) 1120403456
theorem fS_du {v : UInt32} {w : Nat} (hv : fS v) (hw : w ≤ 100) : ∀ k, fS (sh_du v (FP.i2f (nI w)) k)
  | 0 => hv
  | k + 1 => (fS_dull (fS_du hv hw k) hw).2.2
def sh_sp (P : Nat → Int32) (t : Nat) : UInt32 := (pt P t 6).toUInt32
/-- what floats need of a page -/
def sh_G2 (P : Nat → Int32) : Prop := ∀ t, t < nT P → fS (sh_sp P t) ∧ ∃ w, w ≤ 50 ∧ pt P t 2 = nI w
def sh_cut (P : Nat → Int32) (t : Nat) : Bool := decide (pt P t 0 = 0 ∧ pt P t 3 = 0)
def sh_dl (P : Nat → Int32) (t u : Nat) : Bool := decide (fm (sh_sp P t) < fm (sh_sp P u) ∨ fm (sh_sp P t) = fm (sh_sp P u) ∧ t < u)
def sh_ah (P : Nat → Int32) (t : Nat) : Nat := sh_cnt (fun k => sh_cut P k && sh_dl P k t) (nT P)
def sh_da (P : Nat → Int32) (ix : Int32) : Int32 := sh_fnd (fun t => sh_cut P t && decide (nI (sh_ah P t) = ix)) (nT P) (-1000004)
theorem dl_irr {P : Nat → Int32} {t : Nat} : sh_dl P t t = false := decide_eq_false (by omega)
theorem dl_tot {P : Nat → Int32} {t u : Nat} (h : t ≠ u) (h2 : sh_dl P t u = false) : sh_dl P u t = true := by
  have h2 := of_decide_eq_false h2
  exact decide_eq_true (by omega)
theorem dl_trans {P : Nat → Int32} {t u k : Nat} (h : sh_dl P t u = true) (h2 : sh_dl P k u = false) (hk : k ≠ t) : sh_dl P k t = false := by
  have h := of_decide_eq_true h
  have h2 := of_decide_eq_false h2
  exact decide_eq_false (by omega)
theorem tu_ti (v : UInt32) : v.toInt32.toUInt32 = v := rfl
theorem ti_tu (v : Int32) : v.toUInt32.toInt32 = v := rfl
section MFLOAT
variable {g : sh_G} {S : sh_S} {P : Nat → Int32} {sz : Nat} {Q : Int32 → sh_S → Prop} {U : sh_S → Prop} {F : UInt32 → sh_S → Prop}
theorem c_real {a : Int32} (hv : fS a.toUInt32) (h : F a.toUInt32 S) : sh_Cf g mX9_real [sh_I a] S sz F := by
  refine wp_X9_real ⟨?_, h⟩
  have := fV_nn hv
  unfold vf_n32 at this
  unfold vn_sni2f
  rw [Bool.and_eq_false_iff]
  exact .inl (decide_eq_false (UInt32.not_lt.mpr this))
theorem c_bitsOf {a : UInt32} (hv : fS a) (h : Q a.toInt32 S) : sh_Ci g mX9_bitsOf [sh_F a] S sz Q := by
  have e : Op.cmpValue (FP.fcmp a a) .l = 0 := by rw [fcmp_fm hv hv, cv_eq]
  refine wp_X9_bitsOf (wp_Jxf58ca_floatToIntBits_5c35a (wp_Jxf58ca_isNaN_12338 ⟨fun _ => ⟨fun z => absurd rfl z, fun _ => h⟩, fun z => absurd e z⟩))
theorem c_thousandths {a : UInt32} (hv : fS a) (h : Q (sh_th a) S) : sh_Ci g mX9_thousandths [sh_F a] S sz Q := by
  refine wp_X9_thousandths ⟨fS_thou hv, ?_⟩
  rintro _ rfl
  exact h
theorem k_thousandths {a : UInt32} (hv : fS a) (h : Q (sh_th a) S) : sh_Ci g mX8_thousandths [sh_F a] S sz Q := by
  refine wp_X8_thousandths ⟨fS_thou hv, ?_⟩
  rintro _ rfl
  exact h
theorem c_duller (G : sh_G2 P) {a1 a2 : Int32} (B : sh_B P) (t d : Nat) (h1 : a1 = nI t) (h2 : a2 = nI d) (ht : t < nT P) (hd : d < 2 ^ 30)
    (h : F (sh_du (sh_sp P t) (FP.i2f (100 - P (142 + 23 * t + 2))) d) (sh_mp S P)) : sh_Cf g mX9_duller [sh_R (9, 0, 0), sh_I a1, sh_I a2] (sh_mp S P) sz F := by
  have hl := B.tl
  obtain ⟨hv, w, hw, ew⟩ := G t ht
  have ew : P (142 + 23 * t + 2) = nI w := ew
  rw [ew, show (100 : Int32) - nI w = nI (100 - w) from pk_sub (a := 100) (by omega)] at h
  subst h2
  refine wp_X9_duller (c_its t 6 h1 rfl (by omega) (by omega) (c_real hv (c_its t 2 h1 rfl (by omega) (by omega) ?_)))
  rintro _ rfl
  rw [ew, show (100 : Int32) - nI w = nI (100 - w) from pk_sub (a := 100) (by omega)]
  refine ⟨fun f i => ∃ j, j ≤ d ∧ i = nI j ∧ f = sh_du (sh_sp P t) (FP.i2f (nI (100 - w))) j, fun _ i => d - i.toNatClampNeg, ⟨0, by omega, rfl, rfl⟩, ?_⟩
  rintro _ _ ⟨j, hj, rfl, rfl⟩
  refine wc (fun c => ?_) (fun c => ?_)
  · obtain rfl := lp_end hj (by omega) c
    exact h
  · have hlt := lp_go (by omega) hj c
    obtain ⟨k1, k2, k3⟩ := fS_dull (fS_du (w := 100 - w) hv (by omega) j) (show 100 - w ≤ 100 by omega)
    refine ⟨k1, ?_⟩
    rintro _ rfl
    refine ⟨k2, ?_⟩
    rintro _ rfl _ rfl
    rw [nI_1]
    exact ⟨⟨j + 1, hlt, rfl, rfl⟩, mu_lt hlt (by omega)⟩
theorem c_isCutter {a1 : Int32} (t : Nat) (h1 : a1 = nI t) (ht : t < 20) (h : Q (bI (sh_cut P t)) (sh_mp S P)) : sh_Ci g mX9_isCutter [sh_R (9, 0, 0), sh_I a1] (sh_mp S P) sz Q := by
  refine wp_X9_isCutter (c_its t 0 h1 rfl ht (by omega) ⟨fun c => ?_, fun c => c_its t 3 h1 rfl ht (by omega) ⟨fun c2 => ?_, fun c2 => ?_⟩⟩)
  · rwa [show sh_cut P t = false from decide_eq_false fun z => c z.1] at h
  · rwa [show sh_cut P t = false from decide_eq_false fun z => c2 z.2] at h
  · rwa [show sh_cut P t = true from decide_eq_true ⟨c, c2⟩] at h
theorem c_isDuller (G : sh_G2 P) (B : sh_B P) {a1 a2 : Int32} (t u : Nat) (h1 : a1 = nI t) (h2 : a2 = nI u) (ht : t < nT P) (hu : u < nT P) (h : Q (bI (sh_dl P t u)) (sh_mp S P)) : sh_Ci g mX9_isDuller [sh_R (9, 0, 0), sh_I a1, sh_I a2] (sh_mp S P) sz Q := by
  have hl := B.tl
  have g1 := (G t ht).1
  have g2 := (G u hu).1
  refine wp_X9_isDuller (c_its t 6 h1 rfl (by omega) (by omega) (c_real g1 (c_its u 6 h2 rfl (by omega) (by omega) (c_real g2 ?_))))
  rw [show FP.fcmp (pt P t 6).toUInt32 (pt P u 6).toUInt32 = _ from fcmp_fm g1 g2, cv_lt, cv_eq, h1, h2, nI_leI (by omega) (by omega)]
  refine wc (fun c => ?_) (fun c => ⟨fun c2 => ?_, fun c2 => wc (fun c3 => ?_) (fun c3 => ?_)⟩)
  · rwa [show sh_dl P t u = true from decide_eq_true (.inl c)] at h
  · rwa [show sh_dl P t u = false from decide_eq_false fun z => z.elim c fun z => c2 z.1] at h
  · rwa [show sh_dl P t u = false from decide_eq_false fun z => z.elim c fun z => by omega] at h
  · rwa [show sh_dl P t u = true from decide_eq_true (.inr ⟨c2, by omega⟩)] at h
theorem da_none (h : ∀ t, t < nT P → sh_cut P t = false) (ix : Int32) : sh_da P ix = -1000004 := fnd_n fun t ht => by rw [h t ht]; rfl
theorem da_least {b : Nat} (hb : b < nT P) (hc : sh_cut P b = true) (hm : ∀ k, k < nT P → sh_cut P k = true → sh_dl P k b = false) : sh_da P 0 = nI b := by
  have hz : sh_ah P b = 0 := cnt_pos.mpr fun k hk => by
    cases hck : sh_cut P k
    · rfl
    · rw [hm k hk hck]; rfl
  refine fnd_s hb (by rw [hc, hz]; rfl) fun j hj => ?_
  cases hcj : sh_cut P j
  · rfl
  · have hd : sh_dl P b j = true := dl_tot (by omega) (hm j (by omega) hcj)
    have : sh_ah P j ≠ 0 := fun z => by
      have := cnt_pos.mp z b hb
      rw [hc, hd] at this
      exact Bool.noConfusion this
    have hle := cnt_le (fun k => sh_cut P k && sh_dl P k j) (nT P)
    rw [Bool.true_and]
    refine decide_eq_false fun z => this ?_
    by_cases hs : nT P < 2 ^ 31
    · exact (nI_eq (b := 0) (Nat.lt_of_le_of_lt hle hs) (by omega)).mp z
    · have : (P 9).toNatClampNeg < 2 ^ 31 := by
        have h1 := (P 9).toInt_lt
        have h2 : (P 9).toNatClampNeg = (P 9).toInt.toNat := rfl
        omega
      exact absurd this hs
/-- -1, or the dullest -/
def sh_db (P : Nat → Int32) : Int32 := if sh_da P 0 < 0 then -1 else sh_da P 0
theorem c_dullest (G : sh_G2 P) (B : sh_B P) (h : Q (sh_db P) (sh_mp S P)) : sh_Ci g mX9_dullest [sh_R (9, 0, 0)] (sh_mp S P) sz Q := by
  have hl := B.tl
  refine wp_X9_dullest ⟨fun v i S' => ∃ j, j ≤ nT P ∧ i = nI j ∧ S' = sh_mp S P ∧ ((v = -1 ∧ ∀ k, k < j → sh_cut P k = false) ∨ ∃ b, b < j ∧ v = nI b ∧ sh_cut P b = true ∧ ∀ k, k < j → sh_cut P k = true → sh_dl P k b = false), fun _ i _ => nT P - i.toNatClampNeg, ⟨0, by omega, rfl, rfl, .inl ⟨rfl, fun k hk => by omega⟩⟩, ?_⟩
  rintro v _ _ ⟨j, hj, rfl, rfl, hb⟩
  rw [mp_p, B.t]
  refine wc (fun c => ?_) (fun c => ?_)
  · obtain rfl := lp_end hj (by omega) c
    rcases hb with ⟨rfl, hb⟩ | ⟨b, h1, rfl, h2, h3⟩
    · rw [sh_db, da_none hb, if_pos (by decide)] at h
      exact h
    · rw [sh_db, da_least h1 h2 h3, if_neg (nI_pos (by omega))] at h
      exact h
  · have hlt := lp_go (by omega) hj c
    have hmu := mu_lt (N := nT P) hlt (by omega)
    refine c_isCutter j rfl (by omega) (wb (fun c1 => ?_) (fun c1 => ?_))
    · rintro _ rfl
      rw [nI_1 j]
      refine ⟨⟨j + 1, hlt, rfl, rfl, ?_⟩, hmu⟩
      rcases hb with ⟨rfl, hb⟩ | ⟨b, h1, rfl, h2, h3⟩
      · exact .inl ⟨rfl, all_succ hb c1⟩
      · refine .inr ⟨b, by omega, rfl, h2, fun k hk hck => ?_⟩
        by_cases e : k = j
        · rw [e, c1] at hck; exact Bool.noConfusion hck
        · exact h3 k (by omega) hck
    · rcases hb with ⟨rfl, hb⟩ | ⟨b, h1, rfl, h2, h3⟩
      · refine wt (by decide) ?_
        rintro _ rfl
        rw [nI_1 j]
        refine ⟨⟨j + 1, hlt, rfl, rfl, .inr ⟨j, by omega, rfl, c1, fun k hk hck => ?_⟩⟩, hmu⟩
        by_cases e : k = j
        · rw [e]; exact dl_irr
        · rw [hb k (by omega)] at hck; exact Bool.noConfusion hck
      · refine wf (nI_pos (by omega)) (c_isDuller G B j b rfl rfl hlt (by omega) (wb (fun c2 => ?_) (fun c2 => ?_))) <;> rintro _ rfl <;> rw [nI_1 j]
        · refine ⟨⟨j + 1, hlt, rfl, rfl, .inr ⟨b, by omega, rfl, h2, fun k hk hck => ?_⟩⟩, hmu⟩
          by_cases e : k = j
          · rw [e]; exact c2
          · exact h3 k (by omega) hck
        · refine ⟨⟨j + 1, hlt, rfl, rfl, .inr ⟨j, by omega, rfl, c1, fun k hk hck => ?_⟩⟩, hmu⟩
          by_cases e : k = j
          · rw [e]; exact dl_irr
          · exact dl_trans c2 (h3 k (by omega) hck) e
theorem c_isDull (G : sh_G2 P) (B : sh_B P) {a1 : Int32} (h0 : a1 < 0 → Q 0 (sh_mp S P)) (h1 : ∀ t, t < nT P → a1 = nI t → Q (bI (decide (sh_th (sh_sp P t) < P 4))) (sh_mp S P)) (ha : a1 < 0 ∨ ∃ t, t < nT P ∧ a1 = nI t) : sh_Ci g mX9_isDull [sh_R (9, 0, 0), sh_I a1] (sh_mp S P) sz Q := by
  have hl := B.tl
  refine wp_X9_isDull (wc h0 fun c => ?_)
  rcases ha with z | ⟨t, ht, rfl⟩
  · exact absurd z c
  · have g1 := (G t ht).1
    have h1 : Q (bI (decide (sh_th (P (142 + 23 * t + 6)).toUInt32 < P 4))) (sh_mp S P) := h1 t ht rfl
    refine c_its t 6 rfl rfl (by omega) (by omega) (c_real g1 (c_thousandths g1 ?_))
    rw [mp_p]
    refine wc (fun c2 => ?_) (fun c2 => ?_)
    · rwa [decide_eq_false (Int32.not_lt.mpr c2)] at h1
    · rwa [decide_eq_true (Int32.not_le.mp c2)] at h1
/-- how many of the ten bits are set -/
def sh_bi (a : Int32) : Nat → Int32
  | 0 => 0
  | k + 1 => sh_bi a k + ((a >>> (nI k &&& 31)) &&& 1)
theorem c_bitsIn {a : Int32} (h : Q (sh_bi a 10) S) : sh_Ci g mX9_bitsIn [sh_I a] S sz Q := by
  refine wp_X9_bitsIn ⟨fun v i => ∃ j, j ≤ 10 ∧ i = nI j ∧ v = sh_bi a j, fun _ i => 10 - i.toNatClampNeg, ⟨0, by omega, rfl, rfl⟩, ?_⟩
  rintro _ _ ⟨j, hj, rfl, rfl⟩
  refine wc (fun c => ?_) (fun c => ?_)
  · obtain rfl := lp_end hj (by omega) c
    exact h
  · have hlt := lp_go (by omega) hj c
    rintro _ rfl _ rfl
    rw [nI_1 j]
    exact ⟨⟨j + 1, hlt, rfl, rfl⟩, mu_lt hlt (by omega)⟩
end MFLOAT
