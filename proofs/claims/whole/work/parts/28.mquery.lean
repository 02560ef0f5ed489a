/-! what is asked of a page -/
def q_memberOf (P : Nat → Int32) (m w : Int32) : Int32 :=
  if mB P m = true ∧ inb w 0 13 = true then
    (if w < 12 then pm P m.toNatClampNeg w.toNatClampNeg else if w = 12 then nI (sh_cnt (sh_on P m false) (nT P)) else if pm P m.toNatClampNeg 0 = 2 then -1000004 else sh_tn P m (-1))
  else -1000001
def sh_sui (f : Nat → Int32) : Nat → Int32
  | 0 => 0
  | n + 1 => sh_sui f n + f n
def q_account (P : Nat → Int32) (w : Int32) : Int32 :=
  if inb w 1 11 = true then (if w = 11 then P 10 else sh_sui (fun m => pm P m w.toNatClampNeg) (nM P)) else -1000001
def sh_dx (P : Nat → Int32) (m k : Nat) : Bool := decide (sh_opn P m < sh_opn P k ∨ sh_opn P k = sh_opn P m ∧ k < m)
def q_debtorAt (P : Nat → Int32) (ix : Int32) : Int32 :=
  if ix < 0 then -1000001 else sh_fnd (fun m => decide (0 < sh_opn P m ∧ nI (sh_cnt (sh_dx P m) (nM P)) = ix)) (nM P) (-1000004)
def q_toolOf (P : Nat → Int32) (t w : Int32) : Int32 :=
  if tB P t = true ∧ inb w 0 8 = true then
    (if inb w 4 5 = true ∧ inb (pt P t.toNatClampNeg 3) 1 3 = false ∨ w = 8 ∧ pt P t.toNatClampNeg 8 < 0 then -1000004
     else if w = 6 then sh_th (sh_sp P t.toNatClampNeg) else pt P t.toNatClampNeg w.toNatClampNeg)
  else -1000001
def q_bits (P : Nat → Int32) (t : Int32) : Int32 := if tB P t = true then pt P t.toNatClampNeg 6 else -1000001
def q_dullBehind (P : Nat → Int32) (t d : Int32) : Int32 :=
  if tB P t = true ∧ inb d 1 200 = true then (if pt P t.toNatClampNeg 3 = 4 then -1000002 else sh_th (sh_du (sh_sp P t.toNatClampNeg) (FP.i2f (100 - P (142 + 23 * t.toNatClampNeg + 2))) d.toNatClampNeg)) else -1000001
def sh_mt (P : Nat → Int32) (k : Int32) (t : Nat) : Bool := decide (pt P t 0 = k ∧ pt P t 3 = 0)
def sh_ms2 (P : Nat → Int32) (k : Int32) : Nat → UInt64
  | 0 => FP.dconst0
  | t + 1 => if sh_mt P k t = true then FP.dadd (sh_ms2 P k t) (FP.f2d (sh_sp P t)) else sh_ms2 P k t
def q_mean (P : Nat → Int32) (k : Int32) : Int32 :=
  if inb k 0 1 = true then (if sh_cnt (sh_mt P k) (nT P) = 0 then -1000004 else FP.d2i (FP.dmul (FP.ddiv (sh_ms2 P k (nT P)) (FP.i2d (nI (sh_cnt (sh_mt P k) (nT P))))) 4652007308841189376)) else -1000001
def q_hookAt (P : Nat → Int32) (w h : Int32) : Int32 := if inb w 0 2 = true ∧ inb h 0 3 = true then sh_hk P (10 * w + h) else -1000001
def q_turnAt (P : Nat → Int32) (ix : Int32) : Int32 := if ix < 0 then -1000001 else if ix < P 11 then P (12 + ix.toNatClampNeg) else -1000004
def q_dullAt (P : Nat → Int32) (ix : Int32) : Int32 := if ix < 0 then -1000001 else sh_da P ix
def q_panelAt (P : Nat → Int32) (t i w : Int32) : Int32 :=
  if tB P t = true ∧ inb i 0 2 = true ∧ inb w 0 1 = true then
    (if pt P t.toNatClampNeg 3 = 2 ∧ ¬ pt P t.toNatClampNeg ((if w = 0 then 12 else 15) + i.toNatClampNeg) < 0 then pt P t.toNatClampNeg ((if w = 0 then 12 else 15) + i.toNatClampNeg) else -1000004)
  else -1000001
def q_proposalOf (P : Nat → Int32) (t w : Int32) : Int32 :=
  if tB P t = true ∧ inb w 0 4 = true then
    (if pt P t.toNatClampNeg 18 = 0 then -1000004 else if w < 3 then pt P t.toNatClampNeg (18 + w.toNatClampNeg) else sh_bi (pt P t.toNatClampNeg (18 + w.toNatClampNeg)) 10)
  else -1000001
def q_count (P : Nat → Int32) (st ln w : Int32) : Int32 :=
  if inb w 0 11 = true ∨ inb w 20 26 = true then
    (if w < 3 then nI (sh_cnt (sh_ist P w) (nM P)) else if w < 8 then nI (sh_cnt (sh_ipl P (w - 3)) (nT P)) else if w = 8 then nI (sh_cnt (sh_prp P) (nT P))
     else if w = 9 then P 7 else if w = 10 then st else if w = 11 then ln else P (w - 20).toNatClampNeg)
  else -1000001
theorem ms_eV {P : Nat → Int32} (G : sh_G2 P) {k : Int32} : ∀ t, t ≤ nT P → nT P ≤ 20 → eV (sh_ms2 P k t) (10 * t)
  | 0, _, _ => eV_0
  | t + 1, ht, hl => by
    have ih := ms_eV G (k := k) t (by omega) hl
    unfold sh_ms2
    split
    · exact show eV _ (10 * t + 10) from eV_add (by omega) ih (eV_f (by omega) (G t (by omega)).1)
    · obtain ⟨c, q, h1, h2, h3⟩ := ih
      exact ⟨c, q, h1, h2, Nat.le_trans h3 (Nat.mul_le_mul_right _ (by omega))⟩
section MQUERY
variable {g : sh_G} {S : sh_S} {P : Nat → Int32} {sz b : Nat} {Q : Int32 → sh_S → Prop} {U : sh_S → Prop}
theorem in_nat {v : Int32} {n : Nat} {M : Int32} (hM : M.toInt = n) (h : inb v 0 M = true) : ∃ j, j ≤ n ∧ v = nI j := by
  have h := of_decide_eq_true h
  exact nI_of2 hM (Int32.not_lt.mpr h.1) h.2
theorem c_memberOf (I : sh_IP P b) {m w : Int32} (h : Q (q_memberOf P m w) (sh_mp S P)) : sh_Ci g mX9_memberOf [sh_R (9, 0, 0), sh_I m, sh_I w] (sh_mp S P) sz Q := by
  unfold q_memberOf at h
  have hl := I.ml
  refine wp_X9_memberOf (c_isMember I.B (wb (fun c => ?_) (fun c => c_inb (wb' (fun c2 => ?_) (fun c2 => ?_)))))
  · rwa [if_neg (by rw [c]; exact fun z => Bool.noConfusion z.1)] at h
  · rwa [if_neg (by rw [c2]; exact fun z => Bool.noConfusion z.2)] at h
  · rw [if_pos ⟨c, c2⟩] at h
    obtain ⟨i, hi, rfl⟩ := I.B.mB_t c
    obtain ⟨x, hx, rfl⟩ := in_nat (n := 13) rfl c2
    rw [nI_clamp (by omega), nI_clamp (by omega)] at h
    refine wc (fun z => ⟨fun z2 => c_of i 0 rfl rfl (by omega) (by omega) ⟨fun z3 => c_turnOf I.B ?_, fun z3 => ?_⟩, fun z2 => c_toolsOf (wl := false) I.B ?_⟩) (fun z => ?_)
    · rwa [if_neg (Int32.not_lt.mpr z), if_neg z2, if_neg z3] at h
    · rwa [if_neg (Int32.not_lt.mpr z), if_neg z2, if_pos z3] at h
    · rwa [if_neg (Int32.not_lt.mpr z), if_pos z2] at h
    · have : x < 12 := by
        refine Classical.byContradiction fun w => z ?_
        exact nI_le (a := 12) (by omega) (by omega)
      rw [if_pos (Int32.not_le.mp z)] at h
      exact c_of i x rfl rfl (by omega) this h
theorem c_account (I : sh_IP P b) {w : Int32} (h : Q (q_account P w) (sh_mp S P)) : sh_Ci g mX9_account [sh_R (9, 0, 0), sh_I w] (sh_mp S P) sz Q := by
  unfold q_account at h
  have hl := I.ml
  refine wp_X9_account (c_inb (wb' (fun c => ?_) (fun c => ⟨fun z => ?_, fun z => ?_⟩)))
  · rwa [if_neg (by rw [c]; decide)] at h
  · rw [if_pos c, if_neg z] at h
    have c := of_decide_eq_true c
    obtain ⟨x, hx, rfl⟩ := nI_of2 (n := 11) (M := 11) rfl (Int32.not_lt.mpr (Int32.le_trans (by decide) c.1)) c.2
    rw [nI_clamp (n := x) (by omega)] at h
    have hx11 : x < 11 := by
      refine Nat.lt_of_le_of_ne hx fun w => z ?_
      rw [w]; rfl
    refine ⟨fun v i S' => ∃ j, j ≤ nM P ∧ i = nI j ∧ v = sh_sui (fun m => pm P m x) j ∧ S' = sh_mp S P, fun _ i _ => nM P - i.toNatClampNeg, ⟨0, by omega, rfl, rfl, rfl⟩, ?_⟩
    rintro _ _ _ ⟨j, hj, rfl, rfl, rfl⟩
    rw [mp_p, I.B.m]
    refine wc (fun c => ?_) (fun c => ?_)
    · obtain rfl := lp_end hj (by omega) c
      exact h
    · have hlt := lp_go (by omega) hj c
      refine wf (nI_ge (b := 11) hx11 (by omega)) (c_of j x rfl rfl (by omega) (by omega) ?_)
      rintro _ rfl _ rfl
      rw [nI_1 j]
      exact ⟨⟨j + 1, hlt, rfl, rfl, rfl⟩, mu_lt hlt (by omega)⟩
  · rw [if_pos c, if_pos z] at h
    subst z
    rintro _ rfl
    rw [mp_p]
    refine ⟨fun v i S' => ∃ j, j ≤ nM P ∧ i = nI j ∧ v = P 10 ∧ S' = sh_mp S P, fun _ i _ => nM P - i.toNatClampNeg, ⟨0, by omega, rfl, rfl, rfl⟩, ?_⟩
    rintro _ _ _ ⟨j, hj, rfl, rfl, rfl⟩
    rw [mp_p, I.B.m]
    refine wc (fun c => ?_) (fun c => ?_)
    · obtain rfl := lp_end hj (by omega) c
      exact h
    · have hlt := lp_go (by omega) hj c
      refine wt (by decide) ?_
      rintro _ rfl _ rfl
      rw [nI_1 j]
      exact ⟨⟨j + 1, hlt, rfl, Int32.add_zero _, rfl⟩, mu_lt hlt (by omega)⟩
theorem c_debtorAt (I : sh_IP P b) {ix : Int32} (h : Q (q_debtorAt P ix) (sh_mp S P)) : sh_Ci g mX9_debtorAt [sh_R (9, 0, 0), sh_I ix] (sh_mp S P) sz Q := by
  unfold q_debtorAt at h
  have hl := I.ml
  refine wp_X9_debtorAt ⟨fun z => ?_, fun z => ?_⟩
  · rw [if_neg (Int32.not_lt.mpr z)] at h
    refine ⟨fun i S' => ∃ m, m ≤ nM P ∧ i = nI m ∧ S' = sh_mp S P ∧ ∀ k, k < m → decide (0 < sh_opn P k ∧ nI (sh_cnt (sh_dx P k) (nM P)) = ix) = false, fun i _ => nM P - i.toNatClampNeg, ⟨0, by omega, rfl, rfl, fun k hk => by omega⟩, ?_⟩
    rintro _ _ ⟨m, hm, rfl, rfl, hb⟩
    rw [mp_p, I.B.m]
    refine wc (fun c => ?_) (fun c => ?_)
    · obtain rfl := lp_end hm (by omega) c
      rw [fnd_n hb] at h
      exact h
    · have hlt := lp_go (by omega) hm c
      have hmu := mu_lt (N := nM P) hlt (by omega)
      refine ⟨fun v i S' => ∃ k, k ≤ nM P ∧ i = nI k ∧ v = nI (sh_cnt (sh_dx P m) k) ∧ S' = sh_mp S P, fun _ i _ => nM P - i.toNatClampNeg, ⟨0, by omega, rfl, rfl, rfl⟩, ?_⟩
      rintro _ _ _ ⟨k, hk, rfl, rfl, rfl⟩
      rw [mp_p, I.B.m]
      refine wc (fun c2 => ?_) (fun c2 => ?_)
      · obtain rfl := lp_end hk (by omega) c2
        refine c_openOf m rfl (by omega) (wc (fun z2 => ?_) (fun z2 => ⟨fun z3 => ?_, fun z3 => ?_⟩))
        · rintro _ rfl; rw [nI_1 m]
          exact ⟨⟨m + 1, hlt, rfl, rfl, all_succ hb (decide_eq_false fun w => Int32.not_lt.mpr z2 w.1)⟩, hmu⟩
        · rintro _ rfl; rw [nI_1 m]
          exact ⟨⟨m + 1, hlt, rfl, rfl, all_succ hb (decide_eq_false fun w => z3 w.2)⟩, hmu⟩
        · rw [fnd_s hlt (decide_eq_true ⟨Int32.not_le.mp z2, z3⟩) hb] at h
          exact h
      · have hlt2 := lp_go (by omega) hk c2
        have hmu2 := mu_lt (N := nM P) hlt2 (by omega)
        have hf : sh_dx P m k = false → ∀ (x : Int32), x = nI (sh_cnt (sh_dx P m) k) + 0 → ∀ y : Int32, y = nI k + 1 → ((∃ k', k' ≤ nM P ∧ y = nI k' ∧ x = nI (sh_cnt (sh_dx P m) k') ∧ sh_mp S P = sh_mp S P) ∧ nM P - y.toNatClampNeg < nM P - (nI k).toNatClampNeg) := fun w => by
          rintro _ rfl _ rfl
          rw [nI_1 k, Int32.add_zero]
          exact ⟨⟨k + 1, hlt2, rfl, by rw [cnt_f w], rfl⟩, hmu2⟩
        have ht : sh_dx P m k = true → ∀ (x : Int32), x = nI (sh_cnt (sh_dx P m) k) + 1 → ∀ y : Int32, y = nI k + 1 → ((∃ k', k' ≤ nM P ∧ y = nI k' ∧ x = nI (sh_cnt (sh_dx P m) k') ∧ sh_mp S P = sh_mp S P) ∧ nM P - y.toNatClampNeg < nM P - (nI k).toNatClampNeg) := fun w => by
          rintro _ rfl _ rfl
          rw [nI_1 k, nI_1]
          exact ⟨⟨k + 1, hlt2, rfl, by rw [cnt_t w], rfl⟩, hmu2⟩
        refine c_openOf k rfl (by omega) (c_openOf m rfl (by omega) (wc (fun z2 => ht (decide_eq_true (.inl z2))) (fun z2 => c_openOf k rfl (by omega) (c_openOf m rfl (by omega) ⟨fun z3 => hf (decide_eq_false fun w => w.elim z2 fun w => z3 w.1), fun z3 => ?_⟩))))
        rw [nI_leI (by omega) (by omega)]
        exact ⟨fun z4 => hf (decide_eq_false fun w => w.elim z2 fun w => by omega), fun z4 => ht (decide_eq_true (.inr ⟨z3, by omega⟩))⟩
  · rwa [if_pos (Int32.not_le.mp z)] at h
theorem c_toolOf (I : sh_IP P b) {t w : Int32} (h : Q (q_toolOf P t w) (sh_mp S P)) : sh_Ci g mX9_toolOf [sh_R (9, 0, 0), sh_I t, sh_I w] (sh_mp S P) sz Q := by
  unfold q_toolOf at h
  have htl := I.tl20
  refine wp_X9_toolOf (c_isTool I.B (wb (fun c => ?_) (fun c => c_inb (wb' (fun c2 => ?_) (fun c2 => ?_)))))
  · rwa [if_neg (by rw [c]; exact fun z => Bool.noConfusion z.1)] at h
  · rwa [if_neg (by rw [c2]; exact fun z => Bool.noConfusion z.2)] at h
  · rw [if_pos ⟨c, c2⟩] at h
    obtain ⟨i, hi, rfl⟩ := I.B.tB_t c
    obtain ⟨x, hx, rfl⟩ := in_nat (n := 8) rfl c2
    rw [nI_clamp (by omega), nI_clamp (by omega)] at h
    have hv := (I.G2 i hi).1
    have htail : ¬ (inb (nI x) 4 5 = true ∧ inb (pt P i 3) 1 3 = false ∨ nI x = 8 ∧ pt P i 8 < 0) → ((¬ nI x = 6 → (sh_Ci g mX9_its [sh_R (9, 0, 0), sh_I (nI i), sh_I (nI x)] (sh_mp S P) sz (fun r13 S12 => Q r13 S12))) ∧ (nI x = 6 → (sh_Ci g mX9_its [sh_R (9, 0, 0), sh_I (nI i), sh_I 6] (sh_mp S P) sz (fun r15 S14 => (sh_Cf g mX9_real [sh_I r15] S14 sz (fun f17 S16 => (sh_Ci g mX9_thousandths [sh_F f17] S16 sz (fun r19 S18 => Q r19 S18)))))))) := fun z => by
      rw [if_neg z] at h
      refine ⟨fun z2 => ?_, fun z2 => ?_⟩
      · rw [if_neg z2] at h
        exact c_its i x rfl rfl (by omega) (by omega) h
      · rw [if_pos z2] at h
        exact c_its i 6 rfl rfl (by omega) (by omega) (c_real hv (c_thousandths hv h))
    have hno : (inb (nI x) 4 5 = true ∧ inb (pt P i 3) 1 3 = false ∨ nI x = 8 ∧ pt P i 8 < 0) → Q (-1000004) (sh_mp S P) := fun z => by
      rwa [if_pos z] at h
    refine c_inb (wb (fun c3 => ⟨fun z => htail fun w => w.elim (fun w => by rw [c3] at w; exact Bool.noConfusion w.1) fun w => z w.1, fun z => c_its i 8 rfl rfl (by omega) (by omega) ⟨fun z2 => htail fun w => w.elim (fun w => by rw [c3] at w; exact Bool.noConfusion w.1) fun w => Int32.not_lt.mpr z2 w.2, fun z2 => hno (.inr ⟨z, Int32.not_le.mp z2⟩)⟩⟩) (fun c3 => wp_X9_isOut (c_its i 3 rfl rfl (by omega) (by omega) (c_inb ⟨bI_n _, wb (fun c4 => hno (.inl ⟨c3, c4⟩)) (fun c4 => ⟨fun z => htail fun w => w.elim (fun w => by rw [show inb (pt P i 3) 1 3 = true from c4] at w; exact Bool.noConfusion w.2) fun w => z w.1, fun z => c_its i 8 rfl rfl (by omega) (by omega) ⟨fun z2 => htail fun w => w.elim (fun w => by rw [show inb (pt P i 3) 1 3 = true from c4] at w; exact Bool.noConfusion w.2) fun w => Int32.not_lt.mpr z2 w.2, fun z2 => hno (.inr ⟨z, Int32.not_le.mp z2⟩)⟩⟩)⟩))))
theorem c_bits (I : sh_IP P b) {t : Int32} (h : Q (q_bits P t) (sh_mp S P)) : sh_Ci g mX9_bits [sh_R (9, 0, 0), sh_I t] (sh_mp S P) sz Q := by
  unfold q_bits at h
  have htl := I.tl20
  refine wp_X9_bits (c_isTool I.B (wb (fun c => ?_) (fun c => ?_)))
  · rwa [if_neg (by rw [c]; decide)] at h
  · obtain ⟨i, hi, rfl⟩ := I.B.tB_t c
    rw [if_pos c, nI_clamp (by omega)] at h
    exact c_its i 6 rfl rfl (by omega) (by omega) h
theorem c_dullBehind (I : sh_IP P b) {t d : Int32} (h : Q (q_dullBehind P t d) (sh_mp S P)) : sh_Ci g mX9_dullBehind [sh_R (9, 0, 0), sh_I t, sh_I d] (sh_mp S P) sz Q := by
  unfold q_dullBehind at h
  have htl := I.tl20
  refine wp_X9_dullBehind (c_isTool I.B (wb (fun c => ?_) (fun c => c_inb (wb' (fun c2 => ?_) (fun c2 => ?_)))))
  · rwa [if_neg (by rw [c]; exact fun z => Bool.noConfusion z.1)] at h
  · rwa [if_neg (by rw [c2]; exact fun z => Bool.noConfusion z.2)] at h
  · rw [if_pos ⟨c, c2⟩] at h
    obtain ⟨i, hi, rfl⟩ := I.B.tB_t c
    have c2 := of_decide_eq_true c2
    obtain ⟨x, hx, rfl⟩ := nI_of2 (n := 200) (M := 200) rfl (Int32.not_lt.mpr (Int32.le_trans (by decide) c2.1)) c2.2
    rw [nI_clamp (by omega), nI_clamp (by omega)] at h
    refine c_its i 3 rfl rfl (by omega) (by omega) ⟨fun z => ?_, fun z => ?_⟩
    · rw [if_neg z] at h
      obtain ⟨hv, w, hw, ew⟩ := I.G2 i hi
      refine c_duller I.G2 I.B i x rfl rfl hi (by omega) (c_thousandths ?_ h)
      rw [show P (142 + 23 * i + 2) = nI w from ew, show (100 : Int32) - nI w = nI (100 - w) from pk_sub (a := 100) (by omega)]
      exact fS_du hv (by omega) x
    · rwa [if_pos z] at h
theorem c_mean (I : sh_IP P b) {k : Int32} (h : Q (q_mean P k) (sh_mp S P)) : sh_Ci g mX9_mean [sh_R (9, 0, 0), sh_I k] (sh_mp S P) sz Q := by
  unfold q_mean at h
  have htl := I.tl20
  refine wp_X9_mean (c_inb (wb' (fun c => ?_) (fun c => ?_)))
  · rwa [if_neg (by rw [c]; decide)] at h
  · rw [if_pos c] at h
    rintro _ rfl
    refine ⟨fun v n i S' => ∃ t, t ≤ nT P ∧ i = nI t ∧ n = nI (sh_cnt (sh_mt P k) t) ∧ v = sh_ms2 P k t ∧ S' = sh_mp S P, fun _ _ i _ => nT P - i.toNatClampNeg, ⟨0, by omega, rfl, rfl, rfl, rfl⟩, ?_⟩
    rintro _ _ _ _ ⟨t, ht, rfl, rfl, rfl, rfl⟩
    rw [mp_p, I.B.t]
    have hcl := cnt_le (sh_mt P k) (nT P)
    refine wc (fun c => ?_) (fun c => ?_)
    · obtain rfl := lp_end ht (by omega) c
      refine ⟨fun z => ?_, fun z => ?_⟩
      · have hne : ¬ sh_cnt (sh_mt P k) (nT P) = 0 := fun w => z (by rw [w]; rfl)
        rw [if_neg hne] at h
        obtain ⟨k1, k2⟩ := eV_mean (ms_eV I.G2 (k := k) (nT P) (by omega) htl) (k := sh_cnt (sh_mt P k) (nT P)) (by omega) (by omega)
        refine ⟨k1, ?_⟩
        rintro _ rfl
        refine ⟨k2, ?_⟩
        rintro _ rfl
        exact h
      · rwa [if_pos ((nI_eq (b := 0) (by omega) (by omega)).mp z)] at h
    · have hlt := lp_go (by omega) ht c
      have hmu := mu_lt (N := nT P) hlt (by omega)
      have hst : sh_ms2 P k (t + 1) = if sh_mt P k t = true then FP.dadd (sh_ms2 P k t) (FP.f2d (sh_sp P t)) else sh_ms2 P k t := rfl
      have hskip : sh_mt P k t = false → ∀ y : Int32, y = nI t + 1 → ((∃ t', t' ≤ nT P ∧ y = nI t' ∧ nI (sh_cnt (sh_mt P k) t) = nI (sh_cnt (sh_mt P k) t') ∧ sh_ms2 P k t = sh_ms2 P k t' ∧ sh_mp S P = sh_mp S P) ∧ nT P - y.toNatClampNeg < nT P - (nI t).toNatClampNeg) := fun w => by
        rintro _ rfl
        rw [nI_1 t]
        rw [if_neg (by rw [w]; decide)] at hst
        exact ⟨⟨t + 1, hlt, rfl, by rw [cnt_f w], by rw [hst], rfl⟩, hmu⟩
      refine c_its t 0 rfl rfl (by omega) (by omega) ⟨fun z => hskip (decide_eq_false fun w => z w.1), fun z1 => c_its t 3 rfl rfl (by omega) (by omega) ⟨fun z => hskip (decide_eq_false fun w => z w.2), fun z2 => c_its t 6 rfl rfl (by omega) (by omega) (c_real (I.G2 t hlt).1 ⟨eV_nn (eV_f (by omega) (I.G2 t hlt).1), eV_nn (eV_add (by omega) (ms_eV I.G2 t (by omega) htl) (eV_f (by omega) (I.G2 t hlt).1)), ?_⟩)⟩⟩
      rintro _ rfl _ rfl _ rfl
      have hm : sh_mt P k t = true := decide_eq_true ⟨z1, z2⟩
      rw [if_pos hm] at hst
      rw [nI_1 t, nI_1]
      exact ⟨⟨t + 1, hlt, rfl, by rw [cnt_t hm], by rw [hst]; rfl, rfl⟩, hmu⟩
theorem c_hookAt (I : sh_IP P b) {w k : Int32} (h : Q (q_hookAt P w k) (sh_mp S P)) : sh_Ci g mX9_hookAt [sh_R (9, 0, 0), sh_I w, sh_I k] (sh_mp S P) sz Q := by
  unfold q_hookAt at h
  refine wp_X9_hookAt (c_inb (wb (fun c => ?_) (fun c => c_inb (wb (fun c2 => ?_) (fun c2 => c_onHook I.B ?_)))))
  · rwa [if_neg (by rw [c]; exact fun z => Bool.noConfusion z.1)] at h
  · rwa [if_neg (by rw [c2]; exact fun z => Bool.noConfusion z.2)] at h
  · rwa [if_pos ⟨c, c2⟩] at h
theorem c_turnAt (I : sh_IP P b) {ix : Int32} (h : Q (q_turnAt P ix) (sh_mp S P)) : sh_Ci g mX9_turnAt [sh_R (9, 0, 0), sh_I ix] (sh_mp S P) sz Q := by
  unfold q_turnAt at h
  have hY := I.B.yl
  refine wp_X9_turnAt ⟨fun z => ?_, fun z => ?_⟩
  · rw [if_neg (Int32.not_lt.mpr z)] at h
    rw [mp_p]
    refine wc (fun z2 => ?_) (fun z2 => ?_)
    · rwa [if_neg (Int32.not_lt.mpr z2)] at h
    · have z2 := Int32.not_le.mp z2
      rw [if_pos z2] at h
      rw [I.B.y] at z2
      obtain ⟨j, hj, rfl⟩ := nI_ex (by omega) z z2
      rw [show (12 : Int32) + nI j = nI (12 + j) from nI_add 12 _, nI_clamp (by omega)]
      rw [nI_clamp (by omega)] at h
      exact ⟨vp_in_nI (by omega) (by omega), h⟩
  · rwa [if_pos (Int32.not_le.mp z)] at h
theorem c_dullAt (I : sh_IP P b) {ix : Int32} (h : Q (q_dullAt P ix) (sh_mp S P)) : sh_Ci g mX9_dullAt [sh_R (9, 0, 0), sh_I ix] (sh_mp S P) sz Q := by
  unfold q_dullAt sh_da at h
  have hl := I.tl20
  refine wp_X9_dullAt ⟨fun z => ?_, fun z => ?_⟩
  · rw [if_neg (Int32.not_lt.mpr z)] at h
    refine ⟨fun i S' => ∃ m, m ≤ nT P ∧ i = nI m ∧ S' = sh_mp S P ∧ ∀ k, k < m → (sh_cut P k && decide (nI (sh_ah P k) = ix)) = false, fun i _ => nT P - i.toNatClampNeg, ⟨0, by omega, rfl, rfl, fun k hk => by omega⟩, ?_⟩
    rintro _ _ ⟨m, hm, rfl, rfl, hb⟩
    rw [mp_p, I.B.t]
    refine wc (fun c => ?_) (fun c => ?_)
    · obtain rfl := lp_end hm (by omega) c
      rw [fnd_n hb] at h
      exact h
    · have hlt := lp_go (by omega) hm c
      have hmu := mu_lt (N := nT P) hlt (by omega)
      refine ⟨fun v i S' => ∃ k, k ≤ nT P ∧ i = nI k ∧ v = nI (sh_cnt (fun k => sh_cut P k && sh_dl P k m) k) ∧ S' = sh_mp S P, fun _ i _ => nT P - i.toNatClampNeg, ⟨0, by omega, rfl, rfl, rfl⟩, ?_⟩
      rintro _ _ _ ⟨k, hk, rfl, rfl, rfl⟩
      rw [mp_p, I.B.t]
      refine wc (fun c2 => ?_) (fun c2 => ?_)
      · obtain rfl := lp_end hk (by omega) c2
        refine c_isCutter m rfl (by omega) (wb (fun z2 => ?_) (fun z2 => ⟨fun z3 => ?_, fun z3 => ?_⟩))
        · rintro _ rfl; rw [nI_1 m]
          exact ⟨⟨m + 1, hlt, rfl, rfl, all_succ hb (by rw [z2]; rfl)⟩, hmu⟩
        · rintro _ rfl; rw [nI_1 m]
          exact ⟨⟨m + 1, hlt, rfl, rfl, all_succ hb (by rw [decide_eq_false (show ¬ nI (sh_ah P m) = ix from z3), Bool.and_false])⟩, hmu⟩
        · rw [fnd_s hlt (by rw [z2, decide_eq_true (show nI (sh_ah P m) = ix from z3)]; rfl) hb] at h
          exact h
      · have hlt2 := lp_go (by omega) hk c2
        have hmu2 := mu_lt (N := nT P) hlt2 (by omega)
        refine c_isCutter k rfl (by omega) (wb (fun z2 => ?_) (fun z2 => c_isDuller I.G2 I.B k m rfl rfl hlt2 hlt (wb (fun z3 => ?_) (fun z3 => ?_)))) <;> rintro _ rfl _ rfl <;> rw [nI_1 k]
        · exact ⟨⟨k + 1, hlt2, rfl, by rw [cnt_f (by rw [z2]; rfl), Int32.add_zero], rfl⟩, hmu2⟩
        · exact ⟨⟨k + 1, hlt2, rfl, by rw [cnt_f (by rw [z2, z3]; rfl), Int32.add_zero], rfl⟩, hmu2⟩
        · exact ⟨⟨k + 1, hlt2, rfl, by rw [cnt_t (by rw [z2, z3]; rfl), nI_1], rfl⟩, hmu2⟩
  · rwa [if_pos (Int32.not_le.mp z)] at h
theorem c_panelAt (I : sh_IP P b) {t i w : Int32} (h : Q (q_panelAt P t i w) (sh_mp S P)) : sh_Ci g mX9_panelAt [sh_R (9, 0, 0), sh_I t, sh_I i, sh_I w] (sh_mp S P) sz Q := by
  unfold q_panelAt at h
  have htl := I.tl20
  refine wp_X9_panelAt (c_isTool I.B (wb (fun c => ?_) (fun c => c_inb (wb (fun c2 => ?_) (fun c2 => c_inb (wb' (fun c3 => ?_) (fun c3 => ?_)))))))
  · rwa [if_neg (by rw [c]; exact fun z => Bool.noConfusion z.1)] at h
  · rwa [if_neg (by rw [c2]; exact fun z => Bool.noConfusion z.2.1)] at h
  · rwa [if_neg (by rw [c3]; exact fun z => Bool.noConfusion z.2.2)] at h
  · rw [if_pos ⟨c, c2, c3⟩] at h
    obtain ⟨k, hk, rfl⟩ := I.B.tB_t c
    obtain ⟨x, hx, rfl⟩ := in_nat (n := 2) rfl c2
    rw [nI_clamp (by omega), nI_clamp (by omega)] at h
    refine ⟨fun z => ?_, fun z => ?_⟩
    · rw [if_neg z] at h
      refine c_its k (15 + x) rfl (nI_add 15 x) (by omega) (by omega) (c_its k 3 rfl rfl (by omega) (by omega) ⟨fun z2 => ?_, fun z2 => ⟨fun z3 => ?_, fun z3 => ?_⟩⟩)
      · rwa [if_neg (fun w => z2 w.1)] at h
      · rwa [if_pos ⟨z2, Int32.not_lt.mpr z3⟩] at h
      · rwa [if_neg (fun w => z3 (Int32.not_lt.mp w.2))] at h
    · rw [if_pos z] at h
      refine c_its k (12 + x) rfl (nI_add 12 x) (by omega) (by omega) (c_its k 3 rfl rfl (by omega) (by omega) ⟨fun z2 => ?_, fun z2 => ⟨fun z3 => ?_, fun z3 => ?_⟩⟩)
      · rwa [if_neg (fun w => z2 w.1)] at h
      · rwa [if_pos ⟨z2, Int32.not_lt.mpr z3⟩] at h
      · rwa [if_neg (fun w => z3 (Int32.not_lt.mp w.2))] at h
theorem c_proposalOf (I : sh_IP P b) {t w : Int32} (h : Q (q_proposalOf P t w) (sh_mp S P)) : sh_Ci g mX9_proposalOf [sh_R (9, 0, 0), sh_I t, sh_I w] (sh_mp S P) sz Q := by
  unfold q_proposalOf at h
  have htl := I.tl20
  refine wp_X9_proposalOf (c_isTool I.B (wb (fun c => ?_) (fun c => c_inb (wb' (fun c2 => ?_) (fun c2 => ?_)))))
  · rwa [if_neg (by rw [c]; exact fun z => Bool.noConfusion z.1)] at h
  · rwa [if_neg (by rw [c2]; exact fun z => Bool.noConfusion z.2)] at h
  · rw [if_pos ⟨c, c2⟩] at h
    obtain ⟨k, hk, rfl⟩ := I.B.tB_t c
    obtain ⟨x, hx, rfl⟩ := in_nat (n := 4) rfl c2
    rw [nI_clamp (by omega), nI_clamp (by omega)] at h
    refine c_its k (18 + x) rfl (nI_add 18 x) (by omega) (by omega) (c_its k 18 rfl rfl (by omega) (by omega) ⟨fun z => ⟨fun z2 => c_bitsIn ?_, fun z2 => ?_⟩, fun z => ?_⟩)
    · rwa [if_neg z, if_neg (Int32.not_lt.mpr z2)] at h
    · rwa [if_neg z, if_pos (Int32.not_le.mp z2)] at h
    · rwa [if_pos z] at h
theorem c_count (I : sh_IP P b) {w : Int32} (h : Q (q_count P (S (9, 0, 0) 4) (S (9, 0, 0) 6) w) (sh_mp S P)) : sh_Ci g mX9_count [sh_R (9, 0, 0), sh_I w] (sh_mp S P) sz Q := by
  unfold q_count at h
  have main : (inb w 0 11 = true ∨ inb w 20 26 = true) → ((8 ≤ w → ((w = 8 → (sh_Ci g mX9_proposals [sh_R (9, 0, 0)] (sh_mp S P) sz (fun r7 S6 => Q r7 S6))) ∧ (¬ w = 8 → ((w = 9 → Q (sh_mp S P (19, 0, 0) 7) (sh_mp S P)) ∧ (¬ w = 9 → ((w = 10 → Q (sh_mp S P (9, 0, 0) 4) (sh_mp S P)) ∧ (¬ w = 10 → ((w = 11 → Q (sh_mp S P (9, 0, 0) 6) (sh_mp S P)) ∧ (¬ w = 11 → (vp_in (w - 20) 602 ∧ Q (sh_mp S P (19, 0, 0) ((w - 20).toNatClampNeg)) (sh_mp S P))))))))))) ∧ (¬ 8 ≤ w → ((3 ≤ w → (sh_Ci g mX9_inPlace [sh_R (9, 0, 0), sh_I (w - 3)] (sh_mp S P) sz (fun r15 S14 => Q r15 S14))) ∧ (¬ 3 ≤ w → (sh_Ci g mX9_inStatus [sh_R (9, 0, 0), sh_I w] (sh_mp S P) sz (fun r17 S16 => Q r17 S16)))))) := fun z => by
    rw [if_pos z] at h
    rw [mp_p, mp_o (by decide)]
    have h83 : 8 ≤ w → ¬ w < 3 := fun z => Int32.not_lt.mpr (Int32.le_trans (by decide) z)
    refine wc (fun z8 => ⟨fun e => c_proposals I.B ?_, fun e => ⟨fun e2 => ?_, fun e2 => ⟨fun e3 => ?_, fun e3 => ⟨fun e4 => ?_, fun e4 => ?_⟩⟩⟩⟩) (fun z8 => ⟨fun z3 => c_inPlace I.B ?_, fun z3 => c_inStatus I.B ?_⟩)
    · rwa [if_neg (h83 z8), if_neg (Int32.not_lt.mpr z8), if_pos e] at h
    · rwa [if_neg (h83 z8), if_neg (Int32.not_lt.mpr z8), if_neg e, if_pos e2] at h
    · rwa [if_neg (h83 z8), if_neg (Int32.not_lt.mpr z8), if_neg e, if_neg e2, if_pos e3] at h
    · rwa [if_neg (h83 z8), if_neg (Int32.not_lt.mpr z8), if_neg e, if_neg e2, if_neg e3, if_pos e4] at h
    · rw [if_neg (h83 z8), if_neg (Int32.not_lt.mpr z8), if_neg e, if_neg e2, if_neg e3, if_neg e4] at h
      refine ⟨?_, h⟩
      rcases z with z | z
      · obtain ⟨x, hx, rfl⟩ := in_nat (n := 11) rfl z
        have := (nI_leI (a := 8) (b := x) (by omega) (by omega)).mp z8
        have e8 : x ≠ 8 := fun w => e (by rw [w]; rfl)
        have e9 : x ≠ 9 := fun w => e2 (by rw [w]; rfl)
        have e10 : x ≠ 10 := fun w => e3 (by rw [w]; rfl)
        have e11 : x ≠ 11 := fun w => e4 (by rw [w]; rfl)
        omega
      · have z := of_decide_eq_true z
        obtain ⟨x, hx, rfl⟩ := nI_of2 (n := 26) (M := 26) rfl (Int32.not_lt.mpr (Int32.le_trans (by decide) z.1)) z.2
        have := (nI_leI (a := 20) (b := x) (by omega) (by omega)).mp z.1
        rw [show nI x - 20 = nI (x - 20) from pk_sub (b := 20) this]
        exact vp_in_nI (by omega) (by omega)
    · rwa [if_neg (Int32.not_lt.mpr z3), if_pos (Int32.not_le.mp z8)] at h
    · rwa [if_pos (Int32.not_le.mp z3)] at h
  refine wp_X9_count (c_inb (wb' (fun c => c_inb (wb' (fun c2 => ?_) (fun c2 => main (.inr c2)))) (fun c => main (.inl c))))
  rwa [if_neg (by rw [c, c2]; exact fun z => z.elim (fun z => Bool.noConfusion z) (fun z => Bool.noConfusion z))] at h
end MQUERY
