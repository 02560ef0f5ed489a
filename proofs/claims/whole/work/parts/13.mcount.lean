/-! what the model counts and finds, as functions of the page -/
def bI (b : Bool) : Int32 := if b then 1 else 0
theorem bI_n (b : Bool) : narrow .boolean (.int (bI b)) = .int (bI b) := by cases b <;> rfl
theorem bI_0 {b : Bool} (h : bI b = 0) : b = false := by cases b; rfl; exact absurd h (by decide)
theorem bI_1 {b : Bool} (h : ¬ bI b = 0) : b = true := by cases b; exact absurd rfl h; rfl
/-- a branch on a boolean -/
theorem wb {b : Bool} {A B : Prop} (h0 : b = false → A) (h1 : b = true → B) : (bI b = 0 → A) ∧ (¬ bI b = 0 → B) := ⟨fun c => h0 (bI_0 c), fun c => h1 (bI_1 c)⟩
theorem wb' {b : Bool} {A B : Prop} (h0 : b = false → A) (h1 : b = true → B) : (¬ bI b = 0 → B) ∧ (bI b = 0 → A) := ⟨fun c => h1 (bI_1 c), fun c => h0 (bI_0 c)⟩
theorem wc {c : Prop} {A B : Prop} (h0 : c → A) (h1 : ¬ c → B) : (c → A) ∧ (¬ c → B) := ⟨h0, h1⟩
theorem wt {c : Prop} {A B : Prop} (z : c) (h0 : A) : (c → A) ∧ (¬ c → B) := ⟨fun _ => h0, fun x => absurd z x⟩
theorem wf {c : Prop} {A B : Prop} (z : ¬ c) (h0 : B) : (c → A) ∧ (¬ c → B) := ⟨fun x => absurd x z, fun _ => h0⟩
theorem wt' {c : Prop} {A B : Prop} (z : c) (h0 : A) : (¬ c → B) ∧ (c → A) := ⟨fun x => absurd z x, fun _ => h0⟩
theorem wf' {c : Prop} {A B : Prop} (z : ¬ c) (h0 : B) : (¬ c → B) ∧ (c → A) := ⟨fun _ => h0, fun x => absurd x z⟩
def inb (v a b : Int32) : Bool := decide (a ≤ v ∧ v ≤ b)
def nM (P : Nat → Int32) : Nat := (P 8).toNatClampNeg
def nT (P : Nat → Int32) : Nat := (P 9).toNatClampNeg
def nY (P : Nat → Int32) : Nat := (P 11).toNatClampNeg
def nD (P : Nat → Int32) : Nat := (P 7).toNatClampNeg
def nZ (P : Nat → Int32) : Nat := (P 10).toNatClampNeg
/-- the sizes that a page tells -/
def sh_B (P : Nat → Int32) : Prop :=
  (P 8 = nI (nM P) ∧ nM P ≤ 10) ∧ (P 9 = nI (nT P) ∧ nT P ≤ 20) ∧ (P 11 = nI (nY P) ∧ nY P ≤ 10) ∧ (P 10 = nI (nZ P) ∧ nZ P < 10) ∧ (P 7 = nI (nD P) ∧ nD P ≤ 3000) ∧ ∀ j, j < nY P → ∃ m, m < nM P ∧ P (12 + j) = nI m
theorem sh_B.m {P : Nat → Int32} (B : sh_B P) : P 8 = nI (nM P) := B.1.1
theorem sh_B.ml {P : Nat → Int32} (B : sh_B P) : nM P ≤ 10 := B.1.2
theorem sh_B.t {P : Nat → Int32} (B : sh_B P) : P 9 = nI (nT P) := B.2.1.1
theorem sh_B.tl {P : Nat → Int32} (B : sh_B P) : nT P ≤ 20 := B.2.1.2
theorem sh_B.y {P : Nat → Int32} (B : sh_B P) : P 11 = nI (nY P) := B.2.2.1.1
theorem sh_B.yl {P : Nat → Int32} (B : sh_B P) : nY P ≤ 10 := B.2.2.1.2
theorem sh_B.z {P : Nat → Int32} (B : sh_B P) : P 10 = nI (nZ P) := B.2.2.2.1.1
theorem sh_B.zl {P : Nat → Int32} (B : sh_B P) : nZ P < 10 := B.2.2.2.1.2
theorem sh_B.d {P : Nat → Int32} (B : sh_B P) : P 7 = nI (nD P) := B.2.2.2.2.1.1
theorem sh_B.dl {P : Nat → Int32} (B : sh_B P) : nD P ≤ 3000 := B.2.2.2.2.1.2
theorem sh_B.tn {P : Nat → Int32} (B : sh_B P) : ∀ j, j < nY P → ∃ m, m < nM P ∧ P (12 + j) = nI m := B.2.2.2.2.2
def mB (P : Nat → Int32) (v : Int32) : Bool := decide (0 ≤ v ∧ v < P 8)
def tB (P : Nat → Int32) (v : Int32) : Bool := decide (0 ≤ v ∧ v < P 9)
theorem nI_ex {v : Int32} {n : Nat} (hn : n < 2 ^ 31) (h0 : 0 ≤ v) (h1 : v < nI n) : ∃ m, m < n ∧ v = nI m := by
  obtain ⟨j, hj, rfl⟩ := nI_of (Int32.not_lt.mpr h0)
  exact ⟨j, (nI_ltI hj hn).mp h1, rfl⟩
theorem sh_B.mB_t {P : Nat → Int32} (B : sh_B P) {v : Int32} (h : mB P v = true) : ∃ m, m < nM P ∧ v = nI m := by
  have h := of_decide_eq_true h
  rw [B.m] at h
  exact nI_ex (by have := B.ml; omega) h.1 h.2
theorem sh_B.tB_t {P : Nat → Int32} (B : sh_B P) {v : Int32} (h : tB P v = true) : ∃ t, t < nT P ∧ v = nI t := by
  have h := of_decide_eq_true h
  rw [B.t] at h
  exact nI_ex (by have := B.tl; omega) h.1 h.2
theorem sh_B.mB_i {P : Nat → Int32} (B : sh_B P) {m : Nat} (h : m < nM P) : mB P (nI m) = true := by
  have := B.ml
  refine decide_eq_true ⟨nI_pos' (by omega), ?_⟩
  rw [B.m]; exact nI_lt h (by omega)
theorem sh_B.tB_i {P : Nat → Int32} (B : sh_B P) {m : Nat} (h : m < nT P) : tB P (nI m) = true := by
  have := B.tl
  refine decide_eq_true ⟨nI_pos' (by omega), ?_⟩
  rw [B.t]; exact nI_lt h (by omega)
theorem lt_pred {v : Int32} {n : Nat} (hn : n < 2 ^ 30) : v ≤ nI n - 1 ↔ v < nI n := by
  have e1 : (nI n - 1).toInt = (n : Int) - 1 := pk_sub_toInt (a := n) (b := 1) (by omega) (by omega)
  rw [Int32.le_iff_toInt_le, Int32.lt_iff_toInt_lt, e1, nI_toInt (by omega)]
  omega
theorem inb_m {P : Nat → Int32} (B : sh_B P) (v : Int32) : inb v 0 (P 8 - 1) = mB P v := by
  unfold inb mB; rw [B.m]; have := B.ml
  rw [decide_eq_decide, lt_pred (by omega)]
theorem inb_t {P : Nat → Int32} (B : sh_B P) (v : Int32) : inb v 0 (P 9 - 1) = tB P v := by
  unfold inb tB; rw [B.t]; have := B.tl
  rw [decide_eq_decide, lt_pred (by omega)]
def sh_cnt (f : Nat → Bool) : Nat → Nat
  | 0 => 0
  | n + 1 => sh_cnt f n + (if f n then 1 else 0)
theorem cnt_t {f : Nat → Bool} {n : Nat} (h : f n = true) : sh_cnt f (n + 1) = sh_cnt f n + 1 := by simp [sh_cnt, h]
theorem cnt_f {f : Nat → Bool} {n : Nat} (h : f n = false) : sh_cnt f (n + 1) = sh_cnt f n := by simp [sh_cnt, h]
theorem cnt_le (f : Nat → Bool) (n : Nat) : sh_cnt f n ≤ n := by
  induction n with
  | zero => exact Nat.le_refl _
  | succ n ih => unfold sh_cnt; split <;> omega
theorem cnt_congr {f h : Nat → Bool} {n : Nat} (e : ∀ i, i < n → f i = h i) : sh_cnt f n = sh_cnt h n := by
  induction n with
  | zero => rfl
  | succ n ih => unfold sh_cnt; rw [ih (fun i hi => e i (by omega)), e n (by omega)]
theorem cnt_beyond {f : Nat → Bool} {n m : Nat} (hm : n ≤ m) (e : ∀ i, n ≤ i → i < m → f i = false) : sh_cnt f m = sh_cnt f n := by
  induction m with
  | zero => obtain rfl : n = 0 := by omega
            rfl
  | succ m ih =>
    by_cases h : n = m + 1
    · rw [h]
    · rw [cnt_f (e m (by omega) (by omega)), ih (by omega) (fun i h1 h2 => e i h1 (by omega))]
/-- the first below n that f takes, or d -/
def sh_fnd (f : Nat → Bool) (n : Nat) (d : Int32) : Int32 := match (List.range n).find? f with
  | some i => nI i
  | none => d
theorem fnd_s {f : Nat → Bool} {n i : Nat} {d : Int32} (hi : i < n) (h : f i = true) (hb : ∀ j, j < i → f j = false) : sh_fnd f n d = nI i := by
  have : (List.range n).find? f = some i := by
    rw [List.find?_range_eq_some]
    exact ⟨h, List.mem_range.mpr hi, fun j hj => by rw [hb j hj]; rfl⟩
  unfold sh_fnd; rw [this]
theorem fnd_n {f : Nat → Bool} {n : Nat} {d : Int32} (hb : ∀ j, j < n → f j = false) : sh_fnd f n d = d := by
  have : (List.range n).find? f = none := by
    rw [List.find?_range_eq_none]
    exact fun j hj => by rw [hb j hj]; rfl
  unfold sh_fnd; rw [this]
theorem all_succ {f : Nat → Bool} {i : Nat} (hb : ∀ j, j < i → f j = false) (h : f i = false) : ∀ j, j < i + 1 → f j = false := fun j hj => by
  by_cases e : j = i
  · rw [e]; exact h
  · exact hb j (by omega)
theorem fnd_cases (f : Nat → Bool) (n : Nat) (d : Int32) : (∃ i, i < n ∧ f i = true ∧ (∀ j, j < i → f j = false) ∧ sh_fnd f n d = nI i) ∨ ((∀ j, j < n → f j = false) ∧ sh_fnd f n d = d) := by
  by_cases h : ∃ i, i < n ∧ f i = true
  · have hd : ∃ i, i < n ∧ f i = true ∧ ∀ j, j < i → f j = false := by
      obtain ⟨i, h1, h2⟩ := h
      induction i using Nat.strongRecOn with
      | ind i ih =>
        by_cases hc : ∃ j, j < i ∧ f j = true
        · obtain ⟨j, h3, h4⟩ := hc
          exact ih j h3 (by omega) h4
        · exact ⟨i, h1, h2, fun j hj => Bool.eq_false_iff.mpr fun z => hc ⟨j, hj, z⟩⟩
    obtain ⟨i, h1, h2, h3⟩ := hd
    exact .inl ⟨i, h1, h2, h3, fnd_s h1 h2 h3⟩
  · have h3 : ∀ j, j < n → f j = false := fun j hj => Bool.eq_false_iff.mpr fun z => h ⟨j, hj, z⟩
    exact .inr ⟨h3, fnd_n h3⟩
/-- page words -/
abbrev pm (P : Nat → Int32) (m w : Nat) : Int32 := P (22 + 12 * m + w)
abbrev pt (P : Nat → Int32) (t w : Nat) : Int32 := P (142 + 23 * t + w)
def sh_tk (P : Nat → Int32) (but : Int32) (m : Nat) : Bool := decide (m < nM P ∧ nI m ≠ but ∧ pm P m 0 ≠ 2)
def sh_opn (P : Nat → Int32) (m : Nat) : Int32 := pm P m 8 + pm P m 9 + pm P m 10
section MCOUNT
variable {g : sh_G} {S : sh_S} {P : Nat → Int32} {sz : Nat} {Q : Int32 → sh_S → Prop} {U : sh_S → Prop}
theorem c_inb {v a b : Int32} (h : Q (bI (inb v a b)) S) : sh_Ci g mX9_in [sh_I v, sh_I a, sh_I b] S sz Q := by
  refine c_in (fun c => ?_) (fun c => ?_)
  · rwa [show inb v a b = true from decide_eq_true c] at h
  · rwa [show inb v a b = false from decide_eq_false c] at h
theorem c_isMember (B : sh_B P) {v : Int32} (h : Q (bI (mB P v)) (sh_mp S P)) : sh_Ci g mX9_isMember [sh_R (9, 0, 0), sh_I v] (sh_mp S P) sz Q := by
  refine wp_X9_isMember (c_inb ⟨bI_n _, ?_⟩)
  rw [mp_p, inb_m B]; exact h
theorem c_isTool (B : sh_B P) {v : Int32} (h : Q (bI (tB P v)) (sh_mp S P)) : sh_Ci g mX9_isTool [sh_R (9, 0, 0), sh_I v] (sh_mp S P) sz Q := by
  refine wp_X9_isTool (c_inb ⟨bI_n _, ?_⟩)
  rw [mp_p, inb_t B]; exact h
theorem c_shares (B : sh_B P) {v but : Int32} (m : Nat) (hv : v = nI m) (hm : m < 10) (h : Q (bI (sh_tk P but m)) (sh_mp S P)) : sh_Ci g mX9_shares [sh_R (9, 0, 0), sh_I v, sh_I but] (sh_mp S P) sz Q := by
  subst hv
  have := B.ml
  refine wp_X9_shares ?_
  rw [mp_p, B.m]
  refine wc (fun c => ?_) (fun c => wc (fun c2 => ?_) (fun c2 => c_of m 0 rfl rfl hm (by omega) (wc (fun c3 => ?_) (fun c3 => ?_))))
  · rw [nI_leI (by omega) (by omega)] at c
    rwa [show sh_tk P but m = false from decide_eq_false (fun z => by omega)] at h
  · rwa [show sh_tk P but m = false from decide_eq_false (fun z => z.2.1 c2)] at h
  · rwa [show sh_tk P but m = false from decide_eq_false (fun z => z.2.2 c3)] at h
  · rw [nI_leI (by omega) (by omega)] at c
    rwa [show sh_tk P but m = true from decide_eq_true ⟨by omega, c2, c3⟩] at h
theorem c_sharing (B : sh_B P) {but : Int32} (h : Q (nI (sh_cnt (sh_tk P but) (nM P))) (sh_mp S P)) : sh_Ci g mX9_sharing [sh_R (9, 0, 0), sh_I but] (sh_mp S P) sz Q := by
  have hl := B.ml
  refine wp_X9_sharing ⟨fun v i S' => ∃ j, j ≤ nM P ∧ i = nI j ∧ v = nI (sh_cnt (sh_tk P but) j) ∧ S' = sh_mp S P, fun _ i _ => nM P - i.toNatClampNeg, ⟨0, by omega, rfl, rfl, rfl⟩, ?_⟩
  rintro _ _ _ ⟨j, hj, rfl, rfl, rfl⟩
  rw [mp_p, B.m]
  refine wc (fun c => ?_) (fun c => ?_)
  · obtain rfl := lp_end hj (by omega) c
    exact h
  · have hlt := lp_go (by omega) hj c
    have hmu := mu_lt (N := nM P) hlt (by omega)
    refine c_shares B j rfl (by omega) (wb (fun c => ?_) (fun c => ?_)) <;> rintro _ rfl _ rfl <;> rw [nI_1 j]
    · exact ⟨⟨j + 1, hlt, rfl, by rw [cnt_f c, Int32.add_zero], rfl⟩, hmu⟩
    · exact ⟨⟨j + 1, hlt, rfl, by rw [cnt_t c, nI_1], rfl⟩, hmu⟩
theorem c_openOf {v : Int32} (m : Nat) (hv : v = nI m) (hm : m < 10) (h : Q (sh_opn P m) (sh_mp S P)) : sh_Ci g mX9_openOf [sh_R (9, 0, 0), sh_I v] (sh_mp S P) sz Q :=
  wp_X9_openOf (c_of m 8 hv rfl hm (by omega) (c_of m 9 hv rfl hm (by omega) (c_of m 10 hv rfl hm (by omega) h)))
def sh_on (P : Nat → Int32) (m : Int32) (wl : Bool) (t : Nat) : Bool := decide ((pt P t 3 = 1 ∨ wl = true ∧ pt P t 3 = 2) ∧ pt P t 4 = m)
theorem c_toolsOf (B : sh_B P) {v : Int32} {wl : Bool} (h : Q (nI (sh_cnt (sh_on P v wl) (nT P))) (sh_mp S P)) : sh_Ci g mX9_toolsOf [sh_R (9, 0, 0), sh_I v, sh_I (bI wl)] (sh_mp S P) sz Q := by
  have hl := B.tl
  refine wp_X9_toolsOf ⟨fun v' i S' => ∃ j, j ≤ nT P ∧ i = nI j ∧ v' = nI (sh_cnt (sh_on P v wl) j) ∧ S' = sh_mp S P, fun _ i _ => nT P - i.toNatClampNeg, ⟨0, by omega, rfl, rfl, rfl⟩, ?_⟩
  rintro _ _ _ ⟨j, hj, rfl, rfl, rfl⟩
  rw [mp_p, B.t]
  refine wc (fun c => ?_) (fun c => ?_)
  · obtain rfl := lp_end hj (by omega) c
    exact h
  · have hlt := lp_go (by omega) hj c
    have hmu := mu_lt (N := nT P) hlt (by omega)
    have hf : sh_on P v wl j = false → (nI j + 1) = nI (j + 1) ∧ nI (sh_cnt (sh_on P v wl) j) + 0 = nI (sh_cnt (sh_on P v wl) (j + 1)) := fun c => ⟨nI_1 _, by rw [cnt_f c, Int32.add_zero]⟩
    have ht : sh_on P v wl j = true → (nI j + 1) = nI (j + 1) ∧ nI (sh_cnt (sh_on P v wl) j) + 1 = nI (sh_cnt (sh_on P v wl) (j + 1)) := fun c => ⟨nI_1 _, by rw [cnt_t c, nI_1]⟩
    refine c_its j 3 rfl rfl (by omega) (by omega) (wc (fun c1 => ?_) (fun c1 => wb (fun c2 => ?_) (fun c2 => ?_)))
    · refine c_its j 4 rfl rfl (by omega) (by omega) ⟨fun c3 => ?_, fun c3 => ?_⟩ <;> rintro _ rfl _ rfl
      · have k := hf (decide_eq_false fun z => c3 z.2); rw [k.1, k.2]
        exact ⟨⟨j + 1, hlt, rfl, rfl, rfl⟩, hmu⟩
      · have k := ht (decide_eq_true ⟨.inl c1, c3⟩); rw [k.1, k.2]
        exact ⟨⟨j + 1, hlt, rfl, rfl, rfl⟩, hmu⟩
    · rintro _ rfl _ rfl
      have k := hf (decide_eq_false fun z => z.1.elim c1 fun z => by rw [c2] at z; exact Bool.noConfusion z.1); rw [k.1, k.2]
      exact ⟨⟨j + 1, hlt, rfl, rfl, rfl⟩, hmu⟩
    · refine c_its j 3 rfl rfl (by omega) (by omega) ⟨fun c3 => ?_, fun c3 => c_its j 4 rfl rfl (by omega) (by omega) ⟨fun c4 => ?_, fun c4 => ?_⟩⟩ <;> rintro _ rfl _ rfl
      · have k := hf (decide_eq_false fun z => z.1.elim c1 fun z => c3 z.2); rw [k.1, k.2]
        exact ⟨⟨j + 1, hlt, rfl, rfl, rfl⟩, hmu⟩
      · have k := hf (decide_eq_false fun z => c4 z.2); rw [k.1, k.2]
        exact ⟨⟨j + 1, hlt, rfl, rfl, rfl⟩, hmu⟩
      · have k := ht (decide_eq_true ⟨.inr ⟨c2, c3⟩, c4⟩); rw [k.1, k.2]
        exact ⟨⟨j + 1, hlt, rfl, rfl, rfl⟩, hmu⟩
/-- the place in the panel of tool t -/
def sh_pl (P : Nat → Int32) (t : Nat) (m : Int32) : Int32 := sh_fnd (fun j => decide (pt P t (12 + j) = m)) 3 (-1)
theorem c_placeIn {v m : Int32} (t : Nat) (hv : v = nI t) (ht : t < 20) (h : Q (sh_pl P t m) (sh_mp S P)) : sh_Ci g mX9_placeIn [sh_R (9, 0, 0), sh_I v, sh_I m] (sh_mp S P) sz Q := by
  refine wp_X9_placeIn ⟨fun i S' => ∃ j, j ≤ 3 ∧ i = nI j ∧ S' = sh_mp S P ∧ ∀ k, k < j → decide (pt P t (12 + k) = m) = false, fun i _ => 3 - i.toNatClampNeg, ⟨0, by omega, rfl, rfl, fun k hk => by omega⟩, ?_⟩
  rintro _ _ ⟨j, hj, rfl, rfl, hb⟩
  refine wc (fun c => ?_) (fun c => ?_)
  · obtain rfl := lp_end hj (by omega) c
    rw [sh_pl, fnd_n hb] at h
    exact h
  · have hlt := lp_go (by omega) hj c
    refine c_its t (12 + j) hv (nI_add 12 j) ht (by omega) ⟨fun c2 => ?_, fun c2 => ?_⟩
    · rintro _ rfl
      rw [nI_1 j]
      exact ⟨⟨j + 1, hlt, rfl, rfl, all_succ hb (decide_eq_false c2)⟩, mu_lt hlt (by omega)⟩
    · rw [sh_pl, fnd_s hlt (decide_eq_true c2) hb] at h
      exact h
theorem pl_neg {P : Nat → Int32} {t : Nat} {m : Int32} : sh_pl P t m < 0 ↔ ¬ ∃ j, j < 3 ∧ pt P t (12 + j) = m := by
  rcases fnd_cases (fun j => decide (pt P t (12 + j) = m)) 3 (-1) with ⟨i, h1, h2, h3, h4⟩ | ⟨h1, h4⟩ <;> rw [sh_pl, h4]
  · exact ⟨fun z => absurd z (nI_pos (by omega)), fun z => absurd ⟨i, h1, of_decide_eq_true h2⟩ z⟩
  · exact ⟨fun _ ⟨j, hj, e⟩ => of_decide_eq_false (h1 j hj) e, fun _ => by decide⟩
def sh_inp (P : Nat → Int32) (m : Int32) (t : Nat) : Bool := decide (pt P t 3 = 2 ∧ ¬ sh_pl P t m < 0)
theorem cnt_pos {f : Nat → Bool} {n : Nat} : sh_cnt f n = 0 ↔ ∀ i, i < n → f i = false := by
  induction n with
  | zero => simp [sh_cnt]
  | succ n ih =>
    cases h : f n
    · rw [cnt_f h, ih]
      exact ⟨fun z i hi => all_succ z h i hi, fun z i hi => z i (by omega)⟩
    · rw [cnt_t h]
      exact ⟨fun z => by omega, fun z => by have := z n (by omega); rw [h] at this; exact Bool.noConfusion this⟩
theorem c_isInPanel (B : sh_B P) {m : Int32} (h : Q (bI (decide (0 < sh_cnt (sh_inp P m) (nT P)))) (sh_mp S P)) : sh_Ci g mX9_isInPanel [sh_R (9, 0, 0), sh_I m] (sh_mp S P) sz Q := by
  have hl := B.tl
  refine wp_X9_isInPanel ⟨fun v i S' => ∃ j, j ≤ nT P ∧ i = nI j ∧ v = bI (decide (0 < sh_cnt (sh_inp P m) j)) ∧ S' = sh_mp S P, fun _ i _ => nT P - i.toNatClampNeg, ⟨0, by omega, rfl, rfl, rfl⟩, ?_⟩
  rintro _ _ _ ⟨j, hj, rfl, rfl, rfl⟩
  rw [mp_p, B.t]
  refine wc (fun c => ⟨bI_n _, ?_⟩) (fun c => ?_)
  · obtain rfl := lp_end hj (by omega) c
    exact h
  · have hlt := lp_go (by omega) hj c
    have hmu := mu_lt (N := nT P) hlt (by omega)
    refine wb' (fun c0 => ?_) (fun c0 => ?_)
    · have c0 := of_decide_eq_false c0
      refine c_its j 3 rfl rfl (by omega) (by omega) ⟨fun c1 => ?_, fun c1 => c_placeIn j rfl (by omega) (wc (fun c2 => ?_) (fun c2 => ?_))⟩ <;> rintro _ rfl <;> rw [nI_1 j]
      · refine ⟨⟨j + 1, hlt, rfl, ?_, rfl⟩, hmu⟩
        rw [cnt_f (decide_eq_false fun z => c1 z.1), decide_eq_false c0]; rfl
      · refine ⟨⟨j + 1, hlt, rfl, ?_, rfl⟩, hmu⟩
        rw [cnt_f (decide_eq_false fun z => z.2 c2), decide_eq_false c0]; rfl
      · refine ⟨⟨j + 1, hlt, rfl, ?_, rfl⟩, hmu⟩
        rw [cnt_t (decide_eq_true ⟨c1, c2⟩), decide_eq_true (by omega)]; rfl
    · rintro _ rfl; rw [nI_1 j]
      refine ⟨⟨j + 1, hlt, rfl, ?_, rfl⟩, hmu⟩
      have c0 := of_decide_eq_true c0
      rw [decide_eq_true (by unfold sh_cnt; omega)]; rfl
/-- the turn of member m -/
def sh_tn (P : Nat → Int32) (m d : Int32) : Int32 := sh_fnd (fun j => decide (P (12 + j) = m)) (nY P) d
theorem c_turnOf (B : sh_B P) {m : Int32} (h : Q (sh_tn P m (-1)) (sh_mp S P)) : sh_Ci g mX9_turnOf [sh_R (9, 0, 0), sh_I m] (sh_mp S P) sz Q := by
  have hl := B.yl
  refine wp_X9_turnOf ⟨fun i => ∃ j, j ≤ nY P ∧ i = nI j ∧ ∀ k, k < j → decide (P (12 + k) = m) = false, fun i => nY P - i.toNatClampNeg, ⟨0, by omega, rfl, fun k hk => by omega⟩, ?_⟩
  rintro _ ⟨j, hj, rfl, hb⟩
  rw [mp_p, B.y]
  refine wc (fun c => ?_) (fun c => ?_)
  · obtain rfl := lp_end hj (by omega) c
    rw [sh_tn, fnd_n hb] at h
    exact h
  · have hlt := lp_go (by omega) hj c
    rw [show (12 : Int32) + nI j = nI (12 + j) from nI_add 12 j, nI_clamp (by omega)]
    refine ⟨vp_in_nI (by omega) (by omega), fun c2 => ?_, fun c2 => ?_⟩
    · rintro _ rfl
      rw [nI_1 j]
      exact ⟨⟨j + 1, hlt, rfl, all_succ hb (decide_eq_false c2)⟩, mu_lt hlt (by omega)⟩
    · rw [sh_tn, fnd_s hlt (decide_eq_true c2) hb] at h
      exact h
end MCOUNT
