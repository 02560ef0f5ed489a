theorem wr_upd_low {P : Nat → Int32} {m j : Nat} {n : Nat → Int32} {v : Int32} (hj : j < 22) : upd (sh_wr P m n) j v = sh_wr (upd P j v) m n := by
  funext q
  unfold upd sh_wr
  by_cases h : q = j
  · rw [if_pos h, if_neg (show ¬ (22 + 12 * m ≤ q ∧ q < 22 + 12 * m + 12) by omega)]
    exact (if_pos h).symm
  · rw [if_neg h]
    by_cases h2 : 22 + 12 * m ≤ q ∧ q < 22 + 12 * m + 12
    · rw [if_pos h2, if_pos h2]
    · rw [if_neg h2, if_neg h2]
      exact (if_neg h).symm
theorem rs_ptr {k : Nat} {P : Nat → Int32} {S0 S : sh_S} (R : sh_RS k P S0 S) (v : Int32) : sh_RS k (upd P 10 v) S0 (sh_sr S (2, k, 0) (upd (S (2, k, 0)) 4 v)) := by
  refine rs_low R (fun j hj => upd_ne (by omega)) (fun o h1 h2 h3 h4 => sr_o h1) ⟨fun j hj => ?_, ?_, ?_, ?_, ?_, ?_, fun j hj => ?_⟩
  · rw [sr_o (ne_k (by omega)), upd_ne (by omega)]; exact R.set hj
  · rw [sr_o (ne_k (by omega)), upd_ne (by omega)]; exact R.day
  · rw [sh_sr_s, upd_ne (by omega), upd_ne (by omega)]; exact R.mem
  · rw [sr_o (ne_k (by omega)), upd_ne (by omega)]; exact R.add
  · rw [sh_sr_s, upd_eq, upd_eq]
  · rw [sh_sr_s, upd_ne (by omega), upd_ne (by omega)]; exact R.inT
  · rw [sr_o (ne_k (by omega)), upd_ne (by omega)]; exact R.trn hj
section CMEM3
variable {g : sh_G} {S S0 : sh_S} {P : Nat → Int32} {sz k b : Nat} {Q : Int32 → sh_S → Prop} {U : sh_S → Prop}
theorem rs_row {m : Nat} (R : sh_RS k P S0 S) (hm : m < 10) : ∀ w, w < 12 → S (10, k, m) w = sh_row P m w := fun w hw => R.row hm hw
theorem k_share (hk : k < 7) (R : sh_RS k P S0 S) (B : sh_B P) {a1 a2 but : Int32} (a kd : Nat) (h1 : a1 = nI a) (hal : a < 2 ^ 31) (h2 : a2 = nI kd) (hkd : kd ≤ 3) (hc : 0 < sh_ct2 P but) (h : ∀ S', sh_RS k (sh_share P a but kd) S0 S' → U S') :
    sh_Cu g mX2_share [sh_R (2, k, 0), sh_I a1, sh_I a2, sh_I but] S sz U := by
  subst h2
  have hml := B.ml
  have hcl : sh_ct2 P but ≤ 10 := Nat.le_trans (cnt_le _ _) hml
  have hzl := B.zl
  refine wp_X2_share (ok2 hk) (k_countNotGone hk R B ?_)
  have hne := nI_ne0 hc (by omega)
  refine ⟨fun _ => ⟨hne, ?_⟩, fun z => absurd z hne⟩
  rw [h1, pk_rem hal hc (by omega), pk_div hal hc (by omega), R.ptr, B.z]
  rintro _ rfl
  refine ⟨hne, ?_⟩
  rintro _ rfl _ rfl
  have hl10 : a % sh_ct2 P but < 10 := by have := Nat.mod_lt a hc; omega
  unfold sh_share at h
  generalize hE : a / sh_ct2 P but = e at h
  generalize hL : a % sh_ct2 P but = l at h hl10
  refine ⟨fun v i S' => ∃ j, j ≤ 10 ∧ i = nI j ∧ v = nI (sh_snn P but kd e l (nZ P) j).2 ∧ sh_RS k (sh_snn P but kd e l (nZ P) j).1 S0 S', fun _ i _ => 10 - i.toNatClampNeg, ⟨0, by omega, rfl, rfl, R⟩, ?_⟩
  rintro _ _ S2 ⟨j, hj, rfl, rfl, R2⟩
  refine wc (fun c => ?_) (fun c => ?_)
  · obtain rfl := lp_end hj (by omega) c
    exact h _ R2
  · have hlt := lp_go (by omega) hj c
    have hmu := mu_lt (N := 10) hlt (by omega)
    rw [nI_add, show nI (nZ P + j) - nI (nZ P + j) / 10 * 10 = nI ((nZ P + j) % 10) from pk_rem (d := 10) (by omega) (by omega) (by omega)]
    rintro _ rfl
    have hm10 : (nZ P + j) % 10 < 10 := Nat.mod_lt _ (by omega)
    have hstep : sh_snn P but kd e l (nZ P) (j + 1) = sh_s1 P but kd e (nZ P) (sh_snn P but kd e l (nZ P) j) j := rfl
    have hX2 : (sh_snn P but kd e l (nZ P) j).2 ≤ l := sn_2 j
    refine k_takesPart hk R2 (B_sn B j) _ rfl hm10 ?_
    rw [tk_sn hm10]
    refine wb (fun c1 => ?_) (fun c1 => ⟨vp_in_nI (by omega) (by omega), ?_⟩)
    · rintro _ rfl
      rw [nI_1 j]
      unfold sh_s1 at hstep
      rw [if_neg (by rw [c1]; decide)] at hstep
      exact ⟨⟨j + 1, hlt, rfl, by rw [hstep], by rw [hstep]; exact R2⟩, hmu⟩
    · unfold sh_s1 at hstep
      rw [if_pos c1] at hstep
      generalize sh_snn P but kd e l (nZ P) j = X at hstep hX2 R2 ⊢
      have hx31 : X.2 < 2 ^ 31 := by omega
      rw [nI_clamp (n := (nZ P + j) % 10) (by omega)]
      have hle : nI X.2 ≤ 0 ↔ X.2 = 0 := by
        rw [show nI X.2 ≤ 0 ↔ X.2 ≤ 0 from nI_leI (b := 0) hx31 (by omega)]; omega
      have hrow := fun q => act_congr (k := kd) (q := q) hkd (rs_row R2 hm10)
      by_cases hx : X.2 = 0
      · have h0 : ¬ 0 < X.2 := by rw [hx]; exact Nat.lt_irrefl 0
        rw [if_neg h0, if_neg h0] at hstep
        refine wt (hle.mpr hx) (k_takeShare hk hm10 kd rfl hkd (wt (hle.mpr hx) ?_))
        rintro _ rfl
        rw [nI_1 j]
        refine ⟨⟨j + 1, hlt, rfl, by rw [hstep, hx], ?_⟩, hmu⟩
        rw [hstep]
        exact rs_mem R2 hm10 (hrow (nI e))
      · have h0 : 0 < X.2 := Nat.pos_of_ne_zero hx
        rw [if_pos h0, if_pos h0] at hstep
        have hle' : ¬ nI X.2 ≤ 0 := fun z => hx (hle.mp z)
        rw [nI_1 e]
        refine wf hle' (k_takeShare hk hm10 kd rfl hkd (wf hle' ?_))
        rintro _ rfl _ rfl _ rfl
        rw [nI_1 j, nI_1 ((nZ P + j) % 10), show nI ((nZ P + j) % 10 + 1) - nI ((nZ P + j) % 10 + 1) / 10 * 10 = nI (((nZ P + j) % 10 + 1) % 10) from pk_rem (d := 10) (by omega) (by omega) (by omega)]
        refine ⟨⟨j + 1, hlt, rfl, ?_, ?_⟩, hmu⟩
        · rw [hstep]
          show nI X.2 + (-1) = nI (X.2 - 1)
          obtain ⟨x, hx'⟩ := Nat.exists_eq_succ_of_ne_zero hx
          rw [hx']; exact pk_m1 x
        · rw [hstep]
          dsimp only
          rw [← wr_upd_low (by omega)]
          exact rs_ptr (rs_mem R2 hm10 (hrow (nI (e + 1)))) _
theorem k_chargeEach (hk : k < 7) (R : sh_RS k P S0 S) (B : sh_B P) {q : Int32} (hq : q = P 0) (h : ∀ S', sh_RS k (sh_due P (nM P)) S0 S' → U S') : sh_Cu g mX2_chargeEach [sh_R (2, k, 0), sh_I 0, sh_I q] S sz U := by
  subst hq
  have hl := B.ml
  refine wp_X2_chargeEach (ok2 hk) ⟨fun i S' => ∃ m, m ≤ nM P ∧ i = nI m ∧ sh_RS k (sh_due P m) S0 S', fun i _ => nM P - i.toNatClampNeg, ⟨0, by omega, rfl, R⟩, ?_⟩
  rintro _ S2 ⟨m, hm, rfl, R2⟩
  have hlow : ∀ j, j < 22 → sh_due P m j = P j := fun j hj => due_low (.inl hj) m (by omega)
  have B2 : sh_B (sh_due P m) := B_low B hlow
  have hM2 : nM (sh_due P m) = nM P := by unfold nM; rw [hlow 8 (by omega)]
  rw [R2.mem, B2.m, hM2]
  refine wc (fun c => ?_) (fun c => ?_)
  · obtain rfl := lp_end hm (by omega) c
    exact h _ R2
  · have hlt := lp_go (by omega) hm c
    have hmu := mu_lt (N := nM P) hlt (by omega)
    have hst : sh_due P (m + 1) = if pm P m 0 = 2 then sh_due P m else sh_wr (sh_due P m) m (sh_chg (sh_row P m) 0 (P 0)) := rfl
    have htk : sh_tk (sh_due P m) (-1) m = decide (pm P m 0 ≠ 2) := by
      unfold sh_tk
      rw [decide_eq_decide, hM2, show pm (sh_due P m) m 0 = pm P m 0 from due_up m (by omega)]
      exact ⟨fun z => z.2.2, fun z => ⟨hlt, nI_neg1 (by omega), z⟩⟩
    refine k_takesPart hk R2 B2 m rfl (by omega) ?_
    rw [htk]
    refine wb (fun c2 => ?_) (fun c2 => ⟨vp_in_nI (by omega) (by omega), ?_⟩)
    · have c2 : pm P m 0 = 2 := Classical.byContradiction fun z => of_decide_eq_false c2 z
      rintro _ rfl; rw [nI_1 m]
      rw [if_pos c2] at hst
      exact ⟨⟨m + 1, hlt, rfl, by rw [hst]; exact R2⟩, hmu⟩
    · have c2 := of_decide_eq_true c2
      rw [if_neg c2] at hst
      rw [nI_clamp (by omega)]
      refine k_charge hk (by omega) 0 rfl (by omega) ?_
      rintro _ rfl; rw [nI_1 m]
      refine ⟨⟨m + 1, hlt, rfl, ?_⟩, hmu⟩
      rw [hst]
      refine rs_mem R2 (by omega) (chg_congr (by omega) fun w hw => ?_)
      rw [R2.row (by omega) hw, due_up m (by omega)]; rfl
theorem k_join (hk : k < 7) (R : sh_RS k P S0 S) (I : sh_IP P b) (hY : nY P < 10 ∨ nM P = 10) (h : sh_kg Q k S0 S (o_member P)) : sh_Ci g mX2_join [sh_R (2, k, 0)] S sz Q := by
  have B := I.B
  have hl := B.ml
  unfold o_member at h
  refine wp_X2_join (ok2 hk) ?_
  rw [R.mem, B.m]
  refine wc (fun c => ?_) (fun c => ?_)
  · have hlt : nM P < 10 := (nI_ltI (b := 10) (by omega) (by omega)).mp c
    rw [if_neg (by omega), B.m] at h
    rintro _ rfl _ rfl
    have R1 : sh_RS k (upd P 8 (nI (nM P + 1))) S0 (sh_sr S (2, k, 0) (upd (S (2, k, 0)) 2 (nI (nM P) + 1))) := by
      refine rs_low R (fun j hj => upd_ne (by omega)) (fun o h1 h2 h3 h4 => sr_o h1) ⟨fun j hj => ?_, ?_, ?_, ?_, ?_, ?_, fun j hj => ?_⟩
      · rw [sr_o (ne_k (by omega)), upd_ne (by omega)]; exact R.set hj
      · rw [sr_o (ne_k (by omega)), upd_ne (by omega)]; exact R.day
      · rw [sh_sr_s, upd_eq, upd_eq, nI_1]
      · rw [sr_o (ne_k (by omega)), upd_ne (by omega)]; exact R.add
      · rw [sh_sr_s, upd_ne (by omega), upd_ne (by omega)]; exact R.ptr
      · rw [sh_sr_s, upd_ne (by omega), upd_ne (by omega)]; exact R.inT
      · rw [sr_o (ne_k (by omega)), upd_ne (by omega)]; exact R.trn hj
    have hY2 : nY (upd P 8 (nI (nM P + 1))) = nY P := by unfold nY; rw [upd_ne (by omega)]
    refine k_putBehind hk R1 (by rw [hY2, upd_ne (by omega)]; exact B.y) (by rw [hY2]; omega) fun S' R' => ?_
    refine kg_pos h (nI_pos (by omega)) S' ?_
    rw [hY2] at R'
    have e : upd (upd (upd P (12 + nY P) (nI (nM P))) 11 (nI (nY P + 1))) 8 (nI (nM P + 1)) = upd (upd (upd P 8 (nI (nM P + 1))) (12 + nY P) (nI (nM P))) 11 (nI (nY P + 1)) := by
      funext j
      unfold upd
      by_cases e8 : j = 8
      · rw [if_pos e8, if_neg (show ¬ j = 11 by omega), if_neg (show ¬ j = 12 + nY P by omega), if_pos e8]
      · rw [if_neg e8, if_neg e8]
    rw [e]; exact R'
  · have he : nM P = 10 := by
      refine Classical.byContradiction fun z => c ?_
      exact nI_lt (b := 10) (by omega) (by omega)
    rw [if_pos he] at h
    exact h.1 (show (-1000003 : Int32) < 0 by decide)
theorem inb_f1 {v a c : Int32} (h : v < a) : inb v a c = false := decide_eq_false fun z => Int32.not_lt.mpr z.1 h
theorem inb_f2 {v a c : Int32} (h : ¬ v ≤ c) : inb v a c = false := decide_eq_false fun z => h z.2
theorem inb_t1 {v a c : Int32} (h : ¬ v < a) (h2 : v ≤ c) : inb v a c = true := decide_eq_true ⟨Int32.not_lt.mp h, h2⟩
theorem ff_t {x : Prop} {y : Bool} (h : y = false) : ¬ (x ∧ y = true) := fun z => by rw [h] at z; exact Bool.noConfusion z.2
theorem ff_h {x : Prop} {y : Bool} (h : y = false) : ¬ (y = true ∧ x) := fun z => by rw [h] at z; exact Bool.noConfusion z.1
theorem ff_m {x z : Prop} {y : Bool} (h : y = false) : ¬ (x ∧ y = true ∧ z) := fun w => by rw [h] at w; exact Bool.noConfusion w.2.1
theorem ff_m2 {x : Prop} {y w : Bool} (h : y = false) : ¬ (x ∧ w = true ∧ y = true) := fun v => by rw [h] at v; exact Bool.noConfusion v.2.2
theorem k_putAway (hk : k < 7) (R : sh_RS k P S0 S) (I : sh_IP P b) {m a : Int32} (h : sh_kg Q k S0 S (o_away P m a)) : sh_Ci g mX2_putAway [sh_R (2, k, 0), sh_I m, sh_I a] S sz Q := by
  unfold o_away at h
  have hl := I.ml
  refine wp_X2_putAway (ok2 hk) (k_has hk R I.B (wb (fun c => ?_) (fun c => wc (fun c2 => ?_) (fun c2 => wc (fun c3 => ?_) (fun c3 => ?_)))))
  · rw [if_neg (ff_h c)] at h
    exact h.1 (show (-1000001 : Int32) < 0 by decide)
  · rw [if_neg (ff_t (inb_f1 c2))] at h
    exact h.1 (show (-1000001 : Int32) < 0 by decide)
  · rw [if_pos ⟨c, inb_t1 c2 c3⟩] at h
    obtain ⟨i, hi, rfl⟩ := I.B.mB_t c
    rw [nI_clamp (by omega)] at h
    refine ⟨vp_in_nI (by omega) (by omega), ?_⟩
    rw [nI_clamp (by omega)]
    refine k_isGone hk (by omega) (wb (fun c4 => ⟨vp_in_nI (by omega) (by omega), ?_⟩) (fun c4 => ?_)) <;> rw [R.row (by omega) (by omega)] at c4
    · rw [if_neg (of_decide_eq_false c4)] at h
      rintro _ rfl
      refine ⟨vp_in_nI (by omega) (by omega), ?_⟩
      obtain ⟨n, hn, en⟩ := I.st i hi
      have en : P (22 + 12 * i + 0) = nI n := en
      rw [R.row (by omega) (by omega)]
      have hf : ∀ v : Int32, v = a → ∀ S16 : sh_S, S16 = sh_sr S (10, k, i) (upd (S (10, k, i)) 0 v) → Q (P (22 + 12 * i + 0)) S16 := by
        rintro v rfl _ rfl
        refine kg_pos h (by rw [show pm P i 0 = nI n from en]; exact nI_pos (by omega)) _ ?_
        rw [show upd P (22 + 12 * i) v = sh_wr P i (upd (sh_row P i) 0 v) from upd_wr P i 0 v (by omega)]
        exact rs_mem R (by omega) (upd_congr (rs_row R (by omega)) rfl)
      obtain ⟨x, hx, rfl⟩ := nI_of2 (n := 1) (M := 1) rfl c2 c3
      refine ⟨fun z => hf 0 ?_, fun z => hf 1 z.symm⟩
      have : x ≠ 1 := fun w => z (by rw [w]; rfl)
      rw [show x = 0 by omega]; rfl
    · rw [if_pos (of_decide_eq_true c4)] at h
      exact h.1 (show (-1000002 : Int32) < 0 by decide)
  · rw [if_neg (ff_t (inb_f2 c3))] at h
    exact h.1 (show (-1000001 : Int32) < 0 by decide)
theorem k_takeGift (hk : k < 7) (R : sh_RS k P S0 S) (I : sh_IP P b) {m q : Int32} (hp : ∀ i, i < nM P → m = nI i → inb q 1 400 = true → ¬ sh_gain (sh_row P i) 1 q 3 < 0) (h : sh_kg Q k S0 S (o_give P m q)) : sh_Ci g mX2_takeGift [sh_R (2, k, 0), sh_I m, sh_I q] S sz Q := by
  unfold o_give at h
  have hl := I.ml
  refine wp_X2_takeGift (ok2 hk) (k_has hk R I.B (wb (fun c => ?_) (fun c => wc (fun c2 => ?_) (fun c2 => wc (fun c3 => ?_) (fun c3 => ?_)))))
  · rw [if_neg (ff_h c)] at h
    exact h.1 (show (-1000001 : Int32) < 0 by decide)
  · rw [if_neg (ff_t (inb_f1 c2))] at h
    exact h.1 (show (-1000001 : Int32) < 0 by decide)
  · rw [if_pos ⟨c, inb_t1 c2 c3⟩] at h
    obtain ⟨i, hi, rfl⟩ := I.B.mB_t c
    rw [nI_clamp (by omega)] at h
    refine ⟨vp_in_nI (by omega) (by omega), ?_⟩
    rw [nI_clamp (by omega)]
    refine k_isGone hk (by omega) (wb (fun c4 => ⟨vp_in_nI (by omega) (by omega), ?_⟩) (fun c4 => ?_)) <;> rw [R.row (by omega) (by omega)] at c4
    · rw [if_neg (of_decide_eq_false c4)] at h
      refine k_gainGiven hk (by omega) ⟨vp_in_nI (by omega) (by omega), ?_⟩
      have hg := gain_congr (v := 1) (q := q) (by omega) (rs_row R (m := i) (by omega))
      rw [sh_sr_s, hg 3 (by omega)]
      exact kg_pos h (hp i hi rfl (inb_t1 c2 c3)) _ (rs_mem R (by omega) hg)
    · rw [if_pos (of_decide_eq_true c4)] at h
      exact h.1 (show (-1000002 : Int32) < 0 by decide)
  · rw [if_neg (ff_t (inb_f2 c3))] at h
    exact h.1 (show (-1000001 : Int32) < 0 by decide)
theorem sui_congr {f h : Nat → Int32} : ∀ n, (∀ i, i < n → f i = h i) → sh_sui f n = sh_sui h n
  | 0, _ => rfl
  | n + 1, e => by
    unfold sh_sui
    rw [sui_congr n (fun i hi => e i (by omega)), e n (by omega)]
theorem sui_beyond {f : Nat → Int32} {n : Nat} : ∀ m, n ≤ m → (∀ i, n ≤ i → i < m → f i = 0) → sh_sui f m = sh_sui f n
  | 0, h, _ => by obtain rfl : n = 0 := by omega
                  rfl
  | m + 1, h, e => by
    by_cases hn : n = m + 1
    · rw [hn]
    · show sh_sui f m + f m = _
      rw [e m (by omega) (by omega), Int32.add_zero, sui_beyond m (by omega) (fun i h1 h2 => e i h1 (by omega))]
theorem k_tellOfAll (hk : k < 7) (R : sh_RS k P S0 S) (I : sh_IP P b) {w : Int32} (h : Q (q_account P w) S) : sh_Ci g mX2_tellOfAll [sh_R (2, k, 0), sh_I w] S sz Q := by
  unfold q_account at h
  have hl := I.ml
  refine wp_X2_tellOfAll (ok2 hk) ⟨fun z => wc (fun c => ?_) (fun c => wc (fun c2 => ?_) (fun c2 => ?_)), fun z => ?_⟩
  · rwa [if_neg (by rw [inb_f1 c]; decide)] at h
  · obtain ⟨x, hx, rfl⟩ := nI_of2 (n := 10) (M := 10) rfl (Int32.not_lt.mpr (Int32.le_trans (by decide) (Int32.not_lt.mp c))) c2
    rw [if_pos (inb_t1 c (Int32.le_trans c2 (by decide))), if_neg z, nI_clamp (n := x) (by omega)] at h
    refine ⟨fun v i => ∃ j, j ≤ 10 ∧ i = nI j ∧ v = sh_sui (fun m => S (10, k, m) x) j, fun _ i => 10 - i.toNatClampNeg, ⟨0, by omega, rfl, rfl⟩, ?_⟩
    rintro _ _ ⟨j, hj, rfl, rfl⟩
    refine wc (fun c3 => ?_) (fun c3 => ?_)
    · obtain rfl := lp_end hj (by omega) c3
      rw [sui_congr (h := fun m => pm P m x) 10 (fun i hi => R.row hi (by omega)), sui_beyond 10 hl (fun i h1 h2 => I.mz i h1 h2 x (by omega))]
      exact h
    · have hlt := lp_go (by omega) hj c3
      rw [nI_clamp (n := j) (by omega), nI_clamp (n := x) (by omega)]
      refine ⟨vp_in_nI (by omega) (by omega), vp_in_nI (by omega) (by omega), ?_⟩
      rintro _ rfl _ rfl
      rw [nI_1 j]
      exact ⟨⟨j + 1, hlt, rfl, rfl⟩, mu_lt hlt (by omega)⟩
  · have hf : inb w 1 11 = false := inb_f2 fun y => by
      obtain ⟨x, hx, rfl⟩ := nI_of2 (n := 11) (M := 11) rfl (Int32.not_lt.mpr (Int32.le_trans (by decide) (Int32.not_lt.mp c))) y
      have h10 : ¬ x ≤ 10 := fun q => c2 (nI_le (b := 10) q (by omega))
      exact z (by rw [show x = 11 by omega]; rfl)
    rwa [if_neg (by rw [hf]; decide)] at h
  · rw [z, if_pos (by decide), if_pos rfl] at h
    rw [R.ptr]; exact h
theorem opn_S (R : sh_RS k P S0 S) {m : Nat} (hm : m < 10) : S (10, k, m) 8 + S (10, k, m) 9 + S (10, k, m) 10 = sh_opn P m := by
  rw [R.row hm (by omega), R.row hm (by omega), R.row hm (by omega)]; rfl
theorem opn_z (I : sh_IP P b) {m : Nat} (hm : nM P ≤ m) (h : m < 10) : sh_opn P m = 0 := by
  unfold sh_opn
  rw [I.mz m hm h 8 (by omega), I.mz m hm h 9 (by omega), I.mz m hm h 10 (by omega)]; rfl
theorem k_openS (hk : k < 7) (R : sh_RS k P S0 S) {m : Nat} (hm : m < 10) (h : Q (sh_opn P m) S) : sh_Ci g mX1_openInAll [sh_R (1, k, m)] S sz Q :=
  k_openInAll hk hm (by rw [opn_S R hm]; exact h)
theorem k_debtorsAhead (hk : k < 7) (R : sh_RS k P S0 S) (I : sh_IP P b) {v : Int32} (m : Nat) (hv : v = nI m) (hm : m < nM P) (hpos : 0 < sh_opn P m) (h : Q (nI (sh_cnt (sh_dx P m) (nM P))) S) : sh_Ci g mX2_debtorsAheadOf [sh_R (2, k, 0), sh_I v] S sz Q := by
  subst hv
  have hl := I.ml
  refine wp_X2_debtorsAheadOf (ok2 hk) (k_has hk R I.B ?_)
  rw [I.B.mB_i hm]
  refine wf' (by decide) ⟨vp_in_nI (by omega) (by omega), ?_⟩
  rw [nI_clamp (by omega)]
  refine k_openS hk R (by omega) ⟨fun v i S' => ∃ j, j ≤ 10 ∧ i = nI j ∧ v = nI (sh_cnt (sh_dx P m) j) ∧ S = S', fun _ i _ => 10 - i.toNatClampNeg, ⟨0, by omega, rfl, rfl, rfl⟩, ?_⟩
  rintro _ _ _ ⟨j, hj, rfl, rfl, rfl⟩
  refine wc (fun c => ?_) (fun c => ?_)
  · obtain rfl := lp_end hj (by omega) c
    rw [cnt_beyond (f := sh_dx P m) hl (fun i h1 h2 => decide_eq_false fun z => by
      rw [opn_z I h1 h2] at z
      rcases z with z | z
      · exact Int32.lt_irrefl (Int32.lt_trans z hpos)
      · rw [z.1] at hpos; exact Int32.lt_irrefl (z.1 ▸ hpos))]
    exact h
  · have hlt := lp_go (by omega) hj c
    have hmu := mu_lt (N := 10) hlt (by omega)
    refine ⟨vp_in_nI (by omega) (by omega), ?_⟩
    rw [nI_clamp (by omega)]
    have hf : sh_dx P m j = false → ∀ y : Int32, y = nI j + 1 → ((∃ j', j' ≤ 10 ∧ y = nI j' ∧ nI (sh_cnt (sh_dx P m) j) = nI (sh_cnt (sh_dx P m) j') ∧ S = S) ∧ 10 - y.toNatClampNeg < 10 - (nI j).toNatClampNeg) := fun w => by
      rintro _ rfl
      rw [nI_1 j]
      exact ⟨⟨j + 1, hlt, rfl, by rw [cnt_f w], rfl⟩, hmu⟩
    have ht : sh_dx P m j = true → ∀ x : Int32, x = nI (sh_cnt (sh_dx P m) j) + 1 → ∀ y : Int32, y = nI j + 1 → ((∃ j', j' ≤ 10 ∧ y = nI j' ∧ x = nI (sh_cnt (sh_dx P m) j') ∧ S = S) ∧ 10 - y.toNatClampNeg < 10 - (nI j).toNatClampNeg) := fun w => by
      rintro _ rfl _ rfl
      rw [nI_1 j, nI_1]
      exact ⟨⟨j + 1, hlt, rfl, by rw [cnt_t w], rfl⟩, hmu⟩
    refine k_openS hk R hlt (wc (fun z => ht (decide_eq_true (.inl z))) (fun z => ⟨fun z2 => hf (decide_eq_false fun w => w.elim z fun w => z2 w.1), fun z2 => ?_⟩))
    rw [nI_leI (by omega) (by omega)]
    exact ⟨fun z3 => hf (decide_eq_false fun w => w.elim z fun w => by omega), fun z3 => ht (decide_eq_true (.inr ⟨z2, by omega⟩))⟩
theorem k_debtorInOrder (hk : k < 7) (R : sh_RS k P S0 S) (I : sh_IP P b) {ix : Int32} (h : Q (q_debtorAt P ix) S) : sh_Ci g mX2_debtorInOrder [sh_R (2, k, 0), sh_I ix] S sz Q := by
  unfold q_debtorAt at h
  have hl := I.ml
  refine wp_X2_debtorInOrder (ok2 hk) ⟨fun z => ?_, fun z => ?_⟩
  · rw [if_neg (Int32.not_lt.mpr z)] at h
    generalize hF : (fun m => decide (0 < sh_opn P m ∧ nI (sh_cnt (sh_dx P m) (nM P)) = ix)) = F at h
    have hFe : ∀ m, F m = decide (0 < sh_opn P m ∧ nI (sh_cnt (sh_dx P m) (nM P)) = ix) := fun m => by rw [← hF]
    refine ⟨fun i S' => ∃ j, j ≤ 10 ∧ i = nI j ∧ S' = S ∧ ∀ q, q < j → F q = false, fun i _ => 10 - i.toNatClampNeg, ⟨0, by omega, rfl, rfl, fun q hq => by omega⟩, ?_⟩
    rintro _ _ ⟨j, hj, rfl, rfl, hb⟩
    refine wc (fun c => ?_) (fun c => ?_)
    · obtain rfl := lp_end hj (by omega) c
      rw [fnd_n (fun q hq => hb q (by omega))] at h
      exact h
    · have hlt := lp_go (by omega) hj c
      have hmu := mu_lt (N := 10) hlt (by omega)
      refine ⟨vp_in_nI (by omega) (by omega), ?_⟩
      rw [nI_clamp (by omega)]
      refine k_openS hk R hlt (wc (fun z2 => ?_) (fun z2 => ?_))
      · rintro _ rfl; rw [nI_1 j]
        exact ⟨⟨j + 1, hlt, rfl, rfl, all_succ hb (by rw [hFe]; exact decide_eq_false fun w => Int32.not_lt.mpr z2 w.1)⟩, hmu⟩
      · have z2 := Int32.not_le.mp z2
        have hjM : j < nM P := by
          refine Classical.byContradiction fun w => ?_
          rw [opn_z I (by omega) hlt] at z2
          exact absurd z2 (by decide)
        refine k_debtorsAhead hk R I j rfl hjM z2 ⟨fun z3 => ?_, fun z3 => ?_⟩
        · rintro _ rfl; rw [nI_1 j]
          exact ⟨⟨j + 1, hlt, rfl, rfl, all_succ hb (by rw [hFe]; exact decide_eq_false fun w => z3 w.2)⟩, hmu⟩
        · rw [fnd_s hjM (by rw [hFe]; exact decide_eq_true ⟨z2, z3⟩) hb] at h
          exact h
  · rwa [if_pos (Int32.not_le.mp z)] at h
end CMEM3
