section CTOOL4
variable {g : sh_G} {S S0 : sh_S} {P : Nat → Int32} {sz k b : Nat} {Q : Int32 → sh_S → Prop} {U : sh_S → Prop} {F : UInt32 → sh_S → Prop}
theorem wt_upd_low {P : Nat → Int32} {m j : Nat} {n : Nat → Int32} {v : Int32} (hj : j < 142) : upd (sh_wt P m n) j v = sh_wt (upd P j v) m n := by
  funext q
  unfold upd sh_wt
  by_cases h : q = j
  · rw [if_pos h, if_neg (show ¬ (142 + 23 * m ≤ q ∧ q < 142 + 23 * m + 23) by omega)]
    exact (if_pos h).symm
  · rw [if_neg h]
    by_cases h2 : 142 + 23 * m ≤ q ∧ q < 142 + 23 * m + 23
    · rw [if_pos h2, if_pos h2]
    · rw [if_neg h2, if_neg h2]
      exact (if_neg h).symm
theorem rs_add {X : Nat → Int32} (R : sh_RS k X S0 S) (v : Int32) : sh_RS k (upd X 9 v) S0 (sh_sr S (6, k, 0) (upd (S (6, k, 0)) 3 v)) := by
  refine rs_low R (fun j hj => upd_ne (by omega)) (fun o h1 h2 h3 h4 => sr_o h2) ⟨fun j hj => ?_, ?_, ?_, ?_, ?_, ?_, fun j hj => ?_⟩
  · rw [sr_o (ne_k (by omega)), upd_ne (by omega)]; exact R.set hj
  · rw [sh_sr_s, upd_ne (by omega), upd_ne (by omega)]; exact R.day
  · rw [sr_o (ne_k (by omega)), upd_ne (by omega)]; exact R.mem
  · rw [sh_sr_s, upd_eq, upd_eq]
  · rw [sr_o (ne_k (by omega)), upd_ne (by omega)]; exact R.ptr
  · rw [sr_o (ne_k (by omega)), upd_ne (by omega)]; exact R.inT
  · rw [sr_o (ne_k (by omega)), upd_ne (by omega)]; exact R.trn hj
theorem k_addTool (hk : k < 7) (R : sh_RS k P S0 S) (I : sh_IP P b) {a v w : Int32} (h : sh_kg Q k S0 S (o_tool P a v w)) : sh_Ci g mX6_addTool [sh_R (6, k, 0), sh_I a, sh_I v, sh_I w] S sz Q := by
  unfold o_tool at h
  have htl := I.tl20
  refine wp_X6_addTool (ok6 hk) ⟨fun c => ?g, fun c0 => ⟨fun c => ?n, fun c => ?g2⟩⟩
  case n =>
    have hf : inb a 0 1 = false := decide_eq_false fun z => by
      obtain ⟨x, hx, rfl⟩ := nI_of2 (n := 1) (M := 1) rfl (Int32.not_lt.mpr z.1) z.2
      have e0 : x ≠ 0 := fun w => c0 (by rw [w]; rfl)
      exact c (by rw [show x = 1 by omega]; rfl)
    rw [if_neg (ff_h hf)] at h
    exact h.1 (show (-1000001 : Int32) < 0 by decide)
  all_goals
    have hi : inb a 0 1 = true := by rw [c]; decide
    refine wc (fun c2 => ?_) (fun c2 => wc (fun c3 => ?_) (fun c3 => wc (fun c4 => ?_) (fun c4 => wc (fun c5 => ?_) (fun c5 => ?_))))
    · rw [if_neg (ff_m (inb_f1 c2))] at h
      exact h.1 (show (-1000001 : Int32) < 0 by decide)
    · rw [if_neg (ff_m (inb_f2 (Int32.not_le.mpr c3)))] at h
      exact h.1 (show (-1000001 : Int32) < 0 by decide)
    · rw [if_neg (ff_m2 (inb_f1 c4))] at h
      exact h.1 (show (-1000001 : Int32) < 0 by decide)
    · rw [if_pos ⟨hi, inb_t1 c2 (Int32.not_lt.mp c3), inb_t1 c4 c5⟩] at h
      rw [R.add, I.B.t]
      rw [I.B.t] at h
      refine wf (nI_pos (by omega)) (wc (fun c6 => ?_) (fun c6 => ?_))
      · have hlt : nT P < 20 := (nI_ltI (b := 20) (by omega) (by omega)).mp c6
        rw [if_neg (by omega)] at h
        rintro _ rfl
        refine ⟨vp_in_nI (by omega) (by omega), ?_⟩
        rw [nI_clamp (by omega)]
        refine wp_X7_begin (ok7 hk hlt) ?_
        rintro _ rfl _ rfl _ rfl _ rfl _ rfl _ rfl _ rfl _ rfl
        simp only [sr_sr, sh_sr_s]
        rintro _ rfl
        have R1 : sh_RS k (sh_wt P (nT P) (upd (upd (upd (upd (upd (sh_tr P (nT P)) 0 a) 1 v) 2 w) 6 FP.fconst1.toInt32) 8 (-1))) S0 (sh_sr (sh_sr S (7, k, nT P) (upd (upd (upd (upd (upd (upd (upd (S (7, k, nT P)) 0 a) 1 v) 2 w) 3 FP.fconst1.toInt32) 4 0) 9 0) 10 (-1))) (5, k, nT P) (upd (sh_sr S (7, k, nT P) (upd (upd (upd (upd (upd (upd (upd (S (7, k, nT P)) 0 a) 1 v) 2 w) 3 FP.fconst1.toInt32) 4 0) 9 0) 10 (-1)) (5, k, nT P)) 0 0)) := by
          refine rs_tool R hlt (fun o h1 h2 h3 h4 h5 => by rw [sr_o h4, sr_o h1]) ?_
          rw [sr_o (o := (5, k, nT P)) (q := (7, k, nT P)) (ne_k (by omega)), sh_sr_s, sh_sr_s, sr_o (o := (5, k, nT P)) (q := (13, k, nT P)) (ne_k (by omega)), sr_o (o := (7, k, nT P)) (q := (13, k, nT P)) (ne_k (by omega)), sr_o (o := (5, k, nT P)) (q := (14, k, nT P)) (ne_k (by omega)), sr_o (o := (7, k, nT P)) (q := (14, k, nT P)) (ne_k (by omega)), sr_o (o := (7, k, nT P)) (q := (5, k, nT P)) (ne_k (by omega))]
          obtain ⟨⟨e0, e1, e2, e3, e4, e5, e6, e7, e8, e9⟩, hh, hs, hq⟩ := R.tol hlt
          have z3 : sh_tr P (nT P) 3 = 0 := I.tz (nT P) (Nat.le_refl _) hlt 3 (by omega)
          have z7 : sh_tr P (nT P) 7 = 0 := I.tz (nT P) (Nat.le_refl _) hlt 7 (by omega)
          have z18 : sh_tr P (nT P) 18 = 0 := I.tz (nT P) (Nat.le_refl _) hlt 18 (by omega)
          refine ⟨⟨by simp [upd], by simp [upd], by simp [upd], by simp [upd], by simp [upd, z3], by simp [upd, e5], by simp [upd, e6], by simp [upd, e7], by simp [upd, e8], by simp [upd, z7]⟩, .inl ⟨by simp [upd], by simp [upd]⟩, fun j hj => ?_, by simp [upd, hq.1], by simp [upd, hq.2.1], .inl ⟨by simp [upd], by simp [upd, z18]⟩⟩
          have := hs j hj
          rw [upd_ne (by omega), upd_ne (by omega), upd_ne (by omega), upd_ne (by omega), upd_ne (by omega), upd_ne (by omega), upd_ne (by omega), upd_ne (by omega), upd_ne (by omega), upd_ne (by omega)]
          exact this
        have R2 := rs_add R1 (nI (nT P + 1))
        refine kg_pos h (nI_pos (by omega)) _ ?_
        rw [R1.add, wt_low (by omega), I.B.t, nI_1]
        exact R2
      · have : nT P = 20 := by
          refine Classical.byContradiction fun z => c6 ?_
          exact nI_lt (b := 20) (by omega) (by omega)
        rw [if_pos this] at h
        exact h.1 (show (-1000003 : Int32) < 0 by decide)
    · rw [if_neg (ff_m2 (inb_f2 c5))] at h
      exact h.1 (show (-1000001 : Int32) < 0 by decide)
theorem k_isHook (hk : k < 7) {w q : Int32} (h0 : ¬ (inb w 0 2 = true ∧ inb q 0 3 = true) → Q 0 S) (h1 : ∀ x y, x ≤ 2 → y ≤ 3 → w = nI x → q = nI y → Q 1 S) : sh_Ci g mX6_isHook [sh_R (6, k, 0), sh_I w, sh_I q] S sz Q := by
  refine wp_X6_isHook (ok6 hk) (wc (fun c => h0 (ff_h (inb_f1 c))) (fun c => wc (fun c2 => h0 (ff_h (inb_f2 fun z => absurd (Int32.le_trans c2 z) (by decide)))) (fun c2 => wc (fun c3 => h0 (ff_t (inb_f1 c3))) (fun c3 => wc (fun c4 => h0 (ff_t (inb_f2 fun z => absurd (Int32.le_trans c4 z) (by decide)))) (fun c4 => ?_)))))
  obtain ⟨x, hx, rfl⟩ := nI_ex (n := 3) (by omega) (Int32.not_lt.mp c) (Int32.not_le.mp c2)
  obtain ⟨y, hy, rfl⟩ := nI_ex (n := 4) (by omega) (Int32.not_lt.mp c3) (Int32.not_le.mp c4)
  exact h1 x y (by omega) (by omega) rfl rfl
theorem hook_eq (R : sh_RS k P S0 S) {t x y : Nat} (ht : t < 20) (hx : x ≤ 2) (hy : y ≤ 3) : (S (7, k, t) 10 = nI x ∧ S (7, k, t) 11 = nI y) ↔ pt P t 8 = nI (10 * x + y) := by
  have he : sh_tr P t 8 = pt P t 8 := rfl
  rcases (R.tol ht).2.1 with ⟨h1, h2⟩ | ⟨w, q, hw, hq, h1, h2, h3⟩
  · rw [he] at h2
    rw [h1, h2]
    exact ⟨fun z => absurd z.1.symm (nI_neg1 (by omega)), fun z => absurd z.symm (nI_neg1 (by omega))⟩
  · rw [he] at h3
    rw [h1, h2, h3, nI_eq (by omega) (by omega), nI_eq (by omega) (by omega), nI_eq (by omega) (by omega)]
    omega
theorem k_hangsOn (hk : k < 7) (R : sh_RS k P S0 S) {t x y : Nat} (ht : t < 20) (hx : x ≤ 2) (hy : y ≤ 3) (h : Q (bI (decide (pt P t 8 = nI (10 * x + y)))) S) : sh_Ci g mX7_hangsOn [sh_R (7, k, t), sh_I (nI x), sh_I (nI y)] S sz Q := by
  have he := hook_eq R ht hx hy
  refine wp_X7_hangsOn (ok7 hk ht) ⟨fun c => ?_, fun c => ⟨fun c2 => ?_, fun c2 => ?_⟩⟩
  · rwa [decide_eq_false fun z => c (he.mpr z).1] at h
  · rwa [decide_eq_false fun z => c2 (he.mpr z).2] at h
  · rwa [decide_eq_true (he.mp ⟨c, c2⟩)] at h
theorem k_toolOnHook (hk : k < 7) (R : sh_RS k P S0 S) (B : sh_B P) {w q : Int32} (h : Q (q_hookAt P w q) S) : sh_Ci g mX6_toolOnHook [sh_R (6, k, 0), sh_I w, sh_I q] S sz Q := by
  unfold q_hookAt at h
  have hl := B.tl
  refine wp_X6_toolOnHook (ok6 hk) (k_isHook hk (fun z => wt' rfl ?_) (fun x y hx hy ew eq => wf' (by decide) ?_))
  · rwa [if_neg z] at h
  · subst ew; subst eq
    rw [if_pos ⟨decide_eq_true ⟨nI_pos' (by omega), nI_le (b := 2) hx (by omega)⟩, decide_eq_true ⟨nI_pos' (by omega), nI_le (b := 3) hy (by omega)⟩⟩, show (10 : Int32) * nI x = nI (10 * x) from pk_mul 10 x, nI_add] at h
    refine ⟨fun i S' => ∃ j, j ≤ nT P ∧ i = nI j ∧ S = S' ∧ ∀ q, q < j → decide (pt P q 8 = nI (10 * x + y)) = false, fun i _ => nT P - i.toNatClampNeg, ⟨0, by omega, rfl, rfl, fun q hq => by omega⟩, ?_⟩
    rintro _ _ ⟨j, hj, rfl, rfl, hb⟩
    rw [R.add, B.t]
    refine wc (fun c => ?_) (fun c => ?_)
    · obtain rfl := lp_end hj (by omega) c
      rw [sh_hk, fnd_n hb] at h
      exact h
    · have hlt := lp_go (by omega) hj c
      have hmu := mu_lt (N := nT P) hlt (by omega)
      refine k_hasTool hk R B ?_
      rw [B.tB_i hlt]
      refine wf (by decide) ⟨vp_in_nI (by omega) (by omega), ?_⟩
      rw [nI_clamp (by omega)]
      refine k_hangsOn hk R (by omega) hx hy (wb (fun c2 => ?_) (fun c2 => ?_))
      · rintro _ rfl; rw [nI_1 j]
        exact ⟨⟨j + 1, hlt, rfl, rfl, all_succ hb c2⟩, hmu⟩
      · rw [sh_hk, fnd_s hlt c2 hb] at h
        exact h
theorem k_countTaken (hk : k < 7) (R : sh_RS k P S0 S) (B : sh_B P) (hh : i_hk P) {w : Nat} (hw : w ≤ 2) (h : Q (nI (sh_cnt (sh_ow P w) 4)) S) : sh_Ci g mX6_countTaken [sh_R (6, k, 0), sh_I (nI w)] S sz Q := by
  have hl := B.tl
  generalize hf : (fun t => decide (S (7, k, t) 10 = nI w)) = f
  have hfe : ∀ t, f t = decide (S (7, k, t) 10 = nI w) := fun t => by rw [← hf]
  have hcnt : sh_cnt f (nT P) = sh_cnt (sh_ow P w) 4 := by
    refine wall_cnt B hh (fun t ht => ?_) hw (fun t ht => ?_)
    · rcases (R.tol (t := t) (by omega)).2.1 with ⟨h1, h2⟩ | ⟨w', q, hw', hq, h1, h2, h3⟩
      · exact .inl h2
      · exact .inr ⟨w', q, hw', hq, h3⟩
    · rw [hfe, decide_eq_true_iff]
      have he : sh_tr P t 8 = pt P t 8 := rfl
      rcases (R.tol (t := t) (by omega)).2.1 with ⟨h1, h2⟩ | ⟨w', q, hw', hq, h1, h2, h3⟩
      · rw [he] at h2
        rw [h1, h2]
        exact ⟨fun z => absurd z.symm (nI_neg1 (by omega)), fun ⟨y, hy, z⟩ => absurd z.symm (nI_neg1 (by omega))⟩
      · rw [he] at h3
        rw [h1, h3, nI_eq (by omega) (by omega)]
        refine ⟨fun z => ⟨q, hq, by rw [z]⟩, fun ⟨y, hy, z⟩ => ?_⟩
        have := (nI_eq (by omega) (by omega)).mp z
        omega
  rw [← hcnt] at h
  refine wp_X6_countTaken (ok6 hk) ⟨fun v i S' => ∃ j, j ≤ nT P ∧ i = nI j ∧ v = nI (sh_cnt f j) ∧ S = S', fun _ i _ => nT P - i.toNatClampNeg, ⟨0, by omega, rfl, rfl, rfl⟩, ?_⟩
  rintro _ _ _ ⟨j, hj, rfl, rfl, rfl⟩
  rw [R.add, B.t]
  refine wc (fun c => ?_) (fun c => ?_)
  · obtain rfl := lp_end hj (by omega) c
    exact h
  · have hlt := lp_go (by omega) hj c
    have hmu := mu_lt (N := nT P) hlt (by omega)
    refine k_hasTool hk R B ?_
    rw [B.tB_i hlt]
    refine wf (by decide) ⟨vp_in_nI (by omega) (by omega), ?_⟩
    rw [nI_clamp (by omega)]
    refine ⟨fun c2 => ?_, fun c2 => ?_⟩
    · rintro _ rfl; rw [nI_1 j]
      exact ⟨⟨j + 1, hlt, rfl, by rw [cnt_f (by rw [hfe]; exact decide_eq_false c2)], rfl⟩, hmu⟩
    · rintro _ rfl _ rfl; rw [nI_1 j, nI_1]
      exact ⟨⟨j + 1, hlt, rfl, by rw [cnt_t (by rw [hfe]; exact decide_eq_true c2)], rfl⟩, hmu⟩
theorem hung_neg (R : sh_RS k P S0 S) {t : Nat} (ht : t < 20) : S (7, k, t) 10 = -1 ↔ pt P t 8 < 0 := by
  have he : sh_tr P t 8 = pt P t 8 := rfl
  rcases (R.tol ht).2.1 with ⟨h1, h2⟩ | ⟨w, q, hw, hq, h1, h2, h3⟩
  · rw [he] at h2
    rw [h1, h2]
    exact ⟨fun _ => by decide, fun _ => rfl⟩
  · rw [he] at h3
    rw [h1, h3]
    exact ⟨fun z => absurd z (nI_neg1 (by omega)), fun z => absurd z (nI_pos (by omega))⟩
theorem hk_hang (I : sh_IP P b) {t v : Nat} (ht : t < nT P) (hv : v < 2 ^ 31) (hf : sh_hk P (nI v) < 0) : i_hk (f_hang P t (nI v)) := by
  have hl := I.tl20
  have hn : ¬ ∃ u, u < nT P ∧ pt P u 8 = nI v := (hk_neg I.B).mp hf
  have e8 : ∀ u, u < 20 → pt (f_hang P t (nI v)) u 8 = if u = t then nI v else pt P u 8 := fun u hu => by
    unfold f_hang
    show sh_wt _ _ _ _ = _
    by_cases e : u = t
    · subst e
      rw [if_pos rfl, wt_at _ _ _ _ (by omega), upd_eq]
    · rw [if_neg e, wt_out (by omega)]
  intro u w hu hw huw e
  have hT : nT (f_hang P t (nI v)) = nT P := nT_wt
  rw [hT] at hu hw
  rw [e8 u (by omega), e8 w (by omega)] at e
  rw [e8 u (by omega)]
  by_cases e1 : u = t
  · rw [if_pos e1] at e
    rw [if_neg (by omega)] at e
    exact absurd ⟨w, hw, e.symm⟩ hn
  · rw [if_neg e1] at e ⊢
    by_cases e2 : w = t
    · rw [if_pos e2] at e
      exact absurd ⟨u, hu, e⟩ hn
    · rw [if_neg e2] at e
      exact I.hk u w hu hw huw e
theorem k_hangTool (hk : k < 7) (R : sh_RS k P S0 S) (I : sh_IP P b) {t w q : Int32} (h : sh_kg Q k S0 S (o_hang P t w q)) : sh_Ci g mX6_hangTool [sh_R (6, k, 0), sh_I t, sh_I w, sh_I q] S sz Q := by
  unfold o_hang at h
  have htl := I.tl20
  refine wp_X6_hangTool (ok6 hk) (k_hasTool hk R I.B (wb (fun c => ?_) (fun c => k_isHook hk (fun z => wt' rfl ?_) (fun x y hx hy ew eq => wf' (by decide) ?_))))
  · rw [if_neg (ff_h c)] at h
    exact h.1 (show (-1000001 : Int32) < 0 by decide)
  · rw [if_neg (fun y => z y.2)] at h
    exact h.1 (show (-1000001 : Int32) < 0 by decide)
  · subst ew; subst eq
    have hi2 : inb (nI x) 0 2 = true := decide_eq_true ⟨nI_pos' (by omega), nI_le (b := 2) hx (by omega)⟩
    have hi3 : inb (nI y) 0 3 = true := decide_eq_true ⟨nI_pos' (by omega), nI_le (b := 3) hy (by omega)⟩
    rw [if_pos ⟨c, hi2, hi3⟩, show (10 : Int32) * nI x = nI (10 * x) from pk_mul 10 x, nI_add] at h
    obtain ⟨i, hi, rfl⟩ := I.B.tB_t c
    rw [nI_clamp (n := i) (by omega), nI_clamp (n := x) (by omega)] at h
    refine ⟨vp_in_nI (by omega) (by omega), ?_⟩
    rw [nI_clamp (by omega), R.place (by omega), R.kind (by omega), hung_neg R (by omega)]
    have hno : ¬ (pt P i 3 = 0 ∧ pt P i 8 < 0 ∧ sh_hk P (nI (10 * x + y)) < 0 ∧ (nI x = 2 ∨ pt P i 0 = nI x)) → Q (-1000002) S := fun z => by
      rw [if_neg z] at h
      exact h.1 (show (-1000002 : Int32) < 0 by decide)
    have hq : q_hookAt P (nI x) (nI y) = sh_hk P (nI (10 * x + y)) := by
      unfold q_hookAt
      rw [if_pos ⟨hi2, hi3⟩, show (10 : Int32) * nI x = nI (10 * x) from pk_mul 10 x, nI_add]
    have hend : (nI x = 2 ∨ pt P i 0 = nI x) → pt P i 3 = 0 → pt P i 8 < 0 → sh_hk P (nI (10 * x + y)) < 0 → ∀ S15 : sh_S, S15 = sh_sr S (7, k, i) (upd (S (7, k, i)) 10 (nI x)) → ∀ S16 : sh_S, S16 = sh_sr S15 (7, k, i) (upd (S15 (7, k, i)) 11 (nI y)) → sh_Ci g mX6_countTaken [sh_R (6, k, 0), sh_I (nI x)] S16 sz (fun r18 S17 => Q r18 S17) := fun z1 z2 z3 z4 => by
      rintro _ rfl _ rfl
      rw [if_pos ⟨z2, z3, z4, z1⟩] at h
      simp only [sr_sr, sh_sr_s]
      have R1 : sh_RS k (f_hang P i (nI (10 * x + y))) S0 (sh_sr S (7, k, i) (upd (upd (S (7, k, i)) 10 (nI x)) 11 (nI y))) := by
        refine rs_tool R (by omega) (fun o h1 h2 h3 h4 h5 => sr_o h1) ?_
        rw [sh_sr_s, sr_o (ne_k (by omega)), sr_o (ne_k (by omega)), sr_o (ne_k (by omega))]
        obtain ⟨⟨e0, e1, e2, e3, e4, e5, e6, e7, e8, e9⟩, hh, hs', hq'⟩ := R.tol (t := i) (by omega)
        refine r_tool_mk (R.tol (by omega)) ⟨by simp [upd, e0], by simp [upd, e1], by simp [upd, e2], by simp [upd, e3], by simp [upd, e4], by simp [upd, e5], by simp [upd, e6], by simp [upd, e7], by simp [upd, e8], by simp [upd, e9]⟩ (.inr ⟨x, y, hx, hy, by simp [upd], by simp [upd], by simp [upd]⟩) fun w h1 h2 => upd_ne (by omega)
      exact k_countTaken hk R1 (B_wt I.B _ _) (hk_hang I hi (by omega) z4) hx (kg_pos h (nI_pos (Nat.lt_of_le_of_lt (cnt_le _ 4) (by decide))) _ R1)
    refine ⟨fun e => ?_, fun e => ⟨fun e2 => ?_, fun e2 => ?_⟩⟩
    · refine ⟨fun z => hno fun y => z y.1, fun z1 => ⟨fun z => hno fun y => z y.2.1, fun z2 => k_toolOnHook hk R I.B ?_⟩⟩
      rw [hq]
      exact ⟨fun z => hno fun y => Int32.not_le.mpr y.2.2.1 z, fun z => hend (.inl e) z1 z2 (Int32.not_le.mp z)⟩
    · have hn : ¬ (nI x = 2 ∨ pt P i 0 = nI x) := fun z => z.elim e fun z => e2 z.symm
      refine ⟨fun z => hno fun y => z y.1, fun z1 => ⟨fun z => hno fun y => z y.2.1, fun z2 => k_toolOnHook hk R I.B ?_⟩⟩
      exact ⟨fun z => hno fun y => hn y.2.2.2, fun z => hno fun y => hn y.2.2.2⟩
    · refine ⟨fun z => hno fun y => z y.1, fun z1 => ⟨fun z => hno fun y => z y.2.1, fun z2 => k_toolOnHook hk R I.B ?_⟩⟩
      rw [hq]
      exact ⟨fun z => hno fun y => Int32.not_le.mpr y.2.2.1 z, fun z => hend (.inr e2.symm) z1 z2 (Int32.not_le.mp z)⟩
theorem k_tell (hk : k < 7) (R : sh_RS k P S0 S) (I : sh_IP P b) {t : Nat} (ht : t < nT P) {w : Int32} (h : Q (q_toolOf P (nI t) w) S) : sh_Ci g mX7_tell [sh_R (7, k, t), sh_I w] S sz Q := by
  unfold q_toolOf at h
  have htl := I.tl20
  have hv := (I.G2 t ht).1
  obtain ⟨p, hp, ep⟩ := (I.tl t ht).1.2.2.2.1
  have ep : pt P t 3 = nI p := ep
  rw [nI_clamp (by omega)] at h
  have L : ∀ x : Nat, x ≤ 3 ∨ x = 7 → w = nI x → Q (pt P t x) S := fun x hx e => by
    subst e
    have e45 : ¬ (inb (nI x) 4 5 = true) := fun z => by
      have z := of_decide_eq_true z
      have h1 := (nI_leI (a := 4) (b := x) (by omega) (by omega)).mp z.1
      have h2 := (nI_leI (a := x) (b := 5) (by omega) (by omega)).mp z.2
      omega
    have e8 : ¬ nI x = 8 := fun z => by have := (nI_eq (b := 8) (by omega) (by omega)).mp z; omega
    have e6 : ¬ nI x = 6 := fun z => by have := (nI_eq (b := 6) (by omega) (by omega)).mp z; omega
    rw [if_pos ⟨I.B.tB_i ht, decide_eq_true ⟨nI_pos' (by omega), nI_le (b := 8) (by omega) (by omega)⟩⟩, if_neg (fun z => z.elim (fun z => e45 z.1) (fun z => e8 z.1)), if_neg e6, nI_clamp (by omega)] at h
    exact h
  have L45 : ∀ x : Nat, x = 4 ∨ x = 5 → w = nI x → (inb (pt P t 3) 1 3 = false → Q (-1000004) S) ∧ (inb (pt P t 3) 1 3 = true → Q (pt P t x) S) := fun x hx e => by
    subst e
    have e45 : inb (nI x) 4 5 = true := decide_eq_true ⟨nI_le (a := 4) (by omega) (by omega), nI_le (b := 5) (by omega) (by omega)⟩
    have e8 : ¬ nI x = 8 := fun z => by have := (nI_eq (b := 8) (by omega) (by omega)).mp z; omega
    have e6 : ¬ nI x = 6 := fun z => by have := (nI_eq (b := 6) (by omega) (by omega)).mp z; omega
    rw [if_pos ⟨I.B.tB_i ht, decide_eq_true ⟨nI_pos' (by omega), nI_le (b := 8) (by omega) (by omega)⟩⟩] at h
    refine ⟨fun z => ?_, fun z => ?_⟩
    · rwa [if_pos (.inl ⟨e45, z⟩)] at h
    · rw [if_neg (fun y => y.elim (fun y => by rw [z] at y; exact Bool.noConfusion y.2) (fun y => e8 y.1)), if_neg e6, nI_clamp (by omega)] at h
      exact h
  have L6 : w = 6 → sh_Ci g mX8_thousandths [sh_F ((S (7, k, t) 3).toUInt32)] S sz (fun r12 S11 => Q r12 S11) := fun e => by
    subst e
    rw [if_pos ⟨I.B.tB_i ht, by decide⟩, if_neg (fun z => z.elim (fun z => absurd z.1 (by decide)) (fun z => absurd z.1 (by decide))), if_pos rfl] at h
    rw [R.sharp (by omega)]
    exact k_thousandths hv h
  have L8 : w = 8 → ((¬ S (7, k, t) 10 = -1 → Q (10 * S (7, k, t) 10 + S (7, k, t) 11) S) ∧ (S (7, k, t) 10 = -1 → Q (-1000004) S)) := fun e => by
    subst e
    rw [if_pos ⟨I.B.tB_i ht, by decide⟩] at h
    have hng := hung_neg R (t := t) (by omega)
    refine ⟨fun z => ?_, fun z => ?_⟩
    · rw [if_neg (fun y => y.elim (fun z => absurd z.1 (by decide)) (fun y => z (hng.mpr y.2))), if_neg (by decide)] at h
      rcases (R.tol (t := t) (by omega)).2.1 with ⟨h1, h2⟩ | ⟨w, q, hw, hq, h1, h2, h3⟩
      · exact absurd h1 z
      · rw [h1, h2, show (10 : Int32) * nI w = nI (10 * w) from pk_mul 10 w, nI_add, ← h3]
        exact h
    · rwa [if_pos (.inr ⟨rfl, hng.mp z⟩)] at h
  have L9 : ¬ w = 0 → ¬ w = 1 → ¬ w = 2 → ¬ w = 3 → ¬ w = 4 → ¬ w = 5 → ¬ w = 6 → ¬ w = 7 → ¬ w = 8 → Q (-1000001) S := fun e0 e1 e2 e3 e4 e5 e6 e7 e8 => by
    have : inb w 0 8 = false := decide_eq_false fun z => by
      obtain ⟨x, hx, rfl⟩ := nI_of2 (n := 8) (M := 8) rfl (Int32.not_lt.mpr z.1) z.2
      have : x = 0 ∨ x = 1 ∨ x = 2 ∨ x = 3 ∨ x = 4 ∨ x = 5 ∨ x = 6 ∨ x = 7 ∨ x = 8 := by omega
      rcases this with rfl | rfl | rfl | rfl | rfl | rfl | rfl | rfl | rfl
      · exact e0 rfl
      · exact e1 rfl
      · exact e2 rfl
      · exact e3 rfl
      · exact e4 rfl
      · exact e5 rfl
      · exact e6 rfl
      · exact e7 rfl
      · exact e8 rfl
    rwa [if_neg (ff_t this)] at h
  have L0 := L 0 (by omega)
  have L1 := L 1 (by omega)
  have L2 := L 2 (by omega)
  have L3 := L 3 (by omega)
  have L7 := L 7 (by omega)
  have L4 := L45 4 (by omega)
  have L5 := L45 5 (by omega)
  refine wp_X7_tell (ok7 hk (by omega)) ?_
  rw [R.kind (by omega), R.value (by omega), R.wear (by omega), R.place (by omega), R.lends (by omega), R.who (by omega), R.due (by omega)]
  have hin : ∀ z : pt P t 3 = 0 ∨ pt P t 3 = 4, inb (pt P t 3) 1 3 = false := fun z => by
    rcases z with z | z <;> rw [z] <;> decide
  have hout : ¬ pt P t 3 = 0 → ¬ pt P t 3 = 4 → inb (pt P t 3) 1 3 = true := fun z0 z4 => by
    rw [ep] at z0 z4 ⊢
    have h0 : p ≠ 0 := fun y => z0 (by rw [y]; rfl)
    have h4 : p ≠ 4 := fun y => z4 (by rw [y]; rfl)
    exact decide_eq_true ⟨nI_le (a := 1) (by omega) (by omega), nI_le (b := 3) (by omega) (by omega)⟩
  exact ⟨fun z => ⟨L0, fun n0 => ⟨L1, fun n1 => ⟨L2, fun n2 => ⟨L3, fun n3 => ⟨fun e => (L4 e).1 (hin (.inl z)), fun n4 => ⟨fun e => (L5 e).1 (hin (.inl z)), fun n5 => ⟨L6, fun n6 => ⟨L7, fun n7 => ⟨L8, fun n8 => L9 n0 n1 n2 n3 n4 n5 n6 n7 n8⟩⟩⟩⟩⟩⟩⟩⟩⟩,
    fun z0 => ⟨fun z => ⟨L0, fun n0 => ⟨L1, fun n1 => ⟨L2, fun n2 => ⟨L3, fun n3 => ⟨fun e => (L4 e).1 (hin (.inr z)), fun n4 => ⟨fun e => (L5 e).1 (hin (.inr z)), fun n5 => ⟨L6, fun n6 => ⟨L7, fun n7 => ⟨L8, fun n8 => L9 n0 n1 n2 n3 n4 n5 n6 n7 n8⟩⟩⟩⟩⟩⟩⟩⟩⟩,
      fun z4 => ⟨L0, fun n0 => ⟨L1, fun n1 => ⟨L2, fun n2 => ⟨L3, fun n3 => ⟨fun e => (L4 e).2 (hout z0 z4), fun n4 => ⟨fun e => (L5 e).2 (hout z0 z4), fun n5 => ⟨L6, fun n6 => ⟨L7, fun n7 => ⟨L8, fun n8 => L9 n0 n1 n2 n3 n4 n5 n6 n7 n8⟩⟩⟩⟩⟩⟩⟩⟩⟩⟩⟩
theorem k_tellOfTool (hk : k < 7) (R : sh_RS k P S0 S) (I : sh_IP P b) {t w : Int32} (h : Q (q_toolOf P t w) S) : sh_Ci g mX6_tellOfTool [sh_R (6, k, 0), sh_I t, sh_I w] S sz Q := by
  have htl := I.tl20
  refine wp_X6_tellOfTool (ok6 hk) (k_hasTool hk R I.B (wb (fun c => ?_) (fun c => ?_)))
  · unfold q_toolOf at h
    rwa [if_neg (ff_h c)] at h
  · obtain ⟨i, hi, rfl⟩ := I.B.tB_t c
    refine ⟨vp_in_nI (by omega) (by omega), ?_⟩
    rw [nI_clamp (by omega)]
    exact k_tell hk R I hi h
theorem k_bitsOfTool (hk : k < 7) (R : sh_RS k P S0 S) (I : sh_IP P b) {t : Int32} (h : Q (q_bits P t) S) : sh_Ci g mX6_bitsOfTool [sh_R (6, k, 0), sh_I t] S sz Q := by
  unfold q_bits at h
  have htl := I.tl20
  refine wp_X6_bitsOfTool (ok6 hk) (k_hasTool hk R I.B (wb (fun c => ?_) (fun c => ?_)))
  · rwa [if_neg (by rw [c]; decide)] at h
  · obtain ⟨i, hi, rfl⟩ := I.B.tB_t c
    rw [if_pos c, nI_clamp (by omega)] at h
    refine ⟨vp_in_nI (by omega) (by omega), ?_⟩
    rw [nI_clamp (by omega), R.sharp (by omega)]
    exact k_floatBits (I.G2 i hi).1 h
theorem k_foretell (hk : k < 7) (R : sh_RS k P S0 S) (I : sh_IP P b) {t d : Int32} (h : Q (q_dullBehind P t d) S) : sh_Ci g mX6_foretellDullness [sh_R (6, k, 0), sh_I t, sh_I d] S sz Q := by
  unfold q_dullBehind at h
  have htl := I.tl20
  refine wp_X6_foretellDullness (ok6 hk) (k_hasTool hk R I.B (wb (fun c => ?_) (fun c => wc (fun c2 => ?_) (fun c2 => wc (fun c3 => ?_) (fun c3 => ?_)))))
  · rwa [if_neg (ff_h c)] at h
  · rwa [if_neg (ff_t (inb_f1 c2))] at h
  · rw [if_pos ⟨c, inb_t1 c2 c3⟩] at h
    obtain ⟨i, hi, rfl⟩ := I.B.tB_t c
    obtain ⟨x, hx, rfl⟩ := nI_of2 (n := 200) (M := 200) rfl (Int32.not_lt.mpr (Int32.le_trans (by decide) (Int32.not_lt.mp c2))) c3
    rw [nI_clamp (by omega), nI_clamp (by omega)] at h
    refine ⟨vp_in_nI (by omega) (by omega), ?_⟩
    rw [nI_clamp (by omega), R.place (by omega)]
    refine ⟨fun z => ⟨vp_in_nI (by omega) (by omega), ?_⟩, fun z => ?_⟩
    · rw [if_neg z] at h
      obtain ⟨hv, w, hw, ew⟩ := I.G2 i hi
      refine k_behind hk R I.G2 I.B hi rfl (by omega) (k_thousandths ?_ h)
      rw [show P (142 + 23 * i + 2) = nI w from ew, show (100 : Int32) - nI w = nI (100 - w) from pk_sub (a := 100) (by omega)]
      exact fS_du hv (by omega) x
    · rwa [if_pos z] at h
  · rwa [if_neg (ff_t (inb_f2 c3))] at h
theorem k_mean (hk : k < 7) (R : sh_RS k P S0 S) (I : sh_IP P b) {a : Int32} (h : Q (q_mean P a) S) : sh_Ci g mX6_meanSharpness [sh_R (6, k, 0), sh_I a] S sz Q := by
  unfold q_mean at h
  have htl := I.tl20
  refine wp_X6_meanSharpness (ok6 hk) ⟨fun c => ?g, fun c0 => ⟨fun c => ?g2, fun c => ?n⟩⟩
  case n =>
    have hf : inb a 0 1 = false := decide_eq_false fun z => by
      obtain ⟨x, hx, rfl⟩ := nI_of2 (n := 1) (M := 1) rfl (Int32.not_lt.mpr z.1) z.2
      have e0 : x ≠ 0 := fun w => c0 (by rw [w]; rfl)
      exact c (by rw [show x = 1 by omega]; rfl)
    rwa [if_neg (by rw [hf]; decide)] at h
  all_goals
    have hi : inb a 0 1 = true := by rw [c]; decide
    rw [if_pos hi] at h
    rintro _ rfl
    refine ⟨fun v n i S' => ∃ t, t ≤ nT P ∧ i = nI t ∧ n = nI (sh_cnt (sh_mt P a) t) ∧ v = sh_ms2 P a t ∧ S = S', fun _ _ i _ => nT P - i.toNatClampNeg, ⟨0, by omega, rfl, rfl, rfl, rfl⟩, ?_⟩
    rintro _ _ _ _ ⟨t, ht, rfl, rfl, rfl, rfl⟩
    rw [R.add, I.B.t]
    have hcl := cnt_le (sh_mt P a) (nT P)
    refine wc (fun c => ?_) (fun c => ?_)
    · obtain rfl := lp_end ht (by omega) c
      refine ⟨fun z => ?_, fun z => ?_⟩
      · have hne : ¬ sh_cnt (sh_mt P a) (nT P) = 0 := fun w => z (by rw [w]; rfl)
        rw [if_neg hne] at h
        obtain ⟨k1, k2⟩ := eV_mean (ms_eV I.G2 (k := a) (nT P) (by omega) htl) (k := sh_cnt (sh_mt P a) (nT P)) (by omega) (by omega)
        refine ⟨k1, ?_⟩
        rintro _ rfl
        refine ⟨k2, ?_⟩
        rintro _ rfl
        exact h
      · rwa [if_pos ((nI_eq (b := 0) (by omega) (by omega)).mp z)] at h
    · have hlt := lp_go (by omega) ht c
      have hmu := mu_lt (N := nT P) hlt (by omega)
      have hst : sh_ms2 P a (t + 1) = if sh_mt P a t = true then FP.dadd (sh_ms2 P a t) (FP.f2d (sh_sp P t)) else sh_ms2 P a t := rfl
      have hskip : sh_mt P a t = false → ∀ y : Int32, y = nI t + 1 → ((∃ t', t' ≤ nT P ∧ y = nI t' ∧ nI (sh_cnt (sh_mt P a) t) = nI (sh_cnt (sh_mt P a) t') ∧ sh_ms2 P a t = sh_ms2 P a t' ∧ S = S) ∧ nT P - y.toNatClampNeg < nT P - (nI t).toNatClampNeg) := fun w => by
        rintro _ rfl
        rw [nI_1 t]
        rw [if_neg (by rw [w]; decide)] at hst
        exact ⟨⟨t + 1, hlt, rfl, by rw [cnt_f w], by rw [hst], rfl⟩, hmu⟩
      refine k_hasTool hk R I.B ?_
      rw [I.B.tB_i hlt]
      refine wf (by decide) ⟨vp_in_nI (by omega) (by omega), ?_⟩
      rw [nI_clamp (by omega), R.kind (by omega), R.place (by omega), R.sharp (by omega)]
      refine ⟨fun z => hskip (decide_eq_false fun w => z w.1), fun z1 => ⟨vp_in_nI (by omega) (by omega), fun z => hskip (decide_eq_false fun w => z w.2), fun z2 => ⟨vp_in_nI (by omega) (by omega), eV_nn (eV_f (by omega) (I.G2 t hlt).1), eV_nn (eV_add (by omega) (ms_eV I.G2 t (by omega) htl) (eV_f (by omega) (I.G2 t hlt).1)), ?_⟩⟩⟩
      rintro _ rfl _ rfl _ rfl
      have hm : sh_mt P a t = true := decide_eq_true ⟨z1, z2⟩
      rw [if_pos hm] at hst
      rw [nI_1 t, nI_1]
      exact ⟨⟨t + 1, hlt, rfl, by rw [cnt_t hm], by rw [hst]; rfl, rfl⟩, hmu⟩
end CTOOL4
