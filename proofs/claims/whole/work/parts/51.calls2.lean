/-! undo, texts, faults, plays -/
section CALLS2
variable {g : sh_G} {S : sh_S} {sz b : Nat} {Q : Int32 → sh_S → Prop} {U : sh_S → Prop}
theorem ne_ow {k : Nat} {o q : sh_O} (ho : sh_own k o = true) (hq : sh_own k q = false) : o ≠ q := fun e => by rw [e, hq] at ho; exact Bool.noConfusion ho
theorem L_undo (G : sh_GR b S) : sh_Ci g mX8_undo [sh_R (8, 0, 0)] S sz (fun r1 S1 => sh_Ci g mX9_undo [sh_R (9, 0, 0)] S1 sz (sh_eq (b + 2000000) r1)) := by
  have G2 := GR_mono (b' := b + 2000000) (by omega) G
  obtain ⟨n, σ, c, ln, P, H, ⟨hn, I, IH, K⟩, hC, hM⟩ := G
  obtain ⟨c1, c2, c3, c4, c5, c6⟩ := hC
  obtain ⟨m1, m2, m3, m4⟩ := hM
  refine wp_X8_undo (wp_X0_restore (ok6 (by decide)) ?_)
  rw [c1]
  refine wc (fun z => ?_) (fun z => ?_)
  · have z := (nI_ltI (b := 1) (by omega) (by omega)).mp z
    obtain rfl : n = 0 := by omega
    refine wp_X9_undo ?_
    rw [m1]
    exact ⟨fun y => absurd rfl y, fun _ => ⟨rfl, G2⟩⟩
  · have z : 1 ≤ n := Nat.le_of_not_lt fun y => z (nI_lt (b := 1) y (by omega))
    refine wt (nI_le (b := 4) hn (by omega)) ?_
    rw [show nI n - 1 = nI (n - 1) from pk_sub (b := 1) z]
    rintro _ rfl
    have hb := c3.1 (n - 1) (by omega)
    rw [sh_sr_s, upd_eq, nI_clamp (by omega), sr_o (by decide), c2 (n - 1) (by omega), nI_clamp (by omega)]
    refine ⟨vp_in_nI (by omega) (by omega), hb.2, ?_⟩
    have hne : ∀ k o, sh_own k o = true → sh_sr S (0, 0, 0) (upd (S (0, 0, 0)) 1 (nI (n - 1))) o = S o := fun k o ho => sr_o (ne_ow ho own0)
    refine k_copyShed (by decide) hb.2 (by omega) (RS_agree (c5 (n - 1) (by omega)) (hne _)) fun S6 R6 => ?_
    have e0 : S6 (0, 0, 0) = upd (S (0, 0, 0)) 1 (nI (n - 1)) := (R6.1 _ own0).trans sh_sr_s
    have eo : ∀ o : sh_O, sh_own 0 o = false → o ≠ (0, 0, 0) → S6 o = S o := fun o h1 h2 => (R6.1 _ h1).trans (sr_o h2)
    have em : ∀ o : sh_O, (o.1 = 9 ∨ 16 ≤ o.1) → S6 o = S o := fun o h => eo o (own_m h) fun e => by subst e; exact absurd h (by decide)
    rw [e0, upd_eq]
    refine wp_X9_undo ?_
    rw [em (9, 0, 0) (.inl rfl), m1]
    refine wf' (fun y => by have := (nI_eq (b := 0) (by omega) (by omega)).mp y; omega) ?_
    rw [show nI n - 1 = nI (n - 1) from pk_sub (b := 1) z]
    rintro _ rfl
    rw [sh_sr_s, upd_eq, show (602 : Int32) * nI (n - 1) = nI (602 * (n - 1)) from pk_mul 602 _]
    refine c_bring (n1 := 2408) (n3 := 602) (a := 602 * (n - 1)) (b := 0) (by decide) (fun _ => rfl) (by decide) (fun _ => rfl) (by decide) rfl rfl (by omega) (by omega) (by omega) (by omega) ?_
    rw [sr_o (o := (19, 0, 0)) (q := (9, 0, 0)) (by decide), sh_sr_s, upd_eq]
    refine ⟨rfl, n - 1, σ, c, ln, va_cpy (S (22, 0, 0)) (S (19, 0, 0)) (602 * (n - 1)) 0 602, H, ?_, ?_, ?_⟩
    · refine ⟨by omega, IP_mono (IP_pc (P := H (n - 1)) (fun w hw => ?_) (IH (n - 1) (by omega))) (by omega), fun j hj => IP_mono (IH j (by omega)) (by omega), K⟩
      unfold va_cpy
      rw [if_pos (by omega), Nat.sub_zero]
      exact m3 (n - 1) (by omega) w hw
    · have hc : ∀ o : sh_O, o ≠ (9, 0, 0) → o ≠ (19, 0, 0) → ∀ X Y, sh_sr (sh_sr S6 (9, 0, 0) X) (19, 0, 0) Y o = S6 o := fun o h1 h2 X Y => by rw [sr_o h2, sr_o h1]
      refine ⟨?_, fun j hj => ?_, c3, ?_, fun j hj => ?_, ?_, fun j hj => ?_⟩
      · rw [hc _ (by decide) (by decide), e0, upd_eq]
      · rw [hc _ (by decide) (by decide), eo _ own17 (by decide)]; exact c2 j hj
      · refine RS_pc (P := H (n - 1)) (fun w hw => ?_) (RS_agree (RS_refl R6) fun o ho => hc o (ne_ow ho (own_m (.inl rfl))) (ne_ow ho (own_m (.inr (by decide)))) _ _)
        unfold va_cpy
        rw [if_pos (by omega), Nat.sub_zero]
        exact m3 (n - 1) (by omega) w hw
      · have := c3.1 j (by omega)
        refine RS_agree (c5 j (by omega)) fun o ho => ?_
        rw [hc o (ne_ow ho (own_m (.inl rfl))) (ne_ow ho (own_m (.inr (by decide))))]
        exact eo o (own_u ho (by omega)) (ne_ow ho own0)
      · rw [hc _ (by decide) (by decide), eo _ own3 (by decide)]; exact c6.1
      · rw [hc _ (by decide) (by decide), eo _ o18 (by decide)]; exact c6.2 j hj
    · refine ⟨?_, ?_, fun j hj w hw => ?_, ?_, fun j hj => ?_⟩
      · rw [sr_o (by decide), sh_sr_s, upd_eq]
      · rw [sh_sr_s, sr_o (by decide), sr_o (by decide), em _ (.inr (by decide)), em _ (.inr (by decide))]
      · rw [sr_o (by decide), sr_o (by decide), em _ (.inr (by decide))]; exact m3 j (by omega) w hw
      · rw [sr_o (by decide), sh_sr_s, upd_ne (by omega)]; exact m4.1
      · rw [sr_o (by decide), sr_o (by decide), em _ (.inr (by decide))]; exact m4.2 j hj
theorem L_clearText (G : sh_GR b S) : sh_Ci g mX8_clearText [sh_R (8, 0, 0)] S sz (fun r1 S1 => sh_Ci g mX9_clearText [sh_R (9, 0, 0)] S1 sz (sh_eq (b + 2000000) r1)) := by
  obtain ⟨n, σ, c, ln, P, H, ⟨hn, I, IH, K⟩, hC, hM⟩ := GR_mono (b' := b + 2000000) (by omega) G
  have hC' := hC
  have hM' := hM
  obtain ⟨c1, c2, c3, c4, c5, c6⟩ := hC
  obtain ⟨m1, m2, m3, m4⟩ := hM
  refine wp_X8_clearText (wp_X3_empty ?_)
  rintro _ rfl _ rfl
  refine wp_X9_clearText ?_
  rintro _ rfl _ rfl
  rw [sr_o (o := (3, 0, 0)) (q := (9, 0, 0)) (by decide), c6.1, m4.1]
  have hc : ∀ o : sh_O, o ≠ (3, 0, 0) → o ≠ (9, 0, 0) → ∀ X Y, sh_sr (sh_sr S (3, 0, 0) X) (9, 0, 0) Y o = S o := fun o h1 h2 X Y => by rw [sr_o h2, sr_o h1]
  refine ⟨rfl, n, σ, c, 0, P, H, ⟨hn, I, IH, by omega, fun j hj => by omega⟩, ⟨?_, fun j hj => ?_, c3, ?_, fun j hj => ?_, ?_, fun j hj => by omega⟩, ?_, ?_, fun j hj w hw => ?_, ?_, fun j hj => by omega⟩
  · rw [hc _ (by decide) (by decide)]; exact c1
  · rw [hc _ (by decide) (by decide)]; exact c2 j hj
  · exact RS_agree c4 fun o ho => hc o (ne_ow ho own3) (ne_ow ho (own_m (.inl rfl))) _ _
  · exact RS_agree (c5 j hj) fun o ho => hc o (ne_ow ho own3) (ne_ow ho (own_m (.inl rfl))) _ _
  · rw [sr_o (by decide), sh_sr_s, upd_eq]; rfl
  · rw [sh_sr_s, upd_ne (by omega)]; exact m1
  · rw [hc _ (by decide) (by decide)]; exact m2
  · rw [hc _ (by decide) (by decide)]; exact m3 j hj w hw
  · rw [sh_sr_s, upd_eq]; rfl
theorem chr_n {x : Nat} (h : x ≤ 126) : ((nI x).toUInt32 % 65536).toInt32 = nI x := by
  rw [pk_char, pk_tn (by omega), Nat.mod_eq_of_lt (by omega)]
theorem L_type (G : sh_GR b S) {a : Int32} : sh_Ci g mX8_type [sh_R (8, 0, 0), sh_I a] S sz (fun r1 S1 => sh_Ci g mX9_type [sh_R (9, 0, 0), sh_I a] S1 sz (sh_eq (b + 2000000) r1)) := by
  have G2 := GR_mono (b' := b + 2000000) (by omega) G
  obtain ⟨n, σ, c, ln, P, H, ⟨hn, I, IH, K⟩, hC, hM⟩ := GR_mono (b' := b + 2000000) (by omega) G
  obtain ⟨c1, c2, c3, c4, c5, c6⟩ := hC
  obtain ⟨m1, m2, m3, m4⟩ := hM
  have hln := K.1
  have hbad : inb a 32 126 = false → sh_Ci g mX9_type [sh_R (9, 0, 0), sh_I a] S sz (sh_eq (b + 2000000) (-1000001)) := fun z =>
    wp_X9_type (c_inb (by rw [z]; exact wt' rfl ⟨rfl, G2⟩))
  refine wp_X8_type (wp_X3_append (wc (fun z => hbad (inb_f1 z)) (fun z => wc (fun z2 => ?_) (fun z2 => hbad (inb_f2 z2)))))
  obtain ⟨x, hx, rfl⟩ := nI_of2 (n := 126) (M := 126) rfl (Int32.not_lt.mpr (Int32.le_trans (by decide) (Int32.not_lt.mp z))) z2
  have hx1 : 32 ≤ x := (nI_leI (a := 32) (by omega) (by omega)).mp (Int32.not_lt.mp z)
  rw [c6.1]
  refine wf (nI_pos (by omega)) (wc (fun z3 => ⟨vp_in_nI (show ln < 60 from (nI_ltI (b := 60) (by omega) (by omega)).mp z3) (by omega), ?_⟩) (fun z3 => ?_))
  · have z3 : ln < 60 := (nI_ltI (b := 60) (by omega) (by omega)).mp z3
    rw [chr_n hx, nI_clamp (by omega)]
    refine ⟨nar_c x (by omega), ?_⟩
    rintro _ rfl _ rfl
    rw [sh_sr_s, upd_eq, sr_o (o := (18, 0, 0)) (q := (3, 0, 0)) (by decide), c6.1, nI_1]
    refine wp_X9_type (c_inb ?_)
    rw [inb_t1 z z2]
    refine wf' (by decide) ?_
    rw [sr_o (o := (3, 0, 0)) (q := (9, 0, 0)) (by decide), sr_o (o := (18, 0, 0)) (q := (9, 0, 0)) (by decide), m4.1]
    refine wf' (fun y => by have := (nI_eq (b := 60) (by omega) (by omega)).mp y; omega) ⟨vp_in_nI (by omega) (by omega), ?_⟩
    rw [nI_clamp (by omega)]
    rintro _ rfl _ rfl
    rw [sh_sr_s, upd_eq, sr_o (o := (23, 0, 0)) (q := (9, 0, 0)) (by decide), sr_o (o := (3, 0, 0)) (q := (9, 0, 0)) (by decide), sr_o (o := (18, 0, 0)) (q := (9, 0, 0)) (by decide), m4.1, nI_1]
    have hc : ∀ o : sh_O, o ≠ (18, 0, 0) → o ≠ (3, 0, 0) → o ≠ (23, 0, 0) → o ≠ (9, 0, 0) → ∀ X Y Z W, sh_sr (sh_sr (sh_sr (sh_sr S (18, 0, 0) X) (3, 0, 0) Y) (23, 0, 0) Z) (9, 0, 0) W o = S o := fun o h1 h2 h3 h4 X Y Z W => by rw [sr_o h4, sr_o h3, sr_o h2, sr_o h1]
    have hcc : ∀ j, j < ln + 1 → ∀ f : Nat → Int32, (∀ j, j < ln → f j = nI (c j)) → upd f ln (nI x) j = nI (if j = ln then x else c j) := fun j hj f hf => by
      by_cases e : j = ln
      · rw [e, upd_eq, if_pos rfl]
      · rw [upd_ne e, if_neg e]; exact hf j (by omega)
    refine ⟨rfl, n, σ, fun j => if j = ln then x else c j, ln + 1, P, H, ⟨hn, I, IH, by omega, fun j hj => ?_⟩, ⟨?_, fun j hj => ?_, c3, ?_, fun j hj => ?_, ?_, fun j hj => ?_⟩, ?_, ?_, fun j hj w hw => ?_, ?_, fun j hj => ?_⟩
    · by_cases e : j = ln
      · simp only [if_pos e]; omega
      · simp only [if_neg e]; exact K.2 j (by omega)
    · rw [hc _ (by decide) (by decide) (by decide) (by decide)]; exact c1
    · rw [hc _ (by decide) (by decide) (by decide) (by decide)]; exact c2 j hj
    · exact RS_agree c4 fun o ho => hc o (ne_ow ho o18) (ne_ow ho own3) (ne_ow ho (own_m (.inr (by decide)))) (ne_ow ho (own_m (.inl rfl))) _ _ _ _
    · exact RS_agree (c5 j hj) fun o ho => hc o (ne_ow ho o18) (ne_ow ho own3) (ne_ow ho (own_m (.inr (by decide)))) (ne_ow ho (own_m (.inl rfl))) _ _ _ _
    · rw [sr_o (by decide), sr_o (by decide), sh_sr_s, upd_eq]
    · rw [sr_o (by decide), sr_o (by decide), sr_o (by decide), sh_sr_s]; exact hcc j hj _ c6.2
    · rw [sh_sr_s, upd_ne (by omega)]; exact m1
    · rw [hc _ (by decide) (by decide) (by decide) (by decide)]; exact m2
    · rw [hc _ (by decide) (by decide) (by decide) (by decide)]; exact m3 j hj w hw
    · rw [sh_sr_s, upd_eq]
    · rw [sr_o (by decide), sh_sr_s, sr_o (by decide), sr_o (by decide)]; exact hcc j hj _ m4.2
  · have : ln = 60 := by
      have : ¬ ln < 60 := fun y => z3 (nI_lt (b := 60) y (by omega))
      omega
    refine wp_X9_type (c_inb ?_)
    rw [inb_t1 z z2, m4.1, this]
    exact wf' (by decide) (wt' rfl ⟨rfl, G2⟩)
theorem own19 {k : Nat} : sh_own k (19, 0, 0) = false := own_m (.inr (by decide))
theorem own9 {k : Nat} : sh_own k (9, 0, 0) = false := own_m (.inl rfl)
theorem L_fault (G : sh_GR b S) (hb : b + 2000000 ≤ sh_LIM) {w : Int32} : sh_Ci g mX8_fault [sh_R (8, 0, 0), sh_I w] S sz (fun r1 S1 => sh_Ci g mX9_fault [sh_R (9, 0, 0), sh_I w] S1 sz (sh_eq (b + 2000000) r1)) := by
  have G2 := GR_mono (b' := b + 2000000) (by omega) G
  obtain ⟨n, σ, c, ln, P, H, ⟨hn, I, IH, K⟩, hC, hM⟩ := G
  have hC' := hC
  obtain ⟨c1, c2, c3, c4, c5, c6⟩ := hC
  obtain ⟨m1, m2, m3, m4⟩ := hM
  have main : ∀ (e : w = 0 ∨ w = 1), sh_Cu g mX3_tryOn [sh_R (3, 0, 0), sh_R (6, 1, 0), sh_R (6, 0, 0)] S sz (fun S2 => ((¬ (S2 (3, 0, 0) 4) = 0 → ((¬ w = 0 → sh_Ci g mX9_fault [sh_R (9, 0, 0), sh_I w] S2 sz (sh_eq (b + 2000000) (S2 (3, 0, 0) 4))) ∧ (w = 0 → sh_Ci g mX9_fault [sh_R (9, 0, 0), sh_I w] S2 sz (sh_eq (b + 2000000) (S2 (3, 0, 0) 3))))) ∧ ((S2 (3, 0, 0) 4) = 0 → sh_Ci g mX9_fault [sh_R (9, 0, 0), sh_I w] S2 sz (sh_eq (b + 2000000) (-1000004))))) := fun e => by
    refine k_tryOn hb K c6 c4 I fun S2 ho h1 h4 h3 h5 hR => ?_
    have em : ∀ o : sh_O, (o.1 = 9 ∨ 16 ≤ o.1) → S2 o = S o := fun o h => ho o (own_m h) fun e => by subst e; exact absurd h (by decide)
    have hC2 : g_C n σ c ln P H S2 := g_C_of hC' hn (ho _ own0 (by decide)) (ho _ own17 (by decide)) h1 (ho _ o18 (by decide)) fun k o hk ho' => ho o (own_u ho' (by
      rcases hk with rfl | ⟨j, hj, rfl⟩
      · omega
      · have := c3.1 j (by omega); omega)) (ne_ow ho' own3)
    have inw : inb w 0 1 = true := by rcases e with rfl | rfl <;> decide
    have e19 : S2 (19, 0, 0) = P := (em _ (.inr (by decide))).trans m2
    -- the model's side
    have mod : ∀ r1 : Int32, ((o_run c ln 60 P 0 0).1 = 0 → r1 = -1000004) → ((o_run c ln 60 P 0 0).1 ≠ 0 → r1 = if w = 0 then nI (o_run c ln 60 P 0 0).2.1 else (o_run c ln 60 P 0 0).1) → sh_Ci g mX9_fault [sh_R (9, 0, 0), sh_I w] S2 sz (sh_eq (b + 2000000) r1) := fun r1 hr0 hr1 => by
      refine wp_X9_fault (c_inb ?_)
      rw [inw]
      refine wf' (by decide) (c_bring (n1 := 602) (n3 := 602) (a := 0) (b := 0) (by decide) (fun _ => rfl) (by decide) (fun _ => rfl) (by decide) rfl rfl (by omega) (by omega) (by omega) (by omega) ?_)
      rw [e19]
      generalize hY : va_cpy P (S2 (21, 0, 0)) 0 0 602 = Y
      have hYP : ∀ v, v < 602 → Y v = P v := fun v hv => by rw [← hY, cpy_lt hv]
      have e1 : sh_sr S2 (21, 0, 0) Y = sh_mp (sh_sr S2 (21, 0, 0) Y) P := by
        have := mp_self (sh_sr S2 (21, 0, 0) Y)
        rw [sr_o (o := (21, 0, 0)) (q := (19, 0, 0)) (by decide), e19] at this
        exact this.symm
      rw [e1]
      have T2 : tx_m c ln (sh_sr S2 (21, 0, 0) Y) := ⟨by rw [sr_o (by decide), em _ (.inl rfl)]; exact m4.1, fun j hj => by rw [sr_o (by decide), em _ (.inr (by decide))]; exact m4.2 j hj⟩
      have fin : ∀ (r : Nat → Int32) (P' : Nat → Int32), sh_fr (sh_sr S2 (21, 0, 0) Y (9, 0, 0)) r → sh_GR (b + 2000000) (sh_sr (sh_mp (sh_sr (sh_sr S2 (21, 0, 0) Y) (9, 0, 0) r) P') (19, 0, 0) (va_cpy (sh_mp (sh_sr (sh_sr S2 (21, 0, 0) Y) (9, 0, 0) r) P' (21, 0, 0)) (sh_mp (sh_sr (sh_sr S2 (21, 0, 0) Y) (9, 0, 0) r) P' (19, 0, 0)) 0 0 602)) := fun r P' hfr => by
        rw [mp_o (o := (21, 0, 0)) (by decide), sr_o (o := (9, 0, 0)) (q := (21, 0, 0)) (by decide), sh_sr_s, mp_p, mp_sr]
        rw [sr_o (o := (21, 0, 0)) (q := (9, 0, 0)) (by decide)] at hfr
        have hZ : ∀ v, v < 602 → va_cpy Y P' 0 0 602 v = P v := fun v hv => (cpy_lt hv).trans (hYP v hv)
        generalize va_cpy Y P' 0 0 602 = Z at hZ ⊢
        have hc : ∀ o : sh_O, o ≠ (19, 0, 0) → o ≠ (9, 0, 0) → o ≠ (21, 0, 0) → sh_mp (sh_sr (sh_sr S2 (21, 0, 0) Y) (9, 0, 0) r) Z o = S2 o := fun o h1 h2 h3 => by rw [mp_o h1, sr_o h2, sr_o h3]
        obtain ⟨d1, d2, d3, d4, d5, d6⟩ := hC2
        refine ⟨n, σ, c, ln, Z, H, ⟨hn, IP_mono (IP_pc hZ I) (by omega), fun j hj => IP_mono (IH j hj) (by omega), K⟩, ⟨?_, fun j hj => ?_, c3, ?_, fun j hj => ?_, ?_, fun j hj => ?_⟩, ?_, mp_p _ _, fun j hj w hw => ?_, ?_, fun j hj => ?_⟩
        · rw [hc _ (by decide) (by decide) (by decide)]; exact d1
        · rw [hc _ (by decide) (by decide) (by decide)]; exact d2 j hj
        · exact RS_pc hZ (RS_agree d4 fun o ho => hc o (ne_ow ho own19) (ne_ow ho own9) (ne_ow ho (own_m (.inr (by decide)))))
        · exact RS_agree (d5 j hj) fun o ho => hc o (ne_ow ho own19) (ne_ow ho own9) (ne_ow ho (own_m (.inr (by decide))))
        · rw [hc _ (by decide) (by decide) (by decide)]; exact d6.1
        · rw [hc _ (by decide) (by decide) (by decide)]; exact d6.2 j hj
        · rw [mp_o (by decide), sh_sr_s, hfr 4 (by omega), em _ (.inl rfl)]; exact m1
        · rw [hc _ (by decide) (by decide) (by decide), em _ (.inr (by decide))]; exact m3 j hj w hw
        · rw [mp_o (by decide), sh_sr_s, hfr 6 (by omega), em _ (.inl rfl)]; exact m4.1
        · rw [hc _ (by decide) (by decide) (by decide), em _ (.inr (by decide))]; exact m4.2 j hj
      refine c_runs hb K T2 I (fun hz r hfr _ => ?_) (fun hz r P' hfr h13 hpos => ?_)
      · refine c_bring (n1 := 602) (n3 := 602) (a := 0) (b := 0) (by decide) (fun _ => rfl) (by decide) (fun _ => rfl) (by decide) rfl rfl (by omega) (by omega) (by omega) (by omega) ?_
        exact wt (by decide) ⟨hr0 hz, fin r _ hfr⟩
      · refine c_bring (n1 := 602) (n3 := 602) (a := 0) (b := 0) (by decide) (fun _ => rfl) (by decide) (fun _ => rfl) (by decide) rfl rfl (by omega) (by omega) (by omega) (by omega) ?_
        refine wf (nI_pos (by omega)) ⟨fun y => ⟨?_, fin r _ hfr⟩, fun y => ⟨?_, fin r _ hfr⟩⟩
        · rw [hr1 hz, if_neg y, mp_sr, mp_o (by decide), sh_sr_s]; exact h13.symm
        · rw [hr1 hz, if_pos y]
    rw [h4]
    refine ⟨fun hz => ⟨fun y => mod _ (fun h => absurd h hz) (fun _ => by rw [if_neg y]), fun y => mod _ (fun h => absurd h hz) (fun _ => by rw [if_pos y]; exact h3 hz)⟩, fun hz => mod _ (fun _ => rfl) (fun h => absurd hz h)⟩
  refine wp_X8_fault ⟨fun e => main (.inl e), fun e => ⟨fun e2 => main (.inr e2), fun e2 => ?_⟩⟩
  have inw : inb w 0 1 = false := decide_eq_false fun z => by
    obtain ⟨x, hx, rfl⟩ := nI_of2 (n := 1) (M := 1) rfl (Int32.not_lt.mpr z.1) z.2
    have : x = 0 ∨ x = 1 := by omega
    rcases this with rfl | rfl
    · exact e rfl
    · exact e2 rfl
  exact wp_X9_fault (c_inb (by rw [inw]; exact wt' rfl ⟨rfl, G2⟩))
end CALLS2
