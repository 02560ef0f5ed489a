theorem run_cnt {c : Nat → Nat} {n : Nat} : ∀ (fu : Nat) (P : Nat → Int32) (p k : Nat), (o_run c n fu P p k).2.2.1 ≤ k + fu
  | 0, P, p, k => Nat.le_refl _
  | fu + 1, P, p, k => by
    unfold o_run
    split
    · exact Nat.le_add_right _ _
    · split
      · exact Nat.le_add_right _ _
      · split
        · exact Nat.le_trans (run_cnt fu _ _ _) (by omega)
        · exact Nat.le_add_right _ _
section PLAY
variable {g : sh_G} {S : sh_S} {sz b : Nat} {Q : Int32 → sh_S → Prop} {U : sh_S → Prop}
theorem GR_fin {n ln b' : Nat} {σ c : Nat → Nat} {P X : Nat → Int32} {H : Nat → Nat → Int32} {T : sh_S} (hn : n ≤ 4) (K : tx_k c ln) (c3 : g_s σ) (I : sh_IP P b') (IH : ∀ j, j < n → sh_IP (H j) b') (IX : sh_IP X b') (t0 : T (0, 0, 0) 1 = nI (if n = 4 then 4 else n + 1)) (t17 : ∀ j, j < 5 → T (17, 0, 0) j = nI (if n = 4 then σ ((j + 1) % 5) else σ j)) (RX : sh_RS 0 X T T) (RN : sh_RS (σ n) P T T) (RH : ∀ j, j < n → sh_RS (σ j) (H j) T T) (tc : tx_c c ln T) (k4 : T (9, 0, 0) 4 = nI n) (k22 : ∀ j, j < n → ∀ w, w < 602 → T (22, 0, 0) (602 * j + w) = H j w) (tm : tx_m c ln T) : sh_GR b' (sh_mp (sh_kp T P) X) := by
  have kc : ∀ o : sh_O, o ≠ (9, 0, 0) → o ≠ (19, 0, 0) → o ≠ (20, 0, 0) → o ≠ (22, 0, 0) → sh_mp (sh_kp T P) X o = T o := fun o h1 h2 h3 h4 => by rw [mp_o h2, kp_o h1 h3 h4]
  have kown : ∀ (k : Nat) (o : sh_O), sh_own k o = true → sh_mp (sh_kp T P) X o = T o := fun k o ho => kc o (ne_ow ho own9) (ne_ow ho own19) (ne_ow ho (own_m (.inr (by decide)))) (ne_ow ho (own_m (.inr (by decide))))
  refine ⟨if n = 4 then 4 else n + 1, fun j => if n = 4 then σ ((j + 1) % 5) else σ j, c, ln, X, fun j => if n = 4 then (if j = 3 then P else H (j + 1)) else if j = n then P else H j, ⟨by split <;> omega, IX, fun j hj => ?_, K⟩, ⟨?_, fun j hj => ?_, ⟨fun j hj => ?_, fun i j hi hj e => ?_⟩, ?_, fun j hj => ?_, ?_⟩, ?_, mp_p _ _, fun j hj w hw => ?_, ?_⟩
  · by_cases e4 : n = 4
    · simp only [if_pos e4] at hj ⊢
      by_cases ej : j = 3
      · rw [if_pos ej]; exact I
      · rw [if_neg ej]; exact IH (j + 1) (by omega)
    · simp only [if_neg e4] at hj ⊢
      by_cases ej : j = n
      · rw [if_pos ej]; exact I
      · rw [if_neg ej]; exact IH j (by omega)
  · rw [kc _ (by decide) (by decide) (by decide) (by decide)]; exact t0
  · rw [kc _ (by decide) (by decide) (by decide) (by decide)]; exact t17 j hj
  · dsimp only
    split
    · exact c3.1 _ (Nat.mod_lt _ (by omega))
    · exact c3.1 j hj
  · dsimp only at e
    split at e
    · have := c3.2 _ _ (Nat.mod_lt _ (by omega)) (Nat.mod_lt _ (by omega)) e
      omega
    · exact c3.2 i j hi hj e
  · exact RS_agree RX (kown 0)
  · by_cases e4 : n = 4
    · simp only [if_pos e4] at hj ⊢
      by_cases ej : j = 3
      · subst ej
        rw [if_pos rfl, show (3 + 1) % 5 = n by omega]
        exact RS_agree RN (kown _)
      · rw [if_neg ej, Nat.mod_eq_of_lt (show j + 1 < 5 by omega)]
        exact RS_agree (RH (j + 1) (by omega)) (kown _)
    · simp only [if_neg e4] at hj ⊢
      by_cases ej : j = n
      · rw [if_pos ej, ej]; exact RS_agree RN (kown _)
      · rw [if_neg ej]; exact RS_agree (RH j (by omega)) (kown _)
  · refine ⟨?_, fun j hj => ?_⟩
    · rw [kc _ (by decide) (by decide) (by decide) (by decide)]; exact tc.1
    · rw [kc _ (by decide) (by decide) (by decide) (by decide)]; exact tc.2 j hj
  · rw [mp_o (by decide)]; exact kp_9 k4 hn
  · rw [mp_o (by decide), kp_22 k4 hn hj hw]
    by_cases e4 : n = 4
    · simp only [if_pos e4] at hj ⊢
      by_cases ej : j = 3
      · rw [if_pos ej, if_pos ej]
      · rw [if_neg ej, if_neg ej]; exact k22 (j + 1) (by omega) w hw
    · simp only [if_neg e4] at hj ⊢
      by_cases ej : j = n
      · rw [if_pos ej, if_pos ej]
      · rw [if_neg ej, if_neg ej]; exact k22 j (by omega) w hw
  · refine ⟨?_, fun j hj => ?_⟩
    · rw [mp_o (by decide), kp_f (by omega)]; exact tm.1
    · rw [kc _ (by decide) (by decide) (by decide) (by decide)]; exact tm.2 j hj
theorem L_play (G : sh_GR b S) (hb : b + 2000000 ≤ sh_LIM) : sh_Ci g mX8_play [sh_R (8, 0, 0)] S sz (fun r1 S1 => sh_Ci g mX9_play [sh_R (9, 0, 0)] S1 sz (sh_eq (b + 2000000) r1)) := by
  obtain ⟨n, σ, c, ln, P, H, ⟨hn, I, IH, K⟩, hC, hM⟩ := G
  have hC' := hC
  obtain ⟨c1, c2, c3, c4, c5, c6⟩ := hC
  obtain ⟨m1, m2, m3, m4⟩ := hM
  have hσ := c3.1 n (by omega)
  have hcnt := run_cnt (c := c) (n := ln) 60 P 0 0
  -- the model from a state with the same model's objects
  have mod : ∀ (S5 : sh_S) (r1 : Int32), (∀ o : sh_O, (o.1 = 9 ∨ 19 ≤ o.1) → S5 o = S o) →
      ((o_run c ln 60 P 0 0).1 = 0 → r1 = nI (o_run c ln 60 P 0 0).2.2.1 ∧ ∀ r, sh_fr (S (9, 0, 0)) r → sh_GR (b + 2000000) (sh_mp (sh_kp (sh_sr S5 (9, 0, 0) r) P) (o_run c ln 60 P 0 0).2.2.2)) →
      ((o_run c ln 60 P 0 0).1 ≠ 0 → r1 = -1000002 ∧ g_C n σ c ln P H S5) → sh_Ci g mX9_play [sh_R (9, 0, 0)] S5 sz (sh_eq (b + 2000000) r1) := fun S5 r1 em hr0 hr1 => by
    have e19 : S5 (19, 0, 0) = P := (em _ (.inr (by decide))).trans m2
    have e1 : sh_mp S5 P = S5 := by rw [← e19]; exact mp_self S5
    rw [← e1]
    have ehd9 : sh_hd S5 P (9, 0, 0) = S (9, 0, 0) := (sr_o (by decide)).trans (em _ (.inl rfl))
    have T2 : tx_m c ln (sh_hd S5 P) := ⟨by rw [ehd9]; exact m4.1, fun j hj => by
      rw [show sh_hd S5 P (23, 0, 0) = S5 (23, 0, 0) from sr_o (by decide), em _ (.inr (by decide))]; exact m4.2 j hj⟩
    refine wp_X9_play (c_hold (c_runs hb K T2 I (fun hz r hfr h12 => wt (by decide) ?_) (fun hz r P' hfr h13 hpos => wf (nI_pos (by omega)) ?_)))
    · rw [ehd9] at hfr
      rw [mp_o (o := (9, 0, 0)) (by decide), sh_sr_s, h12]
      have hs : sh_ss (sh_mp (sh_sr (sh_hd S5 P) (9, 0, 0) r) (o_run c ln 60 P 0 0).2.2.2) := ⟨n, hn, by rw [mp_o (by decide), sh_sr_s, hfr 4 (by omega)]; exact m1⟩
      refine c_endsT hs (nI_pos (by omega)) ?_
      rw [en_mp]
      have ek : sh_en (sh_sr (sh_hd S5 P) (9, 0, 0) r) = sh_kp (sh_sr S5 (9, 0, 0) r) P := by
        unfold sh_kp sh_hd
        rw [sr_comm S5 (o := (20, 0, 0)) (o' := (9, 0, 0)) (by decide), sr_o (S := S5) (o := (9, 0, 0)) (q := (20, 0, 0)) (by decide)]
      rw [ek]
      obtain ⟨k1, k2⟩ := hr0 hz
      exact ⟨k1, k2 r hfr⟩
    · rw [ehd9] at hfr
      refine c_bring (n1 := 602) (n3 := 602) (a := 0) (b := 0) (by decide) (fun _ => rfl) (by decide) (fun _ => rfl) (by decide) rfl rfl (by omega) (by omega) (by omega) (by omega) ?_
      obtain ⟨k1, k2⟩ := hr1 hz
      refine ⟨k1, ?_⟩
      rw [mp_o (o := (20, 0, 0)) (by decide), sr_o (o := (9, 0, 0)) (q := (20, 0, 0)) (by decide), mp_p, mp_sr]
      have e20 : ∀ v, v < 602 → sh_hd S5 P (20, 0, 0) v = P v := fun v hv => by unfold sh_hd; rw [sh_sr_s, cpy_lt hv]
      have hZ : ∀ v, v < 602 → va_cpy (sh_hd S5 P (20, 0, 0)) P' 0 0 602 v = P v := fun v hv => (cpy_lt hv).trans (e20 v hv)
      generalize va_cpy (sh_hd S5 P (20, 0, 0)) P' 0 0 602 = Z at hZ ⊢
      have hc : ∀ o : sh_O, o ≠ (19, 0, 0) → o ≠ (9, 0, 0) → o ≠ (20, 0, 0) → sh_mp (sh_sr (sh_hd S5 P) (9, 0, 0) r) Z o = S5 o := fun o h1 h2 h3 => by rw [mp_o h1, sr_o h2]; exact sr_o h3
      obtain ⟨d1, d2, d3, d4, d5, d6⟩ := k2
      refine ⟨n, σ, c, ln, Z, H, ⟨hn, IP_mono (IP_pc hZ I) (by omega), fun j hj => IP_mono (IH j hj) (by omega), K⟩, ⟨?_, fun j hj => ?_, c3, ?_, fun j hj => ?_, ?_, fun j hj => ?_⟩, ?_, mp_p _ _, fun j hj w hw => ?_, ?_, fun j hj => ?_⟩
      · rw [hc _ (by decide) (by decide) (by decide)]; exact d1
      · rw [hc _ (by decide) (by decide) (by decide)]; exact d2 j hj
      · exact RS_pc hZ (RS_agree d4 fun o ho => hc o (ne_ow ho own19) (ne_ow ho own9) (ne_ow ho (own_m (.inr (by decide)))))
      · exact RS_agree (d5 j hj) fun o ho => hc o (ne_ow ho own19) (ne_ow ho own9) (ne_ow ho (own_m (.inr (by decide))))
      · rw [hc _ (by decide) (by decide) (by decide)]; exact d6.1
      · rw [hc _ (by decide) (by decide) (by decide)]; exact d6.2 j hj
      · rw [mp_o (by decide), sh_sr_s, hfr 4 (by omega)]; exact m1
      · rw [hc _ (by decide) (by decide) (by decide), em _ (.inr (by decide))]; exact m3 j hj w hw
      · rw [mp_o (by decide), sh_sr_s, hfr 6 (by omega)]; exact m4.1
      · rw [hc _ (by decide) (by decide) (by decide), em _ (.inr (by decide))]; exact m4.2 j hj
  refine wp_X8_play (k_tryOn hb K c6 c4 I fun S1 ho h1 h4 h3 h5 hR => ?_)
  have em : ∀ o : sh_O, (o.1 = 9 ∨ 16 ≤ o.1) → S1 o = S o := fun o h => ho o (own_m h) fun e => by subst e; exact absurd h (by decide)
  have hC1 : g_C n σ c ln P H S1 := g_C_of hC' hn (ho _ own0 (by decide)) (ho _ own17 (by decide)) h1 (ho _ o18 (by decide)) fun k o hk ho' => ho o (own_u ho' (by
    rcases hk with rfl | ⟨j, hj, rfl⟩
    · omega
    · have := c3.1 j (by omega); omega)) (ne_ow ho' own3)
  rw [h4]
  refine ⟨fun hz => ?_, fun hz => mod S1 _ (fun o h => em o (by omega)) (fun h => absurd h hz) (fun _ => ⟨rfl, hC1⟩)⟩
  obtain ⟨R1, IX⟩ := hR hz
  obtain ⟨d1, d2, d3, d4, d5, d6⟩ := hC1
  refine k_copyPresent hn d1 d2 c3 d4 fun S3 R3 => ?_
  have R13 : sh_RS 1 (o_run c ln 60 P 0 0).2.2.2 S3 S3 := RS_agree R1 fun o ho => R3.1 o (own_u ho (by omega))
  refine k_copyShed (by decide) (by decide) (by decide) R13 fun S4 R4 => ?_
  have e35 : S4 (3, 0, 0) = S1 (3, 0, 0) := (R4.1 _ own3).trans (R3.1 _ own3)
  rw [e35, h5]
  have f0 : S4 (0, 0, 0) = S1 (0, 0, 0) := (R4.1 _ own0).trans (R3.1 _ own0)
  have f17 : S4 (17, 0, 0) = S1 (17, 0, 0) := (R4.1 _ own17).trans (R3.1 _ own17)
  refine wp_X8_changed (wf (nI_pos (by omega)) (k_keepCopy hn (by rw [f0]; exact d1) (fun j hj => by rw [f17]; exact d2 j hj) c3 fun S5 ho5 hn5 h17 => ?_))
  have ow5 : ∀ k o, sh_own k o = true → S5 o = S4 o := fun k o ho' => ho5 o (ne_ow ho' own0) (ne_ow ho' own17)
  refine mod S5 _ (fun o h => ?_) (fun _ => ⟨rfl, fun r hfr => ?_⟩) (fun h => absurd hz h)
  · have g1 : o ≠ (0, 0, 0) := fun e => by subst e; exact absurd h (by decide)
    have g2 : o ≠ (17, 0, 0) := fun e => by subst e; exact absurd h (by decide)
    have g3 : o.1 = 9 ∨ 16 ≤ o.1 := by omega
    rw [ho5 o g1 g2, R4.1 o (own_m g3), R3.1 o (own_m g3)]; exact em o g3
  · have hc : ∀ o : sh_O, o ≠ (9, 0, 0) → sh_sr S5 (9, 0, 0) r o = S5 o := fun o h => sr_o h
    have lift : ∀ k P', k ≠ 0 → k ≠ 1 → sh_RS k P' S3 S3 → sh_RS k P' (sh_sr S5 (9, 0, 0) r) (sh_sr S5 (9, 0, 0) r) := fun k P' h0 _ R => RS_agree R fun o ho' => by
      rw [hc o (ne_ow ho' own9), ow5 k o ho', R4.1 o (own_u ho' h0)]
    refine GR_fin hn K c3 (IP_mono I (by omega)) (fun j hj => IP_mono (IH j hj) (by omega)) (IP_mono IX (by omega)) ?_ (fun j hj => ?_) ?_ ?_ (fun j hj => ?_) ⟨?_, fun j hj => ?_⟩ ?_ (fun j hj w hw => ?_) ⟨?_, fun j hj => ?_⟩
    · rw [hc _ (by decide)]; exact hn5
    · rw [hc _ (by decide)]; exact h17 j hj
    · exact RS_agree (RS_refl R4) fun o ho' => by rw [hc o (ne_ow ho' own9), ow5 0 o ho']
    · exact lift _ _ (by omega) (by omega) (RS_refl R3)
    · have := c3.1 j (by omega)
      refine lift _ _ (by omega) (by omega) (RS_agree (d5 j hj) fun o ho' => R3.1 o (own_u ho' fun z => ?_))
      have := c3.2 j n (by omega) (by omega) z
      omega
    · rw [hc _ (by decide), ho5 _ (by decide) (by decide), e35]; exact d6.1
    · rw [hc _ (by decide), ho5 _ (by decide) (by decide), R4.1 _ o18, R3.1 _ o18]; exact d6.2 j hj
    · rw [sh_sr_s, hfr 4 (by omega)]; exact m1
    · have e22 : S5 (22, 0, 0) = S (22, 0, 0) := by rw [ho5 _ (by decide) (by decide), R4.1 _ (own_m (.inr (by decide))), R3.1 _ (own_m (.inr (by decide)))]; exact em _ (.inr (by decide))
      rw [hc _ (by decide), e22]; exact m3 j hj w hw
    · rw [sh_sr_s, hfr 6 (by omega)]; exact m4.1
    · have e23 : S5 (23, 0, 0) = S (23, 0, 0) := by rw [ho5 _ (by decide) (by decide), R4.1 _ (own_m (.inr (by decide))), R3.1 _ (own_m (.inr (by decide)))]; exact em _ (.inr (by decide))
      rw [hc _ (by decide), e23]; exact m4.2 j hj
end PLAY
