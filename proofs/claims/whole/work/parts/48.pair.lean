/-! class and model side by side -/
theorem RS_pc {k : Nat} {P P' : Nat → Int32} {S0 S : sh_S} (h : ∀ w, w < 602 → P' w = P w) (R : sh_RS k P S0 S) : sh_RS k P' S0 S := by
  refine ⟨R.1, ⟨fun j hj => ?_, ?_, ?_, ?_, ?_, ?_, fun j hj => ?_⟩, fun m hm w hw => ?_, fun t ht => ?_⟩
  · rw [h _ (by omega)]; exact R.set hj
  · rw [h _ (by omega)]; exact R.day
  · rw [h _ (by omega)]; exact R.mem
  · rw [h _ (by omega)]; exact R.add
  · rw [h _ (by omega)]; exact R.ptr
  · rw [h _ (by omega)]; exact R.inT
  · rw [h _ (by omega)]; exact R.trn hj
  · rw [h _ (by omega)]; exact R.row hm hw
  · exact r_tool_congr (fun w hw => h _ (by omega)) (R.tol ht)
theorem IP_pc {P P' : Nat → Int32} {b : Nat} (h : ∀ w, w < 602 → P' w = P w) (I : sh_IP P b) : sh_IP P' b := by
  have hl := I.ml
  have htl := I.tl20
  have hY := I.B.yl
  have eM := nM_e (h 8 (by omega))
  have eT := nT_e (h 9 (by omega))
  have eY := nY_e (h 11 (by omega))
  have eD := nD_e (h 7 (by omega))
  have hpm : ∀ m w, m < 10 → w < 12 → pm P' m w = pm P m w := fun m w h1 h2 => h _ (by omega)
  have hpt : ∀ t w, t < 20 → w < 23 → pt P' t w = pt P t w := fun t w h1 h2 => h _ (by omega)
  refine IP_of ⟨⟨B_hi I.B fun j _ h2 => h j (by omega), fun j hj => ?_, fun m hm => ?_, fun m hm hm2 w hw => ?_, fun t h1 h2 w hw => ?_⟩, ⟨fun i j hi hj e => ?_, fun m hm hg => ?_, fun j hj => ?_⟩, fun t h1 => ?_, fun t u h1 h2 h3 h4 => ?_, fun t h1 h2 j hj => ?_⟩ (c2_congr (fun m hm => ⟨hpm m 3 hm (by omega), hpm m 8 hm (by omega), hpm m 9 hm (by omega), hpm m 10 hm (by omega)⟩) I.cr)
  · rw [h j (by omega)]; exact I.s j hj
  · rw [eM] at hm; rw [hpm m 0 (by omega) (by omega)]; exact I.st m hm
  · rw [eM] at hm; rw [hpm m w hm2 hw]; exact I.mz m hm hm2 w hw
  · rw [eT] at h1; rw [hpt t w h2 hw]; exact I.tz t h1 h2 w hw
  · rw [eY] at hi hj
    rw [h _ (by omega), h _ (by omega)] at e
    exact I.tn.1 i j hi hj e
  · rw [eM] at hm
    rw [hpm m 0 (by omega) (by omega)] at hg
    obtain ⟨j, h1, h2⟩ := I.tn.2.1 m hm hg
    exact ⟨j, by rw [eY]; exact h1, by rw [h _ (by omega)]; exact h2⟩
  · rw [eY] at hj
    obtain ⟨m, h1, h2, h3⟩ := I.tn.2.2 j hj
    exact ⟨m, by rw [eM]; exact h1, by rw [h _ (by omega)]; exact h2, by rw [hpm m 0 (by omega) (by omega)]; exact h3⟩
  · rw [eT] at h1; rw [eM, eD]; exact row_eq (fun w hw => hpt t w (by omega) hw) (I.tl t h1)
  · rw [eT] at h1 h2
    rw [hpt t 8 (by omega) (by omega), hpt u 8 (by omega) (by omega)] at h4
    rw [hpt t 8 (by omega) (by omega)]; exact I.hk t u h1 h2 h3 h4
  · rw [eT] at h1
    rw [hpt t 3 (by omega) (by omega)] at h2
    obtain ⟨m, a1, a2, a3, a4⟩ := I.ls t h1 h2 j hj
    exact ⟨m, by rw [eM]; exact a1, by rw [hpt t (12 + j) (by omega) (by omega)]; exact a2, by rw [hpm m 0 (by omega) (by omega)]; exact a3, by rw [hpt t 4 (by omega) (by omega)]; exact a4⟩
/-- pages and text; the class; the model -/
def g_P (b n : Nat) (c : Nat → Nat) (ln : Nat) (P : Nat → Int32) (H : Nat → Nat → Int32) : Prop := n ≤ 4 ∧ sh_IP P b ∧ (∀ j, j < n → sh_IP (H j) b) ∧ tx_k c ln
def g_s (σ : Nat → Nat) : Prop := (∀ j, j < 5 → 2 ≤ σ j ∧ σ j < 7) ∧ ∀ i j, i < 5 → j < 5 → σ i = σ j → i = j
def g_C (n : Nat) (σ : Nat → Nat) (c : Nat → Nat) (ln : Nat) (P : Nat → Int32) (H : Nat → Nat → Int32) (S : sh_S) : Prop :=
  S (0, 0, 0) 1 = nI n ∧ (∀ j, j < 5 → S (17, 0, 0) j = nI (σ j)) ∧ g_s σ ∧ sh_RS 0 P S S ∧ (∀ j, j < n → sh_RS (σ j) (H j) S S) ∧ tx_c c ln S
def g_M (n : Nat) (c : Nat → Nat) (ln : Nat) (P : Nat → Int32) (H : Nat → Nat → Int32) (T : sh_S) : Prop :=
  T (9, 0, 0) 4 = nI n ∧ T (19, 0, 0) = P ∧ (∀ j, j < n → ∀ w, w < 602 → T (22, 0, 0) (602 * j + w) = H j w) ∧ tx_m c ln T
def sh_GR (b : Nat) (S : sh_S) : Prop := ∃ n σ c ln P H, g_P b n c ln P H ∧ g_C n σ c ln P H S ∧ g_M n c ln P H S
theorem GR_mono {b b' : Nat} {S : sh_S} (h : b ≤ b') (G : sh_GR b S) : sh_GR b' S := by
  obtain ⟨n, σ, c, ln, P, H, ⟨h1, h2, h3, h4⟩, hC, hM⟩ := G
  exact ⟨n, σ, c, ln, P, H, ⟨h1, IP_mono h2 h, fun j hj => IP_mono (h3 j hj) h, h4⟩, hC, hM⟩
theorem own0 {k : Nat} : sh_own k (0, 0, 0) = false := decide_eq_false fun z => by
  rcases z.2 with z | z | z | z | z | z | z | z | z | z <;> exact absurd z (by decide)
theorem own17 {k : Nat} : sh_own k (17, 0, 0) = false := decide_eq_false fun z => by
  rcases z.2 with z | z | z | z | z | z | z | z | z | z <;> exact absurd z (by decide)
theorem own_m {k : Nat} {o : sh_O} (h : o.1 = 9 ∨ 16 ≤ o.1) : sh_own k o = false := decide_eq_false fun z => by
  rcases z.2 with z | z | z | z | z | z | z | z | z | z <;> rw [z] at h <;> omega
theorem own_u {k k' : Nat} {o : sh_O} (h : sh_own k o = true) (h' : k ≠ k') : sh_own k' o = false := decide_eq_false fun z => by
  have h := of_decide_eq_true h
  exact h' (h.1.symm.trans z.1)
/-- the class' part looks at its own objects alone -/
theorem g_C_of {n : Nat} {σ c : Nat → Nat} {ln : Nat} {P : Nat → Int32} {H : Nat → Nat → Int32} {S S' : sh_S} (G : g_C n σ c ln P H S) (hn : n ≤ 4) (h0 : S' (0, 0, 0) = S (0, 0, 0)) (h17 : S' (17, 0, 0) = S (17, 0, 0)) (h3 : S' (3, 0, 0) 1 = S (3, 0, 0) 1) (h18 : S' (18, 0, 0) = S (18, 0, 0)) (ho : ∀ k o, (k = 0 ∨ ∃ j, j < n ∧ k = σ j) → sh_own k o = true → S' o = S o) : g_C n σ c ln P H S' := by
  obtain ⟨g1, g2, g3, g4, g5, g6⟩ := G
  exact ⟨by rw [h0]; exact g1, fun j hj => by rw [h17]; exact g2 j hj, g3, RS_agree g4 fun o => ho 0 o (.inl rfl), fun j hj => RS_agree (g5 j hj) fun o => ho _ o (.inr ⟨j, hj, rfl⟩), by rw [h3]; exact g6.1, fun j hj => by rw [h18]; exact g6.2 j hj⟩
theorem g_M_of {n : Nat} {c : Nat → Nat} {ln : Nat} {P : Nat → Int32} {H : Nat → Nat → Int32} {T T' : sh_S} (G : g_M n c ln P H T) (h4 : T' (9, 0, 0) 4 = T (9, 0, 0) 4) (h6 : T' (9, 0, 0) 6 = T (9, 0, 0) 6) (h19 : T' (19, 0, 0) = T (19, 0, 0)) (h22 : T' (22, 0, 0) = T (22, 0, 0)) (h23 : T' (23, 0, 0) = T (23, 0, 0)) : g_M n c ln P H T' := by
  obtain ⟨g1, g2, g3, g4⟩ := G
  exact ⟨h4.trans g1, h19.trans g2, fun j hj w hw => by rw [h22]; exact g3 j hj w hw, h6.trans g4.1, fun j hj => by rw [h23]; exact g4.2 j hj⟩
/-- what is kept -/
theorem kp_9 {S : sh_S} {P : Nat → Int32} {n : Nat} (e : S (9, 0, 0) 4 = nI n) (hn : n ≤ 4) : sh_kp S P (9, 0, 0) 4 = nI (if n = 4 then 4 else n + 1) := by
  have e9 : sh_hd S P (9, 0, 0) = S (9, 0, 0) := sr_o (by decide)
  unfold sh_kp sh_en
  rw [e9, e]
  by_cases h : n = 4
  · subst h
    rw [if_pos (show nI 4 = (4 : Int32) from rfl), if_pos rfl, sh_sr_s, upd_eq]; rfl
  · rw [if_neg (show ¬ nI n = (4 : Int32) from fun z => h ((nI_eq (b := 4) (by omega) (by omega)).mp z)), if_neg h, sh_sr_s, upd_eq, nI_1]
theorem kp_f {S : sh_S} {P : Nat → Int32} {i : Nat} (h : i ≠ 4) : sh_kp S P (9, 0, 0) i = S (9, 0, 0) i := by
  have e9 : sh_hd S P (9, 0, 0) = S (9, 0, 0) := sr_o (by decide)
  unfold sh_kp sh_en
  rw [e9]
  split <;> rw [sh_sr_s, upd_ne h]
theorem kp_o {S : sh_S} {P : Nat → Int32} {o : sh_O} (h9 : o ≠ (9, 0, 0)) (h20 : o ≠ (20, 0, 0)) (h22 : o ≠ (22, 0, 0)) : sh_kp S P o = S o := by
  unfold sh_kp sh_en
  split <;> rw [sr_o h9, sr_o h22] <;> exact sr_o h20
theorem kp_22 {S : sh_S} {P : Nat → Int32} {n : Nat} (e : S (9, 0, 0) 4 = nI n) (hn : n ≤ 4) {j w : Nat} (hj : j < (if n = 4 then 4 else n + 1)) (hw : w < 602) : sh_kp S P (22, 0, 0) (602 * j + w) = if n = 4 then (if j = 3 then P w else S (22, 0, 0) (602 * (j + 1) + w)) else if j = n then P w else S (22, 0, 0) (602 * j + w) := by
  have e9 : sh_hd S P (9, 0, 0) = S (9, 0, 0) := sr_o (by decide)
  have e22 : sh_hd S P (22, 0, 0) = S (22, 0, 0) := sr_o (by decide)
  have e20 : ∀ w, w < 602 → sh_hd S P (20, 0, 0) w = P w := fun w hw => by unfold sh_hd; rw [sh_sr_s, cpy_lt hw]
  unfold sh_kp sh_en
  rw [e9, e, e22]
  by_cases h : n = 4
  · subst h
    rw [if_pos rfl] at hj
    rw [if_pos (show nI 4 = (4 : Int32) from rfl), if_pos rfl, sr_o (by decide), sh_sr_s]
    unfold va_cpy
    by_cases h3 : j = 3
    · subst h3
      rw [if_pos (by omega), if_pos rfl, show 0 + (602 * 3 + w - 1806) = w by omega]
      exact e20 w hw
    · rw [if_neg (by omega), if_neg h3]
      dsimp only
      rw [if_pos (by omega)]
      congr 1; omega
  · rw [if_neg h] at hj
    rw [if_neg (show ¬ nI n = (4 : Int32) from fun z => h ((nI_eq (b := 4) (by omega) (by omega)).mp z)), if_neg h, sr_o (by decide), sh_sr_s, nI_clamp (by omega)]
    unfold va_cpy
    by_cases h3 : j = n
    · subst h3
      rw [if_pos (by omega), if_pos rfl, show 0 + (602 * j + w - 602 * j) = w by omega]
      exact e20 w hw
    · rw [if_neg (by omega), if_neg h3]
section PAIR
variable {g : sh_G} {S : sh_S} {sz b : Nat} {Q : Int32 → sh_S → Prop} {U : sh_S → Prop}
theorem k_copyPresent {n : Nat} {σ : Nat → Nat} {P : Nat → Int32} (hn : n ≤ 4) (h0 : S (0, 0, 0) 1 = nI n) (h17 : ∀ j, j < 5 → S (17, 0, 0) j = nI (σ j)) (hs : g_s σ) (R : sh_RS 0 P S S) (h : ∀ S', sh_RS (σ n) P S S' → U S') : sh_Cu g mX0_copyPresent [sh_R (0, 0, 0), sh_R (6, 0, 0)] S sz U := by
  have hb := hs.1 n (by omega)
  refine wp_X0_copyPresent (ok6 (by decide)) ?_
  rw [h0]
  refine wf (nI_pos (by omega)) (wf (nI_nlt (a := 4) (by omega) (by omega)) ?_)
  rw [nI_clamp (by omega), h17 n (by omega), nI_clamp (by omega)]
  exact ⟨vp_in_nI (by omega) (by omega), hb.2, k_copyShed hb.2 (by decide) (by omega) R h⟩
theorem k_keepCopy {n : Nat} {σ : Nat → Nat} (hn : n ≤ 4) (h0 : S (0, 0, 0) 1 = nI n) (h17 : ∀ j, j < 5 → S (17, 0, 0) j = nI (σ j)) (hs : g_s σ)
    (h : ∀ S', (∀ o, o ≠ (0, 0, 0) → o ≠ (17, 0, 0) → S' o = S o) → S' (0, 0, 0) 1 = nI (if n = 4 then 4 else n + 1) → (∀ j, j < 5 → S' (17, 0, 0) j = nI (if n = 4 then σ ((j + 1) % 5) else σ j)) → U S') : sh_Cu g mX0_keepCopy [sh_R (0, 0, 0)] S sz U := by
  refine wp_X0_keepCopy ?_
  rw [h0]
  refine wc (fun z => ?_) (fun z => ?_)
  · have z := (nI_leI (a := 4) (by omega) (by omega)).mp z
    obtain rfl : n = 4 := by omega
    rw [h17 0 (by omega), nI_clamp (by have := hs.1 0 (by omega); omega)]
    refine ⟨(hs.1 0 (by omega)).2, fun i S' => ∃ j, j ≤ 4 ∧ i = nI j ∧ (∀ o, o ≠ (17, 0, 0) → S' o = S o) ∧ ∀ q, q < 5 → S' (17, 0, 0) q = nI (if q < j then σ (q + 1) else σ q), fun i _ => 4 - i.toNatClampNeg, ⟨0, by omega, rfl, fun _ _ => rfl, fun q hq => by rw [if_neg (by omega)]; exact h17 q hq⟩, ?_⟩
    rintro _ S2 ⟨j, hj, rfl, ho, hq⟩
    refine wc (fun c => ?_) (fun c => ?_)
    · obtain rfl := lp_end hj (by omega) c
      rintro _ rfl
      refine h _ (fun o _ h2 => by rw [sr_o h2]; exact ho o h2) ?_ (fun q hq5 => ?_)
      · rw [sr_o (by decide), ho _ (by decide), h0, if_pos rfl]
      · rw [sh_sr_s, if_pos rfl]
        by_cases e : q = 4
        · subst e; rw [upd_eq]
        · rw [upd_ne e, hq q hq5, if_pos (by omega), Nat.mod_eq_of_lt (by omega)]
    · have hlt := lp_go (by omega) hj c
      have hb := hs.1 (j + 1) (by omega)
      rw [nI_1 j, nI_clamp (by omega), nI_clamp (by omega), hq (j + 1) (by omega), if_neg (by omega), nI_clamp (by omega)]
      refine ⟨vp_in_nI (by omega) (by omega), hb.2, vp_in_nI (by omega) (by omega), ?_⟩
      rintro _ rfl _ rfl
      refine ⟨⟨j + 1, hlt, rfl, fun o h2 => by rw [sr_o h2]; exact ho o h2, fun q hq5 => ?_⟩, mu_lt hlt (by omega)⟩
      rw [sh_sr_s]
      by_cases e : q = j
      · subst e; rw [upd_eq, if_pos (by omega)]
      · rw [upd_ne e, hq q hq5]
        by_cases e2 : q < j
        · rw [if_pos e2, if_pos (by omega)]
        · rw [if_neg e2, if_neg (by omega)]
  · have z : ¬ n = 4 := fun w => z (by rw [w]; decide)
    rintro _ rfl
    refine h _ (fun o h1 _ => sr_o h1) ?_ (fun q hq => ?_)
    · rw [sh_sr_s, upd_eq, nI_1, if_neg z]
    · rw [sr_o (by decide), if_neg z]; exact h17 q hq
/-- the two sides have done the same -/
abbrev sh_eq (b : Nat) (r1 : Int32) : Int32 → sh_S → Prop := fun r2 S2 => r1 = r2 ∧ sh_GR b S2
theorem pair_op {N M : sh_M} {as as2 : List sh_v} {b' : Nat} {x : Int32 × (Nat → Int32)} (hbb : b ≤ b') (G : sh_GR b S) (hx : sh_IP (S (19, 0, 0)) b → ¬ x.1 < 0 → sh_IP x.2 b')
    (hk : ∀ S1 Q', sh_IP (S (19, 0, 0)) b → sh_RS 0 (S (19, 0, 0)) S1 S1 → sh_kg Q' 0 S1 S1 x → sh_Ci g N as S1 sz Q')
    (hm : ∀ S2 Q', sh_IP (S (19, 0, 0)) b → sh_ss S2 → (∀ r, sh_go Q' (sh_sr S2 (24, 0, 0) r) (S (19, 0, 0)) x) → sh_Ci g M as2 (sh_mp S2 (S (19, 0, 0))) sz Q') :
    sh_Cu g mX0_copyPresent [sh_R (0, 0, 0), sh_R (6, 0, 0)] S sz (fun S1 => sh_Ci g N as S1 sz (fun r3 S2 => sh_Ci g mX8_changed [sh_R (8, 0, 0), sh_I r3] S2 sz (fun r5 S4 => sh_Ci g M as2 S4 sz (sh_eq b' r5)))) := by
  obtain ⟨n, σ, c, ln, P, H, ⟨hn, I, IH, K⟩, hC, hM⟩ := G
  obtain ⟨c1, c2, c3, c4, c5, c6⟩ := hC
  obtain ⟨m1, m2, m3, m4⟩ := hM
  rw [m2] at hx hk hm
  have hσ := c3.1 n (by omega)
  refine k_copyPresent hn c1 c2 c3 c4 fun S1 R1 => ?_
  have e0 : S1 (0, 0, 0) = S (0, 0, 0) := R1.1 _ own0
  have e17 : S1 (17, 0, 0) = S (17, 0, 0) := R1.1 _ own17
  have e3 : S1 (3, 0, 0) = S (3, 0, 0) := R1.1 _ own3
  have e18 : S1 (18, 0, 0) = S (18, 0, 0) := R1.1 _ o18
  have em : ∀ o : sh_O, (o.1 = 9 ∨ 16 ≤ o.1) → S1 o = S o := fun o ho => R1.1 _ (own_m ho)
  have RS0 : sh_RS 0 P S1 S1 := RS_agree c4 fun o ho => R1.1 _ (own_u ho (by omega))
  have hC1 : g_C n σ c ln P H S1 := g_C_of ⟨c1, c2, c3, c4, c5, c6⟩ hn e0 e17 (by rw [e3]) e18 fun k o hk ho => R1.1 _ (own_u ho (by
    rcases hk with rfl | ⟨j, hj, rfl⟩
    · omega
    · exact fun z => by have := c3.2 j n (by omega) (by omega) z; omega))
  have hM1 : g_M n c ln P H S1 := g_M_of ⟨m1, m2, m3, m4⟩ (by rw [em _ (.inl rfl)]) (by rw [em _ (.inl rfl)]) (em _ (.inr (by decide))) (em _ (.inr (by decide))) (em _ (.inr (by decide)))
  have h24 : ∀ (T : sh_S) r (o : sh_O), o ≠ (24, 0, 0) → sh_sr T (24, 0, 0) r o = T o := fun T r o h => sr_o h
  refine hk S1 _ I RS0 ⟨fun hx0 => wp_X8_changed (wt hx0 ?_), fun hx0 S2 R2 => wp_X8_changed (wf hx0 ?_)⟩
  · have e1 : sh_mp S1 P = S1 := by rw [← hM1.2.1]; exact mp_self S1
    rw [← e1]
    refine hm S1 _ I ⟨n, hn, hM1.1⟩ fun r => ⟨fun _ => ⟨rfl, n, σ, c, ln, P, H, ⟨hn, IP_mono I hbb, fun j hj => IP_mono (IH j hj) hbb, K⟩, ?_, ?_⟩, fun z => absurd hx0 z⟩
    · exact g_C_of hC1 hn (by rw [mp_o (by decide), h24 _ _ _ (by decide)]) (by rw [mp_o (by decide), h24 _ _ _ (by decide)]) (by rw [mp_o (by decide), h24 _ _ _ (by decide)]) (by rw [mp_o (by decide), h24 _ _ _ (by decide)]) fun k o _ ho => by
        have : ∀ q : sh_O, (q.1 = 9 ∨ 16 ≤ q.1) → o ≠ q := fun q hq e => by rw [e, own_m hq] at ho; exact Bool.noConfusion ho
        rw [mp_o (this _ (.inr (by decide))), h24 _ _ _ (this _ (.inr (by decide)))]
    · exact g_M_of hM1 (by rw [mp_o (by decide), h24 _ _ _ (by decide)]) (by rw [mp_o (by decide), h24 _ _ _ (by decide)]) (by rw [mp_p]; exact hM1.2.1.symm) (by rw [mp_o (by decide), h24 _ _ _ (by decide)]) (by rw [mp_o (by decide), h24 _ _ _ (by decide)])
  · have f0 : S2 (0, 0, 0) = S1 (0, 0, 0) := R2.1 _ own0
    have f17 : S2 (17, 0, 0) = S1 (17, 0, 0) := R2.1 _ own17
    refine k_keepCopy hn (by rw [f0]; exact hC1.1) (fun j hj => by rw [f17]; exact hC1.2.1 j hj) c3 fun S3 ho hn3 h17 => ?_
    have fm : ∀ o : sh_O, o ≠ (0, 0, 0) → o ≠ (17, 0, 0) → (o.1 = 9 ∨ 16 ≤ o.1) → S3 o = S1 o := fun o h1 h2 h3 => (ho o h1 h2).trans (R2.1 _ (own_m h3))
    have ne2 : ∀ (k : Nat) (o : sh_O), sh_own k o = true → o ≠ (0, 0, 0) ∧ o ≠ (17, 0, 0) := fun k o ho => ⟨fun e => by rw [e, own0] at ho; exact Bool.noConfusion ho, fun e => by rw [e, own17] at ho; exact Bool.noConfusion ho⟩
    have R3 : sh_RS 0 x.2 S3 S3 := RS_agree (RS_refl R2) fun o h1 => ho o (ne2 0 o h1).1 (ne2 0 o h1).2
    have o3 : S3 (3, 0, 0) = S1 (3, 0, 0) := (ho _ (by decide) (by decide)).trans (R2.1 _ own3)
    have o18' : S3 (18, 0, 0) = S1 (18, 0, 0) := (ho _ (by decide) (by decide)).trans (R2.1 _ o18)
    have RH : ∀ k P', k ≠ 0 → sh_RS k P' S1 S1 → sh_RS k P' S3 S3 := fun k P' hk0 R => RS_agree R fun o h1 => (ho o (ne2 k o h1).1 (ne2 k o h1).2).trans (R2.1 _ (own_u h1 hk0))
    have RN : sh_RS (σ n) P S3 S3 := RH _ _ (by omega) (RS_refl R1)
    have e1 : sh_mp S3 P = S3 := by rw [← hM1.2.1, ← fm (19, 0, 0) (by decide) (by decide) (.inr (by decide))]; exact mp_self S3
    have s4 : S3 (9, 0, 0) = S1 (9, 0, 0) := fm _ (by decide) (by decide) (.inl rfl)
    rw [← e1]
    refine hm S3 _ I ⟨n, hn, by rw [s4]; exact hM1.1⟩ fun r => ⟨fun z => absurd z hx0, fun _ => ⟨rfl, ?_⟩⟩
    have k4 : sh_sr S3 (24, 0, 0) r (9, 0, 0) 4 = nI n := by rw [h24 _ _ _ (by decide), s4]; exact hM1.1
    have kc : ∀ o : sh_O, o ≠ (9, 0, 0) → o ≠ (19, 0, 0) → o ≠ (20, 0, 0) → o ≠ (22, 0, 0) → o ≠ (24, 0, 0) → sh_mp (sh_kp (sh_sr S3 (24, 0, 0) r) P) x.2 o = S3 o := fun o h1 h2 h3 h4 h5 => by rw [mp_o h2, kp_o h1 h3 h4, sr_o h5]
    have kown : ∀ (k : Nat) (o : sh_O), sh_own k o = true → sh_mp (sh_kp (sh_sr S3 (24, 0, 0) r) P) x.2 o = S3 o := fun k o ho => by
      have : ∀ q : sh_O, (q.1 = 9 ∨ 16 ≤ q.1) → o ≠ q := fun q hq e => by rw [e, own_m hq] at ho; exact Bool.noConfusion ho
      exact kc o (this _ (.inl rfl)) (this _ (.inr (by decide))) (this _ (.inr (by decide))) (this _ (.inr (by decide))) (this _ (.inr (by decide)))
    refine ⟨if n = 4 then 4 else n + 1, fun j => if n = 4 then σ ((j + 1) % 5) else σ j, c, ln, x.2, fun j => if n = 4 then (if j = 3 then P else H (j + 1)) else if j = n then P else H j, ⟨by split <;> omega, hx I hx0, fun j hj => ?_, K⟩, ⟨?_, fun j hj => ?_, ⟨fun j hj => ?_, fun i j hi hj e => ?_⟩, ?_, fun j hj => ?_, ?_⟩, ?_, ?_, fun j hj w hw => ?_, ?_⟩
    · by_cases e4 : n = 4
      · simp only [if_pos e4] at hj ⊢
        by_cases ej : j = 3
        · rw [if_pos ej]; exact IP_mono I hbb
        · rw [if_neg ej]; exact IP_mono (IH (j + 1) (by omega)) hbb
      · simp only [if_neg e4] at hj ⊢
        by_cases ej : j = n
        · rw [if_pos ej]; exact IP_mono I hbb
        · rw [if_neg ej]; exact IP_mono (IH j (by omega)) hbb
    · rw [kc _ (by decide) (by decide) (by decide) (by decide) (by decide)]; exact hn3
    · rw [kc _ (by decide) (by decide) (by decide) (by decide) (by decide)]; exact h17 j hj
    · dsimp only
      split
      · exact c3.1 _ (Nat.mod_lt _ (by omega))
      · exact c3.1 j hj
    · dsimp only at e
      split at e
      · have := c3.2 _ _ (Nat.mod_lt _ (by omega)) (Nat.mod_lt _ (by omega)) e
        omega
      · exact c3.2 i j hi hj e
    · exact RS_agree R3 (kown 0)
    · by_cases e4 : n = 4
      · simp only [if_pos e4] at hj ⊢
        by_cases ej : j = 3
        · subst ej
          rw [if_pos rfl, show (3 + 1) % 5 = n by omega]
          exact RS_agree RN (kown _)
        · rw [if_neg ej, Nat.mod_eq_of_lt (show j + 1 < 5 by omega)]
          have := c3.1 (j + 1) (by omega)
          exact RS_agree (RH _ _ (by omega) (hC1.2.2.2.2.1 (j + 1) (by omega))) (kown _)
      · simp only [if_neg e4] at hj ⊢
        by_cases ej : j = n
        · rw [if_pos ej, ej]; exact RS_agree RN (kown _)
        · rw [if_neg ej]
          have := c3.1 j (by omega)
          exact RS_agree (RH _ _ (by omega) (hC1.2.2.2.2.1 j (by omega))) (kown _)
    · refine ⟨?_, fun j hj => ?_⟩
      · rw [kc _ (by decide) (by decide) (by decide) (by decide) (by decide), o3]; exact hC1.2.2.2.2.2.1
      · rw [kc _ (by decide) (by decide) (by decide) (by decide) (by decide), o18']; exact hC1.2.2.2.2.2.2 j hj
    · rw [mp_o (by decide)]; exact kp_9 k4 hn
    · exact mp_p _ _
    · rw [mp_o (by decide), kp_22 k4 hn hj hw, h24 _ _ _ (by decide), fm (22, 0, 0) (by decide) (by decide) (.inr (by decide))]
      by_cases e4 : n = 4
      · simp only [if_pos e4] at hj ⊢
        by_cases ej : j = 3
        · rw [if_pos ej, if_pos ej]
        · rw [if_neg ej, if_neg ej]; exact hM1.2.2.1 (j + 1) (by omega) w hw
      · simp only [if_neg e4] at hj ⊢
        by_cases ej : j = n
        · rw [if_pos ej, if_pos ej]
        · rw [if_neg ej, if_neg ej]; exact hM1.2.2.1 j (by omega) w hw
    · refine ⟨?_, fun j hj => ?_⟩
      · rw [mp_o (by decide), kp_f (by omega), h24 _ _ _ (by decide), s4]; exact hM1.2.2.2.1
      · rw [mp_o (by decide), kp_o (by decide) (by decide) (by decide), h24 _ _ _ (by decide), fm _ (by decide) (by decide) (.inr (by decide))]; exact hM1.2.2.2.2 j hj
end PAIR
