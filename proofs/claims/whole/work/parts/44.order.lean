/-! orders of the class -/
def o_res (x : Int32 × (Nat → Int32)) (P : Nat → Int32) (nm : Bool) : Int32 × (Nat → Int32) := if x.1 < 0 then (if nm then 3 else 2, P) else (0, x.2)
def o_stp (P : Nat → Int32) (l f s : Nat) : Int32 × (Nat → Int32) :=
  if l = 103 then o_res (o_give P (nI f) (nI s)) P (mB P (nI f))
  else if l = 108 then o_res (o_borrow P (nI f) (nI s)) P (tB P (nI f) && mB P (nI s))
  else if l = 98 then o_res (o_back P (nI f)) P (tB P (nI f))
  else o_res (o_sharp P) P true
def o_run (c : Nat → Nat) (n : Nat) : Nat → (Nat → Int32) → Nat → Nat → Int32 × Nat × Nat × (Nat → Int32)
  | 0, P, p, k => (0, p, k, P)
  | fu + 1, P, p, k => if n ≤ p then (0, p, k, P) else match t_prs c n p with
    | none => (1, p, k, P)
    | some (l, f, s, q) => if (o_stp P l f s).1 = 0 then o_run c n fu (o_stp P l f s).2 q (k + 1) else ((o_stp P l f s).1, p, k, P)
theorem prs_q {c : Nat → Nat} {n p l f s q : Nat} (h : t_prs c n p = some (l, f, s, q)) : p + 2 ≤ q ∧ q ≤ n ∧ (l = 103 ∨ l = 108 ∨ l = 98 ∨ l = 115) ∧ c p = l := by
  unfold t_prs at h
  by_cases c1 : c p = 115
  · rw [if_pos c1] at h
    by_cases c2 : t_is c n (p + 1) 59 = true
    · rw [if_pos c2] at h
      cases h
      have := (of_decide_eq_true c2).1
      exact ⟨by omega, by omega, .inr (.inr (.inr rfl)), c1⟩
    · rw [if_neg c2] at h; cases h
  · rw [if_neg c1] at h
    by_cases c2 : c p = 98
    · rw [if_pos c2] at h
      by_cases c3 : t_nd c n (p + 1) = 0
      · rw [if_pos c3] at h; cases h
      · rw [if_neg c3] at h
        by_cases c4 : t_is c n (p + 1 + t_nd c n (p + 1)) 59 = true
        · rw [if_pos c4] at h
          cases h
          have := (of_decide_eq_true c4).1
          exact ⟨by omega, by omega, .inr (.inr (.inl rfl)), c2⟩
        · rw [if_neg c4] at h; cases h
    · rw [if_neg c2] at h
      by_cases c3 : c p = 103 ∨ c p = 108
      · rw [if_pos c3] at h
        by_cases c4 : t_nd c n (p + 1) = 0
        · rw [if_pos c4] at h; cases h
        · rw [if_neg c4] at h
          by_cases c5 : t_is c n (p + 1 + t_nd c n (p + 1)) 44 = true
          · rw [if_pos c5] at h
            by_cases c6 : t_nd c n (p + 1 + t_nd c n (p + 1) + 1) = 0
            · rw [if_pos c6] at h; cases h
            · rw [if_neg c6] at h
              by_cases c7 : t_is c n (p + 1 + t_nd c n (p + 1) + 1 + t_nd c n (p + 1 + t_nd c n (p + 1) + 1)) 59 = true
              · rw [if_pos c7] at h
                cases h
                have := (of_decide_eq_true c7).1
                exact ⟨by omega, by omega, c3.elim .inl (fun z => .inr (.inl z)), rfl⟩
              · rw [if_neg c7] at h; cases h
          · rw [if_neg c5] at h; cases h
      · rw [if_neg c3] at h; cases h
theorem IP_res {P : Nat → Int32} {b D : Nat} {x : Int32 × (Nat → Int32)} {nm : Bool} (h : ¬ x.1 < 0 → sh_IP x.2 D) (hz : (o_res x P nm).1 = 0) : sh_IP (o_res x P nm).2 D := by
  unfold o_res at hz ⊢
  by_cases c : x.1 < 0
  · rw [if_pos c] at hz
    cases nm
    · exact absurd (show (2 : Int32) = 0 from hz) (by decide)
    · exact absurd (show (3 : Int32) = 0 from hz) (by decide)
  · rw [if_neg c]; exact h c
theorem IP_stp {P : Nat → Int32} {b l f s : Nat} (I : sh_IP P b) (hb : b ≤ sh_LIM) (hz : (o_stp P l f s).1 = 0) : sh_IP (o_stp P l f s).2 (b + 60000) := by
  unfold o_stp at hz ⊢
  by_cases c1 : l = 103
  · rw [if_pos c1] at hz ⊢
    exact IP_res (b := b) (fun h => IP_mono (IP_give I hb h) (by omega)) hz
  · rw [if_neg c1] at hz ⊢
    by_cases c2 : l = 108
    · rw [if_pos c2] at hz ⊢
      exact IP_res (b := b) (fun h => IP_mono (IP_borrow I h) (by omega)) hz
    · rw [if_neg c2] at hz ⊢
      by_cases c3 : l = 98
      · rw [if_pos c3] at hz ⊢
        exact IP_res (b := b) (fun h => IP_back I hb h) hz
      · rw [if_neg c3] at hz ⊢
        exact IP_res (b := b) (fun h => IP_mono (IP_sharp I hb h) (by omega)) hz
theorem RS_agree {k : Nat} {P : Nat → Int32} {S S' : sh_S} (R : sh_RS k P S S) (h : ∀ o, sh_own k o = true → S' o = S o) : sh_RS k P S' S' := by
  refine ⟨fun _ _ => rfl, ⟨fun j hj => ?_, ?_, ?_, ?_, ?_, ?_, fun j hj => ?_⟩, fun m hm w hw => ?_, fun t ht => ?_⟩
  · rw [h _ own15]; exact R.set hj
  · rw [h _ own6]; exact R.day
  · rw [h _ own2]; exact R.mem
  · rw [h _ own6]; exact R.add
  · rw [h _ own2]; exact R.ptr
  · rw [h _ own2]; exact R.inT
  · rw [h _ own11]; exact R.trn hj
  · rw [h _ own10]; exact R.row hm hw
  · rw [h _ own7, h _ own13, h _ own14, h _ own5]; exact R.tol ht
theorem own3 {k : Nat} : sh_own k (3, 0, 0) = false := decide_eq_false fun z => by
  rcases z.2 with z | z | z | z | z | z | z | z | z | z <;> exact absurd z (by decide)
theorem RS_nx {k p : Nat} {P : Nat → Int32} {S : sh_S} (R : sh_RS k P S S) : sh_RS k P (sh_nx S p) (sh_nx S p) := RS_agree R fun o ho => nx_o fun e => by
  subst e; rw [own3] at ho; exact Bool.noConfusion ho
section CORDER
variable {g : sh_G} {S S0 : sh_S} {P : Nat → Int32} {sz b n : Nat} {c : Nat → Nat} {Q : Int32 → sh_S → Prop} {U : sh_S → Prop}
/-- what comes of an order -/
def sh_oc (Q : Int32 → sh_S → Prop) (S0 S : sh_S) (x : Int32 × (Nat → Int32)) : Prop := (x.1 ≠ 0 → Q x.1 S) ∧ (x.1 = 0 → ∀ S', sh_RS 1 x.2 S0 S' → Q 0 S')
theorem oc_kg {x : Int32 × (Nat → Int32)} {nm : Bool} (h : sh_oc Q S0 S (o_res x P nm)) : sh_kg (fun r S' => (r < 0 → Q (if nm then 3 else 2) S') ∧ (¬ r < 0 → Q 0 S')) 1 S0 S x := by
  unfold o_res sh_oc at h
  refine ⟨fun z => ⟨fun _ => ?_, fun y => absurd z y⟩, fun z S' R' => ⟨fun y => absurd y z, fun _ => ?_⟩⟩
  · rw [if_pos z] at h
    refine h.1 ?_
    cases nm
    · exact show (2 : Int32) ≠ 0 by decide
    · exact show (3 : Int32) ≠ 0 by decide
  · rw [if_neg z] at h
    exact h.2 rfl S' R'
theorem k_carryOut (hb : b ≤ sh_LIM) (R : sh_RS 1 P S0 S) (I : sh_IP P b) {l f s : Nat} (hl : l = 103 ∨ l = 108 ∨ l = 98 ∨ l = 115) (h : sh_oc Q S0 S (o_stp P l f s)) : sh_Ci g mX3_carryOut [sh_R (3, 0, 0), sh_R (6, 1, 0), sh_I (nI l), sh_I (nI f), sh_I (nI s)] S sz Q := by
  have hb2 : b < 2 ^ 30 := by unfold sh_LIM at hb; omega
  have hk : 1 < 7 := by decide
  unfold o_stp at h
  have hne : ∀ a : Nat, a ≤ 200 → (nI l = nI a ↔ l = a) := fun a ha => nI_eq (by omega) (by omega)
  have e103 : nI l = 103 ↔ l = 103 := hne 103 (by omega)
  have e108 : nI l = 108 ↔ l = 108 := hne 108 (by omega)
  have e98 : nI l = 98 ↔ l = 98 := hne 98 (by omega)
  refine wp_X3_carryOut (ok6 hk) ?_
  rw [e103, e108, e98]
  refine ⟨fun c1 => ⟨fun c2 => ⟨fun c3 => ?_, fun c3 => ?_⟩, fun c2 => ?_⟩, fun c1 => ?_⟩
  · rw [if_neg c1, if_neg c2, if_neg c3] at h
    exact k_sharpenDullest hk R I (oc_kg h)
  · rw [if_neg c1, if_neg c2, if_pos c3] at h
    refine k_hasTool hk R I.B ?_
    cases hm : tB P (nI f) <;> rw [hm] at h <;> have k := oc_kg h
    · exact k_takeBack hk R I ⟨fun z => ⟨fun y => wt rfl ((k.1 z).1 y), (k.1 z).2⟩, fun z S' R' => ⟨fun y => absurd y z, (k.2 z S' R').2⟩⟩
    · exact k_takeBack hk R I ⟨fun z => ⟨fun y => wf (by decide) ((k.1 z).1 y), (k.1 z).2⟩, fun z S' R' => ⟨fun y => absurd y z, (k.2 z S' R').2⟩⟩
  · rw [if_neg c1, if_pos c2] at h
    refine k_hasTool hk R I.B ?_
    cases hm : tB P (nI f) <;> rw [hm] at h
    · rw [Bool.false_and] at h
      exact wt rfl (k_lendToMember hk R I (oc_kg h))
    · refine wf (by decide) (k_has hk R I.B ?_)
      rw [Bool.true_and] at h
      cases hm2 : mB P (nI s) <;> rw [hm2] at h
      · exact wt rfl (k_lendToMember hk R I (oc_kg h))
      · exact wf (by decide) (k_lendToMember hk R I (oc_kg h))
  · rw [if_pos c1] at h
    refine k_has hk R I.B ?_
    cases hm : mB P (nI f) <;> rw [hm] at h <;> have k := oc_kg h
    · exact k_takeGift hk R I (give_hp I hb) ⟨fun z => ⟨fun y => wt rfl ((k.1 z).1 y), (k.1 z).2⟩, fun z S' R' => ⟨fun y => absurd y z, (k.2 z S' R').2⟩⟩
    · exact k_takeGift hk R I (give_hp I hb) ⟨fun z => ⟨fun y => wf (by decide) ((k.1 z).1 y), (k.1 z).2⟩, fun z S' R' => ⟨fun y => absurd y z, (k.2 z S' R').2⟩⟩
theorem k_runOrder (hb : b ≤ sh_LIM) (K : tx_k c n) (T : tx_c c n S) {p : Nat} (hp : p < n) (e : S (3, 0, 0) 2 = nI p) (R : sh_RS 1 P S S) (I : sh_IP P b) (h0 : t_prs c n p = none → ∀ q, Q 1 (sh_nx S q))
    (h1 : ∀ l f s q, t_prs c n p = some (l, f, s, q) → sh_oc Q (sh_nx S q) (sh_nx S q) (o_stp P l f s)) : sh_Ci g mX3_runOrder [sh_R (3, 0, 0), sh_R (6, 1, 0)] S sz Q := by
  have hn := K.1
  obtain ⟨hc1, hc2⟩ := K.2 p hp
  have hnv : ∀ a j : Nat, (∀ q, q < j → t_dg c n (a + q) = true) → j ≤ 3 → ¬ nI (t_v c a j) < 0 := fun a j h1 h2 => by
    have := tv_lt j h1
    have : 10 ^ j ≤ 10 ^ 3 := Nat.pow_le_pow_right (by omega) h2
    exact nI_pos (by omega)
  have hdg : ∀ a q, q < t_nd c n a → t_dg c n (a + q) = true := fun a q hq => by
    unfold t_nd at hq
    by_cases d0 : t_dg c n a = true
    · rw [if_pos d0] at hq
      by_cases d1 : t_dg c n (a + 1) = true
      · rw [if_pos d1] at hq
        by_cases d2 : t_dg c n (a + 2) = true
        · rw [if_pos d2] at hq
          have : q = 0 ∨ q = 1 ∨ q = 2 := by omega
          rcases this with rfl | rfl | rfl
          · exact d0
          · exact d1
          · exact d2
        · rw [if_neg d2] at hq
          have : q = 0 ∨ q = 1 := by omega
          rcases this with rfl | rfl
          · exact d0
          · exact d1
      · rw [if_neg d1] at hq
        obtain rfl : q = 0 := by omega
        exact d0
    · rw [if_neg d0] at hq; omega
  have h3 := fun a => nd_3 (c := c) (n := n) (p := a)
  have hle : ∀ a, a ≤ n → a + t_nd c n a ≤ n := fun a ha => nd_le ha
  refine wp_X3_runOrder (ok6 (by decide)) (k_peek K T (p := p) (by omega) e ?_)
  rw [if_pos hp]
  have hS3 : sh_sr S (3, 0, 0) (upd (S (3, 0, 0)) 2 (S (3, 0, 0) 2 + 1)) = sh_nx S (p + 1) := by rw [e, nI_1]; rfl
  rw [hS3]
  rintro _ rfl
  have e103 : nI (c p) = 103 ↔ c p = 103 := nI_eq (b := 103) (by omega) (by omega)
  have e108 : nI (c p) = 108 ↔ c p = 108 := nI_eq (b := 108) (by omega) (by omega)
  have e98 : nI (c p) = 98 ↔ c p = 98 := nI_eq (b := 98) (by omega) (by omega)
  have e115 : nI (c p) = 115 ↔ c p = 115 := nI_eq (b := 115) (by omega) (by omega)
  have two : (c p = 103 ∨ c p = 108) → (sh_Ci g mX3_readNumber [sh_R (3, 0, 0)] (sh_nx S (p + 1)) sz (fun r6 S5 => (sh_Ci g mX3_takes [sh_R (3, 0, 0), sh_I 44] S5 sz (fun r8 S7 => ((r8 = 0 → ((r6 < 0 → Q 1 S7) ∧ (¬ r6 < 0 → Q 1 S7))) ∧ (¬ r8 = 0 → (sh_Ci g mX3_readNumber [sh_R (3, 0, 0)] S7 sz (fun r13 S12 => ((r6 < 0 → Q 1 S12) ∧ (¬ r6 < 0 → ((r13 < 0 → Q 1 S12) ∧ (¬ r13 < 0 → (sh_Ci g mX3_takes [sh_R (3, 0, 0), sh_I 59] S12 sz (fun r17 S16 => ((¬ r17 = 0 → (sh_Ci g mX3_carryOut [sh_R (3, 0, 0), sh_R (6, 1, 0), sh_I (nI (c p)), sh_I r6, sh_I r13] S16 sz (fun r20 S19 => Q r20 S19))) ∧ (r17 = 0 → Q 1 S16)))))))))))))))) := fun hl => by
    have n115 : ¬ c p = 115 := by omega
    have n98 : ¬ c p = 98 := by omega
    refine k_readNumber K T (by omega) ?_
    have hle1 := hle (p + 1) (by omega)
    by_cases d0 : t_nd c n (p + 1) = 0
    · rw [if_pos d0]
      have hnone : t_prs c n p = none := by unfold t_prs; rw [if_neg n115, if_neg n98, if_pos hl, if_pos d0]
      have h0 := h0 hnone
      refine k_takes K T (s := 44) (by omega) (by omega) rfl (fun z => wf (by decide) (k_readNumber K T (p := p + 1 + t_nd c n (p + 1) + 1) (by omega) (wt (by decide) (h0 _)))) (fun z => wt rfl ⟨fun _ => h0 _, fun _ => h0 _⟩)
    · rw [if_neg d0]
      have hn1 := hnv (p + 1) _ (hdg (p + 1)) (h3 _)
      refine k_takes K T (s := 44) (by omega) (by omega) rfl (fun z => wf (by decide) ?_) (fun z => ?_)
      · have hlt1 := (of_decide_eq_true z).1
        have hle2 := hle (p + 1 + t_nd c n (p + 1) + 1) (by omega)
        refine k_readNumber K T (p := p + 1 + t_nd c n (p + 1) + 1) (by omega) (wf hn1 ?_)
        by_cases d2 : t_nd c n (p + 1 + t_nd c n (p + 1) + 1) = 0
        · rw [if_pos d2]
          have hnone : t_prs c n p = none := by unfold t_prs; rw [if_neg n115, if_neg n98, if_pos hl, if_neg d0, if_pos z, if_pos d2]
          exact wt (by decide) (h0 hnone _)
        · rw [if_neg d2]
          refine wf (hnv _ _ (hdg _) (h3 _)) (k_takes K T (s := 59) (by omega) (by omega) rfl (fun z2 => wf' (by decide) ?_) (fun z2 => ?_))
          · have hsome : t_prs c n p = some (c p, t_v c (p + 1) (t_nd c n (p + 1)), t_v c (p + 1 + t_nd c n (p + 1) + 1) (t_nd c n (p + 1 + t_nd c n (p + 1) + 1)), p + 1 + t_nd c n (p + 1) + 1 + t_nd c n (p + 1 + t_nd c n (p + 1) + 1) + 1) := by unfold t_prs; rw [if_neg n115, if_neg n98, if_pos hl, if_neg d0, if_pos z, if_neg d2, if_pos z2]
            exact k_carryOut hb (RS_nx R) I (hl.elim .inl fun z => .inr (.inl z)) (h1 _ _ _ _ hsome)
          · have hnone : t_prs c n p = none := by unfold t_prs; rw [if_neg n115, if_neg n98, if_pos hl, if_neg d0, if_pos z, if_neg d2, if_neg (by rw [z2]; decide)]
            exact wt' rfl (h0 hnone _)
      · have hnone : t_prs c n p = none := by unfold t_prs; rw [if_neg n115, if_neg n98, if_pos hl, if_neg d0, if_neg (by rw [z]; decide)]
        exact wt rfl ⟨fun _ => h0 hnone _, fun _ => h0 hnone _⟩
  rw [e103, e108, e98, e115]
  refine ⟨fun c1 => two (.inl c1), fun c1 => ⟨fun c2 => ⟨fun c3 => ⟨fun c4 => ?_, fun c4 => ?_⟩, fun c3 => ?_⟩, fun c2 => two (.inr c2)⟩⟩
  · refine k_takes K T (s := 59) (by omega) (by omega) rfl (fun z2 => wf' (by decide) ?_) (fun z2 => wt' rfl ?_)
    · have hsome : t_prs c n p = some (115, 0, 0, p + 2) := by unfold t_prs; rw [if_pos c4, if_pos z2]
      have k := k_carryOut (g := g) (sz := sz) hb (RS_nx R) I (.inr (.inr (.inr rfl))) (h1 _ _ _ _ hsome)
      rw [c4]; exact k
    · have hnone : t_prs c n p = none := by unfold t_prs; rw [if_pos c4, if_neg (by rw [z2]; decide)]
      exact h0 hnone _
  · have hnone : t_prs c n p = none := by unfold t_prs; rw [if_neg c4, if_neg c3, if_neg (fun y => y.elim c1 c2)]
    exact h0 hnone _
  · have n115 : ¬ c p = 115 := by omega
    refine k_readNumber K T (by omega) ?_
    have hle1 := hle (p + 1) (by omega)
    by_cases d0 : t_nd c n (p + 1) = 0
    · rw [if_pos d0]
      have hnone : t_prs c n p = none := by unfold t_prs; rw [if_neg n115, if_pos c3, if_pos d0]
      exact wt (by decide) (h0 hnone _)
    · rw [if_neg d0]
      refine wf (hnv _ _ (hdg _) (h3 _)) (k_takes K T (s := 59) (by omega) (by omega) rfl (fun z2 => wf' (by decide) ?_) (fun z2 => wt' rfl ?_))
      · have hsome : t_prs c n p = some (98, t_v c (p + 1) (t_nd c n (p + 1)), 0, p + 1 + t_nd c n (p + 1) + 1) := by unfold t_prs; rw [if_neg n115, if_pos c3, if_neg d0, if_pos z2]
        have k := k_carryOut (g := g) (sz := sz) hb (RS_nx R) I (.inr (.inr (.inl rfl))) (h1 _ _ _ _ hsome)
        rw [c3]; exact k
      · have hnone : t_prs c n p = none := by unfold t_prs; rw [if_neg n115, if_pos c3, if_neg d0, if_neg (by rw [z2]; decide)]
        exact h0 hnone _
theorem o18 {k : Nat} : sh_own k (18, 0, 0) = false := decide_eq_false fun z => by
  rcases z.2 with z | z | z | z | z | z | z | z | z | z <;> exact absurd z (by decide)
theorem k_tryOn (hb : b + 2000000 ≤ sh_LIM) (K : tx_k c n) (T : tx_c c n S) (R : sh_RS 0 P S S) (I : sh_IP P b)
    (h : ∀ S', (∀ o, sh_own 1 o = false → o ≠ (3, 0, 0) → S' o = S o) → S' (3, 0, 0) 1 = S (3, 0, 0) 1 → S' (3, 0, 0) 4 = (o_run c n 60 P 0 0).1 → ((o_run c n 60 P 0 0).1 ≠ 0 → S' (3, 0, 0) 3 = nI (o_run c n 60 P 0 0).2.1) → S' (3, 0, 0) 5 = nI (o_run c n 60 P 0 0).2.2.1 →
      ((o_run c n 60 P 0 0).1 = 0 → sh_RS 1 (o_run c n 60 P 0 0).2.2.2 S' S' ∧ sh_IP (o_run c n 60 P 0 0).2.2.2 (b + 1800000)) → U S') :
    sh_Cu g mX3_tryOn [sh_R (3, 0, 0), sh_R (6, 1, 0), sh_R (6, 0, 0)] S sz U := by
  have hn := K.1
  refine wp_X3_tryOn (ok6 (by decide)) (ok6 (by decide)) (k_copyShed (by decide) (by decide) (by decide) R fun S1 R1 => ?_)
  rintro _ rfl _ rfl _ rfl
  simp only [sr_sr, sh_sr_s]
  generalize hz : o_run c n 60 P 0 0 = z at h ⊢
  have e31 : S1 (3, 0, 0) = S (3, 0, 0) := R1.1 _ own3
  refine ⟨fun i S' => ∃ j, j ≤ 60 ∧ i = nI j ∧ (∀ o, sh_own 1 o = false → o ≠ (3, 0, 0) → S' o = S o) ∧ S' (3, 0, 0) 1 = nI n ∧
      ((S' (3, 0, 0) 4 = 0 ∧ ∃ P' p q, S' (3, 0, 0) 2 = nI p ∧ p ≤ n ∧ 2 * j ≤ p ∧ S' (3, 0, 0) 5 = nI q ∧ sh_RS 1 P' S' S' ∧ sh_IP P' (b + 30000 * p) ∧ o_run c n (60 - j) P' p q = z) ∨
       (S' (3, 0, 0) 4 = z.1 ∧ z.1 ≠ 0 ∧ S' (3, 0, 0) 3 = nI z.2.1 ∧ S' (3, 0, 0) 5 = nI z.2.2.1)), fun i _ => 60 - i.toNatClampNeg, ⟨0, by omega, rfl, fun o h1 h2 => ?_, ?_, .inl ⟨?_, P, 0, 0, ?_, by omega, by omega, ?_, ?_, ?_, hz⟩⟩, ?_⟩
  · rw [sr_o h2]; exact R1.1 o h1
  · rw [sh_sr_s, upd_ne (by omega), upd_ne (by omega), upd_ne (by omega), e31]; exact T.1
  · rw [sh_sr_s, upd_eq]
  · rw [sh_sr_s, upd_ne (by omega), upd_ne (by omega), upd_eq]; rfl
  · rw [sh_sr_s, upd_ne (by omega), upd_eq]; rfl
  · exact RS_agree (RS_refl R1) fun o ho => sr_o fun y => by subst y; rw [own3] at ho; exact Bool.noConfusion ho
  · exact IP_mono I (by omega)
  · rintro _ S2 ⟨j, hj, rfl, hfr, hlen, hst⟩
    have hfin : z.1 ≠ 0 → S2 (3, 0, 0) 4 = z.1 → S2 (3, 0, 0) 3 = nI z.2.1 → S2 (3, 0, 0) 5 = nI z.2.2.1 → U S2 := fun a1 a2 a3 a4 =>
      h S2 hfr (hlen.trans T.1.symm) a2 (fun _ => a3) a4 (fun y => absurd y a1)
    refine wc (fun y => ?_) (fun y => ?_)
    · obtain rfl := lp_end hj (by omega) y
      rcases hst with ⟨a1, P', p, q, a2, a3, a4, _⟩ | ⟨a1, a2, a3, a4⟩
      · omega
      · exact hfin a2 a1 a3 a4
    · have hlt := lp_go (by omega) hj y
      rcases hst with ⟨a1, P', p, q, a2, a3, a4, a5, a6, a7, a8⟩ | ⟨a1, a2, a3, a4⟩
      · rw [hlen, a2, a1]
        have ef : 60 - j = (60 - (j + 1)) + 1 := by omega
        rw [ef] at a8
        refine wc (fun y2 => ?_) (fun y2 => wt' rfl ?_)
        · have y2 := (nI_leI (by omega) (by omega)).mp y2
          have hz2 : z = (0, p, q, P') := by
            rw [← a8]
            show (if n ≤ p then _ else _) = _
            rw [if_pos y2]
          subst hz2
          exact h S2 hfr (hlen.trans T.1.symm) a1 (fun y => absurd rfl y) a5 (fun _ => ⟨a6, IP_mono a7 (by omega)⟩)
        · have y2 : p < n := Nat.lt_of_not_le fun w => y2 (nI_le w (by omega))
          rintro _ rfl
          have hrun : z = match t_prs c n p with
              | none => (1, p, q, P')
              | some (l, f, s, q') => if (o_stp P' l f s).1 = 0 then o_run c n (60 - (j + 1)) (o_stp P' l f s).2 q' (q + 1) else ((o_stp P' l f s).1, p, q, P') := by
            rw [← a8]
            show (if n ≤ p then _ else _) = _
            rw [if_neg (by omega)]
          generalize hS3 : sh_sr S2 (3, 0, 0) (upd (S2 (3, 0, 0)) 3 (nI p)) = S3
          have e3 : S3 (3, 0, 0) = upd (S2 (3, 0, 0)) 3 (nI p) := by rw [← hS3, sh_sr_s]
          have eo : ∀ o, o ≠ (3, 0, 0) → S3 o = S2 o := fun o ho => by rw [← hS3, sr_o ho]
          have T3 : tx_c c n S3 := ⟨by rw [e3, upd_ne (by omega)]; exact hlen, fun i hi => by rw [eo _ (by decide), hfr _ o18 (by decide)]; exact T.2 i hi⟩
          have R3 : sh_RS 1 P' S3 S3 := RS_agree a6 fun o ho => eo o fun w => by subst w; rw [own3] at ho; exact Bool.noConfusion ho
          have hmu := mu_lt (N := 60) hlt (by omega)
          -- a fault at p
          have stop : ∀ (r : Int32) (S4 : sh_S), r ≠ 0 → z = (r, p, q, P') → (∀ o, o ≠ (3, 0, 0) → S4 o = S3 o) → (∀ i, i ≠ 2 → S4 (3, 0, 0) i = S3 (3, 0, 0) i) → ∀ S14 : sh_S, S14 = sh_sr S4 (3, 0, 0) (upd (S4 (3, 0, 0)) 4 r) → ((¬ S14 (3, 0, 0) 4 = 0 → ∀ x16 : Int32, x16 = nI j + 1 → ((∃ j', j' ≤ 60 ∧ x16 = nI j' ∧ (∀ o, sh_own 1 o = false → o ≠ (3, 0, 0) → S14 o = S o) ∧ S14 (3, 0, 0) 1 = nI n ∧
              ((S14 (3, 0, 0) 4 = 0 ∧ ∃ P' p q, S14 (3, 0, 0) 2 = nI p ∧ p ≤ n ∧ 2 * j' ≤ p ∧ S14 (3, 0, 0) 5 = nI q ∧ sh_RS 1 P' S14 S14 ∧ sh_IP P' (b + 30000 * p) ∧ o_run c n (60 - j') P' p q = z) ∨
               (S14 (3, 0, 0) 4 = z.1 ∧ z.1 ≠ 0 ∧ S14 (3, 0, 0) 3 = nI z.2.1 ∧ S14 (3, 0, 0) 5 = nI z.2.2.1))) ∧ 60 - x16.toNatClampNeg < 60 - (nI j).toNatClampNeg)) ∧ ¬ S14 (3, 0, 0) 4 = 0) := by
            rintro r S4 hr0 hz2 ho4 hf4 _ rfl
            refine ⟨fun _ => ?_, by rw [sh_sr_s, upd_eq]; exact hr0⟩
            rintro _ rfl
            rw [nI_1 j]
            refine ⟨⟨j + 1, hlt, rfl, fun o h1 h2 => ?_, ?_, .inr ⟨?_, ?_, ?_, ?_⟩⟩, hmu⟩
            · rw [sr_o h2, ho4 o h2, eo o h2]; exact hfr o h1 h2
            · rw [sh_sr_s, upd_ne (by omega), hf4 1 (by omega), e3, upd_ne (by omega)]; exact hlen
            · rw [sh_sr_s, upd_eq, hz2]
            · rw [hz2]; exact hr0
            · rw [sh_sr_s, upd_ne (by omega), hf4 3 (by omega), e3, upd_eq, hz2]
            · rw [sh_sr_s, upd_ne (by omega), hf4 5 (by omega), e3, upd_ne (by omega), hz2]; exact a5
          refine k_runOrder (b := b + 30000 * p) (by omega) K T3 y2 (by rw [e3, upd_ne (by omega)]; exact a2) R3 a7 (fun hno q' => ?_) (fun l f s q' hso => ⟨fun hr => ?_, fun hr S4 R4 => ?_⟩)
          · rw [hno] at hrun
            intro S14 e14
            have k := stop 1 (sh_nx S3 q') (by decide) hrun (fun o ho => nx_o ho) (fun i hi => nx_f hi) S14 e14
            exact ⟨k.1, fun w => absurd w k.2⟩
          · rw [hso] at hrun
            dsimp only at hrun
            rw [if_neg hr] at hrun
            intro S14 e14
            have k := stop (o_stp P' l f s).1 (sh_nx S3 q') hr hrun (fun o ho => nx_o ho) (fun i hi => nx_f hi) S14 e14
            exact ⟨k.1, fun w => absurd w k.2⟩
          · rw [hso] at hrun
            dsimp only at hrun
            rw [if_pos hr] at hrun
            obtain ⟨b1, b2, b3, b4⟩ := prs_q hso
            have e43 : S4 (3, 0, 0) = sh_nx S3 q' (3, 0, 0) := R4.1 _ own3
            rintro _ rfl
            refine ⟨fun w => absurd (by rw [sh_sr_s, upd_eq]) w, fun _ => ?_⟩
            rintro _ rfl _ rfl
            rw [nI_1 j]
            simp only [sr_sr, sh_sr_s]
            refine ⟨⟨j + 1, hlt, rfl, fun o h1 h2 => ?_, ?_, .inl ⟨?_, (o_stp P' l f s).2, q', q + 1, ?_, b2, by omega, ?_, ?_, ?_, hrun.symm⟩⟩, hmu⟩
            · rw [sr_o h2, R4.1 o h1, nx_o h2, eo o h2]; exact hfr o h1 h2
            · rw [upd_ne (by omega), upd_ne (by omega), e43, nx_f (by omega), e3, upd_ne (by omega)]; exact hlen
            · rw [upd_ne (by omega), upd_eq]
            · rw [upd_ne (by omega), upd_ne (by omega), e43, nx_2]
            · rw [upd_eq, upd_ne (by omega), e43, nx_f (by omega), e3, upd_ne (by omega), a5, nI_1]
            · exact RS_agree (RS_refl R4) fun o ho => sr_o fun w => by subst w; rw [own3] at ho; exact Bool.noConfusion ho
            · have hmul : 30000 * (p + 2) ≤ 30000 * q' := Nat.mul_le_mul_left _ b1
              exact IP_mono (IP_stp a7 (by omega) hr) (by omega)
      · rw [a1]
        refine ⟨fun _ => hfin a2 a1 a3 a4, fun _ => wf' a2 (hfin a2 a1 a3 a4)⟩
end CORDER
