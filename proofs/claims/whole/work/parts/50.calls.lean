/-! every call: class, then model, answer alike -/
theorem go_self {Q : Int32 → sh_S → Prop} {S : sh_S} {P : Nat → Int32} {x : Int32 × (Nat → Int32)} (h : ∀ r, sh_go Q (sh_sr S (24, 0, 0) r) P x) : sh_go Q S P x := by
  have k := h (S (24, 0, 0))
  rwa [sr_self] at k
section CALLS
variable {g : sh_G} {S : sh_S} {sz b : Nat} {P : Nat → Int32} {Q : Int32 → sh_S → Prop}
theorem c_member2 (hs : sh_ss S) (I : sh_IP P b) (h : sh_go Q S P (o_member P)) : sh_Ci g mX9_member [sh_R (9, 0, 0)] (sh_mp S P) sz Q := by
  have hl := I.ml
  have hY := nY_le I.S
  by_cases c : nM P = 10
  · unfold o_member at h
    rw [if_pos c] at h
    refine wp_X9_member ?_
    rw [mp_p]
    exact ⟨fun z => absurd (by rw [I.B.m, c]; rfl) z, fun _ => h.1 (show (-1000003 : Int32) < 0 by decide)⟩
  · exact c_member hs I (by omega) h
theorem pair_q {N M : sh_M} {as as2 : List sh_v} {b' : Nat} {r : Int32} (hbb : b ≤ b') (G : sh_GR b S) (hk : ∀ Q' : Int32 → sh_S → Prop, sh_IP (S (19, 0, 0)) b → sh_RS 0 (S (19, 0, 0)) S S → Q' r S → sh_Ci g N as S sz Q')
    (hm : ∀ Q' : Int32 → sh_S → Prop, sh_IP (S (19, 0, 0)) b → Q' r (sh_mp S (S (19, 0, 0))) → sh_Ci g M as2 (sh_mp S (S (19, 0, 0))) sz Q') : sh_Ci g N as S sz (fun r1 S1 => sh_Ci g M as2 S1 sz (sh_eq b' r1)) := by
  have G2 := GR_mono hbb G
  obtain ⟨n, σ, c, ln, P, H, ⟨hn, I, IH, K⟩, hC, hM⟩ := G
  obtain ⟨c1, c2, c3, c4, c5, c6⟩ := hC
  obtain ⟨m1, m2, m3, m4⟩ := hM
  rw [m2] at hk hm
  refine hk _ I c4 ?_
  have k := hm (sh_eq b' r) I
  rw [← m2, mp_self] at k
  exact k ⟨rfl, G2⟩
theorem L_set (G : sh_GR b S) (hb : b + 2000000 ≤ sh_LIM) {w v : Int32} : sh_Ci g mX8_set [sh_R (8, 0, 0), sh_I w, sh_I v] S sz (fun r1 S1 => sh_Ci g mX9_set [sh_R (9, 0, 0), sh_I w, sh_I v] S1 sz (sh_eq (b + 2000000) r1)) :=
  wp_X8_set (pair_op (x := o_set (S (19, 0, 0)) w v) (by omega) G (fun I h => IP_mono (IP_set I h) (by omega)) (fun S1 Q' I R k => k_changeSetting (by decide) R I k) (fun S2 Q' I ss k => c_set ss I (go_self k)))
theorem L_member (G : sh_GR b S) (hb : b + 2000000 ≤ sh_LIM) : sh_Ci g mX8_member [sh_R (8, 0, 0)] S sz (fun r1 S1 => sh_Ci g mX9_member [sh_R (9, 0, 0)] S1 sz (sh_eq (b + 2000000) r1)) :=
  wp_X8_member (pair_op (x := o_member (S (19, 0, 0))) (by omega) G (fun I h => IP_mono (IP_member I h) (by omega)) (fun S1 Q' I R k => k_join (by decide) R I (by have := nY_le I.S; have := I.ml; omega) k) (fun S2 Q' I ss k => c_member2 ss I (go_self k)))
theorem L_away (G : sh_GR b S) (hb : b + 2000000 ≤ sh_LIM) {m a : Int32} : sh_Ci g mX8_away [sh_R (8, 0, 0), sh_I m, sh_I a] S sz (fun r1 S1 => sh_Ci g mX9_away [sh_R (9, 0, 0), sh_I m, sh_I a] S1 sz (sh_eq (b + 2000000) r1)) :=
  wp_X8_away (pair_op (x := o_away (S (19, 0, 0)) m a) (by omega) G (fun I h => IP_mono (IP_away I h) (by omega)) (fun S1 Q' I R k => k_putAway (by decide) R I k) (fun S2 Q' I ss k => c_away ss I (go_self k)))
theorem L_leave (G : sh_GR b S) (hb : b + 2000000 ≤ sh_LIM) {m : Int32} : sh_Ci g mX8_leave [sh_R (8, 0, 0), sh_I m] S sz (fun r1 S1 => sh_Ci g mX9_leave [sh_R (9, 0, 0), sh_I m] S1 sz (sh_eq (b + 2000000) r1)) :=
  wp_X8_leave (pair_op (x := o_leave (S (19, 0, 0)) m) (by omega) G (fun I h => IP_mono (IP_leave I (by omega) h) (by omega)) (fun S1 Q' I R k => k_letLeave (by decide) (by unfold sh_LIM at hb; omega) R I k) (fun S2 Q' I ss k => c_leave ss (by unfold sh_LIM at hb; omega) I (go_self k)))
theorem L_give (G : sh_GR b S) (hb : b + 2000000 ≤ sh_LIM) {m q : Int32} : sh_Ci g mX8_give [sh_R (8, 0, 0), sh_I m, sh_I q] S sz (fun r1 S1 => sh_Ci g mX9_give [sh_R (9, 0, 0), sh_I m, sh_I q] S1 sz (sh_eq (b + 2000000) r1)) :=
  wp_X8_give (pair_op (x := o_give (S (19, 0, 0)) m q) (by omega) G (fun I h => IP_mono (IP_give I (by omega) h) (by omega)) (fun S1 Q' I R k => k_takeGift (by decide) R I (give_hp I (by omega)) k) (fun S2 Q' I ss k => c_give ss I (give_hp I (by omega)) (go_self k)))
theorem L_tool (G : sh_GR b S) (hb : b + 2000000 ≤ sh_LIM) {a v w : Int32} : sh_Ci g mX8_tool [sh_R (8, 0, 0), sh_I a, sh_I v, sh_I w] S sz (fun r1 S1 => sh_Ci g mX9_tool [sh_R (9, 0, 0), sh_I a, sh_I v, sh_I w] S1 sz (sh_eq (b + 2000000) r1)) :=
  wp_X8_tool (pair_op (x := o_tool (S (19, 0, 0)) a v w) (by omega) G (fun I h => IP_mono (IP_tool I h) (by omega)) (fun S1 Q' I R k => k_addTool (by decide) R I k) (fun S2 Q' I ss k => c_tool ss I (go_self k)))
theorem L_hang (G : sh_GR b S) (hb : b + 2000000 ≤ sh_LIM) {t w q : Int32} : sh_Ci g mX8_hang [sh_R (8, 0, 0), sh_I t, sh_I w, sh_I q] S sz (fun r1 S1 => sh_Ci g mX9_hang [sh_R (9, 0, 0), sh_I t, sh_I w, sh_I q] S1 sz (sh_eq (b + 2000000) r1)) :=
  wp_X8_hang (pair_op (x := o_hang (S (19, 0, 0)) t w q) (by omega) G (fun I h => IP_mono (IP_hang I h) (by omega)) (fun S1 Q' I R k => k_hangTool (by decide) R I k) (fun S2 Q' I ss k => c_hang ss I (go_self k)))
theorem L_borrow (G : sh_GR b S) (hb : b + 2000000 ≤ sh_LIM) {t m : Int32} : sh_Ci g mX8_borrow [sh_R (8, 0, 0), sh_I t, sh_I m] S sz (fun r1 S1 => sh_Ci g mX9_borrow [sh_R (9, 0, 0), sh_I t, sh_I m] S1 sz (sh_eq (b + 2000000) r1)) :=
  wp_X8_borrow (pair_op (x := o_borrow (S (19, 0, 0)) t m) (by omega) G (fun I h => IP_mono (IP_borrow I h) (by omega)) (fun S1 Q' I R k => k_lendToMember (by decide) R I k) (fun S2 Q' I ss k => c_borrow ss I (go_self k)))
theorem L_giveBack (G : sh_GR b S) (hb : b + 2000000 ≤ sh_LIM) {t : Int32} : sh_Ci g mX8_giveBack [sh_R (8, 0, 0), sh_I t] S sz (fun r1 S1 => sh_Ci g mX9_giveBack [sh_R (9, 0, 0), sh_I t] S1 sz (sh_eq (b + 2000000) r1)) :=
  wp_X8_giveBack (pair_op (x := o_back (S (19, 0, 0)) t) (by omega) G (fun I h => IP_mono (IP_back I (by omega) h) (by omega)) (fun S1 Q' I R k => k_takeBack (by decide) R I k) (fun S2 Q' I ss k => c_back ss I (go_self k)))
theorem L_sharpen (G : sh_GR b S) (hb : b + 2000000 ≤ sh_LIM) : sh_Ci g mX8_sharpen [sh_R (8, 0, 0)] S sz (fun r1 S1 => sh_Ci g mX9_sharpen [sh_R (9, 0, 0)] S1 sz (sh_eq (b + 2000000) r1)) :=
  wp_X8_sharpen (pair_op (x := o_sharp (S (19, 0, 0))) (by omega) G (fun I h => IP_mono (IP_sharp I (by omega) h) (by omega)) (fun S1 Q' I R k => k_sharpenDullest (by decide) R I k) (fun S2 Q' I ss k => c_sharpen ss I (go_self k)))
theorem L_swap (G : sh_GR b S) (hb : b + 2000000 ≤ sh_LIM) {x y : Int32} : sh_Ci g mX8_swap [sh_R (8, 0, 0), sh_I x, sh_I y] S sz (fun r1 S1 => sh_Ci g mX9_swap [sh_R (9, 0, 0), sh_I x, sh_I y] S1 sz (sh_eq (b + 2000000) r1)) :=
  wp_X8_swap (pair_op (x := o_swap (S (19, 0, 0)) x y) (by omega) G (fun I h => IP_mono (IP_swap I h) (by omega)) (fun S1 Q' I R k => k_swapTurns (by decide) R I k) (fun S2 Q' I ss k => c_swap ss I (go_self k)))
theorem L_lose (G : sh_GR b S) (hb : b + 2000000 ≤ sh_LIM) {t : Int32} : sh_Ci g mX8_lose [sh_R (8, 0, 0), sh_I t] S sz (fun r1 S1 => sh_Ci g mX9_lose [sh_R (9, 0, 0), sh_I t] S1 sz (sh_eq (b + 2000000) r1)) :=
  wp_X8_lose (pair_op (x := o_lose (S (19, 0, 0)) t) (by omega) G (fun I h => IP_mono (IP_lose I h) (by omega)) (fun S1 Q' I R k => k_loseTool (by decide) R I k) (fun S2 Q' I ss k => c_lose ss I k))
theorem L_say (G : sh_GR b S) (hb : b + 2000000 ≤ sh_LIM) {t m w : Int32} : sh_Ci g mX8_say [sh_R (8, 0, 0), sh_I t, sh_I m, sh_I w] S sz (fun r1 S1 => sh_Ci g mX9_say [sh_R (9, 0, 0), sh_I t, sh_I m, sh_I w] S1 sz (sh_eq (b + 2000000) r1)) :=
  wp_X8_say (pair_op (x := o_say (S (19, 0, 0)) t m w) (by omega) G (fun I h => IP_mono (IP_say I (by omega) h) (by omega)) (fun S1 Q' I R k => k_hearPanel (by decide) (by unfold sh_LIM at hb; omega) R I k) (fun S2 Q' I ss k => c_say ss I (go_self k)))
theorem L_find (G : sh_GR b S) (hb : b + 2000000 ≤ sh_LIM) {t : Int32} : sh_Ci g mX8_find [sh_R (8, 0, 0), sh_I t] S sz (fun r1 S1 => sh_Ci g mX9_find [sh_R (9, 0, 0), sh_I t] S1 sz (sh_eq (b + 2000000) r1)) :=
  wp_X8_find (pair_op (x := o_find (S (19, 0, 0)) t) (by omega) G (fun I h => IP_mono (IP_find I h) (by omega)) (fun S1 Q' I R k => k_findTool (by decide) R I k) (fun S2 Q' I ss k => c_find ss I (go_self k)))
theorem L_propose (G : sh_GR b S) (hb : b + 2000000 ≤ sh_LIM) {t c0 b0 : Int32} : sh_Ci g mX8_propose [sh_R (8, 0, 0), sh_I t, sh_I c0, sh_I b0] S sz (fun r1 S1 => sh_Ci g mX9_propose [sh_R (9, 0, 0), sh_I t, sh_I c0, sh_I b0] S1 sz (sh_eq (b + 2000000) r1)) :=
  wp_X8_propose (pair_op (x := o_propose (S (19, 0, 0)) t c0 b0) (by omega) G (fun I h => IP_mono (IP_propose I h) (by omega)) (fun S1 Q' I R k => k_openProposal (by decide) R I k) (fun S2 Q' I ss k => c_propose ss I (go_self k)))
theorem L_vote (G : sh_GR b S) (hb : b + 2000000 ≤ sh_LIM) {t m y : Int32} : sh_Ci g mX8_vote [sh_R (8, 0, 0), sh_I t, sh_I m, sh_I y] S sz (fun r1 S1 => sh_Ci g mX9_vote [sh_R (9, 0, 0), sh_I t, sh_I m, sh_I y] S1 sz (sh_eq (b + 2000000) r1)) :=
  wp_X8_vote (pair_op (x := o_vote (S (19, 0, 0)) t m y) (by omega) G (fun I h => IP_mono (IP_vote I (by omega) h) (by omega)) (fun S1 Q' I R k => k_takeVote (by decide) R I k) (fun S2 Q' I ss k => c_vote ss I (go_self k)))
theorem L_lendOut (G : sh_GR b S) (hb : b + 2000000 ≤ sh_LIM) {t s d f : Int32} : sh_Ci g mX8_lendOut [sh_R (8, 0, 0), sh_I t, sh_I s, sh_I d, sh_I f] S sz (fun r1 S1 => sh_Ci g mX9_lendOut [sh_R (9, 0, 0), sh_I t, sh_I s, sh_I d, sh_I f] S1 sz (sh_eq (b + 2000000) r1)) :=
  wp_X8_lendOut (pair_op (x := o_lend (S (19, 0, 0)) t s d f) (by omega) G (fun I h => IP_mono (IP_lend I h) (by omega)) (fun S1 Q' I R k => k_lendToShed (by decide) R I k) (fun S2 Q' I ss k => c_lendOut ss I (go_self k)))
theorem L_comeBack (G : sh_GR b S) (hb : b + 2000000 ≤ sh_LIM) {t : Int32} : sh_Ci g mX8_comeBack [sh_R (8, 0, 0), sh_I t] S sz (fun r1 S1 => sh_Ci g mX9_comeBack [sh_R (9, 0, 0), sh_I t] S1 sz (sh_eq (b + 2000000) r1)) :=
  wp_X8_comeBack (pair_op (x := o_come (S (19, 0, 0)) t) (by omega) G (fun I h => IP_mono (IP_come I (by omega) h) (by omega)) (fun S1 Q' I R k => k_takeFromShed (by decide) R I k) (fun S2 Q' I ss k => c_comeBack ss I (go_self k)))
theorem L_pass (G : sh_GR b S) (hb : b + 2000000 ≤ sh_LIM) {d : Int32} : sh_Ci g mX8_pass [sh_R (8, 0, 0), sh_I d] S sz (fun r1 S1 => sh_Ci g mX9_pass [sh_R (9, 0, 0), sh_I d] S1 sz (sh_eq (b + 2000000) r1)) :=
  wp_X8_pass (pair_op (x := o_pass (S (19, 0, 0)) d) (by omega) G (fun I h => IP_mono (IP_pass I (by omega) h) (by omega)) (fun S1 Q' I R k => k_letDaysPass (by decide) R I k) (fun S2 Q' I ss k => c_pass ss I (go_self k)))
theorem L_memberOf (G : sh_GR b S) {m w : Int32} : sh_Ci g mX8_memberOf [sh_R (8, 0, 0), sh_I m, sh_I w] S sz (fun r1 S1 => sh_Ci g mX9_memberOf [sh_R (9, 0, 0), sh_I m, sh_I w] S1 sz (sh_eq (b + 2000000) r1)) :=
  wp_X8_memberOf (pair_q (r := q_memberOf (S (19, 0, 0)) m w) (by omega) G (fun Q' I R k => k_tellOfMember (by decide) R I k) (fun Q' I k => c_memberOf I k))
theorem L_account (G : sh_GR b S) {w : Int32} : sh_Ci g mX8_account [sh_R (8, 0, 0), sh_I w] S sz (fun r1 S1 => sh_Ci g mX9_account [sh_R (9, 0, 0), sh_I w] S1 sz (sh_eq (b + 2000000) r1)) :=
  wp_X8_account (pair_q (r := q_account (S (19, 0, 0)) w) (by omega) G (fun Q' I R k => k_tellOfAll (by decide) R I k) (fun Q' I k => c_account I k))
theorem L_debtorAt (G : sh_GR b S) {ix : Int32} : sh_Ci g mX8_debtorAt [sh_R (8, 0, 0), sh_I ix] S sz (fun r1 S1 => sh_Ci g mX9_debtorAt [sh_R (9, 0, 0), sh_I ix] S1 sz (sh_eq (b + 2000000) r1)) :=
  wp_X8_debtorAt (pair_q (r := q_debtorAt (S (19, 0, 0)) ix) (by omega) G (fun Q' I R k => k_debtorInOrder (by decide) R I k) (fun Q' I k => c_debtorAt I k))
theorem L_toolOf (G : sh_GR b S) {t w : Int32} : sh_Ci g mX8_toolOf [sh_R (8, 0, 0), sh_I t, sh_I w] S sz (fun r1 S1 => sh_Ci g mX9_toolOf [sh_R (9, 0, 0), sh_I t, sh_I w] S1 sz (sh_eq (b + 2000000) r1)) :=
  wp_X8_toolOf (pair_q (r := q_toolOf (S (19, 0, 0)) t w) (by omega) G (fun Q' I R k => k_tellOfTool (by decide) R I k) (fun Q' I k => c_toolOf I k))
theorem L_bits (G : sh_GR b S) {t : Int32} : sh_Ci g mX8_bits [sh_R (8, 0, 0), sh_I t] S sz (fun r1 S1 => sh_Ci g mX9_bits [sh_R (9, 0, 0), sh_I t] S1 sz (sh_eq (b + 2000000) r1)) :=
  wp_X8_bits (pair_q (r := q_bits (S (19, 0, 0)) t) (by omega) G (fun Q' I R k => k_bitsOfTool (by decide) R I k) (fun Q' I k => c_bits I k))
theorem L_dullBehind (G : sh_GR b S) {t d : Int32} : sh_Ci g mX8_dullBehind [sh_R (8, 0, 0), sh_I t, sh_I d] S sz (fun r1 S1 => sh_Ci g mX9_dullBehind [sh_R (9, 0, 0), sh_I t, sh_I d] S1 sz (sh_eq (b + 2000000) r1)) :=
  wp_X8_dullBehind (pair_q (r := q_dullBehind (S (19, 0, 0)) t d) (by omega) G (fun Q' I R k => k_foretell (by decide) R I k) (fun Q' I k => c_dullBehind I k))
theorem L_mean (G : sh_GR b S) {a : Int32} : sh_Ci g mX8_mean [sh_R (8, 0, 0), sh_I a] S sz (fun r1 S1 => sh_Ci g mX9_mean [sh_R (9, 0, 0), sh_I a] S1 sz (sh_eq (b + 2000000) r1)) :=
  wp_X8_mean (pair_q (r := q_mean (S (19, 0, 0)) a) (by omega) G (fun Q' I R k => k_mean (by decide) R I k) (fun Q' I k => c_mean I k))
theorem L_hookAt (G : sh_GR b S) {w q : Int32} : sh_Ci g mX8_hookAt [sh_R (8, 0, 0), sh_I w, sh_I q] S sz (fun r1 S1 => sh_Ci g mX9_hookAt [sh_R (9, 0, 0), sh_I w, sh_I q] S1 sz (sh_eq (b + 2000000) r1)) :=
  wp_X8_hookAt (pair_q (r := q_hookAt (S (19, 0, 0)) w q) (by omega) G (fun Q' I R k => k_toolOnHook (by decide) R I.B k) (fun Q' I k => c_hookAt I k))
theorem L_turnAt (G : sh_GR b S) {ix : Int32} : sh_Ci g mX8_turnAt [sh_R (8, 0, 0), sh_I ix] S sz (fun r1 S1 => sh_Ci g mX9_turnAt [sh_R (9, 0, 0), sh_I ix] S1 sz (sh_eq (b + 2000000) r1)) :=
  wp_X8_turnAt (pair_q (r := q_turnAt (S (19, 0, 0)) ix) (by omega) G (fun Q' I R k => k_memberInTurn (by decide) R I.B k) (fun Q' I k => c_turnAt I k))
theorem L_dullAt (G : sh_GR b S) {ix : Int32} : sh_Ci g mX8_dullAt [sh_R (8, 0, 0), sh_I ix] S sz (fun r1 S1 => sh_Ci g mX9_dullAt [sh_R (9, 0, 0), sh_I ix] S1 sz (sh_eq (b + 2000000) r1)) :=
  wp_X8_dullAt (pair_q (r := q_dullAt (S (19, 0, 0)) ix) (by omega) G (fun Q' I R k => k_cutterInOrder (by decide) R I.G2 I.B k) (fun Q' I k => c_dullAt I k))
theorem L_panelAt (G : sh_GR b S) {t x w : Int32} : sh_Ci g mX8_panelAt [sh_R (8, 0, 0), sh_I t, sh_I x, sh_I w] S sz (fun r1 S1 => sh_Ci g mX9_panelAt [sh_R (9, 0, 0), sh_I t, sh_I x, sh_I w] S1 sz (sh_eq (b + 2000000) r1)) :=
  wp_X8_panelAt (pair_q (r := q_panelAt (S (19, 0, 0)) t x w) (by omega) G (fun Q' I R k => k_tellOfPanel (by decide) R I k) (fun Q' I k => c_panelAt I k))
theorem L_proposalOf (G : sh_GR b S) {t w : Int32} : sh_Ci g mX8_proposalOf [sh_R (8, 0, 0), sh_I t, sh_I w] S sz (fun r1 S1 => sh_Ci g mX9_proposalOf [sh_R (9, 0, 0), sh_I t, sh_I w] S1 sz (sh_eq (b + 2000000) r1)) :=
  wp_X8_proposalOf (pair_q (r := q_proposalOf (S (19, 0, 0)) t w) (by omega) G (fun Q' I R k => k_tellOfProposal (by decide) R I k) (fun Q' I k => c_proposalOf I k))
theorem L_count (G : sh_GR b S) {w : Int32} : sh_Ci g mX8_count [sh_R (8, 0, 0), sh_I w] S sz (fun r1 S1 => sh_Ci g mX9_count [sh_R (9, 0, 0), sh_I w] S1 sz (sh_eq (b + 2000000) r1)) := by
  have G' := G
  obtain ⟨n, σ, c, ln, P, H, ⟨hn, I, IH, K⟩, hC, hM⟩ := G'
  obtain ⟨c1, c2, c3, c4, c5, c6⟩ := hC
  obtain ⟨m1, m2, m3, m4⟩ := hM
  refine pair_q (r := q_count (S (19, 0, 0)) (S (9, 0, 0) 4) (S (9, 0, 0) 6) w) (by omega) G (fun Q' I R k => wp_X8_count ?_) (fun Q' I k => c_count I k)
  refine ⟨fun z => ⟨fun z2 => k_tellCount (by decide) R I z z2 k, fun z2 => ?_⟩, fun z => ?_⟩
  · unfold q_count at k
    rw [z2, if_pos (.inl (by decide)), if_neg (by decide), if_neg (by decide), if_neg (by decide), if_neg (by decide), if_neg (by decide), if_pos rfl, m4.1] at k
    rw [c6.1]; exact k
  · unfold q_count at k
    rw [z, if_pos (.inl (by decide)), if_neg (by decide), if_neg (by decide), if_neg (by decide), if_neg (by decide), if_pos rfl, m1] at k
    rw [c1]; exact k
end CALLS
