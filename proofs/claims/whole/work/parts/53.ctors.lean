/-! the constructors: what they make, in the order in which they make it -/
def shb (k : Nat) : Nat := if k < 2 then 1 + 126 * k else 3 + 126 * k
def rk (o : sh_O) : Nat := match o.1 with
  | 0 => 253
  | 1 => shb o.2.1 + 5 + 2 * o.2.2
  | 2 => shb o.2.1 + 2
  | 3 => 885
  | 4 => shb o.2.1 + 27 + 5 * o.2.2
  | 5 => shb o.2.1 + 30 + 5 * o.2.2
  | 6 => shb o.2.1
  | 7 => shb o.2.1 + 26 + 5 * o.2.2
  | 8 => 0
  | 9 => 887
  | 10 => shb o.2.1 + 6 + 2 * o.2.2
  | 11 => shb o.2.1 + 4
  | 12 => shb o.2.1 + 3
  | 13 => shb o.2.1 + 28 + 5 * o.2.2
  | 14 => shb o.2.1 + 29 + 5 * o.2.2
  | 15 => shb o.2.1 + 1
  | 16 => shb o.2.1 + 25
  | 17 => 254
  | 18 => 886
  | 19 => 888
  | 20 => 889
  | 21 => 890
  | 22 => 891
  | 23 => 892
  | _ => 893
/-- the first contents -/
def sh_S0 : sh_S := fun o => match o.1 with
  | 15 => va_cpy (sh_sf 2) (fun _ => 0) 0 0 7
  | 17 => fun j => nI (j + 2)
  | 19 => upd (upd (upd (upd (upd (upd (upd (fun _ => 0) 0 20) 1 7) 2 1) 3 2) 4 600) 5 80) 6 10
  | _ => fun _ => 0
/-- the addresses, from B on, in the order of the making -/
def sh_bas (g : sh_G) (B : Nat) : Prop := ∀ o : sh_O, o.1 < 25 → sh_ad g o = B + rk o
/-- what φ1 has beyond φ: those of p with their first contents; of those of e nothing is said -/
def is_C (p e : sh_O → Prop) (φ φ1 : sh_P) : Prop := ∀ q, ¬ e q → (p q → φ1 q = some (sh_ct q (sh_S0 q))) ∧ (¬ p q → φ1 q = φ q)
theorem is_rf {e : sh_O → Prop} {φ : sh_P} : is_C (fun _ => False) e φ φ := fun _ _ => ⟨fun h => h.elim, fun _ => rfl⟩
theorem is_ex {p e : sh_O → Prop} {φ φ1 : sh_P} {o : sh_O} {c : sh_c} (h : is_C p e φ φ1) (ho : e o) : is_C p e φ (sh_up φ1 o c) := fun q hq => by
  have hne : q ≠ o := fun z => hq (z ▸ ho)
  rw [show sh_up φ1 o c q = φ1 q from if_neg hne]
  exact h q hq
theorem is_put {p e : sh_O → Prop} {φ φ1 : sh_P} {o : sh_O} {c : sh_c} (h : is_C p e φ φ1) (hc : sh_ct o (sh_S0 o) = c) : is_C (fun q => p q ∨ q = o) e φ (sh_up φ1 o c) := fun q hq => by
  by_cases hz : q = o
  · subst hz
    exact ⟨fun _ => (if_pos rfl : sh_up φ1 q c q = some c).trans (hc ▸ rfl), fun z => absurd (Or.inr rfl) z⟩
  · rw [show sh_up φ1 o c q = φ1 q from if_neg hz]
    exact ⟨fun z => (h q hq).1 (z.resolve_right hz), fun z => (h q hq).2 fun w => z (Or.inl w)⟩
theorem is_tr {p p' e : sh_O → Prop} {φ φ1 φ2 : sh_P} (h : is_C p e φ φ1) (h2 : is_C p' (fun _ => False) φ1 φ2) : is_C (fun q => p q ∨ p' q) (fun q => e q ∧ ¬ p' q) φ φ2 := fun q hq => by
  by_cases hz : p' q
  · exact ⟨fun _ => (h2 q (fun z => z)).1 hz, fun z => absurd (Or.inr hz) z⟩
  · rw [(h2 q (fun z => z)).2 hz]
    have hq' : ¬ e q := fun z => hq ⟨z, hz⟩
    exact ⟨fun z => (h q hq').1 (z.resolve_right hz), fun z => (h q hq').2 fun w => z (Or.inl w)⟩
theorem is_to {p p' e e' : sh_O → Prop} {φ φ1 : sh_P} (h : is_C p e φ φ1) (hp : ∀ q, ¬ e' q → (p q ↔ p' q)) (he : ∀ q, e q → e' q) : is_C p' e' φ φ1 := fun q hq => by
  have := h q (fun z => hq (he q z))
  exact ⟨fun z => this.1 ((hp q hq).mpr z), fun z => this.2 fun w => z ((hp q hq).mp w)⟩
/-- those of which nothing was said have their first contents as well -/
theorem is_end {p p' e : sh_O → Prop} {φ φ1 : sh_P} (h : is_C p e φ φ1) (he : ∀ q, e q → φ1 q = some (sh_ct q (sh_S0 q))) (hp : ∀ q, p' q ↔ (p q ∨ e q)) : is_C p' (fun _ => False) φ φ1 := fun q _ => by
  by_cases hz : e q
  · exact ⟨fun _ => he q hz, fun z => absurd ((hp q).mpr (Or.inr hz)) z⟩
  · exact ⟨fun z => (h q hz).1 (((hp q).mp z).resolve_right hz), fun z => (h q hz).2 fun w => z ((hp q).mpr (Or.inl w))⟩
def sh_mkd (p : sh_O → Prop) (φ : sh_P) (sz : Nat) : sh_T := fun r φ1 sz1 => r = none ∧ sz1 = sz ∧ is_C p (fun _ => False) φ φ1
theorem up_s {φ : sh_P} {o : sh_O} {c : sh_c} : sh_up φ o c o = some c := if_pos rfl
theorem up_n {φ : sh_P} {o q : sh_O} {c : sh_c} (h : q ≠ o) : sh_up φ o c q = φ q := if_neg h
theorem up_n' {φ : sh_P} {o q : sh_O} {c : sh_c} {x : Option sh_c} (h : q.1 ≠ o.1) (k : φ q = x) : sh_up φ o c q = x := (if_neg (fun z => h (congrArg Prod.fst z))).trans k
-- words of rows
theorem aw_int : Cond.arrayClass (newarray.typeOf .int) ∈ shW := sh_in 118 (by decide +kernel) rfl
theorem aw_char : Cond.arrayClass (newarray.typeOf .char) ∈ shW := sh_in 319 (by decide +kernel) rfl
theorem ao_1 : Cond.arrayOver (.object RX1) ∈ lw_tbl := List.mem_of_getElem? (i := 106) (by decide +kernel)
theorem ao_7 : Cond.arrayOver (.object RX7) ∈ lw_tbl := List.mem_of_getElem? (i := 137) (by decide +kernel)
theorem ao_6 : Cond.arrayOver (.object RX6) ∈ lw_tbl := List.mem_of_getElem? (i := 280) (by decide +kernel)
-- the makers' rooms
abbrev nX1_init : sh_M := (yX1_init, cX1_init, 1, none, (1, 20), (1, 12))
abbrev nX2_init : sh_M := (yX2_init, cX2_init, 2, none, (2, 40), (22, 150))
abbrev nX4_init : sh_M := (yX4_init, cX4_init, 1, none, (1, 20), (2, 6))
abbrev nX5_init : sh_M := (yX5_init, cX5_init, 1, none, (1, 20), (0, 0))
abbrev nX7_init : sh_M := (yX7_init, cX7_init, 1, none, (2, 40), (4, 16))
abbrev nX6_init : sh_M := (yX6_init, cX6_init, 2, none, (3, 61), (125, 782))
abbrev nX0_init : sh_M := (yX0_init, cX0_init, 2, none, (4, 82), (631, 3940))
abbrev nX3_init : sh_M := (yX3_init, cX3_init, 1, none, (1, 20), (1, 60))
abbrev nX8_init : sh_M := (yX8_init, cX8_init, 1, none, (5, 103), (886, 5582))
abbrev nX9_init : sh_M := (yX9_init, cX9_init, 1, none, (1, 20), (6, 4277))
theorem ld_1 : sh_LC nX1_init 0 := lc_X1_init
theorem ld_2 : sh_LC nX2_init 0 := lc_X2_init
theorem ld_4 : sh_LC nX4_init 0 := lc_X4_init
theorem ld_5 : sh_LC nX5_init 0 := lc_X5_init
theorem ld_7 : sh_LC nX7_init 0 := lc_X7_init
theorem ld_6 : sh_LC nX6_init 0 := lc_X6_init
theorem ld_0 : sh_LC nX0_init 0 := lc_X0_init
theorem ld_3 : sh_LC nX3_init 0 := lc_X3_init
theorem ld_8 : sh_LC nX8_init 0 := lc_X8_init
theorem ld_9 : sh_LC nX9_init 0 := lc_X9_init
/-- the members of a class before anything is written -/
theorem df_1 {g : sh_G} : ∀ j, j < 1 → ∀ ty, parseFieldDescriptor (TX1 j).2.2.1 = some ty → defaultValue ty = sh_tv g (([none] : List sh_v).getD j none) := fun j hj ty h => by
  rw [show ty = tyX1 j from Option.some.inj (h.symm.trans (tyX1_ok j hj))]
  match j, hj with
  | 0, _ => rfl
-- one member
def pM (k j : Nat) (q : sh_O) : Prop := q = (1, k, j) ∨ q = (10, k, j)
set_option maxRecDepth 100000 in
set_option maxHeartbeats 4000000 in
theorem i_X1 {g : sh_G} {φ : sh_P} {sz B k j : Nat} (hB : sh_bas g B) (h0 : φ (1, k, j) = some (.inl (1, [none]))) (h1 : φ (10, k, j) = none) (hz : sz = B + rk (10, k, j)) : sh_Call g nX1_init [sh_R (1, k, j)] φ sz (sh_mkd (pM k j) φ (sz + 1)) := by
  refine sh_enter (ls := [(0, sh_R (1, k, j))]) (by decide +kernel) (Nat.le_of_ble_eq_true rfl) rfl ?_
  refine sh_aload_n (pc := 0) dX1_init_0 rfl ?_
  refine sh_objinit (pc := 1) dX1_init_1 ml_X1_3 jw_obj.1 jw_obj.2 (by decide) (by decide) ?_
  refine sh_aload_n (pc := 4) dX1_init_4 rfl ?_
  refine sh_bipush (v := 12) (pc := 5) dX1_init_5 rfl ?_
  refine sh_newi (pc := 7) (ty := .int) (t := 0) (N' := 12) (o := (10, k, j)) (c0 := .inr (.inl (12, fun _ => 0))) dX1_init_7 rfl aw_int rfl rfl (Or.inl rfl) (by decide) (by decide) (by decide) h1 ((hB (10, k, j) (by show (10 : Nat) < 25; omega)).trans hz.symm) ⟨by decide, by decide⟩ rfl ?_
  refine sh_putF (pc := 9) (ci := 1) (k := 0) (fs := [none]) dX1_init_9 fl_X1_9 cf_1 ft_1_0 rfl (fun q hq => by cases hq; rfl) rfl rfl ((up_n (by simp)).trans h0) (by decide) rfl ?_
  exact sh_return (pc := 12) dX1_init_12 rfl ⟨rfl, rfl⟩ ⟨rfl, rfl, is_to (is_put (is_put is_rf rfl) rfl) (fun q _ => ⟨fun h => h.elim (fun h => h.elim False.elim Or.inr) Or.inl, fun h => h.elim Or.inr fun h => Or.inl (Or.inr h)⟩) (fun _ h => h)⟩
