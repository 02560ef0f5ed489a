/-! An abstract machine of our own over the kit's rows: objects have names (kind, a, b), each holds a content; one judgement sh_V. -/
def shW : List Cond := lw_tbl.filter goodWord
theorem sh_in {w : Cond} (i : Nat) (h : lw_tbl[i]? = some w) (hg : goodWord w = true) : w ∈ shW := List.mem_filter.mpr ⟨List.mem_of_getElem? h, hg⟩
theorem sh_good : GoodIn shW shW := fun w h => ⟨h, good_of_word (List.mem_filter.mp h).2⟩
theorem sh_good1 {w : Cond} (h : w ∈ shW) : GoodIn shW (w :: shW) := fun x hx => by
  rcases List.mem_cons.mp hx with e | e
  · subst e; exact sh_good _ h
  · exact sh_good x e
/-- words of nest mates, and of rows of references: not carried by the words' list -/
def sh_N (s : State) : Prop := (∀ a i x h, Cond.methodLinkNest a i x h ∈ lw_tbl → va_Nw (.methodLinkNest a i x h) s) ∧ (∀ a i b n d h, Cond.fieldLinkNest a i b n d h ∈ lw_tbl → va_Nw (.fieldLinkNest a i b n d h) s) ∧ ∀ C, Cond.arrayOver (.object C) ∈ lw_tbl → va_AO C s
theorem sh_N.same {s U : State} (h : s.vm = U.vm) (k : sh_N s) : sh_N U := ⟨fun a i x z hw => (k.1 a i x z hw).same rfl h, fun a i b n d z hw => (k.2.1 a i b n d z hw).same rfl h, fun C hw => (k.2.2 C hw).moved (h ▸ Vm.Alike.refl _)⟩
abbrev sh_O : Type := Nat × Nat × Nat
abbrev sh_v : Type := Option (Int32 ⊕ (sh_O ⊕ (UInt32 ⊕ UInt64)))
abbrev sh_I (x : Int32) : sh_v := some (.inl x)
abbrev sh_R (o : sh_O) : sh_v := some (.inr (.inl o))
abbrev sh_F (x : UInt32) : sh_v := some (.inr (.inr (.inl x)))
abbrev sh_Dv (x : UInt64) : sh_v := some (.inr (.inr (.inr x)))
/-- contents: an object (its class' number, its fields); rows of ints; of chars; of references (which class of rows) -/
abbrev sh_c : Type := (Nat × List sh_v) ⊕ ((Nat × (Nat → Int32)) ⊕ ((Nat × (Nat → Int32)) ⊕ (Nat × Nat × (Nat → Option sh_O))))
abbrev sh_P : Type := sh_O → Option sh_c
abbrev sh_G : Type := Launch × va_G × (Nat → ClassId) × (Nat → Prop) × (sh_O → Nat) × (Nat × (Nat → Int32))
abbrev sh_l (g : sh_G) : Launch := g.1
abbrev sh_D (g : sh_G) : va_G := g.2.1
abbrev sh_cy (g : sh_G) : Nat → ClassId := g.2.2.1
abbrev sh_A (g : sh_G) : Nat → Prop := g.2.2.2.1
abbrev sh_ad (g : sh_G) : sh_O → Nat := g.2.2.2.2.1
abbrev sh_L (g : sh_G) : Nat := g.2.2.2.2.2.1
abbrev sh_xs (g : sh_G) : Nat → Int32 := g.2.2.2.2.2.2
def sh_tv (g : sh_G) (v : sh_v) : Value := match v with
  | none => .null
  | some (.inl x) => .int x
  | some (.inr (.inl o)) => .ref (sh_ad g o)
  | some (.inr (.inr (.inl x))) => .float x
  | some (.inr (.inr (.inr x))) => .double x
def sh_tq (g : sh_G) (q : Nat × sh_v) : Nat × Value := (q.1, sh_tv g q.2)
def sh_ce (g : sh_G) (c : sh_c) : va_E := match c with
  | .inl o => .inr (o.1, o.2.map (sh_tv g))
  | .inr (.inl a) => .inl (sh_cy g 0, a.1, .inl a.2)
  | .inr (.inr (.inl a)) => .inl (sh_cy g 1, a.1, .inl a.2)
  | .inr (.inr (.inr a)) => .inl (sh_cy g a.1, a.2.1, .inr (.inr (.inr (.inr (fun j => (a.2.2 j).map (sh_ad g))))))
def sh_up (φ : sh_P) (o : sh_O) (c : sh_c) : sh_P := fun q => if q = o then some c else φ q
def sh_W (g : sh_G) (φ : sh_P) (sz : Nat) (H : Heap) : Prop := H.size = sz ∧ (∀ o c, φ o = some c → va_at (sh_D g) vwCl (sh_ad g o, sh_ce g c) H ∧ sh_A g (sh_ad g o)) ∧ ∀ o o', φ o ≠ none → φ o' ≠ none → sh_ad g o = sh_ad g o' → o = o'
def sh_tys (g : sh_G) : List (ClassId × FieldType) := [(sh_cy g 0, .int), (sh_cy g 1, .char), (sh_cy g 2, .object RX1), (sh_cy g 3, .object RX6), (sh_cy g 4, .object RX7)]
def sh_K (g : sh_G) (s : State) : Prop := va_K (sh_D g) vwCl (sh_tys g) s
def sh_sn (i : Nat) : String := if i = 0 then "SETTING_LEAST" else if i = 1 then "SETTING_MOST" else "SETTING_FIRST"
def sh_sf (i j : Nat) : Int32 := ([[0, 1, 0, 0, 0, 0, 1], [400, 60, 20, 40, 1000, 100, 60], [20, 7, 1, 2, 600, 80, 10]].getD i []).getD j 0
def sh_ST (g : sh_G) (s : State) : Prop := (∀ i, i < 3 → va_Z RX8 (sh_sn i) "[I" (.ref (sh_ad g (98, i, 0))) (sh_A g) s s.heap ∧ va_T .int (sh_ad g (98, i, 0)) 7 (fun j => .int (sh_sf i j)) (sh_A g) s s.heap) ∧ va_X (sh_ad g (99, 0, 0)) (sh_L g) (sh_xs g) s s.heap ∧ sh_ad g (99, 0, 0) < s.heap.size ∧ ¬ sh_A g (sh_ad g (99, 0, 0))
/-- a method: its name, code, words of locals, answer's type, (frames, locals' words) and (cells, slots) of its room -/
abbrev sh_M : Type := MethodName × ByteArray × Nat × Option FieldType × (Nat × Nat) × (Nat × Nat)
abbrev sh_cc (M : sh_M) : ByteArray := M.2.1
abbrev sh_nL (M : sh_M) : Nat := M.2.2.1
abbrev sh_rt (M : sh_M) : Option FieldType := M.2.2.2.1
abbrev sh_mc (M : sh_M) : Nat := M.2.2.2.2.2.1
abbrev sh_ms (M : sh_M) : Nat := M.2.2.2.2.2.2
abbrev sh_rm (M : sh_M) : Room := { frames := M.2.2.2.2.1.1, cells := M.2.2.2.2.2.1, slots := M.2.2.2.2.2.2, locals := M.2.2.2.2.1.2 }
abbrev sh_ws (M : sh_M) : List Cond := Cond.code M.1 (sh_cc M) (sh_nL M) (sh_rt M) :: shW
abbrev sh_T : Type := Option sh_v → sh_P → Nat → Prop
def sh_Q (g : sh_G) (Q : sh_T) : Array Value → State → Outcome → State → Prop := fun _ st oc t => (∃ r φ sz, oc = .returned (r.map (sh_tv g)) ∧ Q r φ sz ∧ sh_W g φ sz t.heap) ∧ va_F (sh_A g) st t
def sh_X (g : sh_G) (M : sh_M) (p : Program) (s : State) (m : MethodId) (args : Array Value) (meth : Method) (c : Code) : Prop :=
  p.tables.exec = Jvm.exec ∧ c.code = sh_cc M ∧ c.maxLocals = sh_nL M ∧ s.vm.findClass M.1.cls = some m.cls ∧ (∀ w ∈ shW, w.before args s = true) ∧ sh_K g s ∧ (sh_ST g s ∧ sh_N s) ∧ (∀ q, s.heap.size ≤ q → sh_A g q) ∧ meth.sig.returnType = sh_rt M ∧ meth.locks = false ∧ meth.name = M.1.name
/-- the judgement: from this point of method M, with these locals, stack and contents, M returns, and Q holds of the answer and the contents then -/
def sh_V (g : sh_G) (M : sh_M) (cells slots pc : Nat) (ls : List (Nat × sh_v)) (st : List sh_v) (φ : sh_P) (sz : Nat) (Q : sh_T) : Prop :=
  ∀ (p : Program) (e : Env) (s : State) (m : MethodId) (args : Array Value) (below : List Frame) (meth : Method) (c : Code), sh_X g M p s m args meth c →
    ∀ (H : Heap) (locs : List Loc) (lsA : Array Slot), lv_has lsA (sh_nL M) (ls.map (sh_tq g)) → sh_W g φ sz H → va_S (sh_A g) s.heap H locs →
      W p (sh_l g) e (sh_rm M) s m args below meth c H locs cells slots (MQ below (sh_Q g Q) args s (sh_mc M) (sh_ms M) (sh_A g)) (F0 m pc lsA (st.map (sh_tv g)))
def sh_pre (g : sh_G) (φ : sh_P) (sz : Nat) (U : State) : Prop := sh_K g U ∧ (sh_ST g U ∧ sh_N U) ∧ (∀ q, U.heap.size ≤ q → sh_A g q) ∧ sh_W g φ sz U.heap
def sh_Call (g : sh_G) (M : sh_M) (as : List sh_v) (φ : sh_P) (sz : Nat) (Q : sh_T) : Prop :=
  Met (sh_l g) M.1 (sh_ws M) (sh_rm M) (va_Pc (as.map (sh_tv g)) (sh_pre g φ sz)) (sh_Q g Q) (sh_mc M) (sh_ms M) (sh_A g)
-- contents
theorem sh_W.set {g : sh_G} {φ : sh_P} {sz : Nat} {H H1 : Heap} {o : sh_O} {c0 c : sh_c} (h : sh_W g φ sz H) (ho : φ o = some c0) (z : H1.size = H.size) (hc : va_at (sh_D g) vwCl (sh_ad g o, sh_ce g c) H1) (oq : ∀ q : Nat, q ≠ sh_ad g o → H1[q]? = H[q]?) : sh_W g (sh_up φ o c) sz H1 := by
  have hn : ∀ q, sh_up φ o c q ≠ none → φ q ≠ none := by
    intro q hq
    by_cases e : q = o
    · subst e; rw [ho]; exact fun z => by cases z
    · simpa [sh_up, e] using hq
  refine ⟨z.trans h.1, fun q d hd => ?_, fun q q' h1 h2 => h.2.2 q q' (hn q h1) (hn q' h2)⟩
  by_cases e : q = o
  · subst e
    simp [sh_up] at hd
    subst hd
    exact ⟨hc, (h.2.1 q c0 ho).2⟩
  · simp [sh_up, e] at hd
    refine ⟨(h.2.1 q d hd).1.kept (oq _ fun z => e ?_), (h.2.1 q d hd).2⟩
    exact h.2.2 q o (by rw [hd]; exact fun z => by cases z) (by rw [ho]; exact fun z => by cases z) z
theorem sh_W.push {g : sh_G} {φ : sh_P} {sz : Nat} {H H1 : Heap} {o : sh_O} {c : sh_c} (h : sh_W g φ sz H) (ho : φ o = none) (ha : sh_ad g o = sz) (hA : sh_A g sz) (z : H1.size = sz + 1) (hc : va_at (sh_D g) vwCl (sh_ad g o, sh_ce g c) H1) (oq : ∀ q : Nat, q < sz → H1[q]? = H[q]?) : sh_W g (sh_up φ o c) (sz + 1) H1 := by
  have hlt : ∀ q, φ q ≠ none → sh_ad g q < sz := by
    intro q hq
    cases hd : φ q with
    | none => exact absurd hd hq
    | some d => rw [← h.1]; exact (h.2.1 q d hd).1.lt
  have hn : ∀ q, q ≠ o → sh_up φ o c q ≠ none → φ q ≠ none := by
    intro q e hq
    simpa [sh_up, e] using hq
  refine ⟨z, fun q d hd => ?_, fun q q' h1 h2 h3 => ?_⟩
  · by_cases e : q = o
    · subst e
      simp [sh_up] at hd
      subst hd
      exact ⟨hc, by rw [ha]; exact hA⟩
    · simp [sh_up, e] at hd
      have hl := hlt q (by rw [hd]; exact fun z => by cases z)
      exact ⟨(h.2.1 q d hd).1.kept (oq _ hl), (h.2.1 q d hd).2⟩
  · by_cases e : q = o <;> by_cases e' : q' = o
    · rw [e, e']
    · have := hlt q' (hn q' e' h2)
      rw [e] at h3
      omega
    · have := hlt q (hn q e h1)
      rw [e'] at h3
      omega
    · exact h.2.2 q q' (hn q e h1) (hn q' e' h2) h3
theorem sh_W.one {g : sh_G} {φ : sh_P} {sz : Nat} {H : Heap} {o : sh_O} {c : sh_c} (h : sh_W g φ sz H) (ho : φ o = some c) : va_P (sh_D g) vwCl [(sh_ad g o, sh_ce g c)] H := by
  intro k q hk
  have hz : k < 1 := (List.getElem?_eq_some_iff.mp hk).1
  rw [show k = 0 by omega] at hk
  cases hk
  exact (h.2.1 o c ho).1
theorem sh_W.two {g : sh_G} {φ : sh_P} {sz : Nat} {H : Heap} {o o' : sh_O} {c c' : sh_c} (h : sh_W g φ sz H) (ho : φ o = some c) (ho' : φ o' = some c') : va_P (sh_D g) vwCl [(sh_ad g o, sh_ce g c), (sh_ad g o', sh_ce g c')] H := (h.one ho).app (h.one ho')
theorem sh_ST.at {g : sh_G} {s U : State} {H : Heap} {locs : List Loc} (h : sh_ST g s) (hU : U.heap = H) (hvm : s.vm.Alike U.vm) (hS : va_S (sh_A g) s.heap H locs) : sh_ST g U := by
  have hq : ∀ a : Nat, a < s.heap.size → ¬ sh_A g a → U.heap[a]? = s.heap[a]? := fun a x y => by rw [hU]; exact hS.2.1 a x y
  refine ⟨fun i hi => ?_, (h.2.1.kept (hq _ h.2.2.1 h.2.2.2)).moved hvm, Nat.lt_of_lt_of_le h.2.2.1 (by rw [hU]; exact hS.1), h.2.2.2⟩
  obtain ⟨h1, h2⟩ := h.1 i hi
  exact ⟨(h1.kept hq).moved hvm, (h2.kept hq).moved hvm⟩
theorem sh_blind {g : sh_G} {φ : sh_P} {sz : Nat} {av : List Value} : FrameBlind (va_Pc av (sh_pre g φ sz)) := fun a U gg mk q =>
  ⟨q.1, va_K.moved (u := U) (U := U.calling gg mk a) (Vm.Alike.refl U.vm) q.2.1, ⟨⟨fun i hi => ⟨va_Z.moved (u := U) (U := U.calling gg mk a) (Vm.Alike.refl U.vm) (q.2.2.1.1.1 i hi).1, va_T.moved (u := U) (U := U.calling gg mk a) (Vm.Alike.refl U.vm) (q.2.2.1.1.1 i hi).2⟩, va_X.moved (u := U) (U := U.calling gg mk a) (Vm.Alike.refl U.vm) q.2.2.1.1.2.1, q.2.2.1.1.2.2⟩, q.2.2.1.2.same rfl⟩, q.2.2.2.1, q.2.2.2.2⟩
theorem sh_S.put {A : Nat → Prop} {H0 H H1 : Heap} {locs : List Loc} {a k : Nat} (h : va_S A H0 H locs) (z : H1.size = H.size) (oq : ∀ q : Nat, q ≠ a → H1[q]? = H[q]?) (ha : A a) : va_S A H0 H1 (locs ++ [⟨a, k⟩]) := h.put z oq ha
theorem sh_S.push {A : Nat → Prop} {H0 H H1 : Heap} {locs : List Loc} {n : Nat} (h : va_S A H0 H locs) (hn : H.size = n) (z : H1.size = n + 1) (oq : ∀ q : Nat, q < n → H1[q]? = H[q]?) : va_S A H0 H1 locs := ⟨by rw [z]; exact Nat.le_succ_of_le (hn ▸ h.1), fun q h1 h2 => (oq q (hn ▸ Nat.lt_of_lt_of_le h1 h.1)).trans (h.2.1 q h1 h2), h.2.2⟩
-- entry and end
theorem sh_enter {g : sh_G} {M : sh_M} {as : List sh_v} {φ : sh_P} {sz : Nat} {Q : sh_T} {ls : List (Nat × sh_v)} (hy : plainName M.1.cls = true) (hn : (lg_sl (as.map (sh_tv g))).length ≤ sh_nL M) (hl : lv_args 0 (as.map (sh_tv g)) = ls.map (sh_tq g)) (h : sh_V g M 0 0 0 ls [] φ sz Q) : sh_Call g M as φ sz Q := by
  refine Met.ofW (cc := sh_cc M) (maxL := sh_nL M) (ret := sh_rt M) hy rfl ?_
  intro p e s m args below meth c s₁ B hml hv
  obtain ⟨rfl, hK, hST, hA, hW⟩ := hv
  have hts : ∀ w ∈ shW, w.before (as.map (sh_tv g)).toArray s = true := fun w hw => atoms_spec (ws := sh_ws M) B.pre w (List.mem_cons_of_mem _ hw)
  have hX : sh_X g M p s m (as.map (sh_tv g)).toArray meth c := ⟨B.exec, B.bytes, hml, findClass_of_methodNamed B.named, hts, hK, hST, hA, B.returns, B.notSynchronized, (name_of_methodNamed B.named B.method).1⟩
  rw [lg_entry_eq]
  exact h p e s m _ below meth c hX s.heap [] _ (hl ▸ lv_entry (as.map (sh_tv g)) hn) hW va_S.rf
section ROWS
variable {g : sh_G} {M : sh_M} {cells slots pc : Nat} {ls ls' : List (Nat × sh_v)} {st : List sh_v} {φ : sh_P} {sz : Nat} {Q : sh_T}
theorem sh_ireturn {x : Int32} (d : decode (sh_cc M) pc = .ok (.ireturn, 1)) (hr : sh_rt M = some .int) (hc : cells = sh_mc M ∧ slots = sh_ms M) (h : Q (some (sh_I x)) φ sz) : sh_V g M cells slots pc ls [sh_I x] φ sz Q := by
  intro p e s m args below meth c X H locs lsA hl hW hS
  obtain ⟨hx, hb, hml, hown, hts, hK, hST, hA, hret, hlocks, hnm⟩ := X
  obtain ⟨rfl, rfl⟩ := hc
  exact W.iret hx hb (hret.trans hr) (fun t ht _ => ⟨⟨some (sh_I x), φ, sz, rfl, h, by rw [ht]; exact hW⟩, hS.F ht⟩) hS.2.2 d hlocks
theorem sh_zreturn {x : Int32} {ty : FieldType} (d : decode (sh_cc M) pc = .ok (.ireturn, 1)) (hr : sh_rt M = some ty) (hn : narrow ty (.int x) = .int x) (hc : cells = sh_mc M ∧ slots = sh_ms M) (h : Q (some (sh_I x)) φ sz) : sh_V g M cells slots pc ls [sh_I x] φ sz Q := by
  intro p e s m args below meth c X H locs lsA hl hW hS
  obtain ⟨hx, hb, hml, hown, hts, hK, hST, hA, hret, hlocks, hnm⟩ := X
  obtain ⟨rfl, rfl⟩ := hc
  exact W.zret hx hb (hret.trans hr) hn (fun t ht _ => ⟨⟨some (sh_I x), φ, sz, rfl, h, by rw [ht]; exact hW⟩, hS.F ht⟩) hS.2.2 d hlocks
theorem sh_return (d : decode (sh_cc M) pc = .ok (.return_, 1)) (hr : sh_rt M = none) (hc : cells = sh_mc M ∧ slots = sh_ms M) (h : Q none φ sz) : sh_V g M cells slots pc ls [] φ sz Q := by
  intro p e s m args below meth c X H locs lsA hl hW hS
  obtain ⟨hx, hb, hml, hown, hts, hK, hST, hA, hret, hlocks, hnm⟩ := X
  obtain ⟨rfl, rfl⟩ := hc
  exact W.vret hx hb (hret.trans hr) (fun t ht _ => ⟨⟨none, φ, sz, rfl, h, by rw [ht]; exact hW⟩, hS.F ht⟩) hS.2.2 d hlocks
theorem sh_freturn {x : UInt32} (d : decode (sh_cc M) pc = .ok (.freturn, 1)) (hr : sh_rt M = some .float) (hc : cells = sh_mc M ∧ slots = sh_ms M) (h : Q (some (sh_F x)) φ sz) : sh_V g M cells slots pc ls [sh_F x] φ sz Q := by
  intro p e s m args below meth c X H locs lsA hl hW hS
  obtain ⟨hx, hb, hml, hown, hts, hK, hST, hA, hret, hlocks, hnm⟩ := X
  obtain ⟨rfl, rfl⟩ := hc
  exact W.fret hx hb (hret.trans hr) (fun t ht _ => ⟨⟨some (sh_F x), φ, sz, rfl, h, by rw [ht]; exact hW⟩, hS.F ht⟩) hS.2.2 d hlocks
end ROWS
