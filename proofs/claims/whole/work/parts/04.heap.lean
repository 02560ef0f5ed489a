/-! rows of the judgement: fields, rows of cells, calls -/
def sh_FL (own : String) (ix ci k : Nat) : Prop := ∃ q : vw_C, vwCl[ci]? = some q ∧ k < q.2.2 ∧ Cond.fieldLink own ix (q.2.1 k).1 (q.2.1 k).2.1 (q.2.1 k).2.2.1 ∈ shW
/-- a field's type, and whether it is final -/
def sh_FT (ci k : Nat) (ty : FieldType) (fin : Bool) : Prop := ∃ q : vw_C, vwCl[ci]? = some q ∧ k < q.2.2 ∧ parseFieldDescriptor (q.2.1 k).2.2.1 = some ty ∧ (q.2.1 k).2.2.2 = fin
def sh_CF (q : vw_C) : Prop := (∀ w ∈ u_ws q.1 q.2.1 q.2.2, w ∈ shW) ∧ (∃ ty : Nat → FieldType, ∀ k, k < q.2.2 → parseFieldDescriptor (q.2.1 k).2.2.1 = some (ty k)) ∧ ∀ a, a < q.2.2 → ∀ b, b < q.2.2 → a ≠ b → (q.2.1 a).2.1 ≠ (q.2.1 b).2.1
/-- a call's link, and what the words say of the method -/
def sh_LC (M : sh_M) (n : Nat) : Prop := (Cond.initialized M.1.cls ∈ shW ∧ Cond.code M.1 (sh_cc M) (sh_nL M) (sh_rt M) ∈ shW) ∧ (M.1.cls ≠ "java/lang/invoke/MethodHandle" ∧ M.1.cls ≠ "java/lang/invoke/VarHandle" ∧ (parseMethodDescriptor M.1.desc).map (fun d => d.parameters.length) = some n)
def sh_IV (M : sh_M) : Prop := Cond.instanceMethod M.1 ∈ shW ∧ Cond.selects M.1.cls M.1 M.1 ∈ shW
def sh_fitsIn (N M : sh_M) : Prop := (sh_rm N).frames + 1 ≤ (sh_rm M).frames ∧ 8 + (sh_nL N + 11) + (sh_rm N).locals ≤ (sh_rm M).locals
theorem sh_callB {g : sh_G} {M N : sh_M} {p : Program} {s : State} {m : MethodId} {args : Array Value} {meth : Method} {c : Code} {ix n : Nat} (X : sh_X g M p s m args meth c) (hl : Cond.methodLink M.1.cls ix N.1 ∈ shW) (hC : sh_LC N n) (hf : sh_fitsIn N M) : CallB (sh_rm M) s args M.1.cls ix N.1 (sh_cc N) (sh_nL N) (sh_rt N) (sh_ws N) (sh_rm N) (sh_mc N) (sh_ms N) n := by
  obtain ⟨hx, hb, hml, hown, hts, hK, hST, hA, hret, hlocks, hnm⟩ := X
  exact callB_of n hts (sh_good1 hC.1.2) rfl rfl rfl (hts _ hC.1.1) (hts _ hl) hC.2 hf
theorem sh_preOf {g : sh_G} {M : sh_M} {p : Program} {s U : State} {m : MethodId} {args : Array Value} {meth : Method} {c : Code} {φ : sh_P} {sz : Nat} {H : Heap} {locs : List Loc} (X : sh_X g M p s m args meth c) (hW : sh_W g φ sz H) (hS : va_S (sh_A g) s.heap H locs) (hU : U.heap = H) (hM : s.WarmedH U.vm) : sh_pre g φ sz U := by
  obtain ⟨hx, hb, hml, hown, hts, hK, hST, hA, hret, hlocks, hnm⟩ := X
  exact ⟨va_K.moved hM.alike hK, ⟨hST.1.at hU hM.alike hS, fun a i x h hw => (hST.2.1 a i x h hw).warmM hM, fun a i b n d h hw => (hST.2.2.1 a i b n d h hw).warmF hM, fun C hw => (hST.2.2.2 C hw).moved hM.alike⟩, fun q hq => hA q (Nat.le_trans hS.1 (by rw [← hU]; exact hq)), by rw [hU]; exact hW⟩
section ROWS4
variable {g : sh_G} {M N : sh_M} {cells slots pc : Nat} {ls ls' : List (Nat × sh_v)} {st : List sh_v} {φ φ' : sh_P} {sz : Nat} {Q R : sh_T}
theorem sh_getf {ix ci k : Nat} {o : sh_O} {fs : List sh_v} {v : sh_v} (d : decode (sh_cc M) pc = .ok (.getfield ix, 3)) (hF : sh_FL M.1.cls ix ci k) (hC : ∀ q, vwCl[ci]? = some q → sh_CF q) (ho : φ o = some (.inl (ci, fs))) (hv : fs[k]? = some v) (kk : sh_V g M cells slots (pc + 3) ls (v :: st) φ sz Q) : sh_V g M cells slots pc ls (sh_R o :: st) φ sz Q := by
  intro p e s m args below meth c X H locs lsA hl hW hS
  obtain ⟨hx, hb, hml, hown, hts, hK, hST, hA, hret, hlocks, hnm⟩ := id X
  obtain ⟨⟨C, T, n⟩, hq, hk, hw⟩ := hF
  exact va_get (C := C) (T := T) (N := n) (ci := ci) (fs := fs.map (sh_tv g)) hx hb hts (hC _ hq).1 hown hK (hW.one ho) 0 rfl hq k hk (hts _ hw) (fun _ h => h) (by rw [List.getElem?_map, hv]; rfl) d (kk p e s m args below meth c X H locs lsA hl hW hS)
theorem sh_putf {ix ci k : Nat} {ty : FieldType} {o : sh_O} {fs : List sh_v} {v : sh_v} (d : decode (sh_cc M) pc = .ok (.putfield ix, 3)) (hF : sh_FL M.1.cls ix ci k) (hC : ∀ q, vwCl[ci]? = some q → sh_CF q) (hT : sh_FT ci k ty false) (hn : narrow ty (sh_tv g v) = sh_tv g v) (hfit : fits ty (sh_tv g v) = true) (ho : φ o = some (.inl (ci, fs))) (hlen : k < fs.length) (hφ : sh_up φ o (.inl (ci, fs.set k v)) = φ') (kk : sh_V g M cells slots (pc + 3) ls st φ' sz Q) : sh_V g M cells slots pc ls (v :: sh_R o :: st) φ sz Q := by
  intro p e s m args below meth c X H locs lsA hl hW hS
  obtain ⟨hx, hb, hml, hown, hts, hK, hST, hA, hret, hlocks, hnm⟩ := id X
  obtain ⟨⟨C, T, n⟩, hq, hk, hw⟩ := hF
  obtain ⟨q2, hq2, -, hd, hfin⟩ := hT
  obtain rfl : q2 = (C, T, n) := Option.some.inj (hq2.symm.trans hq)
  obtain ⟨hin, ⟨ty0, hty⟩, hnmd⟩ := hC _ hq
  have hap := va_apart (own := M.1.cls) hts hin ty0 hty hnmd hK hq
  obtain ⟨r, h1, cell, q1, q2', q3, q4⟩ := (hW.2.1 o _ ho).1
  obtain rfl : r = (C, T, n) := Option.some.inj (h1.symm.trans hq)
  obtain ⟨hSl, hfc, kC, hkC, hkind⟩ := hK.1 ci _ hq
  obtain ⟨cf, kf, fi, f, hi, hsl⟩ := hSl k hk
  have hlay := hts _ (hin _ (u_in_lay hk))
  unfold u_lay at hlay
  rw [if_neg (by rw [hfin]; decide)] at hlay
  have hst := (u_facts hfc hkC (u_lays hts hin hk) hi).1
  have h6 := u_store hfc hkC hkind hlay hi hd hn hfit
  refine W.putK hx hb (f := f) ⟨hown, hts _ hw, ⟨_, _, _, hi⟩, hst⟩ (by rw [q2']; exact h6) q1 q3 (by rw [hsl]; exact k2_hasslot (q4 k hk)) rfl rfl d fun H' e1 e2 e3 => ?_
  rw [hsl] at e1 ⊢
  refine kk p e s m args below meth c X H' _ lsA hl ?_ (sh_S.put hS e2 e3 (hW.2.1 o _ ho).2)
  rw [← hφ]
  refine hW.set ho e2 ⟨_, hq, ?_⟩ e3
  exact t_OB.to (V := updV (vp_V (fs.map (sh_tv g))) k (sh_tv g v)) ⟨_, e1, q2', q3, t_set q4 hap hk (sh_tv g v)⟩ (fun j _ => by
    show _ = vp_V ((fs.set k v).map (sh_tv g)) j
    rw [List.map_set]
    exact vp_updV_set (by rw [List.length_map]; exact hlen) (sh_tv g v) j)
theorem sh_putF {ix ci k : Nat} {ty : FieldType} {o : sh_O} {fs : List sh_v} {v : sh_v} (d : decode (sh_cc M) pc = .ok (.putfield ix, 3)) (hF : sh_FL M.1.cls ix ci k) (hC : ∀ q, vwCl[ci]? = some q → sh_CF q) (hT : sh_FT ci k ty true) (hin2 : M.1.name = "<init>") (hdecl : ∀ q, vwCl[ci]? = some q → (q.2.1 k).1 = M.1.cls) (hn : narrow ty (sh_tv g v) = sh_tv g v) (hfit : fits ty (sh_tv g v) = true) (ho : φ o = some (.inl (ci, fs))) (hlen : k < fs.length) (hφ : sh_up φ o (.inl (ci, fs.set k v)) = φ') (kk : sh_V g M cells slots (pc + 3) ls st φ' sz Q) : sh_V g M cells slots pc ls (v :: sh_R o :: st) φ sz Q := by
  intro p e s m args below meth c X H locs lsA hl hW hS
  obtain ⟨hx, hb, hml, hown, hts, hK, hST, hA, hret, hlocks, hnm⟩ := id X
  obtain ⟨⟨C, T, n⟩, hq, hk, hw⟩ := hF
  obtain ⟨q2, hq2, -, hd, hfin⟩ := hT
  obtain rfl : q2 = (C, T, n) := Option.some.inj (hq2.symm.trans hq)
  obtain ⟨hin, ⟨ty0, hty⟩, hnmd⟩ := hC _ hq
  have hdecl := hdecl _ hq
  have hap := va_apart (own := M.1.cls) hts hin ty0 hty hnmd hK hq
  obtain ⟨r, h1, cell, q1, q2', q3, q4⟩ := (hW.2.1 o _ ho).1
  obtain rfl : r = (C, T, n) := Option.some.inj (h1.symm.trans hq)
  obtain ⟨hSl, hfc, kC, hkC, hkind⟩ := hK.1 ci _ hq
  obtain ⟨cf, kf, fi, f, hi, hsl⟩ := hSl k hk
  have hlay := hts _ (hin _ (u_in_lay hk))
  unfold u_lay at hlay
  rw [if_pos hfin] at hlay
  have hst := (u_facts hfc hkC (u_lays hts hin hk) hi).1
  have hcf : m.cls = cf := by
    obtain ⟨_, _, c', _, _, _, -, -, hf', -, -, -, hown2, -⟩ := Cond.laysFinal_spec hlay
    have e1 : c' = cf := by have := hi.symm.trans hf'; simp at this; exact this.1.symm
    rw [hdecl] at hown2
    rw [← e1]; exact Option.some.inj (hown.symm.trans hown2)
  have h6 := u_fits hfc hkC hkind (Or.inr hlay) hi hd hn hfit
  refine W.putFinK hx hb hown (hts _ hw) hi hst hcf (hnm.trans hin2) (by rw [q2']; exact h6) q1 q3 (by rw [hsl]; exact k2_hasslot (q4 k hk)) rfl rfl d fun H' e1 e2 e3 => ?_
  rw [hsl] at e1 ⊢
  refine kk p e s m args below meth c X H' _ lsA hl ?_ (sh_S.put hS e2 e3 (hW.2.1 o _ ho).2)
  rw [← hφ]
  refine hW.set ho e2 ⟨_, hq, ?_⟩ e3
  exact t_OB.to (V := updV (vp_V (fs.map (sh_tv g))) k (sh_tv g v)) ⟨_, e1, q2', q3, t_set q4 hap hk (sh_tv g v)⟩ (fun j _ => by
    show _ = vp_V ((fs.set k v).map (sh_tv g)) j
    rw [List.map_set]
    exact vp_updV_set (by rw [List.length_map]; exact hlen) (sh_tv g v) j)
theorem sh_iald {o : sh_O} {n : Nat} {f : Nat → Int32} {i : Int32} (d : decode (sh_cc M) pc = .ok (.iaload, 1)) (ho : φ o = some (.inr (.inl (n, f)))) (hi : vp_in i n) (kk : sh_V g M cells slots (pc + 1) ls (sh_I (f i.toNatClampNeg) :: st) φ sz Q) : sh_V g M cells slots pc ls (sh_I i :: sh_R o :: st) φ sz Q := by
  intro p e s m args below meth c X H locs lsA hl hW hS
  obtain ⟨hx, hb, hml, hown, hts, hK, hST, hA, hret, hlocks, hnm⟩ := id X
  exact va_iald hx hb hK (hW.one ho) 0 0 rfl rfl hi d (kk p e s m args below meth c X H locs lsA hl hW hS)
theorem sh_cald {o : sh_O} {n : Nat} {f : Nat → Int32} {i : Int32} (d : decode (sh_cc M) pc = .ok (.caload, 1)) (ho : φ o = some (.inr (.inr (.inl (n, f))))) (hi : vp_in i n) (kk : sh_V g M cells slots (pc + 1) ls (sh_I (f i.toNatClampNeg) :: st) φ sz Q) : sh_V g M cells slots pc ls (sh_I i :: sh_R o :: st) φ sz Q := by
  intro p e s m args below meth c X H locs lsA hl hW hS
  obtain ⟨hx, hb, hml, hown, hts, hK, hST, hA, hret, hlocks, hnm⟩ := id X
  exact va_cald hx hb hK (hW.one ho) 0 1 rfl rfl hi d (kk p e s m args below meth c X H locs lsA hl hW hS)
theorem sh_aald {o o' : sh_O} {t n : Nat} {f : Nat → Option sh_O} {i : Int32} (d : decode (sh_cc M) pc = .ok (.aaload, 1)) (ht : t = 2 ∨ t = 3 ∨ t = 4) (ho : φ o = some (.inr (.inr (.inr (t, n, f))))) (hi : vp_in i n) (hf : f i.toNatClampNeg = some o') (kk : sh_V g M cells slots (pc + 1) ls (sh_R o' :: st) φ sz Q) : sh_V g M cells slots pc ls (sh_I i :: sh_R o :: st) φ sz Q := by
  intro p e s m args below meth c X H locs lsA hl hW hS
  obtain ⟨hx, hb, hml, hown, hts, hK, hST, hA, hret, hlocks, hnm⟩ := id X
  have k2 := kk p e s m args below meth c X H locs lsA hl hW hS
  have e1 : va_rf ((f i.toNatClampNeg).map (sh_ad g)) = .ref (sh_ad g o') := by rw [hf]; rfl
  rcases ht with rfl | rfl | rfl
  · exact va_aldq hx hb hK (hW.one ho) 0 2 rfl rfl hi d (by rw [e1]; exact k2)
  · exact va_aldq hx hb hK (hW.one ho) 0 3 rfl rfl hi d (by rw [e1]; exact k2)
  · exact va_aldq hx hb hK (hW.one ho) 0 4 rfl rfl hi d (by rw [e1]; exact k2)
theorem sh_iast {o : sh_O} {n : Nat} {f : Nat → Int32} {i x : Int32} (d : decode (sh_cc M) pc = .ok (.iastore, 1)) (ho : φ o = some (.inr (.inl (n, f)))) (hi : vp_in i n) (hφ : sh_up φ o (.inr (.inl (n, upd f i.toNatClampNeg x))) = φ') (kk : sh_V g M cells slots (pc + 1) ls st φ' sz Q) : sh_V g M cells slots pc ls (sh_I x :: sh_I i :: sh_R o :: st) φ sz Q := by
  intro p e s m args below meth c X H locs lsA hl hW hS
  obtain ⟨hx, hb, hml, hown, hts, hK, hST, hA, hret, hlocks, hnm⟩ := id X
  have ha : H[sh_ad g o]? = some (vp_cell (sh_cy g 0) (n, .inl f)) := (hW.2.1 o _ ho).1
  refine W.iast hx hb ha ((hK.2 0 _ rfl).1 n (fun j => .int (f j))) (fun q => by cases q) (by show ¬ (i < 0 ∨ (arrV _ _ _).slots.size ≤ _); rw [arrV_size]; exact hi) rfl rfl d fun H1 e1 z oq => ?_
  refine kk p e s m args below meth c X H1 _ lsA hl ?_ (sh_S.put hS z oq (hW.2.1 o _ ho).2)
  rw [← hφ]
  refine hW.set ho z ?_ oq
  show H1[_]? = some (vp_cell _ _)
  rw [e1, vp_cell_i, vp_cell_i, arrV_store]
  congr 2
  funext q
  by_cases hq : q = i.toNatClampNeg
  · subst hq
    simp [updV, upd]
  · simp [updV, upd, hq]
theorem sh_cast {o : sh_O} {n : Nat} {f : Nat → Int32} {i x : Int32} (d : decode (sh_cc M) pc = .ok (.castore, 1)) (ho : φ o = some (.inr (.inr (.inl (n, f))))) (hi : vp_in i n) (hx2 : vp_nar .char x = x) (hφ : sh_up φ o (.inr (.inr (.inl (n, upd f i.toNatClampNeg x)))) = φ') (kk : sh_V g M cells slots (pc + 1) ls st φ' sz Q) : sh_V g M cells slots pc ls (sh_I x :: sh_I i :: sh_R o :: st) φ sz Q := by
  intro p e s m args below meth c X H locs lsA hl hW hS
  obtain ⟨hx, hb, hml, hown, hts, hK, hST, hA, hret, hlocks, hnm⟩ := id X
  have ha : H[sh_ad g o]? = some (vp_cell (sh_cy g 1) (n, .inl f)) := (hW.2.1 o _ ho).1
  refine W.cast hx hb ha ((hK.2 1 _ rfl).1 n (fun j => .int (f j))) (fun q => by cases q) (by show ¬ (i < 0 ∨ (arrV _ _ _).slots.size ≤ _); rw [arrV_size]; exact hi) rfl rfl d fun H1 e1 z oq => ?_
  refine kk p e s m args below meth c X H1 _ lsA hl ?_ (sh_S.put hS z oq (hW.2.1 o _ ho).2)
  rw [← hφ]
  refine hW.set ho z ?_ oq
  show H1[_]? = some (vp_cell _ _)
  rw [show narrow .char (.int x) = .int (vp_nar .char x) from rfl, hx2] at e1
  rw [e1, vp_cell_i, vp_cell_i, arrV_store]
  congr 2
  funext q
  by_cases hq : q = i.toNatClampNeg
  · subst hq
    simp [updV, upd]
  · simp [updV, upd, hq]
theorem sh_aast {o o' : sh_O} {t n ci : Nat} {fs : List sh_v} {r : vw_C} {f : Nat → Option sh_O} {i : Int32} (d : decode (sh_cc M) pc = .ok (.aastore, 1)) (ht : (sh_tys g)[t]? = some (sh_cy g t, .object r.1)) (ho : φ o = some (.inr (.inr (.inr (t, n, f))))) (hv : φ o' = some (.inl (ci, fs))) (hc : vwCl[ci]? = some r) (hi : vp_in i n) (hφ : sh_up φ o (.inr (.inr (.inr (t, n, va_up f i.toNatClampNeg (some o'))))) = φ') (kk : sh_V g M cells slots (pc + 1) ls st φ' sz Q) : sh_V g M cells slots pc ls (sh_R o' :: sh_I i :: sh_R o :: st) φ sz Q := by
  intro p e s m args below meth c X H locs lsA hl hW hS
  obtain ⟨hx, hb, hml, hown, hts, hK, hST, hA, hret, hlocks, hnm⟩ := id X
  have hlt : i.toNatClampNeg < n := Nat.not_le.mp fun q => hi (Or.inr q)
  have h0 : ¬ i < 0 := fun q => hi (Or.inl q)
  have ha : H[sh_ad g o]? = some (vp_cell (sh_cy g t) (n, .inr (.inr (.inr (.inr (fun j => (f j).map (sh_ad g))))))) := (hW.2.1 o _ ho).1
  obtain ⟨r', hr', cellV, g1, g2, g3, -⟩ := (hW.2.1 o' _ hv).1
  have hcls := (hK.1 ci r hc).2
  obtain ⟨kA, comp, k1, k2, k3, -⟩ := (hK.2 t _ ht).2
  have hcomp : comp = (sh_D g).1 ci := Option.some.inj (k3.symm.trans hcls.1)
  subst hcomp
  obtain ⟨kC, hkC, -⟩ := hcls.2
  refine W.aast hx hb ha (fun q h => by cases h) (fun h => by cases h) k1 k2 rfl hkC ⟨h0, by show _ < (arrV _ _ _).slots.size; rw [arrV_size]; exact hlt⟩ g1 (fun q h => by rw [g3] at h; cases h) (by rw [g2]; exact hkC) (by rw [g2]; exact va_assign hcls) rfl rfl d fun H1 e1 z oq => ?_
  refine kk p e s m args below meth c X H1 _ lsA hl ?_ (sh_S.put hS z oq (hW.2.1 o _ ho).2)
  rw [← hφ]
  refine hW.set ho z ?_ oq
  show H1[_]? = some (vp_cell _ _)
  rw [e1, vp_cell_q, vp_cell_q, arrV_store]
  congr 2
  funext q
  by_cases hq : q = i.toNatClampNeg
  · subst hq
    simp [updV, va_up, va_rf]
  · simp [updV, va_up, hq]
/-- behind a call -/
theorem sh_back {p : Program} {e : Env} {s : State} {m : MethodId} {args : Array Value} {below : List Frame} {meth : Method} {c : Code} {H : Heap} {locs : List Loc} {lsA : Array Slot} {a : Array Value} {st0 : List Value} {Z : State → Prop} (hr : va_Run p (sh_l g) e (sh_rm M) s m args below meth c H locs cells slots (sh_mc N) (sh_ms N) (F0 m pc lsA st0) (st.map (sh_tv g)) (sh_Q g R a) (sh_A g)) (hS : va_S (sh_A g) s.heap H locs)
    (kk : ∀ (r : Option sh_v) (φ1 : sh_P) (sz1 : Nat) (H1 : Heap) (locs1 : List Loc), R r φ1 sz1 → sh_W g φ1 sz1 H1 → va_S (sh_A g) s.heap H1 locs1 → W p (sh_l g) e (sh_rm M) s m args below meth c H1 locs1 (cells + sh_mc N) (slots + sh_ms N) Z (F0 m (pc + 3) lsA ((r.toList ++ st).map (sh_tv g)))) : W p (sh_l g) e (sh_rm M) s m args below meth c H locs cells slots Z (F0 m pc lsA st0) := by
  intro T hT X
  obtain ⟨v, st₀, t, T', L, h0, X', hL, e1, e2, ⟨⟨r, φ1, sz1, hv, hR, hW1⟩, hz, hk⟩, step⟩ := hr T hT X
  cases hv
  rw [h0] at hz hk
  obtain ⟨t2, a1, b1⟩ := kk r φ1 sz1 T'.heap (locs ++ L) hR (by rw [e1]; exact hW1)
    ⟨Nat.le_trans hS.1 (by rw [e1]; exact hz), fun q h1 h2 => by rw [e1, hk q (Nat.lt_of_lt_of_le h1 hS.1) h2]; exact hS.2.1 q h1 h2, fun q hq => by
      rcases List.mem_append.mp hq with h | h
      · exact hS.2.2 q h
      · exact hL q h⟩ T' rfl X'
  refine ⟨t2, step t2 ?_, b1⟩
  cases r <;> exact a1
theorem sh_st8 (h : (st.map (fun v => if sh_c2 v then 2 else 1)).sum ≤ 8) : ((st.map (sh_tv g)).map fun v => v.category).sum ≤ 8 := by
  have e1 : ∀ v : sh_v, (sh_tv g v).category = if sh_c2 v then 2 else 1 := by
    intro v
    rcases v with _ | x | o | x | x <;> rfl
  rw [List.map_map]
  rw [show (st.map ((fun v => v.category) ∘ sh_tv g)) = st.map (fun v => if sh_c2 v then 2 else 1) from List.map_congr_left fun v _ => e1 v]
  exact h
theorem sh_vcall {ix n ci : Nat} {b : sh_O} {As st0 : List sh_v} {fs : List sh_v} {q : vw_C} (d : decode (sh_cc M) pc = .ok (.invokevirtual ix, 3)) (hl0 : Cond.methodLink M.1.cls ix N.1 ∈ shW) (hC : sh_LC N n) (hI : sh_IV N) (hf : sh_fitsIn N M) (hst : st0 = As.reverse ++ sh_R b :: st) (hn : As.length = n) (h8 : (st.map (fun v => if sh_c2 v then 2 else 1)).sum ≤ 8) (hb0 : φ b = some (.inl (ci, fs))) (hq : vwCl[ci]? = some q) (hqc : q.1 = N.1.cls) (hr : cells + sh_mc N ≤ sh_mc M ∧ slots + sh_ms N ≤ sh_ms M)
    (hM : sh_Call g N (sh_R b :: As) φ sz R) (kk : ∀ r φ1 sz1, R r φ1 sz1 → sh_V g M (cells + sh_mc N) (slots + sh_ms N) (pc + 3) ls (r.toList ++ st) φ1 sz1 Q) : sh_V g M cells slots pc ls st0 φ sz Q := by
  subst hst
  intro p e s m args below meth c X H locs lsA hl hW hS
  obtain ⟨hx, hb, hml, hown, hts, hK, hST, hA, hret, hlocks, hnm⟩ := id X
  have hrecv := va_recv hK (hW.one hb0) (ci := ci) (q0 := 0) hq rfl
  rw [hqc] at hrecv
  refine sh_back (va_runV (As := As.map (sh_tv g)) ⟨hx, hb, hml, hown, hts⟩ hM ⟨sh_callB X hl0 hC hf, hts _ hI.1, hts _ hI.2⟩ ⟨sh_blind, hrecv, fun U hU hWm => ⟨rfl, sh_preOf X hW hS hU hWm⟩⟩ rfl (by rw [List.length_map]; exact hn) hl.1 (by show (List.map _ _) = _; simp [sh_tv]) (lv_room (sh_st8 h8)) d hr) hS (fun r φ1 sz1 H1 locs1 hR hW1 hS1 => kk r φ1 sz1 hR p e s m args below meth c X H1 locs1 lsA hl hW1 hS1)
theorem sh_scall {ix n : Nat} {As st0 : List sh_v} (d : decode (sh_cc M) pc = .ok (.invokestatic ix, 3)) (hl0 : Cond.methodLink M.1.cls ix N.1 ∈ shW) (hC : sh_LC N n) (hI : Cond.static N.1 ∈ shW) (hf : sh_fitsIn N M) (hst : st0 = As.reverse ++ st) (hn : As.length = n) (h8 : (st.map (fun v => if sh_c2 v then 2 else 1)).sum ≤ 8) (hr : cells + sh_mc N ≤ sh_mc M ∧ slots + sh_ms N ≤ sh_ms M)
    (hM : sh_Call g N As φ sz R) (kk : ∀ r φ1 sz1, R r φ1 sz1 → sh_V g M (cells + sh_mc N) (slots + sh_ms N) (pc + 3) ls (r.toList ++ st) φ1 sz1 Q) : sh_V g M cells slots pc ls st0 φ sz Q := by
  subst hst
  intro p e s m args below meth c X H locs lsA hl hW hS
  obtain ⟨hx, hb, hml, hown, hts, hK, hST, hA, hret, hlocks, hnm⟩ := id X
  refine sh_back (va_runS (As := As.map (sh_tv g)) ⟨hx, hb, hml, hown, hts⟩ hM ⟨sh_callB X hl0 hC hf, hts _ hI⟩ ⟨sh_blind, fun U hU hWm => ⟨rfl, sh_preOf X hW hS hU hWm⟩⟩ rfl (by rw [List.length_map]; exact hn) hl.1 (by show (List.map _ _) = _; simp) (lv_room (sh_st8 h8)) d hr) hS (fun r φ1 sz1 H1 locs1 hR hW1 hS1 => kk r φ1 sz1 hR p e s m args below meth c X H1 locs1 lsA hl hW1 hS1)
theorem sh_icall {ix n : Nat} {b : sh_O} {As st0 : List sh_v} (d : decode (sh_cc M) pc = .ok (.invokespecial ix, 3)) (hl0 : Cond.methodLink M.1.cls ix N.1 ∈ shW) (hC : sh_LC N n) (hI : Cond.instanceMethod N.1 ∈ shW) (hnm2 : N.1.name = "<init>") (hrt : sh_rt N = none) (hf : sh_fitsIn N M) (hst : st0 = As.reverse ++ sh_R b :: st) (hn : As.length = n) (h8 : (st.map (fun v => if sh_c2 v then 2 else 1)).sum ≤ 8) (hr : cells + sh_mc N ≤ sh_mc M ∧ slots + sh_ms N ≤ sh_ms M)
    (hM : sh_Call g N (sh_R b :: As) φ sz R) (kk : ∀ r φ1 sz1, R r φ1 sz1 → sh_V g M (cells + sh_mc N) (slots + sh_ms N) (pc + 3) ls (r.toList ++ st) φ1 sz1 Q) : sh_V g M cells slots pc ls st0 φ sz Q := by
  subst hst
  intro p e s m args below meth c X H locs lsA hl hW hS
  obtain ⟨hx, hb, hml, hown, hts, hK, hST, hA, hret, hlocks, hnm⟩ := id X
  have hB := sh_callB X hl0 hC hf
  rw [hrt] at hB
  refine sh_back (va_runI (As := As.map (sh_tv g)) ⟨hx, hb, hml, hown, hts⟩ hM ⟨hB, hnm2, hts _ hI⟩ ⟨sh_blind, fun U hU hWm => ⟨rfl, sh_preOf X hW hS hU hWm⟩⟩ rfl (by rw [List.length_map]; exact hn) hl.1 (by show (List.map _ _) = _; simp [sh_tv]) (lv_room (sh_st8 h8)) d hr) hS (fun r φ1 sz1 H1 locs1 hR hW1 hS1 => kk r φ1 sz1 hR p e s m args below meth c X H1 locs1 lsA hl hW1 hS1)
theorem sh_scallN {ix n : Nat} {host : String} {As st0 : List sh_v} (d : decode (sh_cc M) pc = .ok (.invokestatic ix, 3)) (hl0 : Cond.methodLinkNest M.1.cls ix N.1 host ∈ lw_tbl) (hC : sh_LC N n) (hI : Cond.static N.1 ∈ shW) (hf : sh_fitsIn N M) (hst : st0 = As.reverse ++ st) (hn : As.length = n) (h8 : (st.map (fun v => if sh_c2 v then 2 else 1)).sum ≤ 8) (hr : cells + sh_mc N ≤ sh_mc M ∧ slots + sh_ms N ≤ sh_ms M)
    (hM : sh_Call g N As φ sz R) (kk : ∀ r φ1 sz1, R r φ1 sz1 → sh_V g M (cells + sh_mc N) (slots + sh_ms N) (pc + 3) ls (r.toList ++ st) φ1 sz1 Q) : sh_V g M cells slots pc ls st0 φ sz Q := by
  subst hst
  intro p e s m args below meth c X H locs lsA hl hW hS
  obtain ⟨hx, hb, hml, hown, hts, hK, hST, hA, hret, hlocks, hnm⟩ := id X
  refine sh_back (va_runSN (As := As.map (sh_tv g)) (host := host) ⟨hx, hb, hml, hown, hts⟩ hM ⟨va_cnB n hts (sh_good1 hC.1.2) rfl rfl rfl (hST.2.1 _ _ _ _ hl0) (hts _ hC.1.1) hC.2 hf, hts _ hI, trivial⟩ ⟨sh_blind, fun U hU hWm => ⟨rfl, sh_preOf X hW hS hU hWm⟩⟩ rfl (by rw [List.length_map]; exact hn) hl.1 (by show (List.map _ _) = _; simp) (lv_room (sh_st8 h8)) d hr) hS (fun r φ1 sz1 H1 locs1 hR hW1 hS1 => kk r φ1 sz1 hR p e s m args below meth c X H1 locs1 lsA hl hW1 hS1)
theorem sh_icallN {ix n : Nat} {host : String} {b : sh_O} {As st0 : List sh_v} (d : decode (sh_cc M) pc = .ok (.invokespecial ix, 3)) (hl0 : Cond.methodLinkNest M.1.cls ix N.1 host ∈ lw_tbl) (hC : sh_LC N n) (hI : Cond.instanceMethod N.1 ∈ shW) (hnm2 : N.1.name = "<init>") (hrt : sh_rt N = none) (hf : sh_fitsIn N M) (hst : st0 = As.reverse ++ sh_R b :: st) (hn : As.length = n) (h8 : (st.map (fun v => if sh_c2 v then 2 else 1)).sum ≤ 8) (hr : cells + sh_mc N ≤ sh_mc M ∧ slots + sh_ms N ≤ sh_ms M)
    (hM : sh_Call g N (sh_R b :: As) φ sz R) (kk : ∀ r φ1 sz1, R r φ1 sz1 → sh_V g M (cells + sh_mc N) (slots + sh_ms N) (pc + 3) ls (r.toList ++ st) φ1 sz1 Q) : sh_V g M cells slots pc ls st0 φ sz Q := by
  subst hst
  intro p e s m args below meth c X H locs lsA hl hW hS
  obtain ⟨hx, hb, hml, hown, hts, hK, hST, hA, hret, hlocks, hnm⟩ := id X
  have hB : va_CN (sh_rm M) s args M.1.cls ix N.1 host (sh_cc N) (sh_nL N) (sh_rt N) (sh_ws N) (sh_rm N) (sh_mc N) (sh_ms N) n := va_cnB n hts (sh_good1 hC.1.2) rfl rfl rfl (hST.2.1 _ _ _ _ hl0) (hts _ hC.1.1) hC.2 hf
  rw [hrt] at hB
  refine sh_back (va_runIN (As := As.map (sh_tv g)) (host := host) ⟨hx, hb, hml, hown, hts⟩ hM ⟨hB, hnm2, hts _ hI⟩ ⟨sh_blind, fun U hU hWm => ⟨rfl, sh_preOf X hW hS hU hWm⟩⟩ rfl (by rw [List.length_map]; exact hn) hl.1 (by show (List.map _ _) = _; simp [sh_tv]) (lv_room (sh_st8 h8)) d hr) hS (fun r φ1 sz1 H1 locs1 hR hW1 hS1 => kk r φ1 sz1 hR p e s m args below meth c X H1 locs1 lsA hl hW1 hS1)
end ROWS4
section ROWS5
variable {g : sh_G} {M N : sh_M} {cells slots pc : Nat} {ls ls' : List (Nat × sh_v)} {st : List sh_v} {φ φ' : sh_P} {sz : Nat} {Q R : sh_T}
theorem sh_cats (st : List sh_v) : ((st.map (sh_tv g)).map fun v => v.category).sum = (st.map (fun v => if sh_c2 v then 2 else 1)).sum := by
  have e1 : ∀ v : sh_v, (sh_tv g v).category = if sh_c2 v then 2 else 1 := by
    intro v
    rcases v with _ | x | o | x | x <;> rfl
  rw [List.map_map]
  rw [show (st.map ((fun v => v.category) ∘ sh_tv g)) = st.map (fun v => if sh_c2 v then 2 else 1) from List.map_congr_left fun v _ => e1 v]
theorem sh_min {ix : Nat} {x y : Int32} (d : decode (sh_cc M) pc = .ok (.invokestatic ix, 3)) (hl0 : Cond.methodLink M.1.cls ix Lib.Math.min.name ∈ shW) (hs : Cond.static Lib.Math.min.name ∈ shW) (hi : Cond.initialized "java/lang/Math" ∈ shW) (hc : Cond.code Lib.Math.min.name Lib.Math.min.code 2 (some .int) ∈ shW) (hf : 1 ≤ (sh_rm M).frames) (hlo : (st.map (fun v => if sh_c2 v then 2 else 1)).sum + 13 ≤ (sh_rm M).locals) (hr : cells ≤ sh_mc M ∧ slots ≤ sh_ms M) (kk : sh_V g M cells slots (pc + 3) ls (sh_I (if y < x then y else x) :: st) φ sz Q) : sh_V g M cells slots pc ls (sh_I y :: sh_I x :: st) φ sz Q := by
  intro p e s m args below meth c X H locs lsA hl hW hS
  obtain ⟨hx, hb, hml, hown, hts, hK, hST, hA, hret, hlocks, hnm⟩ := id X
  exact va_mmin hx hb (hml.trans hl.1.symm) hown (hts _ hl0) (hts _ hs) (hts _ hi) (hts _ hc) hf (by rw [sh_cats]; exact hlo) hr.1 hr.2 d (kk p e s m args below meth c X H locs lsA hl hW hS)
theorem sh_max {ix : Nat} {x y : Int32} (d : decode (sh_cc M) pc = .ok (.invokestatic ix, 3)) (hl0 : Cond.methodLink M.1.cls ix Lib.Math.max.name ∈ shW) (hs : Cond.static Lib.Math.max.name ∈ shW) (hi : Cond.initialized "java/lang/Math" ∈ shW) (hc : Cond.code Lib.Math.max.name Lib.Math.max.code 2 (some .int) ∈ shW) (hf : 1 ≤ (sh_rm M).frames) (hlo : (st.map (fun v => if sh_c2 v then 2 else 1)).sum + 13 ≤ (sh_rm M).locals) (hr : cells ≤ sh_mc M ∧ slots ≤ sh_ms M) (kk : sh_V g M cells slots (pc + 3) ls (sh_I (if x < y then y else x) :: st) φ sz Q) : sh_V g M cells slots pc ls (sh_I y :: sh_I x :: st) φ sz Q := by
  intro p e s m args below meth c X H locs lsA hl hW hS
  obtain ⟨hx, hb, hml, hown, hts, hK, hST, hA, hret, hlocks, hnm⟩ := id X
  exact va_mmax hx hb (hml.trans hl.1.symm) hown (hts _ hl0) (hts _ hs) (hts _ hi) (hts _ hc) hf (by rw [sh_cats]; exact hlo) hr.1 hr.2 d (kk p e s m args below meth c X H locs lsA hl hW hS)
theorem sh_f2raw {ix : Nat} {b : UInt32} (d : decode (sh_cc M) pc = .ok (.invokestatic ix, 3)) (hl0 : Cond.methodLink M.1.cls ix ⟨"java/lang/Float", "floatToRawIntBits", "(F)I"⟩ ∈ shW) (hn : Cond.native ⟨"java/lang/Float", "floatToRawIntBits", "(F)I"⟩ ∈ shW) (hs : Cond.static ⟨"java/lang/Float", "floatToRawIntBits", "(F)I"⟩ ∈ shW) (hi : Cond.initialized "java/lang/Float" ∈ shW) (hf : 1 ≤ (sh_rm M).frames) (hlo : (st.map (fun v => if sh_c2 v then 2 else 1)).sum + 15 ≤ (sh_rm M).locals) (kk : sh_V g M cells slots (pc + 3) ls (sh_I b.toInt32 :: st) φ sz Q) : sh_V g M cells slots pc ls (sh_F b :: st) φ sz Q := by
  intro p e s m args below meth c X H locs lsA hl hW hS
  obtain ⟨hx, hb, hml, hown, hts, hK, hST, hA, hret, hlocks, hnm⟩ := id X
  exact vn_f2i hx hb (hml.trans hl.1.symm) hown (hts _ hl0) (hts _ hn) (hts _ hs) (hts _ hi) hf (by rw [sh_cats]; exact hlo) d (kk p e s m args below meth c X H locs lsA hl hW hS)
theorem sh_i2fb {ix : Nat} {b : Int32} (d : decode (sh_cc M) pc = .ok (.invokestatic ix, 3)) (hl0 : Cond.methodLink M.1.cls ix ⟨"java/lang/Float", "intBitsToFloat", "(I)F"⟩ ∈ shW) (hn : Cond.native ⟨"java/lang/Float", "intBitsToFloat", "(I)F"⟩ ∈ shW) (hs : Cond.static ⟨"java/lang/Float", "intBitsToFloat", "(I)F"⟩ ∈ shW) (hi : Cond.initialized "java/lang/Float" ∈ shW) (hv : vn_sni2f b = false) (hf : 1 ≤ (sh_rm M).frames) (hlo : (st.map (fun v => if sh_c2 v then 2 else 1)).sum + 15 ≤ (sh_rm M).locals) (kk : sh_V g M cells slots (pc + 3) ls (sh_F b.toUInt32 :: st) φ sz Q) : sh_V g M cells slots pc ls (sh_I b :: st) φ sz Q := by
  intro p e s m args below meth c X H locs lsA hl hW hS
  obtain ⟨hx, hb, hml, hown, hts, hK, hST, hA, hret, hlocks, hnm⟩ := id X
  exact vn_i2f hx hb (hml.trans hl.1.symm) hown (hts _ hl0) (hts _ hn) (hts _ hs) (hts _ hi) hv hf (by rw [sh_cats]; exact hlo) d (kk p e s m args below meth c X H locs lsA hl hW hS)
theorem sh_objinit {ix : Nat} {o : sh_O} (d : decode (sh_cc M) pc = .ok (.invokespecial ix, 3)) (hl0 : Cond.methodLink M.1.cls ix Lib.objectInit ∈ shW) (hi : Cond.instanceMethod Lib.objectInit ∈ shW) (hc : Cond.code Lib.objectInit ⟨#[0xb1]⟩ 1 none ∈ shW) (hf : 1 ≤ (sh_rm M).frames) (hlo : (st.map (fun v => if sh_c2 v then 2 else 1)).sum + 12 ≤ (sh_rm M).locals) (kk : sh_V g M cells slots (pc + 3) ls st φ sz Q) : sh_V g M cells slots pc ls (sh_R o :: st) φ sz Q := by
  intro p e s m args below meth c X H locs lsA hl hW hS
  obtain ⟨hx, hb, hml, hown, hts, hK, hST, hA, hret, hlocks, hnm⟩ := id X
  exact W.objInit hx hb hown (hts _ hl0) (hts _ hi) (hts _ hc) rfl (by rw [hml]; exact hl.1) rfl d hf (by show 2 * 0 + ((st.map (sh_tv g)).map fun v => v.category).sum + 12 ≤ _; rw [sh_cats]; omega) (kk p e s m args below meth c X H locs lsA hl hW hS)
theorem sh_sgetN {ix i : Nat} {host : String} (d : decode (sh_cc M) pc = .ok (.getstatic ix, 3)) (hl0 : Cond.fieldLinkNest M.1.cls ix RX8 (sh_sn i) "[I" host ∈ lw_tbl) (hi : i < 3) (kk : sh_V g M cells slots (pc + 3) ls (sh_R (98, i, 0) :: st) φ sz Q) : sh_V g M cells slots pc ls st φ sz Q := by
  intro p e s m args below meth c X H locs lsA hl hW hS
  obtain ⟨hx, hb, hml, hown, hts, hK, hST, hA, hret, hlocks, hnm⟩ := id X
  exact va_getsN hx hb (hST.1.1 i hi).1 hS hown (va_Nw.use rfl (hST.2.2.1 _ _ _ _ _ _ hl0)) (fun _ h => h) d (kk p e s m args below meth c X H locs lsA hl hW hS)
theorem sh_tald {i : Nat} {j : Int32} (d : decode (sh_cc M) pc = .ok (.iaload, 1)) (hi : i < 3) (hj : vp_in j 7) (kk : sh_V g M cells slots (pc + 1) ls (sh_I (sh_sf i j.toNatClampNeg) :: st) φ sz Q) : sh_V g M cells slots pc ls (sh_I j :: sh_R (98, i, 0) :: st) φ sz Q := by
  intro p e s m args below meth c X H locs lsA hl hW hS
  obtain ⟨hx, hb, hml, hown, hts, hK, hST, hA, hret, hlocks, hnm⟩ := id X
  obtain ⟨cell, h1, h2, h3, h4, h5, h6, h7⟩ := ((hST.1.1 i hi).2).kept hS.2.1
  have hlt : j.toNatClampNeg < 7 := Nat.not_le.mp fun q => hj (Or.inr q)
  exact W.iald (v := .int (sh_sf i j.toNatClampNeg)) hx hb h1 h2 h3 (fun z => by rcases z with z | z; exact hj (Or.inl z); omega) (h6 _ hlt) rfl rfl d (kk p e s m args below meth c X H locs lsA hl hW hS)
theorem sh_sald {j : Int32} (d : decode (sh_cc M) pc = .ok (.iaload, 1)) (hj : vp_in j (sh_L g)) (kk : sh_V g M cells slots (pc + 1) ls (sh_I (sh_xs g j.toNatClampNeg) :: st) φ sz Q) : sh_V g M cells slots pc ls (sh_I j :: sh_R (99, 0, 0) :: st) φ sz Q := by
  intro p e s m args below meth c X H locs lsA hl hW hS
  obtain ⟨hx, hb, hml, hown, hts, hK, hST, hA, hret, hlocks, hnm⟩ := id X
  exact va_sld hx hb hST.1.2.1 hST.1.2.2.1 hST.1.2.2.2 hS hj d (kk p e s m args below meth c X H locs lsA hl hW hS)
theorem sh_slen (d : decode (sh_cc M) pc = .ok (.arraylength, 1)) (kk : sh_V g M cells slots (pc + 1) ls (sh_I (nI (sh_L g)) :: st) φ sz Q) : sh_V g M cells slots pc ls (sh_R (99, 0, 0) :: st) φ sz Q := by
  intro p e s m args below meth c X H locs lsA hl hW hS
  obtain ⟨hx, hb, hml, hown, hts, hK, hST, hA, hret, hlocks, hnm⟩ := id X
  obtain ⟨scr, h1, h2, h3, h4, -⟩ := hST.1.2.1
  have h1' : H[sh_ad g (99, 0, 0)]? = some scr := by rw [hS.2.1 _ hST.1.2.2.1 hST.1.2.2.2]; exact h1
  exact W.alen hx hb h1' h2 (by rw [h4]; rfl) rfl rfl d (kk p e s m args below meth c X H locs lsA hl hW hS)
theorem sh_new {ix ci : Nat} {o : sh_O} {q : vw_C} {fs : List sh_v} (d : decode (sh_cc M) pc = .ok (.new ix, 3)) (hq : vwCl[ci]? = some q) (hC : sh_CF q) (hcl : Cond.classLink M.1.cls ix q.1 ∈ shW) (hinst : Cond.instantiable q.1 q.2.2 ∈ shW) (hini : Cond.initialized q.1 ∈ shW) (hfs : ∀ j, j < q.2.2 → ∀ ty, parseFieldDescriptor (q.2.1 j).2.2.1 = some ty → defaultValue ty = sh_tv g (fs.getD j none)) (ho : φ o = none) (ha : sh_ad g o = sz) (hr : cells + 1 ≤ sh_mc M ∧ slots + q.2.2 ≤ sh_ms M) (hφ : sh_up φ o (.inl (ci, fs)) = φ') (kk : sh_V g M (cells + 1) (slots + q.2.2) (pc + 3) ls (sh_R o :: st) φ' (sz + 1) Q) : sh_V g M cells slots pc ls st φ sz Q := by
  intro p e s m args below meth c X H locs lsA hl hW hS
  obtain ⟨hx, hb, hml, hown, hts, hK, hST, hA, hret, hlocks, hnm⟩ := id X
  obtain ⟨C, T, n⟩ := q
  obtain ⟨hin, ⟨ty0, hty⟩, hnmd⟩ := hC
  have hKn := hK.1 ci _ hq
  refine W.newcK hx hb hown (hts _ hcl) (hts _ hinst) (hts _ hini) rfl d hr.1 hr.2 hKn.2.1 hW.1 fun H1 kC hkC e1 z1 o1 => ?_
  have k2 := kk p e s m args below meth c X H1 locs lsA hl ?_ (sh_S.push hS hW.1 z1 o1)
  · rw [← ha]
    exact k2
  · rw [← hφ]
    refine hW.push ho ha (hA _ (hW.1 ▸ hS.1)) z1 ?_ o1
    rw [ha]
    refine ⟨_, hq, (u_born ty0 hts hin hKn hkC e1 hty).to (fun j hj => ?_)⟩
    rw [hfs j hj _ (hty j hj)]
    show _ = (fs.map (sh_tv g)).getD j .null
    rw [List.getD_eq_getElem?_getD, List.getD_eq_getElem?_getD, List.getElem?_map]
    cases fs[j]? <;> rfl
theorem sh_newi {atype : ArrayType} {ty : FieldType} {t : Nat} {o : sh_O} {n : Int32} {N' : Nat} {c0 : sh_c} (d : decode (sh_cc M) pc = .ok (.newarray atype, 2)) (hty : newarray.typeOf atype = ty) (hw : Cond.arrayClass (newarray.typeOf atype) ∈ shW) (ht : (sh_tys g)[t]? = some (sh_cy g t, ty)) (hc0 : sh_ce g c0 = .inl (sh_cy g t, N', .inl (fun _ => 0))) (hpr : ty = .int ∨ ty = .char) (hn : ¬ n < 0) (hN : n.toNatClampNeg = N') (hbytes : N' ≤ 10000) (ho : φ o = none) (ha : sh_ad g o = sz) (hr : cells + 1 ≤ sh_mc M ∧ slots + N' ≤ sh_ms M) (hφ : sh_up φ o c0 = φ') (kk : sh_V g M (cells + 1) (slots + N') (pc + 2) ls (sh_R o :: st) φ' (sz + 1) Q) : sh_V g M cells slots pc ls (sh_I n :: st) φ sz Q := by
  intro p e s m args below meth c X H locs lsA hl hW hS
  obtain ⟨hx, hb, hml, hown, hts, hK, hST, hA, hret, hlocks, hnm⟩ := id X
  subst hty
  have hb4 : N' * componentBytes (newarray.typeOf atype) ≤ 536870912 := by
    rcases hpr with e4 | e4 <;> rw [e4] <;> (show N' * _ ≤ _) <;> simp only [componentBytes] <;> omega
  refine va_newaK hx hb (hts _ hw) rfl d rfl hn hN hb4 hr.1 hr.2 hW.1 fun H1 cA e1 z1 o1 hAr hNm => ?_
  have hcA : cA = sh_cy g t := by
    have h5 := (hK.2 t _ ht).2
    rcases hpr with e4 | e4 <;> rw [e4] at h5 hNm <;> exact Option.some.inj (hNm.symm.trans h5)
  have k2 := kk p e s m args below meth c X H1 locs lsA hl ?_ (sh_S.push hS hW.1 z1 o1)
  · rw [← ha]
    exact k2
  · rw [← hφ]
    refine hW.push ho ha (hA _ (hW.1 ▸ hS.1)) z1 ?_ o1
    rw [ha, hc0]
    show H1[sz]? = some (vp_cell _ _)
    rw [e1, hcA, vp_cell_i]
    rcases hpr with e4 | e4 <;> rw [e4] <;> rfl
theorem sh_newq {ix t : Nat} {C : String} {o : sh_O} {n : Int32} {N' : Nat} (d : decode (sh_cc M) pc = .ok (.anewarray ix, 3)) (hcl : Cond.classLink M.1.cls ix C ∈ shW) (hov : Cond.arrayOver (.object C) ∈ lw_tbl) (ht : (sh_tys g)[t]? = some (sh_cy g t, .object C)) (hn : ¬ n < 0) (hN : n.toNatClampNeg = N') (hbytes : N' ≤ 10000) (ho : φ o = none) (ha : sh_ad g o = sz) (hr : cells + 1 ≤ sh_mc M ∧ slots + N' ≤ sh_ms M) (hφ : sh_up φ o (.inr (.inr (.inr (t, N', fun _ => none)))) = φ') (kk : sh_V g M (cells + 1) (slots + N') (pc + 3) ls (sh_R o :: st) φ' (sz + 1) Q) : sh_V g M cells slots pc ls (sh_I n :: st) φ sz Q := by
  intro p e s m args below meth c X H locs lsA hl hW hS
  obtain ⟨hx, hb, hml, hown, hts, hK, hST, hA, hret, hlocks, hnm⟩ := id X
  subst hN
  refine W.anew hx hb hown (hts _ hcl) (va_AO.use (hST.2.2.2 C hov)) rfl d rfl hn (by omega) hr.1 hr.2 fun cA kA comp f1 f2 f3 f4 => ?_
  generalize hH1 : H.push ({ cls := cA, slots := Array.replicate n.toNatClampNeg .null, vm := .none } : Cell) = H1
  have z1 : H1.size = sz + 1 := by rw [← hH1, Array.size_push, hW.1]
  have e1 : H1[sz]? = some (arrV cA n.toNatClampNeg (fun _ => .null)) := by rw [← hH1, ← hW.1, Array.getElem?_push_size, ← arrV_new]
  have o1 : ∀ q : Nat, q < sz → H1[q]? = H[q]? := fun q hq => by rw [← hH1, Array.getElem?_push, if_neg (by rw [hW.1]; exact Nat.ne_of_lt hq)]
  have hcA : cA = sh_cy g t := by
    obtain ⟨-, kA2, comp2, -, -, -, h5⟩ := hK.2 t _ ht
    exact Option.some.inj (f1.symm.trans h5)
  have k2 := kk p e s m args below meth c X H1 locs lsA hl ?_ (sh_S.push hS hW.1 z1 o1)
  · rw [hW.1, ← ha]
    exact k2
  · rw [← hφ]
    refine hW.push ho ha (hA _ (hW.1 ▸ hS.1)) z1 ?_ o1
    rw [ha]
    show H1[sz]? = some (vp_cell _ _)
    rw [e1, hcA, vp_cell_q]
    rfl
end ROWS5
