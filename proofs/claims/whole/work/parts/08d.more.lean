/-! what the walks want besides -/
theorem sh_enterF {g : sh_G} {M : sh_M} {as : List sh_v} {φ : sh_P} {sz : Nat} {Q : sh_T} {ls : List (Nat × sh_v)} (hy : plainFor M.1 = true) (hn : (lg_sl (as.map (sh_tv g))).length ≤ sh_nL M) (hl : lv_args 0 (as.map (sh_tv g)) = ls.map (sh_tq g)) (h : sh_V g M 0 0 0 ls [] φ sz Q) : sh_Call g M as φ sz Q := by
  unfold sh_Call Met
  refine MetFree.of_bodySF (code := sh_cc M) (maxLocals := sh_nL M) (ret := sh_rt M) hy ?_ ?_
  · intro args s m h hn
    obtain ⟨meth, c, h1, h2, h3, h4, h5, h6, -, -⟩ := Cond.code_spec hn (atoms_spec (ws := sh_ws M) h _ List.mem_cons_self)
    exact ⟨meth, c, h1, h2, h3, h4, h5, h6⟩
  · intro p e s m args below meth c s₁ B hml hv _
    obtain ⟨rfl, hK, hST, hA, hW⟩ := hv
    have hts : ∀ w ∈ shW, w.before (as.map (sh_tv g)).toArray s = true := fun w hw => atoms_spec (ws := sh_ws M) B.pre w (List.mem_cons_of_mem _ hw)
    have hX : sh_X g M p s m (as.map (sh_tv g)).toArray meth c := ⟨B.exec, B.bytes, hml, findClass_of_methodNamed B.named, hts, hK, hST, hA, B.returns, B.notSynchronized, (name_of_methodNamed B.named B.method).1⟩
    have hh0 : s₁.heap = s.heap := by rw [B.state]; rfl
    rw [lg_entry_eq]
    obtain ⟨t, a1, o, b1, b2, b3⟩ := h p e s m _ below meth c hX s.heap [] _ (hl ▸ lv_entry (as.map (sh_tv g)) hn) hW va_S.rf s₁ hh0 (Stand.of_body B)
    exact ⟨t, o, a1, b1, b2, ⟨b3.1, b3.2⟩⟩
section MORE
variable {g : sh_G} {M : sh_M} {cells slots pc : Nat} {ls : List (Nat × sh_v)} {st : List sh_v} {φ : sh_P} {sz : Nat} {Q : sh_T}
theorem sh_fconst2 (d : decode (sh_cc M) pc = .ok (.fconst 2, 1)) (k : sh_V g M cells slots (pc + 1) ls (sh_F FP.fconst2 :: st) φ sz Q) : sh_V g M cells slots pc ls st φ sz Q := by
  intro p e s m args below meth c X H locs lsA hl hW hS
  obtain ⟨hx, hb, hml, hown, hts, hK, hST, hA, hret, hlocks, hnm⟩ := id X
  exact lv_fconst2 hx hb d (k p e s m args below meth c X H locs lsA hl hW hS)
end MORE
