/-! System.arraycopy of ints, and Float.floatToIntBits -/
section ROWS6
variable {g : sh_G} {M N : sh_M} {cells slots pc : Nat} {ls ls' : List (Nat × sh_v)} {st : List sh_v} {φ φ' : sh_P} {sz : Nat} {Q R : sh_T}
def sh_cpw (M : sh_M) (ix : Nat) : Prop := Cond.methodLink M.1.cls ix arraycopyName ∈ shW ∧ Cond.native arraycopyName ∈ shW ∧ Cond.static arraycopyName ∈ shW ∧ Cond.initialized "java/lang/System" ∈ shW
theorem sh_copyA {p : Program} {e : Env} {s : State} {m : MethodId} {args : Array Value} {below : List Frame} {meth : Method} {c : Code} {H : Heap} {locs : List Loc} {lsA : Array Slot} {Z : State → Prop} {ix : Nat} {a0 : Nat} {cs : Cell} {o : sh_O} {n0 n1 : Nat} {f h : Nat → Int32} {sp dp n : Int32} (X : sh_X g M p s m args meth c) (hl : lsA.size = sh_nL M) (hW : sh_W g φ sz H) (hS : va_S (sh_A g) s.heap H locs)
    (d : decode (sh_cc M) pc = .ok (.invokestatic ix, 3)) (hw : sh_cpw M ix) (h0 : H[a0]? = some cs) (harr : s.isArrayOf cs .int) (hkn : cs.vm ≠ .unknown) (hsz : n0 ≤ cs.slots.size) (hval : ∀ j, j < n0 → cs.slots[j]? = some (.int (f j))) (ho : φ o = some (.inr (.inl (n1, h))))
    (h1 : ¬ sp < 0) (h2 : ¬ dp < 0) (h3 : ¬ n < 0) (h4 : sp.toNatClampNeg + n.toNatClampNeg ≤ n0) (h5 : dp.toNatClampNeg + n.toNatClampNeg ≤ n1) (hf : 1 ≤ (sh_rm M).frames) (hlo : (st.map (fun v => if sh_c2 v then 2 else 1)).sum + (nativeFrameWords "java/lang/System" "arraycopy" 5 + 11) ≤ (sh_rm M).locals)
    (kk : ∀ (H1 : Heap) (locs1 : List Loc), sh_W g (sh_up φ o (.inr (.inl (n1, va_cpy f h sp.toNatClampNeg dp.toNatClampNeg n.toNatClampNeg)))) sz H1 → va_S (sh_A g) s.heap H1 locs1 → W p (sh_l g) e (sh_rm M) s m args below meth c H1 locs1 cells slots Z (F0 m (pc + 3) lsA (st.map (sh_tv g)))) :
    W p (sh_l g) e (sh_rm M) s m args below meth c H locs cells slots Z (F0 m pc lsA (.int n :: .int dp :: .ref (sh_ad g o) :: .int sp :: .ref a0 :: st.map (sh_tv g))) := by
  obtain ⟨hx, hb, hml, hown, hts, hK, hST, hA, hret, hlocks, hnm⟩ := id X
  have nn : ∀ z : Int32, ¬ z < 0 → z.toInt = (z.toNatClampNeg : Int) := by
    intro z hz
    have hz0 : (0 : Int) ≤ z.toInt := by
      have := Int32.not_lt.mp hz
      simpa using Int32.le_iff_toInt_le.mp this
    show z.toInt = ((z.toInt.toNat : Nat) : Int)
    omega
  intro T hT XS
  have hc1 : H[sh_ad g o]? = some (vp_cell (sh_cy g 0) (n1, .inl h)) := (hW.2.1 o _ ho).1
  obtain ⟨hob, k0, hk0, cm0, hkk0⟩ := harr
  obtain ⟨-, k1, hk1, cm1, hkk1⟩ := (hK.2 0 _ rfl).1 n1 (fun j => .int (h j))
  obtain ⟨vm', X', step⟩ := XS.arraycopy hx hown (hts _ hw.1) (hts _ hw.2.1) (hts _ hw.2.2.1) (hts _ hw.2.2.2) (src := a0) (dst := sh_ad g o) (cs := cs) (cd := vp_cell (sh_cy g 0) (n1, .inl h)) (srcPos := sp) (destPos := dp) (n := n) (by rw [hT]; exact h0) (by rw [hT]; exact hc1)
    hob (fun _ h => by cases h) hkn (fun h => by cases h) hk0 hk1 hkk0 hkk1 (by rfl) h1 h2 h3
    (by rw [nn sp h1, nn n h3]; omega)
    (by rw [nn dp h2, nn n h3]; show ¬ _ > ((arrV (sh_cy g 0) n1 (fun j => .int (h j))).slots.size : Int); rw [arrV_size]; omega)
    (fun vm₁ _ i hi => by
      have e : cs.slots.getD (sp.toNatClampNeg + i) .null = .int (f (sp.toNatClampNeg + i)) := by
        rw [Array.getD_eq_getD_getElem?, hval _ (by omega)]
        rfl
      refine ⟨?_, ?_⟩
      · rw [e]; rfl
      · rw [e]; exact trivial)
    (g := F0 m pc lsA (.int n :: .int dp :: .ref (sh_ad g o) :: .int sp :: .ref a0 :: st.map (sh_tv g))) rfl (by rw [hml]; exact hl) (rest := st.map (sh_tv g)) rfl (by rw [hb]; exact d) hf (by show 2 * 0 + ((st.map (sh_tv g)).map fun v => v.category).sum + _ ≤ _; rw [sh_cats]; omega)
  have e1 : copied cs (vp_cell (sh_cy g 0) (n1, .inl h)) sp dp n = vp_cell (sh_cy g 0) (n1, .inl (va_cpy f h sp.toNatClampNeg dp.toNatClampNeg n.toNatClampNeg)) := va_copiedX (fun z => .int z) cs (sh_cy g 0) f h hval h4
  rw [e1] at X' step
  have hlt : sh_ad g o < H.size := (Array.getElem?_eq_some_iff.mp hc1).1
  have hheap : ((T.setVm vm').setCell (sh_ad g o) (vp_cell (sh_cy g 0) (n1, .inl (va_cpy f h sp.toNatClampNeg dp.toNatClampNeg n.toNatClampNeg)))).heap = H.setIfInBounds (sh_ad g o) (vp_cell (sh_cy g 0) (n1, .inl (va_cpy f h sp.toNatClampNeg dp.toNatClampNeg n.toNatClampNeg))) := by rw [← hT]; rfl
  have oq : ∀ q : Nat, q ≠ sh_ad g o → (H.setIfInBounds (sh_ad g o) (vp_cell (sh_cy g 0) (n1, .inl (va_cpy f h sp.toNatClampNeg dp.toNatClampNeg n.toNatClampNeg))))[q]? = H[q]? := fun q hq => by simp [Array.getElem?_setIfInBounds, Ne.symm hq]
  obtain ⟨t, a1, b1⟩ := kk _ _ (hW.set ho (by simp) (show (H.setIfInBounds (sh_ad g o) _)[sh_ad g o]? = some (vp_cell (sh_cy g 0) (n1, .inl (va_cpy f h sp.toNatClampNeg dp.toNatClampNeg n.toNatClampNeg))) by simp [Array.getElem?_setIfInBounds, hlt]) oq) ⟨by simp; exact hS.1, fun q g1 g2 => by
      rw [oq q (fun e => g2 (by rw [e]; exact (hW.2.1 o _ ho).2))]
      exact hS.2.1 q g1 g2, fun q hq => by
      rcases List.mem_append.mp hq with h | h
      · exact hS.2.2 q h
      · obtain ⟨z, -, hz⟩ := List.mem_map.mp h
        rw [← hz]
        exact (hW.2.1 o _ ho).2⟩ _ hheap X'
  exact ⟨t, step t a1, b1⟩
theorem sh_copy {ix : Nat} {o0 o : sh_O} {n0 n1 : Nat} {f h : Nat → Int32} {sp dp n : Int32} (d : decode (sh_cc M) pc = .ok (.invokestatic ix, 3)) (hw : sh_cpw M ix) (ho0 : φ o0 = some (.inr (.inl (n0, f)))) (ho : φ o = some (.inr (.inl (n1, h)))) (h1 : ¬ sp < 0) (h2 : ¬ dp < 0) (h3 : ¬ n < 0) (h4 : sp.toNatClampNeg + n.toNatClampNeg ≤ n0) (h5 : dp.toNatClampNeg + n.toNatClampNeg ≤ n1) (hf : 1 ≤ (sh_rm M).frames) (hlo : (st.map (fun v => if sh_c2 v then 2 else 1)).sum + (nativeFrameWords "java/lang/System" "arraycopy" 5 + 11) ≤ (sh_rm M).locals)
    (hφ : sh_up φ o (.inr (.inl (n1, va_cpy f h sp.toNatClampNeg dp.toNatClampNeg n.toNatClampNeg))) = φ') (kk : sh_V g M cells slots (pc + 3) ls st φ' sz Q) : sh_V g M cells slots pc ls (sh_I n :: sh_I dp :: sh_R o :: sh_I sp :: sh_R o0 :: st) φ sz Q := by
  intro p e s m args below meth c X H locs lsA hl hW hS
  have hK := X.2.2.2.2.2.1
  exact sh_copyA X hl.1 hW hS d hw (hW.2.1 o0 _ ho0).1 ((hK.2 0 _ rfl).1 n0 (fun j => .int (f j))) (fun q => by cases q) (by show n0 ≤ (arrV _ _ _).slots.size; rw [arrV_size]; exact Nat.le_refl _) (fun j hj => by show (arrV _ _ _).slots[_]? = _; rw [arrV_read _ _ hj]) ho h1 h2 h3 h4 h5 hf hlo (fun H1 locs1 hW1 hS1 => kk p e s m args below meth c X H1 locs1 lsA hl (hφ ▸ hW1) hS1)
theorem sh_copyS {ix i : Nat} {o : sh_O} {n1 : Nat} {h : Nat → Int32} {sp dp n : Int32} (d : decode (sh_cc M) pc = .ok (.invokestatic ix, 3)) (hw : sh_cpw M ix) (hi : i < 3) (ho : φ o = some (.inr (.inl (n1, h)))) (h1 : ¬ sp < 0) (h2 : ¬ dp < 0) (h3 : ¬ n < 0) (h4 : sp.toNatClampNeg + n.toNatClampNeg ≤ 7) (h5 : dp.toNatClampNeg + n.toNatClampNeg ≤ n1) (hf : 1 ≤ (sh_rm M).frames) (hlo : (st.map (fun v => if sh_c2 v then 2 else 1)).sum + (nativeFrameWords "java/lang/System" "arraycopy" 5 + 11) ≤ (sh_rm M).locals)
    (hφ : sh_up φ o (.inr (.inl (n1, va_cpy (sh_sf i) h sp.toNatClampNeg dp.toNatClampNeg n.toNatClampNeg))) = φ') (kk : sh_V g M cells slots (pc + 3) ls st φ' sz Q) : sh_V g M cells slots pc ls (sh_I n :: sh_I dp :: sh_R o :: sh_I sp :: sh_R (98, i, 0) :: st) φ sz Q := by
  intro p e s m args below meth c X H locs lsA hl hW hS
  obtain ⟨cell, h1c, h2c, h3c, h4c, h5c, h6c, h7c⟩ := ((X.2.2.2.2.2.2.1.1.1 i hi).2).kept hS.2.1
  exact sh_copyA X hl.1 hW hS d hw h1c h2c h3c h4c h6c ho h1 h2 h3 h4 h5 hf hlo (fun H1 locs1 hW1 hS1 => kk p e s m args below meth c X H1 locs1 lsA hl (hφ ▸ hW1) hS1)
end ROWS6
