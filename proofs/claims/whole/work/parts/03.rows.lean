/-! rows of the judgement: instructions that touch locals and stack alone -/
def sh_lk (ls : List (Nat × sh_v)) (k : Nat) : Option sh_v := match ls with
  | [] => none
  | q :: r => if q.1 = k then some q.2 else sh_lk r k
theorem sh_lk_mem {ls : List (Nat × sh_v)} {k : Nat} {v : sh_v} (h : sh_lk ls k = some v) : (k, v) ∈ ls := by
  induction ls with
  | nil => simp [sh_lk] at h
  | cons q r ih =>
    unfold sh_lk at h
    by_cases e : q.1 = k
    · simp [e] at h
      rw [← e, ← h]
      exact List.mem_cons_self
    · simp [e] at h
      exact List.mem_cons_of_mem _ (ih h)
def sh_c2 (v : sh_v) : Bool := match v with
  | some (.inr (.inr (.inr _))) => true
  | _ => false
theorem sh_cat (g : sh_G) (v : sh_v) : ((sh_tv g v).category == 2) = sh_c2 v := by
  rcases v with _ | x | o | x | x <;> rfl
def sh_sto (k : Nat) (v : sh_v) (ls : List (Nat × sh_v)) : List (Nat × sh_v) := (k, v) :: ls.filter (fun q => !(q.1 == k) && !(q.1 + 1 == k && sh_c2 q.2))
def sh_sto2 (k : Nat) (v : sh_v) (ls : List (Nat × sh_v)) : List (Nat × sh_v) := (k, v) :: ls.filter (fun q => !(q.1 == k) && (!(q.1 == k + 1) && !(q.1 + 1 == k && sh_c2 q.2)))
theorem sh_stoE {g : sh_G} {k : Nat} {v : sh_v} {ls ls' : List (Nat × sh_v)} (h : sh_sto k v ls = ls') : (k, sh_tv g v) :: (ls.map (sh_tq g)).filter (fun q => !(q.1 == k) && !(q.1 + 1 == k && q.2.category == 2)) = ls'.map (sh_tq g) := by
  subst h
  rw [List.filter_map]
  show _ = (k, sh_tv g v) :: _
  congr 2
  apply List.filter_congr
  intro q _
  show (!(q.1 == k) && !(q.1 + 1 == k && (sh_tv g q.2).category == 2)) = _
  rw [sh_cat]
theorem sh_sto2E {g : sh_G} {k : Nat} {v : sh_v} {ls ls' : List (Nat × sh_v)} (h : sh_sto2 k v ls = ls') : (k, sh_tv g v) :: (ls.map (sh_tq g)).filter (fun q => !(q.1 == k) && (!(q.1 == k + 1) && !(q.1 + 1 == k && q.2.category == 2))) = ls'.map (sh_tq g) := by
  subst h
  rw [List.filter_map]
  show _ = (k, sh_tv g v) :: _
  congr 2
  apply List.filter_congr
  intro q _
  show (!(q.1 == k) && (!(q.1 == k + 1) && !(q.1 + 1 == k && (sh_tv g q.2).category == 2))) = _
  rw [sh_cat]
theorem sh_at {g : sh_G} {lsA : Array Slot} {n : Nat} {ls : List (Nat × sh_v)} (hl : lv_has lsA n (ls.map (sh_tq g))) {k : Nat} {v : sh_v} (h : sh_lk ls k = some v) : lsA[k]? = some (.val (sh_tv g v)) :=
  hl.2.2 (sh_tq g (k, v)) (List.mem_map_of_mem (sh_lk_mem h))
section ROWS2
variable {g : sh_G} {M : sh_M} {cells slots pc : Nat} {ls ls' : List (Nat × sh_v)} {st : List sh_v} {φ : sh_P} {sz : Nat} {Q : sh_T}
theorem sh_sub (h : ∀ q ∈ ls', q ∈ ls) (k : sh_V g M cells slots pc ls' st φ sz Q) : sh_V g M cells slots pc ls st φ sz Q := by
  intro p e s m args below meth c X H locs lsA hl hW hS
  refine k p e s m args below meth c X H locs lsA ⟨hl.1, hl.2.1, fun q hq => ?_⟩ hW hS
  obtain ⟨q0, h0, rfl⟩ := List.mem_map.mp hq
  exact hl.2.2 _ (List.mem_map_of_mem (h q0 h0))
theorem sh_wid {c2 s2 : Nat} (h : cells ≤ c2 ∧ slots ≤ s2) (k : sh_V g M c2 s2 pc ls st φ sz Q) : sh_V g M cells slots pc ls st φ sz Q := by
  intro p e s m args below meth c X H locs lsA hl hW hS
  exact W.widen h.1 h.2 (k p e s m args below meth c X H locs lsA hl hW hS)
theorem sh_iconst {n : Int} {v : Int32} (d : decode (sh_cc M) pc = .ok (.iconst n, 1)) (hv : Int32.ofInt n = v) (k : sh_V g M cells slots (pc + 1) ls (sh_I v :: st) φ sz Q) : sh_V g M cells slots pc ls st φ sz Q := by
  intro p e s m args below meth c X H locs lsA hl hW hS
  obtain ⟨hx, hb, hml, hown, hts, hK, hST, hA, hret, hlocks, hnm⟩ := id X
  exact lv_iconst hx hb d hv (k p e s m args below meth c X H locs lsA hl hW hS)
theorem sh_bipush {n : Int} {v : Int32} (d : decode (sh_cc M) pc = .ok (.bipush n, 2)) (hv : (Int8.ofInt n).toInt32 = v) (k : sh_V g M cells slots (pc + 2) ls (sh_I v :: st) φ sz Q) : sh_V g M cells slots pc ls st φ sz Q := by
  intro p e s m args below meth c X H locs lsA hl hW hS
  obtain ⟨hx, hb, hml, hown, hts, hK, hST, hA, hret, hlocks, hnm⟩ := id X
  exact lv_bipush hx hb d hv (k p e s m args below meth c X H locs lsA hl hW hS)
theorem sh_sipush {n : Int} {v : Int32} (d : decode (sh_cc M) pc = .ok (.sipush n, 3)) (hv : (Int16.ofInt n).toInt32 = v) (k : sh_V g M cells slots (pc + 3) ls (sh_I v :: st) φ sz Q) : sh_V g M cells slots pc ls st φ sz Q := by
  intro p e s m args below meth c X H locs lsA hl hW hS
  obtain ⟨hx, hb, hml, hown, hts, hK, hST, hA, hret, hlocks, hnm⟩ := id X
  exact lv_sipush hx hb d hv (k p e s m args below meth c X H locs lsA hl hW hS)
theorem sh_ldc {ix : Nat} {v : Int32} (d : decode (sh_cc M) pc = .ok (.ldc ix, 2)) (hw : Cond.constant M.1.cls ix v ∈ shW) (k : sh_V g M cells slots (pc + 2) ls (sh_I v :: st) φ sz Q) : sh_V g M cells slots pc ls st φ sz Q := by
  intro p e s m args below meth c X H locs lsA hl hW hS
  obtain ⟨hx, hb, hml, hown, hts, hK, hST, hA, hret, hlocks, hnm⟩ := id X
  exact lv_ldc hx hb hown (hts _ hw) d (k p e s m args below meth c X H locs lsA hl hW hS)
theorem sh_ldcf {ix : Nat} {v : UInt32} (d : decode (sh_cc M) pc = .ok (.ldc ix, 2)) (hw : Cond.constantFloat M.1.cls ix v ∈ shW) (k : sh_V g M cells slots (pc + 2) ls (sh_F v :: st) φ sz Q) : sh_V g M cells slots pc ls st φ sz Q := by
  intro p e s m args below meth c X H locs lsA hl hW hS
  obtain ⟨hx, hb, hml, hown, hts, hK, hST, hA, hret, hlocks, hnm⟩ := id X
  exact lv_ldcf hx hb hown (hts _ hw) d (k p e s m args below meth c X H locs lsA hl hW hS)
theorem sh_ldc2d {ix : Nat} {v : UInt64} (d : decode (sh_cc M) pc = .ok (.ldc2_w ix, 3)) (hw : Cond.constantDouble M.1.cls ix v ∈ shW) (k : sh_V g M cells slots (pc + 3) ls (sh_Dv v :: st) φ sz Q) : sh_V g M cells slots pc ls st φ sz Q := by
  intro p e s m args below meth c X H locs lsA hl hW hS
  obtain ⟨hx, hb, hml, hown, hts, hK, hST, hA, hret, hlocks, hnm⟩ := id X
  exact lv_ldc2d hx hb hown (hts _ hw) d (k p e s m args below meth c X H locs lsA hl hW hS)
theorem sh_fconst0  (d : decode (sh_cc M) pc = .ok (.fconst 0, 1)) (k : sh_V g M cells slots (pc + 1) ls (sh_F FP.fconst0 :: st) φ sz Q) : sh_V g M cells slots pc ls st φ sz Q := by
  intro p e s m args below meth c X H locs lsA hl hW hS
  obtain ⟨hx, hb, hml, hown, hts, hK, hST, hA, hret, hlocks, hnm⟩ := id X
  exact lv_fconst0 hx hb d (k p e s m args below meth c X H locs lsA hl hW hS)
theorem sh_fconst1  (d : decode (sh_cc M) pc = .ok (.fconst 1, 1)) (k : sh_V g M cells slots (pc + 1) ls (sh_F FP.fconst1 :: st) φ sz Q) : sh_V g M cells slots pc ls st φ sz Q := by
  intro p e s m args below meth c X H locs lsA hl hW hS
  obtain ⟨hx, hb, hml, hown, hts, hK, hST, hA, hret, hlocks, hnm⟩ := id X
  exact lv_fconst1 hx hb d (k p e s m args below meth c X H locs lsA hl hW hS)
theorem sh_dconst0  (d : decode (sh_cc M) pc = .ok (.dconst 0, 1)) (k : sh_V g M cells slots (pc + 1) ls (sh_Dv FP.dconst0 :: st) φ sz Q) : sh_V g M cells slots pc ls st φ sz Q := by
  intro p e s m args below meth c X H locs lsA hl hW hS
  obtain ⟨hx, hb, hml, hown, hts, hK, hST, hA, hret, hlocks, hnm⟩ := id X
  exact lv_dconst0 hx hb d (k p e s m args below meth c X H locs lsA hl hW hS)
theorem sh_iload_n {k4 : Fin 4} {x : Int32} (d : decode (sh_cc M) pc = .ok (.iload_n k4, 1)) (h : sh_lk ls k4 = some (sh_I x)) (k : sh_V g M cells slots (pc + 1) ls (sh_I x :: st) φ sz Q) : sh_V g M cells slots pc ls st φ sz Q := by
  intro p e s m args below meth c X H locs lsA hl hW hS
  obtain ⟨hx, hb, hml, hown, hts, hK, hST, hA, hret, hlocks, hnm⟩ := id X
  exact lv_iload_n hx hb d rfl (sh_at hl h) (k p e s m args below meth c X H locs lsA hl hW hS)
theorem sh_iload {i : Nat} {x : Int32} (d : decode (sh_cc M) pc = .ok (.iload i, 2)) (h : sh_lk ls i = some (sh_I x)) (k : sh_V g M cells slots (pc + 2) ls (sh_I x :: st) φ sz Q) : sh_V g M cells slots pc ls st φ sz Q := by
  intro p e s m args below meth c X H locs lsA hl hW hS
  obtain ⟨hx, hb, hml, hown, hts, hK, hST, hA, hret, hlocks, hnm⟩ := id X
  exact lv_iload hx hb d (sh_at hl h) (k p e s m args below meth c X H locs lsA hl hW hS)
theorem sh_istore_n {k4 : Fin 4} {x : Int32} (d : decode (sh_cc M) pc = .ok (.istore_n k4, 1)) (hn : (k4 : Nat) < sh_nL M) (h : sh_sto k4 (sh_I x) ls = ls') (k : sh_V g M cells slots (pc + 1) ls' st φ sz Q) : sh_V g M cells slots pc ls (sh_I x :: st) φ sz Q := by
  intro p e s m args below meth c X H locs lsA hl hW hS
  obtain ⟨hx, hb, hml, hown, hts, hK, hST, hA, hret, hlocks, hnm⟩ := id X
  exact lv_istore_n hx hb d rfl hl hn (sh_stoE h) (fun lsB hl2 => k p e s m args below meth c X H locs lsB hl2 hW hS)
theorem sh_istore {i : Nat} {x : Int32} (d : decode (sh_cc M) pc = .ok (.istore i, 2)) (hn : i < sh_nL M) (h : sh_sto i (sh_I x) ls = ls') (k : sh_V g M cells slots (pc + 2) ls' st φ sz Q) : sh_V g M cells slots pc ls (sh_I x :: st) φ sz Q := by
  intro p e s m args below meth c X H locs lsA hl hW hS
  obtain ⟨hx, hb, hml, hown, hts, hK, hST, hA, hret, hlocks, hnm⟩ := id X
  exact lv_istore hx hb d hl hn (sh_stoE h) (fun lsB hl2 => k p e s m args below meth c X H locs lsB hl2 hW hS)
theorem sh_aload_n {k4 : Fin 4} {x : sh_O} (d : decode (sh_cc M) pc = .ok (.aload_n k4, 1)) (h : sh_lk ls k4 = some (sh_R x)) (k : sh_V g M cells slots (pc + 1) ls (sh_R x :: st) φ sz Q) : sh_V g M cells slots pc ls st φ sz Q := by
  intro p e s m args below meth c X H locs lsA hl hW hS
  obtain ⟨hx, hb, hml, hown, hts, hK, hST, hA, hret, hlocks, hnm⟩ := id X
  exact lv_aload_n hx hb d rfl (sh_at hl h) (k p e s m args below meth c X H locs lsA hl hW hS)
theorem sh_aload {i : Nat} {x : sh_O} (d : decode (sh_cc M) pc = .ok (.aload i, 2)) (h : sh_lk ls i = some (sh_R x)) (k : sh_V g M cells slots (pc + 2) ls (sh_R x :: st) φ sz Q) : sh_V g M cells slots pc ls st φ sz Q := by
  intro p e s m args below meth c X H locs lsA hl hW hS
  obtain ⟨hx, hb, hml, hown, hts, hK, hST, hA, hret, hlocks, hnm⟩ := id X
  exact lv_aload hx hb d (sh_at hl h) (k p e s m args below meth c X H locs lsA hl hW hS)
theorem sh_astore_n {k4 : Fin 4} {x : sh_O} (d : decode (sh_cc M) pc = .ok (.astore_n k4, 1)) (hn : (k4 : Nat) < sh_nL M) (h : sh_sto k4 (sh_R x) ls = ls') (k : sh_V g M cells slots (pc + 1) ls' st φ sz Q) : sh_V g M cells slots pc ls (sh_R x :: st) φ sz Q := by
  intro p e s m args below meth c X H locs lsA hl hW hS
  obtain ⟨hx, hb, hml, hown, hts, hK, hST, hA, hret, hlocks, hnm⟩ := id X
  exact lv_astore_n hx hb d rfl hl hn (sh_stoE h) (fun lsB hl2 => k p e s m args below meth c X H locs lsB hl2 hW hS)
theorem sh_astore {i : Nat} {x : sh_O} (d : decode (sh_cc M) pc = .ok (.astore i, 2)) (hn : i < sh_nL M) (h : sh_sto i (sh_R x) ls = ls') (k : sh_V g M cells slots (pc + 2) ls' st φ sz Q) : sh_V g M cells slots pc ls (sh_R x :: st) φ sz Q := by
  intro p e s m args below meth c X H locs lsA hl hW hS
  obtain ⟨hx, hb, hml, hown, hts, hK, hST, hA, hret, hlocks, hnm⟩ := id X
  exact lv_astore hx hb d hl hn (sh_stoE h) (fun lsB hl2 => k p e s m args below meth c X H locs lsB hl2 hW hS)
theorem sh_fload_n {k4 : Fin 4} {x : UInt32} (d : decode (sh_cc M) pc = .ok (.fload_n k4, 1)) (h : sh_lk ls k4 = some (sh_F x)) (k : sh_V g M cells slots (pc + 1) ls (sh_F x :: st) φ sz Q) : sh_V g M cells slots pc ls st φ sz Q := by
  intro p e s m args below meth c X H locs lsA hl hW hS
  obtain ⟨hx, hb, hml, hown, hts, hK, hST, hA, hret, hlocks, hnm⟩ := id X
  exact lv_fload_n hx hb d rfl (sh_at hl h) (k p e s m args below meth c X H locs lsA hl hW hS)
theorem sh_fload {i : Nat} {x : UInt32} (d : decode (sh_cc M) pc = .ok (.fload i, 2)) (h : sh_lk ls i = some (sh_F x)) (k : sh_V g M cells slots (pc + 2) ls (sh_F x :: st) φ sz Q) : sh_V g M cells slots pc ls st φ sz Q := by
  intro p e s m args below meth c X H locs lsA hl hW hS
  obtain ⟨hx, hb, hml, hown, hts, hK, hST, hA, hret, hlocks, hnm⟩ := id X
  exact lv_fload hx hb d (sh_at hl h) (k p e s m args below meth c X H locs lsA hl hW hS)
theorem sh_fstore_n {k4 : Fin 4} {x : UInt32} (d : decode (sh_cc M) pc = .ok (.fstore_n k4, 1)) (hn : (k4 : Nat) < sh_nL M) (h : sh_sto k4 (sh_F x) ls = ls') (k : sh_V g M cells slots (pc + 1) ls' st φ sz Q) : sh_V g M cells slots pc ls (sh_F x :: st) φ sz Q := by
  intro p e s m args below meth c X H locs lsA hl hW hS
  obtain ⟨hx, hb, hml, hown, hts, hK, hST, hA, hret, hlocks, hnm⟩ := id X
  exact lv_fstore_n hx hb d rfl hl hn (sh_stoE h) (fun lsB hl2 => k p e s m args below meth c X H locs lsB hl2 hW hS)
theorem sh_fstore {i : Nat} {x : UInt32} (d : decode (sh_cc M) pc = .ok (.fstore i, 2)) (hn : i < sh_nL M) (h : sh_sto i (sh_F x) ls = ls') (k : sh_V g M cells slots (pc + 2) ls' st φ sz Q) : sh_V g M cells slots pc ls (sh_F x :: st) φ sz Q := by
  intro p e s m args below meth c X H locs lsA hl hW hS
  obtain ⟨hx, hb, hml, hown, hts, hK, hST, hA, hret, hlocks, hnm⟩ := id X
  exact lv_fstore hx hb d hl hn (sh_stoE h) (fun lsB hl2 => k p e s m args below meth c X H locs lsB hl2 hW hS)
theorem sh_dload_n {k4 : Fin 4} {x : UInt64} (d : decode (sh_cc M) pc = .ok (.dload_n k4, 1)) (h : sh_lk ls k4 = some (sh_Dv x)) (k : sh_V g M cells slots (pc + 1) ls (sh_Dv x :: st) φ sz Q) : sh_V g M cells slots pc ls st φ sz Q := by
  intro p e s m args below meth c X H locs lsA hl hW hS
  obtain ⟨hx, hb, hml, hown, hts, hK, hST, hA, hret, hlocks, hnm⟩ := id X
  exact lv_dload_n hx hb d rfl (sh_at hl h) (k p e s m args below meth c X H locs lsA hl hW hS)
theorem sh_dload {i : Nat} {x : UInt64} (d : decode (sh_cc M) pc = .ok (.dload i, 2)) (h : sh_lk ls i = some (sh_Dv x)) (k : sh_V g M cells slots (pc + 2) ls (sh_Dv x :: st) φ sz Q) : sh_V g M cells slots pc ls st φ sz Q := by
  intro p e s m args below meth c X H locs lsA hl hW hS
  obtain ⟨hx, hb, hml, hown, hts, hK, hST, hA, hret, hlocks, hnm⟩ := id X
  exact lv_dload hx hb d (sh_at hl h) (k p e s m args below meth c X H locs lsA hl hW hS)
theorem sh_dstore_n {k4 : Fin 4} {x : UInt64} (d : decode (sh_cc M) pc = .ok (.dstore_n k4, 1)) (hn : (k4 : Nat) + 1 < sh_nL M) (h : sh_sto2 k4 (sh_Dv x) ls = ls') (k : sh_V g M cells slots (pc + 1) ls' st φ sz Q) : sh_V g M cells slots pc ls (sh_Dv x :: st) φ sz Q := by
  intro p e s m args below meth c X H locs lsA hl hW hS
  obtain ⟨hx, hb, hml, hown, hts, hK, hST, hA, hret, hlocks, hnm⟩ := id X
  exact lv_dstore_n hx hb d rfl hl hn (sh_sto2E h) (fun lsB hl2 => k p e s m args below meth c X H locs lsB hl2 hW hS)
theorem sh_iinc {i : Nat} {n : Int} {x v : Int32} (d : decode (sh_cc M) pc = .ok (.iinc i n, 3)) (h : sh_lk ls i = some (sh_I x)) (hv : x + Int32.ofInt n = v) (hn : i < sh_nL M) (hs : sh_sto i (sh_I v) ls = ls') (k : sh_V g M cells slots (pc + 3) ls' st φ sz Q) : sh_V g M cells slots pc ls st φ sz Q := by
  intro p e s m args below meth c X H locs lsA hl hW hS
  obtain ⟨hx, hb, hml, hown, hts, hK, hST, hA, hret, hlocks, hnm⟩ := id X
  obtain ⟨j, hj⟩ := List.getElem?_of_mem (List.mem_map_of_mem (f := sh_tq g) (sh_lk_mem h))
  exact lv_iinc hx hb d hl hj hv hn (sh_stoE hs) (fun lsB hl2 => k p e s m args below meth c X H locs lsB hl2 hW hS)
theorem sh_dup {v : sh_v} (d : decode (sh_cc M) pc = .ok (.dup, 1)) (h : sh_c2 v = false) (k : sh_V g M cells slots (pc + 1) ls (v :: v :: st) φ sz Q) : sh_V g M cells slots pc ls (v :: st) φ sz Q := by
  intro p e s m args below meth c X H locs lsA hl hW hS
  obtain ⟨hx, hb, hml, hown, hts, hK, hST, hA, hret, hlocks, hnm⟩ := id X
  refine lv_dup hx hb d ?_ (k p e s m args below meth c X H locs lsA hl hW hS)
  rcases v with _ | x | o | x | x <;> first | rfl | (simp [sh_c2] at h)
theorem sh_iadd {x y : Int32} (d : decode (sh_cc M) pc = .ok (.iadd, 1)) (k : sh_V g M cells slots (pc + 1) ls (sh_I (x + y) :: st) φ sz Q) : sh_V g M cells slots pc ls (sh_I y :: sh_I x :: st) φ sz Q := by
  intro p e s m args below meth c X H locs lsA hl hW hS
  obtain ⟨hx, hb, hml, hown, hts, hK, hST, hA, hret, hlocks, hnm⟩ := id X
  exact lv_iadd hx hb d (k p e s m args below meth c X H locs lsA hl hW hS)
theorem sh_isub {x y : Int32} (d : decode (sh_cc M) pc = .ok (.isub, 1)) (k : sh_V g M cells slots (pc + 1) ls (sh_I (x - y) :: st) φ sz Q) : sh_V g M cells slots pc ls (sh_I y :: sh_I x :: st) φ sz Q := by
  intro p e s m args below meth c X H locs lsA hl hW hS
  obtain ⟨hx, hb, hml, hown, hts, hK, hST, hA, hret, hlocks, hnm⟩ := id X
  exact lv_isub hx hb d (k p e s m args below meth c X H locs lsA hl hW hS)
theorem sh_imul {x y : Int32} (d : decode (sh_cc M) pc = .ok (.imul, 1)) (k : sh_V g M cells slots (pc + 1) ls (sh_I (x * y) :: st) φ sz Q) : sh_V g M cells slots pc ls (sh_I y :: sh_I x :: st) φ sz Q := by
  intro p e s m args below meth c X H locs lsA hl hW hS
  obtain ⟨hx, hb, hml, hown, hts, hK, hST, hA, hret, hlocks, hnm⟩ := id X
  exact lv_imul hx hb d (k p e s m args below meth c X H locs lsA hl hW hS)
theorem sh_iand {x y : Int32} (d : decode (sh_cc M) pc = .ok (.iand, 1)) (k : sh_V g M cells slots (pc + 1) ls (sh_I (x &&& y) :: st) φ sz Q) : sh_V g M cells slots pc ls (sh_I y :: sh_I x :: st) φ sz Q := by
  intro p e s m args below meth c X H locs lsA hl hW hS
  obtain ⟨hx, hb, hml, hown, hts, hK, hST, hA, hret, hlocks, hnm⟩ := id X
  exact lv_iand hx hb d (k p e s m args below meth c X H locs lsA hl hW hS)
theorem sh_ior {x y : Int32} (d : decode (sh_cc M) pc = .ok (.ior, 1)) (k : sh_V g M cells slots (pc + 1) ls (sh_I (x ||| y) :: st) φ sz Q) : sh_V g M cells slots pc ls (sh_I y :: sh_I x :: st) φ sz Q := by
  intro p e s m args below meth c X H locs lsA hl hW hS
  obtain ⟨hx, hb, hml, hown, hts, hK, hST, hA, hret, hlocks, hnm⟩ := id X
  exact lv_ior hx hb d (k p e s m args below meth c X H locs lsA hl hW hS)
theorem sh_ishl {x y : Int32} (d : decode (sh_cc M) pc = .ok (.ishl, 1)) (k : sh_V g M cells slots (pc + 1) ls (sh_I (x <<< (y &&& 31)) :: st) φ sz Q) : sh_V g M cells slots pc ls (sh_I y :: sh_I x :: st) φ sz Q := by
  intro p e s m args below meth c X H locs lsA hl hW hS
  obtain ⟨hx, hb, hml, hown, hts, hK, hST, hA, hret, hlocks, hnm⟩ := id X
  exact lv_ishl hx hb d (k p e s m args below meth c X H locs lsA hl hW hS)
theorem sh_ishr {x y : Int32} (d : decode (sh_cc M) pc = .ok (.ishr, 1)) (k : sh_V g M cells slots (pc + 1) ls (sh_I (x >>> (y &&& 31)) :: st) φ sz Q) : sh_V g M cells slots pc ls (sh_I y :: sh_I x :: st) φ sz Q := by
  intro p e s m args below meth c X H locs lsA hl hW hS
  obtain ⟨hx, hb, hml, hown, hts, hK, hST, hA, hret, hlocks, hnm⟩ := id X
  exact lv_ishr hx hb d (k p e s m args below meth c X H locs lsA hl hW hS)
theorem sh_idiv {x y : Int32} (d : decode (sh_cc M) pc = .ok (.idiv, 1)) (hn : ¬ y = 0) (k : sh_V g M cells slots (pc + 1) ls (sh_I (x / y) :: st) φ sz Q) : sh_V g M cells slots pc ls (sh_I y :: sh_I x :: st) φ sz Q := by
  intro p e s m args below meth c X H locs lsA hl hW hS
  obtain ⟨hx, hb, hml, hown, hts, hK, hST, hA, hret, hlocks, hnm⟩ := id X
  exact lv_idiv hx hb d hn (k p e s m args below meth c X H locs lsA hl hW hS)
theorem sh_irem {x y : Int32} (d : decode (sh_cc M) pc = .ok (.irem, 1)) (hn : ¬ y = 0) (k : sh_V g M cells slots (pc + 1) ls (sh_I (x - (x / y) * y) :: st) φ sz Q) : sh_V g M cells slots pc ls (sh_I y :: sh_I x :: st) φ sz Q := by
  intro p e s m args below meth c X H locs lsA hl hW hS
  obtain ⟨hx, hb, hml, hown, hts, hK, hST, hA, hret, hlocks, hnm⟩ := id X
  exact lv_irem hx hb d hn (k p e s m args below meth c X H locs lsA hl hW hS)
theorem sh_ineg {x : Int32} (d : decode (sh_cc M) pc = .ok (.ineg, 1)) (k : sh_V g M cells slots (pc + 1) ls (sh_I (-x) :: st) φ sz Q) : sh_V g M cells slots pc ls (sh_I x :: st) φ sz Q := by
  intro p e s m args below meth c X H locs lsA hl hW hS
  obtain ⟨hx, hb, hml, hown, hts, hK, hST, hA, hret, hlocks, hnm⟩ := id X
  exact lv_ineg hx hb d (k p e s m args below meth c X H locs lsA hl hW hS)
theorem sh_i2c {x : Int32} (d : decode (sh_cc M) pc = .ok (.i2c, 1)) (k : sh_V g M cells slots (pc + 1) ls (sh_I ((x.toUInt32 % 65536).toInt32) :: st) φ sz Q) : sh_V g M cells slots pc ls (sh_I x :: st) φ sz Q := by
  intro p e s m args below meth c X H locs lsA hl hW hS
  obtain ⟨hx, hb, hml, hown, hts, hK, hST, hA, hret, hlocks, hnm⟩ := id X
  exact lv_i2c hx hb d rfl (k p e s m args below meth c X H locs lsA hl hW hS)
theorem sh_fadd {x y : UInt32} (d : decode (sh_cc M) pc = .ok (.fadd, 1)) (hn : vf_n32 (FP.fadd x y)) (k : sh_V g M cells slots (pc + 1) ls (sh_F (FP.fadd x y) :: st) φ sz Q) : sh_V g M cells slots pc ls (sh_F y :: sh_F x :: st) φ sz Q := by
  intro p e s m args below meth c X H locs lsA hl hW hS
  obtain ⟨hx, hb, hml, hown, hts, hK, hST, hA, hret, hlocks, hnm⟩ := id X
  exact lv_fadd hx hb d hn (k p e s m args below meth c X H locs lsA hl hW hS)
theorem sh_fsub {x y : UInt32} (d : decode (sh_cc M) pc = .ok (.fsub, 1)) (hn : vf_n32 (FP.fsub x y)) (k : sh_V g M cells slots (pc + 1) ls (sh_F (FP.fsub x y) :: st) φ sz Q) : sh_V g M cells slots pc ls (sh_F y :: sh_F x :: st) φ sz Q := by
  intro p e s m args below meth c X H locs lsA hl hW hS
  obtain ⟨hx, hb, hml, hown, hts, hK, hST, hA, hret, hlocks, hnm⟩ := id X
  exact lv_fsub hx hb d hn (k p e s m args below meth c X H locs lsA hl hW hS)
theorem sh_fmul {x y : UInt32} (d : decode (sh_cc M) pc = .ok (.fmul, 1)) (hn : vf_n32 (FP.fmul x y)) (k : sh_V g M cells slots (pc + 1) ls (sh_F (FP.fmul x y) :: st) φ sz Q) : sh_V g M cells slots pc ls (sh_F y :: sh_F x :: st) φ sz Q := by
  intro p e s m args below meth c X H locs lsA hl hW hS
  obtain ⟨hx, hb, hml, hown, hts, hK, hST, hA, hret, hlocks, hnm⟩ := id X
  exact lv_fmul hx hb d hn (k p e s m args below meth c X H locs lsA hl hW hS)
theorem sh_fdiv {x y : UInt32} (d : decode (sh_cc M) pc = .ok (.fdiv, 1)) (hn : vf_n32 (FP.fdiv x y)) (k : sh_V g M cells slots (pc + 1) ls (sh_F (FP.fdiv x y) :: st) φ sz Q) : sh_V g M cells slots pc ls (sh_F y :: sh_F x :: st) φ sz Q := by
  intro p e s m args below meth c X H locs lsA hl hW hS
  obtain ⟨hx, hb, hml, hown, hts, hK, hST, hA, hret, hlocks, hnm⟩ := id X
  exact lv_fdiv hx hb d hn (k p e s m args below meth c X H locs lsA hl hW hS)
theorem sh_dadd {x y : UInt64} (d : decode (sh_cc M) pc = .ok (.dadd, 1)) (hn : vf_n64 (FP.dadd x y)) (k : sh_V g M cells slots (pc + 1) ls (sh_Dv (FP.dadd x y) :: st) φ sz Q) : sh_V g M cells slots pc ls (sh_Dv y :: sh_Dv x :: st) φ sz Q := by
  intro p e s m args below meth c X H locs lsA hl hW hS
  obtain ⟨hx, hb, hml, hown, hts, hK, hST, hA, hret, hlocks, hnm⟩ := id X
  exact lv_dadd hx hb d hn (k p e s m args below meth c X H locs lsA hl hW hS)
theorem sh_ddiv {x y : UInt64} (d : decode (sh_cc M) pc = .ok (.ddiv, 1)) (hn : vf_n64 (FP.ddiv x y)) (k : sh_V g M cells slots (pc + 1) ls (sh_Dv (FP.ddiv x y) :: st) φ sz Q) : sh_V g M cells slots pc ls (sh_Dv y :: sh_Dv x :: st) φ sz Q := by
  intro p e s m args below meth c X H locs lsA hl hW hS
  obtain ⟨hx, hb, hml, hown, hts, hK, hST, hA, hret, hlocks, hnm⟩ := id X
  exact lv_ddiv hx hb d hn (k p e s m args below meth c X H locs lsA hl hW hS)
theorem sh_dmul {x y : UInt64} (d : decode (sh_cc M) pc = .ok (.dmul, 1)) (hn : vf_n64 (FP.dmul x y)) (k : sh_V g M cells slots (pc + 1) ls (sh_Dv (FP.dmul x y) :: st) φ sz Q) : sh_V g M cells slots pc ls (sh_Dv y :: sh_Dv x :: st) φ sz Q := by
  intro p e s m args below meth c X H locs lsA hl hW hS
  obtain ⟨hx, hb, hml, hown, hts, hK, hST, hA, hret, hlocks, hnm⟩ := id X
  exact lv_dmul hx hb d hn (k p e s m args below meth c X H locs lsA hl hW hS)
theorem sh_fcmp {op : CmpOp} {x y : UInt32} (d : decode (sh_cc M) pc = .ok (.fcmp op, 1)) (k : sh_V g M cells slots (pc + 1) ls (sh_I (Op.cmpValue (FP.fcmp x y) op) :: st) φ sz Q) : sh_V g M cells slots pc ls (sh_F y :: sh_F x :: st) φ sz Q := by
  intro p e s m args below meth c X H locs lsA hl hW hS
  obtain ⟨hx, hb, hml, hown, hts, hK, hST, hA, hret, hlocks, hnm⟩ := id X
  exact lv_fcmp hx hb d (k p e s m args below meth c X H locs lsA hl hW hS)
theorem sh_i2f {x : Int32} (d : decode (sh_cc M) pc = .ok (.i2f, 1)) (k : sh_V g M cells slots (pc + 1) ls (sh_F (FP.i2f x) :: st) φ sz Q) : sh_V g M cells slots pc ls (sh_I x :: st) φ sz Q := by
  intro p e s m args below meth c X H locs lsA hl hW hS
  obtain ⟨hx, hb, hml, hown, hts, hK, hST, hA, hret, hlocks, hnm⟩ := id X
  exact lv_i2f hx hb d (k p e s m args below meth c X H locs lsA hl hW hS)
theorem sh_f2i {x : UInt32} (d : decode (sh_cc M) pc = .ok (.f2i, 1)) (k : sh_V g M cells slots (pc + 1) ls (sh_I (FP.f2i x) :: st) φ sz Q) : sh_V g M cells slots pc ls (sh_F x :: st) φ sz Q := by
  intro p e s m args below meth c X H locs lsA hl hW hS
  obtain ⟨hx, hb, hml, hown, hts, hK, hST, hA, hret, hlocks, hnm⟩ := id X
  exact lv_f2i hx hb d (k p e s m args below meth c X H locs lsA hl hW hS)
theorem sh_i2d {x : Int32} (d : decode (sh_cc M) pc = .ok (.i2d, 1)) (k : sh_V g M cells slots (pc + 1) ls (sh_Dv (FP.i2d x) :: st) φ sz Q) : sh_V g M cells slots pc ls (sh_I x :: st) φ sz Q := by
  intro p e s m args below meth c X H locs lsA hl hW hS
  obtain ⟨hx, hb, hml, hown, hts, hK, hST, hA, hret, hlocks, hnm⟩ := id X
  exact lv_i2d hx hb d (k p e s m args below meth c X H locs lsA hl hW hS)
theorem sh_d2i {x : UInt64} (d : decode (sh_cc M) pc = .ok (.d2i, 1)) (k : sh_V g M cells slots (pc + 1) ls (sh_I (FP.d2i x) :: st) φ sz Q) : sh_V g M cells slots pc ls (sh_Dv x :: st) φ sz Q := by
  intro p e s m args below meth c X H locs lsA hl hW hS
  obtain ⟨hx, hb, hml, hown, hts, hK, hST, hA, hret, hlocks, hnm⟩ := id X
  exact lv_d2i hx hb d (k p e s m args below meth c X H locs lsA hl hW hS)
theorem sh_f2d {x : UInt32} (d : decode (sh_cc M) pc = .ok (.f2d, 1)) (hn : vf_n64 (FP.f2d x)) (k : sh_V g M cells slots (pc + 1) ls (sh_Dv (FP.f2d x) :: st) φ sz Q) : sh_V g M cells slots pc ls (sh_F x :: st) φ sz Q := by
  intro p e s m args below meth c X H locs lsA hl hW hS
  obtain ⟨hx, hb, hml, hown, hts, hK, hST, hA, hret, hlocks, hnm⟩ := id X
  exact lv_f2d hx hb d hn (k p e s m args below meth c X H locs lsA hl hW hS)
theorem sh_if_eq {x : Int32} {off : Int} {tgt : Nat} (d : decode (sh_cc M) pc = .ok (.ifCond .eq off, 3)) (ht : (pc : Int) + off = (tgt : Int)) (kt : x = 0 → sh_V g M cells slots tgt ls st φ sz Q) (kf : ¬ x = 0 → sh_V g M cells slots (pc + 3) ls st φ sz Q) : sh_V g M cells slots pc ls (sh_I x :: st) φ sz Q := by
  intro p e s m args below meth c X H locs lsA hl hW hS
  obtain ⟨hx, hb, hml, hown, hts, hK, hST, hA, hret, hlocks, hnm⟩ := id X
  exact lv_if_eq hx hb d ht (fun z => kt z p e s m args below meth c X H locs lsA hl hW hS) (fun z => kf z p e s m args below meth c X H locs lsA hl hW hS)
theorem sh_icmp_eq {x y : Int32} {off : Int} {tgt : Nat} (d : decode (sh_cc M) pc = .ok (.if_icmp .eq off, 3)) (ht : (pc : Int) + off = (tgt : Int)) (kt : x = y → sh_V g M cells slots tgt ls st φ sz Q) (kf : ¬ x = y → sh_V g M cells slots (pc + 3) ls st φ sz Q) : sh_V g M cells slots pc ls (sh_I y :: sh_I x :: st) φ sz Q := by
  intro p e s m args below meth c X H locs lsA hl hW hS
  obtain ⟨hx, hb, hml, hown, hts, hK, hST, hA, hret, hlocks, hnm⟩ := id X
  exact lv_icmp_eq hx hb d ht (fun z => kt z p e s m args below meth c X H locs lsA hl hW hS) (fun z => kf z p e s m args below meth c X H locs lsA hl hW hS)
theorem sh_if_ne {x : Int32} {off : Int} {tgt : Nat} (d : decode (sh_cc M) pc = .ok (.ifCond .ne off, 3)) (ht : (pc : Int) + off = (tgt : Int)) (kt : ¬ x = 0 → sh_V g M cells slots tgt ls st φ sz Q) (kf : x = 0 → sh_V g M cells slots (pc + 3) ls st φ sz Q) : sh_V g M cells slots pc ls (sh_I x :: st) φ sz Q := by
  intro p e s m args below meth c X H locs lsA hl hW hS
  obtain ⟨hx, hb, hml, hown, hts, hK, hST, hA, hret, hlocks, hnm⟩ := id X
  exact lv_if_ne hx hb d ht (fun z => kt z p e s m args below meth c X H locs lsA hl hW hS) (fun z => kf z p e s m args below meth c X H locs lsA hl hW hS)
theorem sh_icmp_ne {x y : Int32} {off : Int} {tgt : Nat} (d : decode (sh_cc M) pc = .ok (.if_icmp .ne off, 3)) (ht : (pc : Int) + off = (tgt : Int)) (kt : ¬ x = y → sh_V g M cells slots tgt ls st φ sz Q) (kf : x = y → sh_V g M cells slots (pc + 3) ls st φ sz Q) : sh_V g M cells slots pc ls (sh_I y :: sh_I x :: st) φ sz Q := by
  intro p e s m args below meth c X H locs lsA hl hW hS
  obtain ⟨hx, hb, hml, hown, hts, hK, hST, hA, hret, hlocks, hnm⟩ := id X
  exact lv_icmp_ne hx hb d ht (fun z => kt z p e s m args below meth c X H locs lsA hl hW hS) (fun z => kf z p e s m args below meth c X H locs lsA hl hW hS)
theorem sh_if_lt {x : Int32} {off : Int} {tgt : Nat} (d : decode (sh_cc M) pc = .ok (.ifCond .lt off, 3)) (ht : (pc : Int) + off = (tgt : Int)) (kt : x < 0 → sh_V g M cells slots tgt ls st φ sz Q) (kf : ¬ x < 0 → sh_V g M cells slots (pc + 3) ls st φ sz Q) : sh_V g M cells slots pc ls (sh_I x :: st) φ sz Q := by
  intro p e s m args below meth c X H locs lsA hl hW hS
  obtain ⟨hx, hb, hml, hown, hts, hK, hST, hA, hret, hlocks, hnm⟩ := id X
  exact lv_if_lt hx hb d ht (fun z => kt z p e s m args below meth c X H locs lsA hl hW hS) (fun z => kf z p e s m args below meth c X H locs lsA hl hW hS)
theorem sh_icmp_lt {x y : Int32} {off : Int} {tgt : Nat} (d : decode (sh_cc M) pc = .ok (.if_icmp .lt off, 3)) (ht : (pc : Int) + off = (tgt : Int)) (kt : x < y → sh_V g M cells slots tgt ls st φ sz Q) (kf : ¬ x < y → sh_V g M cells slots (pc + 3) ls st φ sz Q) : sh_V g M cells slots pc ls (sh_I y :: sh_I x :: st) φ sz Q := by
  intro p e s m args below meth c X H locs lsA hl hW hS
  obtain ⟨hx, hb, hml, hown, hts, hK, hST, hA, hret, hlocks, hnm⟩ := id X
  exact lv_icmp_lt hx hb d ht (fun z => kt z p e s m args below meth c X H locs lsA hl hW hS) (fun z => kf z p e s m args below meth c X H locs lsA hl hW hS)
theorem sh_if_ge {x : Int32} {off : Int} {tgt : Nat} (d : decode (sh_cc M) pc = .ok (.ifCond .ge off, 3)) (ht : (pc : Int) + off = (tgt : Int)) (kt : 0 ≤ x → sh_V g M cells slots tgt ls st φ sz Q) (kf : ¬ 0 ≤ x → sh_V g M cells slots (pc + 3) ls st φ sz Q) : sh_V g M cells slots pc ls (sh_I x :: st) φ sz Q := by
  intro p e s m args below meth c X H locs lsA hl hW hS
  obtain ⟨hx, hb, hml, hown, hts, hK, hST, hA, hret, hlocks, hnm⟩ := id X
  exact lv_if_ge hx hb d ht (fun z => kt z p e s m args below meth c X H locs lsA hl hW hS) (fun z => kf z p e s m args below meth c X H locs lsA hl hW hS)
theorem sh_icmp_ge {x y : Int32} {off : Int} {tgt : Nat} (d : decode (sh_cc M) pc = .ok (.if_icmp .ge off, 3)) (ht : (pc : Int) + off = (tgt : Int)) (kt : y ≤ x → sh_V g M cells slots tgt ls st φ sz Q) (kf : ¬ y ≤ x → sh_V g M cells slots (pc + 3) ls st φ sz Q) : sh_V g M cells slots pc ls (sh_I y :: sh_I x :: st) φ sz Q := by
  intro p e s m args below meth c X H locs lsA hl hW hS
  obtain ⟨hx, hb, hml, hown, hts, hK, hST, hA, hret, hlocks, hnm⟩ := id X
  exact lv_icmp_ge hx hb d ht (fun z => kt z p e s m args below meth c X H locs lsA hl hW hS) (fun z => kf z p e s m args below meth c X H locs lsA hl hW hS)
theorem sh_if_gt {x : Int32} {off : Int} {tgt : Nat} (d : decode (sh_cc M) pc = .ok (.ifCond .gt off, 3)) (ht : (pc : Int) + off = (tgt : Int)) (kt : 0 < x → sh_V g M cells slots tgt ls st φ sz Q) (kf : ¬ 0 < x → sh_V g M cells slots (pc + 3) ls st φ sz Q) : sh_V g M cells slots pc ls (sh_I x :: st) φ sz Q := by
  intro p e s m args below meth c X H locs lsA hl hW hS
  obtain ⟨hx, hb, hml, hown, hts, hK, hST, hA, hret, hlocks, hnm⟩ := id X
  exact lv_if_gt hx hb d ht (fun z => kt z p e s m args below meth c X H locs lsA hl hW hS) (fun z => kf z p e s m args below meth c X H locs lsA hl hW hS)
theorem sh_icmp_gt {x y : Int32} {off : Int} {tgt : Nat} (d : decode (sh_cc M) pc = .ok (.if_icmp .gt off, 3)) (ht : (pc : Int) + off = (tgt : Int)) (kt : y < x → sh_V g M cells slots tgt ls st φ sz Q) (kf : ¬ y < x → sh_V g M cells slots (pc + 3) ls st φ sz Q) : sh_V g M cells slots pc ls (sh_I y :: sh_I x :: st) φ sz Q := by
  intro p e s m args below meth c X H locs lsA hl hW hS
  obtain ⟨hx, hb, hml, hown, hts, hK, hST, hA, hret, hlocks, hnm⟩ := id X
  exact lv_icmp_gt hx hb d ht (fun z => kt z p e s m args below meth c X H locs lsA hl hW hS) (fun z => kf z p e s m args below meth c X H locs lsA hl hW hS)
theorem sh_if_le {x : Int32} {off : Int} {tgt : Nat} (d : decode (sh_cc M) pc = .ok (.ifCond .le off, 3)) (ht : (pc : Int) + off = (tgt : Int)) (kt : x ≤ 0 → sh_V g M cells slots tgt ls st φ sz Q) (kf : ¬ x ≤ 0 → sh_V g M cells slots (pc + 3) ls st φ sz Q) : sh_V g M cells slots pc ls (sh_I x :: st) φ sz Q := by
  intro p e s m args below meth c X H locs lsA hl hW hS
  obtain ⟨hx, hb, hml, hown, hts, hK, hST, hA, hret, hlocks, hnm⟩ := id X
  exact lv_if_le hx hb d ht (fun z => kt z p e s m args below meth c X H locs lsA hl hW hS) (fun z => kf z p e s m args below meth c X H locs lsA hl hW hS)
theorem sh_icmp_le {x y : Int32} {off : Int} {tgt : Nat} (d : decode (sh_cc M) pc = .ok (.if_icmp .le off, 3)) (ht : (pc : Int) + off = (tgt : Int)) (kt : x ≤ y → sh_V g M cells slots tgt ls st φ sz Q) (kf : ¬ x ≤ y → sh_V g M cells slots (pc + 3) ls st φ sz Q) : sh_V g M cells slots pc ls (sh_I y :: sh_I x :: st) φ sz Q := by
  intro p e s m args below meth c X H locs lsA hl hW hS
  obtain ⟨hx, hb, hml, hown, hts, hK, hST, hA, hret, hlocks, hnm⟩ := id X
  exact lv_icmp_le hx hb d ht (fun z => kt z p e s m args below meth c X H locs lsA hl hW hS) (fun z => kf z p e s m args below meth c X H locs lsA hl hW hS)
theorem sh_goto {off : Int} {tgt : Nat} (d : decode (sh_cc M) pc = .ok (.goto off, 3)) (ht : (pc : Int) + off = (tgt : Int)) (k : sh_V g M cells slots tgt ls st φ sz Q) : sh_V g M cells slots pc ls st φ sz Q := by
  intro p e s m args below meth c X H locs lsA hl hW hS
  obtain ⟨hx, hb, hml, hown, hts, hK, hST, hA, hret, hlocks, hnm⟩ := id X
  exact lv_goto hx hb d ht (k p e s m args below meth c X H locs lsA hl hW hS)
theorem sh_tin {dflt lo hi : Int} {offs : Array Int} {len : Nat} {x : Int32} {off : Int} {tgt : Nat} (v : Int32) (d : decode (sh_cc M) pc = .ok (.tableswitch dflt lo hi offs, len)) (hv : x = v) (h1 : ¬ v.toInt < lo) (h2 : ¬ hi < v.toInt) (ho : offs[(v.toInt - lo).toNat]? = some off) (ht : (pc : Int) + off = (tgt : Int)) (k : sh_V g M cells slots tgt ls st φ sz Q) : sh_V g M cells slots pc ls (sh_I x :: st) φ sz Q := by
  intro p e s m args below meth c X H locs lsA hl hW hS
  obtain ⟨hx, hb, hml, hown, hts, hK, hST, hA, hret, hlocks, hnm⟩ := id X
  subst hv
  exact lv_tableIn hx hb d h1 h2 ho ht (k p e s m args below meth c X H locs lsA hl hW hS)
theorem sh_tout {dflt lo hi : Int} {offs : Array Int} {len : Nat} {x : Int32} {tgt : Nat} (l0 n : Nat) (d : decode (sh_cc M) pc = .ok (.tableswitch dflt lo hi offs, len)) (hlo : lo = l0) (hn : hi + 1 = l0 + n) (h : ∀ j, j < n → ¬ x = nI (l0 + j)) (ht : (pc : Int) + dflt = (tgt : Int)) (k : sh_V g M cells slots tgt ls st φ sz Q) : sh_V g M cells slots pc ls (sh_I x :: st) φ sz Q := by
  intro p e s m args below meth c X H locs lsA hl hW hS
  obtain ⟨hx, hb, hml, hown, hts, hK, hST, hA, hret, hlocks, hnm⟩ := id X
  refine lv_tableOut hx hb d ?_ ht (k p e s m args below meth c X H locs lsA hl hW hS)
  by_cases z : x.toInt < lo
  · exact Or.inl z
  · refine Or.inr ?_
    have hb1 := x.toInt_lt
    by_cases z2 : hi < x.toInt
    · exact z2
    · exfalso
      refine h (x.toInt.toNat - l0) (by omega) (Int32.toInt_inj.mp ?_)
      rw [nI_toInt (by omega)]
      omega
theorem sh_lsw {dflt : Int} {ps : Array (Int × Int)} {len : Nat} {x : Int32} {off : Int} {tgt : Nat} (d : decode (sh_cc M) pc = .ok (.lookupswitch dflt ps, len)) (hp : (ps.toList.zip (ps.toList.drop 1)).all (fun (a, next) => a.1 < next.1) = true) (ho : Op.lookupswitch.offset ps.toList dflt x.toInt = off) (ht : (pc : Int) + off = (tgt : Int)) (k : sh_V g M cells slots tgt ls st φ sz Q) : sh_V g M cells slots pc ls (sh_I x :: st) φ sz Q := by
  intro p e s m args below meth c X H locs lsA hl hW hS
  obtain ⟨hx, hb, hml, hown, hts, hK, hST, hA, hret, hlocks, hnm⟩ := id X
  exact lv_lookup hx hb d hp ho ht (k p e s m args below meth c X H locs lsA hl hW hS)
end ROWS2
