/-! The contents of the whole system, as one table of ints: object (kind, a, b), place -/
abbrev sh_S : Type := sh_O → Nat → Int32
def sh_n1 (c : Nat) : Nat := [1, 7, 7, 1, 7, 7, 7, 7, 1, 1, 7, 7, 7, 7, 7, 7, 7, 1, 1, 1, 1, 1, 1, 1, 1].getD c 0
def sh_n2 (c : Nat) : Nat := [1, 10, 1, 1, 20, 20, 1, 20, 1, 1, 10, 1, 1, 20, 20, 1, 1, 1, 1, 1, 1, 1, 1, 1, 1].getD c 0
abbrev sh_ok (o : sh_O) : Prop := o.2.1 < sh_n1 o.1 ∧ o.2.2 < sh_n2 o.1
def sh_ct (o : sh_O) (r : Nat → Int32) : sh_c := match o.1 with
  | 0 => .inl (0, [sh_R (17, 0, 0), sh_I (r 1)])
  | 1 => .inl (1, [sh_R (10, o.2.1, o.2.2)])
  | 2 => .inl (2, [sh_R (12, o.2.1, 0), sh_R (11, o.2.1, 0), sh_I (r 2), sh_I (r 3), sh_I (r 4)])
  | 3 => .inl (3, [sh_R (18, 0, 0), sh_I (r 1), sh_I (r 2), sh_I (r 3), sh_I (r 4), sh_I (r 5)])
  | 4 => .inl (4, [sh_R (13, o.2.1, o.2.2), sh_R (14, o.2.1, o.2.2), sh_I (r 2)])
  | 5 => .inl (5, [sh_I (r 0), sh_I (r 1), sh_I (r 2), sh_I (r 3), sh_I (r 4), sh_I (r 5), sh_I (r 6)])
  | 6 => .inl (6, [sh_R (15, o.2.1, 0), sh_R (2, o.2.1, 0), sh_R (16, o.2.1, 0), sh_I (r 3), sh_I (r 4)])
  | 7 => .inl (7, [sh_I (r 0), sh_I (r 1), sh_I (r 2), sh_F (r 3).toUInt32, sh_I (r 4), sh_I (r 5), sh_I (r 6), sh_I (r 7), sh_I (r 8), sh_I (r 9), sh_I (r 10), sh_I (r 11), sh_R (4, o.2.1, o.2.2), sh_R (5, o.2.1, o.2.2)])
  | 8 => .inl (8, [sh_R (6, 0, 0), sh_R (6, 1, 0), sh_R (0, 0, 0), sh_R (3, 0, 0)])
  | 9 => .inl (9, [sh_R (19, 0, 0), sh_R (20, 0, 0), sh_R (21, 0, 0), sh_R (22, 0, 0), sh_I (r 4), sh_R (23, 0, 0), sh_I (r 6), sh_R (24, 0, 0), sh_I (r 8), sh_I (r 9), sh_I (r 10), sh_I (r 11), sh_I (r 12), sh_I (r 13)])
  | 10 => .inr (.inl (12, r))
  | 11 => .inr (.inl (10, r))
  | 12 => .inr (.inr (.inr (2, 10, fun j => some (1, o.2.1, j))))
  | 13 => .inr (.inl (3, r))
  | 14 => .inr (.inl (3, r))
  | 15 => .inr (.inl (7, r))
  | 16 => .inr (.inr (.inr (4, 20, fun j => some (7, o.2.1, j))))
  | 17 => .inr (.inr (.inr (3, 5, fun j => some (6, (r j).toNatClampNeg, 0))))
  | 18 => .inr (.inr (.inl (60, r)))
  | 19 => .inr (.inl (602, r))
  | 20 => .inr (.inl (602, r))
  | 21 => .inr (.inl (602, r))
  | 22 => .inr (.inl (2408, r))
  | 23 => .inr (.inl (60, r))
  | _ => .inr (.inl (3, r))
def sh_St (S : sh_S) : sh_P := fun o => if sh_ok o then some (sh_ct o (S o)) else none
def sh_sr (S : sh_S) (o : sh_O) (r : Nat → Int32) : sh_S := fun q => if q = o then r else S q
theorem sh_sr_s {S : sh_S} {o : sh_O} {r : Nat → Int32} : sh_sr S o r o = r := if_pos rfl
theorem sh_sr_n {S : sh_S} {o q : sh_O} {r : Nat → Int32} (h : q ≠ o) : sh_sr S o r q = S q := if_neg h
theorem sh_pt {S : sh_S} {o : sh_O} {r : Nat → Int32} {c : sh_c} (h : sh_ok o) (e : sh_ct o r = c) : sh_up (sh_St S) o c = sh_St (sh_sr S o r) := by
  subst e
  funext q
  by_cases hq : q = o
  · subst hq
    simp [sh_up, sh_St, sh_sr, h]
  · simp [sh_up, sh_St, sh_sr, hq]
theorem sh_has {S : sh_S} {o : sh_O} {c : sh_c} (h : sh_ok o) (e : sh_ct o (S o) = c) : sh_St S o = some c := by
  subst e
  exact if_pos h
-- ends of methods
def sh_ti (sz : Nat) (Q : Int32 → sh_S → Prop) : sh_T := fun r φ sz' => sz' = sz ∧ ∃ S x, φ = sh_St S ∧ r = some (sh_I x) ∧ Q x S
def sh_tu (sz : Nat) (Q : sh_S → Prop) : sh_T := fun r φ sz' => sz' = sz ∧ ∃ S, φ = sh_St S ∧ r = none ∧ Q S
def sh_tf (sz : Nat) (Q : UInt32 → sh_S → Prop) : sh_T := fun r φ sz' => sz' = sz ∧ ∃ S x, φ = sh_St S ∧ r = some (sh_F x) ∧ Q x S
abbrev sh_Ci (g : sh_G) (M : sh_M) (as : List sh_v) (S : sh_S) (sz : Nat) (Q : Int32 → sh_S → Prop) : Prop := sh_Call g M as (sh_St S) sz (sh_ti sz Q)
abbrev sh_Cu (g : sh_G) (M : sh_M) (as : List sh_v) (S : sh_S) (sz : Nat) (Q : sh_S → Prop) : Prop := sh_Call g M as (sh_St S) sz (sh_tu sz Q)
abbrev sh_Cf (g : sh_G) (M : sh_M) (as : List sh_v) (S : sh_S) (sz : Nat) (Q : UInt32 → sh_S → Prop) : Prop := sh_Call g M as (sh_St S) sz (sh_tf sz Q)
section ROWS7
variable {g : sh_G} {M N : sh_M} {pc : Nat} {ls ls' : List (Nat × sh_v)} {st : List sh_v} {S : sh_S} {sz : Nat} {Q : sh_T}
/-- what is said once of a method that makes nothing -/
def sh_MF (N : sh_M) (n : Nat) : Prop := sh_LC N n ∧ sh_mc N = 0 ∧ sh_ms N = 0
theorem sh_ret_i {Qi : Int32 → sh_S → Prop} {x : Int32} (d : decode (sh_cc M) pc = .ok (.ireturn, 1)) (hr : sh_rt M = some .int) (hc : 0 = sh_mc M ∧ 0 = sh_ms M) (h : Qi x S) : sh_V g M 0 0 pc ls [sh_I x] (sh_St S) sz (sh_ti sz Qi) := sh_ireturn d hr hc ⟨rfl, S, x, rfl, rfl, h⟩
theorem sh_ret_z {Qi : Int32 → sh_S → Prop} {x : Int32} {ty : FieldType} (d : decode (sh_cc M) pc = .ok (.ireturn, 1)) (hr : sh_rt M = some ty) (hn : narrow ty (.int x) = .int x) (hc : 0 = sh_mc M ∧ 0 = sh_ms M) (h : Qi x S) : sh_V g M 0 0 pc ls [sh_I x] (sh_St S) sz (sh_ti sz Qi) := sh_zreturn d hr hn hc ⟨rfl, S, x, rfl, rfl, h⟩
theorem sh_ret_u {Qu : sh_S → Prop} (d : decode (sh_cc M) pc = .ok (.return_, 1)) (hr : sh_rt M = none) (hc : 0 = sh_mc M ∧ 0 = sh_ms M) (h : Qu S) : sh_V g M 0 0 pc ls [] (sh_St S) sz (sh_tu sz Qu) := sh_return d hr hc ⟨rfl, S, rfl, rfl, h⟩
theorem sh_ret_f {Qf : UInt32 → sh_S → Prop} {x : UInt32} (d : decode (sh_cc M) pc = .ok (.freturn, 1)) (hr : sh_rt M = some .float) (hc : 0 = sh_mc M ∧ 0 = sh_ms M) (h : Qf x S) : sh_V g M 0 0 pc ls [sh_F x] (sh_St S) sz (sh_tf sz Qf) := sh_freturn d hr hc ⟨rfl, S, x, rfl, rfl, h⟩
theorem sh_gf {ix ci k : Nat} {o : sh_O} {fs : List sh_v} {v : sh_v} (d : decode (sh_cc M) pc = .ok (.getfield ix, 3)) (hF : sh_FL M.1.cls ix ci k) (hC : ∀ q, vwCl[ci]? = some q → sh_CF q) (ho : sh_ok o) (hc : sh_ct o (S o) = .inl (ci, fs)) (hv : fs[k]? = some v) (kk : sh_V g M 0 0 (pc + 3) ls (v :: st) (sh_St S) sz Q) : sh_V g M 0 0 pc ls (sh_R o :: st) (sh_St S) sz Q := sh_getf d hF hC (sh_has ho hc) hv kk
theorem sh_pfi {ix ci k : Nat} {o : sh_O} {fs : List sh_v} {x : Int32} (d : decode (sh_cc M) pc = .ok (.putfield ix, 3)) (hF : sh_FL M.1.cls ix ci k) (hC : ∀ q, vwCl[ci]? = some q → sh_CF q) (hT : sh_FT ci k .int false) (ho : sh_ok o) (hc : sh_ct o (S o) = .inl (ci, fs)) (hl : k < fs.length) (hc2 : sh_ct o (upd (S o) k x) = .inl (ci, fs.set k (sh_I x))) (kk : sh_V g M 0 0 (pc + 3) ls st (sh_St (sh_sr S o (upd (S o) k x))) sz Q) : sh_V g M 0 0 pc ls (sh_I x :: sh_R o :: st) (sh_St S) sz Q := sh_putf d hF hC hT rfl rfl (sh_has ho hc) hl (sh_pt ho hc2) kk
theorem sh_pfz {ix ci k : Nat} {o : sh_O} {fs : List sh_v} {x : Int32} (d : decode (sh_cc M) pc = .ok (.putfield ix, 3)) (hF : sh_FL M.1.cls ix ci k) (hC : ∀ q, vwCl[ci]? = some q → sh_CF q) (hT : sh_FT ci k .boolean false) (hz : x = 0 ∨ x = 1) (ho : sh_ok o) (hc : sh_ct o (S o) = .inl (ci, fs)) (hl : k < fs.length) (hc2 : sh_ct o (upd (S o) k x) = .inl (ci, fs.set k (sh_I x))) (kk : sh_V g M 0 0 (pc + 3) ls st (sh_St (sh_sr S o (upd (S o) k x))) sz Q) : sh_V g M 0 0 pc ls (sh_I x :: sh_R o :: st) (sh_St S) sz Q := sh_putf d hF hC hT (by rcases hz with rfl | rfl <;> rfl) (by rcases hz with rfl | rfl <;> rfl) (sh_has ho hc) hl (sh_pt ho hc2) kk
theorem sh_pff {ix ci k : Nat} {o : sh_O} {fs : List sh_v} {x : UInt32} (d : decode (sh_cc M) pc = .ok (.putfield ix, 3)) (hF : sh_FL M.1.cls ix ci k) (hC : ∀ q, vwCl[ci]? = some q → sh_CF q) (hT : sh_FT ci k .float false) (ho : sh_ok o) (hc : sh_ct o (S o) = .inl (ci, fs)) (hl : k < fs.length) (hc2 : sh_ct o (upd (S o) k x.toInt32) = .inl (ci, fs.set k (sh_F x))) (kk : sh_V g M 0 0 (pc + 3) ls st (sh_St (sh_sr S o (upd (S o) k x.toInt32))) sz Q) : sh_V g M 0 0 pc ls (sh_F x :: sh_R o :: st) (sh_St S) sz Q := sh_putf d hF hC hT rfl rfl (sh_has ho hc) hl (sh_pt ho hc2) kk
theorem sh_ia {o : sh_O} {n : Nat} {f : Nat → Int32} {i : Int32} (d : decode (sh_cc M) pc = .ok (.iaload, 1)) (ho : sh_ok o) (hc : sh_ct o (S o) = .inr (.inl (n, f))) (hi : vp_in i n) (kk : sh_V g M 0 0 (pc + 1) ls (sh_I (f i.toNatClampNeg) :: st) (sh_St S) sz Q) : sh_V g M 0 0 pc ls (sh_I i :: sh_R o :: st) (sh_St S) sz Q := sh_iald d (sh_has ho hc) hi kk
theorem sh_ca {o : sh_O} {n : Nat} {f : Nat → Int32} {i : Int32} (d : decode (sh_cc M) pc = .ok (.caload, 1)) (ho : sh_ok o) (hc : sh_ct o (S o) = .inr (.inr (.inl (n, f)))) (hi : vp_in i n) (kk : sh_V g M 0 0 (pc + 1) ls (sh_I (f i.toNatClampNeg) :: st) (sh_St S) sz Q) : sh_V g M 0 0 pc ls (sh_I i :: sh_R o :: st) (sh_St S) sz Q := sh_cald d (sh_has ho hc) hi kk
theorem sh_aa {o o' : sh_O} {t n : Nat} {f : Nat → Option sh_O} {i : Int32} (d : decode (sh_cc M) pc = .ok (.aaload, 1)) (ht : t = 2 ∨ t = 3 ∨ t = 4) (ho : sh_ok o) (hc : sh_ct o (S o) = .inr (.inr (.inr (t, n, f)))) (hi : vp_in i n) (hf : f i.toNatClampNeg = some o') (kk : sh_V g M 0 0 (pc + 1) ls (sh_R o' :: st) (sh_St S) sz Q) : sh_V g M 0 0 pc ls (sh_I i :: sh_R o :: st) (sh_St S) sz Q := sh_aald d ht (sh_has ho hc) hi hf kk
theorem sh_is {o : sh_O} {n : Nat} {f : Nat → Int32} {i x : Int32} (d : decode (sh_cc M) pc = .ok (.iastore, 1)) (ho : sh_ok o) (hc : sh_ct o (S o) = .inr (.inl (n, f))) (hi : vp_in i n) (hc2 : sh_ct o (upd (S o) i.toNatClampNeg x) = .inr (.inl (n, upd f i.toNatClampNeg x))) (kk : sh_V g M 0 0 (pc + 1) ls st (sh_St (sh_sr S o (upd (S o) i.toNatClampNeg x))) sz Q) : sh_V g M 0 0 pc ls (sh_I x :: sh_I i :: sh_R o :: st) (sh_St S) sz Q := sh_iast d (sh_has ho hc) hi (sh_pt ho hc2) kk
theorem sh_cs {o : sh_O} {n : Nat} {f : Nat → Int32} {i x : Int32} (d : decode (sh_cc M) pc = .ok (.castore, 1)) (ho : sh_ok o) (hc : sh_ct o (S o) = .inr (.inr (.inl (n, f)))) (hi : vp_in i n) (hx : vp_nar .char x = x) (hc2 : sh_ct o (upd (S o) i.toNatClampNeg x) = .inr (.inr (.inl (n, upd f i.toNatClampNeg x)))) (kk : sh_V g M 0 0 (pc + 1) ls st (sh_St (sh_sr S o (upd (S o) i.toNatClampNeg x))) sz Q) : sh_V g M 0 0 pc ls (sh_I x :: sh_I i :: sh_R o :: st) (sh_St S) sz Q := sh_cast d (sh_has ho hc) hi hx (sh_pt ho hc2) kk
theorem sh_cp {ix : Nat} {o0 o : sh_O} {n0 n1 : Nat} {f h : Nat → Int32} {sp dp n : Int32} (d : decode (sh_cc M) pc = .ok (.invokestatic ix, 3)) (hw : sh_cpw M ix) (ho0 : sh_ok o0) (hc0 : sh_ct o0 (S o0) = .inr (.inl (n0, f))) (ho : sh_ok o) (hc : sh_ct o (S o) = .inr (.inl (n1, h))) (h1 : ¬ sp < 0) (h2 : ¬ dp < 0) (h3 : ¬ n < 0) (h4 : sp.toNatClampNeg + n.toNatClampNeg ≤ n0) (h5 : dp.toNatClampNeg + n.toNatClampNeg ≤ n1) (hf : 1 ≤ (sh_rm M).frames) (hlo : (st.map (fun v => if sh_c2 v then 2 else 1)).sum + (nativeFrameWords "java/lang/System" "arraycopy" 5 + 11) ≤ (sh_rm M).locals) (hc2 : sh_ct o (va_cpy f h sp.toNatClampNeg dp.toNatClampNeg n.toNatClampNeg) = .inr (.inl (n1, va_cpy f h sp.toNatClampNeg dp.toNatClampNeg n.toNatClampNeg)))
    (kk : sh_V g M 0 0 (pc + 3) ls st (sh_St (sh_sr S o (va_cpy f h sp.toNatClampNeg dp.toNatClampNeg n.toNatClampNeg))) sz Q) : sh_V g M 0 0 pc ls (sh_I n :: sh_I dp :: sh_R o :: sh_I sp :: sh_R o0 :: st) (sh_St S) sz Q := sh_copy d hw (sh_has ho0 hc0) (sh_has ho hc) h1 h2 h3 h4 h5 hf hlo (sh_pt ho hc2) kk
-- a row of references that is written: the states of the history
theorem sh_as {o o' : sh_O} {t n ci : Nat} {fs : List sh_v} {q : vw_C} {f : Nat → Option sh_O} {i x : Int32} (d : decode (sh_cc M) pc = .ok (.aastore, 1)) (ht : (sh_tys g)[t]? = some (sh_cy g t, .object q.1)) (ho : sh_ok o) (hc : sh_ct o (S o) = .inr (.inr (.inr (t, n, f)))) (ho' : sh_ok o') (hc' : sh_ct o' (S o') = .inl (ci, fs)) (hq : vwCl[ci]? = some q) (hi : vp_in i n) (hc2 : sh_ct o (upd (S o) i.toNatClampNeg x) = .inr (.inr (.inr (t, n, va_up f i.toNatClampNeg (some o'))))) (kk : sh_V g M 0 0 (pc + 1) ls st (sh_St (sh_sr S o (upd (S o) i.toNatClampNeg x))) sz Q) : sh_V g M 0 0 pc ls (sh_R o' :: sh_I i :: sh_R o :: st) (sh_St S) sz Q := sh_aast d ht (sh_has ho hc) (sh_has ho' hc') hq hi (sh_pt ho hc2) kk
-- calls
theorem sh_ci {ix n ci : Nat} {b : sh_O} {As st0 : List sh_v} {fs : List sh_v} {q : vw_C} {R : Int32 → sh_S → Prop} (d : decode (sh_cc M) pc = .ok (.invokevirtual ix, 3)) (hl0 : Cond.methodLink M.1.cls ix N.1 ∈ shW) (hM : sh_Ci g N (sh_R b :: As) S sz R) (hN : sh_MF N n) (hI : sh_IV N) (hf : sh_fitsIn N M) (hst : st0 = As.reverse ++ sh_R b :: st) (hn : As.length = n) (h8 : (st.map (fun v => if sh_c2 v then 2 else 1)).sum ≤ 8) (hb0 : sh_ok b) (hb1 : sh_ct b (S b) = .inl (ci, fs)) (hq : vwCl[ci]? = some q) (hqc : q.1 = N.1.cls)
    (kk : ∀ x S1, R x S1 → sh_V g M 0 0 (pc + 3) ls (sh_I x :: st) (sh_St S1) sz Q) : sh_V g M 0 0 pc ls st0 (sh_St S) sz Q := by
  refine sh_vcall d hl0 hN.1 hI hf hst hn h8 (sh_has hb0 hb1) hq hqc (by rw [hN.2.1, hN.2.2]; exact ⟨Nat.zero_le _, Nat.zero_le _⟩) hM ?_
  rintro r φ1 sz1 ⟨rfl, S1, x, rfl, rfl, hR⟩
  rw [hN.2.1, hN.2.2]
  exact kk x S1 hR
theorem sh_cu {ix n ci : Nat} {b : sh_O} {As st0 : List sh_v} {fs : List sh_v} {q : vw_C} {R : sh_S → Prop} (d : decode (sh_cc M) pc = .ok (.invokevirtual ix, 3)) (hl0 : Cond.methodLink M.1.cls ix N.1 ∈ shW) (hM : sh_Cu g N (sh_R b :: As) S sz R) (hN : sh_MF N n) (hI : sh_IV N) (hf : sh_fitsIn N M) (hst : st0 = As.reverse ++ sh_R b :: st) (hn : As.length = n) (h8 : (st.map (fun v => if sh_c2 v then 2 else 1)).sum ≤ 8) (hb0 : sh_ok b) (hb1 : sh_ct b (S b) = .inl (ci, fs)) (hq : vwCl[ci]? = some q) (hqc : q.1 = N.1.cls)
    (kk : ∀ S1, R S1 → sh_V g M 0 0 (pc + 3) ls st (sh_St S1) sz Q) : sh_V g M 0 0 pc ls st0 (sh_St S) sz Q := by
  refine sh_vcall d hl0 hN.1 hI hf hst hn h8 (sh_has hb0 hb1) hq hqc (by rw [hN.2.1, hN.2.2]; exact ⟨Nat.zero_le _, Nat.zero_le _⟩) hM ?_
  rintro r φ1 sz1 ⟨rfl, S1, rfl, rfl, hR⟩
  rw [hN.2.1, hN.2.2]
  exact kk S1 hR
theorem sh_cf {ix n ci : Nat} {b : sh_O} {As st0 : List sh_v} {fs : List sh_v} {q : vw_C} {R : UInt32 → sh_S → Prop} (d : decode (sh_cc M) pc = .ok (.invokevirtual ix, 3)) (hl0 : Cond.methodLink M.1.cls ix N.1 ∈ shW) (hM : sh_Cf g N (sh_R b :: As) S sz R) (hN : sh_MF N n) (hI : sh_IV N) (hf : sh_fitsIn N M) (hst : st0 = As.reverse ++ sh_R b :: st) (hn : As.length = n) (h8 : (st.map (fun v => if sh_c2 v then 2 else 1)).sum ≤ 8) (hb0 : sh_ok b) (hb1 : sh_ct b (S b) = .inl (ci, fs)) (hq : vwCl[ci]? = some q) (hqc : q.1 = N.1.cls)
    (kk : ∀ x S1, R x S1 → sh_V g M 0 0 (pc + 3) ls (sh_F x :: st) (sh_St S1) sz Q) : sh_V g M 0 0 pc ls st0 (sh_St S) sz Q := by
  refine sh_vcall d hl0 hN.1 hI hf hst hn h8 (sh_has hb0 hb1) hq hqc (by rw [hN.2.1, hN.2.2]; exact ⟨Nat.zero_le _, Nat.zero_le _⟩) hM ?_
  rintro r φ1 sz1 ⟨rfl, S1, x, rfl, rfl, hR⟩
  rw [hN.2.1, hN.2.2]
  exact kk x S1 hR
theorem sh_si {ix n : Nat} {As st0 : List sh_v} {R : Int32 → sh_S → Prop} (d : decode (sh_cc M) pc = .ok (.invokestatic ix, 3)) (hl0 : Cond.methodLink M.1.cls ix N.1 ∈ shW) (hM : sh_Ci g N As S sz R) (hN : sh_MF N n) (hI : Cond.static N.1 ∈ shW) (hf : sh_fitsIn N M) (hst : st0 = As.reverse ++ st) (hn : As.length = n) (h8 : (st.map (fun v => if sh_c2 v then 2 else 1)).sum ≤ 8)
    (kk : ∀ x S1, R x S1 → sh_V g M 0 0 (pc + 3) ls (sh_I x :: st) (sh_St S1) sz Q) : sh_V g M 0 0 pc ls st0 (sh_St S) sz Q := by
  refine sh_scall d hl0 hN.1 hI hf hst hn h8 (by rw [hN.2.1, hN.2.2]; exact ⟨Nat.zero_le _, Nat.zero_le _⟩) hM ?_
  rintro r φ1 sz1 ⟨rfl, S1, x, rfl, rfl, hR⟩
  rw [hN.2.1, hN.2.2]
  exact kk x S1 hR
theorem sh_su {ix n : Nat} {As st0 : List sh_v} {R : sh_S → Prop} (d : decode (sh_cc M) pc = .ok (.invokestatic ix, 3)) (hl0 : Cond.methodLink M.1.cls ix N.1 ∈ shW) (hM : sh_Cu g N As S sz R) (hN : sh_MF N n) (hI : Cond.static N.1 ∈ shW) (hf : sh_fitsIn N M) (hst : st0 = As.reverse ++ st) (hn : As.length = n) (h8 : (st.map (fun v => if sh_c2 v then 2 else 1)).sum ≤ 8)
    (kk : ∀ S1, R S1 → sh_V g M 0 0 (pc + 3) ls st (sh_St S1) sz Q) : sh_V g M 0 0 pc ls st0 (sh_St S) sz Q := by
  refine sh_scall d hl0 hN.1 hI hf hst hn h8 (by rw [hN.2.1, hN.2.2]; exact ⟨Nat.zero_le _, Nat.zero_le _⟩) hM ?_
  rintro r φ1 sz1 ⟨rfl, S1, rfl, rfl, hR⟩
  rw [hN.2.1, hN.2.2]
  exact kk S1 hR
theorem sh_sf2 {ix n : Nat} {As st0 : List sh_v} {R : UInt32 → sh_S → Prop} (d : decode (sh_cc M) pc = .ok (.invokestatic ix, 3)) (hl0 : Cond.methodLink M.1.cls ix N.1 ∈ shW) (hM : sh_Cf g N As S sz R) (hN : sh_MF N n) (hI : Cond.static N.1 ∈ shW) (hf : sh_fitsIn N M) (hst : st0 = As.reverse ++ st) (hn : As.length = n) (h8 : (st.map (fun v => if sh_c2 v then 2 else 1)).sum ≤ 8)
    (kk : ∀ x S1, R x S1 → sh_V g M 0 0 (pc + 3) ls (sh_F x :: st) (sh_St S1) sz Q) : sh_V g M 0 0 pc ls st0 (sh_St S) sz Q := by
  refine sh_scall d hl0 hN.1 hI hf hst hn h8 (by rw [hN.2.1, hN.2.2]; exact ⟨Nat.zero_le _, Nat.zero_le _⟩) hM ?_
  rintro r φ1 sz1 ⟨rfl, S1, x, rfl, rfl, hR⟩
  rw [hN.2.1, hN.2.2]
  exact kk x S1 hR
theorem sh_siN {ix n : Nat} {host : String} {As st0 : List sh_v} {R : Int32 → sh_S → Prop} (d : decode (sh_cc M) pc = .ok (.invokestatic ix, 3)) (hl0 : Cond.methodLinkNest M.1.cls ix N.1 host ∈ lw_tbl) (hM : sh_Ci g N As S sz R) (hN : sh_MF N n) (hI : Cond.static N.1 ∈ shW) (hf : sh_fitsIn N M) (hst : st0 = As.reverse ++ st) (hn : As.length = n) (h8 : (st.map (fun v => if sh_c2 v then 2 else 1)).sum ≤ 8)
    (kk : ∀ x S1, R x S1 → sh_V g M 0 0 (pc + 3) ls (sh_I x :: st) (sh_St S1) sz Q) : sh_V g M 0 0 pc ls st0 (sh_St S) sz Q := by
  refine sh_scallN d hl0 hN.1 hI hf hst hn h8 (by rw [hN.2.1, hN.2.2]; exact ⟨Nat.zero_le _, Nat.zero_le _⟩) hM ?_
  rintro r φ1 sz1 ⟨rfl, S1, x, rfl, rfl, hR⟩
  rw [hN.2.1, hN.2.2]
  exact kk x S1 hR
theorem sh_pick (is : List Nat) (h : is.filterMap (fun i => ls[i]?) = ls') (k : sh_V g M 0 0 pc ls' st (sh_St S) sz Q) : sh_V g M 0 0 pc ls st (sh_St S) sz Q := by
  refine sh_sub (fun q hq => ?_) k
  rw [← h] at hq
  obtain ⟨i, -, hi⟩ := List.mem_filterMap.mp hq
  exact List.mem_of_getElem? hi
end ROWS7
theorem sh_lp1 {A : Type} (I : A → Prop) (μ : A → Nat) (P : A → Prop) (hs : ∀ a, I a → (∀ a', I a' → μ a' < μ a → P a') → P a) (a : A) (h : I a) : P a := by
  suffices H : ∀ n a, μ a < n → I a → P a from H (μ a + 1) a (Nat.lt_succ_self _) h
  intro n
  induction n with
  | zero => exact fun a q => absurd q (Nat.not_lt_zero _)
  | succ n ih => exact fun a q hi => hs a hi fun a' hi' q' => ih a' (Nat.lt_of_lt_of_le q' (Nat.le_of_lt_succ q)) hi'
theorem sh_lp2 {A B : Type} (I : A → B → Prop) (μ : A → B → Nat) (P : A → B → Prop) (hs : ∀ a b, I a b → (∀ a' b', I a' b' → μ a' b' < μ a b → P a' b') → P a b) (a : A) (b : B) (h : I a b) : P a b :=
  sh_lp1 (fun x : A × B => I x.1 x.2) (fun x => μ x.1 x.2) (fun x => P x.1 x.2) (fun x hi k => hs x.1 x.2 hi fun a' b' => k (a', b')) (a, b) h
theorem sh_lp3 {A B C : Type} (I : A → B → C → Prop) (μ : A → B → C → Nat) (P : A → B → C → Prop) (hs : ∀ a b c, I a b c → (∀ a' b' c', I a' b' c' → μ a' b' c' < μ a b c → P a' b' c') → P a b c) (a : A) (b : B) (c : C) (h : I a b c) : P a b c :=
  sh_lp2 (fun (x : A × B) c => I x.1 x.2 c) (fun x c => μ x.1 x.2 c) (fun x c => P x.1 x.2 c) (fun x c hi k => hs x.1 x.2 c hi fun a' b' => k (a', b')) (a, b) c h
theorem sh_lp4 {A B C D : Type} (I : A → B → C → D → Prop) (μ : A → B → C → D → Nat) (P : A → B → C → D → Prop) (hs : ∀ a b c d, I a b c d → (∀ a' b' c' d', I a' b' c' d' → μ a' b' c' d' < μ a b c d → P a' b' c' d') → P a b c d) (a : A) (b : B) (c : C) (d : D) (h : I a b c d) : P a b c d :=
  sh_lp3 (fun (x : A × B) c d => I x.1 x.2 c d) (fun x c d => μ x.1 x.2 c d) (fun x c d => P x.1 x.2 c d) (fun x c d hi k => hs x.1 x.2 c d hi fun a' b' => k (a', b')) (a, b) c d h
theorem sh_lp5 {A B C D E : Type} (I : A → B → C → D → E → Prop) (μ : A → B → C → D → E → Nat) (P : A → B → C → D → E → Prop) (hs : ∀ a b c d e, I a b c d e → (∀ a' b' c' d' e', I a' b' c' d' e' → μ a' b' c' d' e' < μ a b c d e → P a' b' c' d' e') → P a b c d e) (a : A) (b : B) (c : C) (d : D) (e : E) (h : I a b c d e) : P a b c d e :=
  sh_lp4 (fun (x : A × B) c d e => I x.1 x.2 c d e) (fun x c d e => μ x.1 x.2 c d e) (fun x c d e => P x.1 x.2 c d e) (fun x c d e hi k => hs x.1 x.2 c d e hi fun a' b' => k (a', b')) (a, b) c d e h
