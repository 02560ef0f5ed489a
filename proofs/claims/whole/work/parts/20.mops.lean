/-! what is kept, and what each call does to a page: the answer and the page behind it -/
def sh_hd (S : sh_S) (P : Nat → Int32) : sh_S := sh_sr S (20, 0, 0) (va_cpy P (S (20, 0, 0)) 0 0 602)
def sh_en (T : sh_S) : sh_S :=
  if T (9, 0, 0) 4 = 4 then sh_sr (sh_sr T (22, 0, 0) (va_cpy (T (20, 0, 0)) (fun k => if k < 1806 then T (22, 0, 0) (k + 602) else T (22, 0, 0) k) 0 1806 602)) (9, 0, 0) (upd (T (9, 0, 0)) 4 4)
  else sh_sr (sh_sr T (22, 0, 0) (va_cpy (T (20, 0, 0)) (T (22, 0, 0)) 0 (602 * (T (9, 0, 0) 4).toNatClampNeg) 602)) (9, 0, 0) (upd (T (9, 0, 0)) 4 (T (9, 0, 0) 4 + 1))
def sh_kp (S : sh_S) (P : Nat → Int32) : sh_S := sh_en (sh_hd S P)
def sh_go (Q : Int32 → sh_S → Prop) (S : sh_S) (P : Nat → Int32) (x : Int32 × (Nat → Int32)) : Prop :=
  (x.1 < 0 → Q x.1 (sh_mp S P)) ∧ (¬ x.1 < 0 → Q x.1 (sh_mp (sh_kp S P) x.2))
def sh_ss (S : sh_S) : Prop := ∃ s, s ≤ 4 ∧ S (9, 0, 0) 4 = nI s
abbrev sh_O2 : Type := Int32 × (Nat → Int32)
def o_set (P : Nat → Int32) (w v : Int32) : sh_O2 :=
  if inb w 0 6 = true ∧ inb v (if w = 1 ∨ w = 6 then 1 else 0) (if w = 0 then 400 else if w = 1 ∨ w = 6 then 60 else if w = 2 then 20 else if w = 3 then 40 else if w = 4 then 1000 else 100) = true then (P w.toNatClampNeg, upd P w.toNatClampNeg v) else (-1000001, P)
def o_member (P : Nat → Int32) : sh_O2 :=
  if nM P = 10 then (-1000003, P) else (P 8, upd (upd (upd P (12 + nY P) (P 8)) 11 (nI (nY P + 1))) 8 (nI (nM P + 1)))
def o_away (P : Nat → Int32) (m b : Int32) : sh_O2 :=
  if mB P m = true ∧ inb b 0 1 = true then (if pm P m.toNatClampNeg 0 = 2 then (-1000002, P) else (pm P m.toNatClampNeg 0, upd P (22 + 12 * m.toNatClampNeg) b)) else (-1000001, P)
def f_leave (P : Nat → Int32) (m : Nat) : Nat → Int32 :=
  sh_share (sh_wr (sh_ot P (sh_tn P (nI m) (-1)).toNatClampNeg) m (upd (upd (upd (sh_row (sh_ot P (sh_tn P (nI m) (-1)).toNatClampNeg) m) 0 2) 3 0) 4 (pm P m 4 + pm P m 3))) (pm P m 3).toNatClampNeg (nI m) 3
def o_leave (P : Nat → Int32) (m : Int32) : sh_O2 :=
  if mB P m = true then
    (if pm P m.toNatClampNeg 0 = 2 ∨ 0 < sh_cnt (sh_on P m true) (nT P) ∨ 0 < sh_opn P m.toNatClampNeg ∨ 0 < sh_cnt (sh_inp P m) (nT P) ∨ sh_ct2 P m = 0 then (-1000002, P)
     else (pm P m.toNatClampNeg 3, f_leave P m.toNatClampNeg))
  else (-1000001, P)
def o_give (P : Nat → Int32) (m q : Int32) : sh_O2 :=
  if mB P m = true ∧ inb q 1 400 = true then
    (if pm P m.toNatClampNeg 0 = 2 then (-1000002, P) else (sh_gain (sh_row P m.toNatClampNeg) 1 q 3, sh_wr P m.toNatClampNeg (sh_gain (sh_row P m.toNatClampNeg) 1 q)))
  else (-1000001, P)
def o_tool (P : Nat → Int32) (k v w : Int32) : sh_O2 :=
  if inb k 0 1 = true ∧ inb v 1 400 = true ∧ inb w 0 50 = true then
    (if nT P = 20 then (-1000003, P) else (P 9, upd (sh_wt P (nT P) (upd (upd (upd (upd (upd (sh_tr P (nT P)) 0 k) 1 v) 2 w) 6 FP.fconst1.toInt32) 8 (-1))) 9 (nI (nT P + 1))))
  else (-1000001, P)
def f_hang (P : Nat → Int32) (t : Nat) (v : Int32) : Nat → Int32 := sh_wt P t (upd (sh_tr P t) 8 v)
def o_hang (P : Nat → Int32) (t w h : Int32) : sh_O2 :=
  if tB P t = true ∧ inb w 0 2 = true ∧ inb h 0 3 = true then
    (if pt P t.toNatClampNeg 3 = 0 ∧ pt P t.toNatClampNeg 8 < 0 ∧ sh_hk P (10 * w + h) < 0 ∧ (w = 2 ∨ pt P t.toNatClampNeg 0 = w) then
      (nI (sh_cnt (sh_ow (f_hang P t.toNatClampNeg (10 * w + h)) w.toNatClampNeg) 4), f_hang P t.toNatClampNeg (10 * w + h)) else (-1000002, P))
  else (-1000001, P)
def f_out (P : Nat → Int32) (t : Nat) (a2 a3 a4 : Int32) : Nat → Int32 := sh_wt P t (upd (upd (upd (upd (upd (upd (sh_tr P t) 3 a2) 4 a3) 5 a4) 8 (-1)) 9 (P 7)) 7 (pt P t 7 + 1))
def o_borrow (P : Nat → Int32) (t m : Int32) : sh_O2 :=
  if tB P t = true ∧ mB P m = true then
    (if pt P t.toNatClampNeg 3 = 0 ∧ pm P m.toNatClampNeg 0 = 0 ∧ ¬ 0 < sh_opn P m.toNatClampNeg ∧ sh_cnt (sh_on P m true) (nT P) ≤ 2 then (P 7 + P 1, f_out P t.toNatClampNeg 1 m (P 7 + P 1)) else (-1000002, P))
  else (-1000001, P)
/-- the row of a tool that comes in -/
def sh_cin (P : Nat → Int32) (t : Nat) : Nat → Int32 := upd (upd (sh_tr P t) 6 (sh_du (sh_sp P t) (FP.i2f (100 - pt P t 2)) (sh_do (P 7) (pt P t 9)).toNatClampNeg).toInt32) 3 0
def sh_late (P : Nat → Int32) (t : Nat) : Int32 := (if pt P t 5 < P 7 then P 7 - pt P t 5 else 0) * P 2
def f_back (P : Nat → Int32) (t : Nat) : Nat → Int32 := sh_wr (sh_wt P t (sh_cin P t)) (pt P t 4).toNatClampNeg (sh_chg (sh_row (sh_wt P t (sh_cin P t)) (pt P t 4).toNatClampNeg) 1 (sh_late P t))
def o_back (P : Nat → Int32) (t : Int32) : sh_O2 :=
  if tB P t = true then (if pt P t.toNatClampNeg 3 = 1 then (sh_late P t.toNatClampNeg, f_back P t.toNatClampNeg) else (-1000002, P)) else (-1000001, P)
def sh_shv (v : UInt32) (p : Int32) : UInt32 := FP.fadd v (FP.fdiv (FP.fmul (FP.fsub FP.fconst1 v) (FP.i2f p)) 1120403456)
/-- the turn of m goes to the end -/
def sh_end (P : Nat → Int32) (m : Int32) : Nat → Int32 := upd (upd (sh_ot P (sh_tn P m (-1)).toNatClampNeg) (12 + (nY P - 1)) m) 11 (nI (nY P))
def f_sharp (P : Nat → Int32) (m t : Nat) : Nat → Int32 :=
  sh_end (sh_wr (sh_wt P t (upd (sh_tr P t) 6 (sh_shv (sh_sp P t) (P 5)).toInt32)) m (sh_gain (sh_row (sh_wt P t (upd (sh_tr P t) 6 (sh_shv (sh_sp P t) (P 5)).toInt32)) m) 1 (P 3))) (nI m)
def o_sharp (P : Nat → Int32) : sh_O2 :=
  if sh_who P < 0 then (-1000002, P)
  else if ¬ sh_da P 0 < 0 ∧ sh_th (sh_sp P (sh_da P 0).toNatClampNeg) < P 4 then (sh_da P 0, f_sharp P (sh_who P).toNatClampNeg (sh_da P 0).toNatClampNeg)
  else (-1000004, P)
def o_swap (P : Nat → Int32) (a b : Int32) : sh_O2 :=
  if mB P a = true ∧ mB P b = true ∧ a ≠ b then
    (if pm P a.toNatClampNeg 0 = 2 ∨ pm P b.toNatClampNeg 0 = 2 then (-1000002, P)
     else (sh_tn P b (-1), upd (upd P (12 + (sh_tn P a (-1)).toNatClampNeg) b) (12 + (sh_tn P b (-1)).toNatClampNeg) a))
  else (-1000001, P)
/-- who is called: the one of those that may with the fewest panels -/
def sh_bst (P : Nat → Int32) (el : Nat → Bool) : Nat → Option Nat
  | 0 => none
  | n + 1 => if el n = true then (match sh_bst P el n with
      | none => some n
      | some b => if pm P n 11 < pm P b 11 then some n else some b) else sh_bst P el n
def sh_el (P : Nat → Int32) (but : Int32) (L : List Nat) (m : Nat) : Bool := decide (nI m ≠ but ∧ pm P m 0 = 0 ∧ ¬ m ∈ L)
def sh_call (P : Nat → Int32) (but : Int32) : Nat → Option (List Nat)
  | 0 => some []
  | j + 1 => match sh_call P but j with
    | none => none
    | some L => match sh_bst P (sh_el P but L) (nM P) with
      | none => none
      | some m => some (L ++ [m])
/-- the members of L below n, in order: how many, and the page with them in the panel of tool t -/
def sh_seat (P : Nat → Int32) (t : Nat) (L : List Nat) : Nat → Nat × (Nat → Int32)
  | 0 => (0, sh_wt P t (upd (sh_tr P t) 3 2))
  | m + 1 => let x := sh_seat P t L m
    if m ∈ L then (x.1 + 1, upd (upd (upd x.2 (142 + 23 * t + (12 + x.1)) (nI m)) (142 + 23 * t + (15 + x.1)) (-1)) (22 + 12 * m + 11) (x.2 (22 + 12 * m + 11) + 1)) else x
def o_lose (P : Nat → Int32) (t : Int32) : sh_O2 :=
  if tB P t = true then
    (if pt P t.toNatClampNeg 3 = 1 then
      (match sh_call P (pt P t.toNatClampNeg 4) 3 with
       | none => (-1000002, P)
       | some L => ((sh_seat P t.toNatClampNeg L (nM P)).2 (142 + 23 * t.toNatClampNeg + 12), (sh_seat P t.toNatClampNeg L (nM P)).2))
     else (-1000002, P))
  else (-1000001, P)
def sh_dec (a b c : Int32) : Int32 := if ¬ a < 0 ∧ (a = b ∨ a = c) then a else if ¬ b < 0 ∧ b = c then b else if ¬ a < 0 ∧ ¬ b < 0 ∧ ¬ c < 0 then 2 else 3
def sh_gone (P : Nat → Int32) (t : Nat) : Nat → Int32 := sh_wt P t (upd (upd (sh_tr P t) 3 4) 18 0)
def f_pay (P : Nat → Int32) (t : Nat) (w : Int32) : Nat → Int32 :=
  if w = 0 then sh_gone (sh_wr P (pt P t 4).toNatClampNeg (sh_chg (sh_row P (pt P t 4).toNatClampNeg) 1 (pt P t 1))) t
  else if w = 1 then sh_gone (sh_share P (pt P t 1).toNatClampNeg (-1) 1) t
  else sh_gone (let X := sh_wr P (pt P t 4).toNatClampNeg (sh_chg (sh_row P (pt P t 4).toNatClampNeg) 1 (pt P t 1 - pt P t 1 / 2)); sh_share X ((pt P t 1).toNatClampNeg / 2) (pt P t 4) 1) t
def o_say (P : Nat → Int32) (t m w : Int32) : sh_O2 :=
  if tB P t = true ∧ mB P m = true ∧ inb w 0 2 = true then
    (if pt P t.toNatClampNeg 3 = 2 ∧ ¬ sh_pl P t.toNatClampNeg m < 0 ∧ pt P t.toNatClampNeg (15 + (sh_pl P t.toNatClampNeg m).toNatClampNeg) < 0 then
      (let X := sh_wt P t.toNatClampNeg (upd (sh_tr P t.toNatClampNeg) (15 + (sh_pl P t.toNatClampNeg m).toNatClampNeg) w)
       let d := sh_dec (pt X t.toNatClampNeg 15) (pt X t.toNatClampNeg 16) (pt X t.toNatClampNeg 17)
       (d, if d < 3 then f_pay X t.toNatClampNeg d else X))
     else (-1000002, P))
  else (-1000001, P)
def sh_spk (P : Nat → Int32) (t j : Nat) : Bool := decide (¬ pt P t (15 + j) < 0)
def o_find (P : Nat → Int32) (t : Int32) : sh_O2 :=
  if tB P t = true then (if pt P t.toNatClampNeg 3 = 2 then (nI (sh_cnt (sh_spk P t.toNatClampNeg) 3), sh_wt P t.toNatClampNeg (upd (sh_tr P t.toNatClampNeg) 3 0)) else (-1000002, P)) else (-1000001, P)
def o_propose (P : Nat → Int32) (t c b : Int32) : sh_O2 :=
  if tB P t = true ∧ inb c 1 400 = true ∧ inb b 1 (pt P t.toNatClampNeg 2) = true then
    (if pt P t.toNatClampNeg 3 = 4 ∨ 0 < pt P t.toNatClampNeg 18 ∨ sh_ct2 P (-1) = 0 then (-1000002, P)
     else (P 7 + P 6, sh_wt P t.toNatClampNeg (upd (upd (upd (upd (upd (sh_tr P t.toNatClampNeg) 18 c) 19 b) 20 (P 7 + P 6)) 21 0) 22 0)))
  else (-1000001, P)
def o_counted (X : Nat → Int32) (t : Nat) : sh_O2 :=
  if nI (sh_ct2 X (-1)) < 2 * sh_bi (pt X t 21) 10 then
    (1, sh_share (sh_wt X t (upd (upd (sh_tr X t) 18 0) 2 (pt X t 2 - pt X t 19))) (pt X t 18).toNatClampNeg (-1) 2)
  else if ¬ 2 * sh_bi (pt X t 22) 10 < nI (sh_ct2 X (-1)) then (0, sh_wt X t (upd (sh_tr X t) 18 0))
  else (2, X)
def sh_bit (a m : Int32) : Prop := (a >>> (m &&& 31)) &&& 1 = 1
def o_vote (P : Nat → Int32) (t m y : Int32) : sh_O2 :=
  if tB P t = true ∧ mB P m = true ∧ inb y 0 1 = true then
    (if pt P t.toNatClampNeg 18 = 0 ∨ pm P m.toNatClampNeg 0 = 2 ∨ ((pt P t.toNatClampNeg 21 ||| pt P t.toNatClampNeg 22) >>> (m &&& 31)) &&& 1 = 1 then (-1000002, P)
     else o_counted (sh_wt P t.toNatClampNeg (upd (sh_tr P t.toNatClampNeg) (if y = 1 then 21 else 22) (pt P t.toNatClampNeg (if y = 1 then 21 else 22) ||| 1 <<< (m &&& 31)))) t.toNatClampNeg)
  else (-1000001, P)
def o_lend (P : Nat → Int32) (t s d f : Int32) : sh_O2 :=
  if tB P t = true ∧ inb s 0 3 = true ∧ inb d 1 60 = true ∧ inb f 0 40 = true then
    (if pt P t.toNatClampNeg 3 = 0 then (P 7 + d, sh_wt P t.toNatClampNeg (upd (upd (sh_tr (f_out P t.toNatClampNeg 3 s (P 7 + d)) t.toNatClampNeg) 10 d) 11 f)) else (-1000002, P))
  else (-1000001, P)
def sh_told (P : Nat → Int32) (t : Nat) : Int32 :=
  pt P t 11 * (sh_do (P 7) (pt P t 9) + (if pt P t 10 < sh_do (P 7) (pt P t 9) then sh_do (P 7) (pt P t 9) - pt P t 10 else 0))
def o_come (P : Nat → Int32) (t : Int32) : sh_O2 :=
  if tB P t = true then
    (if pt P t.toNatClampNeg 3 = 3 ∧ sh_ct2 P (-1) ≠ 0 then
      (sh_told P t.toNatClampNeg, sh_share (sh_wt P t.toNatClampNeg (sh_cin P t.toNatClampNeg)) (sh_told P t.toNatClampNeg).toNatClampNeg (-1) 3) else (-1000002, P))
  else (-1000001, P)
/-- a day -/
def sh_due (P : Nat → Int32) : Nat → (Nat → Int32)
  | 0 => P
  | m + 1 => if pm P m 0 = 2 then sh_due P m else sh_wr (sh_due P m) m (sh_chg (sh_row P m) 0 (P 0))
def sh_lap (P : Nat → Int32) : Nat → (Nat → Int32)
  | 0 => P
  | t + 1 => if pt P t 20 < P 7 then upd (sh_lap P t) (142 + 23 * t + 18) 0 else sh_lap P t
def f_day (P : Nat → Int32) : Nat → Int32 :=
  let P1 := upd P 7 (nI (nD P + 1))
  let P2 := if (nD P + 1) % 30 = 0 then sh_due P1 (nM P) else P1
  sh_lap P2 (nT P)
def f_days (P : Nat → Int32) : Nat → (Nat → Int32)
  | 0 => P
  | k + 1 => f_day (f_days P k)
def o_pass (P : Nat → Int32) (d : Int32) : sh_O2 :=
  if inb d 1 60 = true then (if P 7 + d ≤ 3000 then (P 7 + d, f_days P d.toNatClampNeg) else (-1000003, P)) else (-1000001, P)
theorem sr_o {S : sh_S} {o q : sh_O} {r : Nat → Int32} (h : q ≠ o) : sh_sr S o r q = S q := if_neg h
theorem mp_sr2 {S : sh_S} {P : Nat → Int32} {o : sh_O} {r : Nat → Int32} (h : (19, 0, 0) ≠ o) : sh_sr (sh_mp S P) o r = sh_mp (sh_sr S o r) P := sr_comm S h P r
section MENDS
variable {g : sh_G} {S : sh_S} {P : Nat → Int32} {sz : Nat} {Q : Int32 → sh_S → Prop} {U : sh_S → Prop}
theorem c_hold (h : U (sh_mp (sh_hd S P) P)) : sh_Cu g mX9_hold [sh_R (9, 0, 0)] (sh_mp S P) sz U := by
  refine wp_X9_hold (c_bring (n1 := 602) (n3 := 602) (a := 0) (b := 0) (by decide) (fun _ => rfl) (by decide) (fun _ => rfl) (by decide) rfl rfl (by omega) (by omega) (by omega) (by omega) ?_)
  rw [mp_sr2 (by decide), mp_p, mp_o (by decide)]
  exact h
theorem c_bringT {T : sh_S} (s : Nat) (hs : s ≤ 3) {a : Int32} (ha : a = nI (602 * s)) (h : U (sh_sr T (22, 0, 0) (va_cpy (T (20, 0, 0)) (T (22, 0, 0)) 0 (602 * s) 602))) : sh_Cu g mX9_bring [sh_R (20, 0, 0), sh_I 0, sh_R (22, 0, 0), sh_I a] T sz U :=
  c_bring (n1 := 602) (n3 := 2408) (a := 0) (b := 602 * s) (by decide) (fun _ => rfl) (by decide) (fun _ => rfl) (by decide) rfl ha (by omega) (by omega) (by omega) (by omega) h
theorem c_endsT {T : sh_S} {a : Int32} (hs : sh_ss T) (ha : ¬ a < 0) (h : Q a (sh_en T)) : sh_Ci g mX9_ends [sh_R (9, 0, 0), sh_I a] T sz Q := by
  obtain ⟨s, hs, es⟩ := hs
  have ha2 : (-1000001 : Int32) < a := by
    rw [Int32.lt_iff_toInt_lt] at ha ⊢
    have e1 : (-1000001 : Int32).toInt = -1000001 := by decide
    have e0 : (0 : Int32).toInt = 0 := by decide
    omega
  refine wp_X9_ends (wt ha2 ⟨fun c => ?_, fun c => ?_⟩)
  · have hs3 : s ≤ 3 := by
      refine Classical.byContradiction fun z => c ?_
      rw [es, show s = 4 by omega]; rfl
    refine c_bringT s hs3 (by rw [es]; exact pk_mul 602 s) ?_
    rintro _ rfl
    rw [sr_o (by decide)]
    unfold sh_en at h
    rw [if_neg c, es, nI_clamp (by omega)] at h
    rw [es]; exact h
  · refine ⟨fun v S' => ∃ i, i ≤ 1806 ∧ v = nI i ∧ S' = sh_sr T (22, 0, 0) (fun k => if k < i then T (22, 0, 0) (k + 602) else T (22, 0, 0) k), fun v _ => 1806 - v.toNatClampNeg, ⟨0, by omega, rfl, ?_⟩, ?_⟩
    · rw [show (fun k => if k < 0 then T (22, 0, 0) (k + 602) else T (22, 0, 0) k) = T (22, 0, 0) from funext fun k => if_neg (by omega), sr_self]
    rintro _ _ ⟨i, hi, rfl, rfl⟩
    refine wc (fun c2 => ?_) (fun c2 => ?_)
    · obtain rfl := lp_end hi (by omega) c2
      rintro _ rfl
      rw [sh_sr_s, upd_eq, sr_o (o := (22, 0, 0)) (q := (9, 0, 0)) (by decide), c, show (4 : Int32) - 1 = 3 from rfl]
      refine c_bringT 3 (by omega) rfl ?_
      rintro _ rfl
      unfold sh_en at h
      rw [if_pos c] at h
      rw [sr_o (o := (9, 0, 0)) (q := (20, 0, 0)) (by decide), sr_o (o := (22, 0, 0)) (q := (20, 0, 0)) (by decide), sr_o (o := (9, 0, 0)) (q := (22, 0, 0)) (by decide), sh_sr_s, sr_o (o := (22, 0, 0)) (q := (9, 0, 0)) (by decide), sh_sr_s, upd_eq, show (3 : Int32) + 1 = 4 from rfl]
      have e1 : sh_sr (sh_sr (sh_sr (sh_sr T (22, 0, 0) (fun k => if k < 1806 then T (22, 0, 0) (k + 602) else T (22, 0, 0) k)) (9, 0, 0) (upd (T (9, 0, 0)) 4 3)) (22, 0, 0) (va_cpy (T (20, 0, 0)) (fun k => if k < 1806 then T (22, 0, 0) (k + 602) else T (22, 0, 0) k) 0 (602 * 3) 602)) (9, 0, 0) (upd (upd (T (9, 0, 0)) 4 3) 4 4) = sh_sr (sh_sr T (22, 0, 0) (va_cpy (T (20, 0, 0)) (fun k => if k < 1806 then T (22, 0, 0) (k + 602) else T (22, 0, 0) k) 0 1806 602)) (9, 0, 0) (upd (T (9, 0, 0)) 4 4) := by
        rw [sr_comm _ (o := (9, 0, 0)) (o' := (22, 0, 0)) (by decide), sr_sr, sr_sr]
        congr 1
        funext k; unfold upd; split <;> rfl
      rw [e1]; exact h
    · have hlt := lp_go (by omega) hi c2
      rw [show nI i + 602 = nI (i + 602) from nI_add i 602, nI_clamp (by omega), nI_clamp (by omega)]
      refine ⟨vp_in_nI (by omega) (by omega), vp_in_nI (by omega) (by omega), ?_⟩
      rintro _ rfl _ rfl
      rw [nI_1 i]
      refine ⟨⟨i + 1, hlt, rfl, ?_⟩, mu_lt hlt (by omega)⟩
      rw [sh_sr_s, sr_sr]
      congr 1
      funext k
      unfold upd
      by_cases hk : k = i
      · subst hk
        dsimp only
        rw [if_pos rfl, if_neg (by omega), if_pos (by omega)]
      · rw [if_neg hk]
        dsimp only
        by_cases h5 : k < i
        · rw [if_pos h5, if_pos (by omega)]
        · rw [if_neg h5, if_neg (by omega)]
theorem en_mp {T : sh_S} {P : Nat → Int32} : sh_en (sh_mp T P) = sh_mp (sh_en T) P := by
  unfold sh_en
  simp only [mp_o (show ((9, 0, 0) : sh_O) ≠ (19, 0, 0) by decide), mp_o (show ((20, 0, 0) : sh_O) ≠ (19, 0, 0) by decide), mp_o (show ((22, 0, 0) : sh_O) ≠ (19, 0, 0) by decide)]
  split <;> rw [mp_sr2 (by decide), mp_sr2 (by decide)]
theorem ss_hd (h : sh_ss S) : sh_ss (sh_hd S P) := by
  obtain ⟨s, h1, h2⟩ := h
  exact ⟨s, h1, by unfold sh_hd; rw [sr_o (by decide)]; exact h2⟩
theorem c_fin {P' : Nat → Int32} {a : Int32} (hs : sh_ss S) (ha : ¬ a < 0) (h : sh_go Q S P (a, P')) : sh_Ci g mX9_ends [sh_R (9, 0, 0), sh_I a] (sh_mp (sh_hd S P) P') sz Q := by
  refine c_endsT ?_ ha ?_
  · obtain ⟨s, h1, h2⟩ := ss_hd (P := P) hs
    exact ⟨s, h1, by rw [mp_o (by decide)]; exact h2⟩
  · rw [en_mp]; exact h.2 ha
theorem go_n {x : Int32 × (Nat → Int32)} (hx : x.1 < 0) (h : sh_go Q S P x) : Q x.1 (sh_mp S P) := h.1 hx
end MENDS
