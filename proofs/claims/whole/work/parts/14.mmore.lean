/-! more of the model's counts and finds; what it changes, on the page -/
/-- a row of a tool, and the page with another row -/
def sh_tr (P : Nat → Int32) (t : Nat) : Nat → Int32 := fun w => P (142 + 23 * t + w)
def sh_wt (P : Nat → Int32) (t : Nat) (n : Nat → Int32) : Nat → Int32 := fun j => if 142 + 23 * t ≤ j ∧ j < 142 + 23 * t + 23 then n (j - (142 + 23 * t)) else P j
theorem wt_row (P : Nat → Int32) (m : Nat) : sh_wt P m (sh_tr P m) = P := by
  funext j
  unfold sh_wt sh_tr
  by_cases h : 142 + 23 * m ≤ j ∧ j < 142 + 23 * m + 23
  · rw [if_pos h, show 142 + 23 * m + (j - (142 + 23 * m)) = j by omega]
  · rw [if_neg h]
theorem wt_upd (P : Nat → Int32) (m w : Nat) (n : Nat → Int32) (v : Int32) (hw : w < 23) : upd (sh_wt P m n) (142 + 23 * m + w) v = sh_wt P m (upd n w v) := by
  funext j
  unfold upd sh_wt
  by_cases h : j = 142 + 23 * m + w
  · rw [if_pos h, if_pos (by omega)]
    exact (if_pos (by omega)).symm
  · rw [if_neg h]
    by_cases h2 : 142 + 23 * m ≤ j ∧ j < 142 + 23 * m + 23
    · rw [if_pos h2, if_pos h2]
      exact (if_neg (by omega)).symm
    · rw [if_neg h2, if_neg h2]
theorem wt_at (P : Nat → Int32) (m w : Nat) (n : Nat → Int32) (hw : w < 23) : sh_wt P m n (142 + 23 * m + w) = n w := by
  unfold sh_wt
  rw [if_pos (by omega), show 142 + 23 * m + w - (142 + 23 * m) = w by omega]
theorem wt_out {P : Nat → Int32} {m j : Nat} {n : Nat → Int32} (h : ¬ (142 + 23 * m ≤ j ∧ j < 142 + 23 * m + 23)) : sh_wt P m n j = P j := if_neg h
theorem wt_low {P : Nat → Int32} {m j : Nat} {n : Nat → Int32} (h : j < 142) : sh_wt P m n j = P j := if_neg (by omega)
theorem wr_low {P : Nat → Int32} {m j : Nat} {n : Nat → Int32} (h : j < 22) : sh_wr P m n j = P j := if_neg (by omega)
section MMORE
variable {g : sh_G} {S : sh_S} {P : Nat → Int32} {sz : Nat} {Q : Int32 → sh_S → Prop} {U : sh_S → Prop} {F : UInt32 → sh_S → Prop}
theorem c_itsR {a1 a2 : Int32} {n : Nat → Int32} (t w : Nat) (h1 : a1 = nI t) (h2 : a2 = nI w) (ht : t < 20) (hw : w < 23) (h : Q (n w) (sh_mp S (sh_wt P t n))) : sh_Ci g mX9_its [sh_R (9, 0, 0), sh_I a1, sh_I a2] (sh_mp S (sh_wt P t n)) sz Q :=
  c_its t w h1 h2 ht hw (by rw [wt_at P t w n hw]; exact h)
theorem c_layR {a1 a2 a3 : Int32} {n : Nat → Int32} (t w : Nat) (h1 : a1 = nI t) (h2 : a2 = nI w) (ht : t < 20) (hw : w < 23) (h : U (sh_mp S (sh_wt P t (upd n w a3)))) : sh_Cu g mX9_lay [sh_R (9, 0, 0), sh_I a1, sh_I a2, sh_I a3] (sh_mp S (sh_wt P t n)) sz U :=
  c_lay t w h1 h2 ht hw (by rw [wt_upd P t w n _ hw]; exact h)
/-- the first lay of a row -/
theorem c_lay0 {a1 a2 a3 : Int32} (t w : Nat) (h1 : a1 = nI t) (h2 : a2 = nI w) (ht : t < 20) (hw : w < 23) (h : U (sh_mp S (sh_wt P t (upd (sh_tr P t) w a3)))) : sh_Cu g mX9_lay [sh_R (9, 0, 0), sh_I a1, sh_I a2, sh_I a3] (sh_mp S P) sz U := by
  have k := c_layR (g := g) (sz := sz) (S := S) (P := P) (n := sh_tr P t) t w h1 h2 ht hw h
  rwa [wt_row] at k
/-- the page when the i-th turn is taken out -/
def sh_ot (P : Nat → Int32) (i : Nat) : Nat → Int32 := fun q => if q = 11 then nI (nY P - 1) else if 12 + i ≤ q ∧ q + 1 < 12 + nY P then P (q + 1) else P q
theorem c_outOfTurns (B : sh_B P) {m : Int32} (i : Nat) (hi : i < nY P) (e : sh_tn P m (-1) = nI i) (h : U (sh_mp S (sh_ot P i))) : sh_Cu g mX9_outOfTurns [sh_R (9, 0, 0), sh_I m] (sh_mp S P) sz U := by
  have hl := B.yl
  refine wp_X9_outOfTurns (c_turnOf B ?_)
  rw [e]
  refine ⟨fun v S' => ∃ j, i ≤ j ∧ j ≤ nY P - 1 ∧ v = nI j ∧ S' = sh_mp S (fun q => if 12 + i ≤ q ∧ q < 12 + j then P (q + 1) else P q), fun v _ => nY P - 1 - v.toNatClampNeg, ⟨i, by omega, by omega, rfl, ?_⟩, ?_⟩
  · congr 1; funext q; rw [if_neg (by omega)]
  rintro _ _ ⟨j, hij, hj, rfl, rfl⟩
  simp only [mp_p, mp_sr]
  rw [if_neg (by omega), B.y, show nI (nY P) - 1 = nI (nY P - 1) from pk_sub (a := nY P) (b := 1) (by omega)]
  refine wc (fun c => ?_) (fun c => ?_)
  · obtain rfl := lp_end hj (by omega) c
    rintro _ rfl
    have : upd (fun q => if 12 + i ≤ q ∧ q < 12 + (nY P - 1) then P (q + 1) else P q) 11 (nI (nY P - 1)) = sh_ot P i := by
      funext q
      unfold upd sh_ot
      by_cases h11 : q = 11
      · rw [if_pos h11, if_pos h11]
      · rw [if_neg h11, if_neg h11]
        dsimp only
        by_cases hq : 12 + i ≤ q ∧ q < 12 + (nY P - 1)
        · rw [if_pos hq, if_pos (by omega)]
        · rw [if_neg hq, if_neg (by omega)]
    rw [this]; exact h
  · have hlt := lp_go (by omega) hj c
    rw [show (12 : Int32) + nI j = nI (12 + j) from nI_add 12 j, nI_1, nI_clamp (by omega), nI_clamp (by omega)]
    refine ⟨vp_in_nI (by omega) (by omega), vp_in_nI (by omega) (by omega), ?_⟩
    rintro _ rfl _ rfl
    rw [if_neg (by omega), nI_1]
    refine ⟨⟨j + 1, by omega, by omega, rfl, ?_⟩, mu_lt hlt (by omega)⟩
    congr 1; funext q
    unfold upd
    by_cases h1 : q = 12 + j
    · rw [if_pos h1, if_pos (by omega), h1]
    · rw [if_neg h1]
      dsimp only
      by_cases hq : 12 + i ≤ q ∧ q < 12 + j
      · rw [if_pos hq, if_pos (by omega)]
      · rw [if_neg hq, if_neg (by omega)]
/-- the tool on a hook -/
def sh_hk (P : Nat → Int32) (v : Int32) : Int32 := sh_fnd (fun t => decide (pt P t 8 = v)) (nT P) (-1000004)
theorem c_onHook (B : sh_B P) {v : Int32} (h : Q (sh_hk P v) (sh_mp S P)) : sh_Ci g mX9_onHook [sh_R (9, 0, 0), sh_I v] (sh_mp S P) sz Q := by
  have hl := B.tl
  refine wp_X9_onHook ⟨fun i S' => ∃ j, j ≤ nT P ∧ i = nI j ∧ S' = sh_mp S P ∧ ∀ k, k < j → decide (pt P k 8 = v) = false, fun i _ => nT P - i.toNatClampNeg, ⟨0, by omega, rfl, rfl, fun k hk => by omega⟩, ?_⟩
  rintro _ _ ⟨j, hj, rfl, rfl, hb⟩
  rw [mp_p, B.t]
  refine wc (fun c => ?_) (fun c => ?_)
  · obtain rfl := lp_end hj (by omega) c
    rw [sh_hk, fnd_n hb] at h
    exact h
  · have hlt := lp_go (by omega) hj c
    refine c_its j 8 rfl rfl (by omega) (by omega) ⟨fun c2 => ?_, fun c2 => ?_⟩
    · rintro _ rfl
      rw [nI_1 j]
      exact ⟨⟨j + 1, hlt, rfl, rfl, all_succ hb (decide_eq_false c2)⟩, mu_lt hlt (by omega)⟩
    · rw [sh_hk, fnd_s hlt (decide_eq_true c2) hb] at h
      exact h
theorem hk_neg (B : sh_B P) {v : Int32} : sh_hk P v < 0 ↔ ¬ ∃ t, t < nT P ∧ pt P t 8 = v := by
  have := B.tl
  rcases fnd_cases (fun t => decide (pt P t 8 = v)) (nT P) (-1000004) with ⟨i, h1, h2, h3, h4⟩ | ⟨h1, h4⟩ <;> rw [sh_hk, h4]
  · exact ⟨fun z => absurd z (nI_pos (by omega)), fun z => absurd ⟨i, h1, of_decide_eq_true h2⟩ z⟩
  · exact ⟨fun _ ⟨j, hj, e⟩ => of_decide_eq_false (h1 j hj) e, fun _ => by decide⟩
def sh_ow (P : Nat → Int32) (w : Nat) (k : Nat) : Bool := decide (¬ sh_hk P (nI (10 * w + k)) < 0)
theorem c_onWall (B : sh_B P) {v : Int32} (w : Nat) (hv : v = nI w) (h : Q (nI (sh_cnt (sh_ow P w) 4)) (sh_mp S P)) : sh_Ci g mX9_onWall [sh_R (9, 0, 0), sh_I v] (sh_mp S P) sz Q := by
  subst hv
  refine wp_X9_onWall ⟨fun v i S' => ∃ j, j ≤ 4 ∧ i = nI j ∧ v = nI (sh_cnt (sh_ow P w) j) ∧ S' = sh_mp S P, fun _ i _ => 4 - i.toNatClampNeg, ⟨0, by omega, rfl, rfl, rfl⟩, ?_⟩
  rintro _ _ _ ⟨j, hj, rfl, rfl, rfl⟩
  refine wc (fun c => ?_) (fun c => ?_)
  · obtain rfl := lp_end hj (by omega) c
    exact h
  · have hlt := lp_go (by omega) hj c
    have hmu := mu_lt (N := 4) hlt (by omega)
    rw [show (10 : Int32) * nI w = nI (10 * w) from pk_mul 10 w, nI_add]
    refine c_onHook B (wc (fun c => ?_) (fun c => ?_)) <;> rintro _ rfl _ rfl <;> rw [nI_1 j]
    · exact ⟨⟨j + 1, hlt, rfl, by rw [cnt_f (decide_eq_false (fun z => z c)), Int32.add_zero], rfl⟩, hmu⟩
    · exact ⟨⟨j + 1, hlt, rfl, by rw [cnt_t (decide_eq_true c), nI_1], rfl⟩, hmu⟩
/-- members of a status, tools at a place, votes that stand -/
def sh_ist (P : Nat → Int32) (v : Int32) (m : Nat) : Bool := decide (pm P m 0 = v)
theorem c_inStatus (B : sh_B P) {v : Int32} (h : Q (nI (sh_cnt (sh_ist P v) (nM P))) (sh_mp S P)) : sh_Ci g mX9_inStatus [sh_R (9, 0, 0), sh_I v] (sh_mp S P) sz Q := by
  have hl := B.ml
  refine wp_X9_inStatus ⟨fun v' i S' => ∃ j, j ≤ nM P ∧ i = nI j ∧ v' = nI (sh_cnt (sh_ist P v) j) ∧ S' = sh_mp S P, fun _ i _ => nM P - i.toNatClampNeg, ⟨0, by omega, rfl, rfl, rfl⟩, ?_⟩
  rintro _ _ _ ⟨j, hj, rfl, rfl, rfl⟩
  rw [mp_p, B.m]
  refine wc (fun c => ?_) (fun c => ?_)
  · obtain rfl := lp_end hj (by omega) c
    exact h
  · have hlt := lp_go (by omega) hj c
    have hmu := mu_lt (N := nM P) hlt (by omega)
    refine c_of j 0 rfl rfl (by omega) (by omega) ⟨fun c => ?_, fun c => ?_⟩ <;> rintro _ rfl _ rfl <;> rw [nI_1 j]
    · exact ⟨⟨j + 1, hlt, rfl, by rw [cnt_f (decide_eq_false c), Int32.add_zero], rfl⟩, hmu⟩
    · exact ⟨⟨j + 1, hlt, rfl, by rw [cnt_t (decide_eq_true c), nI_1], rfl⟩, hmu⟩
def sh_ipl (P : Nat → Int32) (v : Int32) (t : Nat) : Bool := decide (pt P t 3 = v)
theorem c_inPlace (B : sh_B P) {v : Int32} (h : Q (nI (sh_cnt (sh_ipl P v) (nT P))) (sh_mp S P)) : sh_Ci g mX9_inPlace [sh_R (9, 0, 0), sh_I v] (sh_mp S P) sz Q := by
  have hl := B.tl
  refine wp_X9_inPlace ⟨fun v' i S' => ∃ j, j ≤ nT P ∧ i = nI j ∧ v' = nI (sh_cnt (sh_ipl P v) j) ∧ S' = sh_mp S P, fun _ i _ => nT P - i.toNatClampNeg, ⟨0, by omega, rfl, rfl, rfl⟩, ?_⟩
  rintro _ _ _ ⟨j, hj, rfl, rfl, rfl⟩
  rw [mp_p, B.t]
  refine wc (fun c => ?_) (fun c => ?_)
  · obtain rfl := lp_end hj (by omega) c
    exact h
  · have hlt := lp_go (by omega) hj c
    have hmu := mu_lt (N := nT P) hlt (by omega)
    refine c_its j 3 rfl rfl (by omega) (by omega) ⟨fun c => ?_, fun c => ?_⟩ <;> rintro _ rfl _ rfl <;> rw [nI_1 j]
    · exact ⟨⟨j + 1, hlt, rfl, by rw [cnt_f (decide_eq_false c), Int32.add_zero], rfl⟩, hmu⟩
    · exact ⟨⟨j + 1, hlt, rfl, by rw [cnt_t (decide_eq_true c), nI_1], rfl⟩, hmu⟩
def sh_prp (P : Nat → Int32) (t : Nat) : Bool := decide (0 < pt P t 18)
theorem c_proposals (B : sh_B P) (h : Q (nI (sh_cnt (sh_prp P) (nT P))) (sh_mp S P)) : sh_Ci g mX9_proposals [sh_R (9, 0, 0)] (sh_mp S P) sz Q := by
  have hl := B.tl
  refine wp_X9_proposals ⟨fun v' i S' => ∃ j, j ≤ nT P ∧ i = nI j ∧ v' = nI (sh_cnt (sh_prp P) j) ∧ S' = sh_mp S P, fun _ i _ => nT P - i.toNatClampNeg, ⟨0, by omega, rfl, rfl, rfl⟩, ?_⟩
  rintro _ _ _ ⟨j, hj, rfl, rfl, rfl⟩
  rw [mp_p, B.t]
  refine wc (fun c => ?_) (fun c => ?_)
  · obtain rfl := lp_end hj (by omega) c
    exact h
  · have hlt := lp_go (by omega) hj c
    have hmu := mu_lt (N := nT P) hlt (by omega)
    refine c_its j 18 rfl rfl (by omega) (by omega) ⟨fun c => ?_, fun c => ?_⟩ <;> rintro _ rfl _ rfl <;> rw [nI_1 j]
    · exact ⟨⟨j + 1, hlt, rfl, by rw [cnt_f (decide_eq_false (Int32.not_lt.mpr c)), Int32.add_zero], rfl⟩, hmu⟩
    · exact ⟨⟨j + 1, hlt, rfl, by rw [cnt_t (decide_eq_true (Int32.not_le.mp c)), nI_1], rfl⟩, hmu⟩
/-- the first who is there, by turns -/
def sh_who (P : Nat → Int32) : Int32 := match (List.range (nY P)).find? (fun j => decide (P (22 + 12 * (P (12 + j)).toNatClampNeg) = 0)) with
  | some j => P (12 + j)
  | none => -1
theorem who_s {j : Nat} (hj : j < nY P) (h : P (22 + 12 * (P (12 + j)).toNatClampNeg) = 0) (hb : ∀ k, k < j → ¬ P (22 + 12 * (P (12 + k)).toNatClampNeg) = 0) : sh_who P = P (12 + j) := by
  have : (List.range (nY P)).find? (fun j => decide (P (22 + 12 * (P (12 + j)).toNatClampNeg) = 0)) = some j := by
    rw [List.find?_range_eq_some]
    exact ⟨decide_eq_true h, List.mem_range.mpr hj, fun k hk => by simp [hb k hk]⟩
  unfold sh_who; rw [this]
theorem who_n (hb : ∀ k, k < nY P → ¬ P (22 + 12 * (P (12 + k)).toNatClampNeg) = 0) : sh_who P = -1 := by
  have : (List.range (nY P)).find? (fun j => decide (P (22 + 12 * (P (12 + j)).toNatClampNeg) = 0)) = none := by
    rw [List.find?_range_eq_none]
    exact fun k hk => by simp [hb k hk]
  unfold sh_who; rw [this]
theorem who_cases (P : Nat → Int32) : (∃ j, j < nY P ∧ P (22 + 12 * (P (12 + j)).toNatClampNeg) = 0 ∧ (∀ k, k < j → ¬ P (22 + 12 * (P (12 + k)).toNatClampNeg) = 0) ∧ sh_who P = P (12 + j)) ∨ ((∀ k, k < nY P → ¬ P (22 + 12 * (P (12 + k)).toNatClampNeg) = 0) ∧ sh_who P = -1) := by
  rcases fnd_cases (fun j => decide (P (22 + 12 * (P (12 + j)).toNatClampNeg) = 0)) (nY P) 0 with ⟨i, h1, h2, h3, _⟩ | ⟨h1, _⟩
  · have h3' : ∀ k, k < i → ¬ P (22 + 12 * (P (12 + k)).toNatClampNeg) = 0 := fun k hk => of_decide_eq_false (h3 k hk)
    exact .inl ⟨i, h1, of_decide_eq_true h2, h3', who_s h1 (of_decide_eq_true h2) h3'⟩
  · have h3' : ∀ k, k < nY P → ¬ P (22 + 12 * (P (12 + k)).toNatClampNeg) = 0 := fun k hk => of_decide_eq_false (h1 k hk)
    exact .inr ⟨h3', who_n h3'⟩
theorem c_whoSharpens (B : sh_B P) (h : Q (sh_who P) (sh_mp S P)) : sh_Ci g mX9_whoSharpens [sh_R (9, 0, 0)] (sh_mp S P) sz Q := by
  have hl := B.yl
  have hl2 := B.ml
  refine wp_X9_whoSharpens ⟨fun i S' => ∃ j, j ≤ nY P ∧ i = nI j ∧ S' = sh_mp S P ∧ ∀ k, k < j → ¬ P (22 + 12 * (P (12 + k)).toNatClampNeg) = 0, fun i _ => nY P - i.toNatClampNeg, ⟨0, by omega, rfl, rfl, fun k hk => by omega⟩, ?_⟩
  rintro _ _ ⟨j, hj, rfl, rfl, hb⟩
  rw [mp_p, B.y]
  refine wc (fun c => ?_) (fun c => ?_)
  · obtain rfl := lp_end hj (by omega) c
    rw [who_n hb] at h
    exact h
  · have hlt := lp_go (by omega) hj c
    rw [show (12 : Int32) + nI j = nI (12 + j) from nI_add 12 j, nI_clamp (by omega)]
    refine ⟨vp_in_nI (by omega) (by omega), ?_⟩
    obtain ⟨m, hm, em⟩ := B.tn j hlt
    have ec : (P (12 + j)).toNatClampNeg = m := by rw [em, nI_clamp (by omega)]
    refine c_of m 0 em rfl (by omega) (by omega) ?_
    rw [mp_p]
    refine ⟨fun c2 => ?_, fun c2 => ?_⟩
    · rintro _ rfl
      rw [nI_1 j]
      refine ⟨⟨j + 1, hlt, rfl, rfl, fun k hk => ?_⟩, mu_lt hlt (by omega)⟩
      by_cases e : k = j
      · rw [e, ec]; exact c2
      · exact hb k (by omega)
    · refine ⟨vp_in_nI (by omega) (by omega), ?_⟩
      rw [who_s hlt (by rw [ec]; exact c2) hb] at h
      exact h
theorem c_goesOut (B : sh_B P) {a1 a2 a3 a4 : Int32} (t : Nat) (h1 : a1 = nI t) (ht : t < 20) (h : U (sh_mp S (sh_wt P t (upd (upd (upd (upd (upd (upd (sh_tr P t) 3 a2) 4 a3) 5 a4) 8 (-1)) 9 (P 7)) 7 (pt P t 7 + 1))))) : sh_Cu g mX9_goesOut [sh_R (9, 0, 0), sh_I a1, sh_I a2, sh_I a3, sh_I a4] (sh_mp S P) sz U := by
  refine wp_X9_goesOut (c_lay0 t 3 h1 rfl ht (by omega) (c_layR t 4 h1 rfl ht (by omega) (c_layR t 5 h1 rfl ht (by omega) (c_layR t 8 h1 rfl ht (by omega) ?_))))
  rw [mp_p, wt_low (by omega)]
  exact c_layR t 9 h1 rfl ht (by omega) (c_itsR t 7 h1 rfl ht (by omega) (c_layR t 7 h1 rfl ht (by omega) h))
def sh_do (d s : Int32) : Int32 := if s < d then d - s else 1
theorem c_daysOut {a1 : Int32} (t : Nat) (h1 : a1 = nI t) (ht : t < 20) (h : Q (sh_do (P 7) (pt P t 9)) (sh_mp S P)) : sh_Ci g mX9_daysOut [sh_R (9, 0, 0), sh_I a1] (sh_mp S P) sz Q := by
  refine wp_X9_daysOut (c_its t 9 h1 rfl ht (by omega) ?_)
  simp only [mp_p]
  refine wc (fun c => ?_) (fun c => c_its t 9 h1 rfl ht (by omega) ?_)
  · rw [sh_do, if_neg (Int32.not_lt.mpr c)] at h
    exact h
  · rw [sh_do, if_pos (Int32.not_le.mp c)] at h
    exact h
end MMORE
