/-! ===== what a street is told: the class's side ===== -/
def upq {α : Type} (f : Nat → α) (i : Nat) (v : α) : Nat → α := fun j => if j = i then v else f j
theorem upq_s {α : Type} (f : Nat → α) (i : Nat) (v : α) : upq f i v i = v := if_pos rfl
theorem upq_o {α : Type} {f : Nat → α} {i j : Nat} {v : α} (h : j ≠ i) : upq f i v j = f j := if_neg h
def newH (S : Sv) (a b c : Int32) : Sv := Sv.of (S.H + 1) S.P S.un S.yr (upq S.rm S.H a) (upq S.wo S.H b) (upq S.be S.H c) (upq S.fr S.H (-1)) (upq S.wl S.H 0) (upq S.mk S.H 0) (upq S.st S.H true) S.wa S.fa S.wh S.fe
def dHouse (S : Sv) (a b c : Int32) : Int32 × Sv := if inb a 1 9 && (inb b 0 99 && inb c 0 99) then (if S.H = 5 then (-4, S) else (nI S.H, newH S a b c)) else (-2, S)
def dFrom (S : Sv) (a b : Int32) : Int32 × Sv := if hasI S a && (decide (-1 ≤ b.toInt) && decide (b.toInt < a.toInt)) then (S.fr a.toNatClampNeg, S.set_fr (upq S.fr a.toNatClampNeg b)) else (-2, S)
def dWill (S : Sv) (a b : Int32) : Int32 × Sv := if hasI S a && inb b 0 5 then (S.wl a.toNatClampNeg, S.set_wl (upq S.wl a.toNatClampNeg b)) else (-2, S)
def dMark (S : Sv) (a b : Int32) : Int32 × Sv := if hasI S a && inb b 0 255 then (S.mk a.toNatClampNeg, S.set_mk (upq S.mk a.toNatClampNeg b)) else (-2, S)
def w2 (w : Nat → Nat → Bool) (a b : Nat) : Nat → Nat → Bool := fun x y => if (x = a ∧ y = b) ∨ (x = b ∧ y = a) then !w a b else w x y
def dWall (S : Sv) (a b : Int32) (w : Bool) : Int32 × Sv := if hasI S a && (hasI S b && !decide (a = b)) then (if S.wa a.toNatClampNeg b.toNatClampNeg = w then (-3, S) else (1, S.set_wa (w2 S.wa a.toNatClampNeg b.toNatClampNeg))) else (-2, S)
def newP (S : Sv) (f h : Int32) : Sv := Sv.of S.H (S.P + 1) S.un S.yr S.rm S.wo S.be S.fr S.wl S.mk S.st S.wa (upq S.fa S.P f) (upq S.wh S.P h) S.fe
def dOne (S : Sv) (f h : Int32) : Int32 × Sv := if inb f 0 3 && (decide (h = -1) || hasI S h) then (if decide (h = -1) || stI S h then (if S.P = 6 then (-4, S) else (nI S.P, newP S f h)) else (-3, S)) else (-2, S)
def dFeud (S : Sv) (a b : Int32) (w : Bool) : Int32 × Sv := if inb a 0 3 && (inb b 0 3 && !decide (a = b)) then (if S.fe a.toNatClampNeg b.toNatClampNeg = w then (-3, S) else (1, S.set_fe (w2 S.fe a.toNatClampNeg b.toNatClampNeg))) else (-2, S)
theorem inb_t {v : Int32} {lo hi : Int} : inb v lo hi = true ↔ lo ≤ v.toInt ∧ v.toInt ≤ hi := by unfold inb; simp
theorem inb_f {v : Int32} {lo hi : Int} : inb v lo hi = false ↔ v.toInt < lo ∨ hi < v.toInt := by
  unfold inb
  by_cases c1 : lo ≤ v.toInt
  · by_cases c2 : v.toInt ≤ hi
    · simp [c1, c2]
    · simp [c2]; omega
  · simp [c1]; omega
/-- a street's own cells -/
def SD (b : Nat) (a : Nat) : Prop := b ≤ a ∧ a < b + 11
/-- what a telling leaves, at the class -/
def Do (f : Option (Int32 × HL)) (L : HL) (b : Nat) (r : Int32 × Sv) : Prop := ∃ z, f = some z ∧ z.1 = r.1 ∧ SC z.2 b r.2 ∧ Fr (SD b) L z.2
section DOC
variable {L : HL} {b : Nat} {S : Sv}
theorem SC.hasTwoF (hS : SC L b S) (hW : WF S) (v w : Int32) : fX4_hasTwo b v w L = some (bI (hasI S v && (hasI S w && !decide (v = w)))) := by
  unfold fX4_hasTwo
  rw [hS.hasF hW, bd_some]
  cases hasI S v
  · rw [if_pos (by decide)]; rfl
  rw [if_neg (by decide), hS.hasF hW, bd_some]
  cases hasI S w
  · rw [if_pos (by decide)]; rfl
  rw [if_neg (by decide)]
  by_cases c : v = w
  · rw [if_pos c, decide_eq_true c]; rfl
  · rw [if_neg c, decide_eq_false c]; rfl
theorem SC.hasWallF (hS : SC L b S) (hW : WF S) (v w : Int32) : fX4_hasWall b v w L = some (bI (hasI S v && (hasI S w && S.wa v.toNatClampNeg w.toNatClampNeg))) := by
  have h5 := hW.H5
  unfold fX4_hasWall
  rw [hS.hasF hW, bd_some]
  cases cv : hasI S v
  · rw [if_pos (by decide)]; rfl
  rw [if_neg (by decide), hS.hasF hW, bd_some]
  cases cw : hasI S w
  · rw [if_pos (by decide)]; rfl
  obtain ⟨j, hj, rfl⟩ := hasI_of cv
  obtain ⟨k, hk, rfl⟩ := hasI_of cw
  rw [if_neg (by decide), gd_of (vin_nI (by omega) (by omega)), nI_cl (by omega), nI_cl (by omega), hS.wa j (by omega)]
  by_cases c : S.wa j k = true
  · rw [if_pos ((mask_bit (by omega) (by omega)).mpr c), c]; rfl
  · rw [if_neg (fun e => c ((mask_bit (by omega) (by omega)).mp e))]
    cases h : S.wa j k
    · rfl
    · exact absurd h c
theorem SC.mayWallF (hS : SC L b S) (hW : WF S) (v w : Int32) : fX4_mayWall b v w L = some (bI (stI S v && (stI S w && !(hasI S v && (hasI S w && S.wa v.toNatClampNeg w.toNatClampNeg))))) := by
  unfold fX4_mayWall
  rw [hS.standsF, bd_some]
  cases stI S v
  · rw [if_pos (by decide)]; rfl
  rw [if_neg (by decide), hS.standsF, bd_some]
  cases stI S w
  · rw [if_pos (by decide)]; rfl
  rw [if_neg (by decide), hS.hasWallF hW, bd_some]
  cases (hasI S v && (hasI S w && S.wa v.toNatClampNeg w.toNatClampNeg)) <;> rfl
theorem Do.same (hS : SC L b S) (r : Int32) : Do (some (r, L)) L b (r, S) := ⟨_, rfl, rfl, hS, Fr.refl L⟩
theorem i_lt0 {v : Int32} : (v < 0) = (v.toInt < 0) := by rw [Int32.lt_iff_toInt_lt, tl_0]
theorem SC.setFromF (hS : SC L b S) (hW : WF S) (v w : Int32) : Do (fX4_setFrom b v w L) L b (dFrom S v w) := by
  have h5 := hW.H5
  unfold fX4_setFrom dFrom
  rw [hS.hasF hW, bd_some]
  cases cv : hasI S v
  · rw [if_pos (by decide), Bool.false_and, if_neg (by decide)]; exact Do.same hS _
  rw [if_neg (by decide), Bool.true_and]
  simp only [Int32.lt_iff_toInt_lt, tl_m1]
  obtain ⟨j, hj, rfl⟩ := hasI_of cv
  by_cases c1 : w.toInt < -1
  · rw [if_pos c1, decide_eq_false (by omega), Bool.false_and, if_neg (by decide)]; exact Do.same hS _
  rw [if_neg c1, decide_eq_true (show -1 ≤ w.toInt by omega), Bool.true_and]
  by_cases c2 : w.toInt < (nI j).toInt
  · rw [if_pos c2, decide_eq_true c2, if_pos rfl, gd_of (vin_nI (by omega) (by omega)), lt_eq, gd_of (vin_nI (by omega) (by omega)), lt_eq, nI_cl (by omega)]
    refine ⟨_, rfl, hS.fr j hj, hS.w_fr (fun h hh => ?_) (fun a _ _ h => wQ_ne h), (Fr.refl L).wI (by unfold SD; omega) _ _⟩
    by_cases e : h = j
    · subst e; rw [wQ_same, upq_s]
    · rw [wQ_other e, upq_o e]; exact hS.fr h hh
  · rw [if_neg c2, decide_eq_false c2, if_neg (by decide)]; exact Do.same hS _
theorem SC.setWillF (hS : SC L b S) (hW : WF S) (v w : Int32) : Do (fX4_setWill b v w L) L b (dWill S v w) := by
  have h5 := hW.H5
  unfold fX4_setWill dWill inb
  rw [hS.hasF hW, bd_some]
  cases cv : hasI S v
  · rw [if_pos (by decide), Bool.false_and, if_neg (by decide)]; exact Do.same hS _
  rw [if_neg (by decide), Bool.true_and]
  simp only [Int32.lt_iff_toInt_lt, tl_0, tl_6]
  obtain ⟨j, hj, rfl⟩ := hasI_of cv
  by_cases c1 : w.toInt < 0
  · rw [if_pos c1, decide_eq_false (by omega), Bool.false_and, if_neg (by decide)]; exact Do.same hS _
  rw [if_neg c1, decide_eq_true (show 0 ≤ w.toInt by omega), Bool.true_and]
  by_cases c2 : w.toInt < 6
  · rw [if_pos c2, decide_eq_true (show w.toInt ≤ 5 by omega), if_pos rfl, gd_of (vin_nI (by omega) (by omega)), lt_eq, gd_of (vin_nI (by omega) (by omega)), lt_eq, nI_cl (by omega)]
    refine ⟨_, rfl, hS.wl j hj, hS.w_wl (fun h hh => ?_) (fun a _ _ h => wQ_ne h), (Fr.refl L).wI (by unfold SD; omega) _ _⟩
    by_cases e : h = j
    · subst e; rw [wQ_same, upq_s]
    · rw [wQ_other e, upq_o e]; exact hS.wl h hh
  · rw [if_neg c2, decide_eq_false (show ¬ w.toInt ≤ 5 by omega), if_neg (by decide)]; exact Do.same hS _
theorem SC.setMarksF (hS : SC L b S) (hW : WF S) (v w : Int32) : Do (fX4_setMarks b v w L) L b (dMark S v w) := by
  have h5 := hW.H5
  unfold fX4_setMarks dMark inb
  rw [hS.hasF hW, bd_some]
  cases cv : hasI S v
  · rw [if_pos (by decide), Bool.false_and, if_neg (by decide)]; exact Do.same hS _
  rw [if_neg (by decide), Bool.true_and]
  simp only [Int32.lt_iff_toInt_lt, Int32.le_iff_toInt_le, tl_0, tl_255]
  obtain ⟨j, hj, rfl⟩ := hasI_of cv
  by_cases c1 : w.toInt < 0
  · rw [if_pos c1, decide_eq_false (by omega), Bool.false_and, if_neg (by decide)]; exact Do.same hS _
  rw [if_neg c1, decide_eq_true (show 0 ≤ w.toInt by omega), Bool.true_and]
  by_cases c2 : w.toInt ≤ 255
  · rw [if_pos c2, decide_eq_true c2, if_pos rfl, gd_of (vin_nI (by omega) (by omega)), lt_eq, gd_of (vin_nI (by omega) (by omega)), lt_eq, nI_cl (by omega)]
    refine ⟨_, rfl, hS.mk j hj, hS.w_mk (fun h hh => ?_) (fun a _ _ h => wQ_ne h), (Fr.refl L).wI (by unfold SD; omega) _ _⟩
    by_cases e : h = j
    · subst e; rw [wQ_same, upq_s]
    · rw [wQ_other e, upq_o e]; exact hS.mk h hh
  · rw [if_neg c2, decide_eq_false c2, if_neg (by decide)]; exact Do.same hS _
theorem SC.addHouseF (hS : SC L b S) (hW : WF S) (v w x : Int32) : Do (fX4_addHouse b v w x L) L b (dHouse S v w x) := by
  have h5 := hW.H5
  unfold fX4_addHouse dHouse inb
  simp only [Int32.lt_iff_toInt_lt, Int32.le_iff_toInt_le, tl_0, tl_1, tl_9, tl_99, tl_5]
  by_cases c1 : v.toInt < 1
  · rw [if_pos c1, decide_eq_false (show ¬ 1 ≤ v.toInt by omega), Bool.false_and, Bool.false_and, if_neg (by decide)]; exact Do.same hS _
  rw [if_neg c1, decide_eq_true (show 1 ≤ v.toInt by omega), Bool.true_and]
  by_cases c2 : 9 < v.toInt
  · rw [if_pos c2, decide_eq_false (show ¬ v.toInt ≤ 9 by omega), Bool.false_and, if_neg (by decide)]; exact Do.same hS _
  rw [if_neg c2, decide_eq_true (show v.toInt ≤ 9 by omega), Bool.true_and]
  by_cases c3 : w.toInt < 0
  · rw [if_pos c3, decide_eq_false (show ¬ 0 ≤ w.toInt by omega), Bool.false_and, Bool.false_and, if_neg (by decide)]; exact Do.same hS _
  rw [if_neg c3, decide_eq_true (show 0 ≤ w.toInt by omega), Bool.true_and]
  by_cases c4 : 99 < w.toInt
  · rw [if_pos c4, decide_eq_false (show ¬ w.toInt ≤ 99 by omega), Bool.false_and, if_neg (by decide)]; exact Do.same hS _
  rw [if_neg c4, decide_eq_true (show w.toInt ≤ 99 by omega), Bool.true_and]
  by_cases c5 : x.toInt < 0
  · rw [if_pos c5, decide_eq_false (show ¬ 0 ≤ x.toInt by omega), Bool.false_and, if_neg (by decide)]; exact Do.same hS _
  rw [if_neg c5, decide_eq_true (show 0 ≤ x.toInt by omega), Bool.true_and]
  by_cases c6 : x.toInt ≤ 99
  · rw [if_pos c6, decide_eq_true c6, if_pos rfl, hS.H, nI_toI (by omega)]
    by_cases c7 : S.H = 5
    · rw [if_neg (by omega), if_pos c7]; exact Do.same hS _
    rw [if_pos (by omega), if_neg c7]
    simp only [lt_eq]
    have hH : S.H < 5 := by omega
    simp only [gd_of (vin_nI hH (by omega)), nI_cl (show S.H < 2147483648 by omega)]
    refine ⟨_, rfl, rfl, ?_, ?_⟩
    · have n0 : ∀ k, k ≠ 0 → b + k ≠ b := fun k hk => by omega
      have nk : ∀ k j, k ≠ j → b + k ≠ b + j := fun k j h => by omega
      have rd : ∀ (f : Nat → Int32) (y : Int32) (c : Nat) (g : ∀ h, h < S.H → L.1 (b + c) h = f h), ∀ h, h < S.H + 1 → (if h = S.H then y else L.1 (b + c) h) = upq f S.H y h := by
        intro f y c g h hh
        unfold upq
        by_cases e : h = S.H
        · rw [if_pos e, if_pos e]
        · rw [if_neg e, if_neg e]; exact g h (by omega)
      refine SC.of ?_ ?_ ?_ ?_ ?_ ?_ ?_ ?_ ?_ ?_ ?_ ?_ ?_ ?_
      · rw [wQ_same, wQ_other (by decide)]
        simp only [wQ_ne (show b ≠ b + 6 by omega), wQ_ne (show b ≠ b + 5 by omega), wQ_ne (show b ≠ b + 4 by omega), wQ_ne (show b ≠ b + 3 by omega), wQ_ne (show b ≠ b + 2 by omega), wQ_ne (show b ≠ b + 1 by omega)]
        rw [hS.H, nQ_s]; rfl
      · rw [wQ_other (by decide), wQ_same]
        simp only [wQ_ne (show b ≠ b + 6 by omega), wQ_ne (show b ≠ b + 5 by omega), wQ_ne (show b ≠ b + 4 by omega), wQ_ne (show b ≠ b + 3 by omega), wQ_ne (show b ≠ b + 2 by omega), wQ_ne (show b ≠ b + 1 by omega)]
        rw [hS.st, i_shl (n := 5) (by omega) hH, i_or (by omega)]
        refine congrArg nI (mask_congr 5 fun i _ => ?_)
        show _ = upq S.st S.H true i
        unfold upq
        by_cases e : i = S.H
        · rw [if_pos e, e]; simp
        · rw [if_neg e]; simp [e]
      · rw [wQ_other (by decide), wQ_other (by decide)]
        simp only [wQ_ne (show b ≠ b + 6 by omega), wQ_ne (show b ≠ b + 5 by omega), wQ_ne (show b ≠ b + 4 by omega), wQ_ne (show b ≠ b + 3 by omega), wQ_ne (show b ≠ b + 2 by omega), wQ_ne (show b ≠ b + 1 by omega)]
        exact hS.P
      · rw [wQ_other (by decide), wQ_other (by decide)]
        simp only [wQ_ne (show b ≠ b + 6 by omega), wQ_ne (show b ≠ b + 5 by omega), wQ_ne (show b ≠ b + 4 by omega), wQ_ne (show b ≠ b + 3 by omega), wQ_ne (show b ≠ b + 2 by omega), wQ_ne (show b ≠ b + 1 by omega)]
        exact hS.yr
      · intro h hh
        rw [wQ_ne (n0 1 (by omega)), wQ_ne (n0 1 (by omega)), wQ_ne (nk 1 6 (by omega)), wQ_ne (nk 1 5 (by omega)), wQ_ne (nk 1 4 (by omega)), wQ_ne (nk 1 3 (by omega)), wQ_ne (nk 1 2 (by omega)), wQ_at, if_pos rfl]
        exact rd S.rm v 1 hS.rm h hh
      · intro h hh
        rw [wQ_ne (n0 2 (by omega)), wQ_ne (n0 2 (by omega)), wQ_ne (nk 2 6 (by omega)), wQ_ne (nk 2 5 (by omega)), wQ_ne (nk 2 4 (by omega)), wQ_ne (nk 2 3 (by omega)), wQ_at, if_pos rfl, wQ_ne (nk 2 1 (by omega))]
        exact rd S.wo w 2 hS.wo h hh
      · intro h hh
        rw [wQ_ne (n0 3 (by omega)), wQ_ne (n0 3 (by omega)), wQ_ne (nk 3 6 (by omega)), wQ_ne (nk 3 5 (by omega)), wQ_ne (nk 3 4 (by omega)), wQ_at, if_pos rfl, wQ_ne (nk 3 2 (by omega)), wQ_ne (nk 3 1 (by omega))]
        exact rd S.be x 3 hS.be h hh
      · intro h hh
        rw [wQ_ne (n0 4 (by omega)), wQ_ne (n0 4 (by omega)), wQ_ne (nk 4 6 (by omega)), wQ_ne (nk 4 5 (by omega)), wQ_at, if_pos rfl, wQ_ne (nk 4 3 (by omega)), wQ_ne (nk 4 2 (by omega)), wQ_ne (nk 4 1 (by omega))]
        exact rd S.fr (-1) 4 hS.fr h hh
      · intro h hh
        rw [wQ_ne (n0 5 (by omega)), wQ_ne (n0 5 (by omega)), wQ_ne (nk 5 6 (by omega)), wQ_at, if_pos rfl, wQ_ne (nk 5 4 (by omega)), wQ_ne (nk 5 3 (by omega)), wQ_ne (nk 5 2 (by omega)), wQ_ne (nk 5 1 (by omega))]
        exact rd S.wl 0 5 hS.wl h hh
      · intro h hh
        rw [wQ_ne (n0 6 (by omega)), wQ_ne (n0 6 (by omega)), wQ_at, if_pos rfl, wQ_ne (nk 6 5 (by omega)), wQ_ne (nk 6 4 (by omega)), wQ_ne (nk 6 3 (by omega)), wQ_ne (nk 6 2 (by omega)), wQ_ne (nk 6 1 (by omega))]
        exact rd S.mk 0 6 hS.mk h hh
      · intro h hh
        simp only [wQ_ne (show b + 7 ≠ b by omega), wQ_ne (show b + 7 ≠ b + 6 by omega), wQ_ne (show b + 7 ≠ b + 5 by omega), wQ_ne (show b + 7 ≠ b + 4 by omega), wQ_ne (show b + 7 ≠ b + 3 by omega), wQ_ne (show b + 7 ≠ b + 2 by omega), wQ_ne (show b + 7 ≠ b + 1 by omega)]
        exact hS.wa h hh
      · intro h hh
        simp only [wQ_ne (show b + 8 ≠ b by omega), wQ_ne (show b + 8 ≠ b + 6 by omega), wQ_ne (show b + 8 ≠ b + 5 by omega), wQ_ne (show b + 8 ≠ b + 4 by omega), wQ_ne (show b + 8 ≠ b + 3 by omega), wQ_ne (show b + 8 ≠ b + 2 by omega), wQ_ne (show b + 8 ≠ b + 1 by omega)]
        exact hS.fa h hh
      · intro h hh
        simp only [wQ_ne (show b + 9 ≠ b by omega), wQ_ne (show b + 9 ≠ b + 6 by omega), wQ_ne (show b + 9 ≠ b + 5 by omega), wQ_ne (show b + 9 ≠ b + 4 by omega), wQ_ne (show b + 9 ≠ b + 3 by omega), wQ_ne (show b + 9 ≠ b + 2 by omega), wQ_ne (show b + 9 ≠ b + 1 by omega)]
        exact hS.wh h hh
      · intro h hh
        simp only [wQ_ne (show b + 10 ≠ b by omega), wQ_ne (show b + 10 ≠ b + 6 by omega), wQ_ne (show b + 10 ≠ b + 5 by omega), wQ_ne (show b + 10 ≠ b + 4 by omega), wQ_ne (show b + 10 ≠ b + 3 by omega), wQ_ne (show b + 10 ≠ b + 2 by omega), wQ_ne (show b + 10 ≠ b + 1 by omega)]
        exact hS.fe h hh
    · have sd : ∀ k, k < 11 → SD b (b + k) := fun k hk => ⟨by omega, by omega⟩
      exact ((((((((Fr.refl L).wI (sd 1 (by omega)) _ _).wI (sd 2 (by omega)) _ _).wI (sd 3 (by omega)) _ _).wI (sd 4 (by omega)) _ _).wI (sd 5 (by omega)) _ _).wI (sd 6 (by omega)) _ _).wI (sd 0 (by omega)) _ _).wI (sd 0 (by omega)) _ _
  · rw [if_neg c6, decide_eq_false c6, if_neg (by decide)]; exact Do.same hS _
theorem SC.setWallF (hS : SC L b S) (hW : WF S) (v w : Int32) (is : Bool) : Do (fX4_setWall b v w (bI is) L) L b (dWall S v w is) := by
  have h5 := hW.H5
  unfold fX4_setWall dWall
  rw [hS.hasTwoF hW, bd_some]
  cases c : (hasI S v && (hasI S w && !decide (v = w)))
  · rw [if_pos (by decide), if_neg (by decide)]; exact Do.same hS _
  rw [if_neg (by decide), if_pos rfl, hS.hasWallF hW, bd_some]
  simp only [Bool.and_eq_true, Bool.not_eq_true', decide_eq_false_iff_not] at c
  obtain ⟨cv, cw, cn⟩ := c
  rw [cv, cw, Bool.true_and, Bool.true_and]
  obtain ⟨j, hj, rfl⟩ := hasI_of cv
  obtain ⟨k, hk, rfl⟩ := hasI_of cw
  have hjk : j ≠ k := fun e => cn (by rw [e])
  simp only [nI_cl (show j < 2147483648 by omega), nI_cl (show k < 2147483648 by omega), bI_eq]
  by_cases c2 : S.wa j k = is
  · rw [if_pos c2, if_pos c2]; exact Do.same hS _
  rw [if_neg c2, if_neg c2]
  simp only [gd_of (vin_nI (show j < 5 by omega) (show 5 < 2147483648 by omega)), gd_of (vin_nI (show k < 5 by omega) (show 5 < 2147483648 by omega)), lt_eq]
  refine ⟨_, rfl, rfl, hS.w_wa (fun h hh => ?_) (fun a _ _ h => by rw [wQ_ne h, wQ_ne h]), ((Fr.refl L).wI (by unfold SD; omega) _ _).wI (by unfold SD; omega) _ _⟩
  rw [wQ_other (j := k) (by omega), hS.wa j (by omega), hS.wa k (by omega), i_shl (n := 5) (by omega) (by omega), i_shl (n := 5) (by omega) (by omega), i_xor (by omega), i_xor (by omega)]
  by_cases e : h = k
  · subst e
    rw [wQ_same]
    refine congrArg nI (mask_congr 5 fun i _ => ?_)
    unfold w2
    by_cases e2 : i = j
    · subst e2; rw [if_pos (.inr ⟨rfl, rfl⟩), hW.ws h i]; simp
    · rw [if_neg (by rintro (⟨a, -⟩ | ⟨-, a⟩); exact hjk a.symm; exact e2 a)]; show (S.wa h i != (i == j)) = S.wa h i; rw [beq_false_of_ne e2]; cases S.wa h i <;> rfl
  · rw [wQ_other e]
    by_cases e3 : h = j
    · subst e3
      rw [wQ_same]
      refine congrArg nI (mask_congr 5 fun i _ => ?_)
      unfold w2
      by_cases e2 : i = k
      · subst e2; rw [if_pos (.inl ⟨rfl, rfl⟩)]; simp
      · rw [if_neg (by rintro (⟨-, a⟩ | ⟨a, -⟩); exact e2 a; exact e a)]; show (S.wa h i != (i == k)) = S.wa h i; rw [beq_false_of_ne e2]; cases S.wa h i <;> rfl
    · rw [wQ_other e3, hS.wa h hh]
      refine congrArg nI (mask_congr 5 fun i _ => ?_)
      unfold w2
      rw [if_neg (by rintro (⟨a, -⟩ | ⟨a, -⟩); exact e3 a; exact e a)]
end DOC
