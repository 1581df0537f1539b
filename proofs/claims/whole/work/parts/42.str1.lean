/-! ===== the class's street: questions ===== -/
def hasI (S : Sv) (v : Int32) : Bool := decide (0 ≤ v.toInt) && decide (v.toInt < S.H)
def oneI (S : Sv) (v : Int32) : Bool := decide (0 ≤ v.toInt) && decide (v.toInt < S.P)
def stI (S : Sv) (v : Int32) : Bool := decide (0 ≤ v.toInt) && decide (v.toInt < 5) && S.st v.toInt.toNat
theorem hasI_n (S : Sv) {h : Nat} (hh : h < 2147483648) : hasI S (nI h) = decide (h < S.H) := by
  unfold hasI; rw [nI_toI hh]; simp
theorem oneI_n (S : Sv) {h : Nat} (hh : h < 2147483648) : oneI S (nI h) = decide (h < S.P) := by
  unfold oneI; rw [nI_toI hh]; simp
theorem stI_n (S : Sv) {h : Nat} (hh : h < 5) : stI S (nI h) = S.st h := by
  unfold stI; rw [nI_toI (by omega)]; simp; intro _; omega
theorem hasI_of {S : Sv} {v : Int32} (h : hasI S v = true) : ∃ j, j < S.H ∧ v = nI j := by
  unfold hasI at h; simp at h; exact nI_of_int h.1 h.2
theorem oneI_of {S : Sv} {v : Int32} (h : oneI S v = true) : ∃ j, j < S.P ∧ v = nI j := by
  unfold oneI at h; simp at h; exact nI_of_int h.1 h.2
theorem stI_of {S : Sv} {v : Int32} (h : stI S v = true) : ∃ j, j < 5 ∧ v = nI j ∧ S.st j = true := by
  unfold stI at h; simp at h
  obtain ⟨j, h1, h2⟩ := nI_of_int (n := 5) h.1.1 h.1.2
  subst h2
  refine ⟨j, h1, rfl, ?_⟩
  have := h.2
  rwa [show (nI j).toNatClampNeg = j from nI_cl (by omega)] at this
section STR
variable {L : HL} {b : Nat} {S : Sv}
theorem SC.hasF (hS : SC L b S) (hW : WF S) (v : Int32) : fX4_has b v L = some (bI (hasI S v)) := by
  have h5 := hW.H5
  unfold fX4_has hasI
  rw [hS.H]
  simp (disch := omega) only [Int32.lt_iff_toInt_lt, Int32.le_iff_toInt_le, nI_toI, tl_0, tl_5]
  by_cases c1 : v.toInt < 0
  · rw [if_pos c1]; simp [show ¬ 0 ≤ v.toInt by omega]; rfl
  rw [if_neg c1]
  by_cases c2 : (S.H : Int) ≤ v.toInt
  · rw [if_pos c2]; simp [show ¬ v.toInt < S.H by omega]; rfl
  rw [if_neg c2, if_neg (by omega)]
  simp [show 0 ≤ v.toInt by omega, show v.toInt < S.H by omega]; rfl
theorem SC.hasOneF (hS : SC L b S) (hW : WF S) (v : Int32) : fX4_hasOne b v L = some (bI (oneI S v)) := by
  have h6 := hW.P6
  unfold fX4_hasOne oneI
  rw [hS.P]
  simp (disch := omega) only [Int32.lt_iff_toInt_lt, Int32.le_iff_toInt_le, nI_toI, tl_0, tl_6]
  by_cases c1 : v.toInt < 0
  · rw [if_pos c1]; simp [show ¬ 0 ≤ v.toInt by omega]; rfl
  rw [if_neg c1]
  by_cases c2 : (S.P : Int) ≤ v.toInt
  · rw [if_pos c2]; simp [show ¬ v.toInt < S.P by omega]; rfl
  rw [if_neg c2, if_neg (by omega)]
  simp [show 0 ≤ v.toInt by omega, show v.toInt < S.P by omega]; rfl
theorem SC.standsF (hS : SC L b S) (v : Int32) : fX4_stands b v L = some (bI (stI S v)) := by
  unfold fX4_stands stI
  rw [hS.st]
  by_cases c1 : v.toInt < 0
  · rw [if_pos (by rw [Int32.lt_iff_toInt_lt, tl_0]; exact c1)]; simp [show ¬ 0 ≤ v.toInt by omega]; rfl
  rw [if_neg (by rw [Int32.lt_iff_toInt_lt, tl_0]; exact c1)]
  by_cases c2 : (5 : Int) ≤ v.toInt
  · rw [if_pos (by rw [Int32.le_iff_toInt_le, tl_5]; exact c2)]; simp [show ¬ v.toInt < 5 by omega]; rfl
  rw [if_neg (by rw [Int32.le_iff_toInt_le, tl_5]; exact c2)]
  obtain ⟨j, hj, e⟩ := nI_of_int (v := v) (n := 5) (by omega) (by omega)
  subst e
  simp only [i_bit (p := S.st) (by omega : 5 ≤ 6) hj, nI_toI (show j < 2147483648 by omega)]
  simp only [Int.natCast_nonneg, decide_true, Int.toNat_natCast, Bool.true_and]
  have : (j : Int) < 5 := by omega
  simp only [this, decide_true, Bool.true_and]
  cases S.st j <;> rfl
def qt (S : Sv) (x y : Nat → Bool) : Bool := (List.range 4).all fun f => !x f || (List.range 4).all fun g => !(S.fe f g && y g)
theorem qt_t {S : Sv} {x y : Nat → Bool} : qt S x y = true ↔ ∀ f, f < 4 → x f = true → ∀ g, g < 4 → (S.fe f g && y g) = false := by
  unfold qt
  rw [List.all_eq_true]
  constructor
  · intro h f hf hx g hg
    have h1 := h f (List.mem_range.mpr hf)
    rw [hx, Bool.not_true, Bool.false_or, List.all_eq_true] at h1
    have h2 := h1 g (List.mem_range.mpr hg)
    revert h2
    cases (S.fe f g && y g) <;> simp
  · intro h f hf
    have hf := List.mem_range.mp hf
    cases hx : x f
    · rfl
    · rw [Bool.not_true, Bool.false_or, List.all_eq_true]
      intro g hg
      rw [h f hf hx g (List.mem_range.mp hg)]
      rfl
theorem SC.isQuietF (hS : SC L b S) (x y : Nat → Bool) : fX4_isQuiet b (nI (mask x 4)) (nI (mask y 4)) L = some (bI (qt S x y)) := by
  unfold fX4_isQuiet
  refine Ok.eq (Ok.lx (Q := fun o => o = if qt S x y then Sum.inl (nI 4) else Sum.inr 0) ?_ ?_ ?_)
  · refine Ok.lp (fun i s => s = nI i ∧ ∀ f, f < i → x f = true → ∀ g, g < 4 → (S.fe f g && y g) = false) 4 ?_ FU 0 _ (by omega) (by decide) ⟨rfl, fun f h => by omega⟩
    intro i s hi ⟨hs, hq⟩
    subst hs
    unfold fX4_isQuiet_b2
    by_cases h4 : i = 4
    · subst h4
      rw [if_pos (by decide)]
      refine Ok.inr ?_
      rw [if_pos (qt_t.mpr hq)]
    · have hi4 : i < 4 := by omega
      rw [if_neg (by rw [l4, nQ_le (by omega) (by omega)]; omega)]
      simp (disch := omega) only [i_bit, hS.fe i hi4, nI_cl, i_and, i_zero, lt_eq, gd_true, bd_some, lx_inl, lx_inr, if_true, if_false, vin_t]
      simp only [nQ_s]
      refine Ok.ite (fun c1 => Ok.ite (fun c2 => ?_) fun c2 => ?_) fun c1 => ?_
      · refine Ok.inl ⟨hi4, rfl, fun f hf hx g hg => ?_⟩
        by_cases e : f = i
        · subst e; exact c2 g hg
        · exact hq f (by omega) hx g hg
      · refine Ok.inr ?_
        rw [if_neg (fun e => c2 fun g hg => qt_t.mp e i hi4 c1 g hg)]
      · refine Ok.inl ⟨hi4, rfl, fun f hf hx g hg => ?_⟩
        by_cases e : f = i
        · subst e; exact absurd hx c1
        · exact hq f (by omega) hx g hg
  · intro s h
    cases hq : qt S x y <;> rw [hq] at h
    · cases h
    · exact Ok.some rfl
  · intro s h
    cases hq : qt S x y <;> rw [hq] at h
    · cases h; exact Ok.some rfl
    · cases h
/-! kin -/
def kx (S : Sv) (a h : Nat) : Bool := (S.st a && (S.wa a h && S.st h)) || (decide (h < S.H) && (decide (S.fr h = nI a) || decide (S.fr a = nI h)))
theorem SC.kinBitsF (hS : SC L b S) (hW : WF S) {a : Nat} (ha : a < S.H) : fX4_kinBits b (nI a) L = some (nI (mask (kx S a) 5)) := by
  have h5 := hW.H5
  have key : ∀ k0 : Nat → Bool, fX4_kinBits_j27 b (nI a) (nI (mask k0 5)) L = some (nI (mask (fun h => k0 h || (decide (h < S.H) && (decide (S.fr h = nI a) || decide (S.fr a = nI h)))) 5)) := by
    intro k0
    unfold fX4_kinBits_j27
    have e0 : mask k0 5 = mask (fun h => k0 h || (decide (h < 0) && (decide (S.fr h = nI a) || decide (S.fr a = nI h)))) 5 := by congr 1; funext h; simp
    rw [e0]
    refine (lx_for S.H (fun i => (nI (mask (fun h => k0 h || (decide (h < i) && (decide (S.fr h = nI a) || decide (S.fr a = nI h)))) 5), nI i)) rfl (by rw [FU_20000]; omega) ?_ ?_).trans rfl
    · intro i hi
      unfold fX4_kinBits_b30 fX4_kinBits_j58
      have g1 : ¬ S.H ≤ i := by omega
      simp (disch := omega) only [hS.H, nQ_le, g1, lt_eq, gd_true, bd_some, lx_inl, lx_inr, if_true, if_false, vin_t, nI_cl, hS.fr i hi, hS.fr a ha]
      by_cases c1 : S.fr i = nI a
      · simp (disch := omega) only [c1, if_true, i_shl (n := 5), i_or, nQ_s]
        refine congrArg (fun z => some (Sum.inl (nI z, nI (i + 1)))) (mask_congr 5 fun h _ => ?_)
        by_cases e : h = i
        · subst e; simp [c1]
        · have : (h < i + 1) = (h < i) := propext (by omega)
          simp [e, this]
      · simp (disch := omega) only [c1, if_false]
        by_cases c2 : S.fr a = nI i
        · simp (disch := omega) only [c2, if_true, i_shl (n := 5), i_or, nQ_s]
          refine congrArg (fun z => some (Sum.inl (nI z, nI (i + 1)))) (mask_congr 5 fun h _ => ?_)
          by_cases e : h = i
          · subst e; simp [c2]
          · have : (h < i + 1) = (h < i) := propext (by omega)
            simp [e, this, c2]
        · simp only [c2, if_false, nQ_s]
          refine congrArg (fun z => some (Sum.inl (nI z, nI (i + 1)))) (mask_congr 5 fun h _ => ?_)
          by_cases e : h = i
          · subst e; simp [c1, c2]
          · have : (h < i + 1) = (h < i) := propext (by omega)
            simp [this]
    · unfold fX4_kinBits_b30
      simp (disch := omega) only [hS.H, nQ_le, Nat.le_refl, if_true]
  unfold fX4_kinBits
  simp (disch := omega) only [hS.st, i_bit, vin_t, lt_eq, gd_true, bd_some, lx_inl, lx_inr, if_true, if_false, nI_cl, hS.wa a (by omega), i_and]
  by_cases c : S.st a = true
  · rw [if_pos c, key]
    refine congrArg (fun z => some (nI z)) (mask_congr 5 fun h _ => ?_); unfold kx; rw [c]; simp
  · rw [if_neg c, l0, ← mask_zero 5, key]
    refine congrArg (fun z => some (nI z)) (mask_congr 5 fun h _ => ?_); unfold kx; simp [c]
end STR
