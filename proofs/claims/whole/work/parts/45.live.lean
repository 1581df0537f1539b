/-! ===== who lives where; ranks ===== -/
theorem gd_of {α : Type} {c : Prop} [Decidable c] {k : Option α} (h : c) : gd c k = k := if_pos h
def pcn (k : Nat) : Nat := k % 2 + k / 2 % 2 + k / 4 % 2 + k / 8 % 2 + k / 16 % 2 + k / 32 % 2 + k / 64 % 2 + k / 128 % 2
def ct (p : Nat → Bool) : Nat → Nat
  | 0 => 0
  | n + 1 => ct p n + if p n then 1 else 0
theorem ct_le (p : Nat → Bool) : ∀ n, ct p n ≤ n
  | 0 => Nat.le_refl _
  | n + 1 => by have := ct_le p n; show ct p n + (if p n then 1 else 0) ≤ n + 1; split <;> omega
theorem ct_congr {p q : Nat → Bool} : ∀ n, (∀ i, i < n → p i = q i) → ct p n = ct q n
  | 0, _ => rfl
  | n + 1, h => by
    show ct p n + (if p n then 1 else 0) = ct q n + (if q n then 1 else 0)
    rw [ct_congr n (fun i hi => h i (by omega)), h n (by omega)]
theorem ct_ext {p : Nat → Bool} {n : Nat} : ∀ d, ct (fun i => decide (i < n) && p i) (n + d) = ct p n
  | 0 => ct_congr n fun i hi => by simp [hi]
  | d + 1 => by
    show ct (fun i => decide (i < n) && p i) (n + d) + (if (decide (n + d < n) && p (n + d)) then 1 else 0) = _
    rw [ct_ext d, if_neg (by simp; intro z; omega)]; rfl
theorem pcn_mask6 (p : Nat → Bool) : pcn (mask p 6) = ct p 6 := by
  rw [mask6]; simp only [ct]
  cases p 0 <;> cases p 1 <;> cases p 2 <;> cases p 3 <;> cases p 4 <;> cases p 5 <;> rfl
theorem pcn_mask5 (p : Nat → Bool) : pcn (mask p 5) = ct p 5 := by
  rw [mask5]; simp only [ct]
  cases p 0 <;> cases p 1 <;> cases p 2 <;> cases p 3 <;> cases p 4 <;> rfl
theorem pcn_mask4 (p : Nat → Bool) : pcn (mask p 4) = ct p 4 := by
  rw [mask4]; simp only [ct]
  cases p 0 <;> cases p 1 <;> cases p 2 <;> cases p 3 <;> rfl
theorem bits_c : ∀ k, k < 256 → fX7_bits (nI k) = some (nI (pcn k)) := by decide +kernel
theorem bitCount_c : ∀ k, k < 256 → fJ6_bitCount_0f7a4 (nI k) = some (nI (pcn k)) := by decide +kernel
theorem bits6 (p : Nat → Bool) : fX7_bits (nI (mask p 6)) = some (nI (ct p 6)) := by rw [bits_c _ (by have := mask64 p (n := 6) (by omega); omega), pcn_mask6]
theorem bits5 (p : Nat → Bool) : fX7_bits (nI (mask p 5)) = some (nI (ct p 5)) := by rw [bits_c _ (by have := mask64 p (n := 5) (by omega); omega), pcn_mask5]
theorem bitCount5 (p : Nat → Bool) : fJ6_bitCount_0f7a4 (nI (mask p 5)) = some (nI (ct p 5)) := by rw [bitCount_c _ (by have := mask64 p (n := 5) (by omega); omega), pcn_mask5]
theorem bitCount4 (p : Nat → Bool) : fJ6_bitCount_0f7a4 (nI (mask p 4)) = some (nI (ct p 4)) := by rw [bitCount_c _ (by have := mask64 p (n := 4) (by omega); omega), pcn_mask4]
/-- who lives there -/
def lv (S : Sv) (v : Int32) (p : Nat) : Bool := decide (p < S.P) && decide (S.wh p = v)
def lvn (S : Sv) (v : Int32) : Nat := ct (fun p => decide (S.wh p = v)) S.P
theorem lvn_ct {S : Sv} (hW : WF S) (v : Int32) : ct (lv S v) 6 = lvn S v := by
  have := hW.P6
  have e := ct_ext (p := fun p => decide (S.wh p = v)) (n := S.P) (6 - S.P)
  rw [show S.P + (6 - S.P) = 6 by omega] at e
  exact e
theorem lvn_le {S : Sv} (hW : WF S) (v : Int32) : lvn S v ≤ 6 := Nat.le_trans (ct_le _ _) hW.P6
def fm (S : Sv) (h f : Nat) : Bool := (List.range S.P).any fun p => decide (S.wh p = nI h) && decide (S.fa p = nI f)
def ff (S : Sv) (p q : Nat) : Bool := S.fe (S.fa p).toNatClampNeg (S.fa q).toNatClampNeg
def fd (S : Sv) (X Y : Nat → Bool) : Bool := (List.range S.P).any fun p => (List.range S.P).any fun q => X p && (Y q && ff S p q)
theorem any_s {n : Nat} {p : Nat → Bool} : (List.range (n + 1)).any p = ((List.range n).any p || p n) := by
  rw [List.range_succ, List.any_append]; simp
theorem fd_qt {S : Sv} (hW : WF S) (x y : Nat) : fd S (lv S (nI x)) (lv S (nI y)) = !qt S (fm S x) (fm S y) := by
  have e : fd S (lv S (nI x)) (lv S (nI y)) = true ↔ ¬ qt S (fm S x) (fm S y) = true := by
    rw [qt_t]
    unfold fd
    rw [any_t]
    constructor
    · rintro ⟨p, hp, h⟩ hq
      rw [any_t] at h
      obtain ⟨q, hq', h⟩ := h
      simp only [Bool.and_eq_true, lv, decide_eq_true_eq] at h
      obtain ⟨⟨-, h1⟩, ⟨-, h2⟩, h3⟩ := h
      obtain ⟨f, hf, ef⟩ := hW.fa p hp
      obtain ⟨g, hg, eg⟩ := hW.fa q hq'
      have := hq f hf (by unfold fm; rw [any_t]; exact ⟨p, hp, by simp [h1, ef]⟩) g hg
      rw [ff, ef, eg, nI_cl (by omega), nI_cl (by omega)] at h3
      rw [h3] at this
      have h4 : fm S y g = true := by unfold fm; rw [any_t]; exact ⟨q, hq', by simp [h2, eg]⟩
      rw [h4] at this; cases this
    · intro hq
      refine Decidable.byContradiction fun hc => hq fun f hf hx g hg => ?_
      cases c : (S.fe f g && fm S y g)
      · rfl
      · exfalso
        rw [Bool.and_eq_true] at c
        unfold fm at hx c
        rw [any_t] at hx c
        obtain ⟨p, hp, h1⟩ := hx
        obtain ⟨c0, q, hq', h2⟩ := c
        simp only [Bool.and_eq_true, decide_eq_true_eq] at h1 h2
        refine hc ⟨p, hp, ?_⟩
        rw [any_t]
        refine ⟨q, hq', ?_⟩
        unfold ff lv
        rw [h1.2, h2.2, nI_cl (by omega), nI_cl (by omega), c0]
        simp [h1.1, h2.1, hp, hq']
  cases c : qt S (fm S x) (fm S y)
  · exact e.mpr (by rw [c]; simp)
  · cases c' : fd S (lv S (nI x)) (lv S (nI y))
    · rfl
    · exact absurd c (e.mp c')
section LIV
variable {L : HL} {b t n : Nat} {S : Sv}
theorem SC.dwellersF (hS : SC L b S) (hW : WF S) (v : Int32) : fX4_dwellers b v L = some (nI (lvn S v)) := by
  have h6 := hW.P6
  unfold fX4_dwellers
  refine (lx_for S.P (fun i => (nI (ct (fun p => decide (S.wh p = v)) i), nI i)) rfl (by rw [FU_20000]; omega) ?_ ?_).trans rfl
  · intro i hi
    unfold fX4_dwellers_b4
    have g1 : ¬ S.P ≤ i := by omega
    simp (disch := omega) only [hS.P, nQ_le, g1, lt_eq, gd_true, bd_some, lx_inl, lx_inr, if_true, if_false, vin_t, nI_cl, hS.wh i hi, nQ_s]
    by_cases c : S.wh i = v
    · rw [if_pos c]; simp [ct, c]
    · rw [if_neg c]; simp [ct, c]
  · unfold fX4_dwellers_b4
    simp (disch := omega) only [hS.P, nQ_le, Nat.le_refl, if_true]
theorem SC.dwellerBitsF (hS : SC L b S) (hW : WF S) (v : Int32) : fX4_dwellerBits b v L = some (nI (mask (lv S v) 6)) := by
  have h6 := hW.P6
  unfold fX4_dwellerBits
  refine (lx_for S.P (fun i => (nI (mask (fun p => decide (p < i) && decide (S.wh p = v)) 6), nI i)) ?_ (by rw [FU_20000]; omega) ?_ ?_).trans rfl
  · show (_, _) = (_, _)
    simp only [Nat.not_lt_zero, decide_false, Bool.false_and, mask_zero]; rfl
  · intro i hi
    unfold fX4_dwellerBits_b4
    have g1 : ¬ S.P ≤ i := by omega
    simp (disch := omega) only [hS.P, nQ_le, g1, lt_eq, gd_true, bd_some, lx_inl, lx_inr, if_true, if_false, vin_t, nI_cl, hS.wh i hi, nQ_s]
    by_cases c : S.wh i = v
    · rw [if_pos c]
      simp (disch := omega) only [i_shl (n := 6), i_or]
      refine congrArg (fun z => some (Sum.inl (nI z, nI (i + 1)))) (mask_congr 6 fun h _ => ?_)
      by_cases e : h = i
      · subst e; simp [c]
      · have : (h < i + 1) = (h < i) := propext (by omega)
        simp [e, this]
    · rw [if_neg c]
      refine congrArg (fun z => some (Sum.inl (nI z, nI (i + 1)))) (mask_congr 6 fun h _ => ?_)
      by_cases e : h = i
      · subst e; simp [c]
      · have : (h < i + 1) = (h < i) := propext (by omega)
        simp [this]
  · unfold fX4_dwellerBits_b4
    simp (disch := omega) only [hS.P, nQ_le, Nat.le_refl, if_true]
theorem i_or0 (x : Int32) : x ||| (0 : Int32) = x := by simp
theorem RC.livingInF (hR : RC L t S) (hW : WF S) (hn : 92 ≤ n) (hn' : n < 1000) (v : Int32) : fX7_livingIn t n v L = some (nI (mask (lv S v) 6)) := by
  have h6 := hW.P6
  unfold fX7_livingIn
  refine (lx_for S.P (fun i => (nI (mask (fun p => decide (p < i) && decide (S.wh p = v)) 6), nI i)) ?_ (by rw [FU_20000]; omega) ?_ ?_).trans rfl
  · show (_, _) = (_, _)
    simp only [Nat.not_lt_zero, decide_false, Bool.false_and, mask_zero]; rfl
  · intro i hi
    unfold fX7_livingIn_b4
    have g1 : ¬ S.P ≤ i := by omega
    have v1 : vin (1 : Int32) n = True := vin_t (i := 1) (by omega) (by omega)
    have v2 : (1 : Int32).toNatClampNeg = 1 := by decide
    simp (disch := omega) only [v1, v2, l70, nQ_add, hR.P, nQ_le, g1, lt_eq, gd_true, bd_some, lx_inl, lx_inr, if_true, if_false, vin_t, nI_cl, hR.wh i (by omega), nQ_s, i_or0]
    by_cases c : S.wh i = v
    · rw [if_pos c]
      simp (disch := omega) only [i_shl (n := 6), i_or]
      refine congrArg (fun z => some (Sum.inl (nI z, nI (i + 1)))) (mask_congr 6 fun h _ => ?_)
      by_cases e : h = i
      · subst e; simp [c]
      · have : (h < i + 1) = (h < i) := propext (by omega)
        simp [e, this]
    · rw [if_neg c]
      refine congrArg (fun z => some (Sum.inl (nI z, nI (i + 1)))) (mask_congr 6 fun h _ => ?_)
      by_cases e : h = i
      · subst e; simp [c]
      · have : (h < i + 1) = (h < i) := propext (by omega)
        simp [this]
  · unfold fX7_livingIn_b4
    have v1 : vin (1 : Int32) n = True := vin_t (i := 1) (by omega) (by omega)
    have v2 : (1 : Int32).toNatClampNeg = 1 := by decide
    simp (disch := omega) only [v1, v2, hR.P, nQ_le, Nat.le_refl, if_true, gd_true]
theorem holdsF {p : Nat → Bool} {h : Nat} (hh : h < 6) : fX7_holds (nI (mask p 6)) (nI h) = some (bI (p h)) := by
  unfold fX7_holds
  simp (disch := omega) only [i_bit]
  cases p h <;> rfl
theorem RC.isFeudF (hR : RC L t S) (hW : WF S) (hn : 92 ≤ n) (hn' : n < 1000) (X Y : Nat → Bool) : fX7_isFeud t n (nI (mask X 6)) (nI (mask Y 6)) L = some (bI (fd S X Y)) := by
  have h6 := hW.P6
  have v1 : vin (1 : Int32) n = True := vin_t (i := 1) (by omega) (by omega)
  have v2 : (1 : Int32).toNatClampNeg = 1 := by decide
  unfold fX7_isFeud
  refine (lx_for S.P (fun i => (bI ((List.range i).any fun p => (List.range S.P).any fun q => X p && (Y q && ff S p q)), nI i)) rfl (by rw [FU_20000]; omega) ?_ ?_).trans ?_
  · intro i hi
    unfold fX7_isFeud_b5
    have g1 : ¬ S.P ≤ i := by omega
    simp (disch := omega) only [v1, v2, hR.P, nQ_le, g1, lt_eq, gd_true, bd_some, lx_inl, lx_inr, if_true, if_false, nI_cl]
    rw [any_s]
    generalize ((List.range i).any fun p => (List.range S.P).any fun q => X p && (Y q && ff S p q)) = c0
    refine (lx_for S.P (fun j => (bI (c0 || (List.range j).any fun q => X i && (Y q && ff S i q)), nI j)) ?_ (by rw [FU_20000]; omega) ?_ ?_).trans ?_
    · show (_, _) = (_, _)
      rw [List.range_zero, List.any_nil, Bool.or_false]; rfl
    · intro j hj
      unfold fX7_isFeud_b16 fX7_isFeud_j72
      have g2 : ¬ S.P ≤ j := by omega
      obtain ⟨f, hf, ef⟩ := hW.fa i hi
      obtain ⟨g, hg, eg⟩ := hW.fa j hj
      simp (disch := omega) only [v1, v2, hR.P, nQ_le, g2, lt_eq, gd_true, bd_some, lx_inl, lx_inr, if_true, if_false, holdsF, bI_e0, nQ_s]
      simp (disch := omega) only [l64, l76, l4, nQ_add, nQ_mul, vin_t, lt_eq, gd_true, bd_some, lx_inl, lx_inr, if_true, if_false, nI_cl, hR.fa i (by omega), hR.fa j (by omega), ef, eg, hR.fe f hf g hg, bI_e1]
      rw [any_s]
      generalize ((List.range j).any fun q => X i && (Y q && ff S i q)) = c1
      have e : ff S i j = S.fe f g := by unfold ff; rw [ef, eg, nI_cl (by omega), nI_cl (by omega)]
      rw [e]
      cases c0 <;> cases c1 <;> cases X i <;> cases Y j <;> cases S.fe f g <;> rfl
    · unfold fX7_isFeud_b16
      simp (disch := omega) only [v1, v2, hR.P, nQ_le, Nat.le_refl, if_true, gd_true]
    · simp only [lt_eq, nQ_s]
  · unfold fX7_isFeud_b5
    simp (disch := omega) only [v1, v2, hR.P, nQ_le, Nat.le_refl, if_true, gd_true]
  · rw [gd_of (bI_01 _)]
    rfl
theorem SC.measureDwellersF (hS : SC L b S) (hW : WF S) : ∃ L', fX4_measureDwellers b L = some L' ∧ Fr (fun a => a = b + 12 ∨ a = b + 13) L L' ∧ ∀ h, h < 5 → L'.1 (b + 12) h = nI (lvn S (nI h)) ∧ L'.1 (b + 13) h = nI (mask (fm S h) 4) := by
  have h5 := hW.H5
  have h6 := hW.P6
  have pre : ∀ {L1 : HL}, Fr (fun a => a = b + 12 ∨ a = b + 13) L L1 → SC L1 b S := fun f => hS.frame fun x _ _ => f.1 x (by omega)
  unfold fX4_measureDwellers
  refine lx_inv 5 (fun i s => ∃ L1, s = (nI i, L1) ∧ Fr (fun a => a = b + 12 ∨ a = b + 13) L L1 ∧ ∀ h, h < i → L1.1 (b + 12) h = nI 0 ∧ L1.1 (b + 13) h = nI 0) (by decide) ⟨L, rfl, Fr.refl L, fun h hh => by omega⟩ ?_ ?_ ?_
  · rintro i _ hi ⟨L1, rfl, f, q⟩
    unfold fX4_measureDwellers_b2
    have g1 : ¬ 5 ≤ i := by omega
    simp (disch := omega) only [l5, nQ_le, g1, lt_eq, gd_true, bd_some, lx_inl, lx_inr, if_true, if_false, vin_t, nI_cl, nQ_s]
    refine ⟨_, rfl, _, rfl, (f.wI (.inl rfl) _ _).wI (.inr rfl) _ _, fun h hh => ?_⟩
    by_cases e : h = i
    · subst e; exact ⟨by rw [wQ_ne (by omega), wQ_same]; rfl, wQ_same _ _ _ _⟩
    · rw [wQ_ne (by omega), wQ_other e, wQ_other e, wQ_ne (by omega)]; exact q h (by omega)
  · rintro _ ⟨L1, rfl, -⟩
    rfl
  · rintro _ ⟨L1, rfl, f, q⟩
    refine lx_inv S.P (fun i s => ∃ L1, s = (nI i, L1) ∧ Fr (fun a => a = b + 12 ∨ a = b + 13) L L1 ∧ ∀ h, h < 5 → L1.1 (b + 12) h = nI (ct (fun p => decide (S.wh p = nI h)) i) ∧ L1.1 (b + 13) h = nI (mask (fun f => (List.range i).any fun p => decide (S.wh p = nI h) && decide (S.fa p = nI f)) 4)) (by rw [FU_20000]; omega) ⟨L1, rfl, f, fun h hh => ?_⟩ ?_ ?_ ?_
    · refine ⟨(q h hh).1, (q h hh).2.trans ?_⟩
      show nI 0 = nI (mask (fun _ => false) 4)
      rw [mask_zero]
    · rintro i _ hi ⟨L1, rfl, f, q⟩
      unfold fX4_measureDwellers_b29
      have hS1 := pre f
      have g1 : ¬ S.P ≤ i := by omega
      simp (disch := omega) only [hS1.P, nQ_le, g1, lt_eq, gd_true, bd_some, lx_inl, lx_inr, if_true, if_false, vin_t, nI_cl, hS1.wh i hi, hS1.hasF hW, bI_e0, nQ_s]
      obtain ⟨g, hg, eg⟩ := hW.fa i hi
      rcases hW.wh i hi with e | ⟨x, hx, e⟩
      · rw [if_pos (by rw [e]; unfold hasI; rw [tl_m1]; rfl)]
        refine ⟨_, rfl, _, rfl, f, fun h hh => ?_⟩
        obtain ⟨q1, q2⟩ := q h hh
        have e2 : ¬ S.wh i = nI h := fun c => by rw [e, nI_ne_neg (by omega)] at c; exact c
        refine ⟨q1.trans ?_, q2.trans ?_⟩
        · simp [ct, e2]
        · refine congrArg nI (mask_congr 4 fun f _ => ?_)
          rw [any_s]; simp [e2]
      · rw [if_neg (by rw [e, hasI_n S (by omega)]; simp; omega), e]
        simp (disch := omega) only [vin_t, lt_eq, gd_true, bd_some, lx_inl, lx_inr, if_true, if_false, nI_cl]
        rw [wQ_ne (c := b + 8) (by omega), wQ_ne (c := b + 13) (by omega), hS1.fa i hi, eg, i_shl (n := 4) (by omega) hg, (q x (by omega)).1, (q x (by omega)).2, i_or (by omega), nQ_s]
        refine ⟨_, rfl, _, rfl, (f.wI (.inl rfl) _ _).wI (.inr rfl) _ _, fun h hh => ?_⟩
        by_cases c : h = x
        · subst c
          rw [wQ_ne (c := b + 12) (by omega), wQ_same, wQ_same]
          refine ⟨?_, ?_⟩
          · simp [ct, e]
          · refine congrArg nI (mask_congr 4 fun f hf => ?_)
            rw [any_s, eg, e]
            simp (disch := omega) only [nQ_eq, decide_true, Bool.true_and]
            have : (f == g) = decide (g = f) := by
              by_cases k : f = g
              · subst k; simp
              · rw [decide_eq_false (show ¬ g = f from fun z => k z.symm)]; exact beq_false_of_ne k
            rw [this]
        · rw [wQ_ne (c := b + 12) (by omega), wQ_other c, wQ_other c, wQ_ne (c := b + 13) (by omega)]
          obtain ⟨q1, q2⟩ := q h hh
          have e2 : ¬ S.wh i = nI h := fun k => by rw [e, nQ_eq (by omega) (by omega)] at k; omega
          refine ⟨q1.trans ?_, q2.trans ?_⟩
          · simp [ct, e2]
          · refine congrArg nI (mask_congr 4 fun f _ => ?_)
            rw [any_s]; simp [e2]
    · rintro _ ⟨L1, rfl, f, -⟩
      unfold fX4_measureDwellers_b29
      simp (disch := omega) only [(pre f).P, nQ_le, Nat.le_refl, if_true]
    · rintro _ ⟨L1, rfl, f, q⟩
      exact ⟨_, rfl, f, fun h hh => q h hh⟩
end LIV
