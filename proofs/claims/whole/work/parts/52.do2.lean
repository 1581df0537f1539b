def zS : Sv := Sv.of 0 0 0 0 (fun _ => 0) (fun _ => 0) (fun _ => 0) (fun _ => 0) (fun _ => 0) (fun _ => 0) (fun _ => false) (fun _ _ => false) (fun _ => 0) (fun _ => 0) (fun _ _ => false)
section DOD
variable {L : HL} {b : Nat} {S : Sv}
theorem SC.addOneF (hS : SC L b S) (hW : WF S) (v w : Int32) : Do (fX4_addOne b v w L) L b (dOne S v w) := by
  have h6 := hW.P6
  have j41 : Do (fX4_addOne_j41 b v w L) L b (if S.P = 6 then (-4, S) else (nI S.P, newP S v w)) := by
    unfold fX4_addOne_j41
    have ne8 : b ≠ b + 8 := by omega
    have ne9 : b ≠ b + 9 := by omega
    by_cases c : S.P = 6
    · rw [if_neg (by rw [hS.P, l6, nQ_lt (by omega) (by omega)]; omega), if_pos c]; exact Do.same hS _
    · rw [if_pos (by rw [hS.P, l6, nQ_lt (by omega) (by omega)]; omega), if_neg c]
      simp only [lt_eq, wQ_ne ne8, wQ_ne ne9, hS.P, nI_cl (show S.P < 2147483648 by omega), gd_of (vin_nI (show S.P < 6 by omega) (by omega)), wQ_same, nQ_s]
      refine ⟨_, rfl, by show nI (S.P + 1) - nI 1 = nI S.P; rw [nQ_sub (by omega), Nat.add_sub_cancel], ?_, (((Fr.refl L).wI (by unfold SD; omega) _ _).wI (by unfold SD; omega) _ _).wI (by unfold SD; omega) _ _⟩
      refine SC.of ?_ ?_ ?_ ?_ ?_ ?_ ?_ ?_ ?_ ?_ ?_ ?_ ?_ ?_
      · rw [wQ_other (by decide), wQ_ne ne9, wQ_ne ne8]; exact hS.H
      · rw [wQ_other (by decide), wQ_ne ne9, wQ_ne ne8]; exact hS.st
      · rw [wQ_same]; rfl
      · rw [wQ_other (by decide), wQ_ne ne9, wQ_ne ne8]; exact hS.yr
      · rw [wQ_ne (by omega), wQ_ne (by omega), wQ_ne (by omega)]; exact hS.rm
      · rw [wQ_ne (by omega), wQ_ne (by omega), wQ_ne (by omega)]; exact hS.wo
      · rw [wQ_ne (by omega), wQ_ne (by omega), wQ_ne (by omega)]; exact hS.be
      · rw [wQ_ne (by omega), wQ_ne (by omega), wQ_ne (by omega)]; exact hS.fr
      · rw [wQ_ne (by omega), wQ_ne (by omega), wQ_ne (by omega)]; exact hS.wl
      · rw [wQ_ne (by omega), wQ_ne (by omega), wQ_ne (by omega)]; exact hS.mk
      · rw [wQ_ne (by omega), wQ_ne (by omega), wQ_ne (by omega)]; exact hS.wa
      · intro p hp
        show _ = upq S.fa S.P v p
        rw [wQ_ne (by omega), wQ_ne (by omega), wQ_at]
        unfold upq
        rw [if_pos rfl]
        by_cases e : p = S.P
        · rw [if_pos e, if_pos e]
        · rw [if_neg e, if_neg e]; exact hS.fa p (by have : p < S.P + 1 := hp; omega)
      · intro p hp
        show _ = upq S.wh S.P w p
        rw [wQ_ne (by omega), wQ_at]
        unfold upq
        rw [if_pos rfl]
        by_cases e : p = S.P
        · rw [if_pos e, if_pos e]
        · rw [if_neg e, if_neg e, wQ_ne (by omega)]; exact hS.wh p (by have : p < S.P + 1 := hp; omega)
      · rw [wQ_ne (by omega), wQ_ne (by omega), wQ_ne (by omega)]; exact hS.fe
  have j25 : Do (fX4_addOne_j25 b v w L) L b (if decide (w = -1) || stI S w then (if S.P = 6 then (-4, S) else (nI S.P, newP S v w)) else (-3, S)) := by
    unfold fX4_addOne_j25
    by_cases c : w = -1
    · rw [if_pos c, decide_eq_true c, Bool.true_or, if_pos rfl]; exact j41
    · rw [if_neg c, decide_eq_false c, Bool.false_or, hS.standsF, bd_some]
      cases stI S w
      · rw [if_pos (by decide), if_neg (by decide)]; exact Do.same hS _
      · rw [if_neg (by decide), if_pos rfl]; exact j41
  unfold fX4_addOne dOne inb
  simp only [Int32.lt_iff_toInt_lt, Int32.le_iff_toInt_le, tl_0, tl_4]
  by_cases c1 : v.toInt < 0
  · rw [if_pos c1, decide_eq_false (show ¬ 0 ≤ v.toInt by omega), Bool.false_and, Bool.false_and, if_neg (by decide)]; exact Do.same hS _
  rw [if_neg c1, decide_eq_true (show 0 ≤ v.toInt by omega), Bool.true_and]
  by_cases c2 : 4 ≤ v.toInt
  · rw [if_pos c2, decide_eq_false (show ¬ v.toInt ≤ 3 by omega), Bool.false_and, if_neg (by decide)]; exact Do.same hS _
  rw [if_neg c2, decide_eq_true (show v.toInt ≤ 3 by omega), Bool.true_and]
  by_cases c : w = -1
  · rw [if_pos c, decide_eq_true c, Bool.true_or, if_pos rfl]
    rw [decide_eq_true c] at j25
    exact j25
  · rw [if_neg c, decide_eq_false c, Bool.false_or, hS.hasF hW, bd_some]
    rw [decide_eq_false c] at j25
    cases hasI S w
    · rw [if_pos (by decide), if_neg (by decide)]; exact Do.same hS _
    · rw [if_neg (by decide), if_pos rfl]; exact j25
theorem SC.hasFeudF (hS : SC L b S) {j k : Nat} (hj : j < 4) (hk : k < 4) : fX4_hasFeud b (nI j) (nI k) L = some (bI (S.fe j k)) := by
  unfold fX4_hasFeud
  have e : ∀ i, i < 4 → ¬ nI i < 0 ∧ ¬ (4 : Int32) ≤ nI i := fun i hi => ⟨by rw [nI_nlt0 (by omega)]; exact not_false, by rw [l4, nQ_le (by omega) (by omega)]; omega⟩
  rw [if_neg (e j hj).1, if_neg (e j hj).2, if_neg (e k hk).1, if_neg (e k hk).2, gd_of (vin_nI hj (by omega)), nI_cl (by omega), hS.fe j hj]
  by_cases c : S.fe j k = true
  · rw [if_pos ((mask_bit (by omega) hk).mpr c), c]; rfl
  · rw [if_neg (fun e => c ((mask_bit (by omega) hk).mp e))]
    cases h : S.fe j k
    · rfl
    · exact absurd h c
theorem SC.setFeudF (hS : SC L b S) (hW : WF S) (v w : Int32) (is : Bool) : Do (fX4_setFeud b v w (bI is) L) L b (dFeud S v w is) := by
  unfold fX4_setFeud dFeud inb
  simp only [Int32.lt_iff_toInt_lt, Int32.le_iff_toInt_le, tl_0, tl_4]
  by_cases c1 : v.toInt < 0
  · rw [if_pos c1, decide_eq_false (show ¬ 0 ≤ v.toInt by omega), Bool.false_and, Bool.false_and, if_neg (by decide)]; exact Do.same hS _
  rw [if_neg c1, decide_eq_true (show 0 ≤ v.toInt by omega), Bool.true_and]
  by_cases c2 : 4 ≤ v.toInt
  · rw [if_pos c2, decide_eq_false (show ¬ v.toInt ≤ 3 by omega), Bool.false_and, if_neg (by decide)]; exact Do.same hS _
  rw [if_neg c2, decide_eq_true (show v.toInt ≤ 3 by omega), Bool.true_and]
  by_cases c3 : w.toInt < 0
  · rw [if_pos c3, decide_eq_false (show ¬ 0 ≤ w.toInt by omega), Bool.false_and, Bool.false_and, if_neg (by decide)]; exact Do.same hS _
  rw [if_neg c3, decide_eq_true (show 0 ≤ w.toInt by omega), Bool.true_and]
  by_cases c4 : 4 ≤ w.toInt
  · rw [if_pos c4, decide_eq_false (show ¬ w.toInt ≤ 3 by omega), Bool.false_and, if_neg (by decide)]; exact Do.same hS _
  rw [if_neg c4, decide_eq_true (show w.toInt ≤ 3 by omega), Bool.true_and]
  by_cases c5 : v = w
  · rw [if_pos c5, decide_eq_true c5, if_neg (by decide)]; exact Do.same hS _
  rw [if_neg c5, decide_eq_false c5, if_pos (by decide)]
  obtain ⟨j, hj, rfl⟩ := nI_of_int (v := v) (n := 4) (by omega) (by omega)
  obtain ⟨k, hk, rfl⟩ := nI_of_int (v := w) (n := 4) (by omega) (by omega)
  have hjk : j ≠ k := fun e => c5 (by rw [e])
  rw [hS.hasFeudF hj hk, bd_some]
  simp only [nI_cl (show j < 2147483648 by omega), nI_cl (show k < 2147483648 by omega), bI_eq]
  by_cases c2 : S.fe j k = is
  · rw [if_pos c2, if_pos c2]; exact Do.same hS _
  rw [if_neg c2, if_neg c2]
  simp only [gd_of (vin_nI hj (show 4 < 2147483648 by omega)), gd_of (vin_nI hk (show 4 < 2147483648 by omega)), lt_eq]
  refine ⟨_, rfl, rfl, hS.w_fe (fun h hh => ?_) (fun a _ _ h => by rw [wQ_ne h, wQ_ne h]), ((Fr.refl L).wI (by unfold SD; omega) _ _).wI (by unfold SD; omega) _ _⟩
  rw [wQ_other (j := k) (by omega), hS.fe j (by omega), hS.fe k (by omega), i_shl (n := 4) (by omega) (by omega), i_shl (n := 4) (by omega) (by omega), i_xor (by omega), i_xor (by omega)]
  by_cases e : h = k
  · subst e
    rw [wQ_same]
    refine congrArg nI (mask_congr 4 fun i _ => ?_)
    unfold w2
    by_cases e2 : i = j
    · subst e2; rw [if_pos (.inr ⟨rfl, rfl⟩), hW.fs h i]; simp
    · rw [if_neg (by rintro (⟨a, -⟩ | ⟨-, a⟩); exact hjk a.symm; exact e2 a)]; show (S.fe h i != (i == j)) = S.fe h i; rw [beq_false_of_ne e2]; cases S.fe h i <;> rfl
  · rw [wQ_other e]
    by_cases e3 : h = j
    · subst e3
      rw [wQ_same]
      refine congrArg nI (mask_congr 4 fun i _ => ?_)
      unfold w2
      by_cases e2 : i = k
      · subst e2; rw [if_pos (.inl ⟨rfl, rfl⟩)]; simp
      · rw [if_neg (by rintro (⟨-, a⟩ | ⟨a, -⟩); exact e2 a; exact e a)]; show (S.fe h i != (i == k)) = S.fe h i; rw [beq_false_of_ne e2]; cases S.fe h i <;> rfl
    · rw [wQ_other e3, hS.fe h hh]
      refine congrArg nI (mask_congr 4 fun i _ => ?_)
      unfold w2
      rw [if_neg (by rintro (⟨a, -⟩ | ⟨a, -⟩); exact e3 a; exact e a)]
theorem zS_wf : WF zS := WF.of (by decide) (by decide) (fun h e => by cases e) (fun a b e => by cases e) (fun _ _ => rfl) (fun _ => rfl) (fun _ _ => rfl) (fun a b e => by cases e) (fun p hp => by have : p < 0 := hp; omega) (fun p hp => by have : p < 0 := hp; omega) (fun p hp => by have : p < 0 := hp; omega) (fun p hp => by have : p < 0 := hp; omega) (fun p hp => by have : p < 0 := hp; omega) (fun p hp => by have : p < 0 := hp; omega) (fun p hp => by have : p < 0 := hp; omega)
theorem emptyF (L : HL) (b : Nat) : ∃ L', fX4_empty b L = some L' ∧ SC L' b zS ∧ Fr (SD b) L L' := by
  unfold fX4_empty
  simp only [lt_eq]
  have f0 : Fr (SD b) L (wI (wI (wI (wI L b 0 0) b 1 0) b 2 0) b 3 0) := ((((Fr.refl L).wI (by unfold SD; omega) _ _).wI (by unfold SD; omega) _ _).wI (by unfold SD; omega) _ _).wI (by unfold SD; omega) _ _
  have z0 : ∀ k, k < 4 → (wI (wI (wI (wI L b 0 0) b 1 0) b 2 0) b 3 0).1 b k = 0 := by
    intro k hk
    simp only [wQ_at, if_true]
    rcases (show k = 0 ∨ k = 1 ∨ k = 2 ∨ k = 3 by omega) with e | e | e | e <;> subst e <;> rfl
  generalize wI (wI (wI (wI L b 0 0) b 1 0) b 2 0) b 3 0 = L1 at *
  refine lx_inv 5 (fun i s => ∃ L2, s = (nI i, L2) ∧ Fr (SD b) L L2 ∧ (∀ k, k < 4 → L2.1 b k = 0) ∧ ∀ h, h < i → L2.1 (b + 7) h = 0) (by decide) ⟨L1, rfl, f0, z0, fun h hh => by omega⟩ ?_ ?_ ?_
  · rintro i _ hi ⟨L2, rfl, f, z, q⟩
    unfold fX4_empty_b22
    dsimp only
    rw [if_neg (by rw [l5, nQ_le (by omega) (by omega)]; omega), gd_of (vin_nI hi (by omega)), nI_cl (by omega)]
    simp only [lt_eq, nQ_s]
    refine ⟨_, rfl, _, rfl, f.wI (by unfold SD; omega) _ _, fun k hk => by rw [wQ_ne (by omega)]; exact z k hk, fun h hh => ?_⟩
    by_cases e : h = i
    · subst e; exact wQ_same _ _ _ _
    · rw [wQ_other e]; exact q h (by omega)
  · rintro _ ⟨L2, rfl, -⟩; rfl
  · rintro _ ⟨L2, rfl, f, z, q⟩
    refine lx_inv 4 (fun i s => ∃ L2, s = (nI i, L2) ∧ Fr (SD b) L L2 ∧ (∀ k, k < 4 → L2.1 b k = 0) ∧ (∀ h, h < 5 → L2.1 (b + 7) h = 0) ∧ ∀ h, h < i → L2.1 (b + 10) h = 0) (by decide) ⟨L2, rfl, f, z, q, fun h hh => by omega⟩ ?_ ?_ ?_
    · rintro i _ hi ⟨L2, rfl, f, z, q, q'⟩
      unfold fX4_empty_b42
      dsimp only
      rw [if_neg (by rw [l4, nQ_le (by omega) (by omega)]; omega), gd_of (vin_nI hi (by omega)), nI_cl (by omega)]
      simp only [lt_eq, nQ_s]
      refine ⟨_, rfl, _, rfl, f.wI (by unfold SD; omega) _ _, fun k hk => by rw [wQ_ne (by omega)]; exact z k hk, fun k hk => by rw [wQ_ne (by omega)]; exact q k hk, fun h hh => ?_⟩
      by_cases e : h = i
      · subst e; exact wQ_same _ _ _ _
      · rw [wQ_other e]; exact q' h (by omega)
    · rintro _ ⟨L2, rfl, -⟩; rfl
    · rintro _ ⟨L2, rfl, f, z, q, q'⟩
      refine ⟨_, rfl, ?_, f⟩
      have m5 : (0 : Int32) = nI (mask (fun _ => false) 5) := by rw [mask_zero]; rfl
      have m4 : (0 : Int32) = nI (mask (fun _ => false) 4) := by rw [mask_zero]; rfl
      exact SC.of (z 0 (by omega)) ((z 1 (by omega)).trans m5) (z 2 (by omega)) (z 3 (by omega)) (fun p hp => by have : p < 0 := hp; omega) (fun p hp => by have : p < 0 := hp; omega) (fun p hp => by have : p < 0 := hp; omega) (fun p hp => by have : p < 0 := hp; omega) (fun p hp => by have : p < 0 := hp; omega) (fun p hp => by have : p < 0 := hp; omega) (fun h hh => (q h hh).trans m5) (fun p hp => by have : p < 0 := hp; omega) (fun p hp => by have : p < 0 := hp; omega) (fun h hh => (q' h hh).trans m4)
end DOD
