/-! ===== what comes ===== -/
def yrs (S : Sv) : Nat → Sv
  | 0 => S
  | n + 1 => yearS (yrs S n)
theorem yrs_wf {S : Sv} (hW : WF S) : ∀ n, WF (yrs S n) ∧ (yrs S n).H = S.H ∧ (yrs S n).P = S.P
  | 0 => ⟨hW, rfl, rfl⟩
  | n + 1 => by
    obtain ⟨h1, h2, h3⟩ := yrs_wf hW n
    exact ⟨yearS_wf h1, (yearS_H h1).trans h2, (yearS_P h1).trans h3⟩
section AHD
variable {L : HL} {B m t n : Nat} {S : Sv}
theorem lookAheadF (hS : SC L (B + 1) S) (hW : WF S) {k : Nat} (hk : k < 1000) : ∃ L', fX6_lookAhead B (nI k) L = some L' ∧ SC L' (B + 15) (yrs S k) ∧ Fr (fun a => B + 15 ≤ a ∧ a < B + 29) L L' := by
  unfold fX6_lookAhead
  obtain ⟨L1, e1, h1, f1⟩ := hS.takeFromF (a0 := B + 15) hW (.inr (by omega))
  rw [e1, bd_some]
  refine lx_inv k (fun i s => ∃ L2, s = (nI i, L2) ∧ SC L2 (B + 15) (yrs S i) ∧ Fr (fun a => B + 15 ≤ a ∧ a < B + 29) L L2) (by rw [FU_20000]; omega) ⟨L1, rfl, h1, f1.mono fun a h => by omega⟩ ?_ ?_ ?_
  · rintro i _ hi ⟨L2, rfl, q, f⟩
    unfold fX6_lookAhead_b13
    dsimp only
    obtain ⟨L3, e3, q3, f3⟩ := q.passYearF (yrs_wf hW i).1
    rw [if_neg (by rw [nQ_le (by omega) (by omega)]; omega), e3, bd_some]
    simp only [lt_eq, nQ_s]
    exact ⟨_, rfl, L3, rfl, q3, f.trans (f3.mono fun a h => by unfold SB at h; omega)⟩
  · rintro _ ⟨L2, rfl, -⟩
    unfold fX6_lookAhead_b13
    dsimp only
    rw [if_pos (by rw [nQ_le (by omega) (by omega)]; omega)]
  · rintro _ ⟨L2, rfl, q⟩
    exact ⟨_, rfl, q⟩
theorem goYearsF (hR : RC L (m + 1) S) (hW : WF S) {k : Nat} (hk : k < 1000) : ∃ L', fX7_goYears m (nI k) L = some L' ∧ RC L' (m + 9) (yrs S k) ∧ Fr (fun a => a = m + 9 ∨ a = m + 8) L L' := by
  unfold fX7_goYears
  obtain ⟨L1, e1, h1, f1⟩ := hR.layDayF
  rw [e1, bd_some]
  refine lx_inv k (fun i s => ∃ L2, s = (nI i, L2) ∧ RC L2 (m + 9) (yrs S i) ∧ Fr (fun a => a = m + 9 ∨ a = m + 8) L L2) (by rw [FU_20000]; omega) ⟨L1, rfl, h1, f1.mono fun a h => .inl h⟩ ?_ ?_ ?_
  · rintro i _ hi ⟨L2, rfl, q, f⟩
    unfold fX7_goYears_b6
    dsimp only
    obtain ⟨L3, e3, q3, f3, -⟩ := q.yearGoesF (m := m) (n := 92) (yrs_wf hW i).1 (by omega) (by omega) (by omega)
    rw [if_neg (by rw [nQ_le (by omega) (by omega)]; omega), e3, bd_some]
    simp only [lt_eq, nQ_s]
    exact ⟨_, rfl, L3, rfl, q3, f.trans f3⟩
  · rintro _ ⟨L2, rfl, -⟩
    unfold fX7_goYears_b6
    dsimp only
    rw [if_pos (by rw [nQ_le (by omega) (by omega)]; omega)]
  · rintro _ ⟨L2, rfl, q⟩
    exact ⟨_, rfl, q⟩
theorem bshl : ∀ h, h < 6 → ∀ p : Bool, bI p <<< (nI h &&& 31) = nI (if p then 2 ^ h else 0) := by decide +kernel
theorem RC.standingF (hR : RC L t S) (hW : WF S) (hn : 92 ≤ n) (hn' : n < 1000) : fX7_standing t n L = some (nI (mask S.st 5)) := by
  have h5 := hW.H5
  have v0 : vin (0 : Int32) n := vin_nI (i := 0) (by omega) (by omega)
  unfold fX7_standing
  have e : mask S.st 5 = mask (fun h => decide (h < S.H) && S.st h) 5 := mask_congr 5 fun h _ => by
    by_cases c : h < S.H
    · simp [c]
    · cases s : S.st h
      · simp
      · exact absurd (hW.st h s) c
  rw [e]
  refine (lx_for S.H (fun i => (nI (mask (fun h => decide (h < i) && S.st h) 5), nI i)) ?_ (by rw [FU_20000]; omega) ?_ ?_).trans rfl
  · show (_, _) = (_, _)
    simp only [Nat.not_lt_zero, decide_false, Bool.false_and, mask_zero]; rfl
  · intro i hi
    unfold fX7_standing_b4
    dsimp only
    have rd : L.1 t ((29 : Int32) + nI i).toNatClampNeg = bI (S.st i) := by rw [l29, nQ_add, nI_cl (by omega)]; exact hR.st i (by omega)
    rw [gd_of v0, c0q, hR.H, if_neg (by rw [nQ_le (by omega) (by omega)]; omega), gd_of (by rw [l29, nQ_add]; exact vin_nI (by omega) (by omega)), rd, bshl i (by omega)]
    simp only [lt_eq, nQ_s]
    have e2 : (if S.st i then 2 ^ i else 0) = mask (fun h => (h == i) && S.st i) 5 := by
      cases S.st i
      · simp [mask_zero]
      · simp only [if_true, Bool.and_true]; exact mask_one (by omega) (by omega)
    rw [e2, i_or (by omega)]
    refine congrArg (fun z => some (Sum.inl (nI z, nI (i + 1)))) (mask_congr 5 fun h _ => ?_)
    by_cases e : h = i
    · subst e; simp
    · have : (h < i + 1) = (h < i) := propext (by omega)
      simp [e, this]
  · unfold fX7_standing_b4
    rw [gd_of v0, c0q, hR.H, if_pos (by rw [nQ_le (by omega) (by omega)]; omega)]
end AHD
theorem ag_stand (B : Nat) (a : Int32) : Agree B (fX6_stand B a) (fX7_stand (B + 178) a) := fun G hW => by
  cases c : inb a 0 60
  · have c' := inb_f.mp c
    refine ⟨-2, badG G, fun L h => ?_, fun L h => ?_, badG_w hW⟩
    · unfold fX6_stand fX6_stand_j10
      simp only [bd_eta, Int32.lt_iff_toInt_lt, Int32.le_iff_toInt_le, tl_0, tl_60]
      obtain ⟨z, q⟩ := refK_bad (B := B) (-2) L h
      refine ⟨z, ?_, q.2⟩
      by_cases c1 : a.toInt < 0
      · rw [if_pos c1]; exact q.1
      · rw [if_neg c1, if_neg (by omega)]; exact q.1
    · unfold fX7_stand
      rw [inF, bd_some, show (0 : Int64).toInt = 0 by decide, show (60 : Int64).toInt = 60 by decide, c, if_pos (by decide), bd_eta]; exact badJ (-2) L h
  · have c' := inb_t.mp c
    obtain ⟨k, hk, rfl⟩ := nI_of_int (v := a) (n := 61) (by omega) (by omega)
    refine ⟨nI (mask (yrs G.S k).st 5), G, fun L h => ?_, fun L h => ?_, hW⟩
    · unfold fX6_stand
      obtain ⟨L1, e1, q1, f1⟩ := lookAheadF h.Q.S hW.Q.W (k := k) (by omega)
      rw [if_neg (by rw [nI_nlt0 (by omega)]; exact not_false), if_pos (by rw [l60, nQ_le (by omega) (by omega)]; omega), e1, bd_some]
      exact ⟨_, rfl, q1.st, h.scrF f1 (fun a e => by unfold scr; omega)⟩
    · unfold fX7_stand
      obtain ⟨L1, e1, q1, f1⟩ := goYearsF (m := B + 178) h.Q.S hW.Q.W (k := k) (by omega)
      rw [inF, bd_some, show (0 : Int64).toInt = 0 by decide, show (60 : Int64).toInt = 60 by decide, c, if_neg (by decide), e1, bd_some, q1.standingF (yrs_wf hW.Q.W k).1 (by omega) (by omega), bd_some]
      exact ⟨_, rfl, rfl, h.scrF f1 (fun a e => by omega)⟩
theorem ag_lives (B : Nat) (a b : Int32) : Agree B (fX6_lives B a b) (fX7_lives (B + 178) a b) := fun G hW => by
  have h6 := hW.Q.W.P6
  cases c : (oneI G.S a && inb b 0 60)
  · refine ⟨-10, badG G, fun L h => ?_, fun L h => ?_, badG_w hW⟩
    · unfold fX6_lives fX6_lives_j21
      simp only [h.Q.S.hasOneF hW.Q.W, bd_some, bd_eta, Int32.lt_iff_toInt_lt, Int32.le_iff_toInt_le, tl_0, tl_60]
      obtain ⟨z, q⟩ := refK_bad (B := B) (-10) L h
      refine ⟨z, ?_, q.2⟩
      cases ca : oneI G.S a
      · rw [if_pos (by decide)]; exact q.1
      · rw [ca, Bool.true_and] at c
        have := inb_f.mp c
        rw [if_neg (by decide)]
        by_cases c1 : b.toInt < 0
        · rw [if_pos c1]; exact q.1
        · rw [if_neg c1, if_neg (by omega)]; exact q.1
    · unfold fX7_lives fX7_lives_j20
      simp only [h.Q.S.isOneF hW.Q.W, inF, bd_some, bd_eta]
      obtain ⟨z, q⟩ := badJ (m := B + 178) (-10) L h
      refine ⟨z, ?_, q.2⟩
      cases ca : oneI G.S a
      · rw [if_pos (by decide)]; exact q.1
      · rw [ca, Bool.true_and] at c
        rw [if_neg (by decide), show (0 : Int64).toInt = 0 by decide, show (60 : Int64).toInt = 60 by decide, c, if_pos (by decide)]; exact q.1
  · rw [Bool.and_eq_true] at c
    obtain ⟨j, hj, rfl⟩ := oneI_of c.1
    have cb := inb_t.mp c.2
    obtain ⟨k, hk, rfl⟩ := nI_of_int (v := b) (n := 61) (by omega) (by omega)
    have eP := (yrs_wf hW.Q.W k).2.2
    refine ⟨(yrs G.S k).wh j, G, fun L h => ?_, fun L h => ?_, hW⟩
    · unfold fX6_lives
      obtain ⟨L1, e1, q1, f1⟩ := lookAheadF h.Q.S hW.Q.W (k := k) (by omega)
      rw [h.Q.S.hasOneF hW.Q.W, bd_some, c.1, if_neg (by decide), if_neg (by rw [nI_nlt0 (by omega)]; exact not_false), if_pos (by rw [l60, nQ_le (by omega) (by omega)]; omega), e1, bd_some, gd_of (vin_nI (by omega) (by omega)), nI_cl (by omega)]
      exact ⟨_, rfl, q1.wh j (by omega), h.scrF f1 (fun a e => by unfold scr; omega)⟩
    · unfold fX7_lives
      obtain ⟨L1, e1, q1, f1⟩ := goYearsF (m := B + 178) h.Q.S hW.Q.W (k := k) (by omega)
      rw [h.Q.S.isOneF hW.Q.W, bd_some, c.1, if_neg (by decide), inF, bd_some, show (0 : Int64).toInt = 0 by decide, show (60 : Int64).toInt = 60 by decide, c.2, if_neg (by decide), e1, bd_some, l70, nQ_add, gd_of (vin_nI (by omega) (by omega)), nI_cl (by omega)]
      exact ⟨_, rfl, q1.wh j (by omega), h.scrF f1 (fun a e => by omega)⟩
