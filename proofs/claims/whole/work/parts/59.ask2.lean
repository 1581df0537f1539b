theorem two_c {S : Sv} {a b : Int32} (h : (hasI S a && (hasI S b && !decide (a = b))) = true) : ∃ j k, j < S.H ∧ k < S.H ∧ j ≠ k ∧ a = nI j ∧ b = nI k := by
  simp only [Bool.and_eq_true, Bool.not_eq_true', decide_eq_false_iff_not] at h
  obtain ⟨cv, cw, cn⟩ := h
  obtain ⟨j, hj, rfl⟩ := hasI_of cv
  obtain ⟨k, hk, rfl⟩ := hasI_of cw
  exact ⟨j, k, hj, hk, fun e => cn (by rw [e]), rfl, rfl⟩
theorem ag_rank (B : Nat) (a b : Int32) : Agree B (fX6_rank B a b) (fX7_rank (B + 178) a b) := fun G hW => by
  have h5 := hW.Q.W.H5
  cases c : (hasI G.S a && (hasI G.S b && !decide (a = b)))
  · refine ⟨-1000, badG G, fun L h => ?_, fun L h => ?_, badG_w hW⟩
    · unfold fX6_rank
      rw [h.Q.S.hasTwoF hW.Q.W, bd_some, c, if_pos (by decide), bd_eta]; exact refK_bad (-1000) L h
    · unfold fX7_rank fX7_rank_j21
      simp only [h.Q.S.isHouseF hW.Q.W, bd_some, bd_eta]
      obtain ⟨z, q⟩ := badJ (m := B + 178) (-1000) L h
      refine ⟨z, ?_, q.2⟩
      cases ca : hasI G.S a
      · rw [if_pos (by decide)]; exact q.1
      cases cb : hasI G.S b
      · rw [if_neg (by decide), if_pos (by decide)]; exact q.1
      by_cases cn : a = b
      · rw [if_neg (by decide), if_neg (by decide), if_pos cn]; exact q.1
      · rw [ca, cb, decide_eq_false cn] at c; cases c
  · obtain ⟨j, k, hj, hk, hjk, rfl, rfl⟩ := two_c c
    refine ⟨if G.S.st j && G.S.st k then rkv G.S (G.S.wl j) j k else 1000, G, fun L h => ?_, fun L h => ?_, hW⟩
    · unfold fX6_rank
      have hS := h.Q.S
      rw [hS.hasTwoF hW.Q.W, bd_some, c, if_neg (by decide), bd_eta]
      unfold fX4_rankOf
      rw [hS.standsF, bd_some, stI_n _ (by omega)]
      cases sj : G.S.st j
      · rw [if_pos (by decide)]; exact ⟨_, rfl, rfl, h, FrK.refl B L⟩
      rw [if_neg (by decide), hS.standsF, bd_some, stI_n _ (by omega)]
      cases sk : G.S.st k
      · rw [if_pos (by decide)]; exact ⟨_, rfl, rfl, h, FrK.refl B L⟩
      rw [if_neg (by decide)]
      obtain ⟨L1, e1, f1, m1⟩ := hS.measureStepsF hW.Q.W hj
      have hS1 : SC L1 (B + 1) G.S := hS.frame fun a _ _ => f1.1 a (by omega)
      obtain ⟨L2, e2, f2, m2⟩ := hS1.measureDwellersF hW.Q.W
      have hS2 : SC L2 (B + 1) G.S := hS1.frame fun a _ _ => f2.1 a (by omega)
      have hM : MR L2 (B + 1) G.S j := ⟨fun h hh => by rw [f2.1 (B + 1 + 11) (by omega)]; exact m1 h hh, m2⟩
      rw [e1, bd_some, e2, bd_some, gd_of (vin_nI (by omega) (by omega)), nI_cl (by omega), hS2.wl j hj, hS2.measuredRankF hW.Q.W hM hj hk, bd_some]
      exact ⟨_, rfl, rfl, h.scrF ((f1.mono fun a h => .inl h).trans (f2.mono fun a h => .inr h) : Fr (SA (B + 1)) L L2) (fun a e => scr_SA e)⟩
    · unfold fX7_rank
      have hR := h.Q.S
      simp only [hR.isHouseF hW.Q.W, bd_some, bd_eta, hasI_n G.S (show j < 2147483648 by omega), hasI_n G.S (show k < 2147483648 by omega), decide_eq_true hj, decide_eq_true hk]
      obtain ⟨q, hq, eq⟩ := hW.Q.W.wl j hj
      rw [if_neg (by decide), if_neg (by decide), if_neg (by rw [nQ_eq (by omega) (by omega)]; exact hjk), l24, nQ_add, gd_of (vin_nI (by omega) (by omega)), nI_cl (by omega), hR.wl j (by omega), eq]
      obtain ⟨z, e1, e2, f⟩ := hR.rankOnF (m := B + 178) (n := 228) hW.Q.W (by omega) (by omega) (by omega) hj hk hq
      exact ⟨z, e1, e2, h.scrF f (fun a e => by omega)⟩
theorem ag_clear (B : Nat) : Agree B (fX6_clear B) (fX7_clear (B + 178)) := fun G hW => by
  refine ⟨nI G.ln, G.set_ln 0, fun L h => ?_, fun L h => ?_, WG.of hW.Q hW.I (Nat.zero_le _) (fun j hj => absurd hj (Nat.not_lt_zero j))⟩
  · unfold fX6_clear
    refine ⟨_, rfl, h.ln, ?_, ((Fr.refl (A := (· = B + 122)) L).wI rfl _ _).K (fun a e => by omega)⟩
    obtain ⟨h1, h2, h3, h4, h5, h6, h7, h8, h9, h10, h11, h12⟩ := h
    have e : ∀ a, a ≠ B + 122 → (wI L (B + 122) 1 0).1 a = L.1 a := fun a ha => wQ_ne ha
    exact KI.of (h1.frame (fun a _ _ => e a (by omega)) (fun a _ _ => e a (by omega))) (by rw [e _ (by omega)]; exact h2) (by rw [e _ (by omega)]; exact h3) (fun k => (h4 k).frame (fun a _ _ => e a (by omega)) (fun a _ _ => e a (by omega))) (fun k => (h5 k).frame (fun a _ _ => e a (by omega)) (fun a _ _ => e a (by omega))) (wQ_same _ _ _ _) (fun j hj => absurd hj (Nat.not_lt_zero j)) h8 h9 (by rw [e _ (by omega)]; exact h10) (by rw [e _ (by omega)]; exact h11) (by rw [e _ (by omega)]; exact h12)
  · unfold fX7_clear
    refine ⟨_, rfl, h.ln, ?_, ((Fr.refl (A := (· = B + 178)) L).wI rfl _ _).J (fun a e => by omega)⟩
    obtain ⟨h1, h2, h3', h4, h5, h6, h7, h8, h9, h10⟩ := h
    have e : ∀ a, a ≠ B + 178 → (wI L (B + 178) 4 0).1 a = L.1 a := fun a ha => wQ_ne ha
    refine JI.of (h1.frame (e _ (by omega))) (by rw [e _ (by omega)]; exact h2) (fun i hi k => ?_) (wQ_same _ _ _ _) (fun j hj => absurd hj (Nat.not_lt_zero j)) h6 h7 (by rw [e _ (by omega)]; exact h8) (by rw [e _ (by omega)]; exact h9) (by rw [e _ (by omega)]; exact h10)
    refine (h3' i hi k).frame ?_
    show (fun q => (wI L (B + 178) 4 0).1 (B + 178 + 2) (228 * i + q)) = fun q => L.1 (B + 178 + 2) (228 * i + q)
    rw [e _ (by omega)]
theorem ag_status (B : Nat) (a : Int32) : Agree B (fX6_status B a) (fX7_status (B + 178) a) := fun G hW => by
  cases c : inb a 0 2
  · have c' := inb_f.mp c
    have n : ∀ k : Nat, k < 3 → ¬ a = nI k := fun k hk e => by rw [e, nI_toI (by omega)] at c'; omega
    refine ⟨-1, badG G, fun L h => ?_, fun L h => ?_, badG_w hW⟩
    · unfold fX6_status
      rw [if_neg (show ¬ a = 0 from n 0 (by omega)), if_neg (show ¬ a = 1 from n 1 (by omega)), if_neg (show ¬ a = 2 from n 2 (by omega)), bd_eta]; exact refK_bad (-1) L h
    · unfold fX7_status
      rw [inF, bd_some, show (0 : Int64).toInt = 0 by decide, show (2 : Int64).toInt = 2 by decide, c, if_pos (by decide), bd_eta]; exact badJ (-1) L h
  · have c' := inb_t.mp c
    obtain ⟨j, hj, rfl⟩ := nI_of_int (v := a) (n := 3) (by omega) (by omega)
    refine ⟨if j = 0 then G.r0 else if j = 1 then G.r1 else G.r2, G, fun L h => ?_, fun L h => ?_, hW⟩
    · unfold fX6_status
      rcases (show j = 0 ∨ j = 1 ∨ j = 2 by omega) with rfl | rfl | rfl
      · rw [if_pos (by decide)]; exact ⟨_, rfl, h.r0, h, FrK.refl B L⟩
      · rw [if_neg (by decide), if_pos (by decide)]; exact ⟨_, rfl, h.r1, h, FrK.refl B L⟩
      · rw [if_neg (by decide), if_neg (by decide), if_pos (by decide)]; exact ⟨_, rfl, h.r2, h, FrK.refl B L⟩
    · unfold fX7_status
      rw [inF, bd_some, show (0 : Int64).toInt = 0 by decide, show (2 : Int64).toInt = 2 by decide, c, if_neg (by decide), gd_of (vin_nI hj (by omega)), nI_cl (by omega)]
      rcases (show j = 0 ∨ j = 1 ∨ j = 2 by omega) with rfl | rfl | rfl
      · exact ⟨_, rfl, h.r0, h, FrJ.refl _ L⟩
      · exact ⟨_, rfl, h.r1, h, FrJ.refl _ L⟩
      · exact ⟨_, rfl, h.r2, h, FrJ.refl _ L⟩
theorem ag_who (B : Nat) (a b : Int32) : Agree B (fX6_who B a b) (fX7_who (B + 178) a b) := fun G hW => by
  have h6 := hW.Q.W.P6
  have bad : (hasI G.S a = hasI G.S a) → (oneI G.S a && inb b 0 1) = false → ∃ r G', OpK (fX6_who B a b) B G r G' ∧ OpJ (fX7_who (B + 178) a b) (B + 178) G r G' ∧ WG G' := by
    intro _ c
    refine ⟨-10, badG G, fun L h => ?_, fun L h => ?_, badG_w hW⟩
    · unfold fX6_who fX6_who_j20
      simp only [h.Q.S.hasOneF hW.Q.W, bd_some, bd_eta, Int32.lt_iff_toInt_lt, Int32.le_iff_toInt_le, tl_0, tl_1]
      obtain ⟨z, q⟩ := refK_bad (B := B) (-10) L h
      refine ⟨z, ?_, q.2⟩
      cases ca : oneI G.S a
      · rw [if_pos (by decide)]; exact q.1
      · rw [ca, Bool.true_and] at c
        have := inb_f.mp c
        rw [if_neg (by decide)]
        by_cases c1 : b.toInt < 0
        · rw [if_pos c1]; exact q.1
        · rw [if_neg c1, if_neg (by omega)]; exact q.1
    · unfold fX7_who fX7_who_j15
      simp only [h.Q.S.isOneF hW.Q.W, isTwoF, bd_some, bd_eta]
      obtain ⟨z, q⟩ := badJ (m := B + 178) (-10) L h
      refine ⟨z, ?_, q.2⟩
      cases ca : oneI G.S a
      · rw [if_pos (by decide)]; exact q.1
      · rw [ca, Bool.true_and] at c
        rw [if_neg (by decide), c, if_pos (by decide)]; exact q.1
  cases c : (oneI G.S a && inb b 0 1)
  · exact bad rfl c
  · rw [Bool.and_eq_true] at c
    obtain ⟨j, hj, rfl⟩ := oneI_of c.1
    have cb := inb_t.mp c.2
    obtain ⟨k, hk, rfl⟩ := nI_of_int (v := b) (n := 2) (by omega) (by omega)
    refine ⟨if k = 0 then G.S.fa j else G.S.wh j, G, fun L h => ?_, fun L h => ?_, hW⟩
    · unfold fX6_who
      rw [h.Q.S.hasOneF hW.Q.W, bd_some, c.1, if_neg (by decide), if_neg (by rw [nI_nlt0 (by omega)]; exact not_false), if_pos (by rw [l1, nQ_le (by omega) (by omega)]; omega)]
      rcases (show k = 0 ∨ k = 1 by omega) with rfl | rfl
      · rw [if_pos (by decide), gd_of (vin_nI (by omega) (by omega)), nI_cl (by omega)]
        exact ⟨_, rfl, h.Q.S.fa j hj, h, FrK.refl B L⟩
      · rw [if_neg (by decide), gd_of (vin_nI (by omega) (by omega)), nI_cl (by omega)]
        exact ⟨_, rfl, h.Q.S.wh j hj, h, FrK.refl B L⟩
    · unfold fX7_who
      rw [h.Q.S.isOneF hW.Q.W, bd_some, c.1, if_neg (by decide), isTwoF, bd_some, c.2, if_neg (by decide), l64, l6, nQ_mul, nQ_add, nQ_add, gd_of (vin_nI (by omega) (by omega)), nI_cl (by omega)]
      rcases (show k = 0 ∨ k = 1 by omega) with rfl | rfl
      · exact ⟨_, rfl, h.Q.S.fa j (by omega), h, FrJ.refl _ L⟩
      · exact ⟨_, rfl, h.Q.S.wh j (by omega), h, FrJ.refl _ L⟩
