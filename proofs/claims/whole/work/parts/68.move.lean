def mvG (G : Gv) (j : Nat) (b : Int32) : Gv := G.set_S (G.S.set_wh (upq G.S.wh j b))
theorem whS_wf {S : Sv} (w : WF S) {j : Nat} {b : Int32} (hb : b = -1 ∨ ∃ h, h < S.H ∧ b = nI h) : WF (S.set_wh (upq S.wh j b)) := by
  refine WF.of w.H5 w.P6 w.st w.wa w.ws w.fi w.fs w.fm w.fa (fun p hp => ?_) w.wl w.mk w.fr w.wo w.rm
  show upq S.wh j b p = -1 ∨ ∃ h, h < S.H ∧ upq S.wh j b p = nI h
  unfold upq
  by_cases e : p = j
  · rw [if_pos e]; exact hb
  · rw [if_neg e]; exact w.wh p hp
theorem mvG_w {G : Gv} (h : WG G) {j : Nat} {b : Int32} (hb : b = -1 ∨ ∃ h, h < G.S.H ∧ b = nI h) : WG (mvG G j b) := h.streetB (whS_wf h.Q.W hb) rfl rfl rfl
theorem KI.mv {L : HL} {B : Nat} {G : Gv} (k1 : KI L B G) {j : Nat} {b : Int32} : KI (wI L (B + 1 + 9) j b) B (mvG G j b) ∧ FrK B L (wI L (B + 1 + 9) j b) := by
  have q : SC (wI L (B + 1 + 9) j b) (B + 1) (G.S.set_wh (upq G.S.wh j b)) := by
    refine k1.Q.S.w_wh (fun p hp => ?_) (fun a _ _ h => wQ_ne h)
    by_cases e : p = j
    · subst e; rw [wQ_same, upq_s]
    · rw [wQ_other e, upq_o e]; exact k1.Q.S.wh p hp
  exact k1.streetB q ((Fr.refl (A := SB (B + 1)) L).wI (by unfold SB; omega) _ _) rfl rfl rfl
theorem JI.mv {L : HL} {m : Nat} {G : Gv} (k1 : JI L m G) {j : Nat} {b : Int32} (hj : j < 6) : JI (wI L (m + 1) (70 + j) b) m (mvG G j b) ∧ FrJ m L (wI L (m + 1) (70 + j) b) := by
  have q : RC (wI L (m + 1) (70 + j) b) (m + 1) (G.S.set_wh (upq G.S.wh j b)) := by
    refine k1.Q.S.w_wh (fun p hp => ?_) (fun k _ hk => wQ_other (by omega))
    by_cases e : p = j
    · subst e; rw [wQ_same, upq_s]
    · rw [wQ_other (by omega), upq_o e]; exact k1.Q.S.wh p hp
  exact k1.streetB q ((Fr.refl (A := fun a => a = m + 1 ∨ a = m + 8) L).wI (.inl rfl) _ _) (Kp.refl.wI (by omega)) rfl
theorem keepG_wh (G : Gv) : (keepG G).S.wh = G.S.wh := rfl
theorem keepG_H (G : Gv) : (keepG G).S.H = G.S.H := rfl
theorem c70 {j : Nat} (h : j < 6) : ((70 : Int32) + nI j).toNatClampNeg = 70 + j := by rw [l70, nQ_add, nI_cl (by omega)]
theorem ag_move (B : Nat) (a b : Int32) : Agree B (fX6_move B a b) (fX7_move (B + 178) a b) := fun G hW => by
  have h5 := hW.Q.W.H5
  have h6 := hW.Q.W.P6
  cases c : (oneI G.S a && (decide (b = -1) || hasI G.S b))
  · refine ⟨-10, badG G, fun L h => ?_, fun L h => ?_, badG_w hW⟩
    · unfold fX6_move fX6_move_j27
      obtain ⟨z, q⟩ := refK_bad (B := B) (-10) L h
      refine ⟨z, ?_, q.2⟩
      rw [h.Q.S.hasOneF hW.Q.W, bd_some]
      cases ca : oneI G.S a
      · rw [if_pos (by decide), bd_eta]; exact q.1
      · rw [ca, Bool.true_and, Bool.or_eq_false_iff, decide_eq_false_iff_not] at c
        rw [if_neg (by decide), if_neg c.1, h.Q.S.hasF hW.Q.W, bd_some, c.2, if_pos (by decide), bd_eta]; exact q.1
    · unfold fX7_move fX7_move_j21
      obtain ⟨z, q⟩ := badJ (m := B + 178) (-10) L h
      refine ⟨z, ?_, q.2⟩
      rw [h.Q.S.isOneF hW.Q.W, bd_some]
      cases ca : oneI G.S a
      · rw [if_pos (by decide), bd_eta]; exact q.1
      · rw [ca, Bool.true_and, Bool.or_eq_false_iff, decide_eq_false_iff_not] at c
        rw [if_neg (by decide), if_neg c.1, h.Q.S.isHouseF hW.Q.W, bd_some, c.2, if_pos (by decide), bd_eta]; exact q.1
  rw [Bool.and_eq_true] at c
  obtain ⟨ca, cb⟩ := c
  obtain ⟨j, hj, rfl⟩ := oneI_of ca
  have K : ∀ L, KI L B G → fX6_move B (nI j) b L = fX6_move_j36 B (nI j) b L := by
    intro L h
    unfold fX6_move
    rw [h.Q.S.hasOneF hW.Q.W, bd_some, ca, if_neg (by decide)]
    by_cases e : b = -1
    · rw [if_pos e]
    · rw [decide_eq_false e, Bool.false_or] at cb
      rw [if_neg e, h.Q.S.hasF hW.Q.W, bd_some, cb, if_neg (by decide)]
  have J : ∀ L, JI L (B + 178) G → fX7_move (B + 178) (nI j) b L = fX7_move_j28 (B + 178) (nI j) b L := by
    intro L h
    unfold fX7_move
    rw [h.Q.S.isOneF hW.Q.W, bd_some, ca, if_neg (by decide)]
    by_cases e : b = -1
    · rw [if_pos e]
    · rw [decide_eq_false e, Bool.false_or] at cb
      rw [if_neg e, h.Q.S.isHouseF hW.Q.W, bd_some, cb, if_neg (by decide)]
  have K65 : ∀ L, KI L B G → ∃ z, fX6_move_j65 B L = some z ∧ z.1 = -20 ∧ KI z.2 B (noG G) ∧ FrK B L z.2 := fun L h => by
    unfold fX6_move_j65; rw [bd_eta]; exact refK_no (-20) L h
  have J58 : ∀ L, JI L (B + 178) G → ∃ z, fX7_move_j58 (B + 178) L = some z ∧ z.1 = -20 ∧ JI z.2 (B + 178) (noG G) ∧ FrJ (B + 178) L z.2 := fun L h => by
    unfold fX7_move_j58; rw [bd_eta]; exact noJ (-20) L h
  -- past the question whether the house stands
  have v70 : vin ((70 : Int32) + nI j) 228 := by rw [l70, nQ_add]; exact vin_nI (by omega) (by omega)
  have c70 : ((70 : Int32) + nI j).toNatClampNeg = 70 + j := c70 (by omega)
  have cj : (nI j).toNatClampNeg = j := nI_cl (by omega)
  have K36 : (decide (b = -1) || stI G.S b) = true → ∀ L, KI L B G → fX6_move_j36 B (nI j) b L = fX6_move_j52 B (nI j) b L := by
    intro e L h
    unfold fX6_move_j36
    by_cases e1 : b = -1
    · rw [if_pos e1]
    · rw [decide_eq_false e1, Bool.false_or] at e
      rw [if_neg e1, h.Q.S.standsF, bd_some, e, if_neg (by decide)]
  have J28 : (decide (b = -1) || stI G.S b) = true → ∀ L, JI L (B + 178) G → fX7_move_j28 (B + 178) (nI j) b L = fX7_move_j45 (B + 178) (nI j) b L := by
    intro e L h
    unfold fX7_move_j28
    by_cases e1 : b = -1
    · rw [if_pos e1]
    · rw [decide_eq_false e1, Bool.false_or] at e cb
      obtain ⟨k, hk, rfl⟩ := hasI_of cb
      rw [stI_n _ (by omega)] at e
      have rd : L.1 (B + 178 + 1) ((29 : Int32) + nI k).toNatClampNeg = bI (G.S.st k) := by rw [l29, nQ_add, nI_cl (by omega)]; exact h.Q.S.st k (by omega)
      rw [if_neg e1, gd_of (by rw [l29, nQ_add]; exact vin_nI (by omega) (by omega)), rd, e, if_neg (by decide)]
  cases cs : (decide (b = -1) || stI G.S b)
  · rw [Bool.or_eq_false_iff, decide_eq_false_iff_not] at cs
    rw [decide_eq_false cs.1, Bool.false_or] at cb
    refine ⟨-20, noG G, fun L h => ?_, fun L h => ?_, noG_w hW⟩
    · rw [K L h]; unfold fX6_move_j36
      rw [if_neg cs.1, h.Q.S.standsF, bd_some, cs.2, if_pos (by decide)]; exact K65 L h
    · rw [J L h]; unfold fX7_move_j28
      obtain ⟨k, hk, rfl⟩ := hasI_of cb
      have e := cs.2
      rw [stI_n _ (by omega)] at e
      have rd : L.1 (B + 178 + 1) ((29 : Int32) + nI k).toNatClampNeg = bI (G.S.st k) := by rw [l29, nQ_add, nI_cl (by omega)]; exact h.Q.S.st k (by omega)
      rw [if_neg cs.1, gd_of (by rw [l29, nQ_add]; exact vin_nI (by omega) (by omega)), rd, e, if_pos (by decide)]; exact J58 L h
  by_cases same : G.S.wh j = b
  · refine ⟨-20, noG G, fun L h => ?_, fun L h => ?_, noG_w hW⟩
    · rw [K L h, K36 cs L h]; unfold fX6_move_j52
      rw [gd_of (vin_nI (by omega) (by omega)), show L.1 (B + 1 + 9) (nI j).toNatClampNeg = G.S.wh j by rw [cj]; exact h.Q.S.wh j hj, if_pos same]; exact K65 L h
    · rw [J L h, J28 cs L h]; unfold fX7_move_j45
      rw [gd_of v70, show L.1 (B + 178 + 1) ((70 : Int32) + nI j).toNatClampNeg = G.S.wh j by rw [c70]; exact h.Q.S.wh j (by omega), if_pos same]; exact J58 L h
  have hb : b = -1 ∨ ∃ h, h < (keepG G).S.H ∧ b = nI h := by
    rw [keepG_H]
    by_cases e1 : b = -1
    · exact .inl e1
    · rw [decide_eq_false e1, Bool.false_or] at cb
      exact .inr (hasI_of cb)
  refine ⟨G.S.wh j, mvG (keepG G) j b, fun L h => ?_, fun L h => ?_, mvG_w (keepG_w hW) hb⟩
  · rw [K L h, K36 cs L h]; unfold fX6_move_j52
    obtain ⟨L1, e1, k1, f1⟩ := h.keep hW
    have rd : L.1 (B + 1 + 9) (nI j).toNatClampNeg = G.S.wh j := by rw [cj]; exact h.Q.S.wh j hj
    rw [gd_of (vin_nI (by omega) (by omega)), rd, if_neg same, gd_of (vin_nI (by omega) (by omega)), lt_eq, e1, bd_some, gd_of (vin_nI (by omega) (by omega)), lt_eq, cj]
    obtain ⟨k2, f2⟩ := k1.mv (j := j) (b := b)
    exact ⟨_, rfl, rfl, k2, f1.trans f2⟩
  · rw [J L h, J28 cs L h]; unfold fX7_move_j45
    obtain ⟨L1, e1, k1, f1⟩ := h.keep hW
    have rd : L.1 (B + 178 + 1) ((70 : Int32) + nI j).toNatClampNeg = G.S.wh j := by rw [c70]; exact h.Q.S.wh j (by omega)
    have rd1 : L1.1 (B + 178 + 1) (70 + j) = G.S.wh j := by rw [← keepG_wh]; exact k1.Q.S.wh j (by omega)
    rw [gd_of v70, rd, if_neg same, e1, bd_some, gd_of v70, lt_eq, gd_of v70, lt_eq, c70, rd1]
    obtain ⟨k2, f2⟩ := k1.mv (j := j) (b := b) (by omega)
    exact ⟨_, rfl, rfl, k2, f1.trans f2⟩
