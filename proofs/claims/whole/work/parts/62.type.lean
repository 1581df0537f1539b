theorem l150 : (150 : Int32) = nI 150 := rfl
theorem ag_type (B : Nat) (a : Int32) : Agree B (fX6_type B a) (fX7_type (B + 178) a) := fun G hW => by
  have hl := hW.ln
  cases c : inb a 0 127
  · have c' := inb_f.mp c
    refine ⟨-2, badG G, fun L h => ?_, fun L h => ?_, badG_w hW⟩
    · unfold fX6_type fX6_type_j10
      simp only [bd_eta, Int32.lt_iff_toInt_lt, Int32.le_iff_toInt_le, tl_0, tl_127]
      obtain ⟨z, q⟩ := refK_bad (B := B) (-2) L h
      refine ⟨z, ?_, q.2⟩
      by_cases c1 : a.toInt < 0
      · rw [if_pos c1]; exact q.1
      · rw [if_neg c1, if_neg (by omega)]; exact q.1
    · unfold fX7_type
      rw [inF, bd_some, show (0 : Int64).toInt = 0 by decide, show (127 : Int64).toInt = 127 by decide, c, if_pos (by decide), bd_eta]; exact badJ (-2) L h
  have c' := inb_t.mp c
  have a0 : ¬ a < 0 := by rw [Int32.lt_iff_toInt_lt, tl_0]; omega
  have a1 : a ≤ 127 := by rw [Int32.le_iff_toInt_le, tl_127]; omega
  by_cases full : G.ln = 150
  · refine ⟨-4, fullG G, fun L h => ?_, fun L h => ?_, fullG_w hW⟩
    · unfold fX6_type
      rw [if_neg a0, if_pos a1, if_neg (by rw [h.ln, l150, nQ_lt (by omega) (by omega)]; omega), bd_eta]; exact refK_full (-4) L h
    · unfold fX7_type
      rw [inF, bd_some, show (0 : Int64).toInt = 0 by decide, show (127 : Int64).toInt = 127 by decide, c, if_neg (by decide), if_pos (by rw [h.ln, full]; rfl), bd_eta]; exact tellJ_full L h
  obtain ⟨k, hk, rfl⟩ := nI_of_int (v := a) (n := 128) (by omega) (by omega)
  have by_ : ∀ (r : Nat → Int32) (j : Nat), (∀ j, j < G.ln → r j = nI (G.by j)) → j < G.ln + 1 → (if j = G.ln then nI k else r j) = nI (upq G.by G.ln k j) := by
    intro r j hr hj
    unfold upq
    by_cases e : j = G.ln
    · rw [if_pos e, if_pos e]
    · rw [if_neg e, if_neg e]; exact hr j (by omega)
  refine ⟨nI (G.ln + 1), (G.set_ln (G.ln + 1)).set_by (upq G.by G.ln k), fun L h => ?_, fun L h => ?_, WG.of hW.Q hW.I (show G.ln + 1 ≤ 150 by omega) (fun j hj => ?_)⟩
  · unfold fX6_type fX5_append
    rw [bd_eta, if_neg a0, if_pos a1, h.ln, if_pos (by rw [l150, nQ_lt (by omega) (by omega)]; omega), if_pos (by rw [l150, nQ_lt (by omega) (by omega)]; omega), gd_of (vin_nI (by omega) (by omega)), lt_eq, lt_eq, nI_cl (by omega), wQ_ne (show B + 122 ≠ B + 122 + 1 by omega), h.ln, nQ_s]
    refine ⟨_, rfl, wQ_same _ _ _ _, ?_, (((Fr.refl (A := fun a => a = B + 122 ∨ a = B + 123) L).wI (.inr rfl) _ _).wI (.inl rfl) _ _).K (fun a e => by omega)⟩
    obtain ⟨h1, h2, h3, h4, h5, h6, h7, h8, h9, h10, h11, h12⟩ := h
    have e : ∀ a, a ≠ B + 122 → a ≠ B + 123 → (wI (wI L (B + 122 + 1) G.ln (nI k)) (B + 122) 1 (nI (G.ln + 1))).1 a = L.1 a := fun a ha hb => by rw [wQ_ne ha, wQ_ne hb]
    refine KI.of (h1.frame (fun a _ _ => e a (by omega) (by omega)) (fun a _ _ => e a (by omega) (by omega))) (by rw [e _ (by omega) (by omega)]; exact h2) (by rw [e _ (by omega) (by omega)]; exact h3) (fun k => (h4 k).frame (fun a _ _ => e a (by omega) (by omega)) (fun a _ _ => e a (by omega) (by omega))) (fun k => (h5 k).frame (fun a _ _ => e a (by omega) (by omega)) (fun a _ _ => e a (by omega) (by omega))) (wQ_same _ _ _ _) (fun j hj => ?_) h8 h9 (by rw [e _ (by omega) (by omega)]; exact h10) (by rw [e _ (by omega) (by omega)]; exact h11) (by rw [e _ (by omega) (by omega)]; exact h12)
    rw [wQ_ne (by omega), wQ_at, if_pos rfl]
    exact by_ _ j h7 hj
  · unfold fX7_type
    rw [inF, bd_some, show (0 : Int64).toInt = 0 by decide, show (127 : Int64).toInt = 127 by decide, c, if_neg (by decide), h.ln, if_neg (by rw [l150, nQ_eq (by omega) (by omega)]; exact full), gd_of (vin_nI (by omega) (by omega)), lt_eq, lt_eq, nI_cl (by omega), wQ_ne (show B + 178 ≠ B + 178 + 4 by omega), h.ln, nQ_s]
    refine ⟨_, rfl, wQ_same _ _ _ _, ?_, (((Fr.refl (A := fun a => a = B + 178 ∨ a = B + 178 + 4) L).wI (.inr rfl) _ _).wI (.inl rfl) _ _).J (fun a e => by omega)⟩
    obtain ⟨h1, h2, h3', h4, h5, h6, h7, h8, h9, h10⟩ := h
    have e : ∀ a, a ≠ B + 178 → a ≠ B + 178 + 4 → (wI (wI L (B + 178 + 4) G.ln (nI k)) (B + 178) 4 (nI (G.ln + 1))).1 a = L.1 a := fun a ha hb => by rw [wQ_ne ha, wQ_ne hb]
    refine JI.of (h1.frame (e _ (by omega) (by omega))) (by rw [e _ (by omega) (by omega)]; exact h2) (fun i hi k' => ?_) (wQ_same _ _ _ _) (fun j hj => ?_) h6 h7 (by rw [e _ (by omega) (by omega)]; exact h8) (by rw [e _ (by omega) (by omega)]; exact h9) (by rw [e _ (by omega) (by omega)]; exact h10)
    · refine (h3' i hi k').frame ?_
      show (fun q => (wI (wI L (B + 178 + 4) G.ln (nI k)) (B + 178) 4 (nI (G.ln + 1))).1 (B + 178 + 2) (228 * i + q)) = fun q => L.1 (B + 178 + 2) (228 * i + q)
      rw [e _ (by omega) (by omega)]
    · rw [wQ_ne (by omega), wQ_at, if_pos rfl]
      exact by_ _ j h5 hj
  · have hj : j < G.ln + 1 := hj
    show upq G.by G.ln k j < 128
    unfold upq
    by_cases e : j = G.ln
    · rw [if_pos e]; exact hk
    · rw [if_neg e]; exact hW.by j (by omega)
theorem ag_of (B : Nat) (a b : Int32) : Agree B (fX6_of B a b) (fX7_of (B + 178) a b) := fun G hW => by
  have h5 := hW.Q.W.H5
  cases c : (hasI G.S a && inb b 0 7)
  · refine ⟨-10, badG G, fun L h => ?_, fun L h => ?_, badG_w hW⟩
    · unfold fX6_of
      rw [h.Q.S.hasF hW.Q.W, bd_some]
      cases ca : hasI G.S a
      · rw [if_pos (by decide), bd_eta]; exact refK_bad (-10) L h
      · rw [ca, Bool.true_and] at c
        have c' := inb_f.mp c
        have n : ∀ k : Nat, k < 8 → ¬ b = nI k := fun k hk e => by rw [e, nI_toI (by omega)] at c'; omega
        rw [if_neg (by decide), if_neg (show ¬ b = 0 from n 0 (by omega)), if_neg (show ¬ b = 1 from n 1 (by omega)), if_neg (show ¬ b = 2 from n 2 (by omega)), if_neg (show ¬ b = 3 from n 3 (by omega)), if_neg (show ¬ b = 4 from n 4 (by omega)), if_neg (show ¬ b = 5 from n 5 (by omega)), if_neg (show ¬ b = 6 from n 6 (by omega)), if_neg (show ¬ b = 7 from n 7 (by omega)), bd_eta]
        exact refK_bad (-10) L h
    · unfold fX7_of fX7_of_j20
      rw [h.Q.S.isHouseF hW.Q.W, bd_some]
      cases ca : hasI G.S a
      · rw [if_pos (by decide), bd_eta]; exact badJ (-10) L h
      · rw [ca, Bool.true_and] at c
        rw [if_neg (by decide), inF, bd_some, show (0 : Int64).toInt = 0 by decide, show (7 : Int64).toInt = 7 by decide, c, if_pos (by decide), bd_eta]; exact badJ (-10) L h
  · rw [Bool.and_eq_true] at c
    obtain ⟨j, hj, rfl⟩ := hasI_of c.1
    have cb := inb_t.mp c.2
    obtain ⟨k, hk, rfl⟩ := nI_of_int (v := b) (n := 8) (by omega) (by omega)
    have K : ∀ r, (∀ L, KI L B G → fX6_of B (nI j) (nI k) L = some (r, L)) → OpK (fX6_of B (nI j) (nI k)) B G r G := fun r q L h => ⟨_, q L h, rfl, h, FrK.refl B L⟩
    have J : ∀ r, (∀ L, JI L (B + 178) G → fX7_of (B + 178) (nI j) (nI k) L = some (r, L)) → OpJ (fX7_of (B + 178) (nI j) (nI k)) (B + 178) G r G := fun r q L h => ⟨_, q L h, rfl, h, FrJ.refl _ L⟩
    have j62 : ∀ (L : HL) (q : Nat), q < 8 → fX7_of_j62 (B + 178) (nI j) 4 5 (nI q) L = some (L.1 (B + 178 + 1) (4 + 5 * q + j), L) := by
      intro L q hq
      unfold fX7_of_j62
      rw [l4, l5, nQ_mul, nQ_add, nQ_add, gd_of (vin_nI (by omega) (by omega)), nI_cl (by omega)]
    have pre6 : ∀ L, KI L B G → fX4_has (B + 1) (nI j) L = some 1 := fun L h => by rw [h.Q.S.hasF hW.Q.W, c.1]; rfl
    have pre7 : ∀ L, JI L (B + 178) G → fX7_isHouse (B + 178) (nI j) L = some 1 := fun L h => by rw [h.Q.S.isHouseF hW.Q.W, c.1]; rfl
    have in7 : fX7_in (nI k).toInt64 0 7 = some 1 := by rw [inF, show (0 : Int64).toInt = 0 by decide, show (7 : Int64).toInt = 7 by decide, c.2]; rfl
    have vj : vin (nI j) 5 := vin_nI (by omega) (by omega)
    have cj : (nI j).toNatClampNeg = j := nI_cl (by omega)
    rcases (show k = 0 ∨ k = 1 ∨ k = 2 ∨ k = 3 ∨ k = 4 ∨ k = 5 ∨ k = 6 ∨ k = 7 by omega) with rfl | rfl | rfl | rfl | rfl | rfl | rfl | rfl
    · refine ⟨_, _, K (G.S.rm j) fun L h => ?_, J (G.S.rm j) fun L h => ?_, hW⟩
      · unfold fX6_of; rw [pre6 L h, bd_some, if_neg (by decide), if_pos (by decide), gd_of vj, cj, h.Q.S.rm j hj]
      · unfold fX7_of; rw [pre7 L h, bd_some, if_neg (by decide), in7, bd_some, if_neg (by decide), if_neg (by decide), if_neg (by decide), j62 L _ (by omega)]; exact congrArg (fun z => some (z, L)) (h.Q.S.rm j (by omega))
    · refine ⟨_, _, K (G.S.wo j) fun L h => ?_, J (G.S.wo j) fun L h => ?_, hW⟩
      · unfold fX6_of; rw [pre6 L h, bd_some, if_neg (by decide), if_neg (by decide), if_pos (by decide), gd_of vj, cj, h.Q.S.wo j hj]
      · unfold fX7_of; rw [pre7 L h, bd_some, if_neg (by decide), in7, bd_some, if_neg (by decide), if_neg (by decide), if_neg (by decide), j62 L _ (by omega)]; exact congrArg (fun z => some (z, L)) (h.Q.S.wo j (by omega))
    · refine ⟨_, _, K (G.S.be j) fun L h => ?_, J (G.S.be j) fun L h => ?_, hW⟩
      · unfold fX6_of; rw [pre6 L h, bd_some, if_neg (by decide), if_neg (by decide), if_neg (by decide), if_pos (by decide), gd_of vj, cj, h.Q.S.be j hj]
      · unfold fX7_of; rw [pre7 L h, bd_some, if_neg (by decide), in7, bd_some, if_neg (by decide), if_neg (by decide), if_neg (by decide), j62 L _ (by omega)]; exact congrArg (fun z => some (z, L)) (h.Q.S.be j (by omega))
    · refine ⟨_, _, K (G.S.fr j) fun L h => ?_, J (G.S.fr j) fun L h => ?_, hW⟩
      · unfold fX6_of; rw [pre6 L h, bd_some, if_neg (by decide), if_neg (by decide), if_neg (by decide), if_neg (by decide), if_pos (by decide), gd_of vj, cj, h.Q.S.fr j hj]
      · unfold fX7_of; rw [pre7 L h, bd_some, if_neg (by decide), in7, bd_some, if_neg (by decide), if_neg (by decide), if_neg (by decide), j62 L _ (by omega)]; exact congrArg (fun z => some (z, L)) (h.Q.S.fr j (by omega))
    · refine ⟨_, _, K (G.S.wl j) fun L h => ?_, J (G.S.wl j) fun L h => ?_, hW⟩
      · unfold fX6_of; rw [pre6 L h, bd_some, if_neg (by decide), if_neg (by decide), if_neg (by decide), if_neg (by decide), if_neg (by decide), if_pos (by decide), gd_of vj, cj, h.Q.S.wl j hj]
      · unfold fX7_of; rw [pre7 L h, bd_some, if_neg (by decide), in7, bd_some, if_neg (by decide), if_neg (by decide), if_neg (by decide), j62 L _ (by omega)]; exact congrArg (fun z => some (z, L)) (h.Q.S.wl j (by omega))
    · refine ⟨_, _, K (bI (G.S.st j)) fun L h => ?_, J (bI (G.S.st j)) fun L h => ?_, hW⟩
      · unfold fX6_of; rw [pre6 L h, bd_some, if_neg (by decide), if_neg (by decide), if_neg (by decide), if_neg (by decide), if_neg (by decide), if_neg (by decide), if_pos (by decide), h.Q.S.standsF, bd_some, stI_n _ (by omega)]; cases G.S.st j <;> rfl
      · unfold fX7_of; rw [pre7 L h, bd_some, if_neg (by decide), in7, bd_some, if_neg (by decide), if_neg (by decide), if_neg (by decide), j62 L _ (by omega)]; exact congrArg (fun z => some (z, L)) (h.Q.S.st j (by omega))
    · refine ⟨_, _, K (nI (mask (lv G.S (nI j)) 6)) fun L h => ?_, J (nI (mask (lv G.S (nI j)) 6)) fun L h => ?_, hW⟩
      · unfold fX6_of; rw [pre6 L h, bd_some, if_neg (by decide), if_neg (by decide), if_neg (by decide), if_neg (by decide), if_neg (by decide), if_neg (by decide), if_neg (by decide), if_pos (by decide), h.Q.S.dwellerBitsF hW.Q.W, bd_some]
      · unfold fX7_of; rw [pre7 L h, bd_some, if_neg (by decide), in7, bd_some, if_neg (by decide), if_pos (by decide), h.Q.S.livingInF hW.Q.W (by omega) (by omega), bd_some]
    · refine ⟨_, _, K (G.S.mk j) fun L h => ?_, J (G.S.mk j) fun L h => ?_, hW⟩
      · unfold fX6_of; rw [pre6 L h, bd_some, if_neg (by decide), if_neg (by decide), if_neg (by decide), if_neg (by decide), if_neg (by decide), if_neg (by decide), if_neg (by decide), if_neg (by decide), if_pos (by decide), gd_of vj, cj, h.Q.S.mk j hj]
      · unfold fX7_of; rw [pre7 L h, bd_some, if_neg (by decide), in7, bd_some, if_neg (by decide), if_neg (by decide), if_pos (by decide)]; exact (j62 L 6 (by omega)).trans (congrArg (fun z => some (z, L)) (h.Q.S.mk j (by omega)))
