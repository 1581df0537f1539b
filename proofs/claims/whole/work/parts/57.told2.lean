section TLD
variable {L : HL} {B m : Nat} {G : Gv}
theorem toldK (h : KI L B G) {x : Option (Int32 × HL)} {r : Int32 × Sv} {bad : Int32} (hx : Do x L (B + 1) r) (hr : Ac G.S r) : ∃ z, (bd x fun z1 => bd (fX6_told B z1.1 bad z1.2) fun z2 => some (z2.1, z2.2)) = some z ∧ z.1 = toldR bad r ∧ KI z.2 B (toldG G r) ∧ FrK B L z.2 := by
  obtain ⟨⟨a, L1⟩, e1, e2, hS, f⟩ := hx
  dsimp only at e2 hS f
  have fk : FrK B L L1 := f.K (fun a g => by unfold SD at g; omega)
  rw [e1, bd_some]
  dsimp only
  rw [e2]
  have same : r.2 = G.S → KI L1 B G := by
    intro e
    rw [e] at hS
    have := h.street hS f (h.Q.U.frame fun a _ _ => f.1 a (by unfold SD; omega))
    exact this
  unfold fX6_told toldR toldG
  rcases hr with ⟨e, h1 | h1 | h1⟩ | ⟨h1, -⟩
  · rw [h1, if_pos rfl, if_pos rfl, if_pos rfl]
    obtain ⟨z, q1, q2, q3, q4⟩ := refK_bad (B := B) bad L1 (same e)
    rw [q1]
    exact ⟨_, rfl, q2, q3, fk.trans q4⟩
  · rw [h1, if_neg (by decide), if_neg (by decide), if_neg (by decide), if_neg (by decide), if_pos rfl]
    obtain ⟨z, q1, q2, q3, q4⟩ := refK_no (B := B) (-3) L1 (same e)
    rw [q1]
    exact ⟨_, rfl, q2, q3, fk.trans q4⟩
  · rw [h1, if_neg (by decide), if_neg (by decide), if_neg (by decide), if_neg (by decide), if_neg (by decide), if_pos rfl]
    obtain ⟨z, q1, q2, q3, q4⟩ := refK_full (B := B) (-4) L1 (same e)
    rw [q1]
    exact ⟨_, rfl, q2, q3, fk.trans q4⟩
  · have n : ∀ k : Int32, k.toInt < -1 → ¬ r.1 = k := fun k hk e => by rw [e] at h1; omega
    rw [if_neg (n _ (by decide)), if_pos (by rw [Int32.le_iff_toInt_le, tl_m1]; exact h1), if_neg (n _ (by decide)), if_neg (n _ (by decide)), if_neg (n _ (by decide)), if_neg (n _ (by decide)), forgetF]
    exact ⟨_, rfl, rfl, h.forget hS f, fk.trans (((((Fr.refl (A := (· = B + 29)) L1).wI rfl _ _).wI rfl _ _)).K (fun a e => by omega))⟩
theorem JI.street (h : JI L m G) {L1 : HL} {S' : Sv} (hR : RC L1 (m + 1) S') (f : Fr (· = m + 1) L L1) (h3 : L1.1 (m + 1) 3 = 0) : JI L1 m (G.set_S (S'.set_un 0)) := by
  obtain ⟨h1, h2, h3', h4, h5, h6, h7, h8, h9, h10⟩ := h
  refine JI.of (RQ.of (hR.un0 0) (h3.trans rfl) (fun i hi => absurd hi (Nat.not_lt_zero i))) (by rw [f.1 _ (by omega)]; exact h2) (fun i hi k => ?_) (by rw [f.1 _ (by omega)]; exact h4) (by rw [f.1 _ (by omega)]; exact h5) (by rw [f.2]; exact h6) (by rw [f.2]; exact h7) (by rw [f.1 _ (by omega)]; exact h8) (by rw [f.1 _ (by omega)]; exact h9) (by rw [f.1 _ (by omega)]; exact h10)
  refine (h3' i hi k).frame ?_
  show (fun q => L1.1 (m + 2) (228 * i + q)) = fun q => L.1 (m + 2) (228 * i + q)
  rw [f.1 _ (by omega)]
theorem toldJ (h : JI L m G) {x : Option (Int32 × HL)} {r : Int32 × Sv} {bad : Int32} (hb : bad = -2 ∨ bad = -10) (hx : DoJ x L m bad r) (hr : Ac G.S r) : ∃ z, (bd x fun z1 => bd (fX7_tell m z1.1 z1.2) fun z2 => some (z2.1, z2.2)) = some z ∧ z.1 = toldR bad r ∧ JI z.2 m (toldG G r) ∧ FrJ m L z.2 := by
  obtain ⟨⟨a, L1⟩, e1, e2, hS, f, o1, o2⟩ := hx
  dsimp only at e2 hS f o1 o2
  rw [e1, bd_some]
  dsimp only
  rw [e2]
  unfold toldR toldG
  rcases hr with ⟨e, h1 | h1 | h1⟩ | ⟨h1, -⟩
  · have := o2 (by rw [h1]; decide)
    subst this
    rw [h1, if_pos rfl, if_pos rfl]
    obtain ⟨z, q1, q2, q3, q4⟩ := tellJ_bad (m := m) hb L1 h
    rw [q1]
    exact ⟨_, rfl, q2, q3, q4⟩
  · have := o2 (by rw [h1]; decide)
    subst this
    rw [h1, if_neg (by decide), if_neg (by decide), if_pos rfl]
    obtain ⟨z, q1, q2, q3, q4⟩ := tellJ_no (m := m) L1 h
    rw [q1]
    exact ⟨_, rfl, q2, q3, q4⟩
  · have := o2 (by rw [h1]; decide)
    subst this
    rw [h1, if_neg (by decide), if_neg (by decide), if_neg (by decide), if_pos rfl]
    obtain ⟨z, q1, q2, q3, q4⟩ := tellJ_full (m := m) L1 h
    rw [q1]
    exact ⟨_, rfl, q2, q3, q4⟩
  · have n : ∀ k : Int32, k.toInt < -1 → ¬ r.1 = k := fun k hk e => by rw [e] at h1; omega
    rw [if_neg (n _ (by decide)), if_neg (n _ (by decide)), if_neg (n _ (by decide)), if_neg (n _ (by decide)), tellJ_ok h1]
    exact ⟨_, rfl, rfl, h.street hS f (o1 h1), f.J (fun a e => by omega)⟩
end TLD
theorem ag_house (B : Nat) (a b c : Int32) : Agree B (fX6_house B a b c) (fX7_house (B + 178) a b c) := fun G hW =>
  ⟨_, _, fun L h => toldK h (h.Q.S.addHouseF hW.Q.W a b c) (dHouse_ac hW.Q.W a b c), fun L h => toldJ h (.inl rfl) (h.Q.S.doHouseF hW.Q.W a b c) (dHouse_ac hW.Q.W a b c), toldG_w hW (dHouse_ac hW.Q.W a b c)⟩
theorem ag_builtFrom (B : Nat) (a b : Int32) : Agree B (fX6_builtFrom B a b) (fX7_builtFrom (B + 178) a b) := fun G hW =>
  ⟨_, _, fun L h => toldK h (h.Q.S.setFromF hW.Q.W a b) (dFrom_ac hW.Q.W a b), fun L h => toldJ h (.inr rfl) (h.Q.S.doFromF hW.Q.W a b) (dFrom_ac hW.Q.W a b), toldG_w hW (dFrom_ac hW.Q.W a b)⟩
theorem ag_will (B : Nat) (a b : Int32) : Agree B (fX6_will B a b) (fX7_will (B + 178) a b) := fun G hW =>
  ⟨_, _, fun L h => toldK h (h.Q.S.setWillF hW.Q.W a b) (dWill_ac hW.Q.W a b), fun L h => toldJ h (.inl rfl) (h.Q.S.doWillF hW.Q.W a b) (dWill_ac hW.Q.W a b), toldG_w hW (dWill_ac hW.Q.W a b)⟩
theorem ag_wall (B : Nat) (a b : Int32) (is : Bool) : Agree B (fX6_wall B a b (bI is)) (fX7_wall (B + 178) a b (bI is)) := fun G hW =>
  ⟨_, _, fun L h => toldK h (h.Q.S.setWallF hW.Q.W a b is) (dWall_ac hW.Q.W a b is), fun L h => toldJ h (.inl rfl) (h.Q.S.doWallF hW.Q.W a b is) (dWall_ac hW.Q.W a b is), toldG_w hW (dWall_ac hW.Q.W a b is)⟩
theorem ag_one (B : Nat) (a b : Int32) : Agree B (fX6_one B a b) (fX7_one (B + 178) a b) := fun G hW =>
  ⟨_, _, fun L h => toldK h (h.Q.S.addOneF hW.Q.W a b) (dOne_ac hW.Q.W a b), fun L h => toldJ h (.inl rfl) (h.Q.S.doOneF hW.Q.W a b) (dOne_ac hW.Q.W a b), toldG_w hW (dOne_ac hW.Q.W a b)⟩
theorem ag_feud (B : Nat) (a b : Int32) (is : Bool) : Agree B (fX6_feud B a b (bI is)) (fX7_feud (B + 178) a b (bI is)) := fun G hW =>
  ⟨_, _, fun L h => toldK h (h.Q.S.setFeudF hW.Q.W a b is) (dFeud_ac hW.Q.W a b is), fun L h => toldJ h (.inl rfl) (h.Q.S.doFeudF hW.Q.W a b is) (dFeud_ac hW.Q.W a b is), toldG_w hW (dFeud_ac hW.Q.W a b is)⟩
theorem ag_street (B : Nat) : Agree B (fX6_street B) (fX7_street (B + 178)) := fun G hW => by
  refine ⟨nI G.S.H, G.set_S (zS.set_un 0), fun L h => ?_, fun L h => ?_, WG.of (WQ.of (zS_wf.un0 0) (Nat.zero_le _) (fun i hi => absurd hi (Nat.not_lt_zero i))) hW.I hW.ln hW.by⟩
  · unfold fX6_street
    obtain ⟨L1, e1, hS, f⟩ := emptyF L (B + 1)
    rw [lt_eq, e1, bd_some, forgetF, bd_some]
    exact ⟨_, rfl, h.Q.S.H, h.forget hS f, (f.K (fun a g => by unfold SD at g; omega)).trans (((((Fr.refl (A := (· = B + 29)) L1).wI rfl _ _).wI rfl _ _)).K (fun a e => by omega))⟩
  · unfold fX7_street
    obtain ⟨L1, e1, hS, h3, f⟩ := cleanF L (B + 178)
    rw [lt_eq, e1, bd_some, c0q]
    exact ⟨_, rfl, h.Q.S.H, h.street hS f h3, f.J (fun a e => by omega)⟩
