/-! ===== the law's loop ===== -/
section LAW
variable {L : HL} {B : Nat} {G : Gv}
theorem KI.other (h : KI L B G) {L' : HL} (f : FrJ (B + 178) L L') : KI L' B G := h.frame (fun a h1 h2 _ _ => f.1 a (by omega)) (by rw [f.1 _ (by omega)]) (f.2 B (by omega))
theorem JI.other (h : JI L (B + 178) G) {L' : HL} (f : FrK B L L') : JI L' (B + 178) G := h.frame (fun a ha => f.1 a (by omega)) (by rw [f.1 _ (by omega)]) (f.2 _ (by omega))
theorem ag_turn {α : Type} {f g : HL → Option (α × HL)} (h : Agree B f g) (hW : WG G) (hK : KI L B G) (hJ : JI L (B + 178) G) : ∃ z w, f L = some z ∧ g z.2 = some w ∧ z.1 = w.1 ∧ ∃ G', WG G' ∧ KI w.2 B G' ∧ JI w.2 (B + 178) G' := by
  obtain ⟨r, G', hk, hj, hW'⟩ := h G hW
  obtain ⟨z, e1, v1, k1, f1⟩ := hk L hK
  obtain ⟨w, e2, v2, j2, f2⟩ := hj z.2 (hJ.other f1)
  exact ⟨z, w, e1, e2, v1.trans v2.symm, G', hW', k1.other f2, j2⟩
/-- the state at the head of a turn -/
def LI (L : HL) (B : Nat) : Prop := ∃ G, WG G ∧ KI L B G ∧ JI L (B + 178) G
theorem b18F (xs : Nat → Int32) {n i : Nat} (hn : n ≤ 2560) (hi : i + 5 ≤ n) (hL : LI L B) : ∃ L', fL_law_b18 xs n B (B + 178) (nI i) L = some (.inl (nI (i + 5), L')) ∧ LI L' B := by
  obtain ⟨G, hW, hK, hJ⟩ := hL
  have v0 : vin (nI i) n := vin_nI (by omega) (by omega)
  have v1 : vin (nI i + (1 : Int32)) n := by rw [nQ_s]; exact vin_nI (by omega) (by omega)
  have v2 : vin (nI i + (2 : Int32)) n := by rw [show nI i + (2 : Int32) = nI (i + 2) from nQ_add i 2]; exact vin_nI (by omega) (by omega)
  have v3 : vin (nI i + (3 : Int32)) n := by rw [show nI i + (3 : Int32) = nI (i + 3) from nQ_add i 3]; exact vin_nI (by omega) (by omega)
  have v4 : vin (nI i + (4 : Int32)) n := by rw [show nI i + (4 : Int32) = nI (i + 4) from nQ_add i 4]; exact vin_nI (by omega) (by omega)
  have s5 : nI i + (5 : Int32) = nI (i + 5) := nQ_add i 5
  have h0 : ¬ (Int32.ofNat n) - (5 : Int32) < nI i := by
    rw [show (Int32.ofNat n) - (5 : Int32) = nI (n - 5) from nQ_sub (a := n) (b := 5) (by omega), nQ_lt (by omega) (by omega)]; omega
  have go : ∀ {w : HL}, (∃ G', WG G' ∧ KI w B G' ∧ JI w (B + 178) G') → ∃ L', (some (Sum.inl (nI (i + 5), w)) : Option (Tn (Int32 × HL) (Int32 × HL))) = some (.inl (nI (i + 5), L')) ∧ LI L' B := fun {w} h => ⟨w, rfl, h⟩
  unfold fL_law_b18
  rw [if_neg h0, gd_of v0]
  generalize (xs (nI i).toNatClampNeg &&& (63 : Int32)) = c
  by_cases h0 : c = (0 : Int32)
  · obtain ⟨z, w, e1, e2, e3, hG⟩ := ag_turn (ag_street B ) hW hK hJ
    rw [if_pos h0, e1, bd_some, e2, bd_some, if_pos e3, lt_eq, s5]
    exact go hG
  rw [if_neg h0]
  by_cases h1 : c = (1 : Int32)
  · obtain ⟨z, w, e1, e2, e3, hG⟩ := ag_turn (ag_house B (xs (nI i + (1 : Int32)).toNatClampNeg) (xs (nI i + (2 : Int32)).toNatClampNeg) (xs (nI i + (3 : Int32)).toNatClampNeg)) hW hK hJ
    rw [if_pos h1, gd_of v1, gd_of v2, gd_of v3, e1, bd_some, gd_of v1, gd_of v2, gd_of v3, e2, bd_some, if_pos e3, lt_eq, s5]
    exact go hG
  rw [if_neg h1]
  by_cases h2 : c = (2 : Int32)
  · obtain ⟨z, w, e1, e2, e3, hG⟩ := ag_turn (ag_builtFrom B (xs (nI i + (1 : Int32)).toNatClampNeg) (xs (nI i + (2 : Int32)).toNatClampNeg)) hW hK hJ
    rw [if_pos h2, gd_of v1, gd_of v2, e1, bd_some, gd_of v1, gd_of v2, e2, bd_some, if_pos e3, lt_eq, s5]
    exact go hG
  rw [if_neg h2]
  by_cases h3 : c = (3 : Int32)
  · obtain ⟨z, w, e1, e2, e3, hG⟩ := ag_turn (ag_will B (xs (nI i + (1 : Int32)).toNatClampNeg) (xs (nI i + (2 : Int32)).toNatClampNeg)) hW hK hJ
    rw [if_pos h3, gd_of v1, gd_of v2, e1, bd_some, gd_of v1, gd_of v2, e2, bd_some, if_pos e3, lt_eq, s5]
    exact go hG
  rw [if_neg h3]
  by_cases h4 : c = (4 : Int32)
  · rw [if_pos h4, gd_of v1, gd_of v2, gd_of v3]
    have two : ∀ p : Bool, ∃ L', fL_law_j354 xs n B (B + 178) (nI i) (xs (nI i + (1 : Int32)).toNatClampNeg) (xs (nI i + (2 : Int32)).toNatClampNeg) (bI p) L = some (.inl (nI (i + 5), L')) ∧ (decide (xs (nI i + (3 : Int32)).toNatClampNeg = 0) = !p → LI L' B) ∨ decide (xs (nI i + (3 : Int32)).toNatClampNeg = 0) = p := by
      intro p
      by_cases cp : decide (xs (nI i + (3 : Int32)).toNatClampNeg = 0) = p
      · exact ⟨L, .inr cp⟩
      obtain ⟨z, w, e1, e2, e3, hG⟩ := ag_turn (ag_wall B (xs (nI i + (1 : Int32)).toNatClampNeg) (xs (nI i + (2 : Int32)).toNatClampNeg) p) hW hK hJ
      unfold fL_law_j354 fL_law_j381
      rw [e1, bd_some, gd_of v1, gd_of v2, gd_of v3]
      refine ⟨w.2, .inl ⟨?_, fun _ => hG⟩⟩
      cases p
      · rw [if_pos (of_decide_eq_true (by revert cp; cases decide (xs (nI i + (3 : Int32)).toNatClampNeg = 0) <;> simp)), show fX7_wall (B + 178) (xs (nI i + (1 : Int32)).toNatClampNeg) (xs (nI i + (2 : Int32)).toNatClampNeg) 0 z.2 = some w from e2, bd_some, if_pos e3, lt_eq, s5]
      · rw [if_neg (of_decide_eq_false (by revert cp; cases decide (xs (nI i + (3 : Int32)).toNatClampNeg = 0) <;> simp)), show fX7_wall (B + 178) (xs (nI i + (1 : Int32)).toNatClampNeg) (xs (nI i + (2 : Int32)).toNatClampNeg) 1 z.2 = some w from e2, bd_some, if_pos e3, lt_eq, s5]
    by_cases cx : xs (nI i + (3 : Int32)).toNatClampNeg = 0
    · rw [if_pos cx]
      obtain ⟨L', h | h⟩ := two false
      · exact ⟨L', h.1, h.2 (decide_eq_true cx)⟩
      · rw [decide_eq_true cx] at h; cases h
    · rw [if_neg cx]
      obtain ⟨L', h | h⟩ := two true
      · exact ⟨L', h.1, h.2 (decide_eq_false cx)⟩
      · rw [decide_eq_false cx] at h; cases h
  rw [if_neg h4]
  by_cases h5 : c = (5 : Int32)
  · obtain ⟨z, w, e1, e2, e3, hG⟩ := ag_turn (ag_one B (xs (nI i + (1 : Int32)).toNatClampNeg) (xs (nI i + (2 : Int32)).toNatClampNeg)) hW hK hJ
    rw [if_pos h5, gd_of v1, gd_of v2, e1, bd_some, gd_of v1, gd_of v2, e2, bd_some, if_pos e3, lt_eq, s5]
    exact go hG
  rw [if_neg h5]
  by_cases h6 : c = (6 : Int32)
  · rw [if_pos h6, gd_of v1, gd_of v2, gd_of v3]
    have two : ∀ p : Bool, ∃ L', fL_law_j446 xs n B (B + 178) (nI i) (xs (nI i + (1 : Int32)).toNatClampNeg) (xs (nI i + (2 : Int32)).toNatClampNeg) (bI p) L = some (.inl (nI (i + 5), L')) ∧ (decide (xs (nI i + (3 : Int32)).toNatClampNeg = 0) = !p → LI L' B) ∨ decide (xs (nI i + (3 : Int32)).toNatClampNeg = 0) = p := by
      intro p
      by_cases cp : decide (xs (nI i + (3 : Int32)).toNatClampNeg = 0) = p
      · exact ⟨L, .inr cp⟩
      obtain ⟨z, w, e1, e2, e3, hG⟩ := ag_turn (ag_feud B (xs (nI i + (1 : Int32)).toNatClampNeg) (xs (nI i + (2 : Int32)).toNatClampNeg) p) hW hK hJ
      unfold fL_law_j446 fL_law_j473
      rw [e1, bd_some, gd_of v1, gd_of v2, gd_of v3]
      refine ⟨w.2, .inl ⟨?_, fun _ => hG⟩⟩
      cases p
      · rw [if_pos (of_decide_eq_true (by revert cp; cases decide (xs (nI i + (3 : Int32)).toNatClampNeg = 0) <;> simp)), show fX7_feud (B + 178) (xs (nI i + (1 : Int32)).toNatClampNeg) (xs (nI i + (2 : Int32)).toNatClampNeg) 0 z.2 = some w from e2, bd_some, if_pos e3, lt_eq, s5]
      · rw [if_neg (of_decide_eq_false (by revert cp; cases decide (xs (nI i + (3 : Int32)).toNatClampNeg = 0) <;> simp)), show fX7_feud (B + 178) (xs (nI i + (1 : Int32)).toNatClampNeg) (xs (nI i + (2 : Int32)).toNatClampNeg) 1 z.2 = some w from e2, bd_some, if_pos e3, lt_eq, s5]
    by_cases cx : xs (nI i + (3 : Int32)).toNatClampNeg = 0
    · rw [if_pos cx]
      obtain ⟨L', h | h⟩ := two false
      · exact ⟨L', h.1, h.2 (decide_eq_true cx)⟩
      · rw [decide_eq_true cx] at h; cases h
    · rw [if_neg cx]
      obtain ⟨L', h | h⟩ := two true
      · exact ⟨L', h.1, h.2 (decide_eq_false cx)⟩
      · rw [decide_eq_false cx] at h; cases h
  rw [if_neg h6]
  by_cases h7 : c = (7 : Int32)
  · obtain ⟨z, w, e1, e2, e3, hG⟩ := ag_turn (ag_mark B (xs (nI i + (1 : Int32)).toNatClampNeg) (xs (nI i + (2 : Int32)).toNatClampNeg)) hW hK hJ
    rw [if_pos h7, gd_of v1, gd_of v2, e1, bd_some, gd_of v1, gd_of v2, e2, bd_some, if_pos e3, lt_eq, s5]
    exact go hG
  rw [if_neg h7]
  by_cases h8 : c = (8 : Int32)
  · obtain ⟨z, w, e1, e2, e3, hG⟩ := ag_turn (ag_type B (xs (nI i + (1 : Int32)).toNatClampNeg)) hW hK hJ
    rw [if_pos h8, gd_of v1, e1, bd_some, gd_of v1, e2, bd_some, if_pos e3, lt_eq, s5]
    exact go hG
  rw [if_neg h8]
  by_cases h9 : c = (9 : Int32)
  · obtain ⟨z, w, e1, e2, e3, hG⟩ := ag_turn (ag_clear B ) hW hK hJ
    rw [if_pos h9, e1, bd_some, e2, bd_some, if_pos e3, lt_eq, s5]
    exact go hG
  rw [if_neg h9]
  by_cases h10 : c = (10 : Int32)
  · obtain ⟨z, w, e1, e2, e3, hG⟩ := ag_turn (ag_read B ) hW hK hJ
    rw [if_pos h10, e1, bd_some, e2, bd_some, if_pos e3, lt_eq, s5]
    exact go hG
  rw [if_neg h10]
  by_cases h11 : c = (11 : Int32)
  · obtain ⟨z, w, e1, e2, e3, hG⟩ := ag_turn (ag_fall B (xs (nI i + (1 : Int32)).toNatClampNeg)) hW hK hJ
    rw [if_pos h11, gd_of v1, e1, bd_some, gd_of v1, e2, bd_some, if_pos e3, lt_eq, s5]
    exact go hG
  rw [if_neg h11]
  by_cases h12 : c = (12 : Int32)
  · obtain ⟨z, w, e1, e2, e3, hG⟩ := ag_turn (ag_year B (xs (nI i + (1 : Int32)).toNatClampNeg)) hW hK hJ
    rw [if_pos h12, gd_of v1, e1, bd_some, gd_of v1, e2, bd_some, if_pos e3, lt_eq, s5]
    exact go hG
  rw [if_neg h12]
  by_cases h13 : c = (13 : Int32)
  · obtain ⟨z, w, e1, e2, e3, hG⟩ := ag_turn (ag_move B (xs (nI i + (1 : Int32)).toNatClampNeg) (xs (nI i + (2 : Int32)).toNatClampNeg)) hW hK hJ
    rw [if_pos h13, gd_of v1, gd_of v2, e1, bd_some, gd_of v1, gd_of v2, e2, bd_some, if_pos e3, lt_eq, s5]
    exact go hG
  rw [if_neg h13]
  by_cases h14 : c = (14 : Int32)
  · obtain ⟨z, w, e1, e2, e3, hG⟩ := ag_turn (ag_undo B ) hW hK hJ
    rw [if_pos h14, e1, bd_some, e2, bd_some, if_pos e3, lt_eq, s5]
    exact go hG
  rw [if_neg h14]
  by_cases h15 : c = (15 : Int32)
  · obtain ⟨z, w, e1, e2, e3, hG⟩ := ag_turn (ag_of B (xs (nI i + (1 : Int32)).toNatClampNeg) (xs (nI i + (2 : Int32)).toNatClampNeg)) hW hK hJ
    rw [if_pos h15, gd_of v1, gd_of v2, e1, bd_some, gd_of v1, gd_of v2, e2, bd_some, if_pos e3, lt_eq, s5]
    exact go hG
  rw [if_neg h15]
  by_cases h16 : c = (16 : Int32)
  · obtain ⟨z, w, e1, e2, e3, hG⟩ := ag_turn (ag_who B (xs (nI i + (1 : Int32)).toNatClampNeg) (xs (nI i + (2 : Int32)).toNatClampNeg)) hW hK hJ
    rw [if_pos h16, gd_of v1, gd_of v2, e1, bd_some, gd_of v1, gd_of v2, e2, bd_some, if_pos e3, lt_eq, s5]
    exact go hG
  rw [if_neg h16]
  by_cases h17 : c = (17 : Int32)
  · obtain ⟨z, w, e1, e2, e3, hG⟩ := ag_turn (ag_degree B (xs (nI i + (1 : Int32)).toNatClampNeg) (xs (nI i + (2 : Int32)).toNatClampNeg)) hW hK hJ
    rw [if_pos h17, gd_of v1, gd_of v2, e1, bd_some, gd_of v1, gd_of v2, e2, bd_some, if_pos e3, lt_eq, s5]
    exact go hG
  rw [if_neg h17]
  by_cases h18 : c = (18 : Int32)
  · obtain ⟨z, w, e1, e2, e3, hG⟩ := ag_turn (ag_rank B (xs (nI i + (1 : Int32)).toNatClampNeg) (xs (nI i + (2 : Int32)).toNatClampNeg)) hW hK hJ
    rw [if_pos h18, gd_of v1, gd_of v2, e1, bd_some, gd_of v1, gd_of v2, e2, bd_some, if_pos e3, lt_eq, s5]
    exact go hG
  rw [if_neg h18]
  by_cases h19 : c = (19 : Int32)
  · obtain ⟨z, w, e1, e2, e3, hG⟩ := ag_turn (ag_heir B (xs (nI i + (1 : Int32)).toNatClampNeg)) hW hK hJ
    rw [if_pos h19, gd_of v1, e1, bd_some, gd_of v1, e2, bd_some, if_pos e3, lt_eq, s5]
    exact go hG
  rw [if_neg h19]
  by_cases h20 : c = (20 : Int32)
  · obtain ⟨z, w, e1, e2, e3, hG⟩ := ag_turn (ag_wills B (xs (nI i + (1 : Int32)).toNatClampNeg) (xs (nI i + (2 : Int32)).toNatClampNeg)) hW hK hJ
    rw [if_pos h20, gd_of v1, gd_of v2, e1, bd_some, gd_of v1, gd_of v2, e2, bd_some, if_pos e3, lt_eq, s5]
    exact go hG
  rw [if_neg h20]
  by_cases h21 : c = (21 : Int32)
  · obtain ⟨z, w, e1, e2, e3, hG⟩ := ag_turn (ag_buildFor B (xs (nI i + (1 : Int32)).toNatClampNeg) (xs (nI i + (2 : Int32)).toNatClampNeg)) hW hK hJ
    rw [if_pos h21, gd_of v1, gd_of v2, e1, bd_some, gd_of v1, gd_of v2, e2, bd_some, if_pos e3, lt_eq, s5]
    exact go hG
  rw [if_neg h21]
  by_cases h22 : c = (22 : Int32)
  · obtain ⟨z, w, e1, e2, e3, hG⟩ := ag_turn (ag_adopts B (xs (nI i + (1 : Int32)).toNatClampNeg) (xs (nI i + (2 : Int32)).toNatClampNeg)) hW hK hJ
    rw [if_pos h22, gd_of v1, gd_of v2, e1, bd_some, gd_of v1, gd_of v2, e2, bd_some, if_pos e3, lt_eq, s5]
    exact go hG
  rw [if_neg h22]
  by_cases h23 : c = (23 : Int32)
  · obtain ⟨z, w, e1, e2, e3, hG⟩ := ag_turn (ag_lives B (xs (nI i + (1 : Int32)).toNatClampNeg) (xs (nI i + (2 : Int32)).toNatClampNeg)) hW hK hJ
    rw [if_pos h23, gd_of v1, gd_of v2, e1, bd_some, gd_of v1, gd_of v2, e2, bd_some, if_pos e3, lt_eq, s5]
    exact go hG
  rw [if_neg h23]
  by_cases h24 : c = (24 : Int32)
  · obtain ⟨z, w, e1, e2, e3, hG⟩ := ag_turn (ag_stand B (xs (nI i + (1 : Int32)).toNatClampNeg)) hW hK hJ
    rw [if_pos h24, gd_of v1, e1, bd_some, gd_of v1, e2, bd_some, if_pos e3, lt_eq, s5]
    exact go hG
  rw [if_neg h24]
  by_cases h25 : c = (25 : Int32)
  · obtain ⟨z, w, e1, e2, e3, hG⟩ := ag_turn (ag_overfull B (xs (nI i + (1 : Int32)).toNatClampNeg)) hW hK hJ
    rw [if_pos h25, gd_of v1, e1, bd_some, gd_of v1, e2, bd_some, if_pos e3, lt_eq, s5]
    exact go hG
  rw [if_neg h25]
  by_cases h26 : c = (26 : Int32)
  · obtain ⟨z, w, e1, e2, e3, hG⟩ := ag_turn (ag_orders B (xs (nI i + (1 : Int32)).toNatClampNeg) (xs (nI i + (2 : Int32)).toNatClampNeg) (xs (nI i + (3 : Int32)).toNatClampNeg) (xs (nI i + (4 : Int32)).toNatClampNeg)) hW hK hJ
    rw [if_pos h26, gd_of v1, gd_of v2, gd_of v3, gd_of v4, e1, bd_some, gd_of v1, gd_of v2, gd_of v3, gd_of v4, e2, bd_some, if_pos e3, lt_eq, s5]
    exact go hG
  rw [if_neg h26]
  by_cases h27 : c = (27 : Int32)
  · obtain ⟨z, w, e1, e2, e3, hG⟩ := ag_turn (ag_safe B (xs (nI i + (1 : Int32)).toNatClampNeg)) hW hK hJ
    rw [if_pos h27, gd_of v1, e1, bd_some, gd_of v1, e2, bd_some, if_pos e3, lt_eq, s5]
    exact go hG
  rw [if_neg h27]
  by_cases h28 : c = (28 : Int32)
  · obtain ⟨z, w, e1, e2, e3, hG⟩ := ag_turn (ag_moves B (xs (nI i + (1 : Int32)).toNatClampNeg)) hW hK hJ
    rw [if_pos h28, gd_of v1, e1, bd_some, gd_of v1, e2, bd_some, if_pos e3, lt_eq, s5]
    exact go hG
  rw [if_neg h28]
  by_cases h29 : c = (29 : Int32)
  · obtain ⟨z, w, e1, e2, e3, hG⟩ := ag_turn (ag_share B (xs (nI i + (1 : Int32)).toNatClampNeg)) hW hK hJ
    rw [if_pos h29, gd_of v1, e1, bd_some, gd_of v1, e2, bd_some, if_pos e3, lt_eq, s5]
    exact go hG
  rw [if_neg h29]
  by_cases h30 : c = (30 : Int32)
  · obtain ⟨z, w, e1, e2, e3, hG⟩ := ag_turn (ag_plaster B (xs (nI i + (1 : Int32)).toNatClampNeg) (xs (nI i + (2 : Int32)).toNatClampNeg)) hW hK hJ
    rw [if_pos h30, gd_of v1, gd_of v2, e1, bd_some, gd_of v1, gd_of v2, e2, bd_some, if_pos e3, lt_eq, s5]
    exact go hG
  rw [if_neg h30]
  by_cases h31 : c = (31 : Int32)
  · obtain ⟨z, w, e1, e2, e3, hG⟩ := ag_turn (ag_gables B (xs (nI i + (1 : Int32)).toNatClampNeg)) hW hK hJ
    rw [if_pos h31, gd_of v1, e1, bd_some, gd_of v1, e2, bd_some, if_pos e3, lt_eq, s5]
    exact go hG
  rw [if_neg h31]
  by_cases h32 : c = (32 : Int32)
  · obtain ⟨z, w, e1, e2, e3, hG⟩ := ag_turn (ag_doors B (xs (nI i + (1 : Int32)).toNatClampNeg) (xs (nI i + (2 : Int32)).toNatClampNeg) (xs (nI i + (3 : Int32)).toNatClampNeg) (xs (nI i + (4 : Int32)).toNatClampNeg)) hW hK hJ
    rw [if_pos h32, gd_of v1, gd_of v2, gd_of v3, gd_of v4, e1, bd_some, gd_of v1, gd_of v2, gd_of v3, gd_of v4, e2, bd_some, if_pos e3, lt_eq, s5]
    exact go hG
  rw [if_neg h32]
  by_cases h33 : c = (33 : Int32)
  · obtain ⟨z, w, e1, e2, e3, hG⟩ := ag_turn (ag_drawn B (xs (nI i + (1 : Int32)).toNatClampNeg) (xs (nI i + (2 : Int32)).toNatClampNeg)) hW hK hJ
    rw [if_pos h33, gd_of v1, gd_of v2, e1, bd_some, gd_of v1, gd_of v2, e2, bd_some, if_pos e3, lt_eq, s5]
    exact go hG
  rw [if_neg h33]
  by_cases h34 : c = (34 : Int32)
  · obtain ⟨z, w, e1, e2, e3, hG⟩ := ag_turn (ag_part B (xs (nI i + (1 : Int32)).toNatClampNeg)) hW hK hJ
    rw [if_pos h34, gd_of v1, e1, bd_some, gd_of v1, e2, bd_some, if_pos (by rw [lg_eq]; exact e3), lt_eq, s5]
    exact go hG
  rw [if_neg h34]
  by_cases h35 : c = (35 : Int32)
  · obtain ⟨z, w, e1, e2, e3, hG⟩ := ag_turn (ag_image B (xs (nI i + (1 : Int32)).toNatClampNeg)) hW hK hJ
    rw [if_pos h35, gd_of v1, e1, bd_some, gd_of v1, e2, bd_some, if_pos e3, lt_eq, s5]
    exact go hG
  rw [if_neg h35]
  by_cases h36 : c = (36 : Int32)
  · obtain ⟨z, w, e1, e2, e3, hG⟩ := ag_turn (ag_from B (xs (nI i + (1 : Int32)).toNatClampNeg)) hW hK hJ
    rw [if_pos h36, gd_of v1, e1, bd_some, gd_of v1, e2, bd_some, if_pos e3, lt_eq, s5]
    exact go hG
  rw [if_neg h36]
  by_cases h37 : c = (37 : Int32)
  · obtain ⟨z, w, e1, e2, e3, hG⟩ := ag_turn (ag_status B (xs (nI i + (1 : Int32)).toNatClampNeg)) hW hK hJ
    rw [if_pos h37, gd_of v1, e1, bd_some, gd_of v1, e2, bd_some, if_pos e3, lt_eq, s5]
    exact go hG
  rw [if_neg h37]
  by_cases h38 : c = (38 : Int32)
  · obtain ⟨z, w, e1, e2, e3, hG⟩ := ag_turn (ag_count B (xs (nI i + (1 : Int32)).toNatClampNeg)) hW hK hJ
    rw [if_pos h38, gd_of v1, e1, bd_some, gd_of v1, e2, bd_some, if_pos e3, lt_eq, s5]
    exact go hG
  rw [if_neg h38]
  by_cases h39 : c = (39 : Int32)
  · obtain ⟨z, w, e1, e2, e3, hG⟩ := ag_turn (ag_digest B) hW hK hJ
    have d1 : fX6_digest B L = some (dgs G) := digestK hK hW
    have d2 : fX7_digest (B + 178) L = some (dgs G) := digestJ hJ hW
    rw [if_pos h39, d1, bd_some, d2, bd_some, if_pos (by rw [lg_eq]), lt_eq, s5]
    exact ⟨L, rfl, G, hW, hK, hJ⟩
  rw [if_neg h39]
  rw [lt_eq, s5]
  exact ⟨L, rfl, G, hW, hK, hJ⟩
theorem law_loop (xs : Nat → Int32) {n : Nat} (hn : n ≤ 2560) (hL : LI L B) : ∃ z, fL_law xs n B (B + 178) L = some z ∧ z.1 = 1 := by
  unfold fL_law
  refine lx_inv (n / 5) (fun t s => ∃ L2, s = (nI (5 * t), L2) ∧ LI L2 B) (by rw [FU_20000]; omega) ⟨L, rfl, hL⟩ ?_ ?_ ?_
  · rintro t _ ht ⟨L2, rfl, h⟩
    obtain ⟨L3, e, h3⟩ := b18F xs hn (show 5 * t + 5 ≤ n by omega) h
    exact ⟨_, e, L3, rfl, h3⟩
  · rintro _ ⟨L2, rfl, h⟩
    unfold fL_law_b18
    dsimp only
    have e : Int32.ofNat n - (5 : Int32) = iI ((n : Int) - 5) := by
      show nI n - (5 : Int32) = _
      rw [← iI_nat, show (5 : Int32) = iI 5 from rfl, iI_sub]
    rw [if_pos (by rw [e, ← iI_nat, iI_lt (by omega) (by omega) (by omega) (by omega)]; omega)]
  · rintro _ ⟨L2, rfl, h⟩
    exact ⟨_, rfl, rfl⟩
end LAW
/-- the start: nothing built, nobody there -/
def L00 (B : Nat) : HL := (fun _ _ => 0, fun a k => if (a = B ∧ k = 9) ∨ (a = B + 178 ∧ k = 6) then 1 else 0)
def U00 : Uv := Uv.of (fun _ => false) (fun _ => 0) (fun _ => 0) 0
def G00 : Gv := Gv.of zS (fun _ => U00) (fun _ => false) (fun _ => zS) (fun _ _ => U00) 0 (fun _ => 0) 0 1 0 0 0
theorem L00_LI (B : Nat) : LI (L00 B) B := by
  have m5 : (0 : Int32) = nI (mask (fun _ => false) 5) := by rw [mask_zero]; rfl
  have m4 : (0 : Int32) = nI (mask (fun _ => false) 4) := by rw [mask_zero]; rfl
  have hSC : ∀ b, SC (L00 B) b zS := fun b => SC.of rfl m5 rfl rfl (fun h hh => rfl) (fun h hh => rfl) (fun h hh => rfl) (fun h hh => rfl) (fun h hh => rfl) (fun h hh => rfl) (fun h hh => m5) (fun h hh => rfl) (fun h hh => rfl) (fun h hh => m4)
  have hRC : ∀ b, RC (L00 B) b zS := fun b => RC.of rfl rfl rfl (fun h hh => rfl) (fun h hh => rfl) (fun h hh => rfl) (fun h hh => rfl) (fun h hh => rfl) (fun h hh => rfl) (fun h hh => rfl) (fun h hh k hk => rfl) (fun h hh => rfl) (fun h hh => rfl) (fun h hh k hk => rfl)
  have n0 : ∀ {P : Nat → Prop} (i : Nat), i < 0 → P i := fun i hi => absurd hi (Nat.not_lt_zero i)
  refine ⟨G00, WG.of (WQ.of zS_wf (Nat.zero_le _) (fun i hi => absurd hi (Nat.not_lt_zero i))) (fun i hi h => by cases h) (Nat.zero_le _) (fun j hj => absurd hj (Nat.not_lt_zero j)), ?_, ?_⟩
  · refine KI.of (CQ.of (hSC _) ⟨rfl, 0, by omega, rfl, fun i hi => absurd hi (Nat.not_lt_zero i)⟩) rfl rfl (fun h => by cases h) (fun h => by cases h) rfl (fun j hj => absurd hj (Nat.not_lt_zero j)) ?_ ?_ rfl rfl rfl
    · show (if (B = B ∧ 8 = 9) ∨ (B = B + 178 ∧ 8 = 6) then (1 : Int64) else 0) = 0
      rw [if_neg (by omega)]
    · show (if (B = B ∧ 9 = 9) ∨ (B = B + 178 ∧ 9 = 6) then (1 : Int64) else 0) = 1
      rw [if_pos (by omega)]
  · refine JI.of (RQ.of (hRC _) rfl (fun i hi => absurd hi (Nat.not_lt_zero i))) (fun i hi => rfl) (fun i hi h => by cases h) rfl (fun j hj => absurd hj (Nat.not_lt_zero j)) ?_ ?_ rfl rfl rfl
    · show (if (B + 178 = B ∧ 5 = 9) ∨ (B + 178 = B + 178 ∧ 5 = 6) then (1 : Int64) else 0) = 0
      rw [if_neg (by omega)]
    · show (if (B + 178 = B ∧ 6 = 9) ∨ (B + 178 = B + 178 ∧ 6 = 6) then (1 : Int64) else 0) = 1
      rw [if_pos (by omega)]
theorem law_all (B : Nat) (xs : Nat → Int32) (n : Nat) (hn : n ≤ 2560) : ∃ z, fL_law xs n B (B + 178) (L00 B) = some z ∧ z.1 = 1 := law_loop xs hn (L00_LI B)
