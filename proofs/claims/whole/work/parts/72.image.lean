def imgG (G : Gv) (i : Nat) : Gv := Gv.of G.S G.U (upq G.kp i true) (upq G.IS i G.S) (upq G.IU i G.U) G.ln G.by G.ab G.bl G.r0 G.r1 G.r2
def fromG (G : Gv) (i : Nat) : Gv := (G.set_S (G.IS i)).set_U (G.IU i)
theorem imgG_w {G : Gv} (h : WG G) (i : Nat) : WG (imgG G i) := WG.of h.Q (fun j hj e => by
  have e : upq G.kp i true j = true := e
  show WQ (upq G.IS i G.S j) (upq G.IU i G.U j)
  by_cases c : j = i
  · subst c; rw [upq_s, upq_s]; exact h.Q
  · rw [upq_o c] at e; rw [upq_o c, upq_o c]; exact h.I j hj e) h.ln h.by
theorem fromG_w {G : Gv} (h : WG G) {i : Nat} (hi : i < 2) (hk : G.kp i = true) : WG (fromG G i) := WG.of (h.I i hi hk) h.I h.ln h.by
section IMG
variable {L : HL} {p p' s m B c : Nat} {S : Sv} {U : Nat → Uv} {G : Gv}
theorem imKeepF (hS : SC L (B + 1) S) (hU : PCc L (B + 29) S U) (hW : WF S) (hun : S.un ≤ 8) (hc : B + 50 ≤ c) : ∃ L', fX0_keep c (B + 1) (B + 29) L = some L' ∧ L'.1 c 0 = 1 ∧ CQ L' (c + 1) (c + 15) S U ∧ Fr (fun a => c ≤ a ∧ a < c + 36) L L' := by
  unfold fX0_keep
  obtain ⟨L1, e1, q1, f1⟩ := hS.takeFromF (a0 := c + 1) hW (.inr (by omega))
  have hU1 : PCc L1 (B + 29) S U := hU.frame fun a h1 h2 => f1.1 a (by omega)
  obtain ⟨L2, e2, q2, f2⟩ := pastTakeF (p' := c + 15) hU1 hW hun (.inr (by omega))
  rw [e1, bd_some, e2, bd_some, lt_eq]
  refine ⟨_, rfl, wQ_same _ _ _ _, CQ.of (q1.frame fun a h1 h2 => ?_) (q2.frame fun a h1 h2 => wQ_ne (by omega)), ((f1.mono fun a h => by omega).trans (f2.mono fun a h => by omega)).wI (by omega) _ _⟩
  rw [wQ_ne (by omega)]; exact f2.1 a (by omega)
theorem imBackF (h : CQ L (c + 1) (c + 15) S U) (hW : WF S) (hun : S.un ≤ 8) (hc : B + 50 ≤ c) : ∃ L', fX0_giveBack c (B + 1) (B + 29) L = some L' ∧ CQ L' (B + 1) (B + 29) S U ∧ Fr (fun a => (B + 1 ≤ a ∧ a < B + 15) ∨ (B + 29 ≤ a ∧ a < B + 50)) L L' := by
  unfold fX0_giveBack
  obtain ⟨L1, e1, q1, f1⟩ := h.S.takeFromF (a0 := B + 1) hW (.inl (by omega))
  have hU1 : PCc L1 (c + 15) S U := h.U.frame fun a h1 h2 => f1.1 a (by omega)
  obtain ⟨L2, e2, q2, f2⟩ := pastTakeF (p' := B + 29) hU1 hW hun (.inl (by omega))
  rw [e1, bd_some, e2, bd_some]
  exact ⟨_, rfl, CQ.of (q1.frame fun a h1 h2 => f2.1 a (by omega)) q2, (f1.mono fun a h => by omega).trans (f2.mono fun a h => by omega)⟩
theorem KI.img0 (h : KI L B G) {L1 : HL} (h0 : L1.1 (B + 50) 0 = 1) (q : CQ L1 (B + 51) (B + 65) G.S G.U) (f : Fr (fun a => B + 50 ≤ a ∧ a < B + 50 + 36) L L1) : KI L1 B (imgG G 0) ∧ FrK B L L1 := by
  obtain ⟨h1, h2, h3, h4, h5, h6, h7, h8, h9, h10, h11, h12⟩ := h
  have e : ∀ a, ¬ (B + 50 ≤ a ∧ a < B + 50 + 36) → L1.1 a = L.1 a := f.1
  exact ⟨KI.of (h1.frame (fun a _ _ => e a (by omega)) (fun a _ _ => e a (by omega))) h0 (by rw [e _ (by omega)]; exact h3) (fun _ => q) (fun k => (h5 k).frame (fun a _ _ => e a (by omega)) (fun a _ _ => e a (by omega))) (by rw [e _ (by omega)]; exact h6) (by rw [e _ (by omega)]; exact h7) (by rw [f.2]; exact h8) (by rw [f.2]; exact h9) (by rw [e _ (by omega)]; exact h10) (by rw [e _ (by omega)]; exact h11) (by rw [e _ (by omega)]; exact h12), f.K (fun a g => by omega)⟩
theorem KI.img1 (h : KI L B G) {L1 : HL} (h0 : L1.1 (B + 86) 0 = 1) (q : CQ L1 (B + 87) (B + 101) G.S G.U) (f : Fr (fun a => B + 86 ≤ a ∧ a < B + 86 + 36) L L1) : KI L1 B (imgG G 1) ∧ FrK B L L1 := by
  obtain ⟨h1, h2, h3, h4, h5, h6, h7, h8, h9, h10, h11, h12⟩ := h
  have e : ∀ a, ¬ (B + 86 ≤ a ∧ a < B + 86 + 36) → L1.1 a = L.1 a := f.1
  exact ⟨KI.of (h1.frame (fun a _ _ => e a (by omega)) (fun a _ _ => e a (by omega))) (by rw [e _ (by omega)]; exact h2) h0 (fun k => (h4 k).frame (fun a _ _ => e a (by omega)) (fun a _ _ => e a (by omega))) (fun _ => q) (by rw [e _ (by omega)]; exact h6) (by rw [e _ (by omega)]; exact h7) (by rw [f.2]; exact h8) (by rw [f.2]; exact h9) (by rw [e _ (by omega)]; exact h10) (by rw [e _ (by omega)]; exact h11) (by rw [e _ (by omega)]; exact h12), f.K (fun a g => by omega)⟩
theorem JI.img (h : JI L m G) (hW : WG G) {i : Nat} (hi : i < 2) {L1 : HL} (v : ∀ k, k < 228 → L1.1 (m + 2) (228 * i + k) = L.1 (m + 1) k) (o : ∀ k, ¬ (228 * i ≤ k ∧ k < 228 * i + 228) → L1.1 (m + 2) k = L.1 (m + 2) k) (f : Fr (· = m + 2) L L1) : JI (wI L1 (m + 3) i 1) m (imgG G i) ∧ FrJ m L (wI L1 (m + 3) i 1) := by
  obtain ⟨h1, h2, h3', h4, h5, h6, h7, h8, h9, h10⟩ := h
  have e : ∀ a, a ≠ m + 2 → a ≠ m + 3 → (wI L1 (m + 3) i 1).1 a = L.1 a := fun a ha hb => by rw [wQ_ne hb]; exact f.1 a ha
  refine ⟨JI.of (h1.frame (e _ (by omega) (by omega))) (fun j hj => ?_) (fun j hj k => ?_) (by rw [e _ (by omega) (by omega)]; exact h4) (by rw [e _ (by omega) (by omega)]; exact h5) (by show L1.2 m 5 = _; rw [f.2]; exact h6) (by show L1.2 m 6 = _; rw [f.2]; exact h7) (by rw [e _ (by omega) (by omega)]; exact h8) (by rw [e _ (by omega) (by omega)]; exact h9) (by rw [e _ (by omega) (by omega)]; exact h10), ((f.mono (A' := fun a => a = m + 2 ∨ a = m + 3) fun a h => .inl h).wI (.inr rfl) _ _).J (fun a g => by omega)⟩
  · show _ = bI (upq G.kp i true j)
    by_cases c : j = i
    · subst c; rw [wQ_same, upq_s]; rfl
    · rw [wQ_other c, upq_o c, f.1 _ (by omega)]; exact h2 j hj
  · have k : upq G.kp i true j = true := k
    show RQ _ 0 (upq G.IS i G.S j) (upq G.IU i G.U j)
    by_cases c : j = i
    · subst c
      rw [upq_s, upq_s]
      exact h1.copy hW.Q.un fun x hx => by
        show (wI L1 (m + 3) j 1).1 (m + 2) (228 * j + x) = _
        rw [wQ_ne (by omega)]; exact v x hx
    · rw [upq_o c] at k
      rw [upq_o c, upq_o c]
      exact (h3' j hj k).copy (hW.I j hj k).un fun x hx => by
        show (wI L1 (m + 3) i 1).1 (m + 2) (228 * j + x) = L.1 (m + 2) (228 * j + x)
        rw [wQ_ne (by omega)]; exact o _ (by omega)
end IMG
theorem l228m (i : Nat) : (228 : Int32) * nI i = nI (228 * i) := nQ_mul 228 i
theorem two_i {a : Int32} (c : inb a 0 1 = true) : a = 0 ∨ a = 1 := by
  have c' := inb_t.mp c
  obtain ⟨k, hk, rfl⟩ := nI_of_int (v := a) (n := 2) (by omega) (by omega)
  rcases (show k = 0 ∨ k = 1 by omega) with rfl | rfl
  · exact .inl rfl
  · exact .inr rfl
theorem ag_image (B : Nat) (a : Int32) : Agree B (fX6_image B a) (fX7_image (B + 178) a) := fun G hW => by
  cases c : inb a 0 1
  · have c' := inb_f.mp c
    refine ⟨-2, badG G, fun L h => ?_, fun L h => ?_, badG_w hW⟩
    · unfold fX6_image fX6_image_j9
      simp only [bd_eta, Int32.lt_iff_toInt_lt, Int32.le_iff_toInt_le, tl_0, tl_1]
      obtain ⟨z, q⟩ := refK_bad (B := B) (-2) L h
      refine ⟨z, ?_, q.2⟩
      by_cases c1 : a.toInt < 0
      · rw [if_pos c1]; exact q.1
      · rw [if_neg c1, if_neg (by omega)]; exact q.1
    · unfold fX7_image
      rw [isTwoF, bd_some, c, if_pos (by decide), bd_eta]; exact badJ (-2) L h
  have J : ∀ i, i < 2 → a = nI i → OpJ (fX7_image (B + 178) a) (B + 178) G 1 (imgG G i) := by
    intro i hi e L h
    unfold fX7_image
    obtain ⟨L1, e1, v1, o1, f1⟩ := copiesF (L := L) (a0 := B + 178 + 1) (n0 := 228) (a2 := B + 178 + 2) (n2 := 456) (i := 0) (j := 228 * i) (many := 228) (by omega) (by omega) (by omega) (by omega) (.inl (by omega))
    rw [isTwoF, bd_some, c, if_neg (by decide), e, l228m, show fX7_copies (B + 178 + 1) 228 0 (B + 178 + 2) 456 (nI (228 * i)) 228 L = some L1 from e1, bd_some, gd_of (vin_nI hi (by omega)), lt_eq, nI_cl (by omega)]
    exact ⟨_, rfl, rfl, h.img hW hi (fun k hk => by have := v1 k hk; rwa [Nat.zero_add] at this) o1 f1⟩
  rcases two_i c with rfl | rfl
  · refine ⟨1, imgG G 0, fun L h => ?_, J 0 (by omega) rfl, imgG_w hW 0⟩
    unfold fX6_image
    obtain ⟨L1, e1, v1, q1, f1⟩ := imKeepF (c := B + 50) h.Q.S h.Q.U hW.Q.W hW.Q.un (by omega)
    rw [if_neg (by decide), if_pos (by decide), if_pos rfl, e1, bd_some]
    exact ⟨_, rfl, rfl, h.img0 v1 q1 f1⟩
  · refine ⟨1, imgG G 1, fun L h => ?_, J 1 (by omega) rfl, imgG_w hW 1⟩
    unfold fX6_image
    obtain ⟨L1, e1, v1, q1, f1⟩ := imKeepF (c := B + 86) h.Q.S h.Q.U hW.Q.W hW.Q.un (by omega)
    rw [if_neg (by decide), if_pos (by decide), if_neg (by decide), e1, bd_some]
    exact ⟨_, rfl, rfl, h.img1 v1 q1 f1⟩
theorem ag_from (B : Nat) (a : Int32) : Agree B (fX6_from B a) (fX7_from (B + 178) a) := fun G hW => by
  cases c : inb a 0 1
  · have c' := inb_f.mp c
    refine ⟨-2, badG G, fun L h => ?_, fun L h => ?_, badG_w hW⟩
    · unfold fX6_from fX6_from_j9
      simp only [bd_eta, Int32.lt_iff_toInt_lt, Int32.le_iff_toInt_le, tl_0, tl_1]
      obtain ⟨z, q⟩ := refK_bad (B := B) (-2) L h
      refine ⟨z, ?_, q.2⟩
      by_cases c1 : a.toInt < 0
      · rw [if_pos c1]; exact q.1
      · rw [if_neg c1, if_neg (by omega)]; exact q.1
    · unfold fX7_from
      rw [isTwoF, bd_some, c, if_pos (by decide), bd_eta]; exact badJ (-2) L h
  have J : ∀ i, i < 2 → a = nI i → G.kp i = true → OpJ (fX7_from (B + 178) a) (B + 178) G 1 (fromG G i) := by
    intro i hi e hk L h
    unfold fX7_from
    obtain ⟨L1, e1, v1, o1, f1⟩ := copiesF (L := L) (a0 := B + 178 + 2) (n0 := 456) (a2 := B + 178 + 1) (n2 := 228) (i := 228 * i) (j := 0) (many := 228) (by omega) (by omega) (by omega) (by omega) (.inl (by omega))
    rw [isTwoF, bd_some, c, if_neg (by decide), e, gd_of (vin_nI hi (by omega)), nI_cl (by omega), h.k i hi, hk, if_neg (by decide), l228m, show fX7_copies (B + 178 + 2) 456 (nI (228 * i)) (B + 178 + 1) 228 0 228 L = some L1 from e1, bd_some]
    exact ⟨_, rfl, rfl, h.table ((h.I i hi hk).copy (hW.I i hi hk).un fun x hx => by have := v1 x hx; rwa [Nat.zero_add] at this) f1 (fun a e => .inl e)⟩
  have JN : ∀ i, i < 2 → a = nI i → G.kp i = false → OpJ (fX7_from (B + 178) a) (B + 178) G (-3) (noG G) := by
    intro i hi e hk L h
    unfold fX7_from
    rw [isTwoF, bd_some, c, if_neg (by decide), e, gd_of (vin_nI hi (by omega)), nI_cl (by omega), h.k i hi, hk, if_pos (by decide), bd_eta]
    exact noJ (-3) L h
  rcases two_i c with rfl | rfl
  · cases hk : G.kp 0
    · refine ⟨-3, noG G, fun L h => ?_, JN 0 (by omega) rfl hk, noG_w hW⟩
      unfold fX6_from
      rw [if_neg (by decide), if_pos (by decide), if_pos rfl, h.k0, hk, if_pos (by decide), bd_eta]; exact refK_no (-3) L h
    · refine ⟨1, fromG G 0, fun L h => ?_, J 0 (by omega) rfl hk, fromG_w hW (by omega) hk⟩
      unfold fX6_from
      obtain ⟨L1, e1, q1, f1⟩ := imBackF (B := B) (c := B + 50) (h.i0 hk) (hW.I 0 (by omega) hk).W (hW.I 0 (by omega) hk).un (by omega)
      rw [if_neg (by decide), if_pos (by decide), if_pos rfl, h.k0, hk, if_neg (by decide), if_pos rfl, e1, bd_some]
      exact ⟨_, rfl, rfl, h.both q1 f1⟩
  · cases hk : G.kp 1
    · refine ⟨-3, noG G, fun L h => ?_, JN 1 (by omega) rfl hk, noG_w hW⟩
      unfold fX6_from
      rw [if_neg (by decide), if_pos (by decide), if_neg (by decide), h.k1, hk, if_pos (by decide), bd_eta]; exact refK_no (-3) L h
    · refine ⟨1, fromG G 1, fun L h => ?_, J 1 (by omega) rfl hk, fromG_w hW (by omega) hk⟩
      unfold fX6_from
      obtain ⟨L1, e1, q1, f1⟩ := imBackF (B := B) (c := B + 86) (h.i1 hk) (hW.I 1 (by omega) hk).W (hW.I 1 (by omega) hk).un (by omega)
      rw [if_neg (by decide), if_pos (by decide), if_neg (by decide), h.k1, hk, if_neg (by decide), if_neg (by decide), e1, bd_some]
      exact ⟨_, rfl, rfl, h.both q1 f1⟩
