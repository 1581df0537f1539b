section FLL
variable {L : HL} {B m : Nat} {G : Gv}
theorem KI.streetB (h : KI L B G) {L1 : HL} {S' : Sv} (hS : SC L1 (B + 1) S') (f : Fr (SB (B + 1)) L L1) (e1 : S'.un = G.S.un) (e2 : S'.H = G.S.H) (e3 : S'.P = G.S.P) : KI L1 B (G.set_S S') ∧ FrK B L L1 := by
  obtain ⟨h1, h2, h3, h4, h5, h6, h7, h8, h9, h10, h11, h12⟩ := h
  have e : ∀ a, ¬ (B + 1 ≤ a ∧ a < B + 15) → L1.1 a = L.1 a := fun a ha => f.1 a (fun g => ha ⟨g.1, by have := g.2; omega⟩)
  exact ⟨KI.of (CQ.of hS ((h1.U.frame fun a _ _ => e a (by omega)).eqv e1 e2 e3)) (by rw [e _ (by omega)]; exact h2) (by rw [e _ (by omega)]; exact h3) (fun k => (h4 k).frame (fun a _ _ => e a (by omega)) (fun a _ _ => e a (by omega))) (fun k => (h5 k).frame (fun a _ _ => e a (by omega)) (fun a _ _ => e a (by omega))) (by rw [e _ (by omega)]; exact h6) (by rw [e _ (by omega)]; exact h7) (by rw [f.2]; exact h8) (by rw [f.2]; exact h9) (by rw [e _ (by omega)]; exact h10) (by rw [e _ (by omega)]; exact h11) (by rw [e _ (by omega)]; exact h12), f.K (fun a g => ⟨by have := g.1; omega, by have := g.2; omega⟩)⟩
theorem JI.streetB (h : JI L m G) {L1 : HL} {S' : Sv} (hR : RC L1 (m + 1) S') (f : Fr (fun a => a = m + 1 ∨ a = m + 8) L L1) (kp : Kp (m + 1) L L1) (e1 : S'.un = G.S.un) : JI L1 m (G.set_S S') ∧ FrJ m L L1 := by
  refine h.table (U' := G.U) (RQ.of hR (by rw [kp 3 (.inl rfl), h.Q.un, e1]) (fun i hi => ?_)) f (fun a g => by omega)
  rw [e1] at hi
  obtain ⟨o1, o2, o3, o4⟩ := h.Q.U i hi
  exact PRs.of (fun x hx => by rw [kp _ (.inr (by omega))]; exact o1 x hx) (fun x hx => by rw [kp _ (.inr (by omega))]; exact o2 x hx) (fun x hx => by rw [kp _ (.inr (by omega))]; exact o3 x hx) (by rw [kp _ (.inr (by omega))]; exact o4)
theorem WG.streetB (h : WG G) {S' : Sv} (hW : WF S') (e1 : S'.un = G.S.un) (e2 : S'.H = G.S.H) (e3 : S'.P = G.S.P) : WG (G.set_S S') := by
  refine WG.of (WQ.of hW (by show S'.un ≤ 8; rw [e1]; exact h.Q.un) (fun i hi => ?_)) h.I h.ln h.by
  have hi : i < S'.un := hi
  rw [e1] at hi
  have := h.Q.U i hi
  exact WU.of (by show ∀ x, _ → x < S'.H; rw [e2]; exact this.st) (by show ∀ p, p < S'.P → _ = -1 ∨ ∃ h, h < S'.H ∧ _; rw [e2, e3]; exact this.wh)
end FLL
theorem ag_fall (B : Nat) (a : Int32) : Agree B (fX6_fall B a) (fX7_fall (B + 178) a) := fun G hW => by
  have h5 := hW.Q.W.H5
  cases ca : hasI G.S a
  · refine ⟨-10, badG G, fun L h => ?_, fun L h => ?_, badG_w hW⟩
    · unfold fX6_fall
      rw [h.Q.S.hasF hW.Q.W, bd_some, ca, if_pos (by decide), bd_eta]; exact refK_bad (-10) L h
    · unfold fX7_fall
      rw [h.Q.S.isHouseF hW.Q.W, bd_some, ca, if_pos (by decide), bd_eta]; exact badJ (-10) L h
  obtain ⟨j, hj, rfl⟩ := hasI_of ca
  have rd : ∀ L, JI L (B + 178) G → L.1 (B + 178 + 1) ((29 : Int32) + nI j).toNatClampNeg = bI (G.S.st j) := fun L h => by rw [l29, nQ_add, nI_cl (by omega)]; exact h.Q.S.st j (by omega)
  have v29 : vin ((29 : Int32) + nI j) 228 := by rw [l29, nQ_add]; exact vin_nI (by omega) (by omega)
  cases sj : G.S.st j
  · refine ⟨-20, noG G, fun L h => ?_, fun L h => ?_, noG_w hW⟩
    · unfold fX6_fall
      rw [h.Q.S.hasF hW.Q.W, bd_some, ca, if_neg (by decide), h.Q.S.standsF, bd_some, stI_n _ (by omega), sj, if_pos (by decide), bd_eta]; exact refK_no (-20) L h
    · unfold fX7_fall
      rw [h.Q.S.isHouseF hW.Q.W, bd_some, ca, if_neg (by decide), gd_of v29, rd L h, sj, if_pos (by decide), bd_eta]; exact noJ (-20) L h
  have hW1 := keepG_w hW
  have s1 : (keepG G).S.st j = true := sj
  have h1H : j < (keepG G).S.H := hj
  refine ⟨hr (keepG G).S ((keepG G).S.wl j) j, (keepG G).set_S (fallS (keepG G).S j), fun L h => ?_, fun L h => ?_, hW1.streetB (fallS_wf hW1.Q.W j) rfl rfl rfl⟩
  · unfold fX6_fall
    obtain ⟨L1, e1, k1, f1⟩ := h.keep hW
    rw [h.Q.S.hasF hW.Q.W, bd_some, ca, if_neg (by decide), h.Q.S.standsF, bd_some, stI_n _ (by omega), sj, if_neg (by decide), e1, bd_some, bd_eta]
    obtain ⟨z, e2, e3, q, f2⟩ := k1.Q.S.letFallF hW1.Q.W (x := j) (by omega) s1
    obtain ⟨k2, f3⟩ := k1.streetB q f2 rfl rfl rfl
    exact ⟨z, e2, e3, k2, f1.trans f3⟩
  · unfold fX7_fall
    obtain ⟨L1, e1, k1, f1⟩ := h.keep hW
    rw [h.Q.S.isHouseF hW.Q.W, bd_some, ca, if_neg (by decide), gd_of v29, rd L h, sj, if_neg (by decide), e1, bd_some, bd_eta]
    obtain ⟨z, e2, e3, q, f2, kp⟩ := k1.Q.S.fallsF (m := B + 178) (n := 228) hW1.Q.W (by omega) (by omega) (by omega) h1H
    obtain ⟨k2, f3⟩ := k1.streetB q f2 kp rfl
    exact ⟨z, e2, e3, k2, f1.trans f3⟩
