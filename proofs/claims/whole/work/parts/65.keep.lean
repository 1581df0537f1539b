def keepG (G : Gv) : Gv := (G.set_S (G.S.set_un (kun G.S.un))).set_U (kU G.S G.U)
theorem PCc.eqv {L : HL} {b : Nat} {S S' : Sv} {U : Nat → Uv} (h : PCc L b S U) (e1 : S'.un = S.un) (e2 : S'.H = S.H) (e3 : S'.P = S.P) : PCc L b S' U := by
  obtain ⟨h1, nx, h2, h3, h4⟩ := h
  refine ⟨by rw [e1]; exact h1, nx, h2, h3, fun i hi => ?_⟩
  rw [e1] at hi ⊢
  obtain ⟨o1, o2, o3, o4⟩ := h4 i hi
  exact PCs.of o1 o2 (by rw [e2]; exact o3) (by rw [e3]; exact o4)
theorem kun_le {u : Nat} (h : u ≤ 8) : kun u ≤ 8 := by unfold kun; split <;> omega
theorem cur_w {S : Sv} (hW : WF S) : WU S (cur S) := WU.of hW.st hW.wh
theorem kU_w {S : Sv} {U : Nat → Uv} (h : WQ S U) : ∀ i, i < kun S.un → WU S (kU S U i) := by
  intro i hi
  unfold kU kun at *
  by_cases c : S.un = 8
  · rw [if_pos c] at hi ⊢
    by_cases e : i < 7
    · simp only [e, if_true]; exact h.U (i + 1) (by omega)
    · simp only [e, if_false]; exact cur_w h.W
  · rw [if_neg c] at hi ⊢
    by_cases e : i = S.un
    · simp only [e, if_true]; exact cur_w h.W
    · simp only [e, if_false]; exact h.U i (by omega)
theorem keepG_w {G : Gv} (h : WG G) : WG (keepG G) := WG.of (WQ.of (h.Q.W.un0 _) (kun_le h.Q.un) (fun i hi => by
  have := kU_w h.Q i hi
  exact WU.of this.st this.wh)) h.I h.ln h.by
section KEP
variable {L : HL} {B m : Nat} {G : Gv}
theorem KI.keep (h : KI L B G) (hW : WG G) : ∃ L', fX3_keep (B + 29) (B + 1) L = some L' ∧ KI L' B (keepG G) ∧ FrK B L L' := by
  obtain ⟨L', e1, q, f⟩ := keepF h.Q.S h.Q.U hW.Q.W hW.Q.un (by omega)
  refine ⟨L', e1, ?_, f.K (fun a g => by omega)⟩
  obtain ⟨h1, h2, h3, h4, h5, h6, h7, h8, h9, h10, h11, h12⟩ := h
  have e : ∀ a, ¬ (B + 29 ≤ a ∧ a < B + 29 + 21) → L'.1 a = L.1 a := f.1
  exact KI.of (CQ.of ((h1.S.frame fun a _ _ => e a (by omega)).un0 _) q) (by rw [e _ (by omega)]; exact h2) (by rw [e _ (by omega)]; exact h3) (fun k => (h4 k).frame (fun a _ _ => e a (by omega)) (fun a _ _ => e a (by omega))) (fun k => (h5 k).frame (fun a _ _ => e a (by omega)) (fun a _ _ => e a (by omega))) (by rw [e _ (by omega)]; exact h6) (by rw [e _ (by omega)]; exact h7) (by rw [f.2]; exact h8) (by rw [f.2]; exact h9) (by rw [e _ (by omega)]; exact h10) (by rw [e _ (by omega)]; exact h11) (by rw [e _ (by omega)]; exact h12)
theorem JI.table (h : JI L m G) {L1 : HL} {S' : Sv} {U' : Nat → Uv} (hQ : RQ L1 (m + 1) S' U') {A : Nat → Prop} (f : Fr A L L1) (hA : ∀ a, A a → a = m + 1 ∨ (m + 6 ≤ a ∧ a < m + 12)) : JI L1 m ((G.set_S S').set_U U') ∧ FrJ m L L1 := by
  obtain ⟨h1, h2, h3', h4, h5, h6, h7, h8, h9, h10⟩ := h
  have e : ∀ a, ¬ (a = m + 1 ∨ (m + 6 ≤ a ∧ a < m + 12)) → L1.1 a = L.1 a := fun a ha => f.1 a (fun g => ha (hA a g))
  refine ⟨JI.of hQ (by rw [e _ (by omega)]; exact h2) (fun i hi k => ?_) (by rw [e _ (by omega)]; exact h4) (by rw [e _ (by omega)]; exact h5) (by rw [f.2]; exact h6) (by rw [f.2]; exact h7) (by rw [e _ (by omega)]; exact h8) (by rw [e _ (by omega)]; exact h9) (by rw [e _ (by omega)]; exact h10), f.J (fun a g => by have := hA a g; omega)⟩
  refine (h3' i hi k).frame ?_
  show (fun q => L1.1 (m + 2) (228 * i + q)) = fun q => L.1 (m + 2) (228 * i + q)
  rw [e _ (by omega)]
theorem JI.keep (h : JI L m G) (hW : WG G) : ∃ L', fX7_remember m L = some L' ∧ JI L' m (keepG G) ∧ FrJ m L L' := by
  obtain ⟨L', e1, q, f⟩ := rememberF h.Q hW.Q.un
  exact ⟨L', e1, h.table q f (fun a e => .inl e)⟩
end KEP
