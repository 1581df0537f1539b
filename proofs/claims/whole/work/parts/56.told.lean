/-! ===== calls ===== -/
def FrK (B : Nat) (L L' : HL) : Prop := (∀ a, ¬ (B ≤ a ∧ a < B + 178) → L'.1 a = L.1 a) ∧ ∀ a, a ≠ B → L'.2 a = L.2 a
def FrJ (m : Nat) (L L' : HL) : Prop := (∀ a, ¬ (m ≤ a ∧ a < m + 12) → L'.1 a = L.1 a) ∧ ∀ a, a ≠ m → L'.2 a = L.2 a
theorem FrK.trans {B : Nat} {L L' L'' : HL} (h : FrK B L L') (h' : FrK B L' L'') : FrK B L L'' := ⟨fun a ha => (h'.1 a ha).trans (h.1 a ha), fun a ha => (h'.2 a ha).trans (h.2 a ha)⟩
theorem FrJ.trans {m : Nat} {L L' L'' : HL} (h : FrJ m L L') (h' : FrJ m L' L'') : FrJ m L L'' := ⟨fun a ha => (h'.1 a ha).trans (h.1 a ha), fun a ha => (h'.2 a ha).trans (h.2 a ha)⟩
theorem Fr.K {B : Nat} {A : Nat → Prop} {L L' : HL} (h : Fr A L L') (hA : ∀ a, A a → B ≤ a ∧ a < B + 178) : FrK B L L' := ⟨fun a ha => h.1 a (fun g => ha (hA a g)), fun a _ => by rw [h.2]⟩
theorem Fr.J {m : Nat} {A : Nat → Prop} {L L' : HL} (h : Fr A L L') (hA : ∀ a, A a → m ≤ a ∧ a < m + 12) : FrJ m L L' := ⟨fun a ha => h.1 a (fun g => ha (hA a g)), fun a _ => by rw [h.2]⟩
def OpK {α : Type} (f : HL → Option (α × HL)) (B : Nat) (G : Gv) (r : α) (G' : Gv) : Prop := ∀ L, KI L B G → ∃ z, f L = some z ∧ z.1 = r ∧ KI z.2 B G' ∧ FrK B L z.2
def OpJ {α : Type} (f : HL → Option (α × HL)) (m : Nat) (G : Gv) (r : α) (G' : Gv) : Prop := ∀ L, JI L m G → ∃ z, f L = some z ∧ z.1 = r ∧ JI z.2 m G' ∧ FrJ m L z.2
/-- class and reference answer alike, from every state on -/
def Agree {α : Type} (B : Nat) (f g : HL → Option (α × HL)) : Prop := ∀ G, WG G → ∃ r G', OpK f B G r G' ∧ OpJ g (B + 178) G r G' ∧ WG G'
def badG (G : Gv) : Gv := G.set_r0 (G.r0 + 1)
def noG (G : Gv) : Gv := G.set_r1 (G.r1 + 1)
def fullG (G : Gv) : Gv := G.set_r2 (G.r2 + 1)
theorem badG_w {G : Gv} (h : WG G) : WG (badG G) := WG.of h.Q h.I h.ln h.by
theorem noG_w {G : Gv} (h : WG G) : WG (noG G) := WG.of h.Q h.I h.ln h.by
theorem fullG_w {G : Gv} (h : WG G) : WG (fullG G) := WG.of h.Q h.I h.ln h.by
section REF
variable {L : HL} {B m : Nat} {G : Gv}
theorem KI.set_r (h : KI L B G) {G' : Gv} {k : Nat} {v : Int32} (e : (G'.S, G'.U, G'.kp, G'.IS, G'.IU, G'.ln, G'.by, G'.ab, G'.bl) = (G.S, G.U, G.kp, G.IS, G.IU, G.ln, G.by, G.ab, G.bl)) (r0 : (wI L B k v).1 B 10 = G'.r0) (r1 : (wI L B k v).1 B 11 = G'.r1) (r2 : (wI L B k v).1 B 12 = G'.r2) : KI (wI L B k v) B G' := by
  obtain ⟨h1, h2, h3, h4, h5, h6, h7, h8, h9, -, -, -⟩ := h
  simp only [Prod.mk.injEq] at e
  obtain ⟨e1, e2, e3, e4, e5, e6, e7, e8, e9⟩ := e
  refine KI.of ?_ ?_ ?_ ?_ ?_ ?_ ?_ ?_ ?_ r0 r1 r2
  · rw [e1, e2]; exact h1.frame (fun a _ _ => wQ_ne (by omega)) (fun a _ _ => wQ_ne (by omega))
  · rw [wQ_ne (by omega), e3]; exact h2
  · rw [wQ_ne (by omega), e3]; exact h3
  · rw [e3, e4, e5]; exact fun k => (h4 k).frame (fun a _ _ => wQ_ne (by omega)) (fun a _ _ => wQ_ne (by omega))
  · rw [e3, e4, e5]; exact fun k => (h5 k).frame (fun a _ _ => wQ_ne (by omega)) (fun a _ _ => wQ_ne (by omega))
  · rw [wQ_ne (by omega), e6]; exact h6
  · rw [wQ_ne (by omega), e6, e7]; exact h7
  · rw [e8]; exact h8
  · rw [e9]; exact h9
theorem refK_bad (v : Int32) : OpK (fX6_refused B (-2) v) B G v (badG G) := by
  intro L h
  unfold fX6_refused
  rw [if_pos rfl, lt_eq, h.r0]
  exact ⟨_, rfl, rfl, h.set_r rfl (wQ_same _ _ _ _) (by rw [wQ_other (by decide)]; exact h.r1) (by rw [wQ_other (by decide)]; exact h.r2), ((Fr.refl (A := (· = B)) L).wI rfl _ _).K (fun a e => by omega)⟩
theorem refK_no (v : Int32) : OpK (fX6_refused B (-3) v) B G v (noG G) := by
  intro L h
  unfold fX6_refused
  rw [if_neg (by decide), if_pos rfl, lt_eq, h.r1]
  exact ⟨_, rfl, rfl, h.set_r rfl (by rw [wQ_other (by decide)]; exact h.r0) (wQ_same _ _ _ _) (by rw [wQ_other (by decide)]; exact h.r2), ((Fr.refl (A := (· = B)) L).wI rfl _ _).K (fun a e => by omega)⟩
theorem refK_full (v : Int32) : OpK (fX6_refused B (-4) v) B G v (fullG G) := by
  intro L h
  unfold fX6_refused
  rw [if_neg (by decide), if_neg (by decide), if_pos rfl, lt_eq, h.r2]
  exact ⟨_, rfl, rfl, h.set_r rfl (by rw [wQ_other (by decide)]; exact h.r0) (by rw [wQ_other (by decide)]; exact h.r1) (wQ_same _ _ _ _), ((Fr.refl (A := (· = B)) L).wI rfl _ _).K (fun a e => by omega)⟩
theorem JI.set_r (h : JI L m G) {G' : Gv} {k : Nat} {v : Int32} (e : (G'.S, G'.U, G'.kp, G'.IS, G'.IU, G'.ln, G'.by, G'.ab, G'.bl) = (G.S, G.U, G.kp, G.IS, G.IU, G.ln, G.by, G.ab, G.bl)) (r0 : (wI L (m + 5) k v).1 (m + 5) 0 = G'.r0) (r1 : (wI L (m + 5) k v).1 (m + 5) 1 = G'.r1) (r2 : (wI L (m + 5) k v).1 (m + 5) 2 = G'.r2) : JI (wI L (m + 5) k v) m G' := by
  obtain ⟨h1, h2, h3, h4, h5, h6, h7, -, -, -⟩ := h
  simp only [Prod.mk.injEq] at e
  obtain ⟨e1, e2, e3, e4, e5, e6, e7, e8, e9⟩ := e
  refine JI.of ?_ ?_ ?_ ?_ ?_ ?_ ?_ r0 r1 r2
  · rw [e1, e2]; exact h1.frame (wQ_ne (by omega))
  · rw [wQ_ne (by omega), e3]; exact h2
  · rw [e3, e4, e5]
    intro i hi k
    refine (h3 i hi k).frame ?_
    show (fun q => (wI L (m + 5) _ _).1 (m + 2) (228 * i + q)) = fun q => L.1 (m + 2) (228 * i + q)
    rw [wQ_ne (by omega)]
  · rw [wQ_ne (by omega), e6]; exact h4
  · rw [wQ_ne (by omega), e6, e7]; exact h5
  · rw [e8]; exact h6
  · rw [e9]; exact h7
theorem rJ_bad (h : JI L m G) : JI (wI L (m + 5) 0 (G.r0 + 1)) m (badG G) ∧ FrJ m L (wI L (m + 5) 0 (G.r0 + 1)) := ⟨h.set_r rfl (wQ_same _ _ _ _) (by rw [wQ_other (by decide)]; exact h.r1) (by rw [wQ_other (by decide)]; exact h.r2), ((Fr.refl (A := (· = m + 5)) L).wI rfl _ _).J (fun a e => by omega)⟩
theorem rJ_no (h : JI L m G) : JI (wI L (m + 5) 1 (G.r1 + 1)) m (noG G) ∧ FrJ m L (wI L (m + 5) 1 (G.r1 + 1)) := ⟨h.set_r rfl (by rw [wQ_other (by decide)]; exact h.r0) (wQ_same _ _ _ _) (by rw [wQ_other (by decide)]; exact h.r2), ((Fr.refl (A := (· = m + 5)) L).wI rfl _ _).J (fun a e => by omega)⟩
theorem rJ_full (h : JI L m G) : JI (wI L (m + 5) 2 (G.r2 + 1)) m (fullG G) ∧ FrJ m L (wI L (m + 5) 2 (G.r2 + 1)) := ⟨h.set_r rfl (by rw [wQ_other (by decide)]; exact h.r0) (by rw [wQ_other (by decide)]; exact h.r1) (wQ_same _ _ _ _), ((Fr.refl (A := (· = m + 5)) L).wI rfl _ _).J (fun a e => by omega)⟩
theorem badJ (v : Int32) : OpJ (fX7_bad m v) m G v (badG G) := by
  intro L h
  unfold fX7_bad
  rw [c0q, lt_eq, h.r0]
  exact ⟨_, rfl, rfl, rJ_bad h⟩
theorem noJ (v : Int32) : OpJ (fX7_no m v) m G v (noG G) := by
  intro L h
  unfold fX7_no
  rw [c1q, lt_eq, h.r1]
  exact ⟨_, rfl, rfl, rJ_no h⟩
theorem tellJ_bad {v : Int32} (hv : v = -2 ∨ v = -10) : OpJ (fX7_tell m v) m G v (badG G) := by
  intro L h
  unfold fX7_tell fX7_tell_j12
  rw [c0q, lt_eq, h.r0]
  rcases hv with e | e
  · rw [if_pos e]; exact ⟨_, rfl, rfl, rJ_bad h⟩
  · rw [if_neg (by rw [e]; decide), if_pos e]; exact ⟨_, rfl, rfl, rJ_bad h⟩
theorem tellJ_no : OpJ (fX7_tell m (-3)) m G (-3) (noG G) := by
  intro L h
  unfold fX7_tell fX7_tell_j43 fX7_tell_j58
  rw [if_neg (by decide), if_neg (by decide), if_pos rfl, if_neg (by decide), gd_of (by decide), gd_of (by decide), c1q, lt_eq, h.r1]
  exact ⟨_, rfl, rfl, rJ_no h⟩
theorem tellJ_full : OpJ (fX7_tell m (-4)) m G (-4) (fullG G) := by
  intro L h
  unfold fX7_tell fX7_tell_j43 fX7_tell_j58
  rw [if_neg (by decide), if_neg (by decide), if_neg (by decide), if_neg (by decide), if_pos rfl, if_pos rfl, gd_of (by decide), gd_of (by decide), show (2 : Int32).toNatClampNeg = 2 by decide, lt_eq, h.r2]
  exact ⟨_, rfl, rfl, rJ_full h⟩
theorem tellJ_ok {v : Int32} (hv : -1 ≤ v.toInt) : fX7_tell m v L = some (v, L) := by
  have n : ∀ k : Int32, k.toInt < -1 → ¬ v = k := fun k hk e => by rw [e] at hv; omega
  unfold fX7_tell
  rw [if_neg (n _ (by decide)), if_neg (n _ (by decide)), if_neg (n _ (by decide)), if_neg (n _ (by decide)), if_neg (n _ (by decide))]
/-! told calls -/
def toldG (G : Gv) (r : Int32 × Sv) : Gv := if r.1 = -2 then badG G else if r.1 = -3 then noG G else if r.1 = -4 then fullG G else G.set_S (r.2.set_un 0)
def toldR (bad : Int32) (r : Int32 × Sv) : Int32 := if r.1 = -2 then bad else r.1
theorem SC.un0 {b : Nat} {S : Sv} (h : SC L b S) (u : Nat) : SC L b (S.set_un u) := SC.of h.H h.st h.P h.yr h.rm h.wo h.be h.fr h.wl h.mk h.wa h.fa h.wh h.fe
theorem RC.un0 {b : Nat} {S : Sv} (h : RC L b S) (u : Nat) : RC L b (S.set_un u) := RC.of h.H h.P h.yr h.rm h.wo h.be h.fr h.wl h.st h.mk h.wa h.fa h.wh h.fe
theorem WF.un0 {S : Sv} (h : WF S) (u : Nat) : WF (S.set_un u) := WF.of h.H5 h.P6 h.st h.wa h.ws h.fi h.fs h.fm h.fa h.wh h.wl h.mk h.fr h.wo h.rm
theorem forgetF (L : HL) (b : Nat) : fX3_forget b L = some (wI (wI L b 0 0) b 1 0) := rfl
theorem toldG_w (hW : WG G) {r : Int32 × Sv} (hr : Ac G.S r) : WG (toldG G r) := by
  unfold toldG
  by_cases c1 : r.1 = -2
  · rw [if_pos c1]; exact badG_w hW
  rw [if_neg c1]
  by_cases c2 : r.1 = -3
  · rw [if_pos c2]; exact noG_w hW
  rw [if_neg c2]
  by_cases c3 : r.1 = -4
  · rw [if_pos c3]; exact fullG_w hW
  rw [if_neg c3]
  rcases hr with ⟨-, h | h | h⟩ | ⟨-, h⟩
  · exact absurd h c1
  · exact absurd h c2
  · exact absurd h c3
  · exact WG.of (WQ.of (h.un0 0) (Nat.zero_le _) (fun i hi => absurd hi (Nat.not_lt_zero i))) hW.I hW.ln hW.by
theorem KI.street (h : KI L B G) {L1 : HL} {S' : Sv} (hS : SC L1 (B + 1) S') (f : Fr (SD (B + 1)) L L1) (hU : PCc L1 (B + 29) S' G.U) : KI L1 B (G.set_S S') := by
  obtain ⟨h1, h2, h3, h4, h5, h6, h7, h8, h9, h10, h11, h12⟩ := h
  have e : ∀ a, ¬ (B + 1 ≤ a ∧ a < B + 12) → L1.1 a = L.1 a := fun a ha => f.1 a (fun g => ha ⟨g.1, by have := g.2; omega⟩)
  exact KI.of (CQ.of hS hU) (by rw [e _ (by omega)]; exact h2) (by rw [e _ (by omega)]; exact h3) (fun k => (h4 k).frame (fun a _ _ => e a (by omega)) (fun a _ _ => e a (by omega))) (fun k => (h5 k).frame (fun a _ _ => e a (by omega)) (fun a _ _ => e a (by omega))) (by rw [e _ (by omega)]; exact h6) (by rw [e _ (by omega)]; exact h7) (by rw [f.2]; exact h8) (by rw [f.2]; exact h9) (by rw [e _ (by omega)]; exact h10) (by rw [e _ (by omega)]; exact h11) (by rw [e _ (by omega)]; exact h12)
theorem KI.forget (h : KI L B G) {L1 : HL} {S' : Sv} (hS : SC L1 (B + 1) S') (f : Fr (SD (B + 1)) L L1) : KI (wI (wI L1 (B + 29) 0 0) (B + 29) 1 0) B (G.set_S (S'.set_un 0)) := by
  obtain ⟨h1, h2, h3, h4, h5, h6, h7, h8, h9, h10, h11, h12⟩ := h
  have e : ∀ a, ¬ (B + 1 ≤ a ∧ a < B + 12) → a ≠ B + 29 → (wI (wI L1 (B + 29) 0 0) (B + 29) 1 0).1 a = L.1 a := fun a ha h2 => by rw [wQ_ne h2, wQ_ne h2]; exact f.1 a (fun g => ha ⟨g.1, by have := g.2; omega⟩)
  refine KI.of (CQ.of ((hS.un0 0).frame fun a _ _ => by rw [wQ_ne (by omega), wQ_ne (by omega)]) ⟨?_, 0, by omega, wQ_same _ _ _ _, fun i hi => absurd hi (Nat.not_lt_zero i)⟩) (by rw [e _ (by omega) (by omega)]; exact h2) (by rw [e _ (by omega) (by omega)]; exact h3) (fun k => (h4 k).frame (fun a _ _ => e a (by omega) (by omega)) (fun a _ _ => e a (by omega) (by omega))) (fun k => (h5 k).frame (fun a _ _ => e a (by omega) (by omega)) (fun a _ _ => e a (by omega) (by omega))) (by rw [e _ (by omega) (by omega)]; exact h6) (by rw [e _ (by omega) (by omega)]; exact h7) (by show L1.2 B 8 = _; rw [f.2]; exact h8) (by show L1.2 B 9 = _; rw [f.2]; exact h9) (by rw [e _ (by omega) (by omega)]; exact h10) (by rw [e _ (by omega) (by omega)]; exact h11) (by rw [e _ (by omega) (by omega)]; exact h12)
  rw [wQ_other (by decide), wQ_same]; rfl
end REF
