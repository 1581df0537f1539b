/-! ===== falls undone, images ===== -/
def backS (S : Sv) (v : Uv) (u : Nat) : Sv := Sv.of S.H S.P u v.yr S.rm S.wo v.be S.fr S.wl S.mk v.st S.wa S.fa v.wh S.fe
theorem backS_wf {S : Sv} (hW : WF S) {v : Uv} (hv : WU S v) (u : Nat) : WF (backS S v u) := WF.of hW.H5 hW.P6 hv.st hW.wa hW.ws hW.fi hW.fs hW.fm hW.fa hv.wh hW.wl hW.mk hW.fr hW.wo hW.rm
section BCK
variable {L : HL} {p p' s m B : Nat} {S : Sv} {U : Nat → Uv} {G : Gv}
theorem slot_back {nx u i : Nat} (hnx : nx < 8) (hu : u < 8) (hi : i < u) : slot ((nx + 7) % 8) u i = slot nx (u + 1) i := by
  unfold slot; omega
theorem slot_last {nx u : Nat} (hnx : nx < 8) (hu : u < 8) : slot nx (u + 1) u = (nx + 7) % 8 := by
  unfold slot; omega
theorem bringBackF (hS : SC L s S) (hU : PCc L p S U) (hW : WF S) {u : Nat} (hu : S.un = u + 1) (hu8 : u < 8) (hd : s + 14 ≤ p) : ∃ L', fX3_bringBack p s L = some L' ∧ SC L' s (backS S (U u) u) ∧ PCc L' p (backS S (U u) u) U ∧ Fr (fun a => (s ≤ a ∧ a < s + 14) ∨ (p ≤ a ∧ a < p + 21)) L L' := by
  have h5 := hW.H5
  have h6 := hW.P6
  obtain ⟨h1, nx, hnx, h3, h4⟩ := hU
  rw [hu] at h1 h4
  obtain ⟨o1, o2, o3, o4⟩ := h4 u (by omega)
  rw [slot_last hnx hu8] at o1 o2 o3 o4
  have hq : (nx + 7) % 8 < 8 := Nat.mod_lt _ (by omega)
  unfold fX3_bringBack
  rw [h1, if_neg (by rw [l0, nQ_eq (by omega) (by omega)]; omega), h3, fmo8m nx hnx, bd_some]
  have sb := fun i (hi : i < u) => slot_back (i := i) hnx hu8 hi
  generalize (nx + 7) % 8 = q at *
  rw [gd_of (vin_nI hq (by omega)), lt_eq, gd_of (vin_nI hq (by omega)), lt_eq, gd_of (vin_nI hq (by omega))]
  simp only [nI_cl (show q < 2147483648 by omega)]
  rw [wQ_ne (show p + 2 ≠ s by omega), o1, o2]
  have f5 : Fr (· = s) L (wI (wI L s 1 (nI (mask (U u).st 5))) s 3 (U u).yr) := ((Fr.refl (A := (· = s)) L).wI rfl _ _).wI rfl _ _
  have a0 : (wI (wI L s 1 (nI (mask (U u).st 5))) s 3 (U u).yr).1 s 0 = L.1 s 0 := by rw [wQ_other (by omega), wQ_other (by omega)]
  have a1 : (wI (wI L s 1 (nI (mask (U u).st 5))) s 3 (U u).yr).1 s 1 = nI (mask (U u).st 5) := by rw [wQ_other (by omega), wQ_same]
  have a2 : (wI (wI L s 1 (nI (mask (U u).st 5))) s 3 (U u).yr).1 s 2 = L.1 s 2 := by rw [wQ_other (by omega), wQ_other (by omega)]
  have a3 : (wI (wI L s 1 (nI (mask (U u).st 5))) s 3 (U u).yr).1 s 3 = (U u).yr := wQ_same _ _ _ _
  generalize wI (wI L s 1 (nI (mask (U u).st 5))) s 3 (U u).yr = L5 at *
  obtain ⟨L7, e7, v7, f7⟩ := copyRowF (L := L5) (a0 := p + 3 + 1 + q) (a1 := s + 3) (n := 5) (by omega) (by omega)
  obtain ⟨L9, e9, v9, f9⟩ := copyRowF (L := L7) (a0 := p + 12 + 1 + q) (a1 := s + 9) (n := 6) (by omega) (by omega)
  have hp0 : L9.1 p 0 = nI (u + 1) := by rw [f9.1 p (by omega), f7.1 p (by omega), f5.1 p (by omega)]; exact h1
  rw [e7, bd_some, gd_of (vin_nI hq (by omega)), e9, bd_some, lt_eq, wQ_other (show 0 ≠ 1 by omega), hp0, show nI (u + 1) - 1 = nI u from nQ_sub (a := u + 1) (b := 1) (by omega), lt_eq]
  have es : ∀ j, (wI (wI L9 p 1 (nI q)) p 0 (nI u)).1 s j = L5.1 s j := fun j => by rw [wQ_ne (by omega), wQ_ne (by omega), f9.1 s (by omega), f7.1 s (by omega)]
  have eo : ∀ a, a ≠ s → a ≠ s + 3 → a ≠ s + 9 → a ≠ p → (wI (wI L9 p 1 (nI q)) p 0 (nI u)).1 a = L.1 a := fun a h0 h1 h2 h3 => by rw [wQ_ne h3, wQ_ne h3, f9.1 a h2, f7.1 a h1, f5.1 a h0]
  refine ⟨_, rfl, SC.of ?_ ?_ ?_ ?_ ?_ ?_ ?_ ?_ ?_ ?_ ?_ ?_ ?_ ?_, ⟨?_, q, hq, ?_, fun i hi => ?_⟩, ((((f5.mono fun a h => by omega).trans (f7.mono fun a h => by omega)).trans (f9.mono fun a h => by omega)).wI (by omega) _ _).wI (by omega) _ _⟩
  · rw [es, a0]; exact hS.H
  · rw [es, a1]; rfl
  · rw [es, a2]; exact hS.P
  · rw [es, a3]; rfl
  · rw [eo (s + 1) (by omega) (by omega) (by omega) (by omega)]; exact hS.rm
  · rw [eo (s + 2) (by omega) (by omega) (by omega) (by omega)]; exact hS.wo
  · intro h hh
    have hh : h < S.H := hh
    rw [wQ_ne (by omega), wQ_ne (by omega), f9.1 _ (by omega), v7 h (by omega), f5.1 _ (by omega)]
    have := o3 h hh
    rwa [show p + 4 + q = p + 3 + 1 + q by omega] at this
  · rw [eo (s + 4) (by omega) (by omega) (by omega) (by omega)]; exact hS.fr
  · rw [eo (s + 5) (by omega) (by omega) (by omega) (by omega)]; exact hS.wl
  · rw [eo (s + 6) (by omega) (by omega) (by omega) (by omega)]; exact hS.mk
  · rw [eo (s + 7) (by omega) (by omega) (by omega) (by omega)]; exact hS.wa
  · rw [eo (s + 8) (by omega) (by omega) (by omega) (by omega)]; exact hS.fa
  · intro h hh
    have hh : h < S.P := hh
    rw [wQ_ne (by omega), wQ_ne (by omega), v9 h (by omega), f7.1 _ (by omega), f5.1 _ (by omega)]
    have := o4 h hh
    rwa [show p + 13 + q = p + 12 + 1 + q by omega] at this
  · rw [eo (s + 10) (by omega) (by omega) (by omega) (by omega)]; exact hS.fe
  · exact wQ_same _ _ _ _
  · rw [wQ_other (by omega), wQ_same]
  · have hi : i < u := hi
    show PCs _ p _ (U i) (slot q u i)
    rw [sb i hi]
    have hs : slot nx (u + 1) i < 8 := slot_lt
    obtain ⟨q1, q2, q3, q4⟩ := h4 i (by omega)
    exact PCs.of (by rw [eo _ (by omega) (by omega) (by omega) (by omega)]; exact q1) (by rw [eo _ (by omega) (by omega) (by omega) (by omega)]; exact q2) (by rw [eo _ (by omega) (by omega) (by omega) (by omega)]; exact q3) (by rw [eo _ (by omega) (by omega) (by omega) (by omega)]; exact q4)
theorem pastTakeF (hU : PCc L p S U) (hW : WF S) (hun : S.un ≤ 8) (hd : p' + 21 ≤ p ∨ p + 21 ≤ p') : ∃ L', fX3_takeFrom p' p L = some L' ∧ PCc L' p' S U ∧ Fr (fun a => p' ≤ a ∧ a < p' + 21) L L' := by
  have h5 := hW.H5
  have h6 := hW.P6
  obtain ⟨h1, nx, hnx, h3, h4⟩ := hU
  unfold fX3_takeFrom
  rw [lt_eq, lt_eq, wQ_ne (show p ≠ p' by omega), h1, h3]
  have f2 : Fr (fun a => p' ≤ a ∧ a < p' + 21) L (wI (wI L p' 0 (nI S.un)) p' 1 (nI nx)) := ((Fr.refl L).wI (by omega) _ _).wI (by omega) _ _
  have a0 : (wI (wI L p' 0 (nI S.un)) p' 1 (nI nx)).1 p' 0 = nI S.un := by rw [wQ_other (by omega), wQ_same]
  have a1 : (wI (wI L p' 0 (nI S.un)) p' 1 (nI nx)).1 p' 1 = nI nx := wQ_same _ _ _ _
  generalize wI (wI L p' 0 (nI S.un)) p' 1 (nI nx) = L2 at *
  obtain ⟨L3, e3, v3, f3⟩ := copyRowF (L := L2) (a0 := p + 1) (a1 := p' + 1) (n := 8) (by omega) (by omega)
  obtain ⟨L4, e4, v4, f4⟩ := copyRowF (L := L3) (a0 := p + 2) (a1 := p' + 2) (n := 8) (by omega) (by omega)
  rw [e3, bd_some, e4, bd_some]
  have f24 : Fr (fun a => p' ≤ a ∧ a < p' + 21) L L4 := (f2.trans (f3.mono fun a h => by omega)).trans (f4.mono fun a h => by omega)
  refine lx_inv 8 (fun i t => ∃ L5, t = (nI i, L5) ∧ Fr (fun a => p' + 4 ≤ a ∧ a < p' + 21) L4 L5 ∧ ∀ x, x < i → (∀ j, j < 5 → L5.1 (p' + 4 + x) j = L.1 (p + 4 + x) j) ∧ ∀ j, j < 6 → L5.1 (p' + 13 + x) j = L.1 (p + 13 + x) j) (by decide) ⟨L4, rfl, Fr.refl L4, fun x hx => by omega⟩ ?_ ?_ ?_
  · rintro i _ hi ⟨L5, rfl, f5, v5⟩
    unfold fX3_takeFrom_b40
    dsimp only
    obtain ⟨L6, e6, v6, f6⟩ := copyRowF (L := L5) (a0 := p + 3 + 1 + i) (a1 := p' + 3 + 1 + i) (n := 5) (by omega) (by omega)
    obtain ⟨L7, e7, v7, f7⟩ := copyRowF (L := L6) (a0 := p + 12 + 1 + i) (a1 := p' + 12 + 1 + i) (n := 6) (by omega) (by omega)
    rw [if_neg (by rw [l8, nQ_le (by omega) (by omega)]; omega), gd_of (vin_nI hi (by omega)), gd_of (vin_nI hi (by omega))]
    simp only [nI_cl (show i < 2147483648 by omega)]
    rw [e6, bd_some, gd_of (vin_nI hi (by omega)), gd_of (vin_nI hi (by omega)), e7, bd_some, lt_eq, nQ_s]
    refine ⟨_, rfl, L7, rfl, (f5.trans (f6.mono fun a h => by omega)).trans (f7.mono fun a h => by omega), fun x hx => ?_⟩
    by_cases e : x = i
    · subst e
      refine ⟨fun j hj => ?_, fun j hj => ?_⟩
      · rw [f7.1 _ (by omega), show p' + 4 + x = p' + 3 + 1 + x by omega, v6 j hj, f5.1 _ (by omega), f24.1 _ (by omega), show p + 4 + x = p + 3 + 1 + x by omega]
      · rw [show p' + 13 + x = p' + 12 + 1 + x by omega, v7 j hj, f6.1 _ (by omega), f5.1 _ (by omega), f24.1 _ (by omega), show p + 13 + x = p + 12 + 1 + x by omega]
    · obtain ⟨q1, q2⟩ := v5 x (by omega)
      refine ⟨fun j hj => ?_, fun j hj => ?_⟩
      · rw [f7.1 _ (by omega), f6.1 _ (by omega)]; exact q1 j hj
      · rw [f7.1 _ (by omega), f6.1 _ (by omega)]; exact q2 j hj
  · rintro _ ⟨L5, rfl, -⟩
    rfl
  · rintro _ ⟨L5, rfl, f5, v5⟩
    refine ⟨_, rfl, ⟨?_, nx, hnx, ?_, fun i hi => ?_⟩, f24.trans (f5.mono fun a h => by omega)⟩
    · rw [f5.1 p' (by omega), f4.1 p' (by omega), f3.1 p' (by omega)]; exact a0
    · rw [f5.1 p' (by omega), f4.1 p' (by omega), f3.1 p' (by omega)]; exact a1
    · have hs : slot nx S.un i < 8 := slot_lt
      obtain ⟨q1, q2, q3, q4⟩ := h4 i hi
      generalize slot nx S.un i = x at *
      obtain ⟨r1, r2⟩ := v5 x hs
      refine PCs.of ?_ ?_ (fun h hh => ?_) (fun h hh => ?_)
      · rw [f5.1 _ (by omega), f4.1 _ (by omega), v3 x hs, f2.1 _ (by omega)]; exact q1
      · rw [f5.1 _ (by omega), v4 x hs, f3.1 _ (by omega), f2.1 _ (by omega)]; exact q2
      · rw [r1 h (by omega)]; exact q3 h hh
      · rw [r2 h (by omega)]; exact q4 h hh
theorem KI.both (h : KI L B G) {L1 : HL} {S' : Sv} {U' : Nat → Uv} (hQ : CQ L1 (B + 1) (B + 29) S' U') (f : Fr (fun a => (B + 1 ≤ a ∧ a < B + 15) ∨ (B + 29 ≤ a ∧ a < B + 50)) L L1) : KI L1 B ((G.set_S S').set_U U') ∧ FrK B L L1 := by
  obtain ⟨h1, h2, h3, h4, h5, h6, h7, h8, h9, h10, h11, h12⟩ := h
  have e : ∀ a, ¬ ((B + 1 ≤ a ∧ a < B + 15) ∨ (B + 29 ≤ a ∧ a < B + 50)) → L1.1 a = L.1 a := f.1
  exact ⟨KI.of hQ (by rw [e _ (by omega)]; exact h2) (by rw [e _ (by omega)]; exact h3) (fun k => (h4 k).frame (fun a _ _ => e a (by omega)) (fun a _ _ => e a (by omega))) (fun k => (h5 k).frame (fun a _ _ => e a (by omega)) (fun a _ _ => e a (by omega))) (by rw [e _ (by omega)]; exact h6) (by rw [e _ (by omega)]; exact h7) (by rw [f.2]; exact h8) (by rw [f.2]; exact h9) (by rw [e _ (by omega)]; exact h10) (by rw [e _ (by omega)]; exact h11) (by rw [e _ (by omega)]; exact h12), f.K (fun a g => by omega)⟩
theorem undoF (hQ : RQ L (m + 1) S U) {u : Nat} (hu : S.un = u + 1) (hu8 : u < 8) (hW : WF S) : ∃ L', lt (wI L (m + 1) (3 : Int32).toNatClampNeg ((L.1 (m + 1) (3 : Int32).toNatClampNeg) - (1 : Int32))) (fun L3 => lt (((92 : Int32) + ((17 : Int32) * (L3.1 (m + 1) (3 : Int32).toNatClampNeg)))) fun w4 => bd (fX7_copies (m + 1) 228 w4 (m + 1) 228 (29 : Int32) (5 : Int32) L3) fun z5 => bd (fX7_copies (m + 1) 228 (w4 + (5 : Int32)) (m + 1) 228 (14 : Int32) (5 : Int32) z5) fun z6 => bd (fX7_copies (m + 1) 228 (w4 + (10 : Int32)) (m + 1) 228 (70 : Int32) (6 : Int32) z6) fun z7 => gd (vin (w4 + (16 : Int32)) 228) <| lt (wI z7 (m + 1) (2 : Int32).toNatClampNeg (z7.1 (m + 1) (w4 + (16 : Int32)).toNatClampNeg)) fun L9 => some ((1 : Int32), L9)) = some (1, L') ∧ RQ L' (m + 1) (backS S (U u) u) U ∧ Fr (· = m + 1) L L' := by
  have hun := hQ.un
  rw [hu] at hun
  obtain ⟨p1, p2, p3, p4⟩ := hQ.U u (by omega)
  rw [c3q, hun, show nI (u + 1) - 1 = nI u from nQ_sub (a := u + 1) (b := 1) (by omega), lt_eq, wQ_same, l17m, lt_eq, l29, l14, l70, l5, l6, l10, l16, nQ_add, nQ_add, nQ_add, show (2 : Int32).toNatClampNeg = 2 by decide]
  have f0 : Fr (· = m + 1) L (wI L (m + 1) 3 (nI u)) := (Fr.refl (A := (· = m + 1)) L).wI rfl _ _
  have o0 : ∀ k, k ≠ 3 → (wI L (m + 1) 3 (nI u)).1 (m + 1) k = L.1 (m + 1) k := fun k hk => wQ_other hk
  have w0 : (wI L (m + 1) 3 (nI u)).1 (m + 1) 3 = nI u := wQ_same _ _ _ _
  generalize wI L (m + 1) 3 (nI u) = L0 at *
  obtain ⟨L1, e1, v1, o1, f1⟩ := copiesF (L := L0) (a0 := m + 1) (n0 := 228) (a2 := m + 1) (n2 := 228) (j := 29) (i := 92 + 17 * u) (many := 5) (by omega) (by omega) (by omega) (by omega) (.inr (.inr (by omega)))
  obtain ⟨L2, e2, v2, o2, f2⟩ := copiesF (L := L1) (a0 := m + 1) (n0 := 228) (a2 := m + 1) (n2 := 228) (j := 14) (i := 92 + 17 * u + 5) (many := 5) (by omega) (by omega) (by omega) (by omega) (.inr (.inr (by omega)))
  obtain ⟨L3, e3, v3, o3, f3⟩ := copiesF (L := L2) (a0 := m + 1) (n0 := 228) (a2 := m + 1) (n2 := 228) (j := 70) (i := 92 + 17 * u + 10) (many := 6) (by omega) (by omega) (by omega) (by omega) (.inr (.inr (by omega)))
  rw [e1, bd_some, e2, bd_some, e3, bd_some, gd_of (vin_nI (by omega) (by omega)), lt_eq, nI_cl (by omega)]
  have o : ∀ k, k ≠ 2 → k ≠ 3 → ¬ (29 ≤ k ∧ k < 34) → ¬ (14 ≤ k ∧ k < 19) → ¬ (70 ≤ k ∧ k < 76) → (wI L3 (m + 1) 2 (L3.1 (m + 1) (92 + 17 * u + 16))).1 (m + 1) k = L.1 (m + 1) k := fun k h1 h2 h3 h4 h5 => by rw [wQ_other h1, o3 k (by omega), o2 k (by omega), o1 k (by omega), o0 k h2]
  refine ⟨_, rfl, RQ.of (RC.of ?_ ?_ ?_ ?_ ?_ ?_ ?_ ?_ ?_ ?_ ?_ ?_ ?_ ?_) ?_ (fun i hi => ?_), (((f0.trans f1).trans f2).trans f3).wI rfl _ _⟩
  · rw [o 0 (by omega) (by omega) (by omega) (by omega) (by omega)]; exact hQ.S.H
  · rw [o 1 (by omega) (by omega) (by omega) (by omega) (by omega)]; exact hQ.S.P
  · rw [wQ_same, o3 _ (by omega), o2 _ (by omega), o1 _ (by omega), o0 _ (by omega)]; exact p4
  · intro h hh; rw [o _ (by omega) (by omega) (by omega) (by omega) (by omega)]; exact hQ.S.rm h hh
  · intro h hh; rw [o _ (by omega) (by omega) (by omega) (by omega) (by omega)]; exact hQ.S.wo h hh
  · intro h hh; rw [wQ_other (by omega), o3 _ (by omega), v2 h hh, o1 _ (by omega), o0 _ (by omega)]; exact p2 h hh
  · intro h hh; rw [o _ (by omega) (by omega) (by omega) (by omega) (by omega)]; exact hQ.S.fr h hh
  · intro h hh; rw [o _ (by omega) (by omega) (by omega) (by omega) (by omega)]; exact hQ.S.wl h hh
  · intro h hh; rw [wQ_other (by omega), o3 _ (by omega), o2 _ (by omega), v1 h hh, o0 _ (by omega)]; exact p1 h hh
  · intro h hh; rw [o _ (by omega) (by omega) (by omega) (by omega) (by omega)]; exact hQ.S.mk h hh
  · intro x hx y hy; rw [o _ (by omega) (by omega) (by omega) (by omega) (by omega)]; exact hQ.S.wa x hx y hy
  · intro h hh; rw [o _ (by omega) (by omega) (by omega) (by omega) (by omega)]; exact hQ.S.fa h hh
  · intro h hh; rw [wQ_other (by omega), v3 h hh, o2 _ (by omega), o1 _ (by omega), o0 _ (by omega)]; exact p3 h hh
  · intro x hx y hy; rw [o _ (by omega) (by omega) (by omega) (by omega) (by omega)]; exact hQ.S.fe x hx y hy
  · rw [wQ_other (by omega), o3 _ (by omega), o2 _ (by omega), o1 _ (by omega)]; exact w0
  · have hi : i < u := hi
    obtain ⟨q1, q2, q3, q4⟩ := hQ.U i (by omega)
    exact PRs.of (fun x hx => by rw [o _ (by omega) (by omega) (by omega) (by omega) (by omega)]; exact q1 x hx) (fun x hx => by rw [o _ (by omega) (by omega) (by omega) (by omega) (by omega)]; exact q2 x hx) (fun x hx => by rw [o _ (by omega) (by omega) (by omega) (by omega) (by omega)]; exact q3 x hx) (by rw [o _ (by omega) (by omega) (by omega) (by omega) (by omega)]; exact q4)
end BCK
def undoG (G : Gv) (u : Nat) : Gv := (G.set_S (backS G.S (G.U u) u)).set_U G.U
theorem undoG_w {G : Gv} (h : WG G) {u : Nat} (hu : G.S.un = u + 1) : WG (undoG G u) := by
  have h8 := h.Q.un
  refine WG.of (WQ.of (backS_wf h.Q.W (h.Q.U u (by omega)) u) (by show u ≤ 8; omega) (fun i hi => ?_)) h.I h.ln h.by
  have hi : i < u := hi
  have := h.Q.U i (by omega)
  exact WU.of this.st this.wh
theorem ag_undo (B : Nat) : Agree B (fX6_undo B) (fX7_undo (B + 178)) := fun G hW => by
  have h8 := hW.Q.un
  rcases (show G.S.un = 0 ∨ ∃ u, G.S.un = u + 1 from by cases h : G.S.un with | zero => exact .inl rfl | succ u => exact .inr ⟨u, rfl⟩) with h0 | ⟨u, hu⟩
  · refine ⟨-3, noG G, fun L h => ?_, fun L h => ?_, noG_w hW⟩
    · unfold fX6_undo
      rw [show L.1 (B + 29) 0 = nI G.S.un from h.Q.U.1, h0, if_pos (by decide), bd_eta]; exact refK_no (-3) L h
    · unfold fX7_undo
      rw [c3q, h.Q.un, h0, if_pos (by decide), bd_eta]; exact noJ (-3) L h
  · refine ⟨1, undoG G u, fun L h => ?_, fun L h => ?_, undoG_w hW hu⟩
    · unfold fX6_undo
      obtain ⟨L1, e1, q1, q2, f1⟩ := bringBackF h.Q.S h.Q.U hW.Q.W hu (by omega) (by omega)
      rw [show L.1 (B + 29) 0 = nI G.S.un from h.Q.U.1, hu, if_neg (by rw [l0, nQ_eq (by omega) (by omega)]; omega), e1, bd_some]
      exact ⟨_, rfl, rfl, h.both (CQ.of q1 q2) (f1.mono fun a h => by omega)⟩
    · unfold fX7_undo
      obtain ⟨L1, e1, q1, f1⟩ := undoF h.Q hu (by omega) hW.Q.W
      rw [if_neg (by rw [c3q, h.Q.un, hu, l0, nQ_eq (by omega) (by omega)]; omega)]
      exact ⟨_, e1, rfl, h.table q1 f1 (fun a e => .inl e)⟩
