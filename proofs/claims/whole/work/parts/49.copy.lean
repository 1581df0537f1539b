/-! ===== copies ===== -/
section CPY
variable {L : HL}
theorem copyRowF {a0 a1 n : Nat} (hne : a0 ≠ a1) (hn : n < 1000) : ∃ L', fX6_copyRow a0 n a1 n L = some L' ∧ (∀ j, j < n → L'.1 a1 j = L.1 a0 j) ∧ Fr (· = a1) L L' := by
  unfold fX6_copyRow fJ9_min_7cf53
  have e : Int32.ofNat n = nI n := rfl
  have c0 : (0 : Int32).toNatClampNeg = 0 := by decide
  rw [e, ite_self, bd_some, nI_cl (by omega), c0, gd_of ⟨hne, by decide, by decide, by rw [nI_nlt0 (by omega)]; exact not_false, by omega, by omega⟩, lt_eq]
  refine ⟨_, rfl, fun j hj => ?_, Fr.wC (A := (· = a1)) (Fr.refl L) rfl _ _ _ _⟩
  rw [wD_at, if_pos rfl, if_pos (by omega)]
  rw [Nat.zero_add, Nat.sub_zero]
theorem copiesF {a0 n0 a2 n2 i j many : Nat} (h0 : i + many ≤ n0) (h2 : j + many ≤ n2) (hn0 : n0 < 1000) (hn2 : n2 < 1000) (hd : a0 ≠ a2 ∨ i + many ≤ j ∨ j + many ≤ i) : ∃ L', fX7_copies a0 n0 (nI i) a2 n2 (nI j) (nI many) L = some L' ∧ (∀ k, k < many → L'.1 a2 (j + k) = L.1 a0 (i + k)) ∧ (∀ k, ¬ (j ≤ k ∧ k < j + many) → L'.1 a2 k = L.1 a2 k) ∧ Fr (· = a2) L L' := by
  unfold fX7_copies
  refine lx_inv many (fun q s => ∃ L1, s = (nI q, L1) ∧ (∀ k, k < q → L1.1 a2 (j + k) = L.1 a0 (i + k)) ∧ (∀ k, ¬ (j ≤ k ∧ k < j + q) → L1.1 a2 k = L.1 a2 k) ∧ Fr (· = a2) L L1) (by rw [FU_20000]; omega) ⟨L, rfl, fun k hk => by omega, fun k _ => rfl, Fr.refl L⟩ ?_ ?_ ?_
  · rintro q _ hq ⟨L1, rfl, h1, h2', f⟩
    unfold fX7_copies_b3
    dsimp only
    rw [if_neg (by rw [nQ_le (by omega) (by omega)]; omega), nQ_add, nQ_add, gd_of (vin_nI (by omega) (by omega)), gd_of (vin_nI (by omega) (by omega)), nI_cl (by omega), nI_cl (by omega)]
    simp only [lt_eq, nQ_s]
    have src : L1.1 a0 (i + q) = L.1 a0 (i + q) := by
      by_cases e : a0 = a2
      · subst e
        exact h2' _ (by omega)
      · rw [f.1 a0 e]
    refine ⟨_, rfl, _, rfl, fun k hk => ?_, fun k hk => ?_, f.wI rfl _ _⟩
    · by_cases e : k = q
      · subst e; rw [wQ_same, src]
      · rw [wQ_other (by omega)]; exact h1 k (by omega)
    · rw [wQ_other (by omega)]; exact h2' k (by omega)
  · rintro _ ⟨L1, rfl, -⟩
    unfold fX7_copies_b3
    dsimp only
    rw [if_pos (by rw [nQ_le (by omega) (by omega)]; omega)]
  · rintro _ ⟨L1, rfl, h⟩
    exact ⟨_, rfl, h⟩
def ln (q : Nat) : Nat := if q = 8 ∨ q = 9 then 6 else if q = 10 then 4 else 5
def TK (L : HL) (a0 a1 r : Nat) (L' : HL) : Prop := Fr (fun a => a0 ≤ a ∧ a < a0 + 11) L L' ∧ (L'.1 a0 0 = L.1 a1 0 ∧ L'.1 a0 1 = L.1 a1 1 ∧ L'.1 a0 2 = L.1 a1 2 ∧ L'.1 a0 3 = L.1 a1 3) ∧ ∀ q, 1 ≤ q → q ≤ r → ∀ j, j < ln q → L'.1 (a0 + q) j = L.1 (a1 + q) j
theorem tk_step {a0 a1 r : Nat} {L' : HL} (hd : a0 + 14 ≤ a1 ∨ a1 + 14 ≤ a0) (hr : r < 10) (h : TK L a0 a1 r L') : ∃ L'', fX6_copyRow (a1 + (r + 1)) (ln (r + 1)) (a0 + (r + 1)) (ln (r + 1)) L' = some L'' ∧ TK L a0 a1 (r + 1) L'' := by
  obtain ⟨f, ⟨c0, c1, c2, c3⟩, q⟩ := h
  obtain ⟨L2, e, v, f2⟩ := copyRowF (L := L') (a0 := a1 + (r + 1)) (a1 := a0 + (r + 1)) (n := ln (r + 1)) (by omega) (by unfold ln; split; omega; split <;> omega)
  refine ⟨L2, e, f.trans (f2.mono fun a h => by omega), ?_, fun x h1 h2 j hj => ?_⟩
  · rw [f2.1 a0 (by omega)]; exact ⟨c0, c1, c2, c3⟩
  · by_cases c : x = r + 1
    · subst c
      rw [v j hj, f.1 (a1 + (r + 1)) (by omega)]
    · rw [f2.1 (a0 + x) (by omega)]; exact q x h1 (by omega) j hj
theorem SC.takeFromF {a0 a1 : Nat} {S : Sv} (hS : SC L a1 S) (hW : WF S) (hd : a0 + 14 ≤ a1 ∨ a1 + 14 ≤ a0) : ∃ L', fX4_takeFrom a0 a1 L = some L' ∧ SC L' a0 S ∧ Fr (fun a => a0 ≤ a ∧ a < a0 + 11) L L' := by
  have h5 := hW.H5
  have h6 := hW.P6
  have hne : a1 ≠ a0 := by omega
  have k0 : TK L a0 a1 0 (wI (wI (wI (wI L a0 0 (L.1 a1 0)) a0 1 (L.1 a1 1)) a0 2 (L.1 a1 2)) a0 3 (L.1 a1 3)) := by
    refine ⟨((((Fr.refl L).wI (by omega) _ _).wI (by omega) _ _).wI (by omega) _ _).wI (by omega) _ _, ?_, fun q h1 h2 => by omega⟩
    refine ⟨?_, ?_, ?_, wQ_same _ _ _ _⟩
    · rw [wQ_other (by omega), wQ_other (by omega), wQ_other (by omega), wQ_same]
    · rw [wQ_other (by omega), wQ_other (by omega), wQ_same]
    · rw [wQ_other (by omega), wQ_same]
  unfold fX4_takeFrom
  simp only [lt_eq, wQ_ne hne]
  obtain ⟨L1, e1, k1⟩ := tk_step hd (by omega) k0
  obtain ⟨L2, e2, k2⟩ := tk_step hd (by omega) k1
  obtain ⟨L3, e3, k3⟩ := tk_step hd (by omega) k2
  obtain ⟨L4, e4, k4⟩ := tk_step hd (by omega) k3
  obtain ⟨L5, e5, k5⟩ := tk_step hd (by omega) k4
  obtain ⟨L6, e6, k6⟩ := tk_step hd (by omega) k5
  obtain ⟨L7, e7, k7⟩ := tk_step hd (by omega) k6
  obtain ⟨L8, e8, k8⟩ := tk_step hd (by omega) k7
  obtain ⟨L9, e9, k9⟩ := tk_step hd (by omega) k8
  obtain ⟨L10, e10, k10⟩ := tk_step hd (by omega) k9
  rw [show fX6_copyRow (a1 + 1) 5 (a0 + 1) 5 _ = some L1 from e1, bd_some, show fX6_copyRow (a1 + 2) 5 (a0 + 2) 5 _ = some L2 from e2, bd_some, show fX6_copyRow (a1 + 3) 5 (a0 + 3) 5 _ = some L3 from e3, bd_some, show fX6_copyRow (a1 + 4) 5 (a0 + 4) 5 _ = some L4 from e4, bd_some, show fX6_copyRow (a1 + 5) 5 (a0 + 5) 5 _ = some L5 from e5, bd_some, show fX6_copyRow (a1 + 6) 5 (a0 + 6) 5 _ = some L6 from e6, bd_some, show fX6_copyRow (a1 + 7) 5 (a0 + 7) 5 _ = some L7 from e7, bd_some, show fX6_copyRow (a1 + 8) 6 (a0 + 8) 6 _ = some L8 from e8, bd_some, show fX6_copyRow (a1 + 9) 6 (a0 + 9) 6 _ = some L9 from e9, bd_some, show fX6_copyRow (a1 + 10) 4 (a0 + 10) 4 _ = some L10 from e10, bd_some]
  obtain ⟨f, ⟨c0, c1, c2, c3⟩, q⟩ := k10
  refine ⟨L10, rfl, ?_, f⟩
  have l5 : ∀ q, q ≤ 7 → ln q = 5 := fun q hq => by unfold ln; rw [if_neg (by omega), if_neg (by omega)]
  refine SC.of (by rw [c0]; exact hS.H) (by rw [c1]; exact hS.st) (by rw [c2]; exact hS.P) (by rw [c3]; exact hS.yr) ?_ ?_ ?_ ?_ ?_ ?_ ?_ ?_ ?_ ?_
  · intro h hh; rw [q 1 (by omega) (by omega) h (by rw [l5 _ (by omega)]; omega)]; exact hS.rm h hh
  · intro h hh; rw [q 2 (by omega) (by omega) h (by rw [l5 _ (by omega)]; omega)]; exact hS.wo h hh
  · intro h hh; rw [q 3 (by omega) (by omega) h (by rw [l5 _ (by omega)]; omega)]; exact hS.be h hh
  · intro h hh; rw [q 4 (by omega) (by omega) h (by rw [l5 _ (by omega)]; omega)]; exact hS.fr h hh
  · intro h hh; rw [q 5 (by omega) (by omega) h (by rw [l5 _ (by omega)]; omega)]; exact hS.wl h hh
  · intro h hh; rw [q 6 (by omega) (by omega) h (by rw [l5 _ (by omega)]; omega)]; exact hS.mk h hh
  · intro h hh; rw [q 7 (by omega) (by omega) h (by rw [l5 _ (by omega)]; omega)]; exact hS.wa h hh
  · intro h hh; rw [q 8 (by omega) (by omega) h (by show h < 6; omega)]; exact hS.fa h hh
  · intro h hh; rw [q 9 (by omega) (by omega) h (by show h < 6; omega)]; exact hS.wh h hh
  · intro h hh; rw [q 10 (by omega) (by omega) h (by show h < 4; omega)]; exact hS.fe h hh
theorem RC.copy {L' : HL} {t t' : Nat} {S : Sv} (h : RC L t S) (e : ∀ k, k < 92 → L'.1 t' k = L.1 t k) : RC L' t' S := by
  obtain ⟨h1, h2, h3, h4, h5, h6, h7, h8, h9, h10, h11, h12, h13, h14⟩ := h
  refine RC.of ?_ ?_ ?_ ?_ ?_ ?_ ?_ ?_ ?_ ?_ ?_ ?_ ?_ ?_
  · rw [e _ (by omega)]; exact h1
  · rw [e _ (by omega)]; exact h2
  · rw [e _ (by omega)]; exact h3
  · intro h hh; rw [e _ (by omega)]; exact h4 h hh
  · intro h hh; rw [e _ (by omega)]; exact h5 h hh
  · intro h hh; rw [e _ (by omega)]; exact h6 h hh
  · intro h hh; rw [e _ (by omega)]; exact h7 h hh
  · intro h hh; rw [e _ (by omega)]; exact h8 h hh
  · intro h hh; rw [e _ (by omega)]; exact h9 h hh
  · intro h hh; rw [e _ (by omega)]; exact h10 h hh
  · intro h hh h' hh'; rw [e _ (by omega)]; exact h11 h hh h' hh'
  · intro h hh; rw [e _ (by omega)]; exact h12 h hh
  · intro h hh; rw [e _ (by omega)]; exact h13 h hh
  · intro h hh h' hh'; rw [e _ (by omega)]; exact h14 h hh h' hh'
theorem RC.layDayF {m : Nat} {S : Sv} (h : RC L (m + 1) S) : ∃ L', fX7_layDay m L = some L' ∧ RC L' (m + 9) S ∧ Fr (· = m + 9) L L' := by
  obtain ⟨L', e, v, -, f⟩ := copiesF (L := L) (a0 := m + 1) (n0 := 228) (a2 := m + 9) (n2 := 92) (i := 0) (j := 0) (many := 92) (by omega) (by omega) (by omega) (by omega) (.inl (by omega))
  unfold fX7_layDay
  rw [show fX7_copies (m + 1) 228 0 (m + 9) 92 0 92 L = some L' from e, bd_some]
  exact ⟨L', rfl, h.copy fun k hk => by have := v k hk; rwa [Nat.zero_add] at this, f⟩
end CPY
