section RPS
variable {L : HL} {m : Nat} {S : Sv} {U : Nat → Uv}
theorem l17m (u : Nat) : (92 : Int32) + (17 : Int32) * nI u = nI (92 + 17 * u) := by rw [l92, l17, nQ_mul, nQ_add]
theorem rem56 (hR : RC L (m + 1) S) {u : Nat} (hu : u < 8) (h3 : L.1 (m + 1) 3 = nI u) : ∃ L', fX7_remember_j56 m L = some L' ∧ (∀ k, k < 92 + 17 * u → k ≠ 3 → L'.1 (m + 1) k = L.1 (m + 1) k) ∧ L'.1 (m + 1) 3 = nI (u + 1) ∧ PRs L' (m + 1) u (cur S) ∧ Fr (· = m + 1) L L' := by
  unfold fX7_remember_j56
  rw [c3q, h3, l17m, lt_eq, l29, l14, l70, l5, l6, l10, l16, nQ_add, nQ_add, nQ_add]
  obtain ⟨L1, e1, v1, o1, f1⟩ := copiesF (L := L) (a0 := m + 1) (n0 := 228) (a2 := m + 1) (n2 := 228) (i := 29) (j := 92 + 17 * u) (many := 5) (by omega) (by omega) (by omega) (by omega) (.inr (.inl (by omega)))
  obtain ⟨L2, e2, v2, o2, f2⟩ := copiesF (L := L1) (a0 := m + 1) (n0 := 228) (a2 := m + 1) (n2 := 228) (i := 14) (j := 92 + 17 * u + 5) (many := 5) (by omega) (by omega) (by omega) (by omega) (.inr (.inl (by omega)))
  obtain ⟨L3, e3, v3, o3, f3⟩ := copiesF (L := L2) (a0 := m + 1) (n0 := 228) (a2 := m + 1) (n2 := 228) (i := 70) (j := 92 + 17 * u + 10) (many := 6) (by omega) (by omega) (by omega) (by omega) (.inr (.inl (by omega)))
  rw [e1, bd_some, e2, bd_some, e3, bd_some, gd_of (vin_nI (by omega) (by omega)), lt_eq, lt_eq, nI_cl (by omega), wQ_other (show 3 ≠ 92 + 17 * u + 16 by omega), show (2 : Int32).toNatClampNeg = 2 by decide]
  have u3 : ∀ k, k < 92 + 17 * u → L3.1 (m + 1) k = L.1 (m + 1) k := fun k hk => by rw [o3 k (by omega), o2 k (by omega), o1 k (by omega)]
  rw [u3 3 (by omega), h3, nQ_s, u3 2 (by omega)]
  refine ⟨_, rfl, fun k hk hk3 => by rw [wQ_other hk3, wQ_other (by omega)]; exact u3 k hk, wQ_same _ _ _ _, PRs.of (fun h hh => ?_) (fun h hh => ?_) (fun q hq => ?_) ?_, ((f1.trans (f2.trans f3)).wI rfl _ _).wI rfl _ _⟩
  · rw [wQ_other (by omega), wQ_other (by omega), o3 _ (by omega), o2 _ (by omega), v1 h hh]; exact hR.st h hh
  · rw [wQ_other (by omega), wQ_other (by omega), o3 _ (by omega), v2 h hh, o1 _ (by omega)]; exact hR.be h hh
  · rw [wQ_other (by omega), wQ_other (by omega), v3 q hq, o2 _ (by omega), o1 _ (by omega)]; exact hR.wh q hq
  · rw [wQ_other (by omega), wQ_same]; exact hR.yr
theorem rememberF (hQ : RQ L (m + 1) S U) (hun : S.un ≤ 8) : ∃ L', fX7_remember m L = some L' ∧ RQ L' (m + 1) (S.set_un (kun S.un)) (kU S U) ∧ Fr (· = m + 1) L L' := by
  unfold fX7_remember
  by_cases c : S.un = 8
  · rw [c3q, hQ.un, if_pos (by rw [c]; rfl)]
    have ek : kun S.un = 8 := by unfold kun; rw [if_pos c]
    have eU : ∀ i, kU S U i = if i < 7 then U (i + 1) else cur S := fun i => by unfold kU; rw [if_pos c]
    refine lx_inv 119 (fun i s => ∃ L2, s = (nI i, L2) ∧ Fr (· = m + 1) L L2 ∧ (∀ k, k < 92 → L2.1 (m + 1) k = L.1 (m + 1) k) ∧ (∀ k, k < i → L2.1 (m + 1) (92 + k) = L.1 (m + 1) (92 + k + 17)) ∧ ∀ k, i ≤ k → L2.1 (m + 1) (92 + k) = L.1 (m + 1) (92 + k)) (by decide) ⟨L, rfl, Fr.refl L, fun k _ => rfl, fun k hk => by omega, fun k _ => rfl⟩ ?_ ?_ ?_
    · rintro i _ hi ⟨L2, rfl, f, q0, q1, q2⟩
      unfold fX7_remember_b13
      dsimp only
      rw [if_neg (by rw [l119, nQ_le (by omega) (by omega)]; omega), l92, l17, nQ_add, nQ_add, gd_of (vin_nI (by omega) (by omega)), gd_of (vin_nI (by omega) (by omega)), nI_cl (by omega), nI_cl (by omega)]
      simp only [lt_eq, nQ_s]
      refine ⟨_, rfl, _, rfl, f.wI rfl _ _, fun k hk => by rw [wQ_other (by omega)]; exact q0 k hk, fun k hk => ?_, fun k hk => by rw [wQ_other (by omega)]; exact q2 k (by omega)⟩
      by_cases e : k = i
      · subst e; rw [wQ_same]; have := q2 (k + 17) (by omega); rwa [← Nat.add_assoc] at this
      · rw [wQ_other (by omega)]; exact q1 k (by omega)
    · rintro _ ⟨L2, rfl, -⟩; rfl
    · rintro _ ⟨L2, rfl, f, q0, q1, q2⟩
      rw [lt_eq]
      have h3 : L2.1 (m + 1) 3 = nI 8 := by rw [q0 3 (by omega), hQ.un, c]
      dsimp only
      rw [h3, show nI 8 - (1 : Int32) = nI 7 by decide]
      have hR2 : RC (wI L2 (m + 1) 3 (nI 7)) (m + 1) S := hQ.S.copy3 fun k hk hk3 => by rw [wQ_other hk3]; exact q0 k hk
      obtain ⟨L4, e4, o4, n4, p4, f4⟩ := rem56 hR2 (u := 7) (by omega) (wQ_same _ _ _ _)
      rw [e4]
      refine ⟨_, rfl, RQ.of ((hR2.copy3 fun k hk hk3 => o4 k (by omega) hk3).un0 _) (by rw [ek]; exact n4) (fun i hi => ?_), (f.wI rfl _ _).trans f4⟩
      rw [eU]
      have hi : i < kun S.un := hi
      rw [ek] at hi
      by_cases e : i = 7
      · subst e; rw [if_neg (by omega)]; exact p4
      · rw [if_pos (by omega)]
        obtain ⟨h1, h2, h3, h4⟩ := hQ.U (i + 1) (by omega)
        have sh : ∀ k, 92 ≤ k → k < 92 + 119 → L4.1 (m + 1) k = L.1 (m + 1) (k + 17) := by
          intro k hk hk2
          rw [o4 k (by omega) (by omega), wQ_other (by omega)]
          have := q1 (k - 92) (by omega)
          rwa [show 92 + (k - 92) = k by omega] at this
        refine PRs.of (fun x hx => ?_) (fun x hx => ?_) (fun x hx => ?_) ?_
        · rw [sh _ (by omega) (by omega), ← h1 x hx]; exact congrArg (L.1 (m + 1)) (by omega)
        · rw [sh _ (by omega) (by omega), ← h2 x hx]; exact congrArg (L.1 (m + 1)) (by omega)
        · rw [sh _ (by omega) (by omega), ← h3 x hx]; exact congrArg (L.1 (m + 1)) (by omega)
        · rw [sh _ (by omega) (by omega), ← h4]; exact congrArg (L.1 (m + 1)) (by omega)
  · rw [c3q, hQ.un, if_neg (by rw [l8, nQ_eq (by omega) (by omega)]; exact c)]
    have ek : kun S.un = S.un + 1 := by unfold kun; rw [if_neg c]
    have eU : ∀ i, kU S U i = if i = S.un then cur S else U i := fun i => by unfold kU; rw [if_neg c]
    obtain ⟨L4, e4, o4, n4, p4, f4⟩ := rem56 hQ.S (u := S.un) (by omega) hQ.un
    rw [e4]
    refine ⟨_, rfl, RQ.of ((hQ.S.copy3 fun k hk hk3 => o4 k (by omega) hk3).un0 _) (by rw [ek]; exact n4) (fun i hi => ?_), f4⟩
    rw [eU]
    have hi : i < kun S.un := hi
    rw [ek] at hi
    by_cases e : i = S.un
    · rw [if_pos e, e]; exact p4
    · rw [if_neg e]
      obtain ⟨h1, h2, h3, h4⟩ := hQ.U i (by omega)
      exact PRs.of (fun x hx => by rw [o4 _ (by omega) (by omega)]; exact h1 x hx) (fun x hx => by rw [o4 _ (by omega) (by omega)]; exact h2 x hx) (fun x hx => by rw [o4 _ (by omega) (by omega)]; exact h3 x hx) (by rw [o4 _ (by omega) (by omega)]; exact h4)
end RPS
