/-! ===== the reference: kin, degrees ===== -/
theorem ex_in {σ ρ : Type} {F : Option (σ ⊕ ρ)} {I : σ → Prop} (h : ∃ x, F = some x ∧ ∃ s', x = .inl s' ∧ I s') : ∃ s', F = some (.inl s') ∧ I s' := by
  obtain ⟨x, h1, s', h2, h3⟩ := h
  subst h2
  exact ⟨s', h1, h3⟩
def kr (S : Sv) (a b : Nat) : Bool := (S.wa a b && (S.st a && S.st b)) || (decide (S.fr a = nI b) || decide (S.fr b = nI a))
theorem kr_kx {S : Sv} {a b : Nat} (hb : b < S.H) : kr S a b = kx S a b := by
  unfold kr kx
  rw [decide_eq_true hb]
  cases S.wa a b <;> cases S.st a <;> cases S.st b <;> simp [Bool.or_comm]
section RDEG
variable {L : HL} {t n : Nat} {S : Sv}
theorem RC.isKinF (hR : RC L t S) (hn : 92 ≤ n) (hn' : n < 1000) {a b : Nat} (ha : a < 5) (hb : b < 5) : fX7_isKin t n (nI a) (nI b) L = some (bI (kr S a b)) := by
  unfold fX7_isKin fX7_isKin_j38 fX7_isKin_j39 fX7_isKin_j64
  simp (disch := omega) only [l39, l5, l29, l19, nQ_mul, nQ_add, lt_eq, gd_true, bd_some, lx_inl, lx_inr, if_true, if_false, vin_t, nI_cl, hR.wa a ha b hb, hR.st a ha, hR.st b hb, hR.fr a ha, hR.fr b hb, bI_e1]
  unfold kr
  by_cases c1 : S.wa a b = true <;> by_cases c2 : S.st a = true <;> by_cases c3 : S.st b = true <;> by_cases c4 : S.fr a = nI b <;> by_cases c5 : S.fr b = nI a <;> simp [c1, c2, c3, c4, c5, bI]
theorem RC.degreeOnF {m : Nat} (hR : RC L t S) (hW : WF S) (hn : 92 ≤ n) (hn' : n < 1000) (htm : t ≠ m + 8) {a b : Nat} (ha : a < S.H) (hb : b < 5) : ∃ z, fX7_degreeOn m t n (nI a) (nI b) L = some z ∧ z.1 = dg S a b ∧ Fr (· = m + 8) L z.2 := by
  have h5 := hW.H5
  have pre : ∀ {L1 : HL}, Fr (· = m + 8) L L1 → RC L1 t S := fun f => hR.frame (f.1 t htm)
  unfold fX7_degreeOn
  refine lx_inv 5 (fun i s => ∃ L1, s = (nI i, L1) ∧ Fr (· = m + 8) L L1 ∧ ∀ h, h < i → L1.1 (m + 8) h = nI (if h = a then 0 else 1000000)) (by decide) ⟨L, rfl, Fr.refl L, fun h hh => by omega⟩ ?_ ?_ ?_
  · rintro i _ hi ⟨L1, rfl, f, q⟩
    unfold fX7_degreeOn_b3 fX7_degreeOn_j27
    have g1 : ¬ 5 ≤ i := by omega
    simp (disch := omega) only [l5, nQ_le, g1, nQ_eq, lt_eq, gd_true, bd_some, lx_inl, lx_inr, if_true, if_false, vin_t, nI_cl, nQ_s]
    by_cases c : i = a
    · simp only [c, if_true]
      refine ⟨_, rfl, _, rfl, f.wI rfl _ _, fun h hh => ?_⟩
      by_cases e : h = a
      · subst e; rw [wQ_same, if_pos rfl]; rfl
      · rw [wQ_other e]; exact q h (by omega)
    · simp only [c, if_false]
      refine ⟨_, rfl, _, rfl, f.wI rfl _ _, fun h hh => ?_⟩
      by_cases e : h = i
      · subst e; rw [wQ_same, if_neg c]; rfl
      · rw [wQ_other e]; exact q h (by omega)
  · rintro _ ⟨L1, rfl, -⟩
    rfl
  · rintro _ ⟨L1, rfl, f, q⟩
    -- what holds of the row all the while
    refine lx_inv 5 (fun T s => ∃ (L1 : HL) (D : Nat → Nat), s = (nI T, L1) ∧ Fr (· = m + 8) L L1 ∧ (∀ x, x < 5 → L1.1 (m + 8) x = nI (D x)) ∧ (∀ x, x < 5 → D x ≤ 1000000 ∧ (D x < 1000000 → rk S a (D x) x = true)) ∧ ∀ j, j ≤ T → ∀ x, x < 5 → rk S a j x = true → D x ≤ j) (by decide) ⟨L1, fun x => if x = a then 0 else 1000000, rfl, f, q, ?_, ?_⟩ ?_ ?_ ?_
    · intro x _
      by_cases e : x = a
      · subst e; simp [rk]
      · simp [e]
    · intro j hj x _ e
      have : j = 0 := by omega
      subst this
      have : x = a := by simpa [rk] using e
      simp [this]
    · rintro T _ hT ⟨L1, D, rfl, f, q, A, B⟩
      unfold fX7_degreeOn_b37
      have g1 : ¬ 5 ≤ T := by omega
      simp (disch := omega) only [l5, nQ_le, g1, if_false]
      refine ex_in ?_
      refine lx_inv S.H (fun h s => ∃ (L2 : HL) (D : Nat → Nat), s = (nI h, L2) ∧ Fr (· = m + 8) L L2 ∧ (∀ x, x < 5 → L2.1 (m + 8) x = nI (D x)) ∧ (∀ x, x < 5 → D x ≤ 1000000 ∧ (D x < 1000000 → rk S a (D x) x = true)) ∧ (∀ j, j ≤ T → ∀ x, x < 5 → rk S a j x = true → D x ≤ j) ∧ ∀ g, g < h → ∀ x, x < S.H → kx S g x = true → ∀ j, j ≤ T → rk S a j g = true → D x ≤ j + 1) (by rw [FU_20000]; omega) ⟨L1, D, rfl, f, q, A, B, fun g hg => by omega⟩ ?_ ?_ ?_
      · rintro h _ hh ⟨L2, D, rfl, f, q, A, B, C⟩
        unfold fX7_degreeOn_b46
        have g2 : ¬ S.H ≤ h := by omega
        simp (disch := omega) only [l0, vin_t, lt_eq, gd_true, bd_some, lx_inl, lx_inr, if_true, if_false, nI_cl, (pre f).H, nQ_le, g2]
        refine ex_in ?_
        refine lx_inv S.H (fun e s => ∃ (L2 : HL) (D : Nat → Nat), s = (nI e, L2) ∧ Fr (· = m + 8) L L2 ∧ (∀ x, x < 5 → L2.1 (m + 8) x = nI (D x)) ∧ (∀ x, x < 5 → D x ≤ 1000000 ∧ (D x < 1000000 → rk S a (D x) x = true)) ∧ (∀ j, j ≤ T → ∀ x, x < 5 → rk S a j x = true → D x ≤ j) ∧ (∀ g, g < h → ∀ x, x < S.H → kx S g x = true → ∀ j, j ≤ T → rk S a j g = true → D x ≤ j + 1) ∧ ∀ x, x < e → kx S h x = true → ∀ j, j ≤ T → rk S a j h = true → D x ≤ j + 1) (by rw [FU_20000]; omega) ⟨L2, D, rfl, f, q, A, B, C, fun g hg => by omega⟩ ?_ ?_ ?_
        · rintro e _ he ⟨L2, D, rfl, f, q, A, B, C, E⟩
          unfold fX7_degreeOn_b57 fX7_degreeOn_j120 fX7_degreeOn_j127
          have g3 : ¬ S.H ≤ e := by omega
          simp (disch := omega) only [l0, vin_t, lt_eq, gd_true, bd_some, lx_inl, lx_inr, if_true, if_false, nI_cl, (pre f).H, nQ_le, g3, nQ_eq, (pre f).isKinF hn hn', q e (by omega), q h (by omega), nQ_s]
          -- nothing changes
          have stay : (kx S h e = true → h ≠ e → D e ≤ D h + 1) → ∃ s', some (Sum.inl (nI (e + 1), wI L2 (m + 8) e (nI (D e)))) = some (Sum.inl (β := (Int32 × HL) ⊕ (Int32 × HL)) s') ∧ ∃ (L2 : HL) (D : Nat → Nat), s' = (nI (e + 1), L2) ∧ Fr (· = m + 8) L L2 ∧ (∀ x, x < 5 → L2.1 (m + 8) x = nI (D x)) ∧ (∀ x, x < 5 → D x ≤ 1000000 ∧ (D x < 1000000 → rk S a (D x) x = true)) ∧ (∀ j, j ≤ T → ∀ x, x < 5 → rk S a j x = true → D x ≤ j) ∧ (∀ g, g < h → ∀ x, x < S.H → kx S g x = true → ∀ j, j ≤ T → rk S a j g = true → D x ≤ j + 1) ∧ ∀ x, x < e + 1 → kx S h x = true → ∀ j, j ≤ T → rk S a j h = true → D x ≤ j + 1 := by
            intro hk
            refine ⟨_, rfl, _, D, rfl, f.wI rfl _ _, fun x hx => ?_, A, B, C, fun x hx hkx j hj hr => ?_⟩
            · by_cases c : x = e
              · subst c; rw [wQ_same]
              · rw [wQ_other c]; exact q x hx
            · by_cases c : x = e
              · subst c
                have := B j hj h (by omega) hr
                by_cases c' : h = x
                · subst c'; omega
                · have := hk hkx c'; omega
              · exact E x (by omega) hkx j hj hr
          by_cases c1 : h = e
          · rw [if_pos c1]
            exact stay (fun _ z => absurd c1 z)
          · rw [if_neg c1]
            rw [kr_kx he]
            cases c2 : kx S h e
            · simp only [bI_f, if_true]
              exact stay (fun z => by rw [c2] at z; cases z)
            · rw [if_neg (by decide)]
              have dh := (A h (by omega)).1
              have de := (A e (by omega)).1
              simp (disch := omega) only [nQ_le]
              by_cases c3 : D e ≤ D h + 1
              · simp only [c3, if_true]
                exact stay (fun _ _ => c3)
              · simp only [c3, if_false]
                refine ⟨_, rfl, _, fun x => if x = e then D h + 1 else D x, rfl, f.wI rfl _ _, fun x hx => ?_, fun x hx => ?_, fun j hj x hx hr => ?_, fun g hg x hx hkx j hj hr => ?_, fun x hx hkx j hj hr => ?_⟩
                · by_cases c : x = e
                  · subst c; simp only [wQ_same, if_true]
                  · rw [wQ_other c]; simp only [c, if_false]; exact q x hx
                · by_cases c : x = e
                  · subst c
                    simp only [if_true]
                    refine ⟨by omega, fun _ => rk_s.mpr (.inr ⟨h, by omega, (A h (by omega)).2 (by omega), c2⟩)⟩
                  · simp only [c, if_false]; exact A x hx
                · have := B j hj x hx hr
                  by_cases c : x = e
                  · subst c; simp only [if_true]; omega
                  · simp only [c, if_false]; exact this
                · have := C g hg x hx hkx j hj hr
                  by_cases c : x = e
                  · subst c; simp only [if_true]; omega
                  · simp only [c, if_false]; exact this
                · by_cases c : x = e
                  · subst c; simp only [if_true]
                    have := B j hj h (by omega) hr
                    omega
                  · simp only [c, if_false]; exact E x (by omega) hkx j hj hr
        · rintro _ ⟨L2, D, rfl, f, -⟩
          unfold fX7_degreeOn_b57
          simp (disch := omega) only [l0, vin_t, lt_eq, gd_true, bd_some, lx_inl, lx_inr, if_true, if_false, nI_cl, (pre f).H, nQ_le, Nat.le_refl]
        · rintro _ ⟨L2, D, rfl, f, q, A, B, C, E⟩
          simp only [lt_eq, nQ_s]
          refine ⟨_, rfl, _, rfl, L2, D, rfl, f, q, A, B, fun g hg x hx hk j hj hr => ?_⟩
          by_cases c : g = h
          · subst c; exact E x hx hk j hj hr
          · exact C g (by omega) x hx hk j hj hr
      · rintro _ ⟨L2, D, rfl, f, -⟩
        unfold fX7_degreeOn_b46
        simp (disch := omega) only [l0, vin_t, lt_eq, gd_true, bd_some, lx_inl, lx_inr, if_true, if_false, nI_cl, (pre f).H, nQ_le, Nat.le_refl]
      · rintro _ ⟨L2, D, rfl, f, q, A, B, C⟩
        simp only [lt_eq, nQ_s]
        refine ⟨_, rfl, _, rfl, L2, D, rfl, f, q, A, fun j hj x hx hr => ?_⟩
        by_cases c : j ≤ T
        · exact B j c x hx hr
        · have : j = T + 1 := by omega
          subst this
          rcases rk_s.mp hr with hr | ⟨g, hg, hr, hk⟩
          · have := B T (by omega) x hx hr; omega
          · exact C g (rk_lt hW ha hr) x (kx_lt hW hk) hk T (by omega) hr
    · rintro _ ⟨L1, D, rfl, -⟩
      rfl
    · rintro _ ⟨L1, D, rfl, f, q, A, B⟩
      have db := (A b hb).1
      simp (disch := omega) only [lM, vin_t, lt_eq, gd_true, bd_some, lx_inl, lx_inr, if_true, if_false, nI_cl, q b hb, nQ_le]
      rcases dg_s S a b with ⟨j, hj, e, hr, hn⟩ | ⟨e, hn⟩
      · have h1 := B j (by omega) b hb hr
        have h2 := (A b hb).2 (by omega)
        have h3 : ¬ D b < j := fun c => by rw [hn _ c] at h2; cases h2
        have h4 : D b = j := by omega
        rw [if_neg (by omega)]
        exact ⟨_, rfl, by rw [e, h4], f⟩
      · have h4 : ¬ D b < 1000000 := fun c => by
          have := rk_four (S := S) (a := a) (by omega) hb ((A b hb).2 c)
          rw [hn 4 (by omega)] at this; cases this
        rw [if_pos (by omega)]
        exact ⟨_, rfl, e.symm, f⟩
end RDEG
