/-! ===== degrees: rings of kin, and how far all are ===== -/
theorem any_t {n : Nat} {p : Nat → Bool} : (List.range n).any p = true ↔ ∃ g, g < n ∧ p g = true := by
  rw [List.any_eq_true]
  exact ⟨fun ⟨g, h1, h2⟩ => ⟨g, List.mem_range.mp h1, h2⟩, fun ⟨g, h1, h2⟩ => ⟨g, List.mem_range.mpr h1, h2⟩⟩
def rk (S : Sv) (a : Nat) : Nat → Nat → Bool
  | 0, h => h == a
  | k + 1, h => rk S a k h || (List.range 5).any fun g => rk S a k g && kx S g h
def rg (S : Sv) (a : Nat) : Nat → Nat → Bool
  | 0, h => h == a
  | k + 1, h => rk S a (k + 1) h && !rk S a k h
def dgk (S : Sv) (a : Nat) : Nat → Nat → Int32
  | 0, _ => -1
  | k + 1, h => if rg S a k h then nI k else dgk S a k h
def dg (S : Sv) (a h : Nat) : Int32 := dgk S a 5 h
section DEG
variable {L : HL} {b : Nat} {S : Sv}
theorem kx_lt (hW : WF S) {g h : Nat} (e : kx S g h = true) : h < S.H := by
  unfold kx at e
  simp only [Bool.or_eq_true, Bool.and_eq_true, decide_eq_true_eq] at e
  rcases e with e | e
  · exact (hW.wa _ _ e.2.1).2.1
  · exact e.1
theorem rk_s {a k h : Nat} : rk S a (k + 1) h = true ↔ rk S a k h = true ∨ ∃ g, g < 5 ∧ rk S a k g = true ∧ kx S g h = true := by
  show (rk S a k h || (List.range 5).any fun g => rk S a k g && kx S g h) = true ↔ _
  rw [Bool.or_eq_true, any_t]
  simp only [Bool.and_eq_true]
theorem rk_lt (hW : WF S) {a : Nat} (ha : a < S.H) : ∀ {k h : Nat}, rk S a k h = true → h < S.H
  | 0, h, e => by
    have : h = a := by simpa [rk] using e
    omega
  | k + 1, h, e => by
    rcases rk_s.mp e with e | ⟨g, -, -, e⟩
    · exact rk_lt hW ha e
    · exact kx_lt hW e
theorem rk_mono {a k j h : Nat} (hkj : k ≤ j) (e : rk S a k h = true) : rk S a j h = true := by
  induction j with
  | zero => have : k = 0 := by omega
            subst this; exact e
  | succ j ih =>
    by_cases g : k = j + 1
    · subst g; exact e
    · exact rk_s.mpr (.inl (ih (by omega)))
theorem rk_stab {a k : Nat} (e : ∀ h, h < 5 → rk S a (k + 1) h = rk S a k h) : ∀ d h, h < 5 → rk S a (k + d) h = rk S a k h := by
  intro d
  induction d with
  | zero => intro h _; rfl
  | succ d ih =>
    intro h hh
    rw [← e h hh]
    rw [show k + (d + 1) = (k + d) + 1 by omega]
    refine Bool.eq_iff_iff.mpr ?_
    rw [rk_s, rk_s, ih h hh]
    refine or_congr Iff.rfl (exists_congr fun g => and_congr_right fun hg => ?_)
    rw [ih g hg]
def pc5 (p : Nat → Bool) : Nat := (if p 0 then 1 else 0) + (if p 1 then 1 else 0) + (if p 2 then 1 else 0) + (if p 3 then 1 else 0) + (if p 4 then 1 else 0)
theorem all5 {p : Nat → Prop} (h0 : p 0) (h1 : p 1) (h2 : p 2) (h3 : p 3) (h4 : p 4) : ∀ i, i < 5 → p i := by
  intro i hi
  rcases (show i = 0 ∨ i = 1 ∨ i = 2 ∨ i = 3 ∨ i = 4 by omega) with e | e | e | e | e <;> subst e <;> assumption
theorem pc5_lt {p q : Nat → Bool} (h : ∀ i, i < 5 → p i = true → q i = true) (hne : ¬ ∀ i, i < 5 → q i = p i) : pc5 p < pc5 q := by
  have key : ∀ a b : Bool, (a = true → b = true) → (if a then 1 else 0) ≤ (if b then 1 else 0) ∧ ((if a then 1 else 0) = (if b then 1 else 0) → b = a) := by decide
  obtain ⟨a0, b0⟩ := key _ _ (h 0 (by omega))
  obtain ⟨a1, b1⟩ := key _ _ (h 1 (by omega))
  obtain ⟨a2, b2⟩ := key _ _ (h 2 (by omega))
  obtain ⟨a3, b3⟩ := key _ _ (h 3 (by omega))
  obtain ⟨a4, b4⟩ := key _ _ (h 4 (by omega))
  unfold pc5
  refine Decidable.byContradiction fun hc => hne ?_
  exact all5 (b0 (by omega)) (b1 (by omega)) (b2 (by omega)) (b3 (by omega)) (b4 (by omega))
theorem pc5_le (p : Nat → Bool) : pc5 p ≤ 5 := by
  unfold pc5
  have key : ∀ a : Bool, (if a then 1 else 0) ≤ 1 := by decide
  have := key (p 0)
  have := key (p 1)
  have := key (p 2)
  have := key (p 3)
  have := key (p 4)
  omega
/-- what is ever reached is reached in four steps -/
theorem rk_four {a : Nat} (ha : a < 5) {d h : Nat} (hh : h < 5) (e : rk S a d h = true) : rk S a 4 h = true := by
  have grow : ∀ k, k ≤ 4 → (∀ h, h < 5 → rk S a (k + 1) h = rk S a k h) ∨ k + 2 ≤ pc5 (rk S a (k + 1)) := by
    intro k
    induction k with
    | zero =>
      intro _
      by_cases c : ∀ h, h < 5 → rk S a (0 + 1) h = rk S a 0 h
      · exact .inl c
      · right
        have h1 : pc5 (rk S a 0) < pc5 (rk S a (0 + 1)) := pc5_lt (fun i _ => rk_mono (S := S) (a := a) (show 0 ≤ 0 + 1 by omega)) c
        have h0 : 1 ≤ pc5 (rk S a 0) := by
          have : pc5 (fun _ => false) < pc5 (rk S a 0) := pc5_lt (fun _ _ e => by cases e) (fun c => by have := c a ha; simp [rk] at this)
          omega
        omega
    | succ k ih =>
      intro hk
      rcases ih (by omega) with c | c
      · left
        intro h hh
        have h1 := rk_stab c 1 h hh
        have h2 := rk_stab c 2 h hh
        rw [h1]; exact h2
      · by_cases c' : ∀ h, h < 5 → rk S a (k + 1 + 1) h = rk S a (k + 1) h
        · exact .inl c'
        · right
          have h1 : pc5 (rk S a (k + 1)) < pc5 (rk S a (k + 1 + 1)) := pc5_lt (fun i _ => rk_mono (S := S) (a := a) (show k + 1 ≤ k + 1 + 1 by omega)) c'
          omega
  by_cases hd : d ≤ 4
  · exact rk_mono hd e
  · rcases grow 4 (by omega) with c | c
    · rw [← rk_stab c (d - 4) h hh, show 4 + (d - 4) = d by omega]; exact e
    · have := pc5_le (rk S a (4 + 1)); omega
theorem rg_s {a k h : Nat} : rg S a k h = true ↔ rk S a k h = true ∧ ∀ j, j < k → rk S a j h = false := by
  cases k with
  | zero => exact ⟨fun e => ⟨e, fun j hj => by omega⟩, fun e => e.1⟩
  | succ k =>
    show (rk S a (k + 1) h && !rk S a k h) = true ↔ _
    rw [Bool.and_eq_true, Bool.not_eq_true']
    refine and_congr_right fun _ => ⟨fun e j hj => ?_, fun e => e k (by omega)⟩
    cases c : rk S a j h
    · rfl
    · rw [rk_mono (by omega) c] at e; cases e
theorem dgk_s {a h : Nat} : ∀ k, (∃ j, j < k ∧ dgk S a k h = nI j ∧ rk S a j h = true ∧ ∀ i, i < j → rk S a i h = false) ∨ (dgk S a k h = -1 ∧ ∀ j, j < k → rk S a j h = false)
  | 0 => .inr ⟨rfl, fun j hj => by omega⟩
  | k + 1 => by
    show (∃ j, j < k + 1 ∧ (if rg S a k h then nI k else dgk S a k h) = nI j ∧ _ ∧ _) ∨ ((if rg S a k h then nI k else dgk S a k h) = -1 ∧ _)
    by_cases c : rg S a k h = true
    · rw [if_pos c]
      exact .inl ⟨k, by omega, rfl, (rg_s.mp c).1, (rg_s.mp c).2⟩
    · rw [if_neg c]
      rcases dgk_s (a := a) (h := h) k with ⟨j, h1, h2, h3, h4⟩ | ⟨h1, h2⟩
      · exact .inl ⟨j, by omega, h2, h3, h4⟩
      · refine .inr ⟨h1, fun j hj => ?_⟩
        by_cases e : j = k
        · subst e
          cases c' : rk S a j h
          · rfl
          · exact absurd (rg_s.mpr ⟨c', h2⟩) c
        · exact h2 j (by omega)
theorem dg_s (S : Sv) (a h : Nat) : (∃ j, j < 5 ∧ dg S a h = nI j ∧ rk S a j h = true ∧ ∀ i, i < j → rk S a i h = false) ∨ (dg S a h = -1 ∧ ∀ j, j < 5 → rk S a j h = false) := dgk_s 5
/-- the class's measuring -/
theorem SC.measureStepsF (hS : SC L b S) (hW : WF S) {a : Nat} (ha : a < S.H) : ∃ L', fX4_measureSteps b (nI a) L = some L' ∧ Fr (· = b + 11) L L' ∧ ∀ h, h < 5 → L'.1 (b + 11) h = dg S a h := by
  have h5 := hW.H5
  have pre : ∀ {L1 : HL}, Fr (· = b + 11) L L1 → SC L1 b S := fun f => hS.frame fun x _ _ => f.1 x (by omega)
  unfold fX4_measureSteps
  refine lx_inv 5 (fun i s => ∃ L1, s = (nI i, L1) ∧ Fr (· = b + 11) L L1 ∧ ∀ h, h < i → L1.1 (b + 11) h = -1) (by decide) ⟨L, rfl, Fr.refl L, fun h hh => by omega⟩ ?_ ?_ ?_
  · rintro i _ hi ⟨L1, rfl, f, q⟩
    unfold fX4_measureSteps_b2
    have g1 : ¬ 5 ≤ i := by omega
    simp (disch := omega) only [l5, nQ_le, g1, lt_eq, gd_true, bd_some, lx_inl, lx_inr, if_true, if_false, vin_t, nI_cl, nQ_s]
    refine ⟨_, rfl, _, rfl, f.wI rfl _ _, fun h hh => ?_⟩
    by_cases e : h = i
    · subst e; exact wQ_same _ _ _ _
    · rw [wQ_other e]; exact q h (by omega)
  · rintro _ ⟨L1, rfl, -⟩
    rfl
  · rintro _ ⟨L1, rfl, f, q⟩
    simp only [lt_eq]
    rw [i_shl (n := 5) (by omega) (show a < 5 by omega)]
    -- the rings
    have fin : ∀ k, (∀ h, h < 5 → rg S a k h = false) → ∀ d h, h < 5 → dgk S a (k + d) h = dgk S a k h := by
      intro k hk d
      induction d with
      | zero => intro h _; rfl
      | succ d ih =>
        intro h hh
        show (if rg S a (k + d) h then nI (k + d) else dgk S a (k + d) h) = _
        rw [if_neg, ih h hh]
        intro e
        cases k with
        | zero => have := hk a (by omega); simp [rg] at this
        | succ k =>
          have st : ∀ h, h < 5 → rk S a (k + 1) h = rk S a k h := by
            intro h hh
            have := hk h hh
            simp only [rg] at this
            cases c1 : rk S a k h
            · rw [c1] at this; simpa using this
            · exact rk_mono (by omega) c1
          have e1 := rg_s.mp e
          have e2 := rk_stab st (1 + d) h hh
          rw [show k + (1 + d) = k + 1 + d by omega, e1.1] at e2
          have := e1.2 k (by omega)
          rw [← e2] at this; cases this
    obtain ⟨x, h1, P⟩ := Ok.lp (f := fun s22 : Int32 × Int32 × Int32 × HL => fX4_measureSteps_b29 b s22.1 s22.2.1 s22.2.2.1 s22.2.2.2) (fun k s => ∃ L1, s = (nI (mask (rk S a k) 5), nI (mask (rg S a k) 5), nI k, L1) ∧ Fr (· = b + 11) L L1 ∧ ∀ h, h < 5 → L1.1 (b + 11) h = dgk S a k h) 5 (P := fun x => ∃ s, x = .inl s ∧ Fr (· = b + 11) L s.2.2.2 ∧ ∀ h, h < 5 → s.2.2.2.1 (b + 11) h = dg S a h) (by
      rintro k _ hk ⟨L1, rfl, f, q⟩
      unfold fX4_measureSteps_b29
      by_cases k5 : k = 5
      · subst k5
        rw [if_pos (show (5 : Int32) ≤ nI 5 by decide)]
        exact Ok.inr ⟨_, rfl, f, q⟩
      have g1 : ¬ 5 ≤ k := by omega
      simp (disch := omega) only [l5, nQ_le, g1, if_false, i_zero]
      refine Ok.ite (fun c => Ok.inr ⟨_, rfl, f, fun h hh => ?_⟩) fun c => ?_
      · rw [q h hh]
        have := fin k c (5 - k) h hh
        rw [show k + (5 - k) = 5 by omega] at this
        exact this.symm
      · have hS1 := pre f
        have inner : ∃ x, lp (fun s17 : Int32 × Int32 × HL => fX4_measureSteps_b45 b (nI (mask (rk S a k) 5)) (nI (mask (rg S a k) 5)) (nI k) s17.1 s17.2.1 s17.2.2) FU ((0 : Int32), (0 : Int32), L1) = some x ∧ ∃ L2, x = .inl (nI (mask (fun e => (List.range S.H).any fun g => rg S a k g && kx S g e) 5), nI S.H, L2) ∧ Fr (· = b + 11) L L2 ∧ ∀ h, h < 5 → L2.1 (b + 11) h = if h < S.H ∧ rg S a k h = true then nI k else dgk S a k h := by
          refine lp_inv S.H (fun i s => ∃ L2, s = (nI (mask (fun e => (List.range i).any fun g => rg S a k g && kx S g e) 5), nI i, L2) ∧ Fr (· = b + 11) L L2 ∧ ∀ h, h < 5 → L2.1 (b + 11) h = if h < i ∧ rg S a k h = true then nI k else dgk S a k h) (by rw [FU_20000]; omega) ⟨L1, ?_, f, fun h hh => by rw [if_neg (by omega)]; exact q h hh⟩ ?_ ?_
          · show _ = (nI (mask (fun _ => false) 5), _, _)
            rw [mask_zero]; rfl
          · rintro i _ hi ⟨L2, rfl, f2, q2⟩
            unfold fX4_measureSteps_b45
            have hS2 := pre f2
            have g2 : ¬ S.H ≤ i := by omega
            have hi5 : i < 5 := by omega
            simp (disch := omega) only [hS2.H, nQ_le, g2, lt_eq, gd_true, bd_some, lx_inl, lx_inr, if_true, if_false, i_bit, vin_t, nI_cl, nQ_s]
            by_cases c2 : rg S a k i = true
            · have f3 : Fr (· = b + 11) L (wI L2 (b + 11) i (nI k)) := f2.wI rfl _ _
              simp (disch := omega) only [c2, lt_eq, gd_true, bd_some, lx_inl, lx_inr, if_true, if_false, (pre f3).kinBitsF hW hi, i_or, nQ_s]
              refine ⟨_, rfl, _, ?_, f3, fun h hh => ?_⟩
              · refine congrArg (fun z => (nI z, nI (i + 1), _)) (mask_congr 5 fun e _ => ?_)
                rw [List.range_succ, List.any_append]
                simp [c2]
              · by_cases e : h = i
                · subst e; rw [wQ_same, if_pos ⟨by omega, c2⟩]
                · rw [wQ_other e, q2 h hh]
                  have : (h < i + 1 ∧ rg S a k h = true) = (h < i ∧ rg S a k h = true) := propext (by constructor <;> (intro ⟨x, y⟩; exact ⟨by omega, y⟩))
                  simp only [this]
            · simp only [c2, if_false, nQ_s]
              refine ⟨_, rfl, _, ?_, f2, fun h hh => ?_⟩
              · refine congrArg (fun z => (nI z, nI (i + 1), _)) (mask_congr 5 fun e _ => ?_)
                rw [List.range_succ, List.any_append]
                simp [c2]
              · rw [q2 h hh]
                by_cases e : h = i
                · subst e; rw [if_neg (fun z => c2 z.2), if_neg (fun z => c2 z.2)]
                · have : (h < i + 1 ∧ rg S a k h = true) = (h < i ∧ rg S a k h = true) := propext (by constructor <;> (intro ⟨x, y⟩; exact ⟨by omega, y⟩))
                  simp only [this]
          · rintro _ ⟨L2, rfl, f2, q2⟩
            unfold fX4_measureSteps_b45
            have hS2 := pre f2
            simp (disch := omega) only [hS2.H, nQ_le, Nat.le_refl, if_true]
            exact ⟨_, rfl, _, rfl, f2, q2⟩
        obtain ⟨x, e1, L2, e2, f2, q2⟩ := inner
        subst e2
        have e1' : lp (fun s17 : Int32 × Int32 × HL => fX4_measureSteps_b45 b (nI (mask (rk S a k) 5)) (nI (mask (rg S a k) 5)) (nI k) s17.1 s17.2.1 s17.2.2) FU (nI 0, nI 0, L1) = _ := e1
        have nx : ∀ e, e < 5 → ((rk S a k e || (List.range S.H).any fun g => rg S a k g && kx S g e) = rk S a (k + 1) e) := by
          intro e he
          refine Bool.eq_iff_iff.mpr ?_
          rw [Bool.or_eq_true, any_t, rk_s]
          constructor
          · rintro (h | ⟨g, h1, h2⟩)
            · exact .inl h
            · rw [Bool.and_eq_true] at h2
              exact .inr ⟨g, by omega, (rg_s.mp h2.1).1, h2.2⟩
          · rintro (h | ⟨g, h1, h2, h3⟩)
            · exact .inl h
            · by_cases c3 : rg S a k g = true
              · exact .inr ⟨g, rk_lt hW ha h2, by rw [c3, h3]; rfl⟩
              · left
                obtain ⟨j, hj, hj2⟩ : ∃ j, j < k ∧ rk S a j g = true := by
                  refine Decidable.byContradiction fun hc => c3 (rg_s.mpr ⟨h2, fun j hj => ?_⟩)
                  cases c4 : rk S a j g
                  · rfl
                  · exact absurd ⟨j, hj, c4⟩ hc
                exact rk_mono (show j + 1 ≤ k by omega) (rk_s.mpr (.inr ⟨g, h1, hj2, h3⟩))
        refine Ok.lx (Q := fun o => o = .inl (nI (mask (fun e => (List.range S.H).any fun g => rg S a k g && kx S g e) 5), nI S.H, L2)) ⟨_, e1', rfl⟩ ?_ (fun v h => by cases h)
        rintro _ h
        cases h
        simp (disch := omega) only [lt_eq, gd_true, bd_some, lx_inl, lx_inr, if_true, if_false, i_andn, i_or, nQ_s]
        refine Ok.inl ⟨by omega, L2, ?_, f2, fun h hh => ?_⟩
        · have m1 : mask (fun i => rk S a k i || (List.range S.H).any fun g => rg S a k g && kx S g i) 5 = mask (rk S a (k + 1)) 5 := mask_congr 5 nx
          have m2 : mask (fun i => ((List.range S.H).any fun g => rg S a k g && kx S g i) && !rk S a k i) 5 = mask (rg S a (k + 1)) 5 := mask_congr 5 fun e he => by
            show _ = (rk S a (k + 1) e && !rk S a k e)
            rw [← nx e he]
            cases rk S a k e <;> simp
          rw [m1, m2]
        · rw [q2 h hh]
          show _ = if rg S a k h then nI k else dgk S a k h
          by_cases c5 : rg S a k h = true
          · rw [if_pos c5, if_pos ⟨rk_lt hW ha (rg_s.mp c5).1, c5⟩]
          · rw [if_neg c5, if_neg (fun z => c5 z.2)]) FU 0 (nI (mask (fun i => i == a) 5), nI (mask (fun i => i == a) 5), (0 : Int32), L1) (by omega) (by decide) ⟨L1, rfl, f, q⟩
    obtain ⟨s, e, f9, q9⟩ := P
    subst e
    rw [h1]
    exact ⟨_, rfl, f9, q9⟩
end DEG
