/-! ===== items ===== -/
def kk (T : Nat × (Nat → Nat)) (i : Nat) : Nat := if TT T i = 1 then wkc T (TB T i) (TE T i) else 7
def cn (k : Nat) : Nat := if k = 0 then 0 else if k = 1 then 3 else 2
def np (T : Nat × (Nat → Nat)) (i : Nat) : Nat → Nat
  | 0 => TE T i
  | k + 1 => TE T (np T i k)
def nmv (T : Nat × (Nat → Nat)) (i k : Nat) : Nat := NV T (TB T (np T i k)) (TE T (np T i k) - TB T (np T i k))
def itE (T : Nat × (Nat → Nat)) (i : Nat) : Nat := np T i (cn (kk T i) + 1)
def fit (T : Nat × (Nat → Nat)) (n i : Nat) : Bool := if n = 0 then decide (kk T i = 0) else decide (kk T i ≠ 0) && decide (kk T i ≠ 7)
def gN (T : Nat × (Nat → Nat)) (i k : Nat) : Option Nat := if TT T (np T i k) = 2 then none else some (TB T (np T i k))
def gZ (T : Nat × (Nat → Nat)) (i : Nat) : Option Nat := if TT T i = 3 then none else some (TB T i)
def itF (T : Nat × (Nat → Nat)) (n i : Nat) : Option Nat := if fit T n i then (fnd (gN T i) (cn (kk T i))).or (gZ T (np T i (cn (kk T i)))) else some (TB T i)
def posn (T : Nat × (Nat → Nat)) : Nat → Nat
  | 0 => 0
  | n + 1 => itE T (posn T n)
theorem gN_t {T : Nat × (Nat → Nat)} {i k : Nat} (h : TT T (np T i k) = 2) : gN T i k = none := if_pos h
theorem gN_f {T : Nat × (Nat → Nat)} {i k : Nat} (h : ¬ TT T (np T i k) = 2) : gN T i k = some (TB T (np T i k)) := if_neg h
theorem np_le {T : Nat × (Nat → Nat)} {i : Nat} (h : i ≤ T.1) : ∀ k, np T i k ≤ T.1
  | 0 => (TE_ge h).2
  | k + 1 => (TE_ge (np_le h k)).2
theorem wkc_le (T : Nat × (Nat → Nat)) (b e : Nat) : wkc T b e ≤ 7 := by unfold wkc; (repeat' split) <;> omega
theorem kk_le (T : Nat × (Nat → Nat)) (i : Nat) : kk T i ≤ 7 := by
  unfold kk
  split
  · exact wkc_le _ _ _
  · exact Nat.le_refl _
theorem wkc_w {T : Nat × (Nat → Nat)} {b e k : Nat} (h : wkc T b e = k) (hk : k < 7) : isW T b e k = true := by
  subst h
  unfold wkc at hk ⊢
  cases h0 : isW T b e 0
  · cases h1 : isW T b e 1
    · cases h2 : isW T b e 2
      · cases h3 : isW T b e 3
        · cases h4 : isW T b e 4
          · cases h5 : isW T b e 5
            · cases h6 : isW T b e 6
              · rw [h0, h1, h2, h3, h4, h5, h6] at hk; exact absurd hk (by decide)
              · simp [h6]
            · simp [h5]
          · simp [h4]
        · simp [h3]
      · simp [h2]
    · simp [h1]
  · simp [h0]
section TKF
variable {T : Nat × (Nat → Nat)} {i : Nat}
theorem TR_c : (T.1 ≤ TB T i ∧ TR T i = 0 ∧ TE T i = TB T i) ∨ (TB T i < T.1 ∧ cL (T.2 (TB T i)) = true ∧ TR T i = 1 ∧ TE T i = stp (fun j => cL (T.2 j)) (T.1 - TB T i) (TB T i)) ∨ (TB T i < T.1 ∧ cF (T.2 (TB T i)) = true ∧ TR T i = 2 ∧ TE T i = stp (fun j => cF (T.2 j)) (T.1 - TB T i) (TB T i)) ∨ (TB T i < T.1 ∧ 3 ≤ TR T i ∧ TR T i ≤ 4 ∧ TE T i = TB T i + 1) := by
  unfold TR TE
  by_cases c0 : T.1 ≤ TB T i
  · exact .inl ⟨c0, if_pos c0, if_pos c0⟩
  · rw [if_neg c0, if_neg c0]
    cases cl : cL (T.2 (TB T i))
    · simp only [Bool.false_eq_true, if_false]
      cases cf : cF (T.2 (TB T i))
      · simp only [Bool.false_eq_true, if_false]
        refine .inr (.inr (.inr ⟨by omega, ?_, ?_, trivial⟩)) <;> split <;> omega
      · simp only [if_true]
        exact .inr (.inr (.inl ⟨by omega, trivial, trivial, trivial⟩))
    · simp only [if_true]
      exact .inr (.inl ⟨by omega, trivial, trivial, trivial⟩)
theorem TT_1 (h : TT T i = 1) : TB T i < T.1 ∧ 1 ≤ TE T i - TB T i ∧ ∀ j, j < TE T i - TB T i → 97 ≤ T.2 (TB T i + j) ∧ T.2 (TB T i + j) ≤ 122 := by
  unfold TT at h
  split at h
  · omega
  · rcases TR_c (T := T) (i := i) with ⟨-, e, -⟩ | ⟨hb, cl, -, e⟩ | ⟨-, -, e, -⟩ | ⟨-, e, -⟩
    · omega
    · obtain ⟨s1, s2, s3, s4⟩ := stp_spec (fun j => cL (T.2 j)) (T.1 - TB T i) (TB T i)
      rw [← e] at s1 s2 s3 s4
      refine ⟨hb, ?_, fun j hj => cL_n (s3 _ (by omega) (by omega))⟩
      rcases s4 with s4 | s4
      · omega
      · have : ¬ TE T i = TB T i := fun z => by rw [z] at s4; rw [show cL (T.2 (TB T i)) = false from s4] at cl; cases cl
        omega
    · omega
    · omega
theorem TT_2 (h : TT T i = 2) : TB T i < T.1 ∧ cF (T.2 (TB T i)) = true ∧ 1 ≤ TE T i - TB T i ∧ TE T i - TB T i ≤ 2 ∧ (∀ j, TB T i ≤ j → j < TE T i → cF (T.2 j) = true) ∧ (TE T i = T.1 ∨ cF (T.2 (TE T i)) = false) := by
  unfold TT at h
  split at h
  · omega
  · next hc =>
    rcases TR_c (T := T) (i := i) with ⟨-, e, -⟩ | ⟨-, -, e, -⟩ | ⟨hb, cf, et, e⟩ | ⟨-, e, -⟩
    · omega
    · omega
    · obtain ⟨s1, s2, s3, s4⟩ := stp_spec (fun j => cF (T.2 j)) (T.1 - TB T i) (TB T i)
      rw [← e] at s1 s2 s3 s4
      refine ⟨hb, cf, ?_, by omega, fun j h1 h2 => s3 j h1 h2, ?_⟩
      · rcases s4 with s4 | s4
        · omega
        · have : ¬ TE T i = TB T i := fun z => by rw [z] at s4; rw [show cF (T.2 (TB T i)) = false from s4] at cf; cases cf
          omega
      · rcases s4 with s4 | s4
        · exact .inl (by omega)
        · exact .inr s4
    · omega
theorem TT_3 (h : TT T i = 3) : TE T i = TB T i + 1 := by
  unfold TT at h
  split at h
  · omega
  · rcases TR_c (T := T) (i := i) with ⟨-, e, -⟩ | ⟨-, -, e, -⟩ | ⟨-, -, e, -⟩ | ⟨-, -, -, e⟩
    · omega
    · omega
    · omega
    · exact e
/-- two numbers never touch -/
theorem gap (h1 : TT T i = 2) (hi : i ≤ T.1) (h2 : TT T (TE T i) = 2) : TE T i + 1 ≤ TB T (TE T i) := by
  obtain ⟨-, -, -, -, -, h⟩ := TT_2 h1
  obtain ⟨b, c, -⟩ := TT_2 h2
  have he := TE_ge hi
  have hb := TB_ge he.2
  rcases h with h | h
  · omega
  · have : ¬ TB T (TE T i) = TE T i := fun z => by rw [z, h] at c; cases c
    omega
theorem kk_w (h : kk T i ≠ 7) : TT T i = 1 ∧ isW T (TB T i) (TE T i) (kk T i) = true := by
  unfold kk at h ⊢
  by_cases c : TT T i = 1
  · rw [if_pos c] at h ⊢
    have := wkc_le T (TB T i) (TE T i)
    exact ⟨c, wkc_w rfl (by omega)⟩
  · rw [if_neg c] at h; exact absurd rfl h
theorem isW_len {b e j : Nat} (h : isW T b e j = true) : e - b = slN j := by
  unfold isW at h
  rw [Bool.and_eq_true, decide_eq_true_eq] at h
  exact h.1
/-- an item has seven bytes at least -/
theorem seven {n : Nat} (hi : i ≤ T.1) (h : itF T n i = none) : TB T i + 7 ≤ itE T i ∧ itE T i ≤ T.1 := by
  unfold itF at h
  by_cases hf : fit T n i = true
  · rw [if_pos hf] at h
    have h1 : fnd (gN T i) (cn (kk T i)) = none := by
      cases e : fnd (gN T i) (cn (kk T i)) with
      | none => rfl
      | some v => rw [e] at h; cases h
    rw [h1] at h
    have h2 : TT T (np T i (cn (kk T i))) = 3 := by
      have h : gZ T (np T i (cn (kk T i))) = none := h
      unfold gZ at h
      split at h
      · assumption
      · cases h
    have h3 := TT_3 h2
    have hN : ∀ k, k < cn (kk T i) → TT T (np T i k) = 2 := fun k hk => by
      have := (fnd_no _).mp h1 k hk
      by_cases c : TT T (np T i k) = 2
      · exact c
      · rw [gN_f c] at this; cases this
    have k7 : kk T i ≠ 7 := by
      intro z
      unfold fit at hf
      rw [z] at hf
      split at hf <;> exact absurd hf (by decide)
    obtain ⟨t1, tw⟩ := kk_w k7
    have hl := isW_len tw
    have b0 := TB_ge hi
    have n0 := np_le hi
    have he : itE T i = TE T (np T i (cn (kk T i))) := rfl
    have n1 : np T i 0 = TE T i := rfl
    have n2 : ∀ k, np T i (k + 1) = TE T (np T i k) := fun k => rfl
    have hk := kk_le T i
    have bT := TE_ge hi
    refine ⟨?_, by rw [he]; exact (TE_ge (n0 _)).2⟩
    rw [he, h3]
    generalize hkk : kk T i = k at *
    rcases (show k = 0 ∨ k = 1 ∨ (2 ≤ k ∧ k ≤ 6) by omega) with rfl | rfl | hk2
    · have e6 : slN 0 = 6 := rfl
      have c0 : cn 0 = 0 := rfl
      rw [c0, n1] at h2 h3 ⊢
      have := TB_ge bT.2
      omega
    · have e6 : slN 1 = 5 := rfl
      have c0 : cn 1 = 3 := rfl
      rw [c0] at hN h2 h3 ⊢
      have g0 := TT_2 (hN 0 (by omega))
      have g1 := TT_2 (hN 1 (by omega))
      have q0 := TB_ge (n0 0)
      have q1 := TB_ge (n0 1)
      have q2 := TB_ge (n0 2)
      have q3 := TB_ge (n0 3)
      have m1 : np T i 1 = TE T (np T i 0) := rfl
      have m2 : np T i 2 = TE T (np T i 1) := rfl
      have m3 : np T i 3 = TE T (np T i 2) := rfl
      have g2 := TT_2 (hN 2 (by omega))
      omega
    · have e6 : 3 ≤ slN k := by
        rcases (show k = 2 ∨ k = 3 ∨ k = 4 ∨ k = 5 ∨ k = 6 by omega) with rfl | rfl | rfl | rfl | rfl <;> decide
      have c0 : cn k = 2 := by unfold cn; rw [if_neg (by omega), if_neg (by omega)]
      rw [c0] at hN h2 h3 ⊢
      have g0 := TT_2 (hN 0 (by omega))
      have g1 := TT_2 (hN 1 (by omega))
      have q0 := TB_ge (n0 0)
      have q2 := TB_ge (n0 2)
      have m1 : np T i 1 = TE T (np T i 0) := rfl
      have m2 : np T i 2 = TE T (np T i 1) := rfl
      have gp := gap (hN 0 (by omega)) (n0 0) (hN 1 (by omega))
      rw [← m1] at gp
      omega
  · rw [if_neg hf] at h; cases h
end TKF
