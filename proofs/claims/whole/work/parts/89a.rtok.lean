/-! ===== tokens, as the reference meets them ===== -/
def WD (T : Nat × (Nat → Nat)) (b k : Nat) : Int64 := if k ≤ 7 then jI (WV T b k) else -1
theorem cL_n {c : Nat} (h : cL c = true) : 97 ≤ c ∧ c ≤ 122 := by
  unfold cL at h
  rw [Bool.and_eq_true, decide_eq_true_eq, decide_eq_true_eq] at h
  exact h
theorem cF_n {c : Nat} (h : cF c = true) : 48 ≤ c ∧ c ≤ 57 := by
  unfold cF at h
  rw [Bool.and_eq_true, decide_eq_true_eq, decide_eq_true_eq] at h
  exact h
theorem wq_0 {T : Nat × (Nat → Nat)} {b e : Nat} (h : ∀ i, i < e - b → 97 ≤ T.2 (b + i) ∧ T.2 (b + i) ≤ 122) (h1 : 1 ≤ e - b) (h7 : e - b ≤ 7) : WV T b (e - b) = 126943972648308 ↔ isW T b e 0 = true := by
  have hw : isW T b e 0 = true ↔ e - b = 6 ∧ T.2 (b + 0) = 115 ∧ T.2 (b + 1) = 116 ∧ T.2 (b + 2) = 114 ∧ T.2 (b + 3) = 101 ∧ T.2 (b + 4) = 101 ∧ T.2 (b + 5) = 116 := by
    unfold isW
    rw [Bool.and_eq_true, decide_eq_true_eq, alb_t]
    constructor
    · rintro ⟨p, q⟩
      exact ⟨p, of_decide_eq_true (q 0 (by decide)), of_decide_eq_true (q 1 (by decide)), of_decide_eq_true (q 2 (by decide)), of_decide_eq_true (q 3 (by decide)), of_decide_eq_true (q 4 (by decide)), of_decide_eq_true (q 5 (by decide))⟩
    · rintro ⟨p, q0, q1, q2, q3, q4, q5⟩
      refine ⟨p, fun i hi => decide_eq_true ?_⟩
      have hi : i < 6 := hi
      rcases (show i = 0 ∨ i = 1 ∨ i = 2 ∨ i = 3 ∨ i = 4 ∨ i = 5 by omega) with rfl | rfl | rfl | rfl | rfl | rfl
      · exact q0
      · exact q1
      · exact q2
      · exact q3
      · exact q4
      · exact q5
  rw [hw]
  generalize e - b = k at *
  rcases (show k = 1 ∨ k = 2 ∨ k = 3 ∨ k = 4 ∨ k = 5 ∨ k = 6 ∨ k = 7 by omega) with rfl | rfl | rfl | rfl | rfl | rfl | rfl
  · have c0 := h 0 (by omega)
    simp only [WV]
    omega
  · have c0 := h 0 (by omega)
    have c1 := h 1 (by omega)
    simp only [WV]
    omega
  · have c0 := h 0 (by omega)
    have c1 := h 1 (by omega)
    have c2 := h 2 (by omega)
    simp only [WV]
    omega
  · have c0 := h 0 (by omega)
    have c1 := h 1 (by omega)
    have c2 := h 2 (by omega)
    have c3 := h 3 (by omega)
    simp only [WV]
    omega
  · have c0 := h 0 (by omega)
    have c1 := h 1 (by omega)
    have c2 := h 2 (by omega)
    have c3 := h 3 (by omega)
    have c4 := h 4 (by omega)
    simp only [WV]
    omega
  · have e0 : WV T b 0 = 0 := rfl
    have c0 := h 0 (by omega)
    have f0 : WV T b 1 = WV T b 0 * 256 + T.2 (b + 0) := rfl
    have c1 := h 1 (by omega)
    have f1 : WV T b 2 = WV T b 1 * 256 + T.2 (b + 1) := rfl
    have c2 := h 2 (by omega)
    have f2 : WV T b 3 = WV T b 2 * 256 + T.2 (b + 2) := rfl
    have c3 := h 3 (by omega)
    have f3 : WV T b 4 = WV T b 3 * 256 + T.2 (b + 3) := rfl
    have c4 := h 4 (by omega)
    have f4 : WV T b 5 = WV T b 4 * 256 + T.2 (b + 4) := rfl
    have c5 := h 5 (by omega)
    have f5 : WV T b 6 = WV T b 5 * 256 + T.2 (b + 5) := rfl
    constructor
    · intro z
      have s5 : WV T b 5 = 495874893157 ∧ T.2 (b + 5) = 116 := by omega
      have s4 : WV T b 4 = 1937011301 ∧ T.2 (b + 4) = 101 := by omega
      have s3 : WV T b 3 = 7566450 ∧ T.2 (b + 3) = 101 := by omega
      have s2 : WV T b 2 = 29556 ∧ T.2 (b + 2) = 114 := by omega
      have s1 : WV T b 1 = 115 ∧ T.2 (b + 1) = 116 := by omega
      have s0 : WV T b 0 = 0 ∧ T.2 (b + 0) = 115 := by omega
      exact ⟨rfl, s0.2, s1.2, s2.2, s3.2, s4.2, s5.2⟩
    · rintro ⟨-, q0, q1, q2, q3, q4, q5⟩
      omega
  · have c0 := h 0 (by omega)
    have c1 := h 1 (by omega)
    have c2 := h 2 (by omega)
    have c3 := h 3 (by omega)
    have c4 := h 4 (by omega)
    have c5 := h 5 (by omega)
    have c6 := h 6 (by omega)
    simp only [WV]
    refine ⟨fun z => ?_, fun z => absurd z.1 (by decide)⟩
    exfalso
    omega
theorem wdq_0 {T : Nat × (Nat → Nat)} {b e : Nat} (h : ∀ i, i < e - b → 97 ≤ T.2 (b + i) ∧ T.2 (b + i) ≤ 122) (h1 : 1 ≤ e - b) : (WD T b (e - b) = (126943972648308 : Int64)) = (isW T b e 0 = true) := by
  refine propext ?_
  have ek : (126943972648308 : Int64) = jI 126943972648308 := by decide
  unfold WD
  rw [ek]
  by_cases c : e - b ≤ 7
  · rw [if_pos c, ← wq_0 h h1 c, ← Int64.toInt_inj]
    have hv := WV_lt (T := T) (b := b) (e - b) (fun i hi => by have := h i hi; omega)
    have hp : 256 ^ (e - b) ≤ 256 ^ 7 := Nat.pow_le_pow_right (by omega) c
    have hv7 : WV T b (e - b) < 72057594037927936 := Nat.lt_of_lt_of_le hv hp
    rw [jI_toInt (by omega) (by omega), jI_toInt (by omega) (by omega)]
    omega
  · rw [if_neg c]
    constructor
    · intro z
      exact absurd z (by decide)
    · intro z
      unfold isW at z
      rw [Bool.and_eq_true, decide_eq_true_eq] at z
      have := z.1
      have e2 : slN 0 = 6 := rfl
      omega
theorem wq_1 {T : Nat × (Nat → Nat)} {b e : Nat} (h : ∀ i, i < e - b → 97 ≤ T.2 (b + i) ∧ T.2 (b + i) ≤ 122) (h1 : 1 ≤ e - b) (h7 : e - b ≤ 7) : WV T b (e - b) = 448546567013 ↔ isW T b e 1 = true := by
  have hw : isW T b e 1 = true ↔ e - b = 5 ∧ T.2 (b + 0) = 104 ∧ T.2 (b + 1) = 111 ∧ T.2 (b + 2) = 117 ∧ T.2 (b + 3) = 115 ∧ T.2 (b + 4) = 101 := by
    unfold isW
    rw [Bool.and_eq_true, decide_eq_true_eq, alb_t]
    constructor
    · rintro ⟨p, q⟩
      exact ⟨p, of_decide_eq_true (q 0 (by decide)), of_decide_eq_true (q 1 (by decide)), of_decide_eq_true (q 2 (by decide)), of_decide_eq_true (q 3 (by decide)), of_decide_eq_true (q 4 (by decide))⟩
    · rintro ⟨p, q0, q1, q2, q3, q4⟩
      refine ⟨p, fun i hi => decide_eq_true ?_⟩
      have hi : i < 5 := hi
      rcases (show i = 0 ∨ i = 1 ∨ i = 2 ∨ i = 3 ∨ i = 4 by omega) with rfl | rfl | rfl | rfl | rfl
      · exact q0
      · exact q1
      · exact q2
      · exact q3
      · exact q4
  rw [hw]
  generalize e - b = k at *
  rcases (show k = 1 ∨ k = 2 ∨ k = 3 ∨ k = 4 ∨ k = 5 ∨ k = 6 ∨ k = 7 by omega) with rfl | rfl | rfl | rfl | rfl | rfl | rfl
  · have c0 := h 0 (by omega)
    simp only [WV]
    omega
  · have c0 := h 0 (by omega)
    have c1 := h 1 (by omega)
    simp only [WV]
    omega
  · have c0 := h 0 (by omega)
    have c1 := h 1 (by omega)
    have c2 := h 2 (by omega)
    simp only [WV]
    omega
  · have c0 := h 0 (by omega)
    have c1 := h 1 (by omega)
    have c2 := h 2 (by omega)
    have c3 := h 3 (by omega)
    simp only [WV]
    omega
  · have e0 : WV T b 0 = 0 := rfl
    have c0 := h 0 (by omega)
    have f0 : WV T b 1 = WV T b 0 * 256 + T.2 (b + 0) := rfl
    have c1 := h 1 (by omega)
    have f1 : WV T b 2 = WV T b 1 * 256 + T.2 (b + 1) := rfl
    have c2 := h 2 (by omega)
    have f2 : WV T b 3 = WV T b 2 * 256 + T.2 (b + 2) := rfl
    have c3 := h 3 (by omega)
    have f3 : WV T b 4 = WV T b 3 * 256 + T.2 (b + 3) := rfl
    have c4 := h 4 (by omega)
    have f4 : WV T b 5 = WV T b 4 * 256 + T.2 (b + 4) := rfl
    constructor
    · intro z
      have s4 : WV T b 4 = 1752135027 ∧ T.2 (b + 4) = 101 := by omega
      have s3 : WV T b 3 = 6844277 ∧ T.2 (b + 3) = 115 := by omega
      have s2 : WV T b 2 = 26735 ∧ T.2 (b + 2) = 117 := by omega
      have s1 : WV T b 1 = 104 ∧ T.2 (b + 1) = 111 := by omega
      have s0 : WV T b 0 = 0 ∧ T.2 (b + 0) = 104 := by omega
      exact ⟨rfl, s0.2, s1.2, s2.2, s3.2, s4.2⟩
    · rintro ⟨-, q0, q1, q2, q3, q4⟩
      omega
  · have c0 := h 0 (by omega)
    have c1 := h 1 (by omega)
    have c2 := h 2 (by omega)
    have c3 := h 3 (by omega)
    have c4 := h 4 (by omega)
    have c5 := h 5 (by omega)
    simp only [WV]
    omega
  · have c0 := h 0 (by omega)
    have c1 := h 1 (by omega)
    have c2 := h 2 (by omega)
    have c3 := h 3 (by omega)
    have c4 := h 4 (by omega)
    have c5 := h 5 (by omega)
    have c6 := h 6 (by omega)
    simp only [WV]
    refine ⟨fun z => ?_, fun z => absurd z.1 (by decide)⟩
    exfalso
    omega
theorem wdq_1 {T : Nat × (Nat → Nat)} {b e : Nat} (h : ∀ i, i < e - b → 97 ≤ T.2 (b + i) ∧ T.2 (b + i) ≤ 122) (h1 : 1 ≤ e - b) : (WD T b (e - b) = (448546567013 : Int64)) = (isW T b e 1 = true) := by
  refine propext ?_
  have ek : (448546567013 : Int64) = jI 448546567013 := by decide
  unfold WD
  rw [ek]
  by_cases c : e - b ≤ 7
  · rw [if_pos c, ← wq_1 h h1 c, ← Int64.toInt_inj]
    have hv := WV_lt (T := T) (b := b) (e - b) (fun i hi => by have := h i hi; omega)
    have hp : 256 ^ (e - b) ≤ 256 ^ 7 := Nat.pow_le_pow_right (by omega) c
    have hv7 : WV T b (e - b) < 72057594037927936 := Nat.lt_of_lt_of_le hv hp
    rw [jI_toInt (by omega) (by omega), jI_toInt (by omega) (by omega)]
    omega
  · rw [if_neg c]
    constructor
    · intro z
      exact absurd z (by decide)
    · intro z
      unfold isW at z
      rw [Bool.and_eq_true, decide_eq_true_eq] at z
      have := z.1
      have e2 : slN 1 = 5 := rfl
      omega
theorem wq_2 {T : Nat × (Nat → Nat)} {b e : Nat} (h : ∀ i, i < e - b → 97 ≤ T.2 (b + i) ∧ T.2 (b + i) ≤ 122) (h1 : 1 ≤ e - b) (h7 : e - b ≤ 7) : WV T b (e - b) = 1718775661 ↔ isW T b e 2 = true := by
  have hw : isW T b e 2 = true ↔ e - b = 4 ∧ T.2 (b + 0) = 102 ∧ T.2 (b + 1) = 114 ∧ T.2 (b + 2) = 111 ∧ T.2 (b + 3) = 109 := by
    unfold isW
    rw [Bool.and_eq_true, decide_eq_true_eq, alb_t]
    constructor
    · rintro ⟨p, q⟩
      exact ⟨p, of_decide_eq_true (q 0 (by decide)), of_decide_eq_true (q 1 (by decide)), of_decide_eq_true (q 2 (by decide)), of_decide_eq_true (q 3 (by decide))⟩
    · rintro ⟨p, q0, q1, q2, q3⟩
      refine ⟨p, fun i hi => decide_eq_true ?_⟩
      have hi : i < 4 := hi
      rcases (show i = 0 ∨ i = 1 ∨ i = 2 ∨ i = 3 by omega) with rfl | rfl | rfl | rfl
      · exact q0
      · exact q1
      · exact q2
      · exact q3
  rw [hw]
  generalize e - b = k at *
  rcases (show k = 1 ∨ k = 2 ∨ k = 3 ∨ k = 4 ∨ k = 5 ∨ k = 6 ∨ k = 7 by omega) with rfl | rfl | rfl | rfl | rfl | rfl | rfl
  · have c0 := h 0 (by omega)
    simp only [WV]
    omega
  · have c0 := h 0 (by omega)
    have c1 := h 1 (by omega)
    simp only [WV]
    omega
  · have c0 := h 0 (by omega)
    have c1 := h 1 (by omega)
    have c2 := h 2 (by omega)
    simp only [WV]
    omega
  · have e0 : WV T b 0 = 0 := rfl
    have c0 := h 0 (by omega)
    have f0 : WV T b 1 = WV T b 0 * 256 + T.2 (b + 0) := rfl
    have c1 := h 1 (by omega)
    have f1 : WV T b 2 = WV T b 1 * 256 + T.2 (b + 1) := rfl
    have c2 := h 2 (by omega)
    have f2 : WV T b 3 = WV T b 2 * 256 + T.2 (b + 2) := rfl
    have c3 := h 3 (by omega)
    have f3 : WV T b 4 = WV T b 3 * 256 + T.2 (b + 3) := rfl
    constructor
    · intro z
      have s3 : WV T b 3 = 6713967 ∧ T.2 (b + 3) = 109 := by omega
      have s2 : WV T b 2 = 26226 ∧ T.2 (b + 2) = 111 := by omega
      have s1 : WV T b 1 = 102 ∧ T.2 (b + 1) = 114 := by omega
      have s0 : WV T b 0 = 0 ∧ T.2 (b + 0) = 102 := by omega
      exact ⟨rfl, s0.2, s1.2, s2.2, s3.2⟩
    · rintro ⟨-, q0, q1, q2, q3⟩
      omega
  · have c0 := h 0 (by omega)
    have c1 := h 1 (by omega)
    have c2 := h 2 (by omega)
    have c3 := h 3 (by omega)
    have c4 := h 4 (by omega)
    simp only [WV]
    omega
  · have c0 := h 0 (by omega)
    have c1 := h 1 (by omega)
    have c2 := h 2 (by omega)
    have c3 := h 3 (by omega)
    have c4 := h 4 (by omega)
    have c5 := h 5 (by omega)
    simp only [WV]
    omega
  · have c0 := h 0 (by omega)
    have c1 := h 1 (by omega)
    have c2 := h 2 (by omega)
    have c3 := h 3 (by omega)
    have c4 := h 4 (by omega)
    have c5 := h 5 (by omega)
    have c6 := h 6 (by omega)
    simp only [WV]
    refine ⟨fun z => ?_, fun z => absurd z.1 (by decide)⟩
    exfalso
    omega
theorem wdq_2 {T : Nat × (Nat → Nat)} {b e : Nat} (h : ∀ i, i < e - b → 97 ≤ T.2 (b + i) ∧ T.2 (b + i) ≤ 122) (h1 : 1 ≤ e - b) : (WD T b (e - b) = (1718775661 : Int64)) = (isW T b e 2 = true) := by
  refine propext ?_
  have ek : (1718775661 : Int64) = jI 1718775661 := by decide
  unfold WD
  rw [ek]
  by_cases c : e - b ≤ 7
  · rw [if_pos c, ← wq_2 h h1 c, ← Int64.toInt_inj]
    have hv := WV_lt (T := T) (b := b) (e - b) (fun i hi => by have := h i hi; omega)
    have hp : 256 ^ (e - b) ≤ 256 ^ 7 := Nat.pow_le_pow_right (by omega) c
    have hv7 : WV T b (e - b) < 72057594037927936 := Nat.lt_of_lt_of_le hv hp
    rw [jI_toInt (by omega) (by omega), jI_toInt (by omega) (by omega)]
    omega
  · rw [if_neg c]
    constructor
    · intro z
      exact absurd z (by decide)
    · intro z
      unfold isW at z
      rw [Bool.and_eq_true, decide_eq_true_eq] at z
      have := z.1
      have e2 : slN 2 = 4 := rfl
      omega
theorem wq_3 {T : Nat × (Nat → Nat)} {b e : Nat} (h : ∀ i, i < e - b → 97 ≤ T.2 (b + i) ∧ T.2 (b + i) ≤ 122) (h1 : 1 ≤ e - b) (h7 : e - b ≤ 7) : WV T b (e - b) = 2003397740 ↔ isW T b e 3 = true := by
  have hw : isW T b e 3 = true ↔ e - b = 4 ∧ T.2 (b + 0) = 119 ∧ T.2 (b + 1) = 105 ∧ T.2 (b + 2) = 108 ∧ T.2 (b + 3) = 108 := by
    unfold isW
    rw [Bool.and_eq_true, decide_eq_true_eq, alb_t]
    constructor
    · rintro ⟨p, q⟩
      exact ⟨p, of_decide_eq_true (q 0 (by decide)), of_decide_eq_true (q 1 (by decide)), of_decide_eq_true (q 2 (by decide)), of_decide_eq_true (q 3 (by decide))⟩
    · rintro ⟨p, q0, q1, q2, q3⟩
      refine ⟨p, fun i hi => decide_eq_true ?_⟩
      have hi : i < 4 := hi
      rcases (show i = 0 ∨ i = 1 ∨ i = 2 ∨ i = 3 by omega) with rfl | rfl | rfl | rfl
      · exact q0
      · exact q1
      · exact q2
      · exact q3
  rw [hw]
  generalize e - b = k at *
  rcases (show k = 1 ∨ k = 2 ∨ k = 3 ∨ k = 4 ∨ k = 5 ∨ k = 6 ∨ k = 7 by omega) with rfl | rfl | rfl | rfl | rfl | rfl | rfl
  · have c0 := h 0 (by omega)
    simp only [WV]
    omega
  · have c0 := h 0 (by omega)
    have c1 := h 1 (by omega)
    simp only [WV]
    omega
  · have c0 := h 0 (by omega)
    have c1 := h 1 (by omega)
    have c2 := h 2 (by omega)
    simp only [WV]
    omega
  · have e0 : WV T b 0 = 0 := rfl
    have c0 := h 0 (by omega)
    have f0 : WV T b 1 = WV T b 0 * 256 + T.2 (b + 0) := rfl
    have c1 := h 1 (by omega)
    have f1 : WV T b 2 = WV T b 1 * 256 + T.2 (b + 1) := rfl
    have c2 := h 2 (by omega)
    have f2 : WV T b 3 = WV T b 2 * 256 + T.2 (b + 2) := rfl
    have c3 := h 3 (by omega)
    have f3 : WV T b 4 = WV T b 3 * 256 + T.2 (b + 3) := rfl
    constructor
    · intro z
      have s3 : WV T b 3 = 7825772 ∧ T.2 (b + 3) = 108 := by omega
      have s2 : WV T b 2 = 30569 ∧ T.2 (b + 2) = 108 := by omega
      have s1 : WV T b 1 = 119 ∧ T.2 (b + 1) = 105 := by omega
      have s0 : WV T b 0 = 0 ∧ T.2 (b + 0) = 119 := by omega
      exact ⟨rfl, s0.2, s1.2, s2.2, s3.2⟩
    · rintro ⟨-, q0, q1, q2, q3⟩
      omega
  · have c0 := h 0 (by omega)
    have c1 := h 1 (by omega)
    have c2 := h 2 (by omega)
    have c3 := h 3 (by omega)
    have c4 := h 4 (by omega)
    simp only [WV]
    omega
  · have c0 := h 0 (by omega)
    have c1 := h 1 (by omega)
    have c2 := h 2 (by omega)
    have c3 := h 3 (by omega)
    have c4 := h 4 (by omega)
    have c5 := h 5 (by omega)
    simp only [WV]
    omega
  · have c0 := h 0 (by omega)
    have c1 := h 1 (by omega)
    have c2 := h 2 (by omega)
    have c3 := h 3 (by omega)
    have c4 := h 4 (by omega)
    have c5 := h 5 (by omega)
    have c6 := h 6 (by omega)
    simp only [WV]
    refine ⟨fun z => ?_, fun z => absurd z.1 (by decide)⟩
    exfalso
    omega
theorem wdq_3 {T : Nat × (Nat → Nat)} {b e : Nat} (h : ∀ i, i < e - b → 97 ≤ T.2 (b + i) ∧ T.2 (b + i) ≤ 122) (h1 : 1 ≤ e - b) : (WD T b (e - b) = (2003397740 : Int64)) = (isW T b e 3 = true) := by
  refine propext ?_
  have ek : (2003397740 : Int64) = jI 2003397740 := by decide
  unfold WD
  rw [ek]
  by_cases c : e - b ≤ 7
  · rw [if_pos c, ← wq_3 h h1 c, ← Int64.toInt_inj]
    have hv := WV_lt (T := T) (b := b) (e - b) (fun i hi => by have := h i hi; omega)
    have hp : 256 ^ (e - b) ≤ 256 ^ 7 := Nat.pow_le_pow_right (by omega) c
    have hv7 : WV T b (e - b) < 72057594037927936 := Nat.lt_of_lt_of_le hv hp
    rw [jI_toInt (by omega) (by omega), jI_toInt (by omega) (by omega)]
    omega
  · rw [if_neg c]
    constructor
    · intro z
      exact absurd z (by decide)
    · intro z
      unfold isW at z
      rw [Bool.and_eq_true, decide_eq_true_eq] at z
      have := z.1
      have e2 : slN 3 = 4 := rfl
      omega
theorem wq_4 {T : Nat × (Nat → Nat)} {b e : Nat} (h : ∀ i, i < e - b → 97 ≤ T.2 (b + i) ∧ T.2 (b + i) ≤ 122) (h1 : 1 ≤ e - b) (h7 : e - b ≤ 7) : WV T b (e - b) = 2002873452 ↔ isW T b e 4 = true := by
  have hw : isW T b e 4 = true ↔ e - b = 4 ∧ T.2 (b + 0) = 119 ∧ T.2 (b + 1) = 97 ∧ T.2 (b + 2) = 108 ∧ T.2 (b + 3) = 108 := by
    unfold isW
    rw [Bool.and_eq_true, decide_eq_true_eq, alb_t]
    constructor
    · rintro ⟨p, q⟩
      exact ⟨p, of_decide_eq_true (q 0 (by decide)), of_decide_eq_true (q 1 (by decide)), of_decide_eq_true (q 2 (by decide)), of_decide_eq_true (q 3 (by decide))⟩
    · rintro ⟨p, q0, q1, q2, q3⟩
      refine ⟨p, fun i hi => decide_eq_true ?_⟩
      have hi : i < 4 := hi
      rcases (show i = 0 ∨ i = 1 ∨ i = 2 ∨ i = 3 by omega) with rfl | rfl | rfl | rfl
      · exact q0
      · exact q1
      · exact q2
      · exact q3
  rw [hw]
  generalize e - b = k at *
  rcases (show k = 1 ∨ k = 2 ∨ k = 3 ∨ k = 4 ∨ k = 5 ∨ k = 6 ∨ k = 7 by omega) with rfl | rfl | rfl | rfl | rfl | rfl | rfl
  · have c0 := h 0 (by omega)
    simp only [WV]
    omega
  · have c0 := h 0 (by omega)
    have c1 := h 1 (by omega)
    simp only [WV]
    omega
  · have c0 := h 0 (by omega)
    have c1 := h 1 (by omega)
    have c2 := h 2 (by omega)
    simp only [WV]
    omega
  · have e0 : WV T b 0 = 0 := rfl
    have c0 := h 0 (by omega)
    have f0 : WV T b 1 = WV T b 0 * 256 + T.2 (b + 0) := rfl
    have c1 := h 1 (by omega)
    have f1 : WV T b 2 = WV T b 1 * 256 + T.2 (b + 1) := rfl
    have c2 := h 2 (by omega)
    have f2 : WV T b 3 = WV T b 2 * 256 + T.2 (b + 2) := rfl
    have c3 := h 3 (by omega)
    have f3 : WV T b 4 = WV T b 3 * 256 + T.2 (b + 3) := rfl
    constructor
    · intro z
      have s3 : WV T b 3 = 7823724 ∧ T.2 (b + 3) = 108 := by omega
      have s2 : WV T b 2 = 30561 ∧ T.2 (b + 2) = 108 := by omega
      have s1 : WV T b 1 = 119 ∧ T.2 (b + 1) = 97 := by omega
      have s0 : WV T b 0 = 0 ∧ T.2 (b + 0) = 119 := by omega
      exact ⟨rfl, s0.2, s1.2, s2.2, s3.2⟩
    · rintro ⟨-, q0, q1, q2, q3⟩
      omega
  · have c0 := h 0 (by omega)
    have c1 := h 1 (by omega)
    have c2 := h 2 (by omega)
    have c3 := h 3 (by omega)
    have c4 := h 4 (by omega)
    simp only [WV]
    omega
  · have c0 := h 0 (by omega)
    have c1 := h 1 (by omega)
    have c2 := h 2 (by omega)
    have c3 := h 3 (by omega)
    have c4 := h 4 (by omega)
    have c5 := h 5 (by omega)
    simp only [WV]
    omega
  · have c0 := h 0 (by omega)
    have c1 := h 1 (by omega)
    have c2 := h 2 (by omega)
    have c3 := h 3 (by omega)
    have c4 := h 4 (by omega)
    have c5 := h 5 (by omega)
    have c6 := h 6 (by omega)
    simp only [WV]
    refine ⟨fun z => ?_, fun z => absurd z.1 (by decide)⟩
    exfalso
    omega
theorem wdq_4 {T : Nat × (Nat → Nat)} {b e : Nat} (h : ∀ i, i < e - b → 97 ≤ T.2 (b + i) ∧ T.2 (b + i) ≤ 122) (h1 : 1 ≤ e - b) : (WD T b (e - b) = (2002873452 : Int64)) = (isW T b e 4 = true) := by
  refine propext ?_
  have ek : (2002873452 : Int64) = jI 2002873452 := by decide
  unfold WD
  rw [ek]
  by_cases c : e - b ≤ 7
  · rw [if_pos c, ← wq_4 h h1 c, ← Int64.toInt_inj]
    have hv := WV_lt (T := T) (b := b) (e - b) (fun i hi => by have := h i hi; omega)
    have hp : 256 ^ (e - b) ≤ 256 ^ 7 := Nat.pow_le_pow_right (by omega) c
    have hv7 : WV T b (e - b) < 72057594037927936 := Nat.lt_of_lt_of_le hv hp
    rw [jI_toInt (by omega) (by omega), jI_toInt (by omega) (by omega)]
    omega
  · rw [if_neg c]
    constructor
    · intro z
      exact absurd z (by decide)
    · intro z
      unfold isW at z
      rw [Bool.and_eq_true, decide_eq_true_eq] at z
      have := z.1
      have e2 : slN 4 = 4 := rfl
      omega
theorem wq_5 {T : Nat × (Nat → Nat)} {b e : Nat} (h : ∀ i, i < e - b → 97 ≤ T.2 (b + i) ∧ T.2 (b + i) ≤ 122) (h1 : 1 ≤ e - b) (h7 : e - b ≤ 7) : WV T b (e - b) = 7302757 ↔ isW T b e 5 = true := by
  have hw : isW T b e 5 = true ↔ e - b = 3 ∧ T.2 (b + 0) = 111 ∧ T.2 (b + 1) = 110 ∧ T.2 (b + 2) = 101 := by
    unfold isW
    rw [Bool.and_eq_true, decide_eq_true_eq, alb_t]
    constructor
    · rintro ⟨p, q⟩
      exact ⟨p, of_decide_eq_true (q 0 (by decide)), of_decide_eq_true (q 1 (by decide)), of_decide_eq_true (q 2 (by decide))⟩
    · rintro ⟨p, q0, q1, q2⟩
      refine ⟨p, fun i hi => decide_eq_true ?_⟩
      have hi : i < 3 := hi
      rcases (show i = 0 ∨ i = 1 ∨ i = 2 by omega) with rfl | rfl | rfl
      · exact q0
      · exact q1
      · exact q2
  rw [hw]
  generalize e - b = k at *
  rcases (show k = 1 ∨ k = 2 ∨ k = 3 ∨ k = 4 ∨ k = 5 ∨ k = 6 ∨ k = 7 by omega) with rfl | rfl | rfl | rfl | rfl | rfl | rfl
  · have c0 := h 0 (by omega)
    simp only [WV]
    omega
  · have c0 := h 0 (by omega)
    have c1 := h 1 (by omega)
    simp only [WV]
    omega
  · have e0 : WV T b 0 = 0 := rfl
    have c0 := h 0 (by omega)
    have f0 : WV T b 1 = WV T b 0 * 256 + T.2 (b + 0) := rfl
    have c1 := h 1 (by omega)
    have f1 : WV T b 2 = WV T b 1 * 256 + T.2 (b + 1) := rfl
    have c2 := h 2 (by omega)
    have f2 : WV T b 3 = WV T b 2 * 256 + T.2 (b + 2) := rfl
    constructor
    · intro z
      have s2 : WV T b 2 = 28526 ∧ T.2 (b + 2) = 101 := by omega
      have s1 : WV T b 1 = 111 ∧ T.2 (b + 1) = 110 := by omega
      have s0 : WV T b 0 = 0 ∧ T.2 (b + 0) = 111 := by omega
      exact ⟨rfl, s0.2, s1.2, s2.2⟩
    · rintro ⟨-, q0, q1, q2⟩
      omega
  · have c0 := h 0 (by omega)
    have c1 := h 1 (by omega)
    have c2 := h 2 (by omega)
    have c3 := h 3 (by omega)
    simp only [WV]
    omega
  · have c0 := h 0 (by omega)
    have c1 := h 1 (by omega)
    have c2 := h 2 (by omega)
    have c3 := h 3 (by omega)
    have c4 := h 4 (by omega)
    simp only [WV]
    omega
  · have c0 := h 0 (by omega)
    have c1 := h 1 (by omega)
    have c2 := h 2 (by omega)
    have c3 := h 3 (by omega)
    have c4 := h 4 (by omega)
    have c5 := h 5 (by omega)
    simp only [WV]
    omega
  · have c0 := h 0 (by omega)
    have c1 := h 1 (by omega)
    have c2 := h 2 (by omega)
    have c3 := h 3 (by omega)
    have c4 := h 4 (by omega)
    have c5 := h 5 (by omega)
    have c6 := h 6 (by omega)
    simp only [WV]
    refine ⟨fun z => ?_, fun z => absurd z.1 (by decide)⟩
    exfalso
    omega
theorem wdq_5 {T : Nat × (Nat → Nat)} {b e : Nat} (h : ∀ i, i < e - b → 97 ≤ T.2 (b + i) ∧ T.2 (b + i) ≤ 122) (h1 : 1 ≤ e - b) : (WD T b (e - b) = (7302757 : Int64)) = (isW T b e 5 = true) := by
  refine propext ?_
  have ek : (7302757 : Int64) = jI 7302757 := by decide
  unfold WD
  rw [ek]
  by_cases c : e - b ≤ 7
  · rw [if_pos c, ← wq_5 h h1 c, ← Int64.toInt_inj]
    have hv := WV_lt (T := T) (b := b) (e - b) (fun i hi => by have := h i hi; omega)
    have hp : 256 ^ (e - b) ≤ 256 ^ 7 := Nat.pow_le_pow_right (by omega) c
    have hv7 : WV T b (e - b) < 72057594037927936 := Nat.lt_of_lt_of_le hv hp
    rw [jI_toInt (by omega) (by omega), jI_toInt (by omega) (by omega)]
    omega
  · rw [if_neg c]
    constructor
    · intro z
      exact absurd z (by decide)
    · intro z
      unfold isW at z
      rw [Bool.and_eq_true, decide_eq_true_eq] at z
      have := z.1
      have e2 : slN 5 = 3 := rfl
      omega
theorem wq_6 {T : Nat × (Nat → Nat)} {b e : Nat} (h : ∀ i, i < e - b → 97 ≤ T.2 (b + i) ∧ T.2 (b + i) ≤ 122) (h1 : 1 ≤ e - b) (h7 : e - b ≤ 7) : WV T b (e - b) = 1717925220 ↔ isW T b e 6 = true := by
  have hw : isW T b e 6 = true ↔ e - b = 4 ∧ T.2 (b + 0) = 102 ∧ T.2 (b + 1) = 101 ∧ T.2 (b + 2) = 117 ∧ T.2 (b + 3) = 100 := by
    unfold isW
    rw [Bool.and_eq_true, decide_eq_true_eq, alb_t]
    constructor
    · rintro ⟨p, q⟩
      exact ⟨p, of_decide_eq_true (q 0 (by decide)), of_decide_eq_true (q 1 (by decide)), of_decide_eq_true (q 2 (by decide)), of_decide_eq_true (q 3 (by decide))⟩
    · rintro ⟨p, q0, q1, q2, q3⟩
      refine ⟨p, fun i hi => decide_eq_true ?_⟩
      have hi : i < 4 := hi
      rcases (show i = 0 ∨ i = 1 ∨ i = 2 ∨ i = 3 by omega) with rfl | rfl | rfl | rfl
      · exact q0
      · exact q1
      · exact q2
      · exact q3
  rw [hw]
  generalize e - b = k at *
  rcases (show k = 1 ∨ k = 2 ∨ k = 3 ∨ k = 4 ∨ k = 5 ∨ k = 6 ∨ k = 7 by omega) with rfl | rfl | rfl | rfl | rfl | rfl | rfl
  · have c0 := h 0 (by omega)
    simp only [WV]
    omega
  · have c0 := h 0 (by omega)
    have c1 := h 1 (by omega)
    simp only [WV]
    omega
  · have c0 := h 0 (by omega)
    have c1 := h 1 (by omega)
    have c2 := h 2 (by omega)
    simp only [WV]
    omega
  · have e0 : WV T b 0 = 0 := rfl
    have c0 := h 0 (by omega)
    have f0 : WV T b 1 = WV T b 0 * 256 + T.2 (b + 0) := rfl
    have c1 := h 1 (by omega)
    have f1 : WV T b 2 = WV T b 1 * 256 + T.2 (b + 1) := rfl
    have c2 := h 2 (by omega)
    have f2 : WV T b 3 = WV T b 2 * 256 + T.2 (b + 2) := rfl
    have c3 := h 3 (by omega)
    have f3 : WV T b 4 = WV T b 3 * 256 + T.2 (b + 3) := rfl
    constructor
    · intro z
      have s3 : WV T b 3 = 6710645 ∧ T.2 (b + 3) = 100 := by omega
      have s2 : WV T b 2 = 26213 ∧ T.2 (b + 2) = 117 := by omega
      have s1 : WV T b 1 = 102 ∧ T.2 (b + 1) = 101 := by omega
      have s0 : WV T b 0 = 0 ∧ T.2 (b + 0) = 102 := by omega
      exact ⟨rfl, s0.2, s1.2, s2.2, s3.2⟩
    · rintro ⟨-, q0, q1, q2, q3⟩
      omega
  · have c0 := h 0 (by omega)
    have c1 := h 1 (by omega)
    have c2 := h 2 (by omega)
    have c3 := h 3 (by omega)
    have c4 := h 4 (by omega)
    simp only [WV]
    omega
  · have c0 := h 0 (by omega)
    have c1 := h 1 (by omega)
    have c2 := h 2 (by omega)
    have c3 := h 3 (by omega)
    have c4 := h 4 (by omega)
    have c5 := h 5 (by omega)
    simp only [WV]
    omega
  · have c0 := h 0 (by omega)
    have c1 := h 1 (by omega)
    have c2 := h 2 (by omega)
    have c3 := h 3 (by omega)
    have c4 := h 4 (by omega)
    have c5 := h 5 (by omega)
    have c6 := h 6 (by omega)
    simp only [WV]
    refine ⟨fun z => ?_, fun z => absurd z.1 (by decide)⟩
    exfalso
    omega
theorem wdq_6 {T : Nat × (Nat → Nat)} {b e : Nat} (h : ∀ i, i < e - b → 97 ≤ T.2 (b + i) ∧ T.2 (b + i) ≤ 122) (h1 : 1 ≤ e - b) : (WD T b (e - b) = (1717925220 : Int64)) = (isW T b e 6 = true) := by
  refine propext ?_
  have ek : (1717925220 : Int64) = jI 1717925220 := by decide
  unfold WD
  rw [ek]
  by_cases c : e - b ≤ 7
  · rw [if_pos c, ← wq_6 h h1 c, ← Int64.toInt_inj]
    have hv := WV_lt (T := T) (b := b) (e - b) (fun i hi => by have := h i hi; omega)
    have hp : 256 ^ (e - b) ≤ 256 ^ 7 := Nat.pow_le_pow_right (by omega) c
    have hv7 : WV T b (e - b) < 72057594037927936 := Nat.lt_of_lt_of_le hv hp
    rw [jI_toInt (by omega) (by omega), jI_toInt (by omega) (by omega)]
    omega
  · rw [if_neg c]
    constructor
    · intro z
      exact absurd z (by decide)
    · intro z
      unfold isW at z
      rw [Bool.and_eq_true, decide_eq_true_eq] at z
      have := z.1
      have e2 : slN 6 = 4 := rfl
      omega
theorem itemOfF {T : Nat × (Nat → Nat)} {b e : Nat} (h : ∀ i, i < e - b → 97 ≤ T.2 (b + i) ∧ T.2 (b + i) ≤ 122) (h1 : 1 ≤ e - b) : fX7_itemOf (WD T b (e - b)) = some (itI (wkc T b e)) := by
  unfold fX7_itemOf wkc
  cases c0 : isW T b e 0
  rotate_left
  · rw [if_pos (by rw [lg_eq, wdq_0 h h1, c0])]; rfl
  rw [if_neg (by rw [lg_eq, wdq_0 h h1, c0]; decide)]
  cases c1 : isW T b e 1
  rotate_left
  · rw [if_pos (by rw [lg_eq, wdq_1 h h1, c1])]; rfl
  rw [if_neg (by rw [lg_eq, wdq_1 h h1, c1]; decide)]
  cases c2 : isW T b e 2
  rotate_left
  · rw [if_pos (by rw [lg_eq, wdq_2 h h1, c2])]; rfl
  rw [if_neg (by rw [lg_eq, wdq_2 h h1, c2]; decide)]
  cases c3 : isW T b e 3
  rotate_left
  · rw [if_pos (by rw [lg_eq, wdq_3 h h1, c3])]; rfl
  rw [if_neg (by rw [lg_eq, wdq_3 h h1, c3]; decide)]
  cases c4 : isW T b e 4
  rotate_left
  · rw [if_pos (by rw [lg_eq, wdq_4 h h1, c4])]; rfl
  rw [if_neg (by rw [lg_eq, wdq_4 h h1, c4]; decide)]
  cases c5 : isW T b e 5
  rotate_left
  · rw [if_pos (by rw [lg_eq, wdq_5 h h1, c5])]; rfl
  rw [if_neg (by rw [lg_eq, wdq_5 h h1, c5]; decide)]
  cases c6 : isW T b e 6
  rotate_left
  · rw [if_pos (by rw [lg_eq, wdq_6 h h1, c6])]; rfl
  rw [if_neg (by rw [lg_eq, wdq_6 h h1, c6]; decide)]
  rfl
