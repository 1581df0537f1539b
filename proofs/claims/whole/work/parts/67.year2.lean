theorem yf_un (S : Sv) : ∀ n, (yf S n).un = S.un
  | 0 => rfl
  | n + 1 => by
    show (if (yf S n).st n && !decide ((yf S n).be n < 100) then fallS (yf S n) n else yf S n).un = _
    have ih := yf_un S n
    split
    · exact ih
    · exact ih
theorem yearS_un (S : Sv) : (yearS S).un = S.un := yf_un _ _
def yG (G : Gv) : Nat → Gv
  | 0 => G
  | n + 1 => (keepG (yG G n)).set_S (yearS (keepG (yG G n)).S)
theorem yG_w {G : Gv} (hW : WG G) : ∀ n, WG (yG G n)
  | 0 => hW
  | n + 1 => by
    have h := keepG_w (yG_w hW n)
    exact h.streetB (yearS_wf h.Q.W) (yearS_un _) (yearS_H h.Q.W) (yearS_P h.Q.W)
theorem l20 : (20 : Int32) = nI 20 := rfl
theorem ag_year (B : Nat) (a : Int32) : Agree B (fX6_year B a) (fX7_year (B + 178) a) := fun G hW => by
  cases c : inb a 1 20
  · have c' := inb_f.mp c
    refine ⟨-2, badG G, fun L h => ?_, fun L h => ?_, badG_w hW⟩
    · unfold fX6_year fX6_year_j11
      simp only [bd_eta, Int32.lt_iff_toInt_lt, Int32.le_iff_toInt_le, tl_1, tl_20]
      obtain ⟨z, q⟩ := refK_bad (B := B) (-2) L h
      refine ⟨z, ?_, q.2⟩
      by_cases c1 : a.toInt < 1
      · rw [if_pos c1]; exact q.1
      · rw [if_neg c1, if_neg (by omega)]; exact q.1
    · unfold fX7_year
      rw [inF, bd_some, show (1 : Int64).toInt = 1 by decide, show (20 : Int64).toInt = 20 by decide, c, if_pos (by decide), bd_eta]; exact badJ (-2) L h
  have c' := inb_t.mp c
  obtain ⟨k, hk, rfl⟩ := nI_of_int (v := a) (n := 21) (by omega) (by omega)
  have hk1 : 1 ≤ k := by rw [nI_toI (by omega)] at c'; omega
  refine ⟨nI (ct (yG G k).S.st 5), yG G k, fun L h => ?_, fun L h => ?_, yG_w hW k⟩
  · unfold fX6_year
    rw [if_neg (by rw [l1, nQ_lt (by omega) (by omega)]; omega), if_pos (by rw [l20, nQ_le (by omega) (by omega)]; omega)]
    refine lx_inv k (fun i s => ∃ L2, s = (nI i, L2) ∧ KI L2 B (yG G i) ∧ FrK B L L2) (by rw [FU_20000]; omega) ⟨L, rfl, h, FrK.refl B L⟩ ?_ ?_ ?_
    · rintro i _ hi ⟨L2, rfl, q, f⟩
      unfold fX6_year_b22
      dsimp only
      have hWi := yG_w hW i
      obtain ⟨L3, e3, q3, f3⟩ := q.keep hWi
      have hW3 := keepG_w hWi
      obtain ⟨L4, e4, q4, f4⟩ := q3.Q.S.passYearF hW3.Q.W
      obtain ⟨k4, g4⟩ := q3.streetB q4 f4 (yearS_un _) (yearS_H hW3.Q.W) (yearS_P hW3.Q.W)
      rw [if_neg (by rw [nQ_le (by omega) (by omega)]; omega), e3, bd_some, e4, bd_some]
      simp only [lt_eq, nQ_s]
      exact ⟨_, rfl, L4, rfl, k4, (f.trans f3).trans g4⟩
    · rintro _ ⟨L2, rfl, -⟩
      unfold fX6_year_b22
      dsimp only
      rw [if_pos (by rw [nQ_le (by omega) (by omega)]; omega)]
    · rintro _ ⟨L2, rfl, q, f⟩
      dsimp only
      rw [q.Q.S.st, bitCount5, bd_some]
      exact ⟨_, rfl, rfl, q, f⟩
  · unfold fX7_year
    rw [inF, bd_some, show (1 : Int64).toInt = 1 by decide, show (20 : Int64).toInt = 20 by decide, c, if_neg (by decide)]
    refine lx_inv k (fun i s => ∃ L2, s = (nI i, L2) ∧ JI L2 (B + 178) (yG G i) ∧ FrJ (B + 178) L L2) (by rw [FU_20000]; omega) ⟨L, rfl, h, FrJ.refl _ L⟩ ?_ ?_ ?_
    · rintro i _ hi ⟨L2, rfl, q, f⟩
      unfold fX7_year_b21
      dsimp only
      have hWi := yG_w hW i
      obtain ⟨L3, e3, q3, f3⟩ := q.keep hWi
      have hW3 := keepG_w hWi
      obtain ⟨L4, e4, q4, f4, kp4⟩ := q3.Q.S.yearGoesF (m := B + 178) (n := 228) hW3.Q.W (by omega) (by omega) (by omega)
      obtain ⟨k4, g4⟩ := q3.streetB q4 f4 kp4 (yearS_un _)
      rw [if_neg (by rw [nQ_le (by omega) (by omega)]; omega), e3, bd_some, e4, bd_some]
      simp only [lt_eq, nQ_s]
      exact ⟨_, rfl, L4, rfl, k4, (f.trans f3).trans g4⟩
    · rintro _ ⟨L2, rfl, -⟩
      unfold fX7_year_b21
      dsimp only
      rw [if_pos (by rw [nQ_le (by omega) (by omega)]; omega)]
    · rintro _ ⟨L2, rfl, q, f⟩
      dsimp only
      rw [q.Q.S.standingF (yG_w hW k).Q.W (by omega) (by omega), bd_some, bits5, bd_some]
      exact ⟨_, rfl, rfl, q, f⟩
