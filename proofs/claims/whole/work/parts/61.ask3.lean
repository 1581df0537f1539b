theorem hr_n (S : Sv) (k : Int32) (x : Nat) : hr S k x = hr S k x := rfl
def wls (S : Sv) (x y : Nat) (n : Nat) : Nat := mask (fun k => decide (k < n) && decide (hr S (nI k) x = nI y)) 6
theorem wls_s {S : Sv} {x y n : Nat} (hn : n < 6) : (if hr S (nI n) x = nI y then nI (wls S x y n) ||| ((1 : Int32) <<< (nI n &&& 31)) else nI (wls S x y n)) = nI (wls S x y (n + 1)) := by
  unfold wls
  have st : ∀ i, i ≠ n → (decide (i < n + 1) && decide (hr S (nI i) x = nI y)) = (decide (i < n) && decide (hr S (nI i) x = nI y)) := by
    intro i hi
    have : (i < n + 1) = (i < n) := propext (by omega)
    simp only [this]
  by_cases c : hr S (nI n) x = nI y
  · rw [if_pos c, i_shl (n := 6) (by omega) hn, i_or (by omega)]
    refine congrArg nI (mask_congr 6 fun i _ => ?_)
    by_cases e : i = n
    · subst e; simp [c]
    · rw [st i e, beq_false_of_ne e, Bool.or_false]
  · rw [if_neg c]
    refine congrArg nI (mask_congr 6 fun i _ => ?_)
    by_cases e : i = n
    · subst e; simp [c]
    · rw [st i e]
theorem ag_wills (B : Nat) (a b : Int32) : Agree B (fX6_wills B a b) (fX7_wills (B + 178) a b) := fun G hW => by
  have h5 := hW.Q.W.H5
  cases c : (hasI G.S a && (hasI G.S b && !decide (a = b)))
  · refine ⟨-2, badG G, fun L h => ?_, fun L h => ?_, badG_w hW⟩
    · unfold fX6_wills
      rw [h.Q.S.hasTwoF hW.Q.W, bd_some, c, if_pos (by decide), bd_eta]; exact refK_bad (-2) L h
    · unfold fX7_wills fX7_wills_j21
      simp only [h.Q.S.isHouseF hW.Q.W, bd_some, bd_eta]
      obtain ⟨z, q⟩ := badJ (m := B + 178) (-2) L h
      refine ⟨z, ?_, q.2⟩
      cases ca : hasI G.S a
      · rw [if_pos (by decide)]; exact q.1
      cases cb : hasI G.S b
      · rw [if_neg (by decide), if_pos (by decide)]; exact q.1
      by_cases cn : a = b
      · rw [if_neg (by decide), if_neg (by decide), if_pos cn]; exact q.1
      · rw [ca, cb, decide_eq_false cn] at c; cases c
  · obtain ⟨j, k, hj, hk, hjk, rfl, rfl⟩ := two_c c
    have w0 : nI (wls G.S j k 0) = 0 := by
      unfold wls
      simp only [Nat.not_lt_zero, decide_false, Bool.false_and, mask_zero]; rfl
    refine ⟨nI (wls G.S j k 6), G, fun L h => ?_, fun L h => ?_, hW⟩
    · unfold fX6_wills
      have hS := h.Q.S
      rw [hS.hasTwoF hW.Q.W, bd_some, c, if_neg (by decide)]
      refine lx_inv 6 (fun i s => ∃ L2, s = (nI (wls G.S j k i), nI i, L2) ∧ Fr (SA (B + 1)) L L2) (by decide) ⟨L, by rw [w0]; rfl, Fr.refl L⟩ ?_ ?_ ?_
      · rintro i _ hi ⟨L2, rfl, f⟩
        have hS2 : SC L2 (B + 1) G.S := hS.frame fun a _ _ => f.1 a (by unfold SA; omega)
        unfold fX6_wills_b26
        dsimp only
        obtain ⟨z, e1, e2, f2⟩ := hS2.heirF hW.Q.W (x := j) (by omega) (nI i)
        rw [if_neg (by rw [l6, nQ_le (by omega) (by omega)]; omega), e1, bd_some, e2, ← wls_s hi]
        by_cases c3 : hr G.S (nI i) j = nI k
        · rw [if_pos c3, if_pos c3]; simp only [lt_eq, nQ_s]; exact ⟨_, rfl, _, rfl, f.trans f2⟩
        · rw [if_neg c3, if_neg c3]; simp only [lt_eq, nQ_s]; exact ⟨_, rfl, _, rfl, f.trans f2⟩
      · rintro _ ⟨L2, rfl, f⟩; rfl
      · rintro _ ⟨L2, rfl, f⟩
        exact ⟨_, rfl, rfl, h.scrF f (fun a e => scr_SA e)⟩
    · unfold fX7_wills
      have hR := h.Q.S
      simp only [hR.isHouseF hW.Q.W, bd_some, hasI_n G.S (show j < 2147483648 by omega), hasI_n G.S (show k < 2147483648 by omega), decide_eq_true hj, decide_eq_true hk]
      rw [if_neg (by decide), if_neg (by decide), if_neg (by rw [nQ_eq (by omega) (by omega)]; exact hjk)]
      refine lx_inv 6 (fun i s => ∃ L2, s = (nI (wls G.S j k i), nI i, L2) ∧ Fr (· = B + 178 + 8) L L2) (by decide) ⟨L, by rw [w0]; rfl, Fr.refl L⟩ ?_ ?_ ?_
      · rintro i _ hi ⟨L2, rfl, f⟩
        have hR2 : RC L2 (B + 178 + 1) G.S := hR.frame (f.1 _ (by omega))
        unfold fX7_wills_b33
        dsimp only
        obtain ⟨z, e1, e2, f2⟩ := hR2.heirOnF (m := B + 178) (n := 228) hW.Q.W (by omega) (by omega) (by omega) hj hi
        rw [if_neg (by rw [l5, nQ_lt (by omega) (by omega)]; omega), e1, bd_some, e2, i_or0, ← wls_s hi]
        by_cases c3 : hr G.S (nI i) j = nI k
        · rw [if_pos c3, if_pos c3]; simp only [lt_eq, nQ_s]; exact ⟨_, rfl, _, rfl, f.trans f2⟩
        · rw [if_neg c3, if_neg c3]; simp only [lt_eq, nQ_s]; exact ⟨_, rfl, _, rfl, f.trans f2⟩
      · rintro _ ⟨L2, rfl, f⟩; rfl
      · rintro _ ⟨L2, rfl, f⟩
        exact ⟨_, rfl, rfl, h.scrF f (fun a e => by omega)⟩
theorem ag_part (B : Nat) (a : Int32) : Agree B (fX6_part B a) (fX7_part (B + 178) a) := fun G hW => by
  by_cases c0 : a = 0
  · refine ⟨G.ab, G, fun L h => ?_, fun L h => ?_, hW⟩
    · unfold fX6_part
      rw [c0, if_neg (by decide), if_pos (by decide), if_pos rfl]; exact ⟨_, rfl, h.ab, h, FrK.refl B L⟩
    · unfold fX7_part
      rw [c0, if_pos rfl]; exact ⟨_, rfl, h.ab, h, FrJ.refl _ L⟩
  by_cases c1 : a = 1
  · refine ⟨G.bl, G, fun L h => ?_, fun L h => ?_, hW⟩
    · unfold fX6_part
      rw [c1, if_neg (by decide), if_pos (by decide), if_neg (by decide)]; exact ⟨_, rfl, h.bl, h, FrK.refl B L⟩
    · unfold fX7_part
      rw [c1, if_neg (by decide), if_pos rfl]; exact ⟨_, rfl, h.bl, h, FrJ.refl _ L⟩
  refine ⟨(-2 : Int32).toInt64, badG G, fun L h => ?_, fun L h => ?_, badG_w hW⟩
  · unfold fX6_part fX6_part_j9
    obtain ⟨z, q1, q2, q3⟩ := refK_bad (B := B) (-2) L h
    rw [q1, bd_some, q2]
    simp only [Int32.lt_iff_toInt_lt, Int32.le_iff_toInt_le, tl_0, tl_1]
    by_cases d1 : a.toInt < 0
    · rw [if_pos d1]; exact ⟨_, rfl, rfl, q3⟩
    · have n0 : a.toInt ≠ 0 := fun e => c0 (Int32.toInt_inj.mp e)
      have n1 : a.toInt ≠ 1 := fun e => c1 (Int32.toInt_inj.mp e)
      rw [if_neg d1, if_neg (by omega)]; exact ⟨_, rfl, rfl, q3⟩
  · unfold fX7_part
    obtain ⟨z, q1, q2, q3⟩ := badJ (m := B + 178) (-2) L h
    rw [if_neg c0, if_neg c1, q1, bd_some, q2]
    exact ⟨_, rfl, rfl, q3⟩
