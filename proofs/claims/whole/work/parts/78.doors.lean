/-! ===== doors ===== -/
def drs (a b : Nat) (da db : Bool) (h : Nat) : Bool := (h == a && da) || (h == b && db)
theorem drs_comm (a b : Nat) (da db : Bool) : drs b a db da = drs a b da db := by
  funext h; unfold drs; rw [Bool.or_comm]
def gn (S : Sv) (f a : Nat) (dr : Nat → Bool) : Int32 :=
  lt (if hb S (S.wl f) f dr = nI a then nI (lvn S (nI f)) else 0) fun come => lt (nI (lvn S (nI a)) + come - S.rm a) fun over => 2 * come - (if over ≤ 0 then 0 else over) - bI (dr a)
theorem bitv : ∀ k, k < 64 → ∀ h, h < 6 → (nI k >>> (nI h &&& 31)) &&& 1 = bI (tb k h) := by decide +kernel
theorem i_bitv {p : Nat → Bool} {h : Nat} (hh : h < 5) : (nI (mask p 5) >>> (nI h &&& 31)) &&& 1 = bI (p h) := by
  rw [bitv _ (mask64 p (by omega)) h (by omega), mask_tb hh]
theorem max0 (x : Int32) : fJ9_max_7cf53 0 x = some (if x ≤ 0 then 0 else x) := by
  unfold fJ9_max_7cf53
  by_cases c : x ≤ 0
  · rw [if_pos c, if_neg (Int32.not_lt.mpr c)]
  · rw [if_neg c, if_pos (Int32.not_le.mp c)]
section DOO
variable {L : HL} {b0 m B : Nat} {S : Sv} {G : Gv}
theorem gainF (hS : SC L (B + 1) S) (hW : WF S) {a f : Nat} (ha : a < S.H) (hf : f < S.H) (sf : S.st f = true) (dr : Nat → Bool) : ∃ z, fX6_gain B (nI a) (nI f) (nI (mask dr 5)) L = some z ∧ z.1 = gn S f a dr ∧ Fr (SA (B + 1)) L z.2 := by
  have h5 := hW.H5
  unfold fX6_gain
  rw [gd_of (vin_nI (by omega) (by omega)), nI_cl (by omega), hS.wl f hf]
  obtain ⟨z, e1, v1, f1⟩ := hS.heirByF hW (x := f) (by omega) (S.wl f) dr
  rw [sf, if_pos rfl] at v1
  have hS1 : SC z.2 (B + 1) S := hS.frame fun a _ _ => f1.1 a (by unfold SA; omega)
  rw [e1, bd_some, v1]
  have j46 : ∀ s, fX6_gain_j46 B (nI a) (nI (mask dr 5)) s z.2 = some (2 * s - (if nI (lvn S (nI a)) + s - S.rm a ≤ 0 then 0 else nI (lvn S (nI a)) + s - S.rm a) - bI (dr a), z.2) := by
    intro s
    unfold fX6_gain_j46
    rw [hS1.dwellersF hW, bd_some, gd_of (vin_nI (by omega) (by omega)), nI_cl (by omega), hS1.rm a ha, max0, bd_some, i_bitv (by omega)]
  unfold fX6_gain_j27
  refine ⟨(gn S f a dr, z.2), ?_, rfl, f1⟩
  unfold gn
  rw [lt_eq, lt_eq]
  by_cases c : hb S (S.wl f) f dr = nI a
  · rw [if_pos c, if_pos c, if_neg (by decide), hS1.dwellersF hW, bd_some, j46]
  · rw [if_neg c, if_neg c, if_pos (by decide), j46]
theorem RC.getsByF (hR : RC L (m + 1) S) (hW : WF S) {a b f : Nat} (ha : a < S.H) (hb' : b < S.H) (hfH : f < S.H) (sa : S.st a = true) (sb : S.st b = true) (sf : S.st f = true) (hab : a ≠ b) (haf : a ≠ f) (hbf : b ≠ f) (da db : Bool) : ∃ z, fX7_getsBy m (nI a) (nI b) (nI f) (bI da) (bI db) L = some z ∧ z.1 = gn S f a (drs a b da db) ∧ Fr (· = m + 8) L z.2 := by
  have h5 := hW.H5
  obtain ⟨q, hq, eq⟩ := hW.wl f hfH
  unfold fX7_getsBy
  refine lx_inv S.H (fun i s => ∃ L1, s = ((hf S (S.wl f) f (drs a b da db) i).1, (hf S (S.wl f) f (drs a b da db) i).2, nI i, L1) ∧ Fr (· = m + 8) L L1) (by rw [FU_20000]; omega) ⟨L, rfl, Fr.refl L⟩ ?_ ?_ ?_
  · rintro i _ hi ⟨L1, rfl, f1⟩
    have hR1 : RC L1 (m + 1) S := hR.frame (f1.1 _ (by omega))
    have hle := hf_le S (S.wl f) f (drs a b da db) i
    show ∃ s', fX7_getsBy_b11 m (nI a) (nI b) (nI f) (bI da) (bI db) (hf S (S.wl f) f (drs a b da db) i).1 (hf S (S.wl f) f (drs a b da db) i).2 (nI i) L1 = some (Sum.inl s') ∧ ∃ L2, s' = ((hs S (S.wl f) f (drs a b da db) i (hf S (S.wl f) f (drs a b da db) i)).1, (hs S (S.wl f) f (drs a b da db) i (hf S (S.wl f) f (drs a b da db) i)).2, nI (i + 1), L2) ∧ Fr (· = m + 8) L L2
    generalize hf S (S.wl f) f (drs a b da db) i = s at *
    have rl : L1.1 (m + 1) ((24 : Int32) + nI f).toNatClampNeg = nI q := by rw [l24, nQ_add, nI_cl (by omega), ← eq]; exact hR1.wl f (by omega)
    have j114 : ∀ r L2, fX7_getsBy_j114 m (nI a) (nI b) (nI f) (bI da) (bI db) s.1 s.2 (nI i) r L2 = some (Sum.inl ((pick s r (nI i)).1, (pick s r (nI i)).2, nI (i + 1), L2)) := by
      intro r L2
      unfold fX7_getsBy_j114 fX7_getsBy_j130 pick
      by_cases c : s.2 ≤ r
      · rw [if_pos c, if_pos c, if_pos c]; simp only [lt_eq, nQ_s]
      · rw [if_neg c, if_neg c, if_neg c]; simp only [lt_eq, nQ_s]
    have j80 : ∀ r L2, fX7_getsBy_j80 m (nI a) (nI b) (nI f) (bI da) (bI db) s.1 s.2 (nI i) r L2 = some (Sum.inl ((pick s ((if r = 1000 then 9 else r) - 3) (nI i)).1, (pick s ((if r = 1000 then 9 else r) - 3) (nI i)).2, nI (i + 1), L2)) := by
      intro r L2
      unfold fX7_getsBy_j80 fX7_getsBy_j85
      rw [if_neg (by decide)]
      by_cases c : r = 1000
      · rw [if_pos c, if_pos c, j114, show (9 : Int32) - 3 = 6 by decide]
      · rw [if_neg c, if_neg c, j114]
    have j84 : ∀ r L2, fX7_getsBy_j84 m (nI a) (nI b) (nI f) (bI da) (bI db) s.1 s.2 (nI i) r L2 = some (Sum.inl ((pick s r (nI i)).1, (pick s r (nI i)).2, nI (i + 1), L2)) := by
      intro r L2
      unfold fX7_getsBy_j84 fX7_getsBy_j85
      rw [if_pos rfl, j114]
    have j54 : ∀ r L2, fX7_getsBy_j54 m (nI a) (nI b) (nI f) (bI da) (bI db) s.1 s.2 (nI i) r L2 = some (Sum.inl ((pick s (if drs a b da db i then (if r = 1000 then 9 else r) - 3 else r) (nI i)).1, (pick s (if drs a b da db i then (if r = 1000 then 9 else r) - 3 else r) (nI i)).2, nI (i + 1), L2)) := by
      intro r L2
      unfold fX7_getsBy_j54 fX7_getsBy_j68
      by_cases ca : i = a
      · have cb : ¬ i = b := fun e => hab (ca.symm.trans e)
        have cb' : ¬ nI i = nI b := by rw [nQ_eq (by omega) (by omega)]; exact cb
        rw [if_pos (by rw [ca])]
        have e : drs a b da db i = da := by unfold drs; rw [ca, beq_self_eq_true, beq_false_of_ne hab]; simp
        rw [e]
        cases da
        · rw [if_neg (by decide), if_neg cb', j84]; rfl
        · rw [if_pos (by decide), j80]; rfl
      · rw [if_neg (by rw [nQ_eq (by omega) (by omega)]; exact ca)]
        by_cases cb : i = b
        · rw [if_pos (by rw [cb])]
          have e : drs a b da db i = db := by unfold drs; rw [cb, beq_self_eq_true, beq_false_of_ne (fun z => hab z.symm)]; simp
          rw [e]
          cases db
          · rw [if_neg (by decide), j84]; rfl
          · rw [if_pos (by decide), j80]; rfl
        · rw [if_neg (by rw [nQ_eq (by omega) (by omega)]; exact cb)]
          have e : drs a b da db i = false := by unfold drs; rw [beq_false_of_ne ca, beq_false_of_ne cb]; rfl
          rw [e, j84]; rfl
    have dn : i = f ∨ S.st i = false → drs a b da db i = false := by
      intro h
      have n1 : i ≠ a := by
        rintro rfl
        rcases h with h | h
        · exact haf h
        · rw [sa] at h; cases h
      have n2 : i ≠ b := by
        rintro rfl
        rcases h with h | h
        · exact hbf h
        · rw [sb] at h; cases h
      unfold drs; rw [beq_false_of_ne n1, beq_false_of_ne n2]; rfl
    unfold fX7_getsBy_b11
    rw [c0q, hR1.H, if_neg (by rw [nQ_le (by omega) (by omega)]; omega), gd_of (by rw [l24, nQ_add]; exact vin_nI (by omega) (by omega)), rl]
    by_cases c1 : i = f
    · rw [if_pos (by rw [c1]), j54, dn (.inl c1)]
      have e : hs S (S.wl f) f (drs a b da db) i s = s := if_pos (.inl c1)
      rw [e, if_neg (by decide), pick_no hle]
      exact ⟨_, rfl, L1, rfl, f1⟩
    rw [if_neg (by rw [nQ_eq (by omega) (by omega)]; exact c1)]
    obtain ⟨z, e2, v2, f2⟩ := hR1.rankOnF (m := m) (n := 228) hW (by omega) (by omega) (by omega) hfH hi hq
    rw [e2, bd_some, v2, j54, sf, Bool.true_and]
    cases c2 : S.st i
    · rw [dn (.inr c2)]
      have e : hs S (S.wl f) f (drs a b da db) i s = s := if_pos (.inr c2)
      rw [e, if_neg (by decide), if_neg (by decide), pick_no hle]
      exact ⟨_, rfl, z.2, rfl, f1.trans f2⟩
    · have e : hs S (S.wl f) f (drs a b da db) i s = pick s (rkd S (S.wl f) f (drs a b da db) i) (nI i) := if_neg (by rw [c2]; simp [c1])
      rw [e, if_pos rfl, ← eq]
      exact ⟨_, rfl, z.2, rfl, f1.trans f2⟩
  · rintro _ ⟨L1, rfl, f1⟩
    have hR1 : RC L1 (m + 1) S := hR.frame (f1.1 _ (by omega))
    unfold fX7_getsBy_b11
    dsimp only
    rw [c0q, hR1.H, if_pos (by rw [nQ_le (by omega) (by omega)]; omega)]
  · rintro _ ⟨L1, rfl, f1⟩
    have hR1 : RC L1 (m + 1) S := hR.frame (f1.1 _ (by omega))
    have b6 : ∀ z, fX7_bits (nI (mask (lv S (nI z)) 6)) = some (nI (lvn S (nI z))) := fun z => by rw [bits6, lvn_ct hW]
    have rr : L1.1 (m + 1) ((4 : Int32) + nI a).toNatClampNeg = S.rm a := by rw [l4, nQ_add, nI_cl (by omega)]; exact hR1.rm a (by omega)
    have ed : drs a b da db a = da := by unfold drs; rw [beq_self_eq_true, beq_false_of_ne hab]; simp
    have j175 : ∀ s, fX7_getsBy_j175 m (nI a) (bI da) s L1 = some (2 * s - (if nI (lvn S (nI a)) + s - S.rm a ≤ 0 then 0 else nI (lvn S (nI a)) + s - S.rm a) - bI (drs a b da db a), L1) := by
      intro s
      unfold fX7_getsBy_j175
      rw [hR1.livingInF hW (by omega) (by omega), bd_some, b6, bd_some, gd_of (by rw [l4, nQ_add]; exact vin_nI (by omega) (by omega)), lt_eq, rr, ed]
      by_cases c : nI (lvn S (nI a)) + s - S.rm a ≤ 0
      · rw [if_pos c, if_pos c]
      · rw [if_neg c, if_neg c]
    refine ⟨(gn S f a (drs a b da db), L1), ?_, rfl, f1⟩
    show (if (hf S (S.wl f) f (drs a b da db) S.H).1 = nI a then _ else _) = _
    unfold gn
    rw [lt_eq, lt_eq]
    show _ = some (2 * (if (hf S (S.wl f) f (drs a b da db) S.H).1 = nI a then nI (lvn S (nI f)) else 0) - _ - _, L1)
    by_cases c : (hf S (S.wl f) f (drs a b da db) S.H).1 = nI a
    · rw [if_pos c]
      dsimp only
      rw [hR1.livingInF hW (by omega) (by omega), bd_some, b6, bd_some, j175]
      unfold hb
      rw [if_pos c]
    · rw [if_neg c]
      dsimp only
      rw [j175]
      unfold hb
      rw [if_neg c]
end DOO
