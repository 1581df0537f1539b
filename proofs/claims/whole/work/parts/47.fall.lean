/-! ===== heirs, falls ===== -/
def SA (b : Nat) (a : Nat) : Prop := a = b + 11 ∨ a = b + 12 ∨ a = b + 13
def SB (b : Nat) (a : Nat) : Prop := b ≤ a ∧ a < b + 14
def fallS (S : Sv) (x : Nat) : Sv := (S.set_wh fun p => if p < S.P ∧ S.wh p = nI x then hr S (S.wl x) x else S.wh p).set_st fun h => S.st h && !(h == x)
def Kp (t : Nat) (L L' : HL) : Prop := ∀ k, k = 3 ∨ 92 ≤ k → L'.1 t k = L.1 t k
theorem Kp.refl {t : Nat} {L : HL} : Kp t L L := fun _ _ => rfl
theorem Kp.trans {t : Nat} {L L' L'' : HL} (h : Kp t L L') (h' : Kp t L' L'') : Kp t L L'' := fun k hk => (h' k hk).trans (h k hk)
theorem Kp.fr {t : Nat} {A : Nat → Prop} {L L' : HL} (h : Fr A L L') (hA : ¬ A t) : Kp t L L' := fun k _ => by rw [h.1 t hA]
theorem Kp.wI {t i : Nat} {v : Int32} {L L' : HL} (h : Kp t L L') (hi : i ≠ 3 ∧ i < 92) : Kp t L (wI L' t i v) := fun k hk => (wQ_other (by omega)).trans (h k hk)
theorem fallS_wf {S : Sv} (hW : WF S) (x : Nat) : WF (fallS S x) := by
  refine WF.of hW.H5 hW.P6 (fun h e => hW.st h ?_) hW.wa hW.ws hW.fi hW.fs hW.fm hW.fa (fun p hp => ?_) hW.wl hW.mk hW.fr hW.wo hW.rm
  · have e : (S.st h && !(h == x)) = true := e
    rw [Bool.and_eq_true] at e; exact e.1
  · show (if p < S.P ∧ S.wh p = nI x then hr S (S.wl x) x else S.wh p) = -1 ∨ ∃ h, h < S.H ∧ (if p < S.P ∧ S.wh p = nI x then hr S (S.wl x) x else S.wh p) = nI h
    split
    · rcases hr_in hW (S.wl x) x with e | ⟨h, h1, h2, -⟩
      · exact .inl e
      · exact .inr ⟨h, h1, h2⟩
    · exact hW.wh p hp
section FAL
variable {L : HL} {b t n : Nat} {S : Sv}
theorem SC.heirByF (hS : SC L b S) (hW : WF S) {x : Nat} (hx : x < 5) (k : Int32) (dr : Nat → Bool) : ∃ z, fX4_heirBy b k (nI x) (nI (mask dr 5)) L = some z ∧ z.1 = (if S.st x then hb S k x dr else -1) ∧ Fr (SA b) L z.2 := by
  have h5 := hW.H5
  unfold fX4_heirBy
  rw [hS.standsF, bd_some, stI_n S hx]
  cases sx : S.st x
  · rw [if_pos (by decide)]; exact ⟨_, rfl, rfl, Fr.refl L⟩
  rw [if_neg (by decide)]
  have hxH := hW.st x sx
  obtain ⟨L1, e1, f1, m1⟩ := hS.measureStepsF hW hxH
  have hS1 : SC L1 b S := hS.frame fun a _ _ => f1.1 a (by omega)
  obtain ⟨L2, e2, f2, m2⟩ := hS1.measureDwellersF hW
  have hS2 : SC L2 b S := hS1.frame fun a _ _ => f2.1 a (by omega)
  have hM : MR L2 b S x := ⟨fun h hh => by rw [f2.1 (b + 11) (by omega)]; exact m1 h hh, m2⟩
  rw [e1, bd_some, e2, bd_some]
  refine ⟨(hb S k x dr, L2), ?_, rfl, (f1.mono fun a h => .inl h).trans (f2.mono fun a h => .inr h)⟩
  refine (lx_for S.H (fun i => ((hf S k x dr i).1, (hf S k x dr i).2, nI i)) rfl (by rw [FU_20000]; omega) ?_ ?_).trans rfl
  · intro i hi
    unfold fX4_heirBy_b30
    show _ = some (Sum.inl ((hs S k x dr i (hf S k x dr i)).1, (hs S k x dr i (hf S k x dr i)).2, nI (i + 1)))
    generalize hf S k x dr i = s
    have g1 : ¬ S.H ≤ i := by omega
    simp (disch := omega) only [hS2.H, nQ_le, g1, if_false, nQ_eq]
    unfold hs
    by_cases c : i = x
    · rw [if_pos c, if_pos (.inl c)]; simp only [lt_eq, nQ_s]
    rw [if_neg c, hS2.standsF, bd_some, stI_n S (by omega)]
    cases si : S.st i
    · rw [if_pos (by decide), if_pos (.inr rfl)]; simp only [lt_eq, nQ_s]
    rw [if_neg (by decide), if_neg (by simp [c]), hS2.measuredRankF hW hM hxH hi, bd_some]
    have j93 : ∀ r, fX4_heirBy_j93 b k (nI x) (nI (mask dr 5)) s.1 s.2 (nI i) r L2 = some (Sum.inl ((pick s r (nI i)).1, (pick s r (nI i)).2, nI (i + 1))) := by
      intro r
      unfold fX4_heirBy_j93 pick
      by_cases c : s.2 ≤ r
      · rw [if_pos c, if_pos c]; simp only [lt_eq, nQ_s]
      · rw [if_neg c, if_neg c]; simp only [lt_eq, nQ_s]
    have j89 : ∀ r, fX4_heirBy_j89 b k (nI x) (nI (mask dr 5)) s.1 s.2 (nI i) r L2 = some (Sum.inl ((pick s (r - 3) (nI i)).1, (pick s (r - 3) (nI i)).2, nI (i + 1))) := fun r => j93 (r - 3)
    unfold rkd
    by_cases c1 : dr i = true
    · rw [if_pos ((mask_bit (by omega) (by omega)).mpr c1), if_pos c1]
      by_cases c2 : rkv S k x i = 1000
      · rw [if_pos c2, if_pos c2, j89]
      · rw [if_neg c2, if_neg c2, j89]
    · rw [if_neg (fun e => c1 ((mask_bit (by omega) (by omega)).mp e)), if_neg c1, j93]
  · unfold fX4_heirBy_b30
    simp (disch := omega) only [hS2.H, nQ_le, Nat.le_refl, if_true]
theorem SC.heirF (hS : SC L b S) (hW : WF S) {x : Nat} (hx : x < 5) (k : Int32) : ∃ z, fX4_heirBy b k (nI x) 0 L = some z ∧ z.1 = hr S k x ∧ Fr (SA b) L z.2 := by
  have := hS.heirByF hW hx k nod
  rw [show mask nod 5 = 0 from mask_zero 5] at this
  exact this
theorem RC.heirOnF {m : Nat} (hR : RC L t S) (hW : WF S) (hn : 92 ≤ n) (hn' : n < 1000) (htm : t ≠ m + 8) {x k : Nat} (hx : x < S.H) (hk : k < 6) : ∃ z, fX7_heirOn m t n (nI k) (nI x) L = some z ∧ z.1 = hr S (nI k) x ∧ Fr (· = m + 8) L z.2 := by
  have h5 := hW.H5
  unfold fX7_heirOn
  have v0 : vin (0 : Int32) n := vin_nI (i := 0) (by omega) (by omega)
  have c0 : (0 : Int32).toNatClampNeg = 0 := by decide
  have eH : hr S (nI k) x = (if S.st x then hf S (nI k) x nod S.H else (-1, 1000)).1 := by
    unfold hr hb; cases S.st x <;> rfl
  rw [eH]
  refine lx_inv S.H (fun i s => ∃ L1, s = ((if S.st x then hf S (nI k) x nod i else (-1, 1000)).1, (if S.st x then hf S (nI k) x nod i else (-1, 1000)).2, nI i, L1) ∧ Fr (· = m + 8) L L1) (by rw [FU_20000]; omega) ⟨L, by cases S.st x <;> rfl, Fr.refl L⟩ ?_ ?_ ?_
  · rintro i _ hi ⟨L1, rfl, f⟩
    have hR1 : RC L1 t S := hR.frame (f.1 t htm)
    unfold fX7_heirOn_b11
    have g1 : ¬ S.H ≤ i := by omega
    rw [gd_of v0, c0, hR1.H, if_neg (by rw [nQ_le (by omega) (by omega)]; exact g1)]
    have e : (if S.st x then hf S (nI k) x nod (i + 1) else (-1, 1000)) = pick (if S.st x then hf S (nI k) x nod i else (-1, 1000)) (if i = x then 1000 else if S.st x && S.st i then rkv S (nI k) x i else 1000) (nI i) := by
      cases sx : S.st x
      · simp only [Bool.false_and, Bool.false_eq_true, if_false, ite_self]
        exact (pick_no (show (1000 : Int32) ≤ 1000 by decide)).symm
      · simp only [if_true, Bool.true_and]
        show hs S (nI k) x nod i _ = _
        unfold hs
        by_cases c : i = x
        · rw [if_pos (.inl c), if_pos c]; exact (pick_no (hf_le ..)).symm
        · rw [if_neg c]
          cases si : S.st i
          · rw [if_pos (.inr rfl)]; exact (pick_no (hf_le ..)).symm
          · rw [if_neg (by simp [c])]; rfl
    rw [e]
    generalize (if S.st x then hf S (nI k) x nod i else (-1, 1000)) = s
    have j40 : ∀ r L2, fX7_heirOn_j40 m t n (nI k) (nI x) s.1 s.2 (nI i) r L2 = some (Sum.inl ((pick s r (nI i)).1, (pick s r (nI i)).2, nI (i + 1), L2)) := by
      intro r L2
      unfold fX7_heirOn_j40 fX7_heirOn_j56 pick
      by_cases c : s.2 ≤ r
      · rw [if_pos c, if_pos c, if_pos c]; simp only [lt_eq, nQ_s]
      · rw [if_neg c, if_neg c, if_neg c]; simp only [lt_eq, nQ_s]
    by_cases c : i = x
    · rw [if_pos (by rw [c]), if_pos c, j40]; exact ⟨_, rfl, L1, rfl, f⟩
    · rw [if_neg (by rw [nQ_eq (by omega) (by omega)]; exact c), if_neg c]
      obtain ⟨⟨r, L2⟩, e1, e2, f2⟩ := hR1.rankOnF hW hn hn' htm hx hi hk
      dsimp only at e2 f2
      rw [e1, bd_some, ← e2]
      dsimp only
      rw [j40]
      exact ⟨_, rfl, L2, rfl, f.trans f2⟩
  · rintro _ ⟨L1, rfl, f⟩
    have hR1 : RC L1 t S := hR.frame (f.1 t htm)
    unfold fX7_heirOn_b11
    rw [gd_of v0, c0, hR1.H, if_pos (by rw [nQ_le (by omega) (by omega)]; omega)]
  · rintro _ ⟨L1, rfl, f⟩
    exact ⟨_, rfl, rfl, f⟩
theorem SC.letFallF (hS : SC L b S) (hW : WF S) {x : Nat} (hx : x < 5) (sx : S.st x = true) : ∃ z, fX4_letFall b (nI x) L = some z ∧ z.1 = hr S (S.wl x) x ∧ SC z.2 b (fallS S x) ∧ Fr (SB b) L z.2 := by
  have h6 := hW.P6
  have hxH := hW.st x sx
  unfold fX4_letFall
  rw [hS.standsF, bd_some, stI_n S hx, sx, if_neg (by decide), gd_of (vin_nI hx (by omega)), nI_cl (by omega), hS.wl x hxH]
  obtain ⟨⟨r, L1⟩, e1, e2, f1⟩ := hS.heirF hW hx (S.wl x)
  dsimp only at e2 f1
  unfold fallS
  rw [← e2]
  clear e2
  have hS1 : SC L1 b S := hS.frame fun a _ _ => f1.1 a (by unfold SA; omega)
  rw [e1, bd_some]
  dsimp only
  have hS0 : ∀ (L2 L3 : HL) (w w' : Nat → Int32), SC L2 b (S.set_wh w) → (∀ p, p < S.P → L3.1 (b + 9) p = w' p) → (∀ a, b ≤ a → a ≤ b + 10 → a ≠ b + 9 → L3.1 a = L2.1 a) → SC L3 b (S.set_wh w') := fun L2 L3 w w' q e o => SC.w_wh q e o
  refine lx_inv S.P (fun i s => ∃ L2, s = (nI i, L2) ∧ SC L2 b (S.set_wh fun p => if p < i ∧ S.wh p = nI x then r else S.wh p) ∧ Fr (SB b) L L2) (by rw [FU_20000]; omega) ⟨L1, rfl, ?_, f1.mono fun a h => by unfold SA at h; unfold SB; omega⟩ ?_ ?_ ?_
  · simp only [Nat.not_lt_zero, false_and, if_false]
    exact hS1
  · rintro i _ hi ⟨L2, rfl, q, f⟩
    unfold fX4_letFall_b25
    have g1 : ¬ S.P ≤ i := by omega
    have eP := q.P
    have eW := q.wh i hi
    simp only [Sv.P_set_wh, Sv.wh_set_wh, Nat.lt_irrefl, false_and, if_false] at eP eW
    simp (disch := omega) only [eP, nQ_le, g1, lt_eq, gd_true, bd_some, lx_inl, lx_inr, if_true, if_false, vin_t, nI_cl, eW, nQ_s]
    by_cases c : S.wh i = nI x
    · rw [if_pos c]
      refine ⟨_, rfl, _, rfl, ?_, f.wI (by unfold SB; omega) _ _⟩
      refine hS0 _ _ _ _ q (fun p hp => ?_) fun a _ _ h => wQ_ne h
      by_cases e : p = i
      · subst e
        rw [wQ_same, if_pos ⟨Nat.lt_succ_self _, c⟩]
      · rw [wQ_other e, q.wh p hp]
        have : (p < i + 1) = (p < i) := propext (by omega)
        simp only [Sv.wh_set_wh, this]
    · rw [if_neg c]
      refine ⟨_, rfl, _, rfl, ?_, f⟩
      have : (fun p => if p < i + 1 ∧ S.wh p = nI x then r else S.wh p) = (fun p => if p < i ∧ S.wh p = nI x then r else S.wh p) := by
        funext p
        by_cases e : p = i
        · subst e; simp [c]
        · have : (p < i + 1) = (p < i) := propext (by omega)
          simp only [this]
      rw [this]
      exact q
  · rintro _ ⟨L2, rfl, q, f⟩
    have eP : L2.1 b 2 = nI S.P := q.P
    unfold fX4_letFall_b25
    simp (disch := omega) only [eP, nQ_le, Nat.le_refl, if_true]
  · rintro _ ⟨L2, rfl, q, f⟩
    refine ⟨_, rfl, rfl, ?_, f.wI (by unfold SB; omega) _ _⟩
    refine SC.w_st q ?_ (fun j hj => wQ_other hj) (fun a _ _ => wQ_ne (by omega))
    rw [wQ_same]
    dsimp only
    rw [show L2.1 b 1 = nI (mask S.st 5) from q.st, i_shl (n := 5) (by omega) hx, i_andn (by omega)]
theorem RC.fallsF {m : Nat} (hR : RC L t S) (hW : WF S) (hn : 92 ≤ n) (hn' : n < 1000) (htm : t ≠ m + 8) {x : Nat} (hx : x < S.H) : ∃ z, fX7_falls m t n (nI x) L = some z ∧ z.1 = hr S (S.wl x) x ∧ RC z.2 t (fallS S x) ∧ Fr (fun a => a = t ∨ a = m + 8) L z.2 ∧ Kp t L z.2 := by
  have h5 := hW.H5
  have h6 := hW.P6
  have hx5 : x < 5 := by omega
  have v1 : vin (1 : Int32) n := vin_nI (i := 1) (by omega) (by omega)
  have c1 : (1 : Int32).toNatClampNeg = 1 := by decide
  unfold fX7_falls
  rw [l24, nQ_add, gd_of (vin_nI (by omega) (by omega)), nI_cl (by omega), hR.wl x hx5]
  obtain ⟨k, hk, ek⟩ := hW.wl x hx
  have hh := hR.heirOnF hW hn hn' htm hx hk
  rw [← ek] at hh
  obtain ⟨⟨r, L1⟩, e1, e2, f1⟩ := hh
  dsimp only at e2 f1
  unfold fallS
  rw [← e2]
  clear e2
  have hR1 : RC L1 t S := hR.frame (f1.1 t htm)
  rw [e1, bd_some]
  dsimp only
  have hS0 : ∀ (L2 L3 : HL) (w w' : Nat → Int32), RC L2 t (S.set_wh w) → (∀ p, p < 6 → L3.1 t (70 + p) = w' p) → (∀ k, k < 92 → ¬ (70 ≤ k ∧ k < 76) → L3.1 t k = L2.1 t k) → RC L3 t (S.set_wh w') := fun L2 L3 w w' q e o => RC.w_wh q e o
  refine lx_inv S.P (fun i s => ∃ L2, s = (nI i, L2) ∧ RC L2 t (S.set_wh fun p => if p < i ∧ S.wh p = nI x then r else S.wh p) ∧ Fr (fun a => a = t ∨ a = m + 8) L L2 ∧ Kp t L L2) (by rw [FU_20000]; omega) ⟨L1, rfl, ?_, f1.mono fun a h => .inr h, Kp.fr f1 htm⟩ ?_ ?_ ?_
  · simp only [Nat.not_lt_zero, false_and, if_false]
    exact hR1
  · rintro i _ hi ⟨L2, rfl, q, f, kp⟩
    unfold fX7_falls_b16
    have eP : L2.1 t 1 = nI S.P := q.P
    have eW : L2.1 t (70 + i) = S.wh i := by
      have := q.wh i (by omega)
      simp only [Sv.wh_set_wh, Nat.lt_irrefl, false_and, if_false] at this
      exact this
    have j52 : ∀ v, fX7_falls_j52 m t n (nI x) (r) (nI i) (nI (70 + i)) v L2 = some (Sum.inl (nI (i + 1), wI L2 t (70 + i) v)) := by
      intro v
      unfold fX7_falls_j52
      rw [gd_of (vin_nI (by omega) (by omega)), nI_cl (by omega)]
      simp only [lt_eq, nQ_s]
    rw [gd_of v1, c1, eP, if_neg (by rw [nQ_le (by omega) (by omega)]; omega), l70, nQ_add, gd_of (vin_nI (by omega) (by omega))]
    dsimp only
    have eW' : L2.1 t (nI (70 + i)).toNatClampNeg = S.wh i := by rw [nI_cl (by omega)]; exact eW
    rw [gd_of (vin_nI (i := 70 + i) (by omega) (by omega)), eW', j52, j52]
    have fin : ∀ v, v = (if S.wh i = nI x then r else S.wh i) → ∃ s', some (Sum.inl (nI (i + 1), wI L2 t (70 + i) v)) = some (Sum.inl (β := (Int32 × HL) ⊕ (Int32 × HL)) s') ∧ ∃ L2, s' = (nI (i + 1), L2) ∧ RC L2 t (S.set_wh fun p => if p < i + 1 ∧ S.wh p = nI x then r else S.wh p) ∧ Fr (fun a => a = t ∨ a = m + 8) L L2 ∧ Kp t L L2 := by
      intro v ev
      refine ⟨_, rfl, _, rfl, ?_, f.wI (.inl rfl) _ _, kp.wI (by omega)⟩
      refine hS0 _ _ _ _ q (fun p hp => ?_) fun k _ hk => wQ_other (by omega)
      by_cases e : p = i
      · subst e
        rw [wQ_same, ev]
        simp only [Nat.lt_succ_self, true_and]
      · rw [wQ_other (by omega), q.wh p hp]
        have : (p < i + 1) = (p < i) := propext (by omega)
        simp only [Sv.wh_set_wh, this]
    by_cases c : S.wh i = nI x
    · rw [if_pos c]; exact fin _ (by rw [if_pos c])
    · rw [if_neg c]; exact fin _ (by rw [if_neg c])
  · rintro _ ⟨L2, rfl, q, f, kp⟩
    unfold fX7_falls_b16
    have eP : L2.1 t 1 = nI S.P := q.P
    rw [gd_of v1, c1, eP, if_pos (by rw [nQ_le (by omega) (by omega)]; omega)]
  · rintro _ ⟨L2, rfl, q, f, kp⟩
    rw [l29, nQ_add, gd_of (vin_nI (by omega) (by omega)), nI_cl (by omega), lt_eq]
    refine ⟨_, rfl, rfl, ?_, f.wI (.inl rfl) _ _, kp.wI (by omega)⟩
    refine RC.w_st q (fun h hh => ?_) fun k _ hk => wQ_other (by omega)
    by_cases e : h = x
    · subst e; rw [wQ_same]; simp; rfl
    · rw [wQ_other (by omega), q.st h hh]
      show bI (S.st h) = bI (S.st h && !(h == x))
      rw [beq_false_of_ne e, Bool.not_false, Bool.and_true]
end FAL
