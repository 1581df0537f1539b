/-! ===== the reference's next token ===== -/
def XJ (L : HL) (m : Nat) (T : Nat × (Nat → Nat)) : Prop := L.1 m 4 = nI T.1 ∧ ∀ j, j < T.1 → L.1 (m + 4) j = nI (T.2 j)
/-- what a token may change -/
def FT (L L' : HL) (m : Nat) : Prop := (∀ a, a ≠ m → L'.1 a = L.1 a) ∧ (∀ k, (k < 8 ∨ 11 < k) → L'.1 m k = L.1 m k) ∧ (∀ a, a ≠ m → L'.2 a = L.2 a) ∧ ∀ k, k ≠ 12 → L'.2 m k = L.2 m k
theorem FT.refl (L : HL) (m : Nat) : FT L L m := ⟨fun _ _ => rfl, fun _ _ => rfl, fun _ _ => rfl, fun _ _ => rfl⟩
theorem FT.trans {L L' L'' : HL} {m : Nat} (h : FT L L' m) (g : FT L' L'' m) : FT L L'' m := ⟨fun a ha => (g.1 a ha).trans (h.1 a ha), fun k hk => (g.2.1 k hk).trans (h.2.1 k hk), fun a ha => (g.2.2.1 a ha).trans (h.2.2.1 a ha), fun k hk => (g.2.2.2 k hk).trans (h.2.2.2 k hk)⟩
theorem FT.wI {L L' : HL} {m : Nat} (h : FT L L' m) {k : Nat} (hk : 8 ≤ k) (hk' : k ≤ 11) (v : Int32) : FT L (wI L' m k v) m := ⟨fun a ha => (wQ_ne ha).trans (h.1 a ha), fun q hq => (wQ_other (by omega)).trans (h.2.1 q hq), h.2.2.1, h.2.2.2⟩
theorem FT.wJ {L L' : HL} {m : Nat} (h : FT L L' m) (v : Int64) : FT L (wJ L' m 12 v) m := ⟨h.1, h.2.1, fun a ha => (wV_ne ha).trans (h.2.2.1 a ha), fun q hq => (wV_other hq).trans (h.2.2.2 q hq)⟩
theorem XJ.ft {L L' : HL} {m : Nat} {T : Nat × (Nat → Nat)} (h : XJ L m T) (f : FT L L' m) : XJ L' m T := ⟨by rw [f.2.1 4 (by omega)]; exact h.1, fun j hj => by rw [f.1 _ (by omega)]; exact h.2 j hj⟩
/-- the token met from i on -/
def YK (L : HL) (m : Nat) (T : Nat × (Nat → Nat)) (i : Nat) : Prop := L.1 m 8 = nI (TE T i) ∧ L.1 m 9 = nI (TB T i) ∧ L.1 m 10 = nI (TT T i) ∧ (TT T i = 2 → L.1 m 11 = nI (NV T (TB T i) (TE T i - TB T i))) ∧ (TT T i = 1 → L.2 m 12 = WD T (TB T i) (TE T i - TB T i))
theorem lx_now {σ α β : Type} {f : σ → Option (σ ⊕ (σ ⊕ α))} {s0 : σ} {kr : α → Option β} {k : σ → Option β} (h : f s0 = some (.inr (.inl s0))) : lx (lp f FU s0) kr k = k s0 := lx_for 0 (fun _ => s0) rfl (by decide) (fun i hi => by omega) h
theorem WD_s {T : Nat × (Nat → Nat)} {b k : Nat} (h : ¬ 7 ≤ k) : WD T b k * (256 : Int64) + jI (T.2 (b + k)) = WD T b (k + 1) := by
  unfold WD
  rw [if_pos (by omega), if_pos (by omega), show (256 : Int64) = jI 256 by decide, jI_mul, jI_add]
  refine congrArg jI ?_
  show _ = ((WV T b k * 256 + T.2 (b + k) : Nat) : Int)
  omega
theorem WD_7 {T : Nat × (Nat → Nat)} {b k : Nat} (h : 7 ≤ k) : WD T b (k + 1) = -1 := if_neg (by omega)
section NXT
variable {L : HL} {m : Nat} {T : Nat × (Nat → Nat)}
theorem inL {c : Nat} (h : c < 128) : fX7_in (nI c).toInt64 (97 : Int64) (122 : Int64) = some (bI (cL c)) := by
  rw [inF]
  refine congrArg (fun p => some (bI p)) ?_
  unfold inb cL
  rw [nI_toI (by omega), show (97 : Int64).toInt = 97 by decide, show (122 : Int64).toInt = 122 by decide]
  congr 1
  · exact decide_eq_decide.mpr (by omega)
  · exact decide_eq_decide.mpr (by omega)
theorem inG {c : Nat} (h : c < 128) : fX7_in (nI c).toInt64 (48 : Int64) (57 : Int64) = some (bI (cF c)) := by
  rw [inF]
  refine congrArg (fun p => some (bI p)) ?_
  unfold inb cF
  rw [nI_toI (by omega), show (48 : Int64).toInt = 48 by decide, show (57 : Int64).toInt = 57 by decide]
  congr 1
  · exact decide_eq_decide.mpr (by omega)
  · exact decide_eq_decide.mpr (by omega)
/-- the letters' loop -/
theorem letF {β : Type} {k : HL → Option β} {kr : HL → Option β} {Q : β → Prop} (hX : XJ L m T) (hT : WT T) {b : Nat} (hb : b ≤ T.1) (h8 : L.1 m 8 = nI b) (h9 : L.1 m 9 = nI b) (h10 : L.1 m 10 = 1) (hw : L.2 m 12 = 0) (hk : ∀ L', L'.1 m 8 = nI (stp (fun j => cL (T.2 j)) (T.1 - b) b) → L'.1 m 9 = nI b → L'.1 m 10 = 1 → L'.2 m 12 = WD T b (stp (fun j => cL (T.2 j)) (T.1 - b) b - b) → FT L L' m → ∃ x, k L' = some x ∧ Q x) : ∃ x, lx (lp (fun s28 : HL => fX7_next_b162 m s28) FU L) kr k = some x ∧ Q x := by
  have h15 := hT.1
  refine scan_L (P := fun j => cL (T.2 j)) (fun j s => s.1 m 8 = nI j ∧ s.1 m 9 = nI b ∧ s.1 m 10 = 1 ∧ s.2 m 12 = WD T b (j - b) ∧ FT L s m) hb h15 ⟨h8, h9, h10, by rw [hw, Nat.sub_self]; unfold WD; rw [if_pos (by omega)]; exact (show (0 : Int64) = jI ((0 : Nat) : Int) by decide), FT.refl L m⟩ ?_ ?_ ?_
  · rintro j s hj1 hj2 hp ⟨q8, q9, q10, qw, qf⟩
    have hX2 := hX.ft qf
    have c8 := hT.2 j hj2
    have rc : s.1 (m + 4) (nI j).toNatClampNeg = nI (T.2 j) := by rw [nI_cl (by omega)]; exact hX2.2 j hj2
    unfold fX7_next_b162 fX7_next_j243
    rw [q10, if_pos rfl, q8, hX2.1, if_neg (by rw [nQ_le (by omega) (by omega)]; omega), gd_of (vin_nI (by omega) (by omega)), rc, inL c8, bd_some, show cL (T.2 j) = true from hp, if_neg (by decide), q9, nQ_sub hj1]
    simp only [lt_eq]
    have r8 : ∀ v, (wJ s m 12 v).1 m 8 = nI j := fun v => q8
    by_cases c7 : 7 ≤ j - b
    · rw [if_pos (by rw [l7, nQ_le (by omega) (by omega)]; exact c7), r8, nQ_s]
      refine ⟨_, rfl, wQ_same _ _ _ _, by rw [wQ_other (by omega)]; exact q9, by rw [wQ_other (by omega)]; exact q10, ?_, (qf.wJ _).wI (by omega) (by omega) _⟩
      show (wJ s m 12 (-1)).2 m 12 = _
      rw [wV_same, show j + 1 - b = j - b + 1 by omega, WD_7 c7]
    · rw [if_neg (by rw [l7, nQ_le (by omega) (by omega)]; exact c7), gd_of (vin_nI (by omega) (by omega)), r8, nQ_s]
      refine ⟨_, rfl, wQ_same _ _ _ _, by rw [wQ_other (by omega)]; exact q9, by rw [wQ_other (by omega)]; exact q10, ?_, (qf.wJ _).wI (by omega) (by omega) _⟩
      show (wJ s m 12 _).2 m 12 = _
      have := WD_s (T := T) (b := b) c7
      rw [show b + (j - b) = j by omega] at this
      rw [wV_same, qw, nI_long (by omega), this, show j + 1 - b = j - b + 1 by omega]
  · rintro j s hj1 hj2 hp ⟨q8, q9, q10, qw, qf⟩
    have hX2 := hX.ft qf
    unfold fX7_next_b162
    rw [q10, if_pos rfl, q8, hX2.1]
    by_cases e : j = T.1
    · rw [if_pos (by rw [nQ_le (by omega) (by omega)]; omega)]
    · have hp := hp.resolve_left e
      have rc : s.1 (m + 4) (nI j).toNatClampNeg = nI (T.2 j) := by rw [nI_cl (by omega)]; exact hX2.2 j (by omega)
      rw [if_neg (by rw [nQ_le (by omega) (by omega)]; omega), gd_of (vin_nI (by omega) (by omega)), rc, inL (hT.2 j (by omega)), bd_some, show cL (T.2 j) = false from hp, if_pos (by decide)]
  · rintro s ⟨q8, q9, q10, qw, qf⟩
    exact hk s q8 q9 q10 qw qf
/-- the figures' loop -/
theorem figF {β : Type} {k : HL → Option β} {kr : HL → Option β} {Q : β → Prop} (hX : XJ L m T) (hT : WT T) {b : Nat} (hb : b ≤ T.1) (h8 : L.1 m 8 = nI b) (h9 : L.1 m 9 = nI b) (h10 : L.1 m 10 = 2) (hv : L.1 m 11 = 0) (hk : ∀ L', L'.1 m 8 = nI (stp (fun j => cF (T.2 j)) (T.1 - b) b) → L'.1 m 9 = nI b → L'.1 m 10 = 2 → L'.1 m 11 = nI (NV T b (min (stp (fun j => cF (T.2 j)) (T.1 - b) b - b) 2)) → FT L L' m → ∃ x, k L' = some x ∧ Q x) : ∃ x, lx (lp (fun s38 : HL => fX7_next_b259 m s38) FU L) kr k = some x ∧ Q x := by
  have h15 := hT.1
  refine scan_L (P := fun j => cF (T.2 j)) (fun j s => s.1 m 8 = nI j ∧ s.1 m 9 = nI b ∧ s.1 m 10 = 2 ∧ s.1 m 11 = nI (NV T b (min (j - b) 2)) ∧ FT L s m) hb h15 ⟨h8, h9, h10, by rw [hv, Nat.sub_self]; rfl, FT.refl L m⟩ ?_ ?_ ?_
  · rintro j s hj1 hj2 hp ⟨q8, q9, q10, qw, qf⟩
    have hX2 := hX.ft qf
    have c8 := hT.2 j hj2
    have rc : s.1 (m + 4) (nI j).toNatClampNeg = nI (T.2 j) := by rw [nI_cl (by omega)]; exact hX2.2 j hj2
    unfold fX7_next_b259 fX7_next_j341
    rw [q10, if_pos rfl, q8, hX2.1, if_neg (by rw [nQ_le (by omega) (by omega)]; omega), gd_of (vin_nI (by omega) (by omega)), rc, inG c8, bd_some, show cF (T.2 j) = true from hp, if_neg (by decide), q9, nQ_sub hj1]
    simp only [lt_eq]
    have r8 : ∀ v, (wI s m 11 v).1 m 8 = nI j := fun v => (wQ_other (by omega)).trans q8
    by_cases c7 : 2 ≤ j - b
    · rw [if_pos (by rw [l2, nQ_le (by omega) (by omega)]; exact c7), r8, nQ_s]
      refine ⟨_, rfl, wQ_same _ _ _ _, by rw [wQ_other (by omega), wQ_other (by omega)]; exact q9, by rw [wQ_other (by omega), wQ_other (by omega)]; exact q10, ?_, (qf.wI (by omega) (by omega) _).wI (by omega) (by omega) _⟩
      rw [wQ_other (by omega), wQ_same, qw, show min (j - b) 2 = min (j + 1 - b) 2 by omega]
    · rw [if_neg (by rw [l2, nQ_le (by omega) (by omega)]; exact c7), gd_of (vin_nI (by omega) (by omega)), r8, nQ_s]
      refine ⟨_, rfl, wQ_same _ _ _ _, by rw [wQ_other (by omega), wQ_other (by omega)]; exact q9, by rw [wQ_other (by omega), wQ_other (by omega)]; exact q10, ?_, (qf.wI (by omega) (by omega) _).wI (by omega) (by omega) _⟩
      have cf := cF_n (show cF (T.2 j) = true from hp)
      have e1 : min (j - b) 2 = j - b := by omega
      have e2 : min (j + 1 - b) 2 = j - b + 1 := by omega
      rw [wQ_other (by omega), wQ_same, qw, e1, e2, l10, nQ_mul, nQ_add, show (48 : Int32) = nI 48 from rfl, nQ_sub (by omega)]
      show nI (10 * NV T b (j - b) + T.2 j - 48) = nI (10 * NV T b (j - b) + T.2 (b + (j - b)) - 48)
      rw [show b + (j - b) = j by omega]
  · rintro j s hj1 hj2 hp ⟨q8, q9, q10, qw, qf⟩
    have hX2 := hX.ft qf
    unfold fX7_next_b259
    rw [q10, if_pos rfl, q8, hX2.1]
    by_cases e : j = T.1
    · rw [if_pos (by rw [nQ_le (by omega) (by omega)]; omega)]
    · have hp := hp.resolve_left e
      have rc : s.1 (m + 4) (nI j).toNatClampNeg = nI (T.2 j) := by rw [nI_cl (by omega)]; exact hX2.2 j (by omega)
      rw [if_neg (by rw [nQ_le (by omega) (by omega)]; omega), gd_of (vin_nI (by omega) (by omega)), rc, inG (hT.2 j (by omega)), bd_some, show cF (T.2 j) = false from hp, if_pos (by decide)]
  · rintro s ⟨q8, q9, q10, qw, qf⟩
    exact hk s q8 q9 q10 qw qf
theorem nextF (hX : XJ L m T) (hT : WT T) {i : Nat} (hi : i ≤ T.1) (h8 : L.1 m 8 = nI i) : ∃ L', fX7_next m L = some L' ∧ YK L' m T i ∧ FT L L' m := by
  have h15 := hT.1
  obtain ⟨b1, b2⟩ := TB_ge hi
  unfold fX7_next
  refine scan_L (P := fun j => T.2 j == 32) (fun j s => s.1 m 8 = nI j ∧ FT L s m) hi h15 ⟨h8, FT.refl L m⟩ ?_ ?_ ?_
  · rintro j s hj1 hj2 hp ⟨q8, qf⟩
    have hX2 := hX.ft qf
    have hp : (T.2 j == 32) = true := hp
    rw [beq_iff_eq] at hp
    unfold fX7_next_b0
    rw [q8, hX2.1, if_neg (by rw [nQ_le (by omega) (by omega)]; omega), gd_of (vin_nI (by omega) (by omega)), nI_cl (by omega), hX2.2 j hj2, if_pos (by rw [hp]; rfl), lt_eq, nQ_s]
    exact ⟨_, rfl, wQ_same _ _ _ _, qf.wI (by omega) (by omega) _⟩
  · rintro j s hj1 hj2 hp ⟨q8, qf⟩
    have hX2 := hX.ft qf
    unfold fX7_next_b0
    by_cases e : j = T.1
    · rw [q8, hX2.1, if_pos (by rw [nQ_le (by omega) (by omega)]; omega)]
    · have hp : (T.2 j == 32) = false := hp.resolve_left e
      have c8 := hT.2 j (by omega)
      have hp : ¬ T.2 j = 32 := by rw [beq_eq_false_iff_ne] at hp; exact hp
      rw [q8, hX2.1, if_neg (by rw [nQ_le (by omega) (by omega)]; omega), gd_of (vin_nI (by omega) (by omega)), nI_cl (by omega), hX2.2 j (by omega), if_neg (by rw [l32, nQ_eq (by omega) (by omega)]; exact hp)]
  · rintro s ⟨q8, qf⟩
    rw [show stp (fun j => T.2 j == 32) (T.1 - i) i = TB T i from rfl] at q8
    -- behind the blanks
    have hX6 : XJ (wI s m 9 (s.1 m 8)) m T := (hX.ft qf).ft ((FT.refl s m).wI (by omega) (by omega) _)
    have f6 : FT L (wI s m 9 (s.1 m 8)) m := qf.wI (by omega) (by omega) _
    have r8 : (wI s m 9 (s.1 m 8)).1 m 8 = nI (TB T i) := by rw [wQ_other (by omega)]; exact q8
    have r9 : (wI s m 9 (s.1 m 8)).1 m 9 = nI (TB T i) := by rw [wQ_same]; exact q8
    rw [lt_eq]
    generalize wI s m 9 (s.1 m 8) = L6 at *
    -- what comes of a raw kind
    have j127 : ∀ r, r = TR T i → r ≤ 4 → ∃ x, fX7_next_j127 m (nI r) L6 = some x ∧ (YK x m T i ∧ FT L x m) := by
      intro r er hr
      unfold fX7_next_j127
      simp only [lt_eq]
      have w10 : (wJ (wI (wI L6 m 10 (nI r)) m 11 0) m 12 0).1 m 10 = nI r := by show (wI (wI L6 m 10 (nI r)) m 11 0).1 m 10 = nI r; rw [wQ_other (by omega), wQ_same]
      have w11 : (wJ (wI (wI L6 m 10 (nI r)) m 11 0) m 12 0).1 m 11 = 0 := wQ_same _ _ _ _
      have w8 : (wJ (wI (wI L6 m 10 (nI r)) m 11 0) m 12 0).1 m 8 = nI (TB T i) := by show (wI (wI L6 m 10 (nI r)) m 11 0).1 m 8 = nI (TB T i); rw [wQ_other (by omega), wQ_other (by omega)]; exact r8
      have w9 : (wJ (wI (wI L6 m 10 (nI r)) m 11 0) m 12 0).1 m 9 = nI (TB T i) := by show (wI (wI L6 m 10 (nI r)) m 11 0).1 m 9 = nI (TB T i); rw [wQ_other (by omega), wQ_other (by omega)]; exact r9
      have ww : (wJ (wI (wI L6 m 10 (nI r)) m 11 0) m 12 0).2 m 12 = 0 := wV_same _ _ _ _
      have wf : FT L (wJ (wI (wI L6 m 10 (nI r)) m 11 0) m 12 0) m := ((f6.wI (by omega) (by omega) _).wI (by omega) (by omega) _).wJ _
      have wX : XJ (wJ (wI (wI L6 m 10 (nI r)) m 11 0) m 12 0) m T := hX6.ft ((((FT.refl L6 m).wI (by omega) (by omega) _).wI (by omega) (by omega) _).wJ _)
      generalize wJ (wI (wI L6 m 10 (nI r)) m 11 0) m 12 0 = L16 at *
      have j158 : ∀ d : Nat, (if r ≤ 2 then 0 else 1) = d → ∃ x, fX7_next_j158 m (L16.1 m 8) (nI d) L16 = some x ∧ (YK x m T i ∧ FT L x m) := by
        intro d ed
        unfold fX7_next_j158
        rw [w8, nQ_add, lt_eq]
        have y8 : (wI L16 m 8 (nI (TB T i + d))).1 m 8 = nI (TB T i + d) := wQ_same _ _ _ _
        have y9 : (wI L16 m 8 (nI (TB T i + d))).1 m 9 = nI (TB T i) := by rw [wQ_other (by omega)]; exact w9
        have y10 : (wI L16 m 8 (nI (TB T i + d))).1 m 10 = nI r := by rw [wQ_other (by omega)]; exact w10
        have y11 : (wI L16 m 8 (nI (TB T i + d))).1 m 11 = 0 := by rw [wQ_other (by omega)]; exact w11
        have yw : (wI L16 m 8 (nI (TB T i + d))).2 m 12 = 0 := ww
        have yf : FT L (wI L16 m 8 (nI (TB T i + d))) m := wf.wI (by omega) (by omega) _
        have yX : XJ (wI L16 m 8 (nI (TB T i + d))) m T := wX.ft ((FT.refl L16 m).wI (by omega) (by omega) _)
        generalize wI L16 m 8 (nI (TB T i + d)) = L18 at *
        have no1 : ∀ {s : HL}, s.1 m 10 = nI r → r ≠ 1 → fX7_next_b162 m s = some (.inr (.inl s)) := fun h hn => by
          unfold fX7_next_b162; rw [h, if_neg (by rw [l1, nQ_eq (by omega) (by omega)]; exact hn)]
        have no2 : ∀ {s : HL}, s.1 m 10 = nI r → r ≠ 2 → fX7_next_b259 m s = some (.inr (.inl s)) := fun h hn => by
          unfold fX7_next_b259; rw [h, if_neg (by rw [l2, nQ_eq (by omega) (by omega)]; exact hn)]
        have no3 : ∀ {s : HL}, s.1 m 10 = nI r → fX7_next_j383 m s = some (wI s m 10 (nI r)) := fun h => by
          unfold fX7_next_j383 fX7_next_j387; rw [h, lt_eq]
        by_cases c1 : r = 1
        · subst c1
          have d0 : d = 0 := by rw [if_pos (by omega)] at ed; omega
          subst d0
          rw [Nat.add_zero] at y8
          refine letF yX hT b2 y8 y9 y10 yw fun L28 z8 z9 z10 zw zf => ?_
          rw [lx_now (no2 z10 (by omega)), if_neg (by rw [z10]; decide), no3 z10]
          have eTE : TE T i = stp (fun j => cL (T.2 j)) (T.1 - TB T i) (TB T i) := by
            have er' := er
            unfold TR at er'
            unfold TE
            by_cases e0 : T.1 ≤ TB T i
            · rw [if_pos e0] at er'; omega
            · rw [if_neg e0] at er' ⊢
              cases el : cL (T.2 (TB T i))
              · rw [el, if_neg (by decide)] at er'
                split at er'
                · omega
                · split at er' <;> omega
              · rw [if_pos rfl]
          have eTT : TT T i = 1 := by unfold TT; rw [if_neg (by omega)]; exact er.symm
          refine ⟨_, rfl, ⟨?_, ?_, ?_, fun h => ?_, fun h => ?_⟩, (yf.trans zf).wI (by omega) (by omega) _⟩
          · rw [wQ_other (by omega), eTE]; exact z8
          · rw [wQ_other (by omega)]; exact z9
          · rw [wQ_same, eTT]
          · rw [eTT] at h; omega
          · rw [eTE]; exact zw
        rw [lx_now (no1 y10 c1)]
        by_cases c2 : r = 2
        · subst c2
          have d0 : d = 0 := by rw [if_pos (by omega)] at ed; omega
          subst d0
          rw [Nat.add_zero] at y8
          refine figF yX hT b2 y8 y9 y10 y11 fun L38 z8 z9 z10 zv zf => ?_
          have eTE : TE T i = stp (fun j => cF (T.2 j)) (T.1 - TB T i) (TB T i) := by
            have er' := er
            unfold TR at er'
            unfold TE
            by_cases e0 : T.1 ≤ TB T i
            · rw [if_pos e0] at er'; omega
            · rw [if_neg e0] at er' ⊢
              cases el : cL (T.2 (TB T i))
              · rw [el, if_neg (by decide)] at er'
                rw [if_neg (by decide)]
                cases eg : cF (T.2 (TB T i))
                · rw [eg, if_neg (by decide)] at er'
                  split at er' <;> omega
                · rw [if_pos rfl]
              · rw [el, if_pos rfl] at er'; omega
          obtain ⟨s1, s2, -, -⟩ := stp_spec (fun j => cF (T.2 j)) (T.1 - TB T i) (TB T i)
          rw [← eTE] at z8 zv s1 s2
          rw [if_pos z10, z8, z9, nQ_sub s1]
          by_cases c3 : TE T i - TB T i ≤ 2
          · have eTT : TT T i = 2 := by unfold TT; rw [if_neg (by omega)]; exact er.symm
            rw [if_pos (by rw [l2, nQ_le (by omega) (by omega)]; exact c3), no3 z10]
            refine ⟨_, rfl, ⟨?_, ?_, ?_, fun h => ?_, fun h => ?_⟩, (yf.trans zf).wI (by omega) (by omega) _⟩
            · rw [wQ_other (by omega)]; exact z8
            · rw [wQ_other (by omega)]; exact z9
            · rw [wQ_same, eTT]
            · rw [wQ_other (by omega), zv, show min (TE T i - TB T i) 2 = TE T i - TB T i by omega]
            · rw [eTT] at h; omega
          · have eTT : TT T i = 4 := by unfold TT; rw [if_pos ⟨er.symm, by omega⟩]
            rw [if_neg (by rw [l2, nQ_le (by omega) (by omega)]; exact c3)]
            unfold fX7_next_j387
            rw [lt_eq]
            refine ⟨_, rfl, ⟨?_, ?_, ?_, fun h => ?_, fun h => ?_⟩, (yf.trans zf).wI (by omega) (by omega) _⟩
            · rw [wQ_other (by omega)]; exact z8
            · rw [wQ_other (by omega)]; exact z9
            · rw [wQ_same, eTT]; rfl
            · rw [eTT] at h; omega
            · rw [eTT] at h; omega
        · rw [lx_now (no2 y10 c2), if_neg (by rw [y10, l2, nQ_eq (by omega) (by omega)]; exact c2), no3 y10]
          have eTT : TT T i = r := by unfold TT; rw [if_neg (by omega)]; exact er.symm
          have eTE : TE T i = TB T i + d := by
            have er' := er
            unfold TR at er'
            unfold TE
            by_cases e0 : T.1 ≤ TB T i
            · rw [if_pos e0] at er' ⊢
              rw [if_pos (by omega)] at ed; omega
            · rw [if_neg e0] at er' ⊢
              cases el : cL (T.2 (TB T i))
              · rw [el, if_neg (by decide)] at er'
                rw [if_neg (by decide)]
                cases eg : cF (T.2 (TB T i))
                · rw [eg, if_neg (by decide)] at er'
                  rw [if_neg (by decide)]
                  have : 3 ≤ r := by split at er' <;> omega
                  rw [if_neg (by omega)] at ed; omega
                · rw [eg, if_pos rfl] at er'; omega
              · rw [el, if_pos rfl] at er'; omega
          refine ⟨_, rfl, ⟨?_, ?_, ?_, fun h => ?_, fun h => ?_⟩, yf.wI (by omega) (by omega) _⟩
          · rw [wQ_other (by omega), eTE]; exact y8
          · rw [wQ_other (by omega)]; exact y9
          · rw [wQ_same, eTT]
          · rw [eTT] at h; omega
          · rw [eTT] at h; omega
      rw [w10]
      by_cases c : r ≤ 2
      · rw [if_pos (by rw [l2, nQ_le (by omega) (by omega)]; exact c)]; exact j158 0 (if_pos c)
      · rw [if_neg (by rw [l2, nQ_le (by omega) (by omega)]; exact c)]; exact j158 1 (if_neg c)
    have eTR : TR T i = (if T.1 ≤ TB T i then 0 else if cL (T.2 (TB T i)) then 1 else if cF (T.2 (TB T i)) then 2 else if T.2 (TB T i) = 59 then 3 else 4) := rfl
    rw [r8, hX6.1]
    unfold fX7_next_j70
    by_cases c0 : T.1 ≤ TB T i
    · rw [if_pos (by rw [nQ_le (by omega) (by omega)]; exact c0), if_neg (by decide)]
      exact j127 0 (by rw [eTR, if_pos c0]) (by omega)
    · have c8 := hT.2 (TB T i) (by omega)
      rw [if_neg (by rw [nQ_le (by omega) (by omega)]; exact c0), gd_of (vin_nI (by omega) (by omega)), nI_cl (by omega), hX6.2 _ (by omega), if_pos (by rw [l0, nQ_le (by omega) (by omega)]; omega), inL c8, bd_some]
      rw [if_neg c0] at eTR
      cases cl : cL (T.2 (TB T i))
      · rw [cl, if_neg (by decide)] at eTR
        rw [if_pos (by decide), inG c8, bd_some]
        cases cf : cF (T.2 (TB T i))
        · rw [cf, if_neg (by decide)] at eTR
          rw [if_pos (by decide)]
          by_cases c59 : T.2 (TB T i) = 59
          · rw [if_pos c59] at eTR
            rw [if_pos (by rw [c59]; rfl)]; exact j127 3 eTR.symm (by omega)
          · rw [if_neg c59] at eTR
            rw [if_neg (by rw [l59, nQ_eq (by omega) (by omega)]; exact c59)]; exact j127 4 eTR.symm (by omega)
        · rw [cf, if_pos rfl] at eTR
          rw [if_neg (by decide)]; exact j127 2 eTR.symm (by omega)
      · rw [cl, if_pos rfl] at eTR
        rw [if_neg (by decide)]; exact j127 1 eTR.symm (by omega)
end NXT
