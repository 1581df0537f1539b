/-! ===== the text: tokens ===== -/
def stp (P : Nat → Bool) : Nat → Nat → Nat
  | 0, i => i
  | k + 1, i => if P i then stp P k (i + 1) else i
theorem stp_spec (P : Nat → Bool) : ∀ k i, i ≤ stp P k i ∧ stp P k i ≤ i + k ∧ (∀ j, i ≤ j → j < stp P k i → P j = true) ∧ (stp P k i = i + k ∨ P (stp P k i) = false)
  | 0, i => ⟨Nat.le_refl _, Nat.le_refl _, fun j h1 h2 => by have h2 : j < i := h2; omega, .inl rfl⟩
  | k + 1, i => by
    obtain ⟨h1, h2, h3, h4⟩ := stp_spec P k (i + 1)
    unfold stp
    cases c : P i
    · rw [if_neg (by decide)]
      exact ⟨Nat.le_refl _, by omega, fun j h1 h2 => by omega, .inr c⟩
    · rw [if_pos rfl]
      refine ⟨by omega, by omega, fun j q1 q2 => ?_, ?_⟩
      · by_cases e : j = i
        · rw [e]; exact c
        · exact h3 j (by omega) q2
      · rcases h4 with h | h
        · exact .inl (by omega)
        · exact .inr h
def cL (c : Nat) : Bool := decide (97 ≤ c) && decide (c ≤ 122)
def cF (c : Nat) : Bool := decide (48 ≤ c) && decide (c ≤ 57)
/-- a text: how many bytes, and which -/
def TB (T : Nat × (Nat → Nat)) (i : Nat) : Nat := stp (fun j => T.2 j == 32) (T.1 - i) i
def TR (T : Nat × (Nat → Nat)) (i : Nat) : Nat := if T.1 ≤ TB T i then 0 else if cL (T.2 (TB T i)) then 1 else if cF (T.2 (TB T i)) then 2 else if T.2 (TB T i) = 59 then 3 else 4
def TE (T : Nat × (Nat → Nat)) (i : Nat) : Nat := if T.1 ≤ TB T i then TB T i else if cL (T.2 (TB T i)) then stp (fun j => cL (T.2 j)) (T.1 - TB T i) (TB T i) else if cF (T.2 (TB T i)) then stp (fun j => cF (T.2 j)) (T.1 - TB T i) (TB T i) else TB T i + 1
def TT (T : Nat × (Nat → Nat)) (i : Nat) : Nat := if TR T i = 2 ∧ 2 < TE T i - TB T i then 4 else TR T i
theorem TB_ge {T : Nat × (Nat → Nat)} {i : Nat} (h : i ≤ T.1) : i ≤ TB T i ∧ TB T i ≤ T.1 := by
  obtain ⟨h1, h2, -, -⟩ := stp_spec (fun j => T.2 j == 32) (T.1 - i) i
  unfold TB
  exact ⟨h1, by omega⟩
theorem TE_ge {T : Nat × (Nat → Nat)} {i : Nat} (h : i ≤ T.1) : TB T i ≤ TE T i ∧ TE T i ≤ T.1 := by
  obtain ⟨h1, h2⟩ := TB_ge h
  unfold TE
  obtain ⟨q1, q2, -, -⟩ := stp_spec (fun j => cL (T.2 j)) (T.1 - TB T i) (TB T i)
  obtain ⟨r1, r2, -, -⟩ := stp_spec (fun j => cF (T.2 j)) (T.1 - TB T i) (TB T i)
  split
  · omega
  · split
    · omega
    · split <;> omega
/-- a loop over places, that stops where it may not go on -/
theorem scan_i {α β : Type} {f : Int32 → Option (Int32 ⊕ (Int32 ⊕ α))} {kr : α → Option β} {k : Int32 → Option β} {n i : Nat} {P : Nat → Bool} (hi : i ≤ n) (hn : n ≤ 150) (h1 : ∀ j, i ≤ j → j < n → P j = true → f (nI j) = some (.inl (nI (j + 1)))) (h2 : ∀ j, i ≤ j → j ≤ n → (j = n ∨ P j = false) → f (nI j) = some (.inr (.inl (nI j)))) : lx (lp f FU (nI i)) kr k = k (nI (stp P (n - i) i)) := by
  obtain ⟨q1, q2, q3, q4⟩ := stp_spec P (n - i) i
  generalize stp P (n - i) i = r at *
  have := lx_for (f := f) (kr := kr) (k := k) (s0 := nI i) (r - i) (fun j => nI (i + j)) rfl (by rw [FU_20000]; omega) (fun j hj => h1 (i + j) (by omega) (by omega) (q3 _ (by omega) (by omega))) (by
    rw [show i + (r - i) = r by omega]
    refine h2 r q1 (by omega) ?_
    rcases q4 with e | e
    · exact .inl (by omega)
    · exact .inr e)
  rwa [show i + (r - i) = r by omega] at this
theorem scan_L {σ α β : Type} {f : σ → Option (σ ⊕ (σ ⊕ α))} {s0 : σ} {kr : α → Option β} {k : σ → Option β} {n i : Nat} {P : Nat → Bool} {Q : β → Prop} (I : Nat → σ → Prop) (hi : i ≤ n) (hn : n ≤ 150) (h0 : I i s0) (h1 : ∀ j s, i ≤ j → j < n → P j = true → I j s → ∃ s', f s = some (.inl s') ∧ I (j + 1) s') (h2 : ∀ j s, i ≤ j → j ≤ n → (j = n ∨ P j = false) → I j s → f s = some (.inr (.inl s))) (hk : ∀ s, I (stp P (n - i) i) s → ∃ x, k s = some x ∧ Q x) : ∃ x, lx (lp f FU s0) kr k = some x ∧ Q x := by
  obtain ⟨q1, q2, q3, q4⟩ := stp_spec P (n - i) i
  generalize stp P (n - i) i = r at *
  refine lx_inv (r - i) (fun j s => I (i + j) s) (by rw [FU_20000]; omega) h0 (fun j s hj h => h1 (i + j) s (by omega) (by omega) (q3 _ (by omega) (by omega)) h) (fun s h => ?_) (fun s h => ?_)
  · rw [show i + (r - i) = r by omega] at h
    refine h2 r s q1 (by omega) ?_ h
    rcases q4 with e | e
    · exact .inl (by omega)
    · exact .inr e
  · rw [show i + (r - i) = r by omega] at h
    exact hk s h
/-! the class's side -/
theorem isLetterF : ∀ c, c < 128 → fX5_isLetter (nI c) = some (bI (cL c)) := by decide +kernel
theorem isFigureF : ∀ c, c < 128 → fX5_isFigure (nI c) = some (bI (cF c)) := by decide +kernel
/-- the text lies there -/
def XT (L : HL) (a : Nat) (T : Nat × (Nat → Nat)) : Prop := L.1 a 1 = nI T.1 ∧ ∀ j, j < T.1 → L.1 (a + 1) j = nI (T.2 j)
def WT (T : Nat × (Nat → Nat)) : Prop := T.1 ≤ 150 ∧ ∀ j, j < T.1 → T.2 j < 128
/-- the token met from i on -/
def XK (L : HL) (a : Nat) (T : Nat × (Nat → Nat)) (i : Nat) : Prop := L.1 a 5 = nI (TT T i) ∧ L.1 a 6 = nI (TB T i) ∧ L.1 a 7 = nI (TE T i)
section TKC
variable {L : HL} {a : Nat} {T : Nat × (Nat → Nat)}
theorem XT.wI {L : HL} (h : XT L a T) {k : Nat} (hk : k ≠ 1) (v : Int32) : XT (wI L a k v) a T := ⟨by rw [wQ_other (fun e => hk e.symm)]; exact h.1, fun j hj => by rw [wQ_ne (by omega)]; exact h.2 j hj⟩
theorem runEndL (hX : XT L a T) (hT : WT T) {b : Nat} (hb : b ≤ T.1) (h6 : L.1 a 6 = nI b) : fX5_runEnd a 1 L = some (nI (stp (fun j => cL (T.2 j)) (T.1 - b) b)) := by
  have h15 := hT.1
  unfold fX5_runEnd
  rw [h6, lt_eq]
  refine (scan_i (P := fun j => cL (T.2 j)) hb h15 ?_ ?_).trans rfl
  · intro j _ hj hp
    unfold fX5_runEnd_b5
    rw [hX.1, if_neg (by rw [nQ_le (by omega) (by omega)]; omega), if_neg (by decide), gd_of (vin_nI (by omega) (by omega)), nI_cl (by omega), hX.2 j hj, isLetterF _ (hT.2 j hj), bd_some, show cL (T.2 j) = true from hp, if_neg (by decide), lt_eq, nQ_s]
  · intro j _ hj hp
    unfold fX5_runEnd_b5
    by_cases e : j = T.1
    · rw [hX.1, if_pos (by rw [nQ_le (by omega) (by omega)]; omega)]
    · have hp := hp.resolve_left e
      rw [hX.1, if_neg (by rw [nQ_le (by omega) (by omega)]; omega), if_neg (by decide), gd_of (vin_nI (by omega) (by omega)), nI_cl (by omega), hX.2 j (by omega), isLetterF _ (hT.2 j (by omega)), bd_some, show cL (T.2 j) = false from hp, if_pos (by decide)]
theorem runEndG (hX : XT L a T) (hT : WT T) {b : Nat} (hb : b ≤ T.1) (h6 : L.1 a 6 = nI b) : fX5_runEnd a 0 L = some (nI (stp (fun j => cF (T.2 j)) (T.1 - b) b)) := by
  have h15 := hT.1
  unfold fX5_runEnd
  rw [h6, lt_eq]
  refine (scan_i (P := fun j => cF (T.2 j)) hb h15 ?_ ?_).trans rfl
  · intro j _ hj hp
    unfold fX5_runEnd_b5
    rw [hX.1, if_neg (by rw [nQ_le (by omega) (by omega)]; omega), if_pos rfl, gd_of (vin_nI (by omega) (by omega)), nI_cl (by omega), hX.2 j hj, isFigureF _ (hT.2 j hj), bd_some, show cF (T.2 j) = true from hp, if_neg (by decide), lt_eq, nQ_s]
  · intro j _ hj hp
    unfold fX5_runEnd_b5
    by_cases e : j = T.1
    · rw [hX.1, if_pos (by rw [nQ_le (by omega) (by omega)]; omega)]
    · have hp := hp.resolve_left e
      rw [hX.1, if_neg (by rw [nQ_le (by omega) (by omega)]; omega), if_pos rfl, gd_of (vin_nI (by omega) (by omega)), nI_cl (by omega), hX.2 j (by omega), isFigureF _ (hT.2 j (by omega)), bd_some, show cF (T.2 j) = false from hp, if_pos (by decide)]
theorem l32 : (32 : Int32) = nI 32 := rfl
theorem l59 : (59 : Int32) = nI 59 := rfl
theorem nextTokenF (hX : XT L a T) (hT : WT T) {i : Nat} (hi : i ≤ T.1) (h7 : L.1 a 7 = nI i) : ∃ L', fX5_nextToken a L = some L' ∧ XK L' a T i ∧ XT L' a T ∧ (∀ k, k ≠ 5 → k ≠ 6 → k ≠ 7 → L'.1 a k = L.1 a k) ∧ Fr (· = a) L L' := by
  have h15 := hT.1
  obtain ⟨b1, b2⟩ := TB_ge hi
  unfold fX5_nextToken
  rw [h7, lt_eq]
  have sc : ∀ {β : Type} {kr : HL → Option β} {k : Int32 → Option β}, lx (lp (fun s6 : Int32 => fX5_nextToken_b5 a s6 L) FU (nI i)) kr k = k (nI (TB T i)) := by
    intro β kr k
    refine scan_i (P := fun j => T.2 j == 32) hi h15 ?_ ?_
    · intro j _ hj hp
      have hp : (T.2 j == 32) = true := hp
      rw [beq_iff_eq] at hp
      unfold fX5_nextToken_b5
      rw [hX.1, if_neg (by rw [nQ_le (by omega) (by omega)]; omega), gd_of (vin_nI (by omega) (by omega)), nI_cl (by omega), hX.2 j hj, if_pos (by rw [hp]; rfl), lt_eq, nQ_s]
    · intro j _ hj hp
      unfold fX5_nextToken_b5
      by_cases e : j = T.1
      · rw [hX.1, if_pos (by rw [nQ_le (by omega) (by omega)]; omega)]
      · have hp : (T.2 j == 32) = false := hp.resolve_left e
        have h8 := hT.2 j (by omega)
        have hp : ¬ T.2 j = 32 := by rw [beq_eq_false_iff_ne] at hp; exact hp
        rw [hX.1, if_neg (by rw [nQ_le (by omega) (by omega)]; omega), gd_of (vin_nI (by omega) (by omega)), nI_cl (by omega), hX.2 j (by omega), if_neg (by rw [l32, nQ_eq (by omega) (by omega)]; exact hp)]
  rw [sc, lt_eq, lt_eq]
  have hX8 : XT (wI (wI L a 6 (nI (TB T i))) a 7 (nI (TB T i))) a T := (hX.wI (by omega) _).wI (by omega) _
  have r6 : (wI (wI L a 6 (nI (TB T i))) a 7 (nI (TB T i))).1 a 6 = nI (TB T i) := by rw [wQ_other (by omega), wQ_same]
  have r7 : (wI (wI L a 6 (nI (TB T i))) a 7 (nI (TB T i))).1 a 7 = nI (TB T i) := wQ_same _ _ _ _
  have ro : ∀ k, k ≠ 6 → k ≠ 7 → (wI (wI L a 6 (nI (TB T i))) a 7 (nI (TB T i))).1 a k = L.1 a k := fun k h1 h2 => by rw [wQ_other h2, wQ_other h1]
  have rf : Fr (· = a) L (wI (wI L a 6 (nI (TB T i))) a 7 (nI (TB T i))) := ((Fr.refl (A := (· = a)) L).wI rfl _ _).wI rfl _ _
  generalize wI (wI L a 6 (nI (TB T i))) a 7 (nI (TB T i)) = L8 at *
  unfold XK TT TR TE
  by_cases c0 : T.1 ≤ TB T i
  · rw [hX8.1, if_neg (by rw [nQ_lt (by omega) (by omega)]; omega), lt_eq]
    simp only [if_pos c0]
    refine ⟨_, rfl, ⟨?_, by rw [wQ_other (by omega)]; exact r6, by rw [wQ_other (by omega)]; exact r7⟩, hX8.wI (by omega) _, fun k h1 h2 h3 => by rw [wQ_other h1]; exact ro k h2 h3, rf.wI rfl _ _⟩
    rw [wQ_same, if_neg (by omega)]; rfl
  have rb : L8.1 (a + 1) (nI (TB T i)).toNatClampNeg = nI (T.2 (TB T i)) := by rw [nI_cl (by omega)]; exact hX8.2 (TB T i) (by omega)
  have c8 := hT.2 (TB T i) (by omega)
  simp only [rb]
  rw [hX8.1, if_pos (by rw [nQ_lt (by omega) (by omega)]; omega), gd_of (vin_nI (by omega) (by omega)), isLetterF _ c8, bd_some]
  simp only [if_neg c0]
  cases cl : cL (T.2 (TB T i))
  · rw [if_pos (by decide), gd_of (vin_nI (by omega) (by omega)), isFigureF _ c8, bd_some]
    simp only [Bool.false_eq_true, if_false]
    cases cf : cF (T.2 (TB T i))
    · rw [if_pos (by decide), gd_of (vin_nI (by omega) (by omega))]
      simp only [Bool.false_eq_true, if_false]
      unfold fX5_nextToken_j148
      simp only [lt_eq, nQ_s]
      by_cases c59 : T.2 (TB T i) = 59
      · rw [if_pos (by rw [c59]; rfl)]
        simp only [if_pos c59]
        refine ⟨_, rfl, ⟨?_, by rw [wQ_other (by omega), wQ_other (by omega)]; exact r6, wQ_same _ _ _ _⟩, (hX8.wI (by omega) _).wI (by omega) _, fun k h1 h2 h3 => by rw [wQ_other h3, wQ_other h1]; exact ro k h2 h3, (rf.wI rfl _ _).wI rfl _ _⟩
        rw [wQ_other (by omega), wQ_same, if_neg (by omega)]; rfl
      · rw [if_neg (by rw [l59, nQ_eq (by omega) (by omega)]; exact c59)]
        simp only [if_neg c59]
        refine ⟨_, rfl, ⟨?_, by rw [wQ_other (by omega), wQ_other (by omega)]; exact r6, wQ_same _ _ _ _⟩, (hX8.wI (by omega) _).wI (by omega) _, fun k h1 h2 h3 => by rw [wQ_other h3, wQ_other h1]; exact ro k h2 h3, (rf.wI rfl _ _).wI rfl _ _⟩
        rw [wQ_other (by omega), wQ_same, if_neg (by omega)]; rfl
    · rw [if_neg (by decide), runEndG hX8 hT b2 r6, bd_some, lt_eq]
      simp only [if_true]
      obtain ⟨s1, s2, -, -⟩ := stp_spec (fun j => cF (T.2 j)) (T.1 - TB T i) (TB T i)
      generalize stp (fun j => cF (T.2 j)) (T.1 - TB T i) (TB T i) = e at *
      unfold fX5_nextToken_j125
      rw [wQ_same, wQ_other (show 6 ≠ 7 by omega), r6, nQ_sub s1, lt_eq, lt_eq]
      by_cases c2 : 2 < e - TB T i
      · rw [if_pos (by rw [l2, nQ_lt (by omega) (by omega)]; exact c2)]
        refine ⟨_, rfl, ⟨?_, by rw [wQ_other (by omega), wQ_other (by omega)]; exact r6, by rw [wQ_other (by omega), wQ_same]⟩, (hX8.wI (by omega) _).wI (by omega) _, fun k h1 h2 h3 => by rw [wQ_other h1, wQ_other h3]; exact ro k h2 h3, (rf.wI rfl _ _).wI rfl _ _⟩
        rw [wQ_same, if_pos ⟨trivial, c2⟩]; rfl
      · rw [if_neg (by rw [l2, nQ_lt (by omega) (by omega)]; exact c2)]
        refine ⟨_, rfl, ⟨?_, by rw [wQ_other (by omega), wQ_other (by omega)]; exact r6, by rw [wQ_other (by omega), wQ_same]⟩, (hX8.wI (by omega) _).wI (by omega) _, fun k h1 h2 h3 => by rw [wQ_other h1, wQ_other h3]; exact ro k h2 h3, (rf.wI rfl _ _).wI rfl _ _⟩
        rw [wQ_same, if_neg (fun z => c2 z.2)]; rfl
  · rw [if_neg (by decide), lt_eq, runEndL (hX8.wI (by omega) _) hT b2 (by rw [wQ_other (by omega)]; exact r6), bd_some, lt_eq]
    simp only [if_true]
    refine ⟨_, rfl, ⟨?_, by rw [wQ_other (by omega), wQ_other (by omega)]; exact r6, wQ_same _ _ _ _⟩, (hX8.wI (by omega) _).wI (by omega) _, fun k h1 h2 h3 => by rw [wQ_other h3, wQ_other h1]; exact ro k h2 h3, (rf.wI rfl _ _).wI rfl _ _⟩
    rw [wQ_other (by omega), wQ_same, if_neg (by omega)]; rfl
end TKC
