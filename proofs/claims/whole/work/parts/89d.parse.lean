/-! ===== the class reads its text ===== -/
theorem kI_0 : ∀ k, k ≤ 7 → ((kI k = 0 ↔ k = 0) ∧ (kI k ≤ 0 ↔ k = 0 ∨ k = 7)) := by decide +kernel
theorem kI_n {k : Nat} (h : k ≠ 7) : kI k = nI k := if_neg h
theorem numbersOf_c : ∀ k, k < 7 → fX5_numbersOf (nI k) = some (nI (cn k)) := by decide +kernel
theorem cn_le (k : Nat) : cn k ≤ 3 := by unfold cn; (repeat' split) <;> omega
/-- a loop that always leaves ahead of its last turn -/
theorem lp_end {σ ρ γ : Type} {f : σ → Option (σ ⊕ ρ)} {s0 : σ} (N : Nat) (I : Nat → σ → Prop) (g : Nat → Option γ) (R : γ → ρ → Prop) (hN : N < FU) (h0 : I 0 s0) (h : ∀ i s, i < N → I i s → (g i = none ∧ ∃ s', f s = some (.inl s') ∧ I (i + 1) s') ∨ ∃ v y, g i = some v ∧ f s = some (.inr y) ∧ R v y) (hend : ∀ s, ¬ I N s) : ∃ v y, lp f FU s0 = some y ∧ fnd g N = some v ∧ R v y := by
  obtain ⟨x, h1, v, h2, h3⟩ : ∃ x, lp f FU s0 = some x ∧ ∃ v, fnd g N = some v ∧ R v x :=
    Ok.lp (fun i s => I i s ∧ fnd g i = none) N (fun i s hi e => by
      obtain ⟨e1, e2⟩ := e
      by_cases q : i < N
      · rcases h i s q e1 with ⟨g0, s', e3, e4⟩ | ⟨v, x, g1, e3, e4⟩
        · rw [e3]; exact Ok.inl ⟨q, e4, by show (fnd g i).or (g i) = none; rw [e2, g0]; rfl⟩
        · rw [e3]; exact Ok.inr ⟨v, fnd_at e2 g1 q, e4⟩
      · have : i = N := by omega
        subst this
        exact absurd e1 (hend s)) FU 0 _ (Nat.zero_le _) (by omega) ⟨h0, rfl⟩
  exact ⟨v, x, h1, h2, h3⟩
theorem fnd_ex {γ : Type} {g : Nat → Option γ} : ∀ {N : Nat} {w : γ}, fnd g N = some w → ∃ q, g q = some w := by
  intro N
  induction N with
  | zero => intro w h; cases h
  | succ N ih =>
    intro w h
    have h : (fnd g N).or (g N) = some w := h
    cases e : fnd g N with
    | some x => rw [e] at h; cases h; exact ih e
    | none => rw [e] at h; exact ⟨N, h⟩
section PRS
variable {L : HL} {a : Nat} {T : Nat × (Nat → Nat)}
theorem XTn {L : HL} (h : XT L a T) {c : Nat} (hc : a + 2 ≤ c) (k : Nat) (v : Int32) : XT (wI L c k v) a T := ⟨by rw [wQ_ne (by omega)]; exact h.1, fun j hj => by rw [wQ_ne (by omega)]; exact h.2 j hj⟩
theorem parseItemF (hX : XT L a T) (hT : WT T) {i n : Nat} (hi : i ≤ T.1) (hK : XK L a T i) (hn : n < 24) : (itF T n i = none ∧ ∃ L', fX5_parseItem a (nI n) L = some (1, L') ∧ XT L' a T ∧ XK L' a T (itE T i) ∧ L'.1 a 4 = L.1 a 4 ∧ L'.1 (a + 2) n = nI (kk T i) ∧ (∀ j, j ≠ n → L'.1 (a + 2) j = L.1 (a + 2) j) ∧ (∀ k, k < cn (kk T i) → L'.1 (a + 4 + n) k = nI (nmv T i k)) ∧ Fr (fun x => x = a ∨ x = a + 2 ∨ x = a + 4 + n) L L') ∨ ∃ f, itF T n i = some f ∧ ∃ L', fX5_parseItem a (nI n) L = some (0, L') ∧ L'.1 a 6 = nI f ∧ XT L' a T ∧ Fr (fun x => x = a ∨ x = a + 2 ∨ x = a + 4 + n) L L' := by
  have h15 := hT.1
  obtain ⟨k5, k6, k7⟩ := hK
  have hTE := TE_ge hi
  have hTB := TB_ge hi
  have hk7 := kk_le T i
  have e1 : fX5_parseItem a (nI n) L = fX5_parseItem_j16 a (nI n) (kI (kk T i)) L := by
    unfold fX5_parseItem
    have htt : TT T i ≤ 4 := by
      unfold TT
      split
      · omega
      · rcases TR_c (T := T) (i := i) with ⟨-, e, -⟩ | ⟨-, -, e, -⟩ | ⟨-, -, e, -⟩ | ⟨-, -, e, -⟩ <;> omega
    unfold kk
    by_cases c : TT T i = 1
    · rw [if_pos (by rw [k5, c]; rfl), wordKindF hX hT hTE.1 hTE.2 k6 k7, bd_some, if_pos c]
    · rw [if_neg (by rw [k5, l1, nQ_eq (by omega) (by omega)]; exact c), if_neg c]; rfl
  have e2 : fX5_parseItem_j16 a (nI n) (kI (kk T i)) L = fX5_parseItem_j42 a (nI n) (kI (kk T i)) (bI (fit T n i)) L := by
    obtain ⟨q1, q2⟩ := kI_0 (kk T i) hk7
    unfold fX5_parseItem_j16 fit
    by_cases n0 : n = 0
    · rw [if_pos (by rw [n0]; rfl), if_pos n0]
      by_cases c : kk T i = 0
      · rw [if_pos (q1.mpr c), decide_eq_true c]; rfl
      · rw [if_neg (fun z => c (q1.mp z)), decide_eq_false c]; rfl
    · rw [if_neg (by rw [l0, nQ_eq (by omega) (by omega)]; exact n0), if_neg n0]
      by_cases c : kk T i = 0 ∨ kk T i = 7
      · rw [if_pos (q2.mpr c)]
        rcases c with c | c
        · rw [c]; rfl
        · rw [c]; rfl
      · rw [if_neg (fun z => c (q2.mp z)), decide_eq_true (show kk T i ≠ 0 from fun z => c (.inl z)), decide_eq_true (show kk T i ≠ 7 from fun z => c (.inr z))]; rfl
  rw [e1, e2]
  unfold fX5_parseItem_j42 itF
  cases hf : fit T n i
  · refine .inr ⟨TB T i, by rw [if_neg (by decide)], L, ?_, k6, hX, Fr.refl L⟩
    rw [if_pos (by decide)]
  have k7' : kk T i ≠ 7 := by
    intro z
    unfold fit at hf
    rw [z] at hf
    split at hf <;> exact absurd hf (by decide)
  rw [if_pos rfl, if_neg (by decide), gd_of (vin_nI hn (by omega)), lt_eq, kI_n k7', nI_cl (by omega)]
  have hX1 : XT (wI L (a + 2) n (nI (kk T i))) a T := XTn hX (by omega) _ _
  obtain ⟨L2, n2, K2, X2, o2, f2⟩ := nextTokenF hX1 hT hTE.2 (by rw [wQ_ne (by omega)]; exact k7)
  rw [n2, bd_some, numbersOf_c _ (by omega), bd_some]
  have hcn := cn_le (kk T i)
  have fr2 : Fr (fun x => x = a ∨ x = a + 2 ∨ x = a + 4 + n) L L2 := ((Fr.refl L).wI (.inr (.inl rfl)) _ _).trans (f2.mono fun x h => .inl h)
  have r2 : ∀ j, L2.1 (a + 2) j = if j = n then nI (kk T i) else L.1 (a + 2) j := fun j => by rw [f2.1 _ (by omega), wQ_at, if_pos rfl]
  have r4 : L2.1 a 4 = L.1 a 4 := by rw [o2 4 (by omega) (by omega) (by omega), wQ_ne (by omega)]
  have lpr := lp_fnd (f := fun s18 : Int32 × HL => fX5_parseItem_b69 a (nI n) (nI (cn (kk T i))) s18.1 s18.2) (s0 := ((0 : Int32), L2)) (cn (kk T i)) (fun j t => ∃ L3, t = (nI j, L3) ∧ XT L3 a T ∧ XK L3 a T (np T i j) ∧ L3.1 a 4 = L.1 a 4 ∧ (∀ q, L3.1 (a + 2) q = if q = n then nI (kk T i) else L.1 (a + 2) q) ∧ (∀ k, k < j → L3.1 (a + 4 + n) k = nI (nmv T i k)) ∧ Fr (fun x => x = a ∨ x = a + 2 ∨ x = a + 4 + n) L L3) (gN T i) (fun v z => z.1 = 0 ∧ z.2.1 a 6 = nI v ∧ XT z.2 a T ∧ Fr (fun x => x = a ∨ x = a + 2 ∨ x = a + 4 + n) L z.2) (by rw [FU_20000]; omega) ⟨L2, rfl, X2, K2, r4, r2, fun k hk => by omega, fr2⟩ (by
    rintro j _ hj ⟨L3, rfl, X3, ⟨t5, t6, t7⟩, w4, w2, wr, wf⟩
    have hnp := np_le hi j
    have hTEj := TE_ge hnp
    unfold fX5_parseItem_b69
    dsimp only
    rw [if_neg (by rw [nQ_le (by omega) (by omega)]; omega)]
    have htt : TT T (np T i j) ≤ 4 := by
      unfold TT
      split
      · omega
      · rcases TR_c (T := T) (i := np T i j) with ⟨-, e, -⟩ | ⟨-, -, e, -⟩ | ⟨-, -, e, -⟩ | ⟨-, -, e, -⟩ <;> omega
    by_cases c : TT T (np T i j) = 2
    · obtain ⟨-, -, d1, d2, d3, -⟩ := TT_2 c
      obtain ⟨tn, -⟩ := tokenNumberF X3 hT hTEj.1 hTEj.2 d3 d2 t6 t7
      have X4 : XT (wI L3 (a + 4 + n) j (nI (nmv T i j))) a T := XTn X3 (by omega) _ _
      obtain ⟨L5, n5, K5, X5, o5, f5⟩ := nextTokenF X4 hT hTEj.2 (by rw [wQ_ne (by omega)]; exact t7)
      rw [if_pos (by rw [t5, c]; rfl), gd_of (vin_nI hn (by omega)), tn, bd_some, gd_of (vin_nI (by omega) (by omega)), lt_eq, show a + 3 + 1 + (nI n).toNatClampNeg = a + 4 + n by rw [nI_cl (by omega)], nI_cl (by omega), show NV T (TB T (np T i j)) (TE T (np T i j) - TB T (np T i j)) = nmv T i j from rfl, n5, bd_some, lt_eq, nQ_s]
      refine .inl ⟨gN_t c, _, rfl, L5, rfl, X5, K5, ?_, fun q => ?_, fun k hk => ?_, (wf.wI (.inr (.inr rfl)) _ _).trans (f5.mono fun x h => .inl h)⟩
      · rw [o5 4 (by omega) (by omega) (by omega), wQ_ne (by omega)]; exact w4
      · rw [f5.1 _ (by omega), wQ_ne (by omega)]; exact w2 q
      · rw [f5.1 _ (by omega)]
        by_cases e : k = j
        · subst e; exact wQ_same _ _ _ _
        · rw [wQ_other e]; exact wr k (by omega)
    · rw [if_neg (by rw [t5, l2, nQ_eq (by omega) (by omega)]; exact c)]
      exact .inr ⟨_, _, gN_f c, rfl, rfl, t6, X3, wf⟩) (by
    rintro _ ⟨L3, rfl, -⟩
    unfold fX5_parseItem_b69
    dsimp only
    rw [if_pos (by rw [nQ_le (by omega) (by omega)]; omega)])
  rcases lpr with ⟨s, e, ⟨L3, rfl, X3, ⟨t5, t6, t7⟩, w4, w2, wr, wf⟩, hn3⟩ | ⟨v, z, e, hv, z1, z2, zX, zf⟩
  · rw [e, lx_inl, hn3]
    dsimp only
    have hnp := np_le hi (cn (kk T i))
    have hTEj := TE_ge hnp
    have htt : TT T (np T i (cn (kk T i))) ≤ 4 := by
      unfold TT
      split
      · omega
      · rcases TR_c (T := T) (i := np T i (cn (kk T i))) with ⟨-, e, -⟩ | ⟨-, -, e, -⟩ | ⟨-, -, e, -⟩ | ⟨-, -, e, -⟩ <;> omega
    show (gZ T (np T i (cn (kk T i))) = none ∧ _) ∨ ∃ f, gZ T (np T i (cn (kk T i))) = some f ∧ _
    unfold gZ
    by_cases c : TT T (np T i (cn (kk T i))) = 3
    · obtain ⟨L5, n5, K5, X5, o5, f5⟩ := nextTokenF X3 hT hTEj.2 t7
      rw [if_pos c, if_pos (by rw [t5, c]; rfl), n5, bd_some]
      refine .inl ⟨rfl, L5, rfl, X5, K5, ?_, ?_, fun j hj => ?_, fun k hk => ?_, wf.trans (f5.mono fun x h => .inl h)⟩
      · rw [o5 4 (by omega) (by omega) (by omega)]; exact w4
      · rw [f5.1 _ (by omega), w2, if_pos rfl]
      · rw [f5.1 _ (by omega), w2, if_neg hj]
      · rw [f5.1 _ (by omega)]; exact wr k hk
    · rw [if_neg c, if_neg (by rw [t5, l3, nQ_eq (by omega) (by omega)]; exact c)]
      exact .inr ⟨_, rfl, L3, rfl, t6, X3, wf⟩
  · rw [e, lx_inr, hv]
    refine .inr ⟨v, rfl, z.2, by rw [← z1], z2, zX, zf⟩
def gP (T : Nat × (Nat → Nat)) (n : Nat) : Option (Option Nat × Nat) := if n ≠ 0 ∧ TT T (posn T n) = 0 then some (none, n) else (itF T n (posn T n)).map fun f => (some f, n)
theorem gP_e {n : Nat} (h : n ≠ 0 ∧ TT T (posn T n) = 0) : gP T n = some (none, n) := if_pos h
theorem gP_n {n : Nat} (h : ¬ (n ≠ 0 ∧ TT T (posn T n) = 0)) : gP T n = (itF T n (posn T n)).map fun f => (some f, n) := if_neg h
/-- the items kept -/
def IT (L : HL) (a : Nat) (T : Nat × (Nat → Nat)) (N : Nat) : Prop := ∀ j, j < N → L.1 (a + 2) j = nI (kk T (posn T j)) ∧ ∀ k, k < cn (kk T (posn T j)) → L.1 (a + 4 + j) k = nI (nmv T (posn T j) k)
def XR (L L' : HL) (a : Nat) (T : Nat × (Nat → Nat)) (r : Int32) : Option Nat × Nat → Prop
  | (none, N) => r = -1 ∧ N < 24 ∧ L'.1 a 4 = nI N ∧ IT L' a T N
  | (some f, _) => r = nI f ∧ f ≤ 150
theorem parseF (hX : XT L a T) (hT : WT T) : ∃ v z, fnd (gP T) 24 = some v ∧ fX5_parse a L = some z ∧ XR L z.2 a T z.1 v ∧ XT z.2 a T ∧ Fr (fun x => x = a ∨ (a + 2 ≤ x ∧ x < a + 28)) L z.2 := by
  have h15 := hT.1
  unfold fX5_parse
  rw [lt_eq, lt_eq]
  have X2 : XT (wI (wI L a 4 0) a 7 0) a T := (hX.wI (by omega) _).wI (by omega) _
  obtain ⟨L3, n3, K3, X3, o3, f3⟩ := nextTokenF (i := 0) X2 hT (Nat.zero_le _) (wQ_same _ _ _ _)
  have r4 : L3.1 a 4 = nI 0 := by rw [o3 4 (by omega) (by omega) (by omega), wQ_other (by omega), wQ_same]; rfl
  have fr3 : Fr (fun x => x = a ∨ (a + 2 ≤ x ∧ x < a + 28)) L L3 := (((Fr.refl L).wI (.inl rfl) _ _).wI (.inl rfl) _ _).trans (f3.mono fun x h => .inl h)
  rw [n3, bd_some]
  obtain ⟨v, y, e, hv, hR⟩ := lp_end (f := fun s11 : Int32 × HL => fX5_parse_b16 a s11.1 s11.2) (s0 := ((0 : Int32), L3)) 24 (fun n t => ∃ L4, t = (nI n, L4) ∧ XT L4 a T ∧ XK L4 a T (posn T n) ∧ posn T n ≤ T.1 ∧ 7 * n ≤ TB T (posn T n) ∧ L4.1 a 4 = nI n ∧ IT L4 a T n ∧ Fr (fun x => x = a ∨ (a + 2 ≤ x ∧ x < a + 28)) L L4) (gP T) (fun v y => ∃ z : Int32 × HL, y = .inr z ∧ XR L z.2 a T z.1 v ∧ XT z.2 a T ∧ Fr (fun x => x = a ∨ (a + 2 ≤ x ∧ x < a + 28)) L z.2) (by decide) ⟨L3, rfl, X3, K3, Nat.zero_le _, Nat.zero_le _, r4, fun j hj => by omega, fr3⟩ (by
    rintro n _ hn ⟨L4, rfl, X4, K4, hpos, h7, t4, hI, f4⟩
    obtain ⟨k5, k6, k7⟩ := K4
    unfold fX5_parse_b16
    dsimp only
    rw [if_neg (by rw [l24, nQ_le (by omega) (by omega)]; omega)]
    have htt : TT T (posn T n) ≤ 4 := by
      unfold TT
      split
      · omega
      · rcases TR_c (T := T) (i := posn T n) with ⟨-, e, -⟩ | ⟨-, -, e, -⟩ | ⟨-, -, e, -⟩ | ⟨-, -, e, -⟩ <;> omega
    have j38 : ¬ (n ≠ 0 ∧ TT T (posn T n) = 0) → (gP T n = none ∧ ∃ s', fX5_parse_j38 a (nI n) L4 = some (.inl s') ∧ ∃ L5, s' = (nI (n + 1), L5) ∧ XT L5 a T ∧ XK L5 a T (posn T (n + 1)) ∧ posn T (n + 1) ≤ T.1 ∧ 7 * (n + 1) ≤ TB T (posn T (n + 1)) ∧ L5.1 a 4 = nI (n + 1) ∧ IT L5 a T (n + 1) ∧ Fr (fun x => x = a ∨ (a + 2 ≤ x ∧ x < a + 28)) L L5) ∨ ∃ v y, gP T n = some v ∧ fX5_parse_j38 a (nI n) L4 = some (.inr y) ∧ ∃ z : Int32 × HL, y = .inr z ∧ XR L z.2 a T z.1 v ∧ XT z.2 a T ∧ Fr (fun x => x = a ∨ (a + 2 ≤ x ∧ x < a + 28)) L z.2 := by
      intro hg
      unfold fX5_parse_j38
      rw [gP_n hg]
      rcases parseItemF X4 hT hpos ⟨k5, k6, k7⟩ hn with ⟨en, L5, e5, X5, K5, o4, o2, o2', orr, f5⟩ | ⟨f, ef, L5, e5, o6, X5, f5⟩
      · have s7 := seven hpos en
        have p1 : posn T (n + 1) = itE T (posn T n) := rfl
        have b1 := TB_ge (T := T) (i := itE T (posn T n)) s7.2
        rw [en, e5, bd_some, if_neg (show ¬ (1 : Int32) = 0 by decide), lt_eq, lt_eq, nQ_s, o4, t4, nQ_s]
        refine .inl ⟨rfl, _, rfl, _, rfl, X5.wI (by omega) _, ?_, by rw [p1]; exact s7.2, by rw [p1]; omega, wQ_same _ _ _ _, fun j hj => ?_, (f4.trans (f5.mono fun x h => by omega)).wI (.inl rfl) _ _⟩
        · obtain ⟨q5, q6, q7⟩ := K5
          exact ⟨by rw [wQ_other (by omega)]; exact q5, by rw [wQ_other (by omega)]; exact q6, by rw [wQ_other (by omega)]; exact q7⟩
        · by_cases c : j = n
          · subst c
            exact ⟨by rw [wQ_ne (by omega)]; exact o2, fun k hk => by rw [wQ_ne (by omega)]; exact orr k hk⟩
          · obtain ⟨i1, i2⟩ := hI j (by omega)
            exact ⟨by rw [wQ_ne (by omega), o2' j c]; exact i1, fun k hk => by rw [wQ_ne (by omega), f5.1 _ (by omega)]; exact i2 k hk⟩
      · have hf150 : f ≤ 150 := by
          have : f ≤ T.1 := by
            unfold itF at ef
            split at ef
            · cases e1 : fnd (gN T (posn T n)) (cn (kk T (posn T n))) with
              | some w =>
                rw [e1] at ef
                cases ef
                obtain ⟨q, hq⟩ := fnd_ex e1
                by_cases c : TT T (np T (posn T n) q) = 2
                · rw [gN_t c] at hq; cases hq
                · rw [gN_f c] at hq; cases hq
                  exact (TB_ge (np_le hpos q)).2
              | none =>
                rw [e1] at ef
                have ef : gZ T (np T (posn T n) (cn (kk T (posn T n)))) = some f := ef
                unfold gZ at ef
                split at ef
                · cases ef
                · cases ef; exact (TB_ge (np_le hpos _)).2
            · cases ef; exact (TB_ge hpos).2
          omega
        rw [ef, e5, bd_some, if_pos (show (0 : Int32) = 0 from rfl), o6]
        exact .inr ⟨_, _, rfl, rfl, _, rfl, ⟨rfl, hf150⟩, X5, f4.trans (f5.mono fun x h => by omega)⟩
    by_cases c5 : TT T (posn T n) = 0
    · rw [if_pos (by rw [k5, c5]; rfl), t4]
      by_cases n0 : n = 0
      · rw [if_pos (by rw [l0, nQ_le (by omega) (by omega)]; omega)]
        exact j38 (fun h => h.1 n0)
      · rw [if_neg (by rw [l0, nQ_le (by omega) (by omega)]; omega), gP_e ⟨n0, c5⟩]
        exact .inr ⟨_, _, rfl, rfl, _, rfl, ⟨rfl, hn, t4, hI⟩, X4, f4⟩
    · rw [if_neg (by rw [k5, l0, nQ_eq (by omega) (by omega)]; exact c5)]
      exact j38 (fun h => c5 h.2)) (by
    rintro _ ⟨L4, -, -, -, hpos, h7, -⟩
    have := TB_ge hpos
    omega)
  obtain ⟨z, rfl, hz⟩ := hR
  rw [e, lx_inr]
  exact ⟨v, z, hv, rfl, hz⟩
end PRS
