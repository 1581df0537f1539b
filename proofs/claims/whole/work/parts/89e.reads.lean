/-! ===== the reference reads its text ===== -/
def FI (L L' : HL) (m : Nat) : Prop := (∀ a, a ≠ m → a ≠ m + 6 → L'.1 a = L.1 a) ∧ (∀ k, (k < 8 ∨ k = 12 ∨ k = 13 ∨ 14 < k) → L'.1 m k = L.1 m k) ∧ (∀ a, a ≠ m → L'.2 a = L.2 a) ∧ ∀ k, k ≠ 12 → L'.2 m k = L.2 m k
theorem FI.refl (L : HL) (m : Nat) : FI L L m := ⟨fun _ _ _ => rfl, fun _ _ => rfl, fun _ _ => rfl, fun _ _ => rfl⟩
theorem FI.trans {L L' L'' : HL} {m : Nat} (h : FI L L' m) (g : FI L' L'' m) : FI L L'' m := ⟨fun a ha hb => (g.1 a ha hb).trans (h.1 a ha hb), fun k hk => (g.2.1 k hk).trans (h.2.1 k hk), fun a ha => (g.2.2.1 a ha).trans (h.2.2.1 a ha), fun k hk => (g.2.2.2 k hk).trans (h.2.2.2 k hk)⟩
theorem FT.I {L L' : HL} {m : Nat} (h : FT L L' m) : FI L L' m := ⟨fun a ha _ => h.1 a ha, fun k hk => h.2.1 k (by omega), h.2.2.1, h.2.2.2⟩
theorem FI.w {L L' : HL} {m : Nat} (h : FI L L' m) {k : Nat} (hk : (8 ≤ k ∧ k ≤ 11) ∨ k = 14) (v : Int32) : FI L (wI L' m k v) m := ⟨fun a ha hb => (wQ_ne ha).trans (h.1 a ha hb), fun q hq => (wQ_other (by omega)).trans (h.2.1 q hq), h.2.2.1, h.2.2.2⟩
theorem FI.w6 {L L' : HL} {m : Nat} (h : FI L L' m) (k : Nat) (v : Int32) : FI L (wI L' (m + 6) k v) m := ⟨fun a ha hb => (wQ_ne hb).trans (h.1 a ha hb), fun q hq => by rw [wQ_ne (by omega)]; exact h.2.1 q hq, h.2.2.1, h.2.2.2⟩
theorem XJ.fi {L L' : HL} {m : Nat} {T : Nat × (Nat → Nat)} (h : XJ L m T) (f : FI L L' m) : XJ L' m T := ⟨by rw [f.2.1 4 (by omega)]; exact h.1, fun j hj => by rw [f.1 _ (by omega) (by omega)]; exact h.2 j hj⟩
def JT (L : HL) (m : Nat) (T : Nat × (Nat → Nat)) (N : Nat) : Prop := ∀ j, j < N → L.1 (m + 6) (4 * j) = nI (kk T (posn T j)) ∧ ∀ k, k < cn (kk T (posn T j)) → L.1 (m + 6) (4 * j + 1 + k) = nI (nmv T (posn T j) k)
theorem itI_c : ∀ k, k ≤ 7 → ((itI k < 0 ↔ k = 7) ∧ (itI k = 0 ↔ k = 0) ∧ (k ≠ 7 → itI k / (10 : Int32) = nI k ∧ itI k - itI k / (10 : Int32) * (10 : Int32) = nI (cn k))) := by decide +kernel
theorem TT_le {T : Nat × (Nat → Nat)} (i : Nat) : TT T i ≤ 4 := by
  unfold TT
  split
  · omega
  · rcases TR_c (T := T) (i := i) with ⟨-, e, -⟩ | ⟨-, -, e, -⟩ | ⟨-, -, e, -⟩ | ⟨-, -, e, -⟩ <;> omega
section RDS
variable {L : HL} {m : Nat} {T : Nat × (Nat → Nat)}
theorem itemJF (hX : XJ L m T) (hT : WT T) {i n : Nat} (hi : i ≤ T.1) (hK : YK L m T i) (hn : n < 24) (h14 : L.1 m 14 = nI n) : (itF T n i = none ∧ ∃ L', fX7_reads_j28 m L = some (.inl L') ∧ XJ L' m T ∧ YK L' m T (itE T i) ∧ L'.1 m 14 = nI (n + 1) ∧ L'.1 (m + 6) (4 * n) = nI (kk T i) ∧ (∀ k, k < cn (kk T i) → L'.1 (m + 6) (4 * n + 1 + k) = nI (nmv T i k)) ∧ (∀ j, j < 4 * n → L'.1 (m + 6) j = L.1 (m + 6) j) ∧ FI L L' m) ∨ ∃ f, itF T n i = some f ∧ ∃ L', fX7_reads_j28 m L = some (.inr (.inr (nI f, L'))) ∧ FI L L' m := by
  have h15 := hT.1
  obtain ⟨k8, k9, k10, k11, kw⟩ := hK
  have hTE := TE_ge hi
  have hk7 := kk_le T i
  have htt := TT_le (T := T) i
  obtain ⟨q1, q2, q3⟩ := itI_c (kk T i) hk7
  have e1 : fX7_reads_j28 m L = fX7_reads_j47 m (itI (kk T i)) L := by
    unfold fX7_reads_j28 kk
    by_cases c : TT T i = 1
    · obtain ⟨t1, t2, t3⟩ := TT_1 c
      rw [if_pos (by rw [k10, c]; rfl), kw c, itemOfF t3 t2, bd_some, if_pos c]
    · rw [if_neg (by rw [k10, l1, nQ_eq (by omega) (by omega)]; exact c), if_neg c]; rfl
  have bad : fit T n i = false → fX7_reads_j47 m (itI (kk T i)) L = some (.inr (.inr (nI (TB T i), L))) := by
    intro hf
    unfold fX7_reads_j47
    by_cases c7 : kk T i = 7
    · rw [if_pos (q1.mpr c7), k9]
    rw [if_neg (fun z => c7 (q1.mp z))]
    unfold fX7_reads_j61 fX7_reads_j73
    rw [h14, k9]
    unfold fit at hf
    by_cases c0 : kk T i = 0
    · rw [if_pos (q2.mpr c0)]
      have n0 : ¬ n = 0 := fun z => by rw [if_pos z, decide_eq_true c0] at hf; cases hf
      rw [if_neg (by rw [l0, nQ_eq (by omega) (by omega)]; exact n0), if_neg (by decide)]
    · rw [if_neg (fun z => c0 (q2.mp z))]
      have n0 : n = 0 := by
        apply Decidable.byContradiction
        intro z
        rw [if_neg z, decide_eq_true c0, decide_eq_true c7] at hf
        cases hf
      rw [if_pos (by rw [n0]; rfl), if_neg (by decide)]
  have good : fit T n i = true → kk T i ≠ 7 ∧ fX7_reads_j47 m (itI (kk T i)) L = fX7_reads_j73 m (itI (kk T i)) 0 0 L := by
    intro hf
    unfold fit at hf
    by_cases n0 : n = 0
    · rw [if_pos n0, decide_eq_true_eq] at hf
      refine ⟨by omega, ?_⟩
      unfold fX7_reads_j47 fX7_reads_j61 fX7_reads_j73
      rw [if_neg (fun z => by have := q1.mp z; omega), if_pos (q2.mpr hf), h14, if_pos (by rw [n0]; rfl), if_pos rfl, if_pos rfl]
    · rw [if_neg n0, Bool.and_eq_true, decide_eq_true_eq, decide_eq_true_eq] at hf
      refine ⟨hf.2, ?_⟩
      unfold fX7_reads_j47 fX7_reads_j61
      rw [if_neg (fun z => hf.2 (q1.mp z)), if_neg (fun z => hf.1 (q2.mp z)), h14, if_neg (by rw [l0, nQ_eq (by omega) (by omega)]; exact n0)]
  rw [e1]
  unfold itF
  cases hf : fit T n i
  · refine .inr ⟨TB T i, by rw [if_neg (by decide)], L, bad hf, FI.refl L m⟩
  obtain ⟨k7', e2⟩ := good hf
  obtain ⟨q4, q5⟩ := q3 k7'
  have hcn := cn_le (kk T i)
  rw [if_pos rfl, e2]
  unfold fX7_reads_j73
  have r4n : (4 : Int32) * nI n = nI (4 * n) := nQ_mul 4 n
  rw [if_pos rfl, h14, r4n, gd_of (vin_nI (by omega) (by omega)), lt_eq, q4, nI_cl (by omega)]
  have hX1 : XJ (wI L (m + 6) (4 * n) (nI (kk T i))) m T := hX.fi ((FI.refl L m).w6 _ _)
  have lpr := lp_fnd (f := fun s20 : Int32 × HL => fX7_reads_b98 m (itI (kk T i)) s20.1 s20.2) (s0 := ((0 : Int32), wI L (m + 6) (4 * n) (nI (kk T i)))) (cn (kk T i)) (fun j t => ∃ L3, t = (nI j, L3) ∧ L3.1 m 8 = nI (np T i j) ∧ L3.1 m 14 = nI n ∧ L3.1 (m + 6) (4 * n) = nI (kk T i) ∧ (∀ k, k < j → L3.1 (m + 6) (4 * n + 1 + k) = nI (nmv T i k)) ∧ (∀ q, q < 4 * n → L3.1 (m + 6) q = L.1 (m + 6) q) ∧ FI L L3 m) (gN T i) (fun v z => z.1 = nI v ∧ FI L z.2 m) (by rw [FU_20000]; omega) ⟨_, rfl, by rw [wQ_ne (by omega)]; exact k8, by rw [wQ_ne (by omega)]; exact h14, wQ_same _ _ _ _, fun k hk => by omega, fun q hq => wQ_other (by omega), (FI.refl L m).w6 _ _⟩ (by
    rintro j _ hj ⟨L3, rfl, t8, t14, t4, tr, tq, tf⟩
    have hnp := np_le hi j
    have hTEj := TE_ge hnp
    have htt := TT_le (T := T) (np T i j)
    have hX3 := hX.fi tf
    obtain ⟨L4, e4, ⟨y8, y9, y10, y11, -⟩, f4⟩ := nextF hX3 hT hnp t8
    have z14 : L4.1 m 14 = nI n := by rw [f4.2.1 14 (by omega)]; exact t14
    have z6 : L4.1 (m + 6) = L3.1 (m + 6) := f4.1 _ (by omega)
    unfold fX7_reads_b98
    dsimp only
    rw [q5, if_neg (by rw [nQ_le (by omega) (by omega)]; omega), e4, bd_some]
    by_cases c : TT T (np T i j) = 2
    · have ei : ((4 : Int32) * nI n + (1 : Int32)) + nI j = nI (4 * n + 1 + j) := by rw [r4n, nQ_s, nQ_add]
      rw [if_pos (by rw [y10, c]; rfl), z14, ei, gd_of (vin_nI (by omega) (by omega)), lt_eq, lt_eq, nQ_s, nI_cl (by omega), y11 c]
      refine .inl ⟨gN_t c, _, rfl, _, rfl, by rw [wQ_ne (by omega)]; exact y8, by rw [wQ_ne (by omega)]; exact z14, by rw [wQ_other (by omega), z6]; exact t4, fun k hk => ?_, fun q hq => by rw [wQ_other (by omega), z6]; exact tq q hq, (tf.trans f4.I).w6 _ _⟩
      by_cases e : k = j
      · subst e; exact wQ_same _ _ _ _
      · rw [wQ_other (by omega), z6]; exact tr k (by omega)
    · rw [if_neg (by rw [y10, l2, nQ_eq (by omega) (by omega)]; exact c)]
      exact .inr ⟨_, _, gN_f c, rfl, y9, tf.trans f4.I⟩) (by
    rintro _ ⟨L3, rfl, -⟩
    unfold fX7_reads_b98
    dsimp only
    rw [q5, if_pos (by rw [nQ_le (by omega) (by omega)]; omega)])
  rcases lpr with ⟨s, e, ⟨L3, rfl, t8, t14, t4, tr, tq, tf⟩, hn3⟩ | ⟨v, z, e, hv, z1, zf⟩
  · rw [e, lx_inl, hn3]
    dsimp only
    have hnp := np_le hi (cn (kk T i))
    have hTEj := TE_ge hnp
    have htt := TT_le (T := T) (np T i (cn (kk T i)))
    have hX3 := hX.fi tf
    obtain ⟨L4, e4, ⟨y8, y9, y10, y11, -⟩, f4⟩ := nextF hX3 hT hnp t8
    have z14 : L4.1 m 14 = nI n := by rw [f4.2.1 14 (by omega)]; exact t14
    have z6 : L4.1 (m + 6) = L3.1 (m + 6) := f4.1 _ (by omega)
    show (gZ T (np T i (cn (kk T i))) = none ∧ _) ∨ ∃ f, gZ T (np T i (cn (kk T i))) = some f ∧ _
    unfold gZ
    rw [e4, bd_some]
    by_cases c : TT T (np T i (cn (kk T i))) = 3
    · rw [if_pos c, if_pos (by rw [y10, c]; rfl), lt_eq, z14, nQ_s]
      have hX4 : XJ (wI L4 m 14 (nI (n + 1))) m T := (hX3.fi f4.I).fi ((FI.refl L4 m).w (.inr rfl) _)
      obtain ⟨L5, e5, K5, f5⟩ := nextF hX4 hT hTEj.2 (by rw [wQ_other (by omega)]; exact y8)
      have u6 : L5.1 (m + 6) = L3.1 (m + 6) := by rw [f5.1 _ (by omega), wQ_ne (by omega), z6]
      rw [e5, bd_some]
      exact .inl ⟨rfl, L5, rfl, hX4.ft f5, K5, by rw [f5.2.1 14 (by omega), wQ_same], by rw [u6]; exact t4, fun k hk => by rw [u6]; exact tr k hk, fun q hq => by rw [u6]; exact tq q hq, ((tf.trans f4.I).w (.inr rfl) _).trans f5.I⟩
    · rw [if_neg c, if_neg (by rw [y10, l3, nQ_eq (by omega) (by omega)]; exact c)]
      exact .inr ⟨_, rfl, L4, by rw [y9], tf.trans f4.I⟩
  · rw [e, lx_inr, hv]
    exact .inr ⟨v, rfl, z.2, by rw [← z1], zf⟩
def YR (L' : HL) (m : Nat) (T : Nat × (Nat → Nat)) (r : Int32) : Option Nat × Nat → Prop
  | (none, N) => r = -1 ∧ N < 24 ∧ L'.1 m 14 = nI N ∧ JT L' m T N
  | (some f, _) => r = nI f
theorem readsF (hX : XJ L m T) (hT : WT T) : ∃ v z, fnd (gP T) 24 = some v ∧ fX7_reads m L = some z ∧ YR z.2 m T z.1 v ∧ FI L z.2 m := by
  have h15 := hT.1
  unfold fX7_reads
  rw [lt_eq, lt_eq]
  have f2 : FI L (wI (wI L m 8 0) m 14 0) m := ((FI.refl L m).w (.inl ⟨by omega, by omega⟩) _).w (.inr rfl) _
  obtain ⟨L3, e3, K3, f3⟩ := nextF (i := 0) (hX.fi f2) hT (Nat.zero_le _) (by rw [wQ_other (by omega), wQ_same]; rfl)
  have r14 : L3.1 m 14 = nI 0 := by rw [f3.2.1 14 (by omega), wQ_same]; rfl
  rw [e3, bd_some]
  obtain ⟨v, y, e, hv, hR⟩ := lp_end (f := fun s26 : HL => fX7_reads_b14 m s26) (s0 := L3) 24 (fun n L4 => XJ L4 m T ∧ YK L4 m T (posn T n) ∧ posn T n ≤ T.1 ∧ 7 * n ≤ TB T (posn T n) ∧ L4.1 m 14 = nI n ∧ JT L4 m T n ∧ FI L L4 m) (gP T) (fun v y => ∃ z : Int32 × HL, ((y = .inr z) ∨ (z.1 = -1 ∧ y = .inl z.2)) ∧ YR z.2 m T z.1 v ∧ FI L z.2 m) (by decide) ⟨(hX.fi f2).ft f3, K3, Nat.zero_le _, Nat.zero_le _, r14, fun j hj => by omega, f2.trans f3.I⟩ (by
    rintro n L4 hn ⟨X4, K4, hpos, h7, t14, hI, f4⟩
    have htt := TT_le (T := T) (posn T n)
    have k10 := K4.2.2.1
    have j28 : ¬ (n ≠ 0 ∧ TT T (posn T n) = 0) → (gP T n = none ∧ ∃ s', fX7_reads_j28 m L4 = some (.inl s') ∧ XJ s' m T ∧ YK s' m T (posn T (n + 1)) ∧ posn T (n + 1) ≤ T.1 ∧ 7 * (n + 1) ≤ TB T (posn T (n + 1)) ∧ s'.1 m 14 = nI (n + 1) ∧ JT s' m T (n + 1) ∧ FI L s' m) ∨ ∃ v y, gP T n = some v ∧ fX7_reads_j28 m L4 = some (.inr y) ∧ ∃ z : Int32 × HL, ((y = .inr z) ∨ (z.1 = -1 ∧ y = .inl z.2)) ∧ YR z.2 m T z.1 v ∧ FI L z.2 m := by
      intro hg
      rw [gP_n hg]
      rcases itemJF X4 hT hpos K4 hn t14 with ⟨en, L5, e5, X5, K5, o14, o4, orr, oq, f5⟩ | ⟨f, ef, L5, e5, f5⟩
      · have s7 := seven hpos en
        have p1 : posn T (n + 1) = itE T (posn T n) := rfl
        have b1 := TB_ge (T := T) (i := itE T (posn T n)) s7.2
        rw [en, e5]
        refine .inl ⟨rfl, _, rfl, X5, K5, by rw [p1]; exact s7.2, by rw [p1]; omega, o14, fun j hj => ?_, f4.trans f5⟩
        by_cases c : j = n
        · subst c; exact ⟨o4, orr⟩
        · obtain ⟨i1, i2⟩ := hI j (by omega)
          have hcn := cn_le (kk T (posn T j))
          exact ⟨by rw [oq _ (by omega)]; exact i1, fun k hk => by rw [oq _ (by omega)]; exact i2 k hk⟩
      · rw [ef, e5]
        exact .inr ⟨_, _, rfl, rfl, (nI f, L5), .inl rfl, rfl, f4.trans f5⟩
    unfold fX7_reads_b14
    by_cases c5 : TT T (posn T n) = 0
    · rw [if_pos (by rw [k10, c5]; rfl), t14]
      by_cases n0 : n = 0
      · rw [if_pos (by rw [n0]; rfl)]
        exact j28 (fun h => h.1 n0)
      · rw [if_neg (by rw [l0, nQ_eq (by omega) (by omega)]; exact n0), gP_e ⟨n0, c5⟩]
        exact .inr ⟨_, _, rfl, rfl, (-1, L4), .inr ⟨rfl, rfl⟩, ⟨rfl, hn, t14, hI⟩, f4⟩
    · rw [if_neg (by rw [k10, l0, nQ_eq (by omega) (by omega)]; exact c5)]
      exact j28 (fun h => c5 h.2)) (by
    rintro L4 ⟨-, -, hpos, h7, -⟩
    have := TB_ge hpos
    omega)
  obtain ⟨z, hz, hy, hf⟩ := hR
  rw [e]
  rcases hz with rfl | ⟨h1, rfl⟩
  · rw [lx_inr]; exact ⟨v, z, hv, rfl, hy, hf⟩
  · rw [lx_inl]; exact ⟨v, z, hv, by rw [← h1], hy, hf⟩
end RDS
