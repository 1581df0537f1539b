/-! ===== shares ===== -/
def shs (S : Sv) (x n : Nat) (s : Nat × Nat) : Nat × Nat := if n = x ∨ S.st n = false ∨ dg S x n = -1 then s else if s.1 < (dg S x n).toNatClampNeg then s else ((dg S x n).toNatClampNeg, if s.1 = (dg S x n).toNatClampNeg then s.2 + 1 else 1)
def shr (S : Sv) (x : Nat) : Nat → Nat × Nat
  | 0 => (5, 0)
  | n + 1 => shs S x n (shr S x n)
theorem shr_b (S : Sv) (x : Nat) : ∀ n, (shr S x n).1 ≤ 5 ∧ (shr S x n).2 ≤ n ∧ ((shr S x n).1 = 5 ∨ 1 ≤ (shr S x n).2) ∧ ((shr S x n).1 < 5 ∨ (shr S x n).2 = 0)
  | 0 => ⟨Nat.le_refl _, Nat.le_refl _, .inl rfl, .inr rfl⟩
  | n + 1 => by
    obtain ⟨h1, h2, h3, h4⟩ := shr_b S x n
    show (shs S x n (shr S x n)).1 ≤ 5 ∧ (shs S x n (shr S x n)).2 ≤ n + 1 ∧ ((shs S x n (shr S x n)).1 = 5 ∨ 1 ≤ (shs S x n (shr S x n)).2) ∧ ((shs S x n (shr S x n)).1 < 5 ∨ (shs S x n (shr S x n)).2 = 0)
    generalize shr S x n = s at *
    unfold shs
    split
    · exact ⟨h1, by omega, h3, h4⟩
    · next c =>
      rcases dg_s S x n with ⟨j, hj, e, -⟩ | ⟨e, -⟩
      · rw [e, nI_cl (by omega)]
        split
        · exact ⟨h1, by omega, h3, h4⟩
        · refine ⟨by show j ≤ 5; omega, ?_, .inr ?_, .inl hj⟩
          · show (if s.1 = j then s.2 + 1 else 1) ≤ n + 1
            split <;> omega
          · show 1 ≤ (if s.1 = j then s.2 + 1 else 1)
            split <;> omega
      · exact absurd (.inr (.inr e)) c
theorem shr_s (S : Sv) (x n : Nat) : shr S x (n + 1) = shs S x n (shr S x n) := rfl
theorem shs_0 {S : Sv} {x n : Nat} {s : Nat × Nat} (h : n = x ∨ S.st n = false ∨ dg S x n = -1) : shs S x n s = s := if_pos h
theorem shs_1 {S : Sv} {x n j : Nat} {s : Nat × Nat} (h1 : ¬ n = x) (h2 : S.st n = true) (hj : j < 5) (e : dg S x n = nI j) : shs S x n s = if s.1 < j then s else (j, if s.1 = j then s.2 + 1 else 1) := by
  unfold shs
  rw [if_neg (by
    rintro (h | h | h)
    · exact h1 h
    · rw [h2] at h; cases h
    · rw [e, nI_ne_neg' (by omega)] at h; exact h), e, nI_cl (by omega)]
section SHA
variable {L : HL} {b m B : Nat} {S : Sv} {G : Gv}
theorem SC.nearestKinF (hS : SC L b S) (hW : WF S) {x : Nat} (hx : x < S.H) : ∃ z, fX4_nearestKin b (nI x) L = some z ∧ z.1 = nI (shr S x S.H).2 ∧ Fr (SA b) L z.2 := by
  have h5 := hW.H5
  unfold fX4_nearestKin
  obtain ⟨L1, e1, f1, m1⟩ := hS.measureStepsF hW hx
  have hS1 : SC L1 b S := hS.frame fun a _ _ => f1.1 a (by omega)
  rw [hS.hasF hW, bd_some, hasI_n S (by omega), decide_eq_true hx, if_neg (by decide), e1, bd_some]
  refine ⟨(nI (shr S x S.H).2, L1), ?_, rfl, f1.mono fun a h => .inl h⟩
  refine (lx_for S.H (fun i => (nI (shr S x i).1, nI (shr S x i).2, nI i)) rfl (by rw [FU_20000]; omega) ?_ ?_).trans rfl
  · intro i hi
    show fX4_nearestKin_b22 b (nI x) (nI (shr S x i).1) (nI (shr S x i).2) (nI i) L1 = some (Sum.inl (nI (shr S x (i + 1)).1, nI (shr S x (i + 1)).2, nI (i + 1)))
    rw [shr_s]
    have hb := shr_b S x i
    generalize shr S x i = s at *
    unfold fX4_nearestKin_b22 fX4_nearestKin_j86
    simp only [lt_eq, nQ_s, gd_of (vin_nI (show i < 5 by omega) (show 5 < 2147483648 by omega)), nI_cl (show i < 2147483648 by omega), m1 i (by omega)]
    rw [hS1.H, if_neg (by rw [nQ_le (by omega) (by omega)]; omega), hS1.standsF, bd_some, stI_n S (by omega)]
    by_cases c1 : i = x
    · rw [if_pos (by rw [c1]), shs_0 (.inl c1)]
    rw [if_neg (by rw [nQ_eq (by omega) (by omega)]; exact c1)]
    cases c2 : S.st i
    · rw [if_pos (by decide), shs_0 (.inr (.inl c2))]
    rw [if_neg (by decide)]
    rcases dg_s S x i with ⟨j, hj, e, -⟩ | ⟨e, -⟩
    · rw [shs_1 c1 c2 hj e, e, if_neg (by rw [nI_ne_neg' (by omega)]; exact not_false)]
      by_cases c3 : s.1 < j
      · rw [if_pos (by rw [nQ_lt (by omega) (by omega)]; exact c3), if_pos c3]
      rw [if_neg (by rw [nQ_lt (by omega) (by omega)]; exact c3), if_neg c3]
      by_cases c4 : s.1 = j
      · rw [if_pos (by rw [nQ_le (by omega) (by omega)]; omega), if_pos c4]
      · rw [if_neg (by rw [nQ_le (by omega) (by omega)]; omega), if_neg c4]; rfl
    · rw [if_pos e, shs_0 (.inr (.inr e))]
  · unfold fX4_nearestKin_b22
    dsimp only
    rw [hS1.H, if_pos (by rw [nQ_le (by omega) (by omega)]; omega)]
def lst (k : Nat) : Nat := if k = 5 then 1000000 else k
theorem RC.sharersF (hR : RC L (m + 1) S) (hW : WF S) {x : Nat} (hx : x < S.H) {β : Type} {k : Int32 × Int32 × Int32 × HL → Option β} {P : β → Prop} (hk : ∀ L1 w v, Fr (· = m + 8) L L1 → ∃ y, k (w, nI (shr S x S.H).2, v, L1) = some y ∧ P y) {kr : Int32 × HL → Option β} : ∃ y, lx (lp (fun s16 : Int32 × Int32 × Int32 × HL => fX7_share_b23 m (nI x) s16.1 s16.2.1 s16.2.2.1 s16.2.2.2) FU ((1000000 : Int32), (0 : Int32), (0 : Int32), L)) kr k = some y ∧ P y := by
  have h5 := hW.H5
  refine lx_inv S.H (fun i s => ∃ L1, s = (nI (lst (shr S x i).1), nI (shr S x i).2, nI i, L1) ∧ Fr (· = m + 8) L L1) (by rw [FU_20000]; omega) ⟨L, rfl, Fr.refl L⟩ ?_ ?_ ?_
  · rintro i _ hi ⟨L1, rfl, f1⟩
    show ∃ s', fX7_share_b23 m (nI x) (nI (lst (shr S x i).1)) (nI (shr S x i).2) (nI i) L1 = some (Sum.inl s') ∧ ∃ L2, s' = (nI (lst (shr S x (i + 1)).1), nI (shr S x (i + 1)).2, nI (i + 1), L2) ∧ Fr (· = m + 8) L L2
    rw [shr_s]
    have hb := shr_b S x i
    generalize shr S x i = s at *
    have hR1 : RC L1 (m + 1) S := hR.frame (f1.1 _ (by omega))
    have rs : L1.1 (m + 1) ((29 : Int32) + nI i).toNatClampNeg = bI (S.st i) := by rw [l29, nQ_add, nI_cl (by omega)]; exact hR1.st i (by omega)
    have skip : ∀ L2, fX7_share_j68 m (nI x) (nI (lst s.1)) (nI s.2) (nI i) (-1) L2 = some (Sum.inl (nI (lst s.1), nI s.2, nI (i + 1), L2)) := fun L2 => by
      unfold fX7_share_j68; rw [if_pos rfl, lt_eq, nQ_s]
    unfold fX7_share_b23 fX7_share_j53
    rw [c0q, hR1.H, if_neg (by rw [nQ_le (by omega) (by omega)]; omega), gd_of (by rw [l29, nQ_add]; exact vin_nI (by omega) (by omega)), rs]
    by_cases c1 : i = x
    · rw [if_pos (by rw [c1]), shs_0 (.inl c1), skip]; exact ⟨_, rfl, L1, rfl, f1⟩
    rw [if_neg (by rw [nQ_eq (by omega) (by omega)]; exact c1)]
    cases c2 : S.st i
    · rw [if_pos (by decide), shs_0 (.inr (.inl c2)), skip]; exact ⟨_, rfl, L1, rfl, f1⟩
    rw [if_neg (by decide)]
    obtain ⟨z, e2, v2, f2⟩ := hR1.degreeOnF (m := m) (n := 228) hW (by omega) (by omega) (by omega) hx (show i < 5 by omega)
    rw [e2, bd_some, v2]
    rcases dg_s S x i with ⟨j, hj, e, -⟩ | ⟨e, -⟩
    · rw [shs_1 c1 c2 hj e, e]
      unfold fX7_share_j68 fX7_share_j99
      simp only [lt_eq, nQ_s]
      have hl : lst s.1 < 2147483648 ∧ (lst s.1 ≤ j ↔ s.1 ≤ j) ∧ (j = lst s.1 ↔ s.1 = j) := by unfold lst; split <;> omega
      rw [if_neg (by rw [nI_ne_neg' (by omega)]; exact not_false)]
      by_cases c3 : s.1 < j
      · rw [if_pos (by rw [nQ_le (by omega) (by omega)]; omega), if_neg (by rw [nQ_eq (by omega) (by omega)]; omega), if_pos (by rw [nQ_le (by omega) (by omega)]; omega), if_pos c3]
        exact ⟨_, rfl, z.2, rfl, f1.trans f2⟩
      rw [if_neg c3]
      have lj : lst j = j := if_neg (by omega)
      by_cases c4 : s.1 = j
      · rw [if_pos (by rw [nQ_le (by omega) (by omega)]; omega), if_pos (by rw [nQ_eq (by omega) (by omega)]; omega), if_pos (by rw [nQ_le (by omega) (by omega)]; omega), if_pos c4]
        exact ⟨_, rfl, z.2, by rw [c4], f1.trans f2⟩
      · rw [if_neg (by rw [nQ_le (by omega) (by omega)]; omega), if_neg (by rw [nQ_le (by omega) (by omega)]; omega), if_neg c4]
        exact ⟨_, rfl, z.2, by rw [lj]; rfl, f1.trans f2⟩
    · rw [e, shs_0 (.inr (.inr e)), skip]; exact ⟨_, rfl, z.2, rfl, f1.trans f2⟩
  · rintro _ ⟨L1, rfl, f1⟩
    have hR1 : RC L1 (m + 1) S := hR.frame (f1.1 _ (by omega))
    unfold fX7_share_b23
    dsimp only
    rw [c0q, hR1.H, if_pos (by rw [nQ_le (by omega) (by omega)]; omega)]
  · rintro _ ⟨L1, rfl, f1⟩
    exact hk _ _ _ f1
/-! the fraction -/
theorem lg_eq (x y : Int64) : (lg_cmp x y = 0) = (x = y) := by
  unfold lg_cmp
  by_cases c : x > y
  · rw [if_pos c]
    have : y.toInt < x.toInt := Int64.lt_iff_toInt_lt.mp c
    exact propext ⟨fun h => absurd h (by decide), fun h => by rw [h] at this; omega⟩
  · rw [if_neg c]
    by_cases c2 : x = y
    · rw [if_pos c2]; exact propext ⟨fun _ => c2, fun _ => rfl⟩
    · rw [if_neg c2]; exact propext ⟨fun h => absurd h (by decide), fun h => absurd h c2⟩
theorem lg_le (x y : Int64) : (lg_cmp x y ≤ 0) = (x.toInt ≤ y.toInt) := by
  have h := lg_gt x y
  rw [← Int32.not_lt, h]
  exact propext ⟨fun h => by omega, fun h => by omega⟩
theorem jI_eq {a b : Nat} (ha : a < 2147483648) (hb : b < 2147483648) : (jI a = jI b) = (a = b) := by
  rw [← Int64.toInt_inj, jI_toInt (by omega) (by omega), jI_toInt (by omega) (by omega)]; exact propext ⟨fun h => by omega, fun h => by omega⟩
theorem jI_mod {a b : Nat} (ha : a < 2147483648) (hb : b < 2147483648) : jI a - jI a / jI b * jI b = jI ((a % b : Nat) : Int) := by
  rw [jI_div (by omega) (by omega) (by omega) (by omega), jI_mul, jI_sub]
  refine congrArg jI ?_
  rw [Int.natCast_emod, Int.emod_def, Int.mul_comm]
theorem jI_dv {a b : Nat} (ha : a < 2147483648) (hb : b < 2147483648) : jI a / jI b = jI ((a / b : Nat) : Int) := by
  rw [jI_div (by omega) (by omega) (by omega) (by omega), Int.natCast_ediv]
theorem j0 : (0 : Int64) = jI (0 : Nat) := by decide
theorem j1 : (1 : Int64) = jI (1 : Nat) := by decide
def lwd (d : Nat) (q : Nat × Nat) : Nat × Nat := if q.1 % d = 0 ∧ q.2 % d = 0 then (q.1 / d, q.2 / d) else q
def JF (L L' : HL) (B : Nat) : Prop := L'.1 = L.1 ∧ ∀ a, a ≠ B → L'.2 a = L.2 a
theorem wV_same (L : HL) (a i : Nat) (v : Int64) : (wJ L a i v).2 a i = v := by show (if a = a then if i = i then v else _ else _) = v; rw [if_pos rfl, if_pos rfl]
theorem wV_other {L : HL} {a i j : Nat} {v : Int64} (h : j ≠ i) : (wJ L a i v).2 a j = L.2 a j := by show (if a = a then if j = i then v else _ else _) = _; rw [if_pos rfl, if_neg h]
theorem wV_ne {L : HL} {a i c : Nat} {v : Int64} (h : c ≠ a) : (wJ L a i v).2 c = L.2 c := by
  funext j; show (if c = a then if j = i then v else _ else _) = _; rw [if_neg h]
theorem JF.refl (L : HL) (B : Nat) : JF L L B := ⟨rfl, fun _ _ => rfl⟩
theorem JF.wJ {L L' : HL} {B : Nat} (h : JF L L' B) (i : Nat) (v : Int64) : JF L (wJ L' B i v) B := ⟨h.1, fun a ha => (wV_ne ha).trans (h.2 a ha)⟩
theorem lowStep {L1 : HL} (f : JF L L1 B) {d : Nat} (hd : 2 ≤ d) (hd5 : d ≤ 5) {q : Nat × Nat} (h1 : q.1 < 100) (h2 : q.2 < 100) (e1 : L1.2 B 8 = jI q.1) (e2 : L1.2 B 9 = jI q.2) : ∃ L2, fX6_lowerFraction_b4 B (jI d) L1 = some (.inl (jI ((d - 1 : Nat) : Int), L2)) ∧ JF L L2 B ∧ L2.2 B 8 = jI (lwd d q).1 ∧ L2.2 B 9 = jI (lwd d q).2 ∧ (lwd d q).1 < 100 ∧ (lwd d q).2 < 100 := by
  have nz : ¬ jI d = 0 := by rw [j0, jI_eq (by omega) (by omega)]; omega
  have ed : jI d - 1 = jI ((d - 1 : Nat) : Int) := by
    rw [show (1 : Int64) = jI 1 by decide, jI_sub]; refine congrArg jI ?_; omega
  unfold fX6_lowerFraction_b4 fX6_lowerFraction_j52
  rw [if_neg (by rw [lg_le, jI_toInt (by omega) (by omega)]; show ¬ (d : Int) ≤ 1; omega), gd_of nz]
  simp only [lt_eq, ed]
  unfold lwd
  by_cases c1 : q.1 % d = 0
  · rw [if_pos (by rw [lg_eq, e1, jI_mod (by omega) (by omega), c1]; exact j0.symm), gd_of nz]
    by_cases c2 : q.2 % d = 0
    · have d1 : q.1 / d ≤ q.1 := Nat.div_le_self _ _
      have d2 : q.2 / d ≤ q.2 := Nat.div_le_self _ _
      rw [if_pos (by rw [lg_eq, e2, jI_mod (by omega) (by omega), c2]; exact j0.symm), gd_of nz, gd_of nz, e1, wV_other (show 9 ≠ 8 by omega), e2, jI_dv (by omega) (by omega), jI_dv (by omega) (by omega), if_pos ⟨c1, c2⟩]
      exact ⟨_, rfl, (f.wJ _ _).wJ _ _, by rw [wV_other (by omega), wV_same], wV_same _ _ _ _, by show q.1 / d < 100; omega, by show q.2 / d < 100; omega⟩
    · have := Nat.mod_lt q.2 (show d > 0 by omega)
      rw [if_neg (by rw [lg_eq, e2, jI_mod (by omega) (by omega), j0, jI_eq (by omega) (by omega)]; exact c2), if_neg (fun h => c2 h.2)]
      exact ⟨_, rfl, f, e1, e2, h1, h2⟩
  · have := Nat.mod_lt q.1 (show d > 0 by omega)
    rw [if_neg (by rw [lg_eq, e1, jI_mod (by omega) (by omega), j0, jI_eq (by omega) (by omega)]; exact c1), if_neg (fun h => c1 h.1)]
    exact ⟨_, rfl, f, e1, e2, h1, h2⟩
def low (q : Nat × Nat) : Nat → Nat × Nat
  | 0 => q
  | n + 1 => lwd (5 - n) (low q n)
theorem lowF {q : Nat × Nat} (h1 : q.1 < 100) (h2 : q.2 < 100) (e1 : L.2 B 8 = jI q.1) (e2 : L.2 B 9 = jI q.2) : ∃ L', fX6_lowerFraction B L = some L' ∧ JF L L' B ∧ L'.2 B 8 = jI (low q 4).1 ∧ L'.2 B 9 = jI (low q 4).2 := by
  unfold fX6_lowerFraction
  refine lx_inv 4 (fun i s => ∃ L2, s = (jI ((5 - i : Nat) : Int), L2) ∧ JF L L2 B ∧ L2.2 B 8 = jI (low q i).1 ∧ L2.2 B 9 = jI (low q i).2 ∧ (low q i).1 < 100 ∧ (low q i).2 < 100) (by decide) ⟨L, rfl, JF.refl L B, e1, e2, h1, h2⟩ ?_ ?_ ?_
  · rintro i _ hi ⟨L2, rfl, f, q1, q2, b1, b2⟩
    obtain ⟨L3, e3, f3, r1, r2, c1, c2⟩ := lowStep f (d := 5 - i) (by omega) (by omega) b1 b2 q1 q2
    exact ⟨_, e3, L3, rfl, f3, r1, r2, c1, c2⟩
  · rintro _ ⟨L2, rfl, -⟩
    unfold fX6_lowerFraction_b4
    rw [if_pos (by rw [lg_le, jI_toInt (by omega) (by omega)]; show ((5 - 4 : Nat) : Int) ≤ 1; omega)]
  · rintro _ ⟨L2, rfl, f, q1, q2, -⟩
    exact ⟨_, rfl, f, q1, q2⟩
def gs (q : Nat × Nat) : Nat → Nat × Nat
  | 0 => q
  | n + 1 => if (gs q n).2 = 0 then gs q n else ((gs q n).2, (gs q n).1 % (gs q n).2)
def gsOk (u v i : Nat) : Bool := v == 0 || (decide ((gs (u, v) i).1 < 100) && (decide ((gs (u, v) i).2 < 100) && ((!decide ((gs (u, v) i).2 = 0) || (decide (1 ≤ (gs (u, v) i).1) && (decide (u / (gs (u, v) i).1 = (low (u, v) 4).1) && decide (v / (gs (u, v) i).1 = (low (u, v) 4).2)))) && (!decide (i = 6) || decide ((gs (u, v) i).2 = 0)))))
theorem gs_ok : ∀ u, u < 100 → ∀ v, v < 5 → ∀ i, i < 7 → gsOk u v i = true := by decide +kernel
theorem gs_c (u : Nat) (hu : u < 100) (v : Nat) (hv : v < 5) (hv1 : 1 ≤ v) (i : Nat) (hi : i < 7) : (gs (u, v) i).1 < 100 ∧ (gs (u, v) i).2 < 100 ∧ ((gs (u, v) i).2 = 0 → 1 ≤ (gs (u, v) i).1 ∧ u / (gs (u, v) i).1 = (low (u, v) 4).1 ∧ v / (gs (u, v) i).1 = (low (u, v) 4).2) ∧ (i = 6 → (gs (u, v) i).2 = 0) := by
  have h := gs_ok u hu v hv i hi
  unfold gsOk at h
  rw [Bool.or_eq_true, Bool.and_eq_true, Bool.and_eq_true, Bool.and_eq_true, decide_eq_true_eq, decide_eq_true_eq] at h
  rcases h with h | ⟨h1, h2, h3, h4⟩
  · rw [beq_iff_eq] at h; omega
  · refine ⟨h1, h2, fun e => ?_, fun e => ?_⟩
    · rw [e, decide_eq_true (rfl : 0 = 0), Bool.not_true, Bool.false_or, Bool.and_eq_true, Bool.and_eq_true, decide_eq_true_eq, decide_eq_true_eq, decide_eq_true_eq] at h3
      exact h3
    · rw [decide_eq_true e, Bool.not_true, Bool.false_or, decide_eq_true_eq] at h4
      exact h4
theorem fractionF {u v : Nat} (hu : u < 100) (hv : v < 5) (hv1 : 1 ≤ v) : ∃ L', fX7_fraction m (jI u) (jI v) L = some L' ∧ JF L L' m ∧ L'.2 m 5 = jI (low (u, v) 4).1 ∧ L'.2 m 6 = jI (low (u, v) 4).2 := by
  have g := fun i (hi : i < 7) => gs_c u hu v hv hv1 i hi
  unfold fX7_fraction
  refine lx_brk 6 (fun i s => s = (jI (gs (u, v) i).1, jI (gs (u, v) i).2)) (fun s => ∃ w : Nat, s.1 = jI w ∧ 1 ≤ w ∧ w < 100 ∧ u / w = (low (u, v) 4).1 ∧ v / w = (low (u, v) 4).2) (by decide) rfl ?_ ?_ ?_
  · rintro i _ hi rfl
    obtain ⟨b1, b2, b3, -⟩ := g i (by omega)
    unfold fX7_fraction_b6
    show (∃ s', _ = some (Sum.inl s') ∧ s' = (jI (if (gs (u, v) i).2 = 0 then gs (u, v) i else ((gs (u, v) i).2, (gs (u, v) i).1 % (gs (u, v) i).2)).1, jI (if (gs (u, v) i).2 = 0 then gs (u, v) i else ((gs (u, v) i).2, (gs (u, v) i).1 % (gs (u, v) i).2)).2)) ∨ _
    generalize gs (u, v) i = q at *
    dsimp only
    by_cases c : q.2 = 0
    · rw [if_pos (by rw [lg_eq, c]; exact j0.symm)]
      obtain ⟨r1, r2, r3⟩ := b3 c
      exact .inr ⟨rfl, q.1, rfl, r1, b1, r2, r3⟩
    · have nz : ¬ jI q.2 = 0 := by rw [j0, jI_eq (by omega) (by omega)]; exact c
      rw [if_neg (by rw [lg_eq]; exact nz), gd_of nz, lt_eq, jI_mod (by omega) (by omega), if_neg c]
      exact .inl ⟨_, rfl, rfl⟩
  · rintro _ rfl
    obtain ⟨b1, b2, b3, b4⟩ := g 6 (by omega)
    obtain ⟨r1, r2, r3⟩ := b3 (b4 rfl)
    unfold fX7_fraction_b6
    dsimp only
    rw [if_pos (by rw [lg_eq, b4 rfl]; exact j0.symm)]
    exact ⟨rfl, _, rfl, r1, b1, r2, r3⟩
  · rintro s ⟨w, e, w1, w2, r2, r3⟩
    have nz : ¬ jI w = 0 := by rw [j0, jI_eq (by omega) (by omega)]; omega
    rw [e, gd_of nz, lt_eq, gd_of nz, lt_eq, jI_dv (by omega) (by omega), jI_dv (by omega) (by omega), r2, r3]
    exact ⟨_, rfl, ((JF.refl L m).wJ _ _).wJ _ _, by rw [wV_other (by omega), wV_same], wV_same _ _ _ _⟩
theorem KI.frac (h : KI L B G) {L' : HL} (f : JF L L' B) {a b : Int64} (e1 : L'.2 B 8 = a) (e2 : L'.2 B 9 = b) : KI L' B ((G.set_ab a).set_bl b) ∧ FrK B L L' := by
  obtain ⟨h1, h2, h3, h4, h5, h6, h7, h8, h9, h10, h11, h12⟩ := h
  have e := f.1
  exact ⟨KI.of (h1.frame (fun a _ _ => by rw [e]) (fun a _ _ => by rw [e])) (by rw [e]; exact h2) (by rw [e]; exact h3) (fun k => (h4 k).frame (fun a _ _ => by rw [e]) (fun a _ _ => by rw [e])) (fun k => (h5 k).frame (fun a _ _ => by rw [e]) (fun a _ _ => by rw [e])) (by rw [e]; exact h6) (by rw [e]; exact h7) e1 e2 (by rw [e]; exact h10) (by rw [e]; exact h11) (by rw [e]; exact h12), fun a _ => by rw [e], f.2⟩
theorem JI.frac (h : JI L m G) {L' : HL} (f : JF L L' m) {a b : Int64} (e1 : L'.2 m 5 = a) (e2 : L'.2 m 6 = b) : JI L' m ((G.set_ab a).set_bl b) ∧ FrJ m L L' := by
  obtain ⟨h1, h2, h3', h4, h5, h6, h7, h8, h9, h10⟩ := h
  have e := f.1
  refine ⟨JI.of (h1.frame (by rw [e])) (by rw [e]; exact h2) (fun i hi k => ?_) (by rw [e]; exact h4) (by rw [e]; exact h5) e1 e2 (by rw [e]; exact h8) (by rw [e]; exact h9) (by rw [e]; exact h10), fun a _ => by rw [e], f.2⟩
  refine (h3' i hi k).frame ?_
  show (fun q => L'.1 (m + 2) (228 * i + q)) = fun q => L.1 (m + 2) (228 * i + q)
  rw [e]
end SHA
/-- what is shared, before it is lowered -/
def frc (S : Sv) (x : Nat) : Nat × Nat := if (shr S x S.H).2 = 0 then (0, 1) else ((S.wo x).toNatClampNeg, (shr S x S.H).2)
def shG (G : Gv) (x : Nat) : Gv := (G.set_ab (jI (low (frc G.S x) 4).1)).set_bl (jI (low (frc G.S x) 4).2)
theorem shG_w {G : Gv} (h : WG G) (x : Nat) : WG (shG G x) := WG.of h.Q h.I h.ln h.by
theorem ag_share (B : Nat) (a : Int32) : Agree B (fX6_share B a) (fX7_share (B + 178) a) := fun G hW => by
  have h5 := hW.Q.W.H5
  have hW0 := hW.Q.W
  cases c : hasI G.S a
  · refine ⟨-2, badG G, fun L h => ?_, fun L h => ?_, badG_w hW⟩
    · unfold fX6_share
      rw [h.Q.S.hasF hW0, bd_some, c, if_pos (by decide), bd_eta]; exact refK_bad (-2) L h
    · unfold fX7_share
      rw [h.Q.S.isHouseF hW0, bd_some, c, if_pos (by decide), bd_eta]; exact badJ (-2) L h
  obtain ⟨x, hx, rfl⟩ := hasI_of c
  obtain ⟨w, hw, ew⟩ := hW0.wo x hx
  have hb := shr_b G.S x G.S.H
  have cw : (G.S.wo x).toNatClampNeg = w := by rw [ew, nI_cl (by omega)]
  have hc4 : (shr G.S x G.S.H).2 < 5 := by
    have : ∀ n, (shr G.S x n).2 + (if x < n then 1 else 0) ≤ n := by
      intro n
      induction n with
      | zero => rw [if_neg (by omega)]; exact Nat.le_refl _
      | succ n ih =>
        rw [shr_s]
        by_cases e : n = x
        · rw [shs_0 (.inl e)]; split <;> split at ih <;> omega
        · have : (shs G.S x n (shr G.S x n)).2 ≤ (shr G.S x n).2 + 1 := by
            clear ih
            generalize shr G.S x n = s
            unfold shs
            split
            · omega
            · split
              · omega
              · show (if s.1 = (dg G.S x n).toNatClampNeg then s.2 + 1 else 1) ≤ s.2 + 1
                split
                · exact Nat.le_refl _
                · omega
          split <;> split at ih <;> omega
    have := this G.S.H
    rw [if_pos hx] at this; omega
  have fin : ∀ f : Nat × Nat, f = frc G.S x → f.1 < 100 ∧ f.2 < 5 ∧ 1 ≤ f.2 := by
    intro f e
    rw [e]
    unfold frc
    split
    · exact ⟨by decide, by decide, by decide⟩
    · rw [cw]; exact ⟨hw, hc4, by show 1 ≤ (shr G.S x G.S.H).2; omega⟩
  obtain ⟨b1, b2, b3⟩ := fin _ rfl
  refine ⟨nI (shr G.S x G.S.H).2, shG G x, fun L h => ?_, fun L h => ?_, shG_w hW x⟩
  · unfold fX6_share
    obtain ⟨z, e1, v1, f1⟩ := h.Q.S.nearestKinF hW0 hx
    obtain ⟨k1, g1⟩ := h.scrF f1 (fun a e => scr_SA e)
    rw [h.Q.S.hasF hW0, bd_some, c, if_neg (by decide), e1, bd_some, v1]
    have rw_ : z.2.1 (B + 1 + 2) (nI x).toNatClampNeg = nI w := by rw [nI_cl (by omega), k1.Q.S.wo x hx]; exact ew
    rw [rw_, gd_of (vin_nI (by omega) (by omega))]
    have main : ∀ f : Nat × Nat, f = frc G.S x → ∃ L2, fX6_lowerFraction B (wJ (wJ z.2 B 8 (jI f.1)) B 9 (jI f.2)) = some L2 ∧ KI L2 B (shG G x) ∧ FrK B L L2 := by
      intro f e
      obtain ⟨b1, b2, b3⟩ := fin f e
      obtain ⟨L2, e2, f2, r1, r2⟩ := lowF (L := wJ (wJ z.2 B 8 (jI f.1)) B 9 (jI f.2)) (B := B) (q := f) b1 (by omega) (by rw [wV_other (by omega), wV_same]) (wV_same _ _ _ _)
      have f3 : JF z.2 L2 B := ⟨f2.1, fun a ha => (f2.2 a ha).trans (by rw [wV_ne ha, wV_ne ha])⟩
      obtain ⟨k2, g2⟩ := k1.frac f3 r1 r2
      rw [e] at k2
      exact ⟨L2, e2, k2, g1.trans g2⟩
    unfold fX6_share_j48 fX6_share_j62
    by_cases c0 : (shr G.S x G.S.H).2 = 0
    · obtain ⟨L2, e2, k2, g2⟩ := main (0, 1) (by unfold frc; rw [if_pos c0])
      rw [c0, if_pos (by decide), lt_eq, if_pos (by decide), lt_eq, show fX6_lowerFraction B (wJ (wJ z.2 B 8 0) B 9 1) = some L2 from e2, bd_some]
      exact ⟨_, rfl, rfl, k2, g2⟩
    · obtain ⟨L2, e2, k2, g2⟩ := main (w, (shr G.S x G.S.H).2) (by unfold frc; rw [if_neg c0, cw])
      have nz : ¬ nI (shr G.S x G.S.H).2 = 0 := by rw [l0, nQ_eq (by omega) (by omega)]; exact c0
      rw [if_neg nz, lt_eq, if_neg nz, lt_eq, nI_long (by omega), nI_long (by omega), e2, bd_some]
      exact ⟨_, rfl, rfl, k2, g2⟩
  · unfold fX7_share
    rw [h.Q.S.isHouseF hW0, bd_some, c, if_neg (by decide)]
    refine h.Q.S.sharersF hW0 hx fun L1 u1 u2 f1 => ?_
    obtain ⟨k1, g1⟩ := h.scrF f1 (fun a e => by omega)
    dsimp only
    have rw_ : L1.1 (B + 178 + 1) ((9 : Int32) + nI x).toNatClampNeg = nI w := by rw [l9, nQ_add, nI_cl (by omega), k1.Q.S.wo x (by omega)]; exact ew
    rw [rw_, gd_of (by rw [l9, nQ_add]; exact vin_nI (by omega) (by omega))]
    have main : ∀ f : Nat × Nat, f = frc G.S x → ∃ L2, fX7_fraction (B + 178) (jI f.1) (jI f.2) L1 = some L2 ∧ JI L2 (B + 178) (shG G x) ∧ FrJ (B + 178) L L2 := by
      intro f e
      obtain ⟨b1, b2, b3⟩ := fin f e
      obtain ⟨L2, e2, f2, r1, r2⟩ := fractionF (L := L1) (m := B + 178) b1 b2 b3
      obtain ⟨k2, g2⟩ := k1.frac f2 r1 r2
      rw [e] at k2
      exact ⟨L2, e2, k2, g1.trans g2⟩
    unfold fX7_share_j138 fX7_share_j148
    by_cases c0 : (shr G.S x G.S.H).2 = 0
    · obtain ⟨L2, e2, k2, g2⟩ := main (0, 1) (by unfold frc; rw [if_pos c0])
      rw [c0, if_pos (by decide), if_pos (by decide), show fX7_fraction (B + 178) 0 1 L1 = some L2 from e2, bd_some]
      exact ⟨_, rfl, rfl, k2, g2⟩
    · obtain ⟨L2, e2, k2, g2⟩ := main (w, (shr G.S x G.S.H).2) (by unfold frc; rw [if_neg c0, cw])
      have nz : ¬ nI (shr G.S x G.S.H).2 = 0 := by rw [l0, nQ_eq (by omega) (by omega)]; exact c0
      rw [if_neg nz, if_neg nz, nI_long (by omega), nI_long (by omega), e2, bd_some]
      exact ⟨_, rfl, rfl, k2, g2⟩
