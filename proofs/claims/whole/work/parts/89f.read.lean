/-! ===== read agrees ===== -/
def tI (k : Nat) (x0 x1 x2 : Int32) (S : Sv) : Int32 × Sv := if k = 1 then dHouse S x0 x1 x2 else if k = 2 then dFrom S x0 x1 else if k = 3 then dWill S x0 x1 else if k = 4 then dWall S x0 x1 true else if k = 5 then dOne S x0 x1 else if k = 6 then dFeud S x0 x1 true else (0, S)
theorem tI_ac {S : Sv} (hW : WF S) (k : Nat) (x0 x1 x2 : Int32) : Ac S (tI k x0 x1 x2 S) := by
  unfold tI
  by_cases c1 : k = 1
  · rw [if_pos c1]; exact dHouse_ac hW _ _ _
  by_cases c2 : k = 2
  · rw [if_neg c1, if_pos c2]; exact dFrom_ac hW _ _
  by_cases c3 : k = 3
  · rw [if_neg c1, if_neg c2, if_pos c3]; exact dWill_ac hW _ _
  by_cases c4 : k = 4
  · rw [if_neg c1, if_neg c2, if_neg c3, if_pos c4]; exact dWall_ac hW _ _ _
  by_cases c5 : k = 5
  · rw [if_neg c1, if_neg c2, if_neg c3, if_neg c4, if_pos c5]; exact dOne_ac hW _ _
  by_cases c6 : k = 6
  · rw [if_neg c1, if_neg c2, if_neg c3, if_neg c4, if_neg c5, if_pos c6]; exact dFeud_ac hW _ _ _
  · rw [if_neg c1, if_neg c2, if_neg c3, if_neg c4, if_neg c5, if_neg c6]; exact .inr ⟨by show -1 ≤ (0 : Int32).toInt; decide, hW⟩
theorem Ac.wf {S : Sv} {r : Int32 × Sv} (h : Ac S r) (hW : WF S) : WF r.2 := by
  rcases h with ⟨e, -⟩ | ⟨-, h⟩
  · rw [e]; exact hW
  · exact h
theorem tI_2 {k : Nat} {x0 x1 x2 y2 : Int32} {S : Sv} (h : k ≠ 1) : tI k x0 x1 x2 S = tI k x0 x1 y2 S := by
  unfold tI; rw [if_neg h, if_neg h]
theorem tI_0 {x0 x1 x2 : Int32} {S : Sv} : tI 0 x0 x1 x2 S = (0, S) := rfl
def tR (T : Nat × (Nat → Nat)) (j : Nat) (S : Sv) : Int32 × Sv := tI (kk T (posn T j)) (nI (nmv T (posn T j) 0)) (nI (nmv T (posn T j) 1)) (nI (nmv T (posn T j) 2)) S
def tS (T : Nat × (Nat → Nat)) : Nat → Sv
  | 0 => zS
  | n + 1 => (tR T n (tS T n)).2
theorem tS_s (T : Nat × (Nat → Nat)) (n : Nat) : tS T (n + 1) = (tR T n (tS T n)).2 := rfl
theorem tS_wf (T : Nat × (Nat → Nat)) : ∀ n, WF (tS T n)
  | 0 => zS_wf
  | n + 1 => (tI_ac (tS_wf T n) _ _ _ _).wf (tS_wf T n)
def gT (T : Nat × (Nat → Nat)) (n : Nat) : Option Nat := if (-1 : Int32) ≤ (tR T n (tS T n)).1 then none else some n
theorem gT_t {T : Nat × (Nat → Nat)} {n : Nat} (h : (-1 : Int32) ≤ (tR T n (tS T n)).1) : gT T n = none := if_pos h
theorem gT_f {T : Nat × (Nat → Nat)} {n : Nat} (h : ¬ (-1 : Int32) ≤ (tR T n (tS T n)).1) : gT T n = some n := if_neg h
theorem fnd_1 {γ : Type} {g : Nat → Option γ} : ∀ {M : Nat} {v : γ}, fnd g M = some v → ∃ n, n < M ∧ g n = some v ∧ ∀ j, j < n → g j = none := by
  intro M
  induction M with
  | zero => intro v h; cases h
  | succ M ih =>
    intro v h
    have h : (fnd g M).or (g M) = some v := h
    cases e : fnd g M with
    | some x =>
      rw [e] at h
      cases h
      obtain ⟨n, h1, h2, h3⟩ := ih e
      exact ⟨n, by omega, h2, h3⟩
    | none => rw [e] at h; exact ⟨M, by omega, h, (fnd_no M).mp e⟩
/-- the items of a street without a fault -/
theorem gP_ok {T : Nat × (Nat → Nat)} {N : Nat} (h : fnd (gP T) 24 = some (none, N)) : N ≠ 0 ∧ ∀ j, j < N → fit T j (posn T j) = true := by
  obtain ⟨n, h1, h2, h3⟩ := fnd_1 h
  by_cases c : n ≠ 0 ∧ TT T (posn T n) = 0
  · rw [gP_e c] at h2
    cases h2
    refine ⟨c.1, fun j hj => ?_⟩
    have h4 := h3 j hj
    by_cases d : j ≠ 0 ∧ TT T (posn T j) = 0
    · rw [gP_e d] at h4; cases h4
    · rw [gP_n d] at h4
      cases e : itF T j (posn T j) with
      | some f => rw [e] at h4; cases h4
      | none =>
        unfold itF at e
        cases k : fit T j (posn T j)
        · rw [k, if_neg (by decide)] at e; cases e
        · rfl
  · rw [gP_n c] at h2
    cases e : itF T n (posn T n) with
    | some f => rw [e] at h2; cases h2
    | none => rw [e] at h2; cases h2
theorem itF_le {T : Nat × (Nat → Nat)} {n i f : Nat} (hi : i ≤ T.1) (h : itF T n i = some f) : f ≤ T.1 := by
  unfold itF at h
  split at h
  · cases e1 : fnd (gN T i) (cn (kk T i)) with
    | some w =>
      rw [e1] at h
      cases h
      obtain ⟨q, hq⟩ := fnd_ex e1
      by_cases c : TT T (np T i q) = 2
      · rw [gN_t c] at hq; cases hq
      · rw [gN_f c] at hq; cases hq
        exact (TB_ge (np_le hi q)).2
    | none =>
      rw [e1] at h
      have h : gZ T (np T i (cn (kk T i))) = some f := h
      unfold gZ at h
      split at h
      · cases h
      · cases h; exact (TB_ge (np_le hi _)).2
  · cases h; exact (TB_ge hi).2
theorem gP_it {T : Nat × (Nat → Nat)} {j : Nat} (h : gP T j = none) : itF T j (posn T j) = none := by
  by_cases d : j ≠ 0 ∧ TT T (posn T j) = 0
  · rw [gP_e d] at h; cases h
  · rw [gP_n d] at h
    cases e : itF T j (posn T j) with
    | some f => rw [e] at h; cases h
    | none => rfl
theorem posn_le {T : Nat × (Nat → Nat)} : ∀ n, (∀ j, j < n → gP T j = none) → posn T n ≤ T.1
  | 0, _ => Nat.zero_le _
  | n + 1, h => (seven (posn_le n fun j hj => h j (by omega)) (gP_it (h n (by omega)))).2
theorem gP_le {T : Nat × (Nat → Nat)} {f N : Nat} (h : fnd (gP T) 24 = some (some f, N)) : f ≤ T.1 := by
  obtain ⟨n, h1, h2, h3⟩ := fnd_1 h
  by_cases c : n ≠ 0 ∧ TT T (posn T n) = 0
  · rw [gP_e c] at h2; cases h2
  · rw [gP_n c] at h2
    cases e : itF T n (posn T n) with
    | some g => rw [e] at h2; cases h2; exact itF_le (posn_le _ h3) e
    | none => rw [e] at h2; cases h2
section TEL
variable {L : HL} {a b m B : Nat} {S : Sv} {G : Gv} {T : Nat × (Nat → Nat)}
theorem tellItemF (hS : SC L b S) (hW : WF S) {k : Nat} (hk : k ≤ 6) (x0 x1 x2 : Int32) : Do (fX5_tellItem b (nI k) x0 x1 x2 L) L b (tI k x0 x1 x2 S) := by
  unfold fX5_tellItem
  simp only [bd_eta]
  rcases (show k = 0 ∨ k = 1 ∨ k = 2 ∨ k = 3 ∨ k = 4 ∨ k = 5 ∨ k = 6 by omega) with rfl | rfl | rfl | rfl | rfl | rfl | rfl
  · rw [if_neg (by decide), if_neg (by decide), if_neg (by decide), if_neg (by decide), if_neg (by decide), if_neg (by decide)]; exact Do.same hS 0
  · rw [if_pos (by decide)]; exact hS.addHouseF hW x0 x1 x2
  · rw [if_neg (by decide), if_pos (by decide)]; exact hS.setFromF hW x0 x1
  · rw [if_neg (by decide), if_neg (by decide), if_pos (by decide)]; exact hS.setWillF hW x0 x1
  · rw [if_neg (by decide), if_neg (by decide), if_neg (by decide), if_pos (by decide)]; exact hS.setWallF hW x0 x1 true
  · rw [if_neg (by decide), if_neg (by decide), if_neg (by decide), if_neg (by decide), if_pos (by decide)]; exact hS.addOneF hW x0 x1
  · rw [if_neg (by decide), if_neg (by decide), if_neg (by decide), if_neg (by decide), if_neg (by decide), if_pos (by decide)]; exact hS.setFeudF hW x0 x1 true
/-- numbers that are not told make no difference -/
theorem tI_row {k : Nat} {x0 x1 x2 y0 y1 y2 : Int32} {S : Sv} (h0 : 0 < cn k → x0 = y0) (h1 : 1 < cn k → x1 = y1) (h2 : 2 < cn k → x2 = y2) : tI k x0 x1 x2 S = tI k y0 y1 y2 S := by
  by_cases c0 : k = 0
  · subst c0; exact tI_0.trans tI_0.symm
  have hc : 2 ≤ cn k := by unfold cn; rw [if_neg c0]; split <;> omega
  rw [h0 (by omega), h1 (by omega)]
  by_cases c1 : k = 1
  · subst c1
    rw [h2 (by decide)]
  · exact tI_2 c1
theorem kk_6 {n i : Nat} (h : fit T n i = true) : kk T i ≤ 6 ∧ (n = 0 → kk T i = 0) ∧ (n ≠ 0 → kk T i ≠ 0) := by
  have hk := kk_le T i
  unfold fit at h
  by_cases c : n = 0
  · rw [if_pos c, decide_eq_true_eq] at h
    exact ⟨by omega, fun _ => h, fun z => absurd c z⟩
  · rw [if_neg c, Bool.and_eq_true, decide_eq_true_eq, decide_eq_true_eq] at h
    exact ⟨by omega, fun z => absurd z c, fun _ => h.1⟩
theorem tellToF {N : Nat} (hI : IT L a T N) (h4 : L.1 a 4 = nI N) (hN : N < 24) (hfit : ∀ j, j < N → fit T j (posn T j) = true) (hd : b + 14 ≤ a) : ∃ z, fX5_tellTo a b L = some z ∧ Fr (SD b) L z.2 ∧ ((fnd (gT T) N = none ∧ z.1 = -1 ∧ SC z.2 b (tS T N)) ∨ ∃ n, fnd (gT T) N = some n ∧ z.1 = nI n ∧ n < N) := by
  unfold fX5_tellTo
  obtain ⟨L1, e1, q1, f1⟩ := emptyF L b
  rw [e1, bd_some]
  refine lx_fnd N (fun n t => ∃ L2, t = (nI n, L2) ∧ SC L2 b (tS T n) ∧ Fr (SD b) L L2) (gT T) (fun v z => v < N ∧ z.1 = nI v ∧ Fr (SD b) L z.2) (by rw [FU_20000]; omega) ⟨L1, rfl, q1, f1⟩ ?_ ?_ ?_ ?_
  · rintro n _ hn ⟨L2, rfl, q2, f2⟩
    have fo : ∀ x, a ≤ x → L2.1 x = L.1 x := fun x hx => f2.1 x (by unfold SD; omega)
    obtain ⟨i1, i2⟩ := hI n hn
    obtain ⟨k6, -⟩ := kk_6 (hfit n hn)
    unfold fX5_tellTo_b6
    dsimp only
    have ek : L2.1 (a + 2) (nI n).toNatClampNeg = nI (kk T (posn T n)) := by rw [nI_cl (by omega), fo _ (by omega)]; exact i1
    have ea : a + 3 + 1 + (nI n).toNatClampNeg = a + 4 + n := by rw [nI_cl (by omega)]
    rw [fo a (by omega), h4, if_neg (by rw [nQ_le (by omega) (by omega)]; omega), if_neg (by rw [l24, nQ_le (by omega) (by omega)]; omega), gd_of (vin_nI (by omega) (by omega)), gd_of (vin_nI (by omega) (by omega)), ek, ea]
    obtain ⟨z, e2, v2, q3, f3⟩ := tellItemF q2 (tS_wf T n) k6 (L2.1 (a + 4 + n) (0 : Int32).toNatClampNeg) (L2.1 (a + 4 + n) (1 : Int32).toNatClampNeg) (L2.1 (a + 4 + n) (2 : Int32).toNatClampNeg)
    have er : tI (kk T (posn T n)) (L2.1 (a + 4 + n) (0 : Int32).toNatClampNeg) (L2.1 (a + 4 + n) (1 : Int32).toNatClampNeg) (L2.1 (a + 4 + n) (2 : Int32).toNatClampNeg) (tS T n) = tR T n (tS T n) := tI_row (fun h => by rw [c0q, fo _ (by omega)]; exact i2 0 h) (fun h => by rw [c1q, fo _ (by omega)]; exact i2 1 h) (fun h => by rw [show (2 : Int32).toNatClampNeg = 2 by decide, fo _ (by omega)]; exact i2 2 h)
    rw [er] at v2 q3
    rw [e2, bd_some, v2]
    by_cases c : (-1 : Int32) ≤ (tR T n (tS T n)).1
    · rw [if_pos c, lt_eq, nQ_s]
      exact .inl ⟨gT_t c, _, rfl, z.2, rfl, q3, f2.trans f3⟩
    · rw [if_neg c]
      exact .inr ⟨n, _, gT_f c, rfl, hn, rfl, f2.trans f3⟩
  · rintro _ ⟨L2, rfl, q2, f2⟩
    have fo : ∀ x, a ≤ x → L2.1 x = L.1 x := fun x hx => f2.1 x (by unfold SD; omega)
    unfold fX5_tellTo_b6
    dsimp only
    rw [fo a (by omega), h4, if_pos (by rw [nQ_le (by omega) (by omega)]; omega)]
  · rintro _ ⟨L2, rfl, q2, f2⟩ hn
    exact ⟨_, rfl, f2, .inl ⟨hn, rfl, q2⟩⟩
  · rintro n z hn ⟨z0, z1, zf⟩
    exact ⟨_, rfl, zf, .inr ⟨n, hn, z1, z0⟩⟩
/-- the reference does an item -/
def DJ (f : Option (Int32 × HL)) (L : HL) (m : Nat) (r : Int32 × Sv) : Prop := ∃ z, f = some z ∧ ((-1 : Int32) ≤ z.1 ↔ (-1 : Int32) ≤ r.1) ∧ Fr (· = m + 1) L z.2 ∧ ((-1 : Int32) ≤ r.1 → RC z.2 (m + 1) r.2 ∧ z.2.1 (m + 1) 3 = 0)
theorem DJ.of {f : Option (Int32 × HL)} {bad : Int32} {r : Int32 × Sv} (hb : bad = -2 ∨ bad = -10) (h : DoJ f L m bad r) : DJ f L m r := by
  obtain ⟨z, e, v, q, fr, h3, -⟩ := h
  refine ⟨z, e, ?_, fr, fun hr => ⟨q, h3 (by have := Int32.le_iff_toInt_le.mp hr; rwa [tl_m1] at this)⟩⟩
  rw [v]
  by_cases c : r.1 = -2
  · rw [if_pos c, c]
    rcases hb with rfl | rfl <;> decide
  · rw [if_neg c]
theorem doItemF (hR : RC L (m + 1) S) (hW : WF S) {k n : Nat} (hn : n < 24) (hk1 : 1 ≤ k) (hk6 : k ≤ 6) (h0 : L.1 (m + 6) (4 * n) = nI k) : DJ (fX7_doItem m (nI n) L) L m (tI k (L.1 (m + 6) (4 * n + 1)) (L.1 (m + 6) (4 * n + 2)) (L.1 (m + 6) (4 * n + 3)) S) := by
  have r4n : (4 : Int32) * nI n = nI (4 * n) := nQ_mul 4 n
  have e1 : nI (4 * n) + (1 : Int32) = nI (4 * n + 1) := nQ_add _ 1
  have e2 : nI (4 * n) + (2 : Int32) = nI (4 * n + 2) := nQ_add _ 2
  have e3 : nI (4 * n) + (3 : Int32) = nI (4 * n + 3) := nQ_add _ 3
  have rk : L.1 (m + 6) ((4 : Int32) * nI n).toNatClampNeg = nI k := by rw [r4n, nI_cl (by omega)]; exact h0
  unfold fX7_doItem
  simp only [rk, bd_eta]
  simp only [r4n, e1, e2, e3]
  simp only [nI_cl (show 4 * n + 1 < 2147483648 by omega), nI_cl (show 4 * n + 2 < 2147483648 by omega), nI_cl (show 4 * n + 3 < 2147483648 by omega), lt_eq]
  rw [gd_of (vin_nI (by omega) (by omega)), gd_of (vin_nI (by omega) (by omega)), gd_of (vin_nI (by omega) (by omega))]
  rcases (show k = 1 ∨ k = 2 ∨ k = 3 ∨ k = 4 ∨ k = 5 ∨ k = 6 by omega) with rfl | rfl | rfl | rfl | rfl | rfl
  · rw [if_neg (by decide), if_pos (by decide), gd_of (vin_nI (by omega) (by omega))]; exact DJ.of (.inl rfl) (hR.doHouseF hW _ _ _)
  · rw [if_neg (by decide), if_neg (by decide), if_pos (by decide)]; exact DJ.of (.inr rfl) (hR.doFromF hW _ _)
  · rw [if_neg (by decide), if_neg (by decide), if_neg (by decide), if_pos (by decide)]; exact DJ.of (.inl rfl) (hR.doWillF hW _ _)
  · rw [if_neg (by decide), if_neg (by decide), if_neg (by decide), if_neg (by decide), if_pos (by decide)]; exact DJ.of (.inl rfl) (hR.doWallF hW _ _ true)
  · rw [if_neg (by decide), if_neg (by decide), if_neg (by decide), if_neg (by decide), if_neg (by decide), if_pos (by decide)]; exact DJ.of (.inl rfl) (hR.doOneF hW _ _)
  · rw [if_neg (by decide), if_neg (by decide), if_neg (by decide), if_neg (by decide), if_neg (by decide), if_neg (by decide)]; exact DJ.of (.inl rfl) (hR.doFeudF hW _ _ true)
theorem doItem0 {n : Nat} (hn : n < 24) (h0 : L.1 (m + 6) (4 * n) = nI 0) : ∃ L', fX7_doItem m (nI n) L = some (0, L') ∧ RC L' (m + 1) zS ∧ L'.1 (m + 1) 3 = 0 ∧ Fr (· = m + 1) L L' := by
  have r4n : (4 : Int32) * nI n = nI (4 * n) := nQ_mul 4 n
  have e1 : nI (4 * n) + (1 : Int32) = nI (4 * n + 1) := nQ_add _ 1
  have e2 : nI (4 * n) + (2 : Int32) = nI (4 * n + 2) := nQ_add _ 2
  have rk : L.1 (m + 6) ((4 : Int32) * nI n).toNatClampNeg = nI 0 := by rw [r4n, nI_cl (by omega)]; exact h0
  obtain ⟨L1, c1, q1, q3, f1⟩ := cleanF L m
  unfold fX7_doItem
  simp only [rk]
  simp only [r4n, e1, e2, lt_eq]
  rw [gd_of (vin_nI (by omega) (by omega)), gd_of (vin_nI (by omega) (by omega)), gd_of (vin_nI (by omega) (by omega)), if_pos (by decide), c1, bd_some]
  exact ⟨L1, rfl, q1, q3, f1⟩
end TEL
section RDX
variable {L : HL} {m B : Nat} {G : Gv} {T : Nat × (Nat → Nat)}
theorem JI.re (h : JI L m G) {L' : HL} {S' : Sv} {U' : Nat → Uv} (hQ : RQ L' (m + 1) S' U') (e : ∀ a, m + 2 ≤ a → a ≤ m + 5 → L'.1 a = L.1 a) (e4 : L'.1 m 4 = L.1 m 4) (e5 : L'.2 m 5 = L.2 m 5) (e6 : L'.2 m 6 = L.2 m 6) : JI L' m ((G.set_S S').set_U U') := by
  obtain ⟨h1, h2, h3', h4, h5, h6, h7, h8, h9, h10⟩ := h
  refine JI.of hQ (by rw [e _ (by omega) (by omega)]; exact h2) (fun i hi k => ?_) (by rw [e4]; exact h4) (by rw [e _ (by omega) (by omega)]; exact h5) (by rw [e5]; exact h6) (by rw [e6]; exact h7) (by rw [e _ (by omega) (by omega)]; exact h8) (by rw [e _ (by omega) (by omega)]; exact h9) (by rw [e _ (by omega) (by omega)]; exact h10)
  refine (h3' i hi k).frame ?_
  show (fun q => L'.1 (m + 2) (228 * i + q)) = fun q => L.1 (m + 2) (228 * i + q)
  rw [e _ (by omega) (by omega)]
theorem FI.J {L' : HL} (h : FI L L' m) : FrJ m L L' := ⟨fun a ha => h.1 a (by omega) (by omega), h.2.2.1⟩
theorem JI.fi (h : JI L m G) {L' : HL} (f : FI L L' m) : JI L' m G := h.re (h.Q.frame (f.1 _ (by omega) (by omega))) (fun a _ _ => f.1 a (by omega) (by omega)) (f.2.1 4 (by omega)) (f.2.2.2 5 (by omega)) (f.2.2.2 6 (by omega))
theorem KI.text (h : KI L B G) {L' : HL} (hX : XT L' (B + 122) (G.ln, G.by)) (f : Fr (fun x => x = B + 122 ∨ (B + 122 + 2 ≤ x ∧ x < B + 122 + 28)) L L') : KI L' B G ∧ FrK B L L' :=
  ⟨h.frame (fun a _ _ h1 h2 => f.1 a (fun z => by unfold scr at h2; omega)) (by rw [hX.1]; exact h.ln.symm) (by rw [f.2]), f.K fun a g => by omega⟩
/-- the reference tells the items -/
theorem readLF {N : Nat} (h : JI L m G) (hW : WG G) (hJ : JT L m T N) (h14 : L.1 m 14 = nI N) (hN : N < 24) (hN0 : N ≠ 0) (hfit : ∀ j, j < N → fit T j (posn T j) = true) : ∃ z, (bd (fX7_copies (m + 1) 228 (0 : Int32) (m + 7) 228 (0 : Int32) (228 : Int32) L) fun z3 => lx (lp (fun s9 : Int32 × HL => fX7_read_b33 m s9.1 s9.2) FU ((0 : Int32), z3)) (fun v => some v) fun s9 => some ((s9.2.1 m 14), s9.2)) = some z ∧ ((fnd (gT T) N = none ∧ z.1 = nI N ∧ JI z.2 m (G.set_S ((tS T N).set_un 0)) ∧ FrJ m L z.2) ∨ ∃ n, fnd (gT T) N = some n ∧ z.1 = (-1000 : Int32) - nI n ∧ JI z.2 m G ∧ FrJ m L z.2) := by
  obtain ⟨L1, e1, v1, -, f1⟩ := copiesF (L := L) (a0 := m + 1) (n0 := 228) (a2 := m + 7) (n2 := 228) (i := 0) (j := 0) (many := 228) (by omega) (by omega) (by omega) (by omega) (.inl (by omega))
  rw [show fX7_copies (m + 1) 228 0 (m + 7) 228 0 228 L = some L1 from e1, bd_some]
  have v1 : ∀ k, k < 228 → L1.1 (m + 7) k = L.1 (m + 1) k := fun k hk => by have := v1 k hk; rwa [Nat.zero_add] at this
  refine lx_fnd N (fun n t => ∃ L2, t = (nI n, L2) ∧ (n ≠ 0 → RC L2 (m + 1) (tS T n) ∧ L2.1 (m + 1) 3 = 0) ∧ Fr (· = m + 1) L1 L2) (gT T) (fun v z => z.1 = (-1000 : Int32) - nI v ∧ JI z.2 m G ∧ FrJ m L z.2) (by rw [FU_20000]; omega) ⟨L1, rfl, fun z => absurd rfl z, Fr.refl L1⟩ ?_ ?_ ?_ ?_
  · rintro n _ hn ⟨L2, rfl, q2, f2⟩
    have fo : ∀ x, x ≠ m + 1 → x ≠ m + 7 → L2.1 x = L.1 x := fun x h1 h2 => (f2.1 x h1).trans (f1.1 x h2)
    obtain ⟨i1, i2⟩ := hJ n hn
    obtain ⟨k6, k0, kn⟩ := kk_6 (hfit n hn)
    have h0 : L2.1 (m + 6) (4 * n) = nI (kk T (posn T n)) := by rw [fo _ (by omega) (by omega)]; exact i1
    unfold fX7_read_b33
    dsimp only
    rw [fo m (by omega) (by omega), h14, if_neg (by rw [nQ_le (by omega) (by omega)]; omega)]
    by_cases n0 : n = 0
    · rw [k0 n0] at h0
      obtain ⟨L3, e3, q3, q33, f3⟩ := doItem0 (m := m) (n := n) (by omega) h0
      have er : tR T n (tS T n) = (0, tS T n) := by unfold tR; rw [k0 n0]; rfl
      have e0 : tS T n = zS := by rw [n0]; rfl
      rw [e3, bd_some, if_pos (show (-1 : Int32) ≤ 0 by decide), lt_eq, nQ_s]
      refine .inl ⟨gT_t (by rw [er]; show (-1 : Int32) ≤ 0; decide), _, rfl, L3, rfl, fun _ => ⟨?_, q33⟩, f2.trans f3⟩
      rw [tS_s, er]
      show RC L3 (m + 1) (tS T n)
      rw [e0]; exact q3
    · obtain ⟨qR, q3⟩ := q2 n0
      obtain ⟨z, e3, hz, f3, hs⟩ := doItemF qR (tS_wf T n) (n := n) (by omega) (by have := kn n0; omega) k6 h0
      have er : tI (kk T (posn T n)) (L2.1 (m + 6) (4 * n + 1)) (L2.1 (m + 6) (4 * n + 2)) (L2.1 (m + 6) (4 * n + 3)) (tS T n) = tR T n (tS T n) := tI_row (fun h => by rw [fo _ (by omega) (by omega)]; exact i2 0 h) (fun h => by rw [fo _ (by omega) (by omega)]; exact i2 1 h) (fun h => by rw [fo _ (by omega) (by omega)]; exact i2 2 h)
      rw [er] at hz hs
      rw [e3, bd_some]
      by_cases c : (-1 : Int32) ≤ (tR T n (tS T n)).1
      · rw [if_pos (hz.mpr c), lt_eq, nQ_s]
        exact .inl ⟨gT_t c, _, rfl, z.2, rfl, fun _ => hs c, f2.trans f3⟩
      · rw [if_neg (fun y => c (hz.mp y))]
        obtain ⟨L4, e4, v4, -, f4⟩ := copiesF (L := z.2) (a0 := m + 7) (n0 := 228) (a2 := m + 1) (n2 := 228) (i := 0) (j := 0) (many := 228) (by omega) (by omega) (by omega) (by omega) (.inl (by omega))
        rw [show fX7_copies (m + 7) 228 0 (m + 1) 228 0 228 z.2 = some L4 from e4, bd_some]
        have f24 : ∀ x, x ≠ m + 1 → x ≠ m + 7 → L4.1 x = L.1 x := fun x h1 h2 => by rw [f4.1 x h1, f3.1 x h1]; exact fo x h1 h2
        have h2 : L4.2 = L.2 := by rw [f4.2, f3.2, f2.2, f1.2]
        refine .inr ⟨n, _, gT_f c, rfl, rfl, ?_, fun a ha => f24 a (by omega) (by omega), fun a _ => by rw [h2]⟩
        refine h.re (h.Q.copy hW.Q.un fun k hk => ?_) (fun a _ _ => f24 a (by omega) (by omega)) (by rw [f24 m (by omega) (by omega)]) (by rw [h2]) (by rw [h2])
        have := v4 k hk
        rw [Nat.zero_add] at this
        rw [this, f3.1 _ (by omega), f2.1 _ (by omega)]; exact v1 k hk
  · rintro _ ⟨L2, rfl, q2, f2⟩
    unfold fX7_read_b33
    dsimp only
    rw [f2.1 m (by omega), f1.1 m (by omega), h14, if_pos (by rw [nQ_le (by omega) (by omega)]; omega)]
  · rintro _ ⟨L2, rfl, q2, f2⟩ hn
    obtain ⟨qR, q3⟩ := q2 hN0
    have fo : ∀ x, x ≠ m + 1 → x ≠ m + 7 → L2.1 x = L.1 x := fun x h1 h2 => (f2.1 x h1).trans (f1.1 x h2)
    have h2 : L2.2 = L.2 := by rw [f2.2, f1.2]
    refine ⟨_, rfl, .inl ⟨hn, by rw [fo m (by omega) (by omega)]; exact h14, ?_, fun a ha => fo a (by omega) (by omega), fun a _ => by rw [h2]⟩⟩
    exact h.re (U' := G.U) (RQ.of (qR.un0 0) (by rw [q3]; rfl) (fun i hi => absurd hi (Nat.not_lt_zero i))) (fun a _ _ => fo a (by omega) (by omega)) (by rw [fo m (by omega) (by omega)]) (by rw [h2]) (by rw [h2])
  · rintro n z hn ⟨z1, z2, zf⟩
    exact ⟨_, rfl, .inr ⟨n, hn, z1, z2, zf⟩⟩
end RDX
theorem ag_read (B : Nat) : Agree B (fX6_read B) (fX7_read (B + 178)) := fun G hW => by
  have hT : WT (G.ln, G.by) := ⟨hW.ln, hW.by⟩
  have kX : ∀ L, KI L B G → XT L (B + 122) (G.ln, G.by) := fun L h => ⟨h.ln, h.by⟩
  have jX : ∀ L, JI L (B + 178) G → XJ L (B + 178) (G.ln, G.by) := fun L h => ⟨h.ln, h.by⟩
  cases hv : fnd (gP (G.ln, G.by)) 24 with
  | none =>
    refine ⟨0, G, fun L h => ?_, fun L h => ?_, hW⟩
    · obtain ⟨v, z, e, -⟩ := parseF (kX L h) hT
      rw [hv] at e; cases e
    · obtain ⟨v, z, e, -⟩ := readsF (jX L h) hT
      rw [hv] at e; cases e
  | some v =>
    rcases v with ⟨_ | f, N⟩
    · obtain ⟨hN0, hfit⟩ := gP_ok hv
      have key : ∀ (r : Int32) (G' : Gv), ((fnd (gT (G.ln, G.by)) N = none ∧ r = nI N ∧ G' = G.set_S ((tS (G.ln, G.by) N).set_un 0)) ∨ ∃ n, fnd (gT (G.ln, G.by)) N = some n ∧ r = (-1000 : Int32) - nI n ∧ G' = G) → WG G' → ∃ r G', OpK (fX6_read B) B G r G' ∧ OpJ (fX7_read (B + 178)) (B + 178) G r G' ∧ WG G' := by
        intro r G' hr hW'
        refine ⟨r, G', fun L h => ?_, fun L h => ?_, hW'⟩
        · unfold fX6_read
          obtain ⟨v, z, e, ep, hx, hX1, f1⟩ := parseF (kX L h) hT
          rw [hv] at e
          cases e
          obtain ⟨z1, hN, h4, hI⟩ := hx
          obtain ⟨k1, g1⟩ := h.text hX1 f1
          obtain ⟨y, e2, f2, hy⟩ := tellToF (a := B + 122) (b := B + 15) hI h4 hN hfit (by omega)
          obtain ⟨k2, g2⟩ := k1.scrF f2 (fun a e => by unfold SD at e; unfold scr; omega)
          rw [ep, bd_some, if_pos z1, e2, bd_some]
          rcases hy with ⟨hn, y1, q2⟩ | ⟨n, hn, y1, hnN⟩
          · rcases hr with ⟨-, rfl, rfl⟩ | ⟨n', hn', -⟩
            · obtain ⟨L3, e3, q3, f3⟩ := q2.takeFromF (a0 := B + 1) (tS_wf _ N) (.inl (by omega))
              rw [if_pos y1, e3, bd_some, forgetF, bd_some]
              have f3' : Fr (SD (B + 1)) y.2 L3 := f3.mono fun a h => by unfold SD; omega
              refine ⟨_, rfl, ?_, k2.forget q3 f3', (g1.trans g2).trans ((f3.K (B := B) fun a g => by omega).trans ((((Fr.refl (A := (· = B + 29)) L3).wI rfl _ _).wI rfl _ _).K fun a g => by omega))⟩
              show (wI (wI L3 (B + 29) 0 0) (B + 29) 1 0).1 (B + 122) 4 = nI N
              rw [wQ_ne (by omega), wQ_ne (by omega), f3.1 _ (by omega), f2.1 _ (by unfold SD; omega)]; exact h4
            · rw [hn] at hn'; cases hn'
          · rcases hr with ⟨hn', -⟩ | ⟨n', hn', rfl, rfl⟩
            · rw [hn] at hn'; cases hn'
            · rw [hn] at hn'
              cases hn'
              rw [if_neg (by rw [y1, nI_ne_neg' (by omega)]; exact not_false), y1]
              exact ⟨_, rfl, rfl, k2, g1.trans g2⟩
        · unfold fX7_read
          obtain ⟨v, z, e, ep, hy, f1⟩ := readsF (jX L h) hT
          rw [hv] at e
          cases e
          obtain ⟨z1, hN, h14, hJ⟩ := hy
          have j1 := h.fi f1
          obtain ⟨y, e2, hy⟩ := readLF j1 hW hJ h14 hN hN0 hfit
          rw [ep, bd_some, if_pos z1]
          rcases hy with ⟨hn, y1, q2, g2⟩ | ⟨n, hn, y1, q2, g2⟩
          · rcases hr with ⟨-, rfl, rfl⟩ | ⟨n', hn', -⟩
            · exact ⟨y, e2, y1, q2, f1.J.trans g2⟩
            · rw [hn] at hn'; cases hn'
          · rcases hr with ⟨hn', -⟩ | ⟨n', hn', rfl, rfl⟩
            · rw [hn] at hn'; cases hn'
            · rw [hn] at hn'
              cases hn'
              exact ⟨y, e2, y1, q2, f1.J.trans g2⟩
      cases hn : fnd (gT (G.ln, G.by)) N with
      | none => exact key _ _ (.inl ⟨hn, rfl, rfl⟩) (WG.of (WQ.of ((tS_wf _ N).un0 0) (Nat.zero_le _) (fun i hi => absurd hi (Nat.not_lt_zero i))) hW.I hW.ln hW.by)
      | some n => exact key _ _ (.inr ⟨n, hn, rfl, rfl⟩) hW
    · refine ⟨(-10 : Int32) - nI f, G, fun L h => ?_, fun L h => ?_, hW⟩
      · unfold fX6_read
        obtain ⟨v, z, e, ep, hx, hX1, f1⟩ := parseF (kX L h) hT
        rw [hv] at e
        cases e
        obtain ⟨z1, hf⟩ := hx
        rw [ep, bd_some, if_neg (by rw [z1, nI_ne_neg' (by omega)]; exact not_false), z1]
        exact ⟨_, rfl, rfl, h.text hX1 f1⟩
      · unfold fX7_read
        obtain ⟨v, z, e, ep, hy, f1⟩ := readsF (jX L h) hT
        rw [hv] at e
        cases e
        have z1 : z.1 = nI f := hy
        have hf := gP_le (T := (G.ln, G.by)) hv
        have h15 : G.ln ≤ 150 := hW.ln
        have hf : f ≤ G.ln := hf
        rw [ep, bd_some, if_neg (by rw [z1, nI_ne_neg' (by omega)]; exact not_false), z1]
        exact ⟨_, rfl, rfl, h.fi f1, f1.J⟩
