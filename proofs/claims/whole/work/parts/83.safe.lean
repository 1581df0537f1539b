/-! ===== who never sleeps out ===== -/
def nvb (tb' : Bool) (v : Bool) (h : Nat) : Option Nat := if tb' && !v then some h else none
def nv (p : Nat) : Nat → Nat → Sv → Bool
  | 0, _, S => !decide (S.wh p = -1)
  | k + 1, s, S => !decide (S.wh p = -1) && (decide (k = 0) || (fnd (fun h => nvb (tb s h) (nv p k (s - 2 ^ h) (fallS S h)) h) 5).isNone)
theorem fnd_no {γ : Type} {g : Nat → Option γ} : ∀ n, fnd g n = none ↔ ∀ i, i < n → g i = none
  | 0 => ⟨fun _ i hi => by omega, fun _ => rfl⟩
  | n + 1 => by
    have ih := fnd_no (g := g) n
    show (fnd g n).or (g n) = none ↔ _
    constructor
    · intro h i hi
      have h1 : fnd g n = none := by
        cases e : fnd g n with
        | none => rfl
        | some v => rw [e] at h; cases h
      rw [h1] at h
      by_cases e : i = n
      · subst e; exact h
      · exact ih.mp h1 i (by omega)
    · intro h
      rw [ih.mpr (fun i hi => h i (by omega)), h n (by omega)]; rfl
theorem nvb_no {t v : Bool} {h : Nat} : nvb t v h = none ↔ (t = true → v = true) := by
  unfold nvb; cases t <;> cases v <;> simp
theorem nv_s {p k s : Nat} {S : Sv} : nv p (k + 1) s S = true ↔ S.wh p ≠ -1 ∧ (k = 0 ∨ ∀ h, h < 5 → tb s h = true → nv p k (s - 2 ^ h) (fallS S h) = true) := by
  show (!decide (S.wh p = -1) && (decide (k = 0) || (fnd (fun h => nvb (tb s h) (nv p k (s - 2 ^ h) (fallS S h)) h) 5).isNone)) = true ↔ _
  rw [Bool.and_eq_true, Bool.or_eq_true, Option.isNone_iff_eq_none, fnd_no, Bool.not_eq_true', decide_eq_false_iff_not, decide_eq_true_eq]
  constructor
  · rintro ⟨h1, h2 | h2⟩
    · exact ⟨h1, .inl h2⟩
    · exact ⟨h1, .inr fun h hh => nvb_no.mp (h2 h hh)⟩
  · rintro ⟨h1, h2 | h2⟩
    · exact ⟨h1, .inl h2⟩
    · exact ⟨h1, .inr fun h hh => nvb_no.mpr (h2 h hh)⟩
theorem out_s {S : Sv} {p x : Nat} (hx : x < 2147483648) (h : S.wh p = -1) : (fallS S x).wh p = -1 := by
  show (if p < S.P ∧ S.wh p = nI x then hr S (S.wl x) x else S.wh p) = -1
  rw [if_neg (by rw [h, nI_ne_neg hx]; exact fun z => z.2), h]
theorem out_it {S : Sv} {p : Nat} {d : Nat → Nat} (hd : ∀ j, d j < 5) (h : S.wh p = -1) : ∀ j, (itS S d j).wh p = -1
  | 0 => h
  | j + 1 => out_s (Nat.lt_trans (hd j) (by omega)) (out_it hd h j)
theorem some_bit : ∀ s, s < 32 → ¬ pcn s = 0 → ∃ d, d < 5 ∧ tb s d = true := by decide +kernel
theorem div_q {i c k : Nat} (hc : c < 5 ^ k) : (i * 5 ^ k + c) / 5 ^ k = i ∧ (i * 5 ^ k + c) % 5 ^ k = c := by
  have hp : 0 < 5 ^ k := Nat.pow_pos (by omega)
  exact ⟨by rw [Nat.mul_comm, Nat.mul_add_div hp, Nat.div_eq_of_lt hc, Nat.add_zero], by rw [Nat.mul_comm, Nat.mul_add_mod, Nat.mod_eq_of_lt hc]⟩
theorem vn_q {k s i c : Nat} (hc : c < 5 ^ k) : vn (k + 1) s (i * 5 ^ k + c) = (tb s i && vn k (s - 2 ^ i) c) := by
  obtain ⟨e1, e2⟩ := div_q (i := i) hc
  show (tb s ((i * 5 ^ k + c) / 5 ^ k) && vn k (s - 2 ^ ((i * 5 ^ k + c) / 5 ^ k)) ((i * 5 ^ k + c) % 5 ^ k)) = _
  rw [e1, e2]
theorem q_lt {k i c : Nat} (hi : i < 5) (hc : c < 5 ^ k) : i * 5 ^ k + c < 5 ^ (k + 1) := by
  have : i * 5 ^ k ≤ 4 * 5 ^ k := Nat.mul_le_mul_right _ (by omega)
  rw [Nat.pow_succ]; omega
theorem vn_ex : ∀ k s, s < 32 → pcn s = k → ∃ c, c < 5 ^ k ∧ vn k s c = true
  | 0, s, hs, hk => by
    have := pcn_0 s hs hk
    subst this
    exact ⟨0, by decide, rfl⟩
  | k + 1, s, hs, hk => by
    obtain ⟨d, hd, e⟩ := some_bit s hs (by omega)
    have h2 := sub_c s hs d hd e
    obtain ⟨c, hc, hv⟩ := vn_ex k (s - 2 ^ d) (Nat.lt_of_le_of_lt (Nat.sub_le _ _) hs) (by omega)
    exact ⟨d * 5 ^ k + c, q_lt hd hc, by rw [vn_q hc, e, hv]; rfl⟩
theorem nv_iff {p : Nat} : ∀ k s S, s < 32 → pcn s = k + 1 → (nv p (k + 1) s S = true ↔ ∀ c, c < 5 ^ (k + 1) → vn (k + 1) s c = true → (itS S (dig (k + 1) c) k).wh p ≠ -1)
  | 0, s, S, hs, hk => by
    rw [nv_s]
    constructor
    · rintro ⟨h, -⟩ c _ _; exact h
    · intro h
      obtain ⟨c, hc, hv⟩ := vn_ex 1 s hs hk
      exact ⟨h c hc hv, .inl rfl⟩
  | k + 1, s, S, hs, hk => by
    rw [nv_s]
    constructor
    · rintro ⟨h1, h2⟩ c hc hv
      have h2 := h2.resolve_left (by omega)
      have hd := top_lt hc
      have hv : (tb s (c / 5 ^ (k + 1)) && vn (k + 1) (s - 2 ^ (c / 5 ^ (k + 1))) (c % 5 ^ (k + 1))) = true := hv
      rw [Bool.and_eq_true] at hv
      have hs2 := sub_c s hs _ hd hv.1
      rw [itS_k hc (by omega)]
      exact (nv_iff k _ _ (Nat.lt_of_le_of_lt (Nat.sub_le _ _) hs) (by omega)).mp (h2 _ hd hv.1) _ (low_lt c (k + 1)) hv.2
    · intro h
      refine ⟨fun e => ?_, .inr fun d hd ht => ?_⟩
      · obtain ⟨c, hc, hv⟩ := vn_ex (k + 2) s hs hk
        exact h c hc hv (out_it (dig_lt _ _) e _)
      · have hs2 := sub_c s hs d hd ht
        refine (nv_iff k _ _ (Nat.lt_of_le_of_lt (Nat.sub_le _ _) hs) (by omega)).mpr fun c hc hv => ?_
        have := h (d * 5 ^ (k + 1) + c) (q_lt hd hc) (by rw [vn_q hc, ht, hv]; rfl)
        rw [itS_k (q_lt hd hc) (by omega), (div_q hc).1, (div_q hc).2] at this
        exact this
theorem neverF {p a : Nat} : ∀ (k fu : Nat), k < fu → ∀ (L : HL) (S : Sv) (s d : Nat), SC L (a + 1) S → WF S → s < 32 → pcn s = k → (∀ h, h < 5 → tb s h = true → S.st h = true) → d + k ≤ 5 → p < S.P → (nv p k s S = true ∧ ∃ L', fX2_neverOut fu a (nI d) (nI s) (nI p) L = some (1, L') ∧ SC L' (a + 1) S ∧ (∀ j, j < d → L'.1 (a + 15) j = L.1 (a + 15) j) ∧ (∀ j, j < d → L'.1 (a + 17 + j) = L.1 (a + 17 + j)) ∧ Fr (fun x => a ≤ x ∧ x < a + 24) L L') ∨ (nv p k s S = false ∧ ∃ L', fX2_neverOut fu a (nI d) (nI s) (nI p) L = some (0, L') ∧ Fr (fun x => a ≤ x ∧ x < a + 24) L L') := by
  intro k
  induction k with
  | zero =>
    intro fu hfu L S s d hS hW hs hk hst hdn hp
    obtain ⟨fu, rfl⟩ : ∃ q, fu = q + 1 := ⟨fu - 1, by omega⟩
    have h6 := hW.P6
    show (nv p 0 s S = true ∧ ∃ L', fX2_neverOut_s (fX2_neverOut fu) a (nI d) (nI s) (nI p) L = some (1, L') ∧ _) ∨ (nv p 0 s S = false ∧ ∃ L', fX2_neverOut_s (fX2_neverOut fu) a (nI d) (nI s) (nI p) L = some (0, L') ∧ _)
    unfold fX2_neverOut_s
    have ew : L.1 (a + 1 + 9) (nI p).toNatClampNeg = S.wh p := by rw [nI_cl (by omega)]; exact hS.wh p hp
    rw [gd_of (vin_nI (by omega) (by omega)), ew]
    by_cases c : S.wh p = -1
    · refine .inr ⟨by show (!decide (S.wh p = -1)) = false; rw [decide_eq_true c]; rfl, L, ?_, Fr.refl L⟩
      rw [if_pos c]
    · refine .inl ⟨by show (!decide (S.wh p = -1)) = true; rw [decide_eq_false c]; rfl, L, ?_, hS, fun j hj => rfl, fun j hj => rfl, Fr.refl L⟩
      rw [if_neg c, bitCount_c s (by omega), bd_some, hk, if_pos (by decide)]
  | succ k ih =>
    intro fu hfu L S s d hS hW hs hk hst hdn hp
    obtain ⟨fu, rfl⟩ : ∃ q, fu = q + 1 := ⟨fu - 1, by omega⟩
    have h6 := hW.P6
    show (nv p (k + 1) s S = true ∧ ∃ L', fX2_neverOut_s (fX2_neverOut fu) a (nI d) (nI s) (nI p) L = some (1, L') ∧ _) ∨ (nv p (k + 1) s S = false ∧ ∃ L', fX2_neverOut_s (fX2_neverOut fu) a (nI d) (nI s) (nI p) L = some (0, L') ∧ _)
    unfold fX2_neverOut_s
    have ew : L.1 (a + 1 + 9) (nI p).toNatClampNeg = S.wh p := by rw [nI_cl (by omega)]; exact hS.wh p hp
    rw [gd_of (vin_nI (by omega) (by omega)), ew]
    by_cases c : S.wh p = -1
    · refine .inr ⟨?_, L, ?_, Fr.refl L⟩
      · cases e : nv p (k + 1) s S
        · rfl
        · exact absurd c (nv_s.mp e).1
      · rw [if_pos c]
    rw [if_neg c, bitCount_c s (by omega), bd_some, hk]
    by_cases k0 : k = 0
    · refine .inl ⟨nv_s.mpr ⟨c, .inl k0⟩, L, ?_, hS, fun j hj => rfl, fun j hj => rfl, Fr.refl L⟩
      rw [if_pos (by rw [l1, nQ_le (by omega) (by omega)]; omega)]
    rw [if_neg (by rw [l1, nQ_le (by omega) (by omega)]; omega), if_pos (by rw [l5, nQ_lt (by omega) (by omega)]; omega)]
    obtain ⟨L1, q1, kp1, kp2, kp3, kf⟩ := keepdF L a (d := d) (by omega)
    rw [q1, bd_some]
    have hS1 : SC L1 (a + 1) S := hS.frame fun x _ _ => kf.1 x (by omega)
    have lpr := lp_fnd (f := fun s15 : Int32 × HL => fX2_neverOut_b38 (fX2_neverOut fu) a (nI d) (nI s) (nI p) s15.1 s15.2) (s0 := ((0 : Int32), L1)) 5 (fun i t => ∃ L2, t = (nI i, L2) ∧ SC L2 (a + 1) S ∧ (∀ j, j < d → L2.1 (a + 15) j = L.1 (a + 15) j) ∧ (∀ j, j < d → L2.1 (a + 17 + j) = L.1 (a + 17 + j)) ∧ L2.1 (a + 15) d = nI (mask S.st 5) ∧ (∀ q, q < S.P → L2.1 (a + 17 + d) q = S.wh q) ∧ Fr (fun x => a ≤ x ∧ x < a + 24) L L2) (fun h => nvb (tb s h) (nv p k (s - 2 ^ h) (fallS S h)) h) (fun _ z => z.1 = 0 ∧ Fr (fun x => a ≤ x ∧ x < a + 24) L z.2) (by decide) ⟨L1, rfl, hS1, fun j hj => kp2 j (by omega), fun j hj => kf.1 _ (by omega), by rw [kp1]; exact hS.st, fun q hq => by rw [kp3 q (by omega)]; exact hS.wh q hq, kf.mono fun x h => by omega⟩ (by
      rintro i _ hi ⟨L2, rfl, r1, r5, r6, r7, r8, rf⟩
      unfold fX2_neverOut_b38
      dsimp only
      rw [if_neg (by rw [l5, nQ_le (by omega) (by omega)]; omega)]
      cases cb : tb s i
      · rw [if_neg (by rw [bit_n (by omega) (by omega), cb]; decide), lt_eq, nQ_s]
        exact .inl ⟨rfl, _, rfl, L2, rfl, r1, r5, r6, r7, r8, rf⟩
      rw [if_pos (by rw [bit_n (by omega) (by omega), cb])]
      have sti := hst i hi cb
      obtain ⟨z3, e3, -, q3, f3⟩ := r1.letFallF hW (x := i) hi sti
      have hs2 := sub_c s hs i hi cb
      have w3 : ∀ x, a + 15 ≤ x → z3.2.1 x = L2.1 x := fun x h1 => f3.1 x (by unfold SB; omega)
      have rcu := ih fu (by omega) z3.2 (fallS S i) (s - 2 ^ i) (d + 1) q3 (fallS_wf hW i) (Nat.lt_of_le_of_lt (Nat.sub_le _ _) hs) (by omega) (fun h hh e => by
        rw [tb_sub s hs i hi cb h hh, Bool.and_eq_true] at e
        show (S.st h && !(h == i)) = true
        rw [hst h hh e.1, e.2]; rfl) (by omega) hp
      rw [e3, bd_some, nQ_s, andn_c s hs i hi cb]
      rcases rcu with ⟨en, L4, e4, t1, t5, t6, tf⟩ | ⟨en, L4, e4, tf⟩
      · obtain ⟨L5, e5', u1, u2, u3, uf⟩ := backdF L4 a (d := d) (by omega)
        have k15 : L4.1 (a + 15) d = nI (mask S.st 5) := by rw [t5 d (by omega), w3 _ (by omega)]; exact r7
        have k17 : ∀ q, q < S.P → L4.1 (a + 17 + d) q = S.wh q := fun q hq => by rw [t6 d (by omega), w3 _ (by omega)]; exact r8 q hq
        rw [e4, bd_some, if_neg (show ¬ (1 : Int32) = 0 by decide), e5', bd_some, lt_eq, nQ_s, en]
        refine .inl ⟨rfl, _, rfl, L5, rfl, SC.backd (d := d) t1 (by rw [u1]; exact k15) u2 (fun q hq => by rw [u3 q (by omega)]; exact k17 q hq) uf, ?_, ?_, ?_, ?_, ?_⟩
        · intro j hj; rw [uf.1 _ (by omega), t5 j (by omega), w3 _ (by omega)]; exact r5 j hj
        · intro j hj; rw [uf.1 _ (by omega), t6 j (by omega), w3 _ (by omega)]; exact r6 j hj
        · rw [uf.1 _ (by omega)]; exact k15
        · intro q hq; rw [uf.1 _ (by omega)]; exact k17 q hq
        · exact ((rf.trans (f3.mono fun x h => by unfold SB at h; omega)).trans tf).trans (uf.mono fun x h => by omega)
      · rw [e4, bd_some, if_pos (show (0 : Int32) = 0 from rfl), en]
        exact .inr ⟨i, _, rfl, rfl, rfl, (rf.trans (f3.mono fun x h => by unfold SB at h; omega)).trans tf⟩) (by
      rintro _ ⟨L2, rfl, -⟩
      rfl)
    rcases lpr with ⟨t, e, ⟨L2, rfl, r1, r5, r6, r7, r8, rf⟩, hn⟩ | ⟨v, z, e, hv, hz, hf⟩
    · refine .inl ⟨?_, L2, ?_, r1, r5, r6, rf⟩
      · show (!decide (S.wh p = -1) && (decide (k = 0) || (fnd (fun h => nvb (tb s h) (nv p k (s - 2 ^ h) (fallS S h)) h) 5).isNone)) = true
        rw [hn, decide_eq_false c]; simp
      · rw [e, lx_inl]
    · refine .inr ⟨?_, z.2, ?_, hf⟩
      · show (!decide (S.wh p = -1) && (decide (k = 0) || (fnd (fun h => nvb (tb s h) (nv p k (s - 2 ^ h) (fallS S h)) h) 5).isNone)) = false
        rw [hv, decide_eq_false c, decide_eq_false k0]; rfl
      · rw [e, lx_inr, ← hz]
