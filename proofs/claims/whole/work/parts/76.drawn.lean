/-! ===== years by a seed ===== -/
def jI (z : Int) : Int64 := Int64.ofInt z
theorem jI_toInt {z : Int} (h1 : -9223372036854775808 ≤ z) (h2 : z < 9223372036854775808) : (jI z).toInt = z := Int64.toInt_ofInt_of_le h1 h2
theorem jI_add (a b : Int) : jI a + jI b = jI (a + b) := (Int64.ofInt_add a b).symm
theorem jI_sub (a b : Int) : jI a - jI b = jI (a - b) := (Int64.ofInt_sub a b).symm
theorem jI_mul (a b : Int) : jI a * jI b = jI (a * b) := (Int64.ofInt_mul a b).symm
theorem jI_div {a b : Int} (ha : 0 ≤ a) (ha' : a < 9223372036854775808) (hb : 0 ≤ b) (hb' : b < 9223372036854775808) : jI a / jI b = jI (a / b) := by
  have e1 : Int64.minValue.toInt = -9223372036854775808 := by decide
  have e2 : Int64.maxValue.toInt = 9223372036854775807 := by decide
  have := Int64.ofInt_tdiv (a := a) (b := b) (by omega) (by omega) (by omega) (by omega)
  rw [Int.tdiv_eq_ediv_of_nonneg ha] at this
  exact this.symm
theorem nI_long {n : Nat} (h : n < 2147483648) : (nI n).toInt64 = jI n := by
  apply Int64.toInt_inj.mp
  rw [Int32.toInt_toInt64, nI_toI h, jI_toInt (by omega) (by omega)]
theorem jI_int (z : Int) : (jI z).toInt32 = iI z := Int64.toInt32_ofInt
theorem k1103 : (1103515245 : Int64) = jI 1103515245 := by decide
theorem k12345 : (12345 : Int64) = jI 12345 := by decide
theorem k2147 : (2147483648 : Int64) = jI 2147483648 := by decide
theorem k65536 : (65536 : Int64) = jI 65536 := by decide
def nx (z : Nat) : Nat := (z * 1103515245 + 12345) % 2147483648
theorem nx_lt (z : Nat) : nx z < 2147483648 := Nat.mod_lt _ (by omega)
theorem nxF {z : Nat} (h : z < 2147483648) : ((jI z * (1103515245 : Int64)) + (12345 : Int64)) - ((jI z * (1103515245 : Int64)) + (12345 : Int64)) / (2147483648 : Int64) * (2147483648 : Int64) = jI (nx z) := by
  rw [k1103, k12345, k2147, jI_mul, jI_add, jI_div (by omega) (by omega) (by omega) (by omega), jI_mul, jI_sub]
  refine congrArg jI ?_
  unfold nx
  omega
theorem drF {z c : Nat} (h : z < 2147483648) (hc : 1 ≤ c) (hc' : c ≤ 5) : ((jI z / (65536 : Int64)) - (jI z / (65536 : Int64)) / (nI c).toInt64 * (nI c).toInt64).toInt32 = nI (z / 65536 % c) := by
  rw [k65536, nI_long (by omega), jI_div (by omega) (by omega) (by omega) (by omega), jI_div (by omega) (by omega) (by omega) (by omega), jI_mul, jI_sub, jI_int, ← iI_nat]
  refine congrArg iI ?_
  rcases (show c = 1 ∨ c = 2 ∨ c = 3 ∨ c = 4 ∨ c = 5 by omega) with rfl | rfl | rfl | rfl | rfl <;> omega
theorem nI_long0 {c : Nat} (hc : 1 ≤ c) (hc' : c ≤ 5) : ¬ (nI c).toInt64 = 0 := by
  rw [nI_long (by omega), ← Int64.toInt_inj, jI_toInt (by omega) (by omega)]
  show ¬ (c : Int) = 0
  omega
theorem ct_s (p : Nat → Bool) (n : Nat) : ct p (n + 1) = ct p n + if p n then 1 else 0 := rfl
theorem ct_mono (p : Nat → Bool) {i : Nat} : ∀ d, ct p i ≤ ct p (i + d)
  | 0 => Nat.le_refl _
  | d + 1 => by
    have := ct_mono p (i := i) d
    rw [← Nat.add_assoc, ct_s]
    split <;> omega
theorem ct_zero {p : Nat → Bool} {n : Nat} (h : ct p n = 0) : ∀ i, i < n → p i = false := by
  intro i hi
  cases c : p i
  · rfl
  · have h1 : ct p (i + 1) = ct p i + 1 := by rw [ct_s, c]; rfl
    have h2 := ct_mono p (i := i + 1) (n - (i + 1))
    rw [show i + 1 + (n - (i + 1)) = n by omega] at h2
    omega
def nth (p : Nat → Bool) (n : Nat) : Nat → Nat
  | 0 => 0
  | m + 1 => if p m && decide (ct p m = n) then m else nth p n m
theorem nth_of {p : Nat → Bool} {n : Nat} : ∀ {m}, n < ct p m → nth p n m < m ∧ p (nth p n m) = true ∧ ct p (nth p n m) = n := by
  intro m
  induction m with
  | zero => intro h; exact absurd h (Nat.not_lt_zero _)
  | succ m ih =>
    intro h
    rw [ct_s] at h
    unfold nth
    by_cases c : (p m && decide (ct p m = n)) = true
    · rw [if_pos c]
      rw [Bool.and_eq_true, decide_eq_true_eq] at c
      exact ⟨by omega, c.1, c.2⟩
    · rw [if_neg c]
      have : n < ct p m := by
        rw [Bool.and_eq_true, decide_eq_true_eq] at c
        by_cases e : p m = true
        · rw [if_pos e] at h
          have : ¬ ct p m = n := fun z => c ⟨e, z⟩
          omega
        · rw [if_neg e] at h; omega
      obtain ⟨h1, h2, h3⟩ := ih this
      exact ⟨by omega, h2, h3⟩
/-- ahead of the house that is meant all are fewer -/
theorem nth_lt {p : Nat → Bool} {i h n : Nat} (hi : i < h) (hp : p i = true) (hn : ct p h = n) : ct p i < n := by
  have h1 : ct p (i + 1) = ct p i + 1 := by rw [ct_s, hp]; rfl
  have h2 := ct_mono p (i := i + 1) (h - (i + 1))
  rw [show i + 1 + (h - (i + 1)) = h by omega] at h2
  omega
theorem nth_le {p : Nat → Bool} {i h n : Nat} (hi : i ≤ h) (hn : ct p h = n) : ct p i ≤ n := by
  have h2 := ct_mono p (i := i) (h - i)
  rw [show i + (h - i) = h by omega] at h2
  omega
theorem lx_brk {σ α β : Type} {f : σ → Option (σ ⊕ (σ ⊕ α))} {s0 : σ} {kr : α → Option β} {k : σ → Option β} {P : β → Prop} (N : Nat) (I : Nat → σ → Prop) (Q : σ → Prop) (hN : N < FU) (h0 : I 0 s0) (h : ∀ i s, i < N → I i s → (∃ s', f s = some (.inl s') ∧ I (i + 1) s') ∨ (f s = some (.inr (.inl s)) ∧ Q s)) (hend : ∀ s, I N s → f s = some (.inr (.inl s)) ∧ Q s) (hk : ∀ s, Q s → ∃ x, k s = some x ∧ P x) : ∃ x, lx (lp f FU s0) kr k = some x ∧ P x := by
  obtain ⟨x, h1, s, h2, h3⟩ : ∃ x, lp f FU s0 = some x ∧ ∃ s, x = .inl s ∧ Q s :=
    Ok.lp I N (fun i s hi e => by
      by_cases g : i < N
      · rcases h i s g e with ⟨s', e1, e2⟩ | ⟨e1, e2⟩
        · rw [e1]; exact Ok.inl ⟨g, e2⟩
        · rw [e1]; exact Ok.inr ⟨s, rfl, e2⟩
      · have : i = N := by omega
        subst this
        obtain ⟨e1, e2⟩ := hend s e
        rw [e1]; exact Ok.inr ⟨s, rfl, e2⟩) FU 0 _ (Nat.zero_le _) (by omega) h0
  subst h2
  rw [h1]
  exact hk s h3
section DRW
variable {L : HL} {b m B : Nat} {S : Sv}
theorem SC.nthStandingF (hS : SC L b S) (hW : WF S) {n : Nat} (hn : n < ct S.st 5) : fX4_nthStanding b (nI n) L = some (nI (nth S.st n 5)) := by
  have h5 := hW.H5
  have hn5 := ct_le S.st 5
  obtain ⟨h1, h2, h3⟩ := nth_of hn
  generalize nth S.st n 5 = x at *
  have hx := hW.st x h2
  unfold fX4_nthStanding
  refine (lx_out x (fun i => (nI (ct S.st i), nI i)) (v := nI x) rfl (by rw [FU_20000]; omega) ?_ ?_).trans rfl
  · intro i hi
    unfold fX4_nthStanding_b4
    dsimp only
    have hc := ct_le S.st i
    rw [hS.H, if_neg (by rw [nQ_le (by omega) (by omega)]; omega), hS.standsF, bd_some, stI_n S (by omega), ct_s]
    cases c : S.st i
    · rw [if_pos (by decide), lt_eq, nQ_s]; rfl
    · have := nth_lt hi c h3
      rw [if_neg (by decide), if_neg (by rw [nQ_eq (by omega) (by omega)]; omega), lt_eq, lt_eq, nQ_s, nQ_s]; rfl
  · unfold fX4_nthStanding_b4
    dsimp only
    rw [hS.H, if_neg (by rw [nQ_le (by omega) (by omega)]; omega), hS.standsF, bd_some, stI_n S (by omega), h2, if_neg (by decide), h3, if_pos rfl]
theorem RC.seekF (hR : RC L (m + 9) S) {n : Nat} (hn : n < ct S.st 5) (v2 : Int32) (X : Int64) (v5 : Int32) : ∃ s, lp (fun s22 : Int32 × Int32 => fX7_drawn_b94 m v2 X v5 s22.1 s22.2 L) FU (nI n, 0) = some (.inl s) ∧ s.2 = nI (nth S.st n 5) := by
  obtain ⟨h1, h2, h3⟩ := nth_of hn
  generalize nth S.st n 5 = x at *
  have hn5 := ct_le S.st 5
  have rs : ∀ i, i < 5 → L.1 (m + 9) ((29 : Int32) + nI i).toNatClampNeg = bI (S.st i) := fun i hi => by rw [l29, nQ_add, nI_cl (by omega)]; exact hR.st i hi
  have vs : ∀ i, i < 5 → vin ((29 : Int32) + nI i) 92 := fun i hi => by rw [l29, nQ_add]; exact vin_nI (by omega) (by omega)
  refine ⟨(nI (n - ct S.st x), nI x), ?_, rfl⟩
  have h0 : ((nI n, 0) : Int32 × Int32) = (nI (n - ct S.st 0), nI 0) := rfl
  rw [h0]
  refine lp_for x (fun i => (nI (n - ct S.st i), nI i)) (by rw [FU_20000]; omega) ?_ ?_
  · intro i hi
    unfold fX7_drawn_b94 fX7_drawn_j112
    dsimp only
    have hle := nth_le (p := S.st) (Nat.le_of_lt hi) h3
    rw [gd_of (vs i (by omega)), rs i (by omega), gd_of (vs i (by omega)), ct_s]
    cases c : S.st i
    · rw [if_pos (by decide)]
      simp only [lt_eq, nQ_s]
      rw [show bI false = nI 0 from rfl, nQ_sub (by omega)]; rfl
    · have := nth_lt hi c h3
      rw [if_neg (by decide), if_neg (by rw [l0, nQ_le (by omega) (by omega)]; omega)]
      simp only [lt_eq, nQ_s]
      rw [show bI true = nI 1 from rfl, nQ_sub (by omega), Nat.sub_sub]; rfl
  · unfold fX7_drawn_b94
    dsimp only
    rw [gd_of (vs x (by omega)), rs x (by omega), h2, if_neg (by decide), if_pos (by rw [l0, nQ_le (by omega) (by omega)]; omega)]
end DRW
def dwn (S : Sv) (z : Nat) : Nat → Sv × Nat
  | 0 => (S, z)
  | n + 1 => if ct (dwn S z n).1.st 5 = 0 then dwn S z n else (fallS (dwn S z n).1 (nth (dwn S z n).1.st (nx (dwn S z n).2 / 65536 % ct (dwn S z n).1.st 5) 5), nx (dwn S z n).2)
theorem dwn_w {S : Sv} (hW : WF S) {z : Nat} (hz : z < 2147483648) : ∀ n, WF (dwn S z n).1 ∧ (dwn S z n).2 < 2147483648
  | 0 => ⟨hW, hz⟩
  | n + 1 => by
    obtain ⟨h1, h2⟩ := dwn_w hW hz n
    unfold dwn
    split
    · exact ⟨h1, h2⟩
    · exact ⟨fallS_wf h1 _, nx_lt _⟩
theorem dwn_0 {S : Sv} {z n : Nat} (h : ct (dwn S z n).1.st 5 = 0) : dwn S z (n + 1) = dwn S z n := by
  show (if _ then _ else _) = _
  rw [if_pos h]
theorem dwn_1 {S : Sv} {z n : Nat} (h : ¬ ct (dwn S z n).1.st 5 = 0) : dwn S z (n + 1) = (fallS (dwn S z n).1 (nth (dwn S z n).1.st (nx (dwn S z n).2 / 65536 % ct (dwn S z n).1.st 5) 5), nx (dwn S z n).2) := by
  show (if _ then _ else _) = _
  rw [if_neg h]
theorem dwn_st {S : Sv} {z n : Nat} (h : ct (dwn S z n).1.st 5 = 0) : ∀ d, dwn S z (n + d) = dwn S z n
  | 0 => rfl
  | d + 1 => by
    have e := dwn_st h d
    rw [← Nat.add_assoc, dwn_0 (by rw [e]; exact h), e]
theorem ag_drawn (B : Nat) (a b : Int32) : Agree B (fX6_drawn B a b) (fX7_drawn (B + 178) a b) := fun G hW => by
  have h5 := hW.Q.W.H5
  have hW0 := hW.Q.W
  have e64 : (0 : Int64).toInt = 0 ∧ (999999 : Int64).toInt = 999999 ∧ (5 : Int64).toInt = 5 := by decide
  cases c : (inb a 0 999999 && inb b 0 5)
  · refine ⟨-2, badG G, fun L h => ?_, fun L h => ?_, badG_w hW⟩
    · unfold fX6_drawn fX6_drawn_j20
      simp only [bd_eta, Int32.lt_iff_toInt_lt, Int32.le_iff_toInt_le, tl_0, tl_5, tl_999999]
      obtain ⟨z, q⟩ := refK_bad (B := B) (-2) L h
      refine ⟨z, ?_, q.2⟩
      by_cases c1 : a.toInt < 0
      · rw [if_pos c1]; exact q.1
      by_cases c2 : 999999 < a.toInt
      · rw [if_neg c1, if_pos c2]; exact q.1
      rw [inb_t.mpr ⟨by omega, by omega⟩, Bool.true_and] at c
      have c' := inb_f.mp c
      by_cases c3 : b.toInt < 0
      · rw [if_neg c1, if_neg c2, if_pos c3]; exact q.1
      · rw [if_neg c1, if_neg c2, if_neg c3, if_neg (by omega)]; exact q.1
    · unfold fX7_drawn fX7_drawn_j24
      simp only [inF, bd_some, bd_eta, e64]
      obtain ⟨z, q⟩ := badJ (m := B + 178) (-2) L h
      refine ⟨z, ?_, q.2⟩
      cases ca : inb a 0 999999
      · rw [if_pos (by decide)]; exact q.1
      rw [ca, Bool.true_and] at c
      rw [if_neg (by decide), c, if_pos (by decide)]; exact q.1
  rw [Bool.and_eq_true] at c
  have ca := inb_t.mp c.1
  have cb := inb_t.mp c.2
  obtain ⟨z, hz, rfl⟩ := nI_of_int (v := a) (n := 1000000) (by omega) (by omega)
  obtain ⟨k, hk, rfl⟩ := nI_of_int (v := b) (n := 6) (by omega) (by omega)
  have hw := dwn_w hW0 (z := z) (by omega)
  refine ⟨nI (lvn (dwn G.S z k).1 (-1)), G, fun L h => ?_, fun L h => ?_, hW⟩
  · unfold fX6_drawn
    obtain ⟨L1, e1, q1, f1⟩ := h.Q.S.takeFromF (a0 := B + 15) hW0 (.inr (by omega))
    rw [if_neg (by rw [nI_nlt0 (by omega)]; exact not_false), if_neg (by rw [Int32.lt_iff_toInt_lt, tl_999999]; omega), if_neg (by rw [nI_nlt0 (by omega)]; exact not_false), if_pos (by rw [l5, nQ_le (by omega) (by omega)]; omega), e1, bd_some, lt_eq, nI_long (by omega)]
    refine lx_inv k (fun i s => ∃ L2, s = (jI (dwn G.S z i).2, nI i, L2) ∧ SC L2 (B + 15) (dwn G.S z i).1 ∧ Fr (fun a => B + 15 ≤ a ∧ a < B + 29) L L2) (by rw [FU_20000]; omega) ⟨L1, rfl, q1, f1.mono fun a h => by omega⟩ ?_ ?_ ?_
    · rintro i _ hi ⟨L2, rfl, q2, f2⟩
      unfold fX6_drawn_b46
      dsimp only
      obtain ⟨w1, w2⟩ := hw i
      have hc5 := ct_le (dwn G.S z i).1.st 5
      rw [if_neg (by rw [nQ_le (by omega) (by omega)]; omega), q2.st, bitCount5, bd_some]
      by_cases c0 : ct (dwn G.S z i).1.st 5 = 0
      · rw [if_pos (by rw [l0, nQ_le (by omega) (by omega)]; omega), lt_eq, nQ_s, dwn_0 c0]
        exact ⟨_, rfl, L2, rfl, q2, f2⟩
      · rw [dwn_1 c0]
        generalize (dwn G.S z i).2 = y at *
        generalize (dwn G.S z i).1 = T at *
        rw [if_neg (by rw [l0, nQ_le (by omega) (by omega)]; omega), nxF w2, lt_eq, gd_of (nI_long0 (by omega) hc5), drF (nx_lt y) (by omega) hc5, q2.nthStandingF w1 (Nat.mod_lt _ (by omega)), bd_some]
        have hn := nth_of (p := T.st) (n := nx y / 65536 % ct T.st 5) (m := 5) (Nat.mod_lt _ (by omega))
        obtain ⟨z3, e3, -, q3, f3⟩ := q2.letFallF w1 hn.1 hn.2.1
        rw [e3, bd_some, lt_eq, nQ_s]
        exact ⟨_, rfl, z3.2, rfl, q3, f2.trans (f3.mono fun a h => by unfold SB at h; omega)⟩
    · rintro _ ⟨L2, rfl, q2, f2⟩
      unfold fX6_drawn_b46
      dsimp only
      rw [if_pos (by rw [nQ_le (by omega) (by omega)]; omega)]
    · rintro _ ⟨L2, rfl, q2, f2⟩
      dsimp only
      rw [q2.dwellersF (hw k).1, bd_some]
      exact ⟨_, rfl, rfl, h.scrF f2 (fun a e => by unfold scr; omega)⟩
  · unfold fX7_drawn
    obtain ⟨L1, e1, q1, f1⟩ := h.Q.S.layDayF
    rw [inF, bd_some, e64.1, e64.2.1, c.1, if_neg (by decide), inF, bd_some, e64.1, e64.2.2, c.2, if_neg (by decide), e1, bd_some, lt_eq, nI_long (by omega)]
    refine lx_brk k (fun i s => ∃ L2, s = (jI (dwn G.S z i).2, nI i, L2) ∧ RC L2 (B + 178 + 9) (dwn G.S z i).1 ∧ Fr (fun a => a = B + 178 + 9 ∨ a = B + 178 + 8) L L2) (fun s => RC s.2.2 (B + 178 + 9) (dwn G.S z k).1 ∧ Fr (fun a => a = B + 178 + 9 ∨ a = B + 178 + 8) L s.2.2) (by rw [FU_20000]; omega) ⟨L1, rfl, q1, f1.mono fun a h => .inl h⟩ ?_ ?_ ?_
    · rintro i _ hi ⟨L2, rfl, q2, f2⟩
      unfold fX7_drawn_b41
      dsimp only
      obtain ⟨w1, w2⟩ := hw i
      have hc5 := ct_le (dwn G.S z i).1.st 5
      rw [if_neg (by rw [nQ_le (by omega) (by omega)]; omega), q2.standingF w1 (by omega) (by omega), bd_some]
      by_cases c0 : ct (dwn G.S z i).1.st 5 = 0
      · rw [if_pos (by rw [i_zero (by omega)]; exact ct_zero c0)]
        refine .inr ⟨rfl, ?_, f2⟩
        have e := dwn_st c0 (k - i)
        rw [show i + (k - i) = k by omega] at e
        rw [e]; exact q2
      · refine .inl ?_
        rw [dwn_1 c0]
        generalize (dwn G.S z i).2 = y at *
        generalize (dwn G.S z i).1 = T at *
        have hr : nx y / 65536 % ct T.st 5 < ct T.st 5 := Nat.mod_lt _ (by omega)
        have hn := nth_of (p := T.st) (n := nx y / 65536 % ct T.st 5) (m := 5) hr
        rw [if_neg (by rw [i_zero (by omega)]; exact fun e => c0 (ct_none 5 e)), nxF w2, lt_eq, bd_some, bits5, bd_some, gd_of (nI_long0 (by omega) hc5), drF (nx_lt y) (by omega) hc5, lt_eq]
        obtain ⟨s, es, vs⟩ := q2.seekF hr (nI k) (jI (nx y)) (nI i)
        obtain ⟨z3, e3, -, q3, f3, -⟩ := q2.fallsF (m := B + 178) (n := 92) w1 (by omega) (by omega) (by omega) (w1.st _ hn.2.1)
        rw [es, lx_inl, vs, e3, bd_some, lt_eq, nQ_s]
        exact ⟨_, rfl, z3.2, rfl, q3, f2.trans f3⟩
    · rintro _ ⟨L2, rfl, q2, f2⟩
      unfold fX7_drawn_b41
      dsimp only
      rw [if_pos (by rw [nQ_le (by omega) (by omega)]; omega)]
      exact ⟨rfl, q2, f2⟩
    · rintro s ⟨q2, f2⟩
      rw [q2.livingInF (hw k).1 (by omega) (by omega), bd_some, bits6, lvn_ct (hw k).1, bd_some]
      exact ⟨_, rfl, rfl, h.scrF f2 (fun a e => by omega)⟩
