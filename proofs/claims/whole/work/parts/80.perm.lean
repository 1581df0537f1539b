/-! ===== orders in which houses fall: numbers for them ===== -/
theorem ct_add (p : Nat → Bool) (a : Nat) : ∀ b, ct p (a + b) = ct p a + ct (fun c => p (a + c)) b
  | 0 => rfl
  | b + 1 => by
    rw [← Nat.add_assoc, ct_s, ct_s, ct_add p a b, Nat.add_assoc]
def lsc (p : Nat → Bool) : Nat → Option Nat
  | 0 => none
  | n + 1 => (lsc p n).or (if p n then some n else none)
theorem lsc_s (p : Nat → Bool) (n : Nat) : lsc p (n + 1) = (lsc p n).or (if p n then some n else none) := rfl
theorem lsc_congr {p q : Nat → Bool} : ∀ n, (∀ i, i < n → p i = q i) → lsc p n = lsc q n
  | 0, _ => rfl
  | n + 1, h => by rw [lsc_s, lsc_s, lsc_congr n (fun i hi => h i (by omega)), h n (by omega)]
theorem lsc_no {p : Nat → Bool} : ∀ n, (∀ i, i < n → p i = false) → lsc p n = none
  | 0, _ => rfl
  | n + 1, h => by rw [lsc_s, lsc_no n (fun i hi => h i (by omega)), h n (by omega)]; rfl
theorem lsc_ct {p : Nat → Bool} : ∀ n, lsc p n = none ↔ ct p n = 0
  | 0 => ⟨fun _ => rfl, fun _ => rfl⟩
  | n + 1 => by
    rw [lsc_s, ct_s]
    have ih := lsc_ct (p := p) n
    cases c : p n
    · rw [if_neg (by decide), if_neg (by decide), Option.or_none, Nat.add_zero]; exact ih
    · rw [if_pos rfl, if_pos rfl]
      constructor
      · intro h
        cases e : lsc p n with
        | none => rw [e] at h; cases h
        | some v => rw [e] at h; cases h
      · intro h; omega
theorem lsc_v {p : Nat → Bool} : ∀ {n v}, lsc p n = some v → v < n ∧ p v = true := by
  intro n
  induction n with
  | zero => intro v h; cases h
  | succ n ih =>
    intro v h
    rw [lsc_s] at h
    cases e : lsc p n with
    | some w =>
      rw [e] at h
      cases h
      obtain ⟨h1, h2⟩ := ih e
      exact ⟨by omega, h2⟩
    | none =>
      rw [e] at h
      cases c : p n
      · rw [c] at h; cases h
      · rw [c] at h; cases h; exact ⟨Nat.lt_succ_self _, c⟩
theorem or_as {α : Type} (a b c : Option α) : (a.or b).or c = a.or (b.or c) := by cases a <;> rfl
theorem lsc_add (p : Nat → Bool) (a : Nat) : ∀ b, lsc p (a + b) = (lsc p a).or ((lsc (fun c => p (a + c)) b).map (a + ·))
  | 0 => by show lsc p a = (lsc p a).or none; rw [Option.or_none]
  | b + 1 => by
    rw [← Nat.add_assoc, lsc_s, lsc_add p a b, lsc_s, or_as]
    congr 1
    cases lsc (fun c => p (a + c)) b with
    | some v => rfl
    | none =>
      show (if p (a + b) then some (a + b) else none) = Option.map (a + ·) (if p (a + b) then some b else none)
      split <;> rfl
def vn : Nat → Nat → Nat → Bool
  | 0, s, _ => s == 0
  | k + 1, s, c => tb s (c / 5 ^ k) && vn k (s - 2 ^ (c / 5 ^ k)) (c % 5 ^ k)
def mt (c : Nat) : Nat → Nat
  | 0 => 0
  | i + 1 => mt c i ||| 2 ^ (c / 5 ^ i % 5)
theorem mt_lt (c : Nat) : ∀ i, mt c i < 32
  | 0 => by show 0 < 32; decide
  | i + 1 => Nat.or_lt_two_pow (n := 5) (mt_lt c i) (Nat.pow_lt_pow_right (by omega) (Nat.mod_lt _ (by omega)))
theorem pow5_le {n : Nat} (h : n ≤ 5) : 5 ^ n ≤ 3125 := by
  rcases (show n = 0 ∨ n = 1 ∨ n = 2 ∨ n = 3 ∨ n = 4 ∨ n = 5 by omega) with rfl | rfl | rfl | rfl | rfl | rfl <;> decide
theorem pcn5 : ∀ s, s < 32 → pcn s ≤ 5 := by decide +kernel
theorem dg_mod {c i k : Nat} (h : i < k) : c % 5 ^ k / 5 ^ i % 5 = c / 5 ^ i % 5 := by
  obtain ⟨e, he⟩ : ∃ e, k = i + (e + 1) := ⟨k - i - 1, by omega⟩
  rw [he, Nat.pow_add, Nat.mod_mul_right_div_self, Nat.pow_succ, Nat.mod_mul_left_mod]
theorem mt_mod {c k : Nat} : ∀ i, i ≤ k → mt (c % 5 ^ k) i = mt c i
  | 0, _ => rfl
  | i + 1, h => by
    show mt (c % 5 ^ k) i ||| 2 ^ (c % 5 ^ k / 5 ^ i % 5) = mt c i ||| 2 ^ (c / 5 ^ i % 5)
    rw [mt_mod i (by omega), dg_mod (by omega)]
theorem or_c1 : ∀ x, x < 32 → ∀ s, s < 32 → ∀ d, d < 5 → pcn x < pcn s → ((x ||| 2 ^ d == s) = (tb s d && (x == s - 2 ^ d))) := by decide +kernel
theorem or_c2 : ∀ x, x < 32 → ∀ d, d < 5 → pcn (x ||| 2 ^ d) ≤ pcn x + 1 := by decide +kernel
theorem sub_c : ∀ s, s < 32 → ∀ d, d < 5 → tb s d = true → pcn s = pcn (s - 2 ^ d) + 1 := by decide +kernel
theorem pcn_0 : ∀ s, s < 32 → pcn s = 0 → s = 0 := by decide +kernel
theorem pcn_mt (c : Nat) : ∀ k, pcn (mt c k) ≤ k
  | 0 => by show pcn 0 ≤ 0; decide
  | k + 1 => by
    have h := or_c2 (mt c k) (mt_lt c k) (c / 5 ^ k % 5) (Nat.mod_lt _ (by omega))
    have := pcn_mt c k
    show pcn (mt c k ||| 2 ^ (c / 5 ^ k % 5)) ≤ k + 1
    omega
theorem top_lt {c k : Nat} (hc : c < 5 ^ (k + 1)) : c / 5 ^ k < 5 := by
  refine Nat.div_lt_of_lt_mul ?_
  rwa [Nat.pow_succ] at hc
theorem low_lt (c k : Nat) : c % 5 ^ k < 5 ^ k := Nat.mod_lt _ (Nat.pow_pos (by omega))
theorem vn_c : ∀ k s c, s < 32 → pcn s = k → c < 5 ^ k → (mt c k == s) = vn k s c
  | 0, s, c, hs, hk, _ => by
    have := pcn_0 s hs hk
    subst this
    rfl
  | k + 1, s, c, hs, hk, hc => by
    have hd := top_lt hc
    have h1 := pcn_mt c k
    show (mt c k ||| 2 ^ (c / 5 ^ k % 5) == s) = (tb s (c / 5 ^ k) && vn k (s - 2 ^ (c / 5 ^ k)) (c % 5 ^ k))
    rw [Nat.mod_eq_of_lt hd, or_c1 _ (mt_lt c k) s hs _ hd (by omega)]
    cases e : tb s (c / 5 ^ k)
    · rfl
    · have h2 := sub_c s hs _ hd e
      rw [← vn_c k (s - 2 ^ (c / 5 ^ k)) (c % 5 ^ k) (Nat.lt_of_le_of_lt (Nat.sub_le _ _) hs) (by omega) (low_lt c k), mt_mod k (Nat.le_refl k)]
def dig (n c j : Nat) : Nat := c / 5 ^ (n - 1 - j) % 5
theorem dig_lt (n c j : Nat) : dig n c j < 5 := Nat.mod_lt _ (by omega)
theorem dig_0 {k c : Nat} (hc : c < 5 ^ (k + 1)) : dig (k + 1) c 0 = c / 5 ^ k := by
  unfold dig
  rw [show k + 1 - 1 - 0 = k by omega]
  refine Nat.mod_eq_of_lt (Nat.div_lt_of_lt_mul ?_)
  rwa [Nat.pow_succ] at hc
theorem dig_s {k c j : Nat} (hj : j < k) : dig (k + 1) c (j + 1) = dig k (c % 5 ^ k) j := by
  unfold dig
  rw [show k + 1 - 1 - (j + 1) = k - 1 - j by omega]
  obtain ⟨e, he⟩ : ∃ e, k = (k - 1 - j) + (e + 1) := ⟨j, by omega⟩
  generalize hx : k - 1 - j = x at *
  rw [show 5 ^ k = 5 ^ x * 5 ^ (e + 1) by rw [← Nat.pow_add, ← he], Nat.mod_mul_right_div_self, Nat.pow_succ, Nat.mod_mul_left_mod]
def itS (S : Sv) (d : Nat → Nat) : Nat → Sv
  | 0 => S
  | j + 1 => fallS (itS S d j) (d j)
theorem itS_congr {S : Sv} {d e : Nat → Nat} : ∀ j, (∀ i, i < j → d i = e i) → itS S d j = itS S e j
  | 0, _ => rfl
  | j + 1, h => by
    show fallS (itS S d j) (d j) = fallS (itS S e j) (e j)
    rw [itS_congr j (fun i hi => h i (by omega)), h j (by omega)]
theorem itS_front (S : Sv) (d : Nat → Nat) : ∀ j, itS S d (j + 1) = itS (fallS S (d 0)) (fun i => d (i + 1)) j
  | 0 => rfl
  | j + 1 => by
    show fallS (itS S d (j + 1)) (d (j + 1)) = fallS (itS (fallS S (d 0)) (fun i => d (i + 1)) j) (d (j + 1))
    rw [itS_front S d j]
theorem itS_k {S : Sv} {k c j : Nat} (hc : c < 5 ^ (k + 1)) (hj : j ≤ k) : itS S (dig (k + 1) c) (j + 1) = itS (fallS S (c / 5 ^ k)) (dig k (c % 5 ^ k)) j := by
  rw [itS_front, dig_0 hc]
  exact itS_congr j fun i hi => dig_s (by omega)
theorem itS_wf {S : Sv} (hW : WF S) (d : Nat → Nat) : ∀ j, WF (itS S d j)
  | 0 => hW
  | j + 1 => fallS_wf (itS_wf hW d j) _
theorem itS_H (S : Sv) (d : Nat → Nat) : ∀ j, (itS S d j).H = S.H
  | 0 => rfl
  | j + 1 => (show (fallS (itS S d j) (d j)).H = (itS S d j).H from rfl).trans (itS_H S d j)
theorem itS_P (S : Sv) (d : Nat → Nat) : ∀ j, (itS S d j).P = S.P
  | 0 => rfl
  | j + 1 => (show (fallS (itS S d j) (d j)).P = (itS S d j).P from rfl).trans (itS_P S d j)
/-! the reference's side -/
theorem nI_div {a b : Nat} (ha : a < 2147483648) (hb : b < 2147483648) : nI a / nI b = nI (a / b) := by
  have e1 : Int32.minValue.toInt = -2147483648 := by decide
  have e2 : Int32.maxValue.toInt = 2147483647 := by decide
  have := Int32.ofInt_tdiv (a := (a : Int)) (b := (b : Int)) (by omega) (by omega) (by omega) (by omega)
  rw [Int.tdiv_eq_ediv_of_nonneg (by omega), ← Int.natCast_ediv] at this
  rw [← iI_nat, ← iI_nat, ← iI_nat]
  exact this.symm
theorem nI_div5 {a : Nat} (ha : a < 2147483648) : nI a / (5 : Int32) = nI (a / 5) := nI_div ha (b := 5) (by omega)
theorem nI_mod5 {a : Nat} (ha : a < 2147483648) : nI a - nI a / (5 : Int32) * (5 : Int32) = nI (a % 5) := by
  rw [nI_div5 ha, show nI (a / 5) * (5 : Int32) = nI (a / 5 * 5) from nQ_mul (a / 5) 5, nQ_sub (by omega)]
  exact congrArg nI (by omega)
theorem m1I : (-1 : Int32) = iI (-1) := by decide
theorem iI_neg {z : Int} (h1 : -2147483648 ≤ z) (h2 : z < 0) : iI z < 0 := by
  rw [Int32.lt_iff_toInt_lt, iI_toInt h1 (by omega), tl_0]; exact h2
theorem pow5_s (c i : Nat) : c / 5 ^ i / 5 = c / 5 ^ (i + 1) := by rw [Nat.div_div_eq_div_mul, Nat.pow_succ]
theorem codesF : ∀ n, n < 7 → fX7_codes (nI n) = some (nI (5 ^ n)) := by decide +kernel
section PER
variable {L : HL} {m : Nat} {S : Sv}
theorem layOrderF (L : HL) (m : Nat) {n c s : Nat} (hn : n ≤ 5) (hc : c < 15625) (hs : s < 32) : ∃ L', fX7_layOrder m (nI c) (nI n) (nI s) L = some (bI (mt c n == s), L') ∧ (∀ j, j < n → L'.1 (m + 10) j = nI (dig n c j)) ∧ Fr (· = m + 10) L L' := by
  unfold fX7_layOrder
  have e0 : nI n - 1 = iI ((n : Int) - 1 - ((0 : Nat) : Int)) := by rw [← iI_nat, show (1 : Int32) = iI 1 from rfl, iI_sub]; exact congrArg iI (by omega)
  rw [lt_eq, e0]
  have key : ∃ z, lx (lp (fun s9 : Int32 × Int32 × Int32 × HL => fX7_layOrder_b11 m (nI s) s9.1 s9.2.1 s9.2.2.1 s9.2.2.2) FU (nI c, (0 : Int32), iI ((n : Int) - 1 - ((0 : Nat) : Int)), L)) (fun v => some v) (fun s9 => if s9.2.1 = nI s then some ((1 : Int32), s9.2.2.2) else some ((0 : Int32), s9.2.2.2)) = some z ∧ (z.1 = bI (mt c n == s) ∧ (∀ j, j < n → z.2.1 (m + 10) j = nI (dig n c j)) ∧ Fr (· = m + 10) L z.2) := by
    refine lx_inv n (fun i t => ∃ L2, t = (nI (c / 5 ^ i), nI (mt c i), iI ((n : Int) - 1 - (i : Int)), L2) ∧ (∀ j, n - i ≤ j → j < n → L2.1 (m + 10) j = nI (dig n c j)) ∧ Fr (· = m + 10) L L2) (by rw [FU_20000]; omega) ⟨L, by rw [show c / 5 ^ 0 = c by simp]; rfl, fun j h1 h2 => by omega, Fr.refl L⟩ ?_ ?_ ?_
    · rintro i _ hi ⟨L2, rfl, q, f⟩
      unfold fX7_layOrder_b11
      dsimp only
      have hm := mt_lt c i
      have hd : c / 5 ^ i < 15625 := Nat.lt_of_le_of_lt (Nat.div_le_self _ _) hc
      have ei : iI ((n : Int) - 1 - (i : Int)) = nI (n - 1 - i) := by rw [← iI_nat]; exact congrArg iI (by omega)
      rw [ei, if_neg (by rw [nI_nlt0 (by omega)]; exact not_false), gd_of (vin_nI (by omega) (by omega)), nI_mod5 (by omega), lt_eq, nI_div5 (by omega), lt_eq, gd_of (vin_nI (by omega) (by omega)), nI_cl (by omega), wQ_same, shl_c _ (Nat.lt_of_lt_of_le (Nat.mod_lt _ (by omega)) (by omega)), or_c _ (by omega) _ (Nat.lt_of_lt_of_le (Nat.pow_lt_pow_right (by omega) (Nat.mod_lt (c / 5 ^ i) (show 5 > 0 by omega))) (by omega)), lt_eq, m1I, pow5_s]
      refine ⟨_, rfl, wI L2 (m + 10) (n - 1 - i) (nI (c / 5 ^ i % 5)), ?_, fun j h1 h2 => ?_, f.wI rfl _ _⟩
      · have : nI (n - 1 - i) + iI (-1) = iI ((n : Int) - 1 - ((i + 1 : Nat) : Int)) := by rw [← iI_nat, iI_add]; exact congrArg iI (by omega)
        rw [this]; rfl
      · by_cases e : j = n - 1 - i
        · subst e
          rw [wQ_same]
          unfold dig
          rw [show n - 1 - (n - 1 - i) = i by omega]
        · rw [wQ_other e]; exact q j (by omega) h2
    · rintro _ ⟨L2, rfl, q, f⟩
      unfold fX7_layOrder_b11
      rw [if_pos (iI_neg (by omega) (by omega))]
    · rintro _ ⟨L2, rfl, q, f⟩
      have hm := mt_lt c n
      dsimp only
      by_cases e : mt c n = s
      · rw [if_pos (by rw [e])]
        exact ⟨_, rfl, by rw [beq_iff_eq.mpr e]; rfl, fun j hj => q j (by omega) hj, f⟩
      · rw [if_neg (by rw [nQ_eq (by omega) (by omega)]; exact e)]
        exact ⟨_, rfl, by rw [beq_false_of_ne e]; rfl, fun j hj => q j (by omega) hj, f⟩
  obtain ⟨z, e1, v1, v2, v3⟩ := key
  exact ⟨z.2, by rw [← v1]; exact e1, v2, v3⟩
/-- the falls themselves, one behind the other -/
theorem fallRowF {L0 : HL} (hR : RC L (m + 9) S) (hW : WF S) {k : Nat} (hk : k ≤ 5) {d : Nat → Nat} (hd : ∀ j, j < k → L.1 (m + 10) j = nI (d j) ∧ d j < S.H) (f0 : Fr (fun a => a = m + 9 ∨ a = m + 8) L0 L) : ∃ L', lx (lp (fun s13 : Int32 × HL => fX7_layFalls_b50 m (nI k) s13.1 s13.2) FU ((0 : Int32), L)) (fun v => some v) (fun s13 => some s13.2) = some L' ∧ RC L' (m + 9) (itS S d k) ∧ Fr (fun a => a = m + 9 ∨ a = m + 8) L0 L' := by
  refine lx_inv k (fun i t => ∃ L2, t = (nI i, L2) ∧ RC L2 (m + 9) (itS S d i) ∧ Fr (fun a => a = m + 9 ∨ a = m + 8) L L2) (by rw [FU_20000]; omega) ⟨L, rfl, hR, Fr.refl L⟩ ?_ ?_ ?_
  · rintro i _ hi ⟨L2, rfl, q, f⟩
    unfold fX7_layFalls_b50
    dsimp only
    obtain ⟨h1, h2⟩ := hd i hi
    obtain ⟨z, e1, -, q1, f1, -⟩ := q.fallsF (m := m) (n := 92) (itS_wf hW d i) (by omega) (by omega) (by omega) (x := d i) (by rw [itS_H]; exact h2)
    rw [if_neg (by rw [nQ_le (by omega) (by omega)]; omega), gd_of (vin_nI (by omega) (by omega)), nI_cl (by omega), f.1 (m + 10) (by omega), h1, e1, bd_some, lt_eq, nQ_s]
    exact ⟨_, rfl, z.2, rfl, q1, f.trans f1⟩
  · rintro _ ⟨L2, rfl, q, f⟩
    unfold fX7_layFalls_b50
    dsimp only
    rw [if_pos (by rw [nQ_le (by omega) (by omega)]; omega)]
  · rintro _ ⟨L2, rfl, q, f⟩
    exact ⟨_, rfl, q, f0.trans f⟩
theorem layFallsF (hR : RC L (m + 1) S) (hW : WF S) {k : Nat} (hk : k ≤ 5) {d : Nat → Nat} (hd : ∀ j, j < k → L.1 (m + 10) j = nI (d j) ∧ d j < S.H) : ∃ L', fX7_layFalls m (nI k) (-1) L = some L' ∧ RC L' (m + 9) (itS S d k) ∧ Fr (fun a => a = m + 9 ∨ a = m + 8) L L' := by
  have h5 := hW.H5
  unfold fX7_layFalls
  obtain ⟨L1, e1, q1, f1⟩ := hR.layDayF
  rw [e1, bd_some]
  refine lx_inv S.H (fun i t => ∃ L2, t = (nI i, L2) ∧ RC L2 (m + 9) S ∧ Fr (fun a => a = m + 9 ∨ a = m + 8) L L2) (by rw [FU_20000]; omega) ⟨L1, rfl, q1, f1.mono fun a h => .inl h⟩ ?_ ?_ ?_
  · rintro i _ hi ⟨L2, rfl, q, f⟩
    unfold fX7_layFalls_b6 fX7_layFalls_j41
    dsimp only
    rw [c0q, q.H, if_neg (by rw [nQ_le (by omega) (by omega)]; omega), if_neg (by decide), l24, nQ_add, gd_of (vin_nI (by omega) (by omega)), gd_of (vin_nI (by omega) (by omega)), lt_eq, lt_eq, nQ_s]
    refine ⟨_, rfl, _, rfl, q.frame ?_, f.wI (.inl rfl) _ _⟩
    funext j
    rw [wQ_at, if_pos rfl]
    split
    · next e => rw [e]
    · rfl
  · rintro _ ⟨L2, rfl, q, f⟩
    unfold fX7_layFalls_b6
    dsimp only
    rw [c0q, q.H, if_pos (by rw [nQ_le (by omega) (by omega)]; omega)]
  · rintro _ ⟨L2, rfl, q, f⟩
    exact fallRowF q hW hk (fun j hj => by rw [f.1 (m + 10) (by omega)]; exact hd j hj) f
def wlS (S : Sv) (k : Nat) : Sv := S.set_wl fun h => if h < S.H then nI k else S.wl h
theorem wlS_wf (hW : WF S) {k : Nat} (hk : k < 6) : WF (wlS S k) := WF.of hW.H5 hW.P6 hW.st hW.wa hW.ws hW.fi hW.fs hW.fm hW.fa hW.wh (fun h hh => ⟨k, hk, if_pos hh⟩) hW.mk hW.fr hW.wo hW.rm
theorem layFallsK (hR : RC L (m + 1) S) (hW : WF S) {k q : Nat} (hk : k ≤ 5) (hq : q < 6) {d : Nat → Nat} (hd : ∀ j, j < k → L.1 (m + 10) j = nI (d j) ∧ d j < S.H) : ∃ L', fX7_layFalls m (nI k) (nI q) L = some L' ∧ RC L' (m + 9) (itS (wlS S q) d k) ∧ Fr (fun a => a = m + 9 ∨ a = m + 8) L L' := by
  have h5 := hW.H5
  have hS0 : ∀ (L2 L3 : HL) (w w' : Nat → Int32), RC L2 (m + 9) (S.set_wl w) → (∀ h, h < 5 → L3.1 (m + 9) (24 + h) = w' h) → (∀ k, k < 92 → ¬ (24 ≤ k ∧ k < 29) → L3.1 (m + 9) k = L2.1 (m + 9) k) → RC L3 (m + 9) (S.set_wl w') := fun L2 L3 w w' q e o => RC.w_wl q e o
  unfold fX7_layFalls
  obtain ⟨L1, e1, q1, f1⟩ := hR.layDayF
  rw [e1, bd_some]
  refine lx_inv S.H (fun i t => ∃ L2, t = (nI i, L2) ∧ RC L2 (m + 9) (S.set_wl fun h => if h < i then nI q else S.wl h) ∧ Fr (fun a => a = m + 9 ∨ a = m + 8) L L2) (by rw [FU_20000]; omega) ⟨L1, rfl, ?_, f1.mono fun a h => .inl h⟩ ?_ ?_ ?_
  · simp only [Nat.not_lt_zero, if_false]; exact q1
  · rintro i _ hi ⟨L2, rfl, r, f⟩
    have rH : L2.1 (m + 9) 0 = nI S.H := r.H
    unfold fX7_layFalls_b6 fX7_layFalls_j41
    dsimp only
    rw [c0q, rH, if_neg (by rw [nQ_le (by omega) (by omega)]; omega), if_pos (by rw [l0, nQ_le (by omega) (by omega)]; omega), l24, nQ_add, gd_of (vin_nI (by omega) (by omega)), lt_eq, lt_eq, nQ_s, nI_cl (by omega)]
    refine ⟨_, rfl, _, rfl, ?_, f.wI (.inl rfl) _ _⟩
    refine hS0 _ _ _ _ r (fun h hh => ?_) fun j _ hj => wQ_other (by omega)
    by_cases e : h = i
    · subst e; rw [wQ_same, if_pos (by omega)]
    · rw [wQ_other (by omega), r.wl h hh]
      have : (h < i + 1) = (h < i) := propext (by omega)
      simp only [Sv.wl_set_wl, this]
  · rintro _ ⟨L2, rfl, r, f⟩
    have rH : L2.1 (m + 9) 0 = nI S.H := r.H
    unfold fX7_layFalls_b6
    dsimp only
    rw [c0q, rH, if_pos (by rw [nQ_le (by omega) (by omega)]; omega)]
  · rintro _ ⟨L2, rfl, r, f⟩
    exact fallRowF (S := wlS S q) r (wlS_wf hW hq) hk (fun j hj => by rw [f.1 (m + 10) (by omega)]; exact hd j hj) f
end PER
