/-! ===== the mathematics: numbers, masks, and how the printed functions are run ===== -/
def iI (z : Int) : Int32 := Int32.ofInt z
theorem iI_toInt {z : Int} (h1 : -2147483648 ≤ z) (h2 : z < 2147483648) : (iI z).toInt = z := Int32.toInt_ofInt_of_le h1 h2
theorem iI_self (x : Int32) : iI x.toInt = x := Int32.ofInt_toInt x
theorem iI_nat (n : Nat) : iI (n : Int) = nI n := Int32.ofInt_eq_ofNat
theorem iI_add (a b : Int) : iI a + iI b = iI (a + b) := (Int32.ofInt_add a b).symm
theorem iI_sub (a b : Int) : iI a - iI b = iI (a - b) := (Int32.ofInt_sub a b).symm
theorem iI_mul (a b : Int) : iI a * iI b = iI (a * b) := (Int32.ofInt_mul a b).symm
theorem iI_clamp {z : Int} (h1 : 0 ≤ z) (h2 : z < 2147483648) : (iI z).toNatClampNeg = z.toNat := by
  show (iI z).toInt.toNat = z.toNat
  rw [iI_toInt (by omega) h2]
theorem iI_inj {a b : Int} (h1 : -2147483648 ≤ a) (h2 : a < 2147483648) (h3 : -2147483648 ≤ b) (h4 : b < 2147483648) : iI a = iI b ↔ a = b := by
  rw [← Int32.toInt_inj, iI_toInt h1 h2, iI_toInt h3 h4]
theorem iI_lt {a b : Int} (h1 : -2147483648 ≤ a) (h2 : a < 2147483648) (h3 : -2147483648 ≤ b) (h4 : b < 2147483648) : iI a < iI b ↔ a < b := by
  rw [Int32.lt_iff_toInt_lt, iI_toInt h1 h2, iI_toInt h3 h4]
theorem iI_le {a b : Int} (h1 : -2147483648 ≤ a) (h2 : a < 2147483648) (h3 : -2147483648 ≤ b) (h4 : b < 2147483648) : iI a ≤ iI b ↔ a ≤ b := by
  rw [Int32.le_iff_toInt_le, iI_toInt h1 h2, iI_toInt h3 h4]
theorem i_ge (x : Int32) : -2147483648 ≤ x.toInt := x.le_toInt
theorem i_lt (x : Int32) : x.toInt < 2147483648 := x.toInt_lt
theorem nI_of_int {v : Int32} {n : Nat} (h1 : 0 ≤ v.toInt) (h2 : v.toInt < n) : ∃ j : Nat, j < n ∧ v = nI j := ⟨v.toInt.toNat, by omega, by rw [← iI_nat, Int.toNat_of_nonneg h1, iI_self]⟩
theorem vin_nI {i N : Nat} (h : i < N) (hN : N < 2147483648) : vin (nI i) N := vp_in_nI h hN
theorem vin_of {v : Int32} {N : Nat} (h1 : 0 ≤ v.toInt) (h2 : v.toInt < N) : vin v N := vp_in_iff.mpr ⟨h1, h2⟩
theorem nI_cl {n : Nat} (h : n < 2147483648) : (nI n).toNatClampNeg = n := nI_clamp h
theorem tl_m1000 : (-1000 : Int32).toInt = -1000 := by decide
theorem tl_m20 : (-20 : Int32).toInt = -20 := by decide
theorem tl_m10 : (-10 : Int32).toInt = -10 := by decide
theorem tl_m5 : (-5 : Int32).toInt = -5 := by decide
theorem tl_m4 : (-4 : Int32).toInt = -4 := by decide
theorem tl_m3 : (-3 : Int32).toInt = -3 := by decide
theorem tl_m2 : (-2 : Int32).toInt = -2 := by decide
theorem tl_m1 : (-1 : Int32).toInt = -1 := by decide
theorem tl_0 : (0 : Int32).toInt = 0 := by decide
theorem tl_1 : (1 : Int32).toInt = 1 := by decide
theorem tl_2 : (2 : Int32).toInt = 2 := by decide
theorem tl_3 : (3 : Int32).toInt = 3 := by decide
theorem tl_4 : (4 : Int32).toInt = 4 := by decide
theorem tl_5 : (5 : Int32).toInt = 5 := by decide
theorem tl_6 : (6 : Int32).toInt = 6 := by decide
theorem tl_7 : (7 : Int32).toInt = 7 := by decide
theorem tl_8 : (8 : Int32).toInt = 8 := by decide
theorem tl_9 : (9 : Int32).toInt = 9 := by decide
theorem tl_10 : (10 : Int32).toInt = 10 := by decide
theorem tl_20 : (20 : Int32).toInt = 20 := by decide
theorem tl_24 : (24 : Int32).toInt = 24 := by decide
theorem tl_60 : (60 : Int32).toInt = 60 := by decide
theorem tl_99 : (99 : Int32).toInt = 99 := by decide
theorem tl_100 : (100 : Int32).toInt = 100 := by decide
theorem tl_127 : (127 : Int32).toInt = 127 := by decide
theorem tl_150 : (150 : Int32).toInt = 150 := by decide
theorem tl_255 : (255 : Int32).toInt = 255 := by decide
theorem tl_1000 : (1000 : Int32).toInt = 1000 := by decide
theorem tl_1000000 : (1000000 : Int32).toInt = 1000000 := by decide
theorem tl_999999 : (999999 : Int32).toInt = 999999 := by decide
/-- a truth as the machine has it -/
def bI (p : Bool) : Int32 := if p then 1 else 0
theorem bI_0 (p : Bool) : bI p = 0 ↔ p = false := by cases p <;> decide
theorem bI_1 (p : Bool) : bI p = 1 ↔ p = true := by cases p <;> decide
theorem bI_01 (p : Bool) : bI p = 0 ∨ bI p = 1 := by cases p <;> decide
theorem bI_eq (p q : Bool) : bI p = bI q ↔ p = q := by cases p <;> cases q <;> decide
/-! running a printed function -/
def Ok {α : Type} (x : Option α) (P : α → Prop) : Prop := ∃ z, x = some z ∧ P z
section OKR
variable {α β σ : Type}
theorem Ok.some {v : α} {P : α → Prop} (h : P v) : Ok (some v) P := ⟨v, rfl, h⟩
theorem Ok.bd {x : Option α} {k : α → Option β} {Q : α → Prop} {P : β → Prop} (hx : Ok x Q) (hk : ∀ v, Q v → Ok (k v) P) : Ok (bd x k) P := by
  obtain ⟨v, rfl, hv⟩ := hx
  exact hk v hv
theorem Ok.gd {c : Prop} [Decidable c] {k : Option α} {P : α → Prop} (hc : c) (hk : Ok k P) : Ok (gd c k) P := by
  unfold Jvm.Pilot.CHouseHeirsLaw_law_r4641_ffcc13.gd
  rw [if_pos hc]; exact hk
theorem Ok.lt {e : α} {k : α → Option β} {P : β → Prop} (hk : Ok (k e) P) : Ok (lt e k) P := hk
theorem Ok.ite {c : Prop} [Decidable c] {x z : Option α} {P : α → Prop} (h1 : c → Ok x P) (h2 : ¬ c → Ok z P) : Ok (if c then x else z) P := by
  by_cases h : c
  · rw [if_pos h]; exact h1 h
  · rw [if_neg h]; exact h2 h
theorem Ok.lx {x : Option (σ ⊕ α)} {kr : α → Option β} {k : σ → Option β} {Q : σ ⊕ α → Prop} {P : β → Prop} (hx : Ok x Q) (h1 : ∀ s, Q (.inl s) → Ok (k s) P) (h2 : ∀ v, Q (.inr v) → Ok (kr v) P) : Ok (lx x kr k) P := by
  obtain ⟨v, rfl, hv⟩ := hx
  cases v with
  | inl s => exact h1 s hv
  | inr v => exact h2 v hv
theorem Ok.mono {x : Option α} {P Q : α → Prop} (h : Ok x P) (hPQ : ∀ v, P v → Q v) : Ok x Q := by
  obtain ⟨v, h1, h2⟩ := h
  exact ⟨v, h1, hPQ v h2⟩
/-- a loop: what holds at its head in turn i; it leaves at N at the latest -/
theorem Ok.lp {ρ : Type} {f : σ → Option (σ ⊕ ρ)} (I : Nat → σ → Prop) (N : Nat) {P : ρ → Prop} (step : ∀ i s, i ≤ N → I i s → Ok (f s) (fun x => (∀ s', x = .inl s' → i < N ∧ I (i + 1) s') ∧ ∀ r, x = .inr r → P r)) : ∀ (fu i : Nat) (s : σ), i ≤ N → N - i < fu → I i s → Ok (lp f fu s) P := by
  intro fu
  induction fu with
  | zero => intro i s _ h; omega
  | succ fu ih =>
    intro i s hi hfu hI
    obtain ⟨x, hx, h1, h2⟩ := step i s hi hI
    unfold Jvm.Pilot.CHouseHeirsLaw_law_r4641_ffcc13.lp
    cases x with
    | inl s' =>
      obtain ⟨h3, h4⟩ := h1 s' rfl
      simp only [hx]
      exact ih (i + 1) s' (by omega) (by omega) h4
    | inr r =>
      simp only [hx]
      exact ⟨r, rfl, h2 r rfl⟩
theorem Ok.inl {ρ : Type} {s : σ} {P : σ → Prop} {Q : ρ → Prop} (h : P s) : Ok (Option.some (Sum.inl s : σ ⊕ ρ)) (fun x => (∀ s', x = .inl s' → P s') ∧ ∀ r, x = .inr r → Q r) := ⟨_, rfl, fun s' e => (by cases e; exact h), fun r e => (by cases e)⟩
theorem Ok.inr {ρ : Type} {r : ρ} {P : σ → Prop} {Q : ρ → Prop} (h : Q r) : Ok (Option.some (Sum.inr r : σ ⊕ ρ)) (fun x => (∀ s', x = .inl s' → P s') ∧ ∀ r, x = .inr r → Q r) := ⟨_, rfl, fun s' e => (by cases e), fun r e => (by cases e; exact h)⟩
end OKR
theorem FU_lt {n : Nat} (h : n < 20000) : n < FU := h
theorem FU_20000 : FU = 20000 := rfl
/-! masks -/
def mask (p : Nat → Bool) : Nat → Nat
  | 0 => 0
  | n + 1 => mask p n + (if p n then 2 ^ n else 0)
theorem mask_lt (p : Nat → Bool) : ∀ n, mask p n < 2 ^ n
  | 0 => by simp [mask]
  | n + 1 => by
    have h := mask_lt p n
    unfold mask
    rw [Nat.pow_succ]
    split <;> omega
theorem mask_congr {p q : Nat → Bool} : ∀ n, (∀ i, i < n → p i = q i) → mask p n = mask q n
  | 0, _ => rfl
  | n + 1, h => by
    unfold mask
    rw [mask_congr n (fun i hi => h i (by omega)), h n (by omega)]
theorem mask5 (p : Nat → Bool) : mask p 5 = (if p 0 then 1 else 0) + (if p 1 then 2 else 0) + (if p 2 then 4 else 0) + (if p 3 then 8 else 0) + (if p 4 then 16 else 0) := by simp [mask]
theorem mask4 (p : Nat → Bool) : mask p 4 = (if p 0 then 1 else 0) + (if p 1 then 2 else 0) + (if p 2 then 4 else 0) + (if p 3 then 8 else 0) := by simp [mask]
theorem mask6 (p : Nat → Bool) : mask p 6 = (if p 0 then 1 else 0) + (if p 1 then 2 else 0) + (if p 2 then 4 else 0) + (if p 3 then 8 else 0) + (if p 4 then 16 else 0) + (if p 5 then 32 else 0) := by simp [mask]
def tb (k h : Nat) : Bool := k / 2 ^ h % 2 == 1
theorem bit_c : ∀ k, k < 64 → ∀ h, h < 6 → (((nI k >>> (nI h &&& 31)) &&& 1 = 1) ↔ tb k h = true) := by decide +kernel
theorem mask_tb {p : Nat → Bool} : ∀ {n i : Nat}, i < n → tb (mask p n) i = p i := by
  intro n
  induction n with
  | zero => intro i h; omega
  | succ n ih =>
    intro i h
    have hl := mask_lt p n
    unfold mask
    by_cases e : i = n
    · subst e
      unfold tb
      cases hp : p i
      · simp [Nat.div_eq_of_lt hl]
      · simp [Nat.add_div_right _ (Nat.two_pow_pos i), Nat.div_eq_of_lt hl]
    · have hi : i < n := by omega
      rw [← ih hi]
      unfold tb
      split
      · obtain ⟨d, hd⟩ : ∃ d, n = i + 1 + d := ⟨n - i - 1, by omega⟩
        rw [show 2 ^ n = 2 ^ i * (2 * 2 ^ d) by rw [hd, Nat.pow_add, Nat.pow_add]; simp [Nat.mul_assoc]]
        rw [Nat.add_mul_div_left _ _ (Nat.two_pow_pos i), Nat.add_mul_mod_self_left]
      · rw [Nat.add_zero]
theorem mask_bit {p : Nat → Bool} {n h : Nat} (hn : n ≤ 6) (hh : h < n) : ((nI (mask p n) >>> (nI h &&& 31)) &&& 1 = 1) ↔ p h = true := by
  rw [bit_c _ (Nat.lt_of_lt_of_le (mask_lt p n) (Nat.pow_le_pow_right (by omega) hn)) h (by omega), mask_tb hh]
/-- a set of less than n is known by its members -/
theorem mask_of {n : Nat} : ∀ k, k < 2 ^ n → mask (fun i => tb k i) n = k := by
  induction n with
  | zero => intro k h; simp at h; subst h; rfl
  | succ n ih =>
    intro k h
    rw [Nat.pow_succ] at h
    unfold mask
    have hm : k % 2 ^ n < 2 ^ n := Nat.mod_lt _ (Nat.two_pow_pos n)
    have h1 : mask (fun i => tb k i) n = k % 2 ^ n := by
      rw [← ih (k % 2 ^ n) hm]
      refine mask_congr n fun i hi => ?_
      unfold tb
      obtain ⟨d, hd⟩ : ∃ d, n = i + 1 + d := ⟨n - i - 1, by omega⟩
      have : k % 2 ^ n / 2 ^ i % 2 = k / 2 ^ i % 2 := by
        rw [hd, show 2 ^ (i + 1 + d) = 2 ^ i * 2 ^ (1 + d) by rw [← Nat.pow_add]; congr 1; omega, Nat.mod_mul_right_div_self]
        rw [show 2 ^ (1 + d) = 2 * 2 ^ d by rw [Nat.pow_add]]
        rw [Nat.mod_mul_right_mod]
      rw [this]
    rw [h1]
    have hq : k / 2 ^ n < 2 := by
      rw [Nat.div_lt_iff_lt_mul (Nat.two_pow_pos n)]; omega
    have hd := Nat.div_add_mod k (2 ^ n)
    unfold tb
    generalize hqq : k / 2 ^ n = q at hq hd ⊢
    have : q = 0 ∨ q = 1 := by omega
    rcases this with g | g
    · subst g
      rw [Nat.mul_zero, Nat.zero_add] at hd
      simpa using hd
    · subst g
      rw [Nat.mul_one] at hd
      simp
      omega
theorem or_c : ∀ a, a < 64 → ∀ b, b < 64 → nI a ||| nI b = nI (a ||| b) := by decide +kernel
theorem and_c : ∀ a, a < 64 → ∀ b, b < 64 → nI a &&& nI b = nI (a &&& b) := by decide +kernel
theorem xor_c : ∀ a, a < 64 → ∀ b, b < 64 → nI a ^^^ nI b = nI (a ^^^ b) := by decide +kernel
theorem shl_c : ∀ h, h < 6 → (1 : Int32) <<< (nI h &&& 31) = nI (2 ^ h) := by decide +kernel
theorem not_c : ∀ a, a < 64 → ∀ b, b < 64 → nI a &&& (nI b ^^^ (-1 : Int32)) = nI (a &&& (63 ^^^ b)) := by decide +kernel
theorem tb_or : ∀ a, a < 64 → ∀ b, b < 64 → ∀ i, i < 6 → tb (a ||| b) i = (tb a i || tb b i) := by decide +kernel
theorem tb_and : ∀ a, a < 64 → ∀ b, b < 64 → ∀ i, i < 6 → tb (a &&& b) i = (tb a i && tb b i) := by decide +kernel
theorem tb_xor : ∀ a, a < 64 → ∀ b, b < 64 → ∀ i, i < 6 → tb (a ^^^ b) i = (tb a i != tb b i) := by decide +kernel
theorem tb_pow : ∀ h, h < 6 → ∀ i, i < 6 → tb (2 ^ h) i = (i == h) := by decide +kernel
