/-! ===== where all may live: the class seeks ===== -/
def rmN (S : Sv) (h : Nat) : Nat := (S.rm h).toNatClampNeg
def stx (S : Sv) (x : Nat → Nat) (p : Nat) : Bool := S.st (x p) && (decide (ct (fun q => x q == x p) p < rmN S (x p)) && decide (ct (fun q => (x q == x p) && ff S p q) p = 0))
def mvx (S : Sv) (x : Nat → Nat) (p : Nat) : Nat := if S.wh p = nI (x p) then 0 else 1
def rsx (S : Sv) : Nat → (Nat → Nat) → Int → Bool
  | 0, _, a => decide (0 ≤ a)
  | k + 1, x, a => stx S x (S.P - (k + 1)) && rsx S k x (a - mvx S x (S.P - (k + 1)))
theorem stx_congr {S : Sv} {x y : Nat → Nat} {p : Nat} (h : ∀ q, q ≤ p → x q = y q) : stx S x p = stx S y p := by
  unfold stx
  rw [h p (Nat.le_refl p)]
  congr 1
  rw [ct_congr (p := fun q => x q == y p) (q := fun q => y q == y p) p (fun i hi => by rw [h i (by omega)]), ct_congr (p := fun q => (x q == y p) && ff S p q) (q := fun q => (y q == y p) && ff S p q) p (fun i hi => by rw [h i (by omega)])]
theorem mvx_congr {S : Sv} {x y : Nat → Nat} {p : Nat} (h : x p = y p) : mvx S x p = mvx S y p := by unfold mvx; rw [h]
theorem mvx_le (S : Sv) (x : Nat → Nat) (p : Nat) : mvx S x p ≤ 1 := by unfold mvx; split <;> omega
theorem rsx_neg {S : Sv} {x : Nat → Nat} : ∀ k a, a < 0 → rsx S k x a = false
  | 0, a, h => decide_eq_false (by omega)
  | k + 1, a, h => by
    show (stx S x (S.P - (k + 1)) && rsx S k x (a - mvx S x (S.P - (k + 1)))) = false
    rw [rsx_neg k _ (by omega), Bool.and_false]
theorem fnd_lsc {P : Nat → Bool} {N : Nat} {g : Nat → Option Nat} : ∀ n, (∀ h, h < n → g h = (lsc (fun c => P (h * N + c)) N).map (h * N + ·)) → fnd g n = lsc P (n * N)
  | 0, _ => by rw [Nat.zero_mul]; rfl
  | n + 1, hg => by
    rw [Nat.add_mul, Nat.one_mul, lsc_add]
    show (fnd g n).or (g n) = _
    rw [fnd_lsc n (fun h hh => hg h (by omega)), hg n (by omega)]
theorem dig_up {p k cp c q : Nat} (hc : c < 5 ^ k) (hq : q < p) : dig (p + k) (cp * 5 ^ k + c) q = dig p cp q := by
  unfold dig
  rw [show p + k - 1 - q = k + (p - 1 - q) by omega, Nat.pow_add, ← Nat.div_div_eq_div_mul, (div_q hc).1]
def fmx (S : Sv) (x : Nat → Nat) (p h f : Nat) : Bool := (List.range p).any fun q => (x q == h) && decide (S.fa q = nI f)
def pcx (S : Sv) (k cp : Nat) (a : Int) (c : Nat) : Bool := rsx S k (dig S.P (cp * 5 ^ k + c)) a
theorem pcx_s {S : Sv} {k p cp h c : Nat} {a : Int} (hp : p + (k + 1) = S.P) (hc : c < 5 ^ k) : pcx S (k + 1) cp a (h * 5 ^ k + c) = (stx S (dig (p + 1) (cp * 5 + h)) p && pcx S k (cp * 5 + h) (a - mvx S (dig (p + 1) (cp * 5 + h)) p) c) := by
  have e : cp * 5 ^ (k + 1) + (h * 5 ^ k + c) = (cp * 5 + h) * 5 ^ k + c := by
    rw [Nat.pow_succ, Nat.mul_comm (5 ^ k) 5, Nat.add_mul, Nat.mul_assoc, Nat.add_assoc]
  have eq : S.P - (k + 1) = p := by omega
  have d : ∀ q, q ≤ p → dig S.P ((cp * 5 + h) * 5 ^ k + c) q = dig (p + 1) (cp * 5 + h) q := fun q hq => by
    rw [show S.P = p + 1 + k by omega]; exact dig_up hc (by omega)
  unfold pcx
  rw [e]
  show (stx S (dig S.P ((cp * 5 + h) * 5 ^ k + c)) (S.P - (k + 1)) && rsx S k (dig S.P ((cp * 5 + h) * 5 ^ k + c)) (a - mvx S (dig S.P ((cp * 5 + h) * 5 ^ k + c)) (S.P - (k + 1)))) = _
  rw [eq, stx_congr d, mvx_congr (d p (Nat.le_refl p))]
section LOD
variable {L : HL} {a0 a1 : Nat} {S : Sv}
/-- who is lodged so far -/
def LV (S : Sv) (L : HL) (a0 p cp : Nat) : Prop := ∀ h, h < 5 → L.1 (a0 + 1) h = nI (ct (fun q => dig p cp q == h) p) ∧ L.1 (a0 + 2) h = nI (mask (fmx S (dig p cp) p h) 4)
theorem mayLiveF (hS : SC L a1 S) (hW : WF S) {p cp h : Nat} (hp : p < S.P) (hh : h < S.H) (hL : LV S L a0 p cp) : fX1_mayLive a0 a1 (nI p) (nI h) L = some (bI (stx S (dig (p + 1) (cp * 5 + h)) p)) := by
  have h5 := hW.H5
  have h6 := hW.P6
  obtain ⟨f, hf, ef⟩ := hW.fa p hp
  obtain ⟨r, hr, er⟩ := hW.rm h hh
  obtain ⟨v1, v2⟩ := hL h (by omega)
  have hx : dig (p + 1) (cp * 5 + h) p = h := dig_last (by omega)
  have c1 : ct (fun q => dig (p + 1) (cp * 5 + h) q == h) p = ct (fun q => dig p cp q == h) p := ct_congr p fun q hq => by rw [dig_pre (by omega) hq]
  have c2 : ct (fun q => (dig (p + 1) (cp * 5 + h) q == h) && ff S p q) p = ct (fun q => (dig p cp q == h) && ff S p q) p := ct_congr p fun q hq => by rw [dig_pre (by omega) hq]
  have ern : rmN S h = r := by unfold rmN; rw [er, nI_cl (by omega)]
  have hcp := ct_le (fun q => dig p cp q == h) p
  unfold fX1_mayLive
  rw [hS.standsF, bd_some, stI_n S (by omega)]
  unfold stx
  rw [hx, c1, c2, ern]
  cases st : S.st h
  · rw [if_pos (by decide)]; rfl
  have rA : L.1 (a1 + 1) (nI h).toNatClampNeg = nI r := by rw [nI_cl (by omega)]; exact (hS.rm h hh).trans er
  have rB : L.1 (a0 + 1) (nI h).toNatClampNeg = nI (ct (fun q => dig p cp q == h) p) := by rw [nI_cl (by omega)]; exact v1
  have rC : L.1 (a1 + 8) (nI p).toNatClampNeg = nI f := by rw [nI_cl (by omega)]; exact (hS.fa p hp).trans ef
  have rD : L.1 (a0 + 2) (nI h).toNatClampNeg = nI (mask (fmx S (dig p cp) p h) 4) := by rw [nI_cl (by omega)]; exact v2
  rw [if_neg (by decide), gd_of (vin_nI (by omega) (by omega)), gd_of (vin_nI (by omega) (by omega)), Bool.true_and]
  by_cases cl : r ≤ ct (fun q => dig p cp q == h) p
  · rw [if_pos (by rw [rA, rB, nQ_le (by omega) (by omega)]; exact cl), decide_eq_false (by omega)]; rfl
  rw [if_neg (by rw [rA, rB, nQ_le (by omega) (by omega)]; exact cl), decide_eq_true (by omega), Bool.true_and, gd_of (vin_nI (by omega) (by omega)), gd_of (vin_nI (by omega) (by omega)), rC, rD, i_shl (n := 4) (by omega) hf, hS.isQuietF, bd_some]
  have e : qt S (fun i => i == f) (fmx S (dig p cp) p h) = decide (ct (fun q => (dig p cp q == h) && ff S p q) p = 0) := by
    rw [Bool.eq_iff_iff, qt_t, decide_eq_true_eq]
    constructor
    · intro H
      refine ct_none p fun q hq => ?_
      cases e1 : (dig p cp q == h)
      · rfl
      · obtain ⟨g, hg, eg⟩ := hW.fa q (by omega)
        have := H f hf (by rw [beq_self_eq_true]) g hg
        have fx : fmx S (dig p cp) p h g = true := by
          unfold fmx; rw [any_t]
          exact ⟨q, hq, by rw [e1, eg, decide_eq_true rfl]; rfl⟩
        rw [fx, Bool.and_true] at this
        unfold ff
        rw [ef, eg, nI_cl (by omega), nI_cl (by omega), this]; rfl
    · intro H f' hf' e1 g hg
      rw [beq_iff_eq] at e1
      subst e1
      cases e2 : (S.fe f' g && fmx S (dig p cp) p h g)
      · rfl
      · rw [Bool.and_eq_true] at e2
        unfold fmx at e2
        rw [any_t] at e2
        obtain ⟨e3, q, hq, e4⟩ := e2
        rw [Bool.and_eq_true, decide_eq_true_eq] at e4
        have := ct_zero H q hq
        unfold ff at this
        rw [e4.1, ef, e4.2, nI_cl (by omega), nI_cl (by omega), e3] at this
        cases this
  rw [e]
  cases decide (ct (fun q => (dig p cp q == h) && ff S p q) p = 0)
  · rw [if_pos (by decide)]; rfl
  · rw [if_neg (by decide)]; rfl
theorem LV.next {L' : HL} {p cp h : Nat} {f : Nat} (hL : LV S L a0 p cp) (hh : h < 5) (hf : f < 4) (ef : S.fa p = nI f) (e1 : ∀ h', h' < 5 → L'.1 (a0 + 1) h' = if h' = h then L.1 (a0 + 1) h' + 1 else L.1 (a0 + 1) h') (e2 : ∀ h', h' < 5 → L'.1 (a0 + 2) h' = if h' = h then L.1 (a0 + 2) h' ||| ((1 : Int32) <<< (nI f &&& 31)) else L.1 (a0 + 2) h') : LV S L' a0 (p + 1) (cp * 5 + h) := by
  intro h' hh'
  obtain ⟨v1, v2⟩ := hL h' hh'
  have c1 : ct (fun q => dig (p + 1) (cp * 5 + h) q == h') p = ct (fun q => dig p cp q == h') p := ct_congr p fun q hq => by rw [dig_pre hh hq]
  have hx : dig (p + 1) (cp * 5 + h) p = h := dig_last hh
  have c2 : ∀ g, ((List.range p).any fun q => (dig (p + 1) (cp * 5 + h) q == h') && decide (S.fa q = nI g)) = (List.range p).any fun q => (dig p cp q == h') && decide (S.fa q = nI g) := by
    intro g
    rw [Bool.eq_iff_iff, any_t, any_t]
    constructor
    · rintro ⟨q, hq, e⟩; exact ⟨q, hq, by rw [dig_pre hh hq] at e; exact e⟩
    · rintro ⟨q, hq, e⟩; exact ⟨q, hq, by rw [dig_pre hh hq]; exact e⟩
  rw [e1 h' hh', e2 h' hh', ct_s, c1]
  by_cases e : h' = h
  · subst e
    rw [if_pos rfl, if_pos rfl, v1, v2, i_shl (n := 4) (by omega) hf, i_or (by omega), hx, beq_self_eq_true, nQ_s]
    refine ⟨rfl, congrArg nI (mask_congr 4 fun g hg => ?_)⟩
    unfold fmx
    rw [any_s, c2, hx, beq_self_eq_true, Bool.true_and, ef]
    congr 1
    by_cases k : g = f
    · subst k; rw [beq_self_eq_true, decide_eq_true rfl]
    · rw [beq_false_of_ne k, decide_eq_false (by rw [nQ_eq (by omega) (by omega)]; exact fun z => k z.symm)]
  · have ne : (h == h') = false := beq_false_of_ne (fun z => e z.symm)
    rw [if_neg e, if_neg e, v1, v2, hx, ne]
    refine ⟨rfl, congrArg nI (mask_congr 4 fun g hg => ?_)⟩
    unfold fmx
    rw [any_s, c2, hx, ne, Bool.false_and, Bool.or_false]
theorem lodgeF (hS0 : ∀ {L L' : HL}, Fr (fun a => a = a0 + 1 ∨ a = a0 + 2 ∨ a = a0 + 3) L L' → SC L a1 S → SC L' a1 S) (hW : WF S) : ∀ (k fu : Nat), k < fu → ∀ (L : HL) (p cp : Nat) (a : Int), p + k = S.P → SC L a1 S → -1 ≤ a → a ≤ 6 → LV S L a0 p cp → (∀ q, q < p → L.1 (a0 + 3) q = nI (dig p cp q)) → (lsc (pcx S k cp a) (5 ^ k) = none ∧ ∃ L', fX1_lodge fu a0 a1 (nI p) (iI a) L = some (0, L') ∧ LV S L' a0 p cp ∧ (∀ q, q < p → L'.1 (a0 + 3) q = L.1 (a0 + 3) q) ∧ Fr (fun a => a = a0 + 1 ∨ a = a0 + 2 ∨ a = a0 + 3) L L') ∨ ∃ v, lsc (pcx S k cp a) (5 ^ k) = some v ∧ ∃ L', fX1_lodge fu a0 a1 (nI p) (iI a) L = some (1, L') ∧ (∀ q, q < S.P → L'.1 (a0 + 3) q = nI (dig S.P (cp * 5 ^ k + v) q)) ∧ Fr (fun a => a = a0 + 1 ∨ a = a0 + 2 ∨ a = a0 + 3) L L' := by
  intro k
  have h5 := hW.H5
  have h6 := hW.P6
  induction k with
  | zero =>
    intro fu hfu L p cp a hpk hS ha ha' hL hb
    obtain ⟨fu, rfl⟩ : ∃ q, fu = q + 1 := ⟨fu - 1, by omega⟩
    have ef : fX1_lodge (fu + 1) a0 a1 (nI p) (iI a) L = fX1_lodge_s (fX1_lodge fu) a0 a1 (nI p) (iI a) L := rfl
    rw [ef]
    unfold fX1_lodge_s
    have e2 : lsc (pcx S 0 cp a) (5 ^ 0) = if 0 ≤ a then some 0 else none := by
      show Option.or none (if decide (0 ≤ a) = true then some 0 else none) = _
      simp only [decide_eq_true_eq]; rfl
    rw [e2]
    by_cases c : 0 ≤ a
    · refine .inr ⟨0, if_pos c, L, ?_, fun q hq => ?_, Fr.refl L⟩
      · rw [if_pos (by rw [show (0 : Int32) = iI 0 from rfl, iI_le (by omega) (by omega) (by omega) (by omega)]; exact c), hS.P, if_pos (by rw [nQ_le (by omega) (by omega)]; omega)]
      · rw [hb q (by omega), Nat.pow_zero, Nat.mul_one, Nat.add_zero, show S.P = p by omega]
    · refine .inl ⟨if_neg c, L, ?_, hL, fun q hq => rfl, Fr.refl L⟩
      rw [if_neg (by rw [show (0 : Int32) = iI 0 from rfl, iI_le (by omega) (by omega) (by omega) (by omega)]; exact c)]
  | succ k ih =>
    intro fu hfu L p cp a hpk hS ha ha' hL hb
    obtain ⟨fu, rfl⟩ : ∃ q, fu = q + 1 := ⟨fu - 1, by omega⟩
    have ef : fX1_lodge (fu + 1) a0 a1 (nI p) (iI a) L = fX1_lodge_s (fX1_lodge fu) a0 a1 (nI p) (iI a) L := rfl
    rw [ef]
    unfold fX1_lodge_s
    by_cases c : ¬ 0 ≤ a
    · refine .inl ⟨lsc_no _ fun i hi => rsx_neg _ _ (by omega), L, ?_, hL, fun q hq => rfl, Fr.refl L⟩
      rw [if_neg (by rw [show (0 : Int32) = iI 0 from rfl, iI_le (by omega) (by omega) (by omega) (by omega)]; exact c)]
    have c : 0 ≤ a := by omega
    rw [if_pos (by rw [show (0 : Int32) = iI 0 from rfl, iI_le (by omega) (by omega) (by omega) (by omega)]; exact c), hS.P, if_neg (by rw [nQ_le (by omega) (by omega)]; omega), if_pos (by rw [l6, nQ_lt (by omega) (by omega)]; omega)]
    have hp : p < S.P := by omega
    obtain ⟨f, hf, efa⟩ := hW.fa p hp
    have lpr := lp_fnd (f := fun s29 : Int32 × HL => fX1_lodge_b25 (fX1_lodge fu) a0 a1 (nI p) (iI a) s29.1 s29.2) (s0 := ((0 : Int32), L)) S.H (fun i t => ∃ L2, t = (nI i, L2) ∧ LV S L2 a0 p cp ∧ (∀ q, q < p → L2.1 (a0 + 3) q = L.1 (a0 + 3) q) ∧ Fr (fun a => a = a0 + 1 ∨ a = a0 + 2 ∨ a = a0 + 3) L L2) (fun h => (lsc (fun c => pcx S (k + 1) cp a (h * 5 ^ k + c)) (5 ^ k)).map (h * 5 ^ k + ·)) (fun v z => z.1 = 1 ∧ (∀ q, q < S.P → z.2.1 (a0 + 3) q = nI (dig S.P (cp * 5 ^ (k + 1) + v) q)) ∧ Fr (fun a => a = a0 + 1 ∨ a = a0 + 2 ∨ a = a0 + 3) L z.2) (by rw [FU_20000]; omega) ⟨L, rfl, hL, fun q hq => rfl, Fr.refl L⟩ (by
      rintro i _ hi ⟨L2, rfl, v2, b2, f2⟩
      have hS2 := hS0 f2 hS
      have el : lsc (fun c => pcx S (k + 1) cp a (i * 5 ^ k + c)) (5 ^ k) = lsc (fun c => stx S (dig (p + 1) (cp * 5 + i)) p && pcx S k (cp * 5 + i) (a - mvx S (dig (p + 1) (cp * 5 + i)) p) c) (5 ^ k) := lsc_congr _ fun c hc => pcx_s hpk hc
      unfold fX1_lodge_b25
      dsimp only
      rw [el, hS2.H, if_neg (by rw [nQ_le (by omega) (by omega)]; omega), mayLiveF hS2 hW hp hi v2, bd_some]
      cases cs : stx S (dig (p + 1) (cp * 5 + i)) p
      · rw [if_pos (by decide), lt_eq, nQ_s]
        refine .inl ⟨?_, _, rfl, L2, rfl, v2, b2, f2⟩
        rw [lsc_no _ (fun c _ => by rw [Bool.false_and])]; rfl
      rw [if_neg (by decide)]
      simp only [Bool.true_and]
      have hx : dig (p + 1) (cp * 5 + i) p = i := dig_last (by omega)
      simp only [gd_of (vin_nI (show i < 5 by omega) (show 5 < 2147483648 by omega)), gd_of (vin_nI (show p < 6 by omega) (show 6 < 2147483648 by omega)), nI_cl (show i < 2147483648 by omega), nI_cl (show p < 2147483648 by omega), lt_eq, hS2.fa p hp, efa]
      -- the three writes
      have w1 : ∀ h', (wI (wI (wI L2 (a0 + 2) i (L2.1 (a0 + 2) i ||| ((1 : Int32) <<< (nI f &&& 31)))) (a0 + 1) i ((wI L2 (a0 + 2) i (L2.1 (a0 + 2) i ||| ((1 : Int32) <<< (nI f &&& 31)))).1 (a0 + 1) i + 1)) (a0 + 3) p (nI i)).1 (a0 + 1) h' = if h' = i then L2.1 (a0 + 1) h' + 1 else L2.1 (a0 + 1) h' := fun h' => by
        rw [wQ_ne (by omega), wQ_at, if_pos rfl, wQ_ne (show a0 + 1 ≠ a0 + 2 by omega)]
        by_cases e : h' = i
        · subst e; rfl
        · rw [if_neg e, if_neg e]
      have w2 : ∀ h', (wI (wI (wI L2 (a0 + 2) i (L2.1 (a0 + 2) i ||| ((1 : Int32) <<< (nI f &&& 31)))) (a0 + 1) i ((wI L2 (a0 + 2) i (L2.1 (a0 + 2) i ||| ((1 : Int32) <<< (nI f &&& 31)))).1 (a0 + 1) i + 1)) (a0 + 3) p (nI i)).1 (a0 + 2) h' = if h' = i then L2.1 (a0 + 2) h' ||| ((1 : Int32) <<< (nI f &&& 31)) else L2.1 (a0 + 2) h' := fun h' => by
        rw [wQ_ne (by omega), wQ_ne (by omega), wQ_at, if_pos rfl]
        by_cases e : h' = i
        · subst e; rfl
        · rw [if_neg e, if_neg e]
      have w3 : ∀ q, (wI (wI (wI L2 (a0 + 2) i (L2.1 (a0 + 2) i ||| ((1 : Int32) <<< (nI f &&& 31)))) (a0 + 1) i ((wI L2 (a0 + 2) i (L2.1 (a0 + 2) i ||| ((1 : Int32) <<< (nI f &&& 31)))).1 (a0 + 1) i + 1)) (a0 + 3) p (nI i)).1 (a0 + 3) q = if q = p then nI i else L2.1 (a0 + 3) q := fun q => by
        rw [wQ_at, if_pos rfl, wQ_ne (by omega), wQ_ne (by omega)]
      have w4 : Fr (fun a => a = a0 + 1 ∨ a = a0 + 2 ∨ a = a0 + 3) L2 (wI (wI (wI L2 (a0 + 2) i (L2.1 (a0 + 2) i ||| ((1 : Int32) <<< (nI f &&& 31)))) (a0 + 1) i ((wI L2 (a0 + 2) i (L2.1 (a0 + 2) i ||| ((1 : Int32) <<< (nI f &&& 31)))).1 (a0 + 1) i + 1)) (a0 + 3) p (nI i)) := (((Fr.refl L2).wI (.inr (.inl rfl)) _ _).wI (.inl rfl) _ _).wI (.inr (.inr rfl)) _ _
      generalize wI (wI (wI L2 (a0 + 2) i (L2.1 (a0 + 2) i ||| ((1 : Int32) <<< (nI f &&& 31)))) (a0 + 1) i ((wI L2 (a0 + 2) i (L2.1 (a0 + 2) i ||| ((1 : Int32) <<< (nI f &&& 31)))).1 (a0 + 1) i + 1)) (a0 + 3) p (nI i) = L3 at *
      have hS3 := hS0 w4 hS2
      have v3 : LV S L3 a0 (p + 1) (cp * 5 + i) := v2.next (by omega) hf efa (fun h' _ => w1 h') (fun h' _ => w2 h')
      have b3 : ∀ q, q < p + 1 → L3.1 (a0 + 3) q = nI (dig (p + 1) (cp * 5 + i) q) := fun q hq => by
        rw [w3]
        by_cases e : q = p
        · subst e; rw [if_pos rfl, hx]
        · rw [if_neg e, dig_pre (by omega) (by omega), b2 q (by omega)]; exact hb q (by omega)
      have hm := mvx_le S (dig (p + 1) (cp * 5 + i)) p
      have rcu := ih fu (by omega) L3 (p + 1) (cp * 5 + i) (a - mvx S (dig (p + 1) (cp * 5 + i)) p) (by omega) hS3 (by omega) (by omega) v3 b3
      have j113 : ∀ s4 : Int32, iI a - s4 = iI (a - mvx S (dig (p + 1) (cp * 5 + i)) p) → ((lsc (pcx S k (cp * 5 + i) (a - mvx S (dig (p + 1) (cp * 5 + i)) p)) (5 ^ k)).map (i * 5 ^ k + ·) = none ∧ ∃ s', fX1_lodge_j113 (fX1_lodge fu) a0 a1 (nI p) (iI a) (nI i) (L2.1 (a0 + 2) i) (nI p + 1) (iI a) s4 L3 = some (.inl s') ∧ ∃ L2, s' = (nI (i + 1), L2) ∧ LV S L2 a0 p cp ∧ (∀ q, q < p → L2.1 (a0 + 3) q = L.1 (a0 + 3) q) ∧ Fr (fun a => a = a0 + 1 ∨ a = a0 + 2 ∨ a = a0 + 3) L L2) ∨ ∃ v x, (lsc (pcx S k (cp * 5 + i) (a - mvx S (dig (p + 1) (cp * 5 + i)) p)) (5 ^ k)).map (i * 5 ^ k + ·) = some v ∧ fX1_lodge_j113 (fX1_lodge fu) a0 a1 (nI p) (iI a) (nI i) (L2.1 (a0 + 2) i) (nI p + 1) (iI a) s4 L3 = some (.inr (.inr x)) ∧ x.1 = 1 ∧ (∀ q, q < S.P → x.2.1 (a0 + 3) q = nI (dig S.P (cp * 5 ^ (k + 1) + v) q)) ∧ Fr (fun a => a = a0 + 1 ∨ a = a0 + 2 ∨ a = a0 + 3) L x.2 := by
        intro s4 es
        unfold fX1_lodge_j113
        rw [es, nQ_s]
        rcases rcu with ⟨en, L4, e4, t1, t2, tf⟩ | ⟨v, ev, L4, e4, t2, tf⟩
        · rw [e4, bd_some, if_pos (show (0 : Int32) = 0 from rfl), en, gd_of (vin_nI (by omega) (by omega)), gd_of (vin_nI (by omega) (by omega)), lt_eq, gd_of (vin_nI (by omega) (by omega)), lt_eq, lt_eq, nQ_s, nI_cl (by omega)]
          refine .inl ⟨rfl, _, rfl, _, rfl, fun h' hh' => ?_, fun q hq => ?_, (((f2.trans w4).trans tf).wI (.inl rfl) _ _).wI (.inr (.inl rfl)) _ _⟩
          · obtain ⟨s1, s2⟩ := t1 h' hh'
            obtain ⟨o1, o2⟩ := v2 h' hh'
            obtain ⟨n1, n2⟩ := v3 h' hh'
            have x1 := w1 h'
            have x2 := w2 h'
            by_cases e : h' = i
            · subst e
              rw [if_pos rfl] at x1
              rw [wQ_ne (by omega), wQ_same, wQ_same, o2, s1, ← n1, x1, o1]
              exact ⟨by rw [nQ_s]; exact nQ_sub (b := 1) (by omega), rfl⟩
            · rw [if_neg e] at x1 x2
              rw [wQ_ne (by omega), wQ_other e, wQ_other e, wQ_ne (by omega), s1, s2, ← n1, ← n2, x1, x2]
              exact ⟨o1, o2⟩
          · rw [wQ_ne (by omega), wQ_ne (by omega), t2 q (by omega), w3, if_neg (by omega)]; exact b2 q hq
        · rw [e4, bd_some, if_neg (show ¬ (1 : Int32) = 0 by decide), ev]
          refine .inr ⟨_, _, rfl, rfl, rfl, fun q hq => ?_, (f2.trans w4).trans tf⟩
          have e : cp * 5 ^ (k + 1) + (i * 5 ^ k + v) = (cp * 5 + i) * 5 ^ k + v := by
            rw [Nat.pow_succ, Nat.mul_comm (5 ^ k) 5, Nat.add_mul, Nat.mul_assoc, Nat.add_assoc]
          show L4.1 (a0 + 3) q = nI (dig S.P (cp * 5 ^ (k + 1) + (i * 5 ^ k + v)) q)
          rw [e]; exact t2 q hq
      have ew : L3.1 (a1 + 9) p = S.wh p := hS3.wh p hp
      rw [ew]
      by_cases cw : S.wh p = nI i
      · rw [if_pos cw]
        exact j113 0 (by
          have : mvx S (dig (p + 1) (cp * 5 + i)) p = 0 := by unfold mvx; rw [hx, if_pos cw]
          rw [this, show (0 : Int32) = iI 0 from rfl, iI_sub]; rfl)
      · rw [if_neg cw]
        exact j113 1 (by
          have : mvx S (dig (p + 1) (cp * 5 + i)) p = 1 := by unfold mvx; rw [hx, if_neg cw]
          rw [this, show (1 : Int32) = iI 1 from rfl, iI_sub]; rfl)) (by
      rintro _ ⟨L2, rfl, v2, b2, f2⟩
      have hS2 := hS0 f2 hS
      unfold fX1_lodge_b25
      dsimp only
      rw [hS2.H, if_pos (by rw [nQ_le (by omega) (by omega)]; omega)])
    have efl : fnd (fun h => (lsc (fun c => pcx S (k + 1) cp a (h * 5 ^ k + c)) (5 ^ k)).map (h * 5 ^ k + ·)) S.H = lsc (pcx S (k + 1) cp a) (S.H * 5 ^ k) := fnd_lsc S.H fun h hh => rfl
    have eal : lsc (pcx S (k + 1) cp a) (5 ^ (k + 1)) = lsc (pcx S (k + 1) cp a) (S.H * 5 ^ k) := by
      have e : 5 ^ (k + 1) = S.H * 5 ^ k + (5 - S.H) * 5 ^ k := by rw [← Nat.add_mul, show S.H + (5 - S.H) = 5 by omega, Nat.pow_succ, Nat.mul_comm]
      rw [e, lsc_add]
      have : lsc (fun c => pcx S (k + 1) cp a (S.H * 5 ^ k + c)) ((5 - S.H) * 5 ^ k) = none := by
        refine lsc_no _ fun c hc => ?_
        have hN : 0 < 5 ^ k := Nat.pow_pos (by omega)
        have hdl : c / 5 ^ k < 5 - S.H := Nat.div_lt_of_lt_mul (by rw [Nat.mul_comm]; exact hc)
        have hcm : c % 5 ^ k < 5 ^ k := Nat.mod_lt _ hN
        have ec : S.H * 5 ^ k + c = (S.H + c / 5 ^ k) * 5 ^ k + c % 5 ^ k := by
          have := Nat.div_add_mod c (5 ^ k)
          rw [Nat.add_mul, Nat.mul_comm (c / 5 ^ k)]; omega
        rw [ec, pcx_s hpk hcm]
        have : stx S (dig (p + 1) (cp * 5 + (S.H + c / 5 ^ k))) p = false := by
          unfold stx
          rw [dig_last (by omega)]
          cases e : S.st (S.H + c / 5 ^ k)
          · rfl
          · exact absurd (hW.st _ e) (Nat.not_lt.mpr (Nat.le_add_right _ _))
        rw [this, Bool.false_and]
      rw [this]
      exact Option.or_none
    rw [eal, ← efl]
    rcases lpr with ⟨t, e, ⟨L2, rfl, v2, b2, f2⟩, hn⟩ | ⟨v, z, e, hv, z1, z2, zf⟩
    · refine .inl ⟨hn, L2, ?_, v2, b2, f2⟩
      rw [e, lx_inl]
    · refine .inr ⟨v, hv, z.2, ?_, z2, zf⟩
      rw [e, lx_inr, ← z1]
end LOD
