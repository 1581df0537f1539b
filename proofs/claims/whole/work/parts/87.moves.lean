/-! ===== moves agree ===== -/
def okR (S : Sv) (x : Nat → Nat) : Prop := ∀ p, p < S.P → stx S x p = true
theorem stx_t {S : Sv} {x : Nat → Nat} {p : Nat} : stx S x p = true ↔ S.st (x p) = true ∧ ct (fun q => x q == x p) p < rmN S (x p) ∧ ∀ q, q < p → x q = x p → ff S p q = false := by
  unfold stx
  rw [Bool.and_eq_true, Bool.and_eq_true, decide_eq_true_eq, decide_eq_true_eq]
  constructor
  · rintro ⟨h1, h2, h3⟩
    refine ⟨h1, h2, fun q hq e => ?_⟩
    have := ct_zero h3 q hq
    rw [e, beq_self_eq_true, Bool.true_and] at this
    exact this
  · rintro ⟨h1, h2, h3⟩
    refine ⟨h1, h2, ct_none p fun q hq => ?_⟩
    by_cases e : x q = x p
    · rw [h3 q hq e, Bool.and_false]
    · rw [beq_false_of_ne e, Bool.false_and]
theorem rsx_t {S : Sv} {x : Nat → Nat} : ∀ k a, k ≤ S.P → (rsx S k x a = true ↔ (∀ p, S.P - k ≤ p → p < S.P → stx S x p = true) ∧ (sm (mvx S x) S.P : Int) ≤ a + sm (mvx S x) (S.P - k))
  | 0, a, _ => by
    show decide (0 ≤ a) = true ↔ _
    rw [decide_eq_true_eq, Nat.sub_zero]
    constructor
    · intro h; exact ⟨fun p h1 h2 => by omega, by omega⟩
    · rintro ⟨-, h⟩; omega
  | k + 1, a, hk => by
    show (stx S x (S.P - (k + 1)) && rsx S k x (a - mvx S x (S.P - (k + 1)))) = true ↔ _
    rw [Bool.and_eq_true, rsx_t k _ (by omega)]
    have e : sm (mvx S x) (S.P - k) = sm (mvx S x) (S.P - (k + 1)) + mvx S x (S.P - (k + 1)) := by
      rw [show S.P - k = S.P - (k + 1) + 1 by omega]; rfl
    rw [e]
    constructor
    · rintro ⟨h1, h2, h3⟩
      refine ⟨fun p p1 p2 => ?_, by omega⟩
      by_cases c : p = S.P - (k + 1)
      · rw [c]; exact h1
      · exact h2 p (by omega) p2
    · rintro ⟨h1, h2⟩
      exact ⟨h1 _ (Nat.le_refl _) (by omega), fun p p1 p2 => h1 p (by omega) p2, by omega⟩
theorem fd_t {S : Sv} {X Y : Nat → Bool} : fd S X Y = false ↔ ∀ p, p < S.P → ∀ q, q < S.P → X p = true → Y q = true → ff S p q = false := by
  unfold fd
  rw [List.any_eq_false]
  constructor
  · intro h p hp q hq e1 e2
    have h1 := h p (List.mem_range.mpr hp)
    rw [Bool.not_eq_true, List.any_eq_false] at h1
    have h2 := h1 q (List.mem_range.mpr hq)
    rw [e1, e2] at h2
    revert h2
    cases ff S p q <;> simp
  · intro h p hp
    rw [Bool.not_eq_true, List.any_eq_false]
    intro q hq
    have hp := List.mem_range.mp hp
    have hq := List.mem_range.mp hq
    cases e1 : X p
    · simp
    · cases e2 : Y q
      · simp
      · rw [h p hp q hq e1 e2]; simp
/-- all in order at once, or one behind the other -/
theorem okx_iff {S : Sv} (hW : WF S) {x : Nat → Nat} (hx5 : ∀ p, x p < 5) : okx S x S.H = true ↔ okR S x := by
  have h5 := hW.H5
  have h6 := hW.P6
  have hrm : ∀ h, h < S.H → rmN S h < 10 ∧ S.rm h = nI (rmN S h) := fun h hh => by
    obtain ⟨r, hr, e⟩ := hW.rm h hh
    unfold rmN
    rw [e, nI_cl (by omega)]; exact ⟨hr, rfl⟩
  have hlv : ∀ h, h < 5 → lvn (whX S x S.P) (nI h) = ct (fun q => x q == h) S.P := fun h hh => ct_congr S.P fun p hp => by
    show decide ((if p < S.P then nI (x p) else S.wh p) = nI h) = (x p == h)
    have := hx5 p
    rw [if_pos hp]
    by_cases e : x p = h
    · rw [decide_eq_true (by rw [e]), e, beq_self_eq_true]
    · rw [decide_eq_false (by rw [nQ_eq (by omega) (by omega)]; exact e), beq_false_of_ne e]
  have hin : ∀ h, h < 5 → ∀ p, p < S.P → (lv (whX S x S.P) (nI h) p = true ↔ x p = h) := fun h hh p hp => by
    show (decide (p < S.P) && decide ((if p < S.P then nI (x p) else S.wh p) = nI h)) = true ↔ _
    have := hx5 p
    rw [if_pos hp, decide_eq_true hp, Bool.true_and, decide_eq_true_eq, nQ_eq (by omega) (by omega)]
  have hsym : ∀ p q, ff S p q = ff S q p := fun p q => hW.fs _ _
  have hg : ∀ h, h < S.H → (gdx (whX S x S.P) h = true ↔ ct (fun q => x q == h) S.P ≤ rmN S h ∧ ∀ p, p < S.P → ∀ q, q < S.P → x p = h → x q = h → ff S p q = false) := fun h hh => by
    obtain ⟨r1, r2⟩ := hrm h hh
    have hc := ct_le (fun q => x q == h) S.P
    have er : (whX S x S.P).rm h = nI (rmN S h) := r2
    unfold gdx
    rw [er, hlv h (by omega), Bool.and_eq_true, Bool.not_eq_true', Bool.not_eq_true', decide_eq_false_iff_not, nQ_lt (by omega) (by omega), fd_t]
    constructor
    · rintro ⟨h1, h2⟩
      exact ⟨by omega, fun p hp q hq e1 e2 => h2 p hp q hq ((hin h (by omega) p hp).mpr e1) ((hin h (by omega) q hq).mpr e2)⟩
    · rintro ⟨h1, h2⟩
      exact ⟨by omega, fun p hp q hq e1 e2 => h2 p hp q hq ((hin h (by omega) p hp).mp e1) ((hin h (by omega) q hq).mp e2)⟩
  unfold okx okR
  rw [Bool.and_eq_true, astx_t, alb_t]
  constructor
  · rintro ⟨h1, h2⟩ p hp
    have hs := h1 p hp
    obtain ⟨g1, g2⟩ := (hg _ (hW.st _ hs)).mp (h2 _ (hW.st _ hs))
    refine stx_t.mpr ⟨hs, ?_, fun q hq e => g2 p hp q (by omega) rfl e⟩
    have hm := ct_mono (fun q => x q == x p) (i := p + 1) (S.P - (p + 1))
    rw [show p + 1 + (S.P - (p + 1)) = S.P by omega, ct_s, if_pos (by rw [beq_self_eq_true])] at hm
    omega
  · intro h
    refine ⟨fun p hp => (stx_t.mp (h p hp)).1, fun h' hh' => (hg h' hh').mpr ⟨?_, fun p hp q hq e1 e2 => ?_⟩⟩
    · have key : ∀ n, n ≤ S.P → ct (fun q => x q == h') n ≤ rmN S h' := by
        intro n
        induction n with
        | zero => intro _; exact Nat.zero_le _
        | succ n ih =>
          intro hn
          rw [ct_s]
          by_cases e : x n = h'
          · have := (stx_t.mp (h n (by omega))).2.1
            rw [e] at this
            split <;> omega
          · rw [if_neg (by rw [beq_false_of_ne e]; decide)]; exact ih (by omega)
      exact key S.P (Nat.le_refl _)
    · rcases Nat.lt_trichotomy p q with c | c | c
      · rw [hsym]; exact (stx_t.mp (h q hq)).2.2 p c (e1.trans e2.symm)
      · subst c
        exact hW.fi _
      · exact (stx_t.mp (h p hp)).2.2 q c (e2.trans e1.symm)
def cstx (S : Sv) (c : Nat) : Nat := if okx S (dig S.P c) S.H then sm (mvx S (dig S.P c)) S.P else 1000000
theorem sm_le {f : Nat → Nat} (h : ∀ i, f i ≤ 1) : ∀ n, sm f n ≤ n
  | 0 => Nat.le_refl _
  | n + 1 => by
    have := sm_le h n
    have := h n
    show sm f n + f n ≤ n + 1
    omega
theorem pcx_c {S : Sv} (hW : WF S) {c a : Nat} (ha : a ≤ 6) : pcx S S.P 0 (a : Int) c = decide (cstx S c ≤ a) := by
  unfold pcx cstx
  rw [Nat.zero_mul, Nat.zero_add, Bool.eq_iff_iff, rsx_t _ _ (Nat.le_refl _), Nat.sub_self, decide_eq_true_eq]
  have hi := okx_iff hW (x := dig S.P c) (dig_lt _ _)
  constructor
  · rintro ⟨h1, h2⟩
    rw [if_pos (hi.mpr fun p hp => h1 p (by omega) hp)]
    have : sm (mvx S (dig S.P c)) 0 = 0 := rfl
    omega
  · intro h
    by_cases e : okx S (dig S.P c) S.H = true
    · rw [if_pos e] at h
      exact ⟨fun p _ hp => hi.mp e p hp, by have : sm (mvx S (dig S.P c)) 0 = 0 := rfl; omega⟩
    · rw [if_neg e] at h; omega
def mbs (f : Nat → Nat) : Nat → Option Nat × Nat
  | 0 => (none, 1000000)
  | i + 1 => if (mbs f i).2 ≤ f i then mbs f i else (some i, f i)
theorem mbs_spec (f : Nat → Nat) : ∀ N, ((mbs f N).1 = none ∧ (mbs f N).2 = 1000000 ∧ ∀ c, c < N → 1000000 ≤ f c) ∨ ∃ v, (mbs f N).1 = some v ∧ v < N ∧ (mbs f N).2 = f v ∧ f v < 1000000 ∧ (∀ c, c < v → f v < f c) ∧ ∀ c, c < N → f v ≤ f c
  | 0 => .inl ⟨rfl, rfl, fun c hc => by omega⟩
  | N + 1 => by
    have ih := mbs_spec f N
    unfold mbs
    by_cases e : (mbs f N).2 ≤ f N
    · rw [if_pos e]
      rcases ih with ⟨h1, h2, h3⟩ | ⟨v, h1, h2, h3, h4, h5, h6⟩
      · refine .inl ⟨h1, h2, fun c hc => ?_⟩
        by_cases k : c = N
        · rw [k]; omega
        · exact h3 c (by omega)
      · refine .inr ⟨v, h1, by omega, h3, h4, h5, fun c hc => ?_⟩
        by_cases k : c = N
        · rw [k]; omega
        · exact h6 c (by omega)
    · rw [if_neg e]
      rcases ih with ⟨h1, h2, h3⟩ | ⟨v, h1, h2, h3, h4, h5, h6⟩
      · refine .inr ⟨N, rfl, by omega, rfl, by omega, fun c hc => ?_, fun c hc => ?_⟩
        · have := h3 c hc; omega
        · by_cases k : c = N
          · rw [k]; exact Nat.le_refl _
          · have := h3 c (by omega); omega
      · refine .inr ⟨N, rfl, by omega, rfl, by omega, fun c hc => ?_, fun c hc => ?_⟩
        · have := h6 c hc; omega
        · by_cases k : c = N
          · rw [k]; exact Nat.le_refl _
          · have := h6 c (by omega); omega
theorem lsc_of {P : Nat → Bool} {N v : Nat} (h1 : P v = true) (h2 : v < N) (h3 : ∀ c, c < v → P c = false) : lsc P N = some v := by
  have e : lsc P (v + 1) = some v := by rw [lsc_s, lsc_no v h3, h1]; rfl
  have := lsc_add P (v + 1) (N - (v + 1))
  rw [show v + 1 + (N - (v + 1)) = N by omega, e] at this
  exact this
def mva (S : Sv) (w : Int32) : Int32 := match (mbs (cstx S) (5 ^ S.P)).1 with
  | none => -1
  | some v => if w = -1 then nI (mbs (cstx S) (5 ^ S.P)).2 else if nI S.P ≤ w then -5 else nI (dig S.P v w.toNatClampNeg)
theorem mva_n {S : Sv} {w : Int32} (h : (mbs (cstx S) (5 ^ S.P)).1 = none) : mva S w = -1 := by unfold mva; rw [h]
theorem mva_s {S : Sv} {w : Int32} {v : Nat} (h : (mbs (cstx S) (5 ^ S.P)).1 = some v) : mva S w = if w = -1 then nI (mbs (cstx S) (5 ^ S.P)).2 else if nI S.P ≤ w then -5 else nI (dig S.P v w.toNatClampNeg) := by unfold mva; rw [h]
theorem pow5_6 {n : Nat} (h : n ≤ 6) : 5 ^ n ≤ 15625 := by
  rcases (show n = 0 ∨ n = 1 ∨ n = 2 ∨ n = 3 ∨ n = 4 ∨ n = 5 ∨ n = 6 by omega) with rfl | rfl | rfl | rfl | rfl | rfl | rfl <;> decide
section MVS
variable {L : HL} {m B : Nat} {S : Sv} {G : Gv}
theorem seekLF (hS : SC L (B + 1) S) (hW : WF S) : ((mbs (cstx S) (5 ^ S.P)).1 = none ∧ ∃ L', fX1_seek (B + 174) (B + 1) L = some (-1, L') ∧ Fr (scr B) L L') ∨ ∃ v, (mbs (cstx S) (5 ^ S.P)).1 = some v ∧ (mbs (cstx S) (5 ^ S.P)).2 ≤ 6 ∧ ∃ L', fX1_seek (B + 174) (B + 1) L = some (nI (mbs (cstx S) (5 ^ S.P)).2, L') ∧ (∀ q, q < S.P → L'.1 (B + 174 + 3) q = nI (dig S.P v q)) ∧ Fr (scr B) L L' := by
  have h5 := hW.H5
  have h6 := hW.P6
  have sc : ∀ a, a = B + 174 + 1 ∨ a = B + 174 + 2 ∨ a = B + 174 + 3 → scr B a := fun a h => by unfold scr; omega
  have hS0 : ∀ {L L' : HL}, Fr (fun a => a = B + 174 + 1 ∨ a = B + 174 + 2 ∨ a = B + 174 + 3) L L' → SC L (B + 1) S → SC L' (B + 1) S := fun f h => h.frame fun a _ _ => f.1 a (by omega)
  -- what is known of the answer
  have hsp := mbs_spec (cstx S) (5 ^ S.P)
  have hpc : ∀ a : Nat, a ≤ 6 → lsc (pcx S S.P 0 (a : Int)) (5 ^ S.P) = lsc (fun c => decide (cstx S c ≤ a)) (5 ^ S.P) := fun a ha => lsc_congr _ fun c _ => pcx_c hW ha
  have h2 : ∃ z, fX1_seek (B + 174) (B + 1) L = some z ∧ ((fnd (fun a => (lsc (pcx S S.P 0 (a : Int)) (5 ^ S.P)).map fun v => (a, v)) (S.P + 1) = none ∧ z.1 = -1 ∧ Fr (scr B) L z.2) ∨ ∃ w : Nat × Nat, fnd (fun a => (lsc (pcx S S.P 0 (a : Int)) (5 ^ S.P)).map fun v => (a, v)) (S.P + 1) = some w ∧ z.1 = nI w.1 ∧ (∀ q, q < S.P → z.2.1 (B + 174 + 3) q = nI (dig S.P w.2 q)) ∧ Fr (scr B) L z.2) := by
    unfold fX1_seek
    refine lx_inv 5 (fun i t => ∃ L2, t = (nI i, L2) ∧ (∀ h, h < i → L2.1 (B + 174 + 1) h = 0 ∧ L2.1 (B + 174 + 2) h = 0) ∧ Fr (fun a => a = B + 174 + 1 ∨ a = B + 174 + 2 ∨ a = B + 174 + 3) L L2) (by decide) ⟨L, rfl, fun h hh => by omega, Fr.refl L⟩ ?_ ?_ ?_
    · rintro i _ hi ⟨L2, rfl, v, f⟩
      unfold fX1_seek_b2
      dsimp only
      rw [if_neg (by rw [l5, nQ_le (by omega) (by omega)]; omega), gd_of (vin_nI hi (by omega)), lt_eq, gd_of (vin_nI hi (by omega)), lt_eq, lt_eq, nQ_s, nI_cl (by omega)]
      refine ⟨_, rfl, _, rfl, fun h hh => ?_, (f.wI (.inl rfl) _ _).wI (.inr (.inl rfl)) _ _⟩
      by_cases e : h = i
      · subst e; exact ⟨by rw [wQ_ne (by omega), wQ_same], wQ_same _ _ _ _⟩
      · rw [wQ_ne (by omega), wQ_other e, wQ_other e, wQ_ne (by omega)]; exact v h (by omega)
    · rintro _ ⟨L2, rfl, -⟩
      rfl
    · rintro _ ⟨L2, rfl, v, f⟩
      dsimp only
      have hL2 : LV S L2 (B + 174) 0 0 := fun h hh => ⟨(v h hh).1, by
        rw [(v h hh).2]
        show (0 : Int32) = nI (mask (fun _ => false) 4)
        rw [mask_zero]; rfl⟩
      refine lx_fnd (S.P + 1) (fun i t => ∃ L3, t = (nI i, L3) ∧ LV S L3 (B + 174) 0 0 ∧ Fr (fun a => a = B + 174 + 1 ∨ a = B + 174 + 2 ∨ a = B + 174 + 3) L L3) (fun a => (lsc (pcx S S.P 0 (a : Int)) (5 ^ S.P)).map fun v => (a, v)) (fun w z => z.1 = nI w.1 ∧ (∀ q, q < S.P → z.2.1 (B + 174 + 3) q = nI (dig S.P w.2 q)) ∧ Fr (fun a => a = B + 174 + 1 ∨ a = B + 174 + 2 ∨ a = B + 174 + 3) L z.2) (by rw [FU_20000]; omega) ⟨L2, rfl, hL2, f⟩ ?_ ?_ ?_ ?_
      · rintro i _ hi ⟨L3, rfl, v3, f3⟩
        have hS3 := hS0 f3 hS
        unfold fX1_seek_b29
        dsimp only
        rw [hS3.P, if_neg (by rw [nQ_lt (by omega) (by omega)]; omega)]
        rcases lodgeF (a0 := B + 174) (a1 := B + 1) hS0 hW S.P 8 (by omega) L3 0 0 (i : Int) (by omega) hS3 (by omega) (by omega) v3 (fun q hq => by omega) with ⟨en, L4, e4, t1, -, tf⟩ | ⟨w, ew, L4, e4, t2, tf⟩
        · rw [show fX1_lodge 8 (B + 174) (B + 1) 0 (nI i) L3 = some (0, L4) by rw [← iI_nat]; exact e4, bd_some, if_pos (show (0 : Int32) = 0 from rfl), lt_eq, nQ_s, en]
          exact .inl ⟨rfl, _, rfl, L4, rfl, t1, f3.trans tf⟩
        · rw [show fX1_lodge 8 (B + 174) (B + 1) 0 (nI i) L3 = some (1, L4) by rw [← iI_nat]; exact e4, bd_some, if_neg (show ¬ (1 : Int32) = 0 by decide), ew]
          refine .inr ⟨(i, w), _, rfl, rfl, rfl, fun q hq => ?_, f3.trans tf⟩
          have := t2 q hq
          rwa [Nat.zero_mul, Nat.zero_add] at this
      · rintro _ ⟨L3, rfl, v3, f3⟩
        have hS3 := hS0 f3 hS
        unfold fX1_seek_b29
        dsimp only
        rw [hS3.P, if_pos (by rw [nQ_lt (by omega) (by omega)]; omega)]
      · rintro _ ⟨L3, rfl, v3, f3⟩ hn
        exact ⟨_, rfl, .inl ⟨hn, rfl, f3.mono sc⟩⟩
      · rintro w z hw ⟨z1, z2, zf⟩
        exact ⟨_, rfl, .inr ⟨w, hw, z1, z2, zf.mono sc⟩⟩
  obtain ⟨z, e, hz⟩ := h2
  rcases hsp with ⟨m1, m2, m3⟩ | ⟨v, m1, m2, m3, m4, m5, m6⟩
  · have fn : fnd (fun a => (lsc (pcx S S.P 0 (a : Int)) (5 ^ S.P)).map fun v => (a, v)) (S.P + 1) = none := (fnd_no _).mpr fun a ha => by
      rw [hpc a (by omega), lsc_no _ (fun c hc => decide_eq_false (by have := m3 c hc; omega))]; rfl
    rcases hz with ⟨-, z1, zf⟩ | ⟨w, hw, -⟩
    · exact .inl ⟨m1, z.2, by rw [← z1]; exact e, zf⟩
    · rw [fn] at hw; cases hw
  · have a6 : cstx S v ≤ S.P := by
      unfold cstx at m4 ⊢
      by_cases k : okx S (dig S.P v) S.H = true
      · rw [if_pos k]; exact sm_le (fun i => mvx_le _ _ _) _
      · rw [if_neg k] at m4; omega
    have fs : fnd (fun a => (lsc (pcx S S.P 0 (a : Int)) (5 ^ S.P)).map fun v => (a, v)) (S.P + 1) = some (cstx S v, v) := by
      refine fnd_at (i := cstx S v) ?_ ?_ (by omega)
      · refine (fnd_no _).mpr fun a ha => ?_
        rw [hpc a (by omega), lsc_no _ (fun c hc => decide_eq_false (by have := m6 c hc; omega))]; rfl
      · rw [hpc _ (by omega), lsc_of (P := fun c => decide (cstx S c ≤ cstx S v)) (v := v) (decide_eq_true (Nat.le_refl _)) m2 (fun c hc => decide_eq_false (by have := m5 c hc; omega))]; rfl
    rcases hz with ⟨hn, -⟩ | ⟨w, hw, z1, z2, zf⟩
    · rw [fs] at hn; cases hn
    · rw [fs] at hw
      cases hw
      exact .inr ⟨v, m1, by omega, z.2, by rw [m3, ← z1]; exact e, z2, zf⟩
theorem movesJ (hR : RC L (m + 1) S) (hW : WF S) (w : Int32) {β : Type} {k : Int32 × Int32 × Int32 × HL → Option β} {Q : β → Prop} (hk : ∀ L1 u, Fr (fun a => a = m + 9 ∨ a = m + 11) L L1 → ∃ y, k (oI (mbs (cstx S) (5 ^ S.P)).1, nI (mbs (cstx S) (5 ^ S.P)).2, u, L1) = some y ∧ Q y) {kr : Int32 × HL → Option β} : ∃ y, lx (lp (fun s10 : Int32 × Int32 × Int32 × HL => fX7_moves_b20 m w s10.1 s10.2.1 s10.2.2.1 s10.2.2.2) FU ((-1 : Int32), (1000000 : Int32), (0 : Int32), L)) kr k = some y ∧ Q y := by
  have h6 := hW.P6
  have hN := pow5_6 h6
  have hb : ∀ c, cstx S c ≤ 1000000 := fun c => by
    unfold cstx
    split
    · have := sm_le (f := mvx S (dig S.P c)) (fun i => mvx_le _ _ _) S.P
      omega
    · exact Nat.le_refl _
  have hmb : ∀ n, (mbs (cstx S) n).2 ≤ 1000000 := fun n => by
    rcases mbs_spec (cstx S) n with ⟨-, h2, -⟩ | ⟨v, -, -, h3, h4, -⟩
    · omega
    · omega
  have hco := codesF S.P (by omega)
  refine lx_inv (5 ^ S.P) (fun i t => ∃ L2, t = (oI (mbs (cstx S) i).1, nI (mbs (cstx S) i).2, nI i, L2) ∧ Fr (fun a => a = m + 9 ∨ a = m + 11) L L2) (by rw [FU_20000]; omega) ⟨L, rfl, Fr.refl L⟩ ?_ ?_ ?_
  · rintro i _ hi ⟨L2, rfl, f⟩
    have hR2 : RC L2 (m + 1) S := hR.frame (f.1 _ (by omega))
    show ∃ s', fX7_moves_b20 m w (oI (mbs (cstx S) i).1) (nI (mbs (cstx S) i).2) (nI i) L2 = some (Sum.inl s') ∧ ∃ L3, s' = (oI (if (mbs (cstx S) i).2 ≤ cstx S i then mbs (cstx S) i else (some i, cstx S i)).1, nI (if (mbs (cstx S) i).2 ≤ cstx S i then mbs (cstx S) i else (some i, cstx S i)).2, nI (i + 1), L3) ∧ Fr (fun a => a = m + 9 ∨ a = m + 11) L L3
    have hmi := hmb i
    have hci := hb i
    generalize mbs (cstx S) i = u at *
    obtain ⟨L3, e3, v3, f3⟩ := layHomesF hR2 hW (c := i) (by omega)
    have hR3 : RC L3 (m + 1) S := hR2.frame (f3.1 _ (by omega))
    obtain ⟨L4, e4, f4⟩ := movingF hR3 hW v3 (dig_lt _ _)
    have f5 : Fr (fun a => a = m + 9 ∨ a = m + 11) L L4 := (f.trans (f3.mono fun a h => .inr h)).trans (f4.mono fun a h => .inl h)
    have e4 : fX7_moving m L3 = some (nI (cstx S i), L4) := e4
    unfold fX7_moves_b20 fX7_moves_j58
    rw [c1q, hR2.P, hco, bd_some, if_neg (by rw [nQ_le (by omega) (by omega)]; omega), e3, bd_some, e4, bd_some]
    simp only [lt_eq, nQ_s]
    by_cases c : u.2 ≤ cstx S i
    · rw [if_pos (by rw [nQ_le (by omega) (by omega)]; exact c), if_pos (by rw [nQ_le (by omega) (by omega)]; exact c), if_pos c]
      exact ⟨_, rfl, L4, rfl, f5⟩
    · rw [if_neg (by rw [nQ_le (by omega) (by omega)]; exact c), if_neg (by rw [nQ_le (by omega) (by omega)]; exact c), if_neg c]
      exact ⟨_, rfl, L4, rfl, f5⟩
  · rintro _ ⟨L2, rfl, f⟩
    have hR2 : RC L2 (m + 1) S := hR.frame (f.1 _ (by omega))
    unfold fX7_moves_b20
    dsimp only
    rw [c1q, hR2.P, hco, bd_some, if_pos (by rw [nQ_le (by omega) (by omega)]; omega)]
  · rintro _ ⟨L2, rfl, f⟩
    exact hk _ _ f
end MVS
theorem ag_moves (B : Nat) (w : Int32) : Agree B (fX6_moves B w) (fX7_moves (B + 178) w) := fun G hW => by
  have h6 := hW.Q.W.P6
  have hW0 := hW.Q.W
  by_cases c4 : ¬ (-1 : Int32) ≤ w
  · refine ⟨-10, badG G, fun L h => ?_, fun L h => ?_, badG_w hW⟩
    · unfold fX6_moves
      rw [if_neg c4, bd_eta]; exact refK_bad (-10) L h
    · unfold fX7_moves
      rw [if_neg c4, bd_eta]; exact badJ (-10) L h
  have c4 : (-1 : Int32) ≤ w := Decidable.not_not.mp c4
  have dn : ∀ {q : Nat}, q < 1000 → ¬ nI q ≤ w → w ≠ -1 → ∃ j, j < q ∧ w = nI j := by
    intro q hq2 hq hd
    have a1 : (-1 : Int) ≤ w.toInt := by have := Int32.le_iff_toInt_le.mp c4; rwa [tl_m1] at this
    have a2 : w.toInt ≠ -1 := fun e => hd (Int32.toInt_inj.mp (by rw [e]; rfl))
    have a3 : ¬ (q : Int) ≤ w.toInt := fun e => hq (Int32.le_iff_toInt_le.mpr (by rw [nI_toI (by omega)]; exact e))
    exact nI_of_int (by omega) (by omega)
  refine ⟨mva G.S w, G, fun L h => ?_, fun L h => ?_, hW⟩
  · unfold fX6_moves
    rw [if_pos c4]
    rcases seekLF (B := B) h.Q.S hW0 with ⟨hn, L1, e1, f1⟩ | ⟨v, hv, hle, L1, e1, q1, f1⟩
    · rw [e1, bd_some, if_pos (show (-1 : Int32) = -1 from rfl)]
      exact ⟨_, rfl, (mva_n hn).symm, h.scrF f1 (fun a e => e)⟩
    · have fin := h.scrF f1 (fun a e => e)
      have hP := fin.1.Q.S.P
      rw [e1, bd_some, if_neg (by rw [nI_ne_neg' (by omega)]; exact not_false), mva_s hv]
      by_cases e : w = -1
      · rw [if_pos e, if_pos e]; exact ⟨_, rfl, rfl, fin⟩
      rw [if_neg e, if_neg e]
      by_cases e2 : nI G.S.P ≤ w
      · rw [if_pos (by rw [hP]; exact e2), if_pos e2]; exact ⟨_, rfl, rfl, fin⟩
      · obtain ⟨j, hj, rfl⟩ := dn (by omega) e2 e
        rw [if_neg (by rw [hP]; exact e2), if_neg e2, if_pos (by rw [l6, nQ_lt (by omega) (by omega)]; omega), gd_of (vin_nI (by omega) (by omega)), nI_cl (by omega)]
        exact ⟨_, rfl, q1 j hj, fin⟩
  · unfold fX7_moves
    rw [if_pos c4]
    refine movesJ h.Q.S hW0 w fun L1 u f1 => ?_
    obtain ⟨k1, g1⟩ := h.scrF f1 (fun a e => by omega)
    dsimp only
    rcases mbs_spec (cstx G.S) (5 ^ G.S.P) with ⟨hn, -, -⟩ | ⟨v, hv, hvN, -, -, -, -⟩
    · rw [hn, if_pos (show oI none = -1 from rfl)]
      exact ⟨_, rfl, (mva_n hn).symm, k1, g1⟩
    · have hN := pow5_6 h6
      obtain ⟨L2, e2, q2, f2⟩ := layHomesF k1.Q.S hW0 (c := v) (by omega)
      obtain ⟨k2, g2⟩ := k1.scrF f2 (fun a e => by omega)
      have g3 := g1.trans g2
      have hP := k2.Q.S.P
      rw [mva_s hv, hv, show oI (some v) = nI v from rfl, if_neg (show ¬ nI v = -1 by rw [nI_ne_neg' (by omega)]; exact not_false), e2, bd_some]
      by_cases e : w = -1
      · rw [if_pos e, if_pos e]; exact ⟨_, rfl, rfl, k2, g3⟩
      rw [if_neg e, if_neg e]
      by_cases e3 : nI G.S.P ≤ w
      · rw [if_pos (by rw [c1q, hP]; exact e3), if_pos e3]; exact ⟨_, rfl, rfl, k2, g3⟩
      · obtain ⟨j, hj, rfl⟩ := dn (by omega) e3 e
        rw [if_neg (by rw [c1q, hP]; exact e3), if_neg e3, gd_of (vin_nI (by omega) (by omega)), nI_cl (by omega)]
        exact ⟨_, rfl, q2 j hj, k2, g3⟩
