/-! ===== where all may live: the reference tries all ===== -/
/-- all below n are so -/
def alb (p : Nat → Bool) (n : Nat) : Bool := decide (ct (fun h => !p h) n = 0)
theorem alb_0 (p : Nat → Bool) : alb p 0 = true := rfl
theorem alb_t {p : Nat → Bool} {n : Nat} : alb p n = true ↔ ∀ i, i < n → p i = true := by
  unfold alb
  rw [decide_eq_true_eq]
  constructor
  · intro h i hi
    have := ct_zero h i hi
    revert this
    cases p i <;> simp
  · intro h
    exact ct_none n fun i hi => by rw [h i hi]; rfl
theorem alb_s (p : Nat → Bool) (n : Nat) : alb p (n + 1) = (alb p n && p n) := by
  rw [Bool.eq_iff_iff, Bool.and_eq_true, alb_t, alb_t]
  constructor
  · intro h; exact ⟨fun i hi => h i (by omega), h n (by omega)⟩
  · rintro ⟨h1, h2⟩ i hi
    by_cases e : i = n
    · rw [e]; exact h2
    · exact h1 i (by omega)
theorem alb_f {p : Nat → Bool} {i n : Nat} (h : alb p i = false) (hi : i ≤ n) : alb p n = false := by
  cases e : alb p n
  · rfl
  · rw [alb_t] at e
    rw [alb_t.mpr (fun j hj => e j (by omega))] at h
    cases h
def whX (S : Sv) (x : Nat → Nat) (i : Nat) : Sv := S.set_wh fun p => if p < i then nI (x p) else S.wh p
def astx (S : Sv) (x : Nat → Nat) (i : Nat) : Bool := alb (fun p => S.st (x p)) i
def gdx (T : Sv) (h : Nat) : Bool := !decide (T.rm h < nI (lvn T (nI h))) && !fd T (lv T (nI h)) (lv T (nI h))
def okx (S : Sv) (x : Nat → Nat) (i : Nat) : Bool := astx S x S.P && alb (gdx (whX S x S.P)) i
theorem astx_t {S : Sv} {x : Nat → Nat} {i : Nat} : astx S x i = true ↔ ∀ p, p < i → S.st (x p) = true := alb_t
theorem astx_s {S : Sv} {x : Nat → Nat} {i : Nat} : astx S x (i + 1) = (astx S x i && S.st (x i)) := alb_s _ i
theorem okx_0 (S : Sv) (x : Nat → Nat) : okx S x 0 = astx S x S.P := by unfold okx; rw [alb_0, Bool.and_true]
theorem okx_s (S : Sv) (x : Nat → Nat) (i : Nat) : okx S x (i + 1) = (okx S x i && gdx (whX S x S.P) i) := by unfold okx; rw [alb_s, Bool.and_assoc]
theorem okx_f {S : Sv} {x : Nat → Nat} {i n : Nat} (h : okx S x i = false) (hi : i ≤ n) : okx S x n = false := by
  unfold okx at h ⊢
  cases c : astx S x S.P
  · rfl
  · rw [c, Bool.true_and] at h
    rw [alb_f h hi]; rfl
theorem okx_a {S : Sv} {x : Nat → Nat} {i : Nat} (h : okx S x i = true) : astx S x S.P = true := by
  unfold okx at h
  rw [Bool.and_eq_true] at h; exact h.1
theorem mvx_t {S : Sv} {x : Nat → Nat} {p : Nat} (h : S.wh p = nI (x p)) : mvx S x p = 0 := if_pos h
theorem mvx_f {S : Sv} {x : Nat → Nat} {p : Nat} (h : ¬ S.wh p = nI (x p)) : mvx S x p = 1 := if_neg h
theorem whX_wf {S : Sv} (hW : WF S) {x : Nat → Nat} (h : astx S x S.P = true) : WF (whX S x S.P) := WF.of hW.H5 hW.P6 hW.st hW.wa hW.ws hW.fi hW.fs hW.fm hW.fa (fun p hp => .inr ⟨x p, hW.st _ (astx_t.mp h p hp), if_pos hp⟩) hW.wl hW.mk hW.fr hW.wo hW.rm
section MOV
variable {L : HL} {m : Nat} {S : Sv}
theorem layHomesF (hR : RC L (m + 1) S) (hW : WF S) {c : Nat} (hc : c < 15625) : ∃ L', fX7_layHomes m (nI c) L = some L' ∧ (∀ p, p < S.P → L'.1 (m + 11) p = nI (dig S.P c p)) ∧ Fr (· = m + 11) L L' := by
  have h6 := hW.P6
  unfold fX7_layHomes
  have e0 : nI S.P - 1 = iI ((S.P : Int) - 1 - ((0 : Nat) : Int)) := by rw [← iI_nat, show (1 : Int32) = iI 1 from rfl, iI_sub]; exact congrArg iI (by omega)
  rw [c1q, hR.P, lt_eq, e0]
  refine lx_inv S.P (fun i t => ∃ L2, t = (nI (c / 5 ^ i), iI ((S.P : Int) - 1 - (i : Int)), L2) ∧ (∀ j, S.P - i ≤ j → j < S.P → L2.1 (m + 11) j = nI (dig S.P c j)) ∧ Fr (· = m + 11) L L2) (by rw [FU_20000]; omega) ⟨L, by rw [show c / 5 ^ 0 = c by simp], fun j h1 h2 => by omega, Fr.refl L⟩ ?_ ?_ ?_
  · rintro i _ hi ⟨L2, rfl, q, f⟩
    unfold fX7_layHomes_b11
    dsimp only
    have hd : c / 5 ^ i < 15625 := Nat.lt_of_le_of_lt (Nat.div_le_self _ _) hc
    have ei : iI ((S.P : Int) - 1 - (i : Int)) = nI (S.P - 1 - i) := by rw [← iI_nat]; exact congrArg iI (by omega)
    have es : nI (S.P - 1 - i) + (-1 : Int32) = iI ((S.P : Int) - 1 - ((i + 1 : Nat) : Int)) := by rw [m1I, ← iI_nat, iI_add]; exact congrArg iI (by omega)
    rw [ei, if_neg (by rw [nI_nlt0 (by omega)]; exact not_false), gd_of (vin_nI (by omega) (by omega)), nI_mod5 (by omega), lt_eq, nI_div5 (by omega), lt_eq, lt_eq, nI_cl (by omega), es, pow5_s]
    refine ⟨_, rfl, wI L2 (m + 11) (S.P - 1 - i) (nI (c / 5 ^ i % 5)), rfl, fun j h1 h2 => ?_, f.wI rfl _ _⟩
    by_cases e : j = S.P - 1 - i
    · subst e
      rw [wQ_same]
      unfold dig
      rw [show S.P - 1 - (S.P - 1 - i) = i by omega]
    · rw [wQ_other e]; exact q j (by omega) h2
  · rintro _ ⟨L2, rfl, q, f⟩
    unfold fX7_layHomes_b11
    rw [if_pos (iI_neg (by omega) (by omega))]
  · rintro _ ⟨L2, rfl, q, f⟩
    exact ⟨_, rfl, fun p hp => q p (by omega) hp, f⟩
theorem movingF (hR : RC L (m + 1) S) (hW : WF S) {x : Nat → Nat} (hx : ∀ p, p < S.P → L.1 (m + 11) p = nI (x p)) (hx5 : ∀ p, x p < 5) : ∃ L', fX7_moving m L = some (nI (if okx S x S.H then sm (mvx S x) S.P else 1000000), L') ∧ Fr (· = m + 9) L L' := by
  have h5 := hW.H5
  have h6 := hW.P6
  have hS0 : ∀ (L2 L3 : HL) (w w' : Nat → Int32), RC L2 (m + 9) (S.set_wh w) → (∀ p, p < 6 → L3.1 (m + 9) (70 + p) = w' p) → (∀ k, k < 92 → ¬ (70 ≤ k ∧ k < 76) → L3.1 (m + 9) k = L2.1 (m + 9) k) → RC L3 (m + 9) (S.set_wh w') := fun L2 L3 w w' q e o => RC.w_wh q e o
  unfold fX7_moving
  obtain ⟨L1, e1, q1, f1⟩ := hR.layDayF
  rw [e1, bd_some]
  have key : ∃ z, lx (lp (fun s18 : Int32 × Int32 × Int32 × HL => fX7_moving_b10 m s18.1 s18.2.1 s18.2.2.1 s18.2.2.2) FU ((0 : Int32), (1 : Int32), (0 : Int32), L1)) (fun v => some v) (fun s18 => lx (lp (fun s30 : Int32 × Int32 => fX7_moving_b110 m s18.1 s30.1 s30.2 s18.2.2.2) FU (s18.2.1, (0 : Int32))) (fun v => some v) fun s30 => if s30.1 = 0 then (some ((1000000 : Int32), s18.2.2.2)) else some (s18.1, s18.2.2.2)) = some z ∧ (z.1 = nI (if okx S x S.H then sm (mvx S x) S.P else 1000000) ∧ Fr (· = m + 9) L z.2) := by
    refine lx_inv S.P (fun i t => ∃ L2, t = (nI (sm (mvx S x) i), bI (astx S x i), nI i, L2) ∧ RC L2 (m + 9) (S.set_wh fun p => if p < i then nI (x p) else S.wh p) ∧ Fr (· = m + 9) L L2) (by rw [FU_20000]; omega) ⟨L1, rfl, ?_, f1⟩ ?_ ?_ ?_
    · simp only [Nat.not_lt_zero, if_false]; exact q1
    · rintro i _ hi ⟨L2, rfl, q, f⟩
      have hR2 : RC L2 (m + 1) S := hR.frame (f.1 _ (by omega))
      have hx2 : L2.1 (m + 11) (nI i).toNatClampNeg = nI (x i) := by rw [nI_cl (by omega), f.1 _ (by omega)]; exact hx i hi
      have hxi := hx5 i
      have rw_ : L2.1 (m + 1) ((70 : Int32) + nI i).toNatClampNeg = S.wh i := by rw [l70, nQ_add, nI_cl (by omega)]; exact hR2.wh i (by omega)
      have rs : L2.1 (m + 1) ((29 : Int32) + nI (x i)).toNatClampNeg = bI (S.st (x i)) := by rw [l29, nQ_add, nI_cl (by omega)]; exact hR2.st _ hxi
      have v70 : ∀ n, 76 ≤ n → n < 1000 → vin ((70 : Int32) + nI i) n := fun n h1 h2 => by rw [l70, nQ_add]; exact vin_nI (by omega) (by omega)
      have j85 : ∀ (p : Bool) (s1 : Int32) (d : Nat), s1 = nI d → fX7_moving_j85 m (nI (sm (mvx S x) i)) (bI p) (nI i) (nI (sm (mvx S x) i)) s1 L2 = some (Sum.inl (nI (sm (mvx S x) i + d), bI p, nI (i + 1), wI L2 (m + 9) (70 + i) (nI (x i)))) := by
        intro p s1 d e
        unfold fX7_moving_j85
        rw [lt_eq, gd_of (vin_nI (by omega) (by omega)), gd_of (v70 92 (by omega) (by omega)), lt_eq, lt_eq, nQ_s, hx2, e, nQ_add, l70, nQ_add, nI_cl (by omega)]
      have j60 : ∀ p : Bool, fX7_moving_j60 m (nI (sm (mvx S x) i)) (bI (astx S x i)) (nI i) (bI p) L2 = some (Sum.inl (nI (sm (mvx S x) (i + 1)), bI p, nI (i + 1), wI L2 (m + 9) (70 + i) (nI (x i)))) := by
        intro p
        unfold fX7_moving_j60
        rw [gd_of (v70 228 (by omega) (by omega)), gd_of (vin_nI (by omega) (by omega))]
        show _ = some (Sum.inl (nI (sm (mvx S x) i + mvx S x i), _, _, _))
        by_cases c : S.wh i = nI (x i)
        · rw [if_pos (by rw [rw_, hx2]; exact c), j85 p 0 0 rfl, mvx_t c]
        · rw [if_neg (by rw [rw_, hx2]; exact c), j85 p 1 1 rfl, mvx_f c]
      have fin : ∃ s', some (Sum.inl (nI (sm (mvx S x) (i + 1)), bI (astx S x (i + 1)), nI (i + 1), wI L2 (m + 9) (70 + i) (nI (x i)))) = some (Sum.inl (β := (Int32 × Int32 × Int32 × HL) ⊕ (Int32 × HL)) s') ∧ ∃ L3, s' = (nI (sm (mvx S x) (i + 1)), bI (astx S x (i + 1)), nI (i + 1), L3) ∧ RC L3 (m + 9) (S.set_wh fun p => if p < i + 1 then nI (x p) else S.wh p) ∧ Fr (· = m + 9) L L3 := by
        refine ⟨_, rfl, _, rfl, hS0 _ _ _ _ q (fun p hp => ?_) (fun k _ hk => wQ_other (by omega)), f.wI rfl _ _⟩
        by_cases e : p = i
        · subst e; rw [wQ_same, if_pos (by omega)]
        · rw [wQ_other (by omega), q.wh p hp]
          have : (p < i + 1) = (p < i) := propext (by omega)
          simp only [Sv.wh_set_wh, this]
      unfold fX7_moving_b10 fX7_moving_j59
      dsimp only
      rw [c1q, hR2.P, if_neg (by rw [nQ_le (by omega) (by omega)]; omega), astx_s] at *
      cases ca : astx S x i
      · rw [ca] at j60
        rw [ca, Bool.false_and] at fin
        rw [if_pos (by decide), show (0 : Int32) = bI false from rfl, j60]
        exact fin
      rw [ca] at j60
      rw [ca, Bool.true_and] at fin
      rw [if_neg (by decide), gd_of (vin_nI (by omega) (by omega)), hx2, hR2.isHouseF hW, bd_some, hasI_n S (by omega), Bool.true_and]
      cases cs : S.st (x i)
      · rw [cs] at fin rs
        by_cases ch : x i < S.H
        · rw [decide_eq_true ch, if_neg (by decide), gd_of (vin_nI (by omega) (by omega)), gd_of (by rw [l29, nQ_add]; exact vin_nI (by omega) (by omega)), if_neg (by rw [rs]; decide), show (0 : Int32) = bI false from rfl, j60]
          exact fin
        · rw [decide_eq_false ch, if_pos (by decide), show (0 : Int32) = bI false from rfl, j60]
          exact fin
      · rw [cs] at fin rs
        have ch := hW.st _ cs
        rw [decide_eq_true ch, if_neg (by decide), gd_of (vin_nI (by omega) (by omega)), gd_of (by rw [l29, nQ_add]; exact vin_nI (by omega) (by omega)), if_pos (by rw [rs]; decide), show (1 : Int32) = bI true from rfl, j60]
        exact fin
    · rintro _ ⟨L2, rfl, q, f⟩
      have hR2 : RC L2 (m + 1) S := hR.frame (f.1 _ (by omega))
      unfold fX7_moving_b10
      dsimp only
      rw [c1q, hR2.P, if_pos (by rw [nQ_le (by omega) (by omega)]; omega)]
    · rintro _ ⟨L2, rfl, q, f⟩
      have q : RC L2 (m + 9) (whX S x S.P) := q
      have hR2 : RC L2 (m + 1) S := hR.frame (f.1 _ (by omega))
      dsimp only
      refine lx_brk S.H (fun i t => t = (bI (okx S x i), nI i)) (fun t => t.1 = bI (okx S x S.H)) (by rw [FU_20000]; omega) ?_ ?_ ?_ ?_
      · rw [okx_0]; rfl
      · rintro i _ hi rfl
        unfold fX7_moving_b110
        dsimp only
        rw [c0q, hR2.H, if_neg (by rw [nQ_le (by omega) (by omega)]; omega), okx_s]
        cases co : okx S x i
        · rw [if_pos (by decide)]
          refine .inr ⟨rfl, ?_⟩
          have : okx S x S.H = false := okx_f co (Nat.le_of_lt hi)
          rw [this]
        have ca : astx S x S.P = true := okx_a co
        have hT := whX_wf hW ca
        have rr : L2.1 (m + 9) ((4 : Int32) + nI i).toNatClampNeg = S.rm i := by rw [l4, nQ_add, nI_cl (by omega)]; exact q.rm i (by omega)
        refine .inl ?_
        rw [if_neg (by decide), q.livingInF hT (by omega) (by omega), bd_some, bits6, lvn_ct hT, bd_some, gd_of (by rw [l4, nQ_add]; exact vin_nI (by omega) (by omega)), Bool.true_and]
        have eg : gdx (whX S x S.P) i = (!decide (S.rm i < nI (lvn (whX S x S.P) (nI i))) && !fd (whX S x S.P) (lv (whX S x S.P) (nI i)) (lv (whX S x S.P) (nI i))) := rfl
        rw [eg]
        by_cases cr : S.rm i < nI (lvn (whX S x S.P) (nI i))
        · rw [if_pos (by rw [rr]; exact cr), lt_eq, nQ_s, decide_eq_true cr]; exact ⟨_, rfl, rfl⟩
        · rw [if_neg (by rw [rr]; exact cr), q.isFeudF hT (by omega) (by omega), bd_some, decide_eq_false cr]
          cases fd (whX S x S.P) (lv (whX S x S.P) (nI i)) (lv (whX S x S.P) (nI i))
          · rw [if_pos (by decide), lt_eq, nQ_s]; exact ⟨_, rfl, rfl⟩
          · rw [if_neg (by decide), lt_eq, nQ_s]; exact ⟨_, rfl, rfl⟩
      · rintro _ rfl
        unfold fX7_moving_b110
        dsimp only
        rw [c0q, hR2.H, if_pos (by rw [nQ_le (by omega) (by omega)]; omega)]
        exact ⟨rfl, rfl⟩
      · rintro t et
        rw [et]
        cases okx S x S.H
        · rw [if_pos (by decide)]; exact ⟨_, rfl, rfl, f⟩
        · rw [if_neg (by decide)]; exact ⟨_, rfl, rfl, f⟩
  obtain ⟨z, e, v, f⟩ := key
  exact ⟨z.2, by rw [← v]; exact e, f⟩
end MOV
