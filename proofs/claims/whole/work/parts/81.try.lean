/-! ===== orders: the class tries them one behind the other ===== -/
def Fk : Nat → Nat → Sv → Sv
  | 0, _, S => S
  | k + 1, c, S => Fk k (c % 5 ^ k) (fallS S (c / 5 ^ k))
theorem Fk_it : ∀ k c S, c < 5 ^ k → Fk k c S = itS S (dig k c) k
  | 0, _, _, _ => rfl
  | k + 1, c, S, hc => by
    show Fk k (c % 5 ^ k) (fallS S (c / 5 ^ k)) = _
    rw [Fk_it k _ _ (low_lt c k), itS_k hc (Nat.le_refl k)]
def Po (p : Nat) (g : Int32) (k s : Nat) (S : Sv) (c : Nat) : Bool := vn k s c && decide ((Fk k c S).wh p = g)
theorem Po_s {p : Nat} {g : Int32} {k s : Nat} {S : Sv} {i c : Nat} (hc : c < 5 ^ k) : Po p g (k + 1) s S (i * 5 ^ k + c) = (tb s i && Po p g k (s - 2 ^ i) (fallS S i) c) := by
  have hp : 0 < 5 ^ k := Nat.pow_pos (by omega)
  have e1 : (i * 5 ^ k + c) / 5 ^ k = i := by
    rw [Nat.mul_comm, Nat.mul_add_div hp, Nat.div_eq_of_lt hc, Nat.add_zero]
  have e2 : (i * 5 ^ k + c) % 5 ^ k = c := by
    rw [Nat.mul_comm, Nat.mul_add_mod, Nat.mod_eq_of_lt hc]
  show ((tb s ((i * 5 ^ k + c) / 5 ^ k) && vn k (s - 2 ^ ((i * 5 ^ k + c) / 5 ^ k)) ((i * 5 ^ k + c) % 5 ^ k)) && decide ((Fk k ((i * 5 ^ k + c) % 5 ^ k) (fallS S ((i * 5 ^ k + c) / 5 ^ k))).wh p = g)) = _
  rw [e1, e2, Bool.and_assoc]; rfl
theorem fallS_back (S : Sv) (x : Nat) : ((fallS S x).set_wh S.wh).set_st S.st = S := rfl
theorem dig_last {d cp i : Nat} (hi : i < 5) : dig (d + 1) (cp * 5 + i) d = i := by
  unfold dig
  rw [show d + 1 - 1 - d = 0 by omega, Nat.pow_zero, Nat.div_one]; omega
theorem dig_pre {d cp i j : Nat} (hi : i < 5) (hj : j < d) : dig (d + 1) (cp * 5 + i) j = dig d cp j := by
  unfold dig
  obtain ⟨e, he⟩ : ∃ e, d + 1 - 1 - j = e + 1 ∧ d - 1 - j = e := ⟨d - 1 - j, by omega, rfl⟩
  rw [he.1, he.2, Nat.pow_succ, Nat.mul_comm (5 ^ e) 5, ← Nat.div_div_eq_div_mul, show (cp * 5 + i) / 5 = cp by omega]
theorem keepdF (L : HL) (a : Nat) {d : Nat} (hd : d < 5) : ∃ L', fX2_keep a (nI d) L = some L' ∧ L'.1 (a + 15) d = L.1 (a + 1) 1 ∧ (∀ j, j ≠ d → L'.1 (a + 15) j = L.1 (a + 15) j) ∧ (∀ j, j < 6 → L'.1 (a + 17 + d) j = L.1 (a + 10) j) ∧ Fr (fun x => x = a + 15 ∨ x = a + 17 + d) L L' := by
  unfold fX2_keep
  obtain ⟨L1, e1, v1, f1⟩ := copyRowF (L := wI L (a + 15) d (L.1 (a + 1) 1)) (a0 := a + 1 + 9) (a1 := a + 16 + 1 + d) (n := 6) (by omega) (by omega)
  rw [gd_of (vin_nI hd (by omega)), lt_eq, gd_of (vin_nI hd (by omega)), nI_cl (by omega), e1, bd_some]
  refine ⟨L1, rfl, by rw [f1.1 _ (by omega), wQ_same], fun j hj => by rw [f1.1 _ (by omega), wQ_other hj], fun j hj => ?_, (((Fr.refl L).wI (.inl rfl) _ _)).trans (f1.mono fun x h => .inr (by omega))⟩
  rw [show a + 17 + d = a + 16 + 1 + d by omega, v1 j hj, wQ_ne (by omega)]
theorem backdF (L : HL) (a : Nat) {d : Nat} (hd : d < 5) : ∃ L', fX2_bringBack a (nI d) L = some L' ∧ L'.1 (a + 1) 1 = L.1 (a + 15) d ∧ (∀ j, j ≠ 1 → L'.1 (a + 1) j = L.1 (a + 1) j) ∧ (∀ j, j < 6 → L'.1 (a + 10) j = L.1 (a + 17 + d) j) ∧ Fr (fun x => x = a + 1 ∨ x = a + 10) L L' := by
  unfold fX2_bringBack
  obtain ⟨L1, e1, v1, f1⟩ := copyRowF (L := wI L (a + 1) 1 (L.1 (a + 15) d)) (a0 := a + 16 + 1 + d) (a1 := a + 1 + 9) (n := 6) (by omega) (by omega)
  simp only [nI_cl (show d < 2147483648 by omega)]
  rw [gd_of (vin_nI hd (by omega)), lt_eq, gd_of (vin_nI hd (by omega)), e1, bd_some]
  refine ⟨L1, rfl, by rw [f1.1 _ (by omega), wQ_same], fun j hj => by rw [f1.1 _ (by omega), wQ_other hj], fun j hj => ?_, (((Fr.refl L).wI (.inl rfl) _ _)).trans (f1.mono fun x h => .inr (by omega))⟩
  rw [show a + 10 = a + 1 + 9 by omega, v1 j hj, wQ_ne (by omega), show a + 17 + d = a + 16 + 1 + d by omega]
/-- the street is as it was -/
theorem SC.back2 {L L' : HL} {a : Nat} {S T : Sv} (h : SC L (a + 1) T) (eq : (T.set_wh S.wh).set_st S.st = S) (e0 : T.P = S.P) (e1 : L'.1 (a + 1) 1 = nI (mask S.st 5)) (e2 : ∀ j, j ≠ 1 → L'.1 (a + 1) j = L.1 (a + 1) j) (e3 : ∀ q, q < S.P → L'.1 (a + 10) q = S.wh q) (f : Fr (fun x => x = a + 1 ∨ x = a + 10) L L') : SC L' (a + 1) S := by
  have q : SC L' (a + 1) ((T.set_wh S.wh).set_st S.st) := by
    obtain ⟨h1, h2, h3, h4, h5, h6, h7, h8, h9, h10, h11, h12, h13, h14⟩ := h
    rw [← e0] at e3
    exact SC.of (by rw [e2 _ (by omega)]; exact h1) e1 (by rw [e2 _ (by omega)]; exact h3) (by rw [e2 _ (by omega)]; exact h4) (by rw [f.1 _ (by omega)]; exact h5) (by rw [f.1 _ (by omega)]; exact h6) (by rw [f.1 _ (by omega)]; exact h7) (by rw [f.1 _ (by omega)]; exact h8) (by rw [f.1 _ (by omega)]; exact h9) (by rw [f.1 _ (by omega)]; exact h10) (by rw [f.1 _ (by omega)]; exact h11) (by rw [f.1 _ (by omega)]; exact h12) e3 (by rw [f.1 _ (by omega)]; exact h14)
  rwa [eq] at q
theorem fallS_P (S : Sv) (x : Nat) : (fallS S x).P = S.P := rfl
theorem SC.backd {L L' : HL} {a d : Nat} {S : Sv} {x : Nat} (h : SC L (a + 1) (fallS S x)) (e1 : L'.1 (a + 1) 1 = nI (mask S.st 5)) (e2 : ∀ j, j ≠ 1 → L'.1 (a + 1) j = L.1 (a + 1) j) (e3 : ∀ q, q < S.P → L'.1 (a + 10) q = S.wh q) (f : Fr (fun x => x = a + 1 ∨ x = a + 10) L L') : SC L' (a + 1) S := h.back2 (fallS_back S x) (fallS_P S x) e1 e2 e3 f
theorem bit_n {s h : Nat} (hs : s < 64) (hh : h < 6) : ((nI s >>> (nI h &&& 31)) &&& 1 = 1) = (tb s h = true) := propext (bit_c s hs h hh)
theorem andn_c : ∀ s, s < 32 → ∀ h, h < 5 → tb s h = true → nI s &&& (((1 : Int32) <<< (nI h &&& 31)) ^^^ (-1 : Int32)) = nI (s - 2 ^ h) := by decide +kernel
theorem tb_sub : ∀ s, s < 32 → ∀ h, h < 5 → tb s h = true → ∀ i, i < 5 → tb (s - 2 ^ h) i = (tb s i && !(i == h)) := by decide +kernel
/-- what lies of the first order: nothing, or its houses -/
def FO (L : HL) (a n : Nat) (f : Option Nat) : Prop := ∀ v, f = some v → ∀ j, j < n → L.1 (a + 23) j = nI (dig n v j)
def pre (b N : Nat) (f : Option Nat) : Option Nat := f.map fun c => b * N + c
theorem pre_none {b N : Nat} {f : Option Nat} : pre b N f = none ↔ f = none := by cases f <;> simp [pre]
theorem tryF {p : Nat} {g : Int32} {a n : Nat} (hn : n ≤ 5) : ∀ (k fu : Nat), k < fu → ∀ (L : HL) (S : Sv) (s d cp c0 : Nat) (f0 : Option Nat), SC L (a + 1) S → WF S → s < 32 → pcn s = k → (∀ h, h < 5 → tb s h = true → S.st h = true) → d + k = n → p < S.P → L.1 a 5 = nI c0 → (c0 = 0 ↔ f0 = none) → c0 + 5 ^ k ≤ 100000 → (∀ j, j < d → L.1 (a + 22) j = nI (dig d cp j)) → FO L a n f0 → ∃ L', fX2_tryOrders fu a (nI d) (nI s) (nI p) g L = some L' ∧ SC L' (a + 1) S ∧ L'.1 a 5 = nI (c0 + ct (Po p g k s S) (5 ^ k)) ∧ FO L' a n (f0.or (pre cp (5 ^ k) (lsc (Po p g k s S) (5 ^ k)))) ∧ (∀ j, j < d → L'.1 (a + 22) j = L.1 (a + 22) j) ∧ (∀ j, j < d → L'.1 (a + 15) j = L.1 (a + 15) j) ∧ (∀ j, j < d → L'.1 (a + 17 + j) = L.1 (a + 17 + j)) ∧ Fr (fun x => a ≤ x ∧ x < a + 24) L L' := by
  intro k
  induction k with
  | zero =>
    intro fu hfu L S s d cp c0 f0 hS hW hs hk hst hdn hp h0 hf hb ho hfo
    obtain ⟨fu, rfl⟩ : ∃ q, fu = q + 1 := ⟨fu - 1, by omega⟩
    have es := pcn_0 s hs hk
    subst es
    have h6 := hW.P6
    show ∃ L', fX2_tryOrders_s (fX2_tryOrders fu) a (nI d) (nI 0) (nI p) g L = some L' ∧ _
    unfold fX2_tryOrders_s fX2_atLast
    have ePo : Po p g 0 0 S 0 = decide (S.wh p = g) := rfl
    have ew : L.1 (a + 1 + 9) (nI p).toNatClampNeg = S.wh p := by rw [nI_cl (by omega)]; exact hS.wh p hp
    have e1 : ct (Po p g 0 0 S) (5 ^ 0) = if S.wh p = g then 1 else 0 := by
      show 0 + (if Po p g 0 0 S 0 = true then 1 else 0) = _
      rw [ePo, Nat.zero_add]; simp only [decide_eq_true_eq]
    have e2 : lsc (Po p g 0 0 S) (5 ^ 0) = if S.wh p = g then some 0 else none := by
      show Option.or none (if Po p g 0 0 S 0 = true then some 0 else none) = _
      rw [ePo]; simp only [decide_eq_true_eq]; rfl
    rw [if_pos (show nI 0 = 0 from rfl), gd_of (vin_nI (by omega) (by omega)), ew, h0, e1, e2]
    by_cases c : S.wh p = g
    · simp only [c, if_true]
      by_cases c1 : c0 = 0
      · obtain ⟨L1, q1, v1, f1⟩ := copyRowF (L := L) (a0 := a + 22) (a1 := a + 23) (n := 5) (by omega) (by omega)
        rw [if_pos (by rw [c1]; rfl), q1, bd_some]
        unfold fX2_atLast_j31
        rw [lt_eq, bd_some, f1.1 a (by omega), h0, nQ_s]
        refine ⟨_, rfl, hS.frame fun x _ _ => by rw [wQ_ne (by omega)]; exact f1.1 x (by omega), wQ_same _ _ _ _, ?_, fun j hj => by rw [wQ_ne (by omega), f1.1 _ (by omega)], fun j hj => by rw [wQ_ne (by omega), f1.1 _ (by omega)], fun j hj => by rw [wQ_ne (by omega), f1.1 _ (by omega)], (f1.mono fun x h => by omega).wI (by omega) _ _⟩
        intro v ev j hj
        rw [hf.mp c1] at ev
        have ev : some (cp * 1 + 0) = some v := ev
        cases ev
        have hj' : j < d := by omega
        rw [wQ_ne (by omega), v1 j (by omega), ho j hj', show cp * 1 + 0 = cp by omega, show n = d by omega]
      · rw [if_neg (by rw [l0, nQ_eq (by omega) (by omega)]; exact c1)]
        unfold fX2_atLast_j31
        rw [lt_eq, bd_some, h0, nQ_s]
        refine ⟨_, rfl, hS.frame fun x _ _ => by rw [wQ_ne (by omega)], wQ_same _ _ _ _, ?_, fun j hj => by rw [wQ_ne (by omega)], fun j hj => by rw [wQ_ne (by omega)], fun j hj => by rw [wQ_ne (by omega)], (Fr.refl L).wI (by omega) _ _⟩
        intro v ev j hj
        rw [wQ_ne (by omega)]
        refine hfo v ?_ j hj
        cases f0 with
        | none => exact absurd (hf.mpr rfl) c1
        | some w => exact ev
    · simp only [c, if_false]
      rw [bd_some]
      refine ⟨_, rfl, hS, by rw [h0]; rfl, ?_, fun j hj => rfl, fun j hj => rfl, fun j hj => rfl, Fr.refl L⟩
      have : (f0.or (pre cp (5 ^ 0) none)) = f0 := by cases f0 <;> rfl
      rw [this]; exact hfo
  | succ k ih =>
    intro fu hfu L S s d cp c0 f0 hS hW hs hk hst hdn hp h0 hf hb ho hfo
    obtain ⟨fu, rfl⟩ : ∃ q, fu = q + 1 := ⟨fu - 1, by omega⟩
    have h6 := hW.P6
    have hN : 0 < 5 ^ k := Nat.pow_pos (by omega)
    have e5 : 5 ^ (k + 1) = 5 * 5 ^ k := by rw [Nat.pow_succ, Nat.mul_comm]
    have s0 : ¬ s = 0 := by rintro rfl; exact absurd hk (by show ¬ 0 = k + 1; omega)
    show ∃ L', fX2_tryOrders_s (fX2_tryOrders fu) a (nI d) (nI s) (nI p) g L = some L' ∧ _
    unfold fX2_tryOrders_s
    obtain ⟨L1, q1, kp1, kp2, kp3, kf⟩ := keepdF L a (d := d) (by omega)
    rw [if_neg (by rw [l0, nQ_eq (by omega) (by omega)]; exact s0), if_pos (by rw [l5, nQ_lt (by omega) (by omega)]; omega), q1, bd_some]
    have hS1 : SC L1 (a + 1) S := hS.frame fun x _ _ => kf.1 x (by omega)
    refine lx_inv 5 (fun i t => ∃ L2, t = (nI i, L2) ∧ SC L2 (a + 1) S ∧ L2.1 a 5 = nI (c0 + ct (Po p g (k + 1) s S) (i * 5 ^ k)) ∧ FO L2 a n (f0.or (pre cp (5 ^ (k + 1)) (lsc (Po p g (k + 1) s S) (i * 5 ^ k)))) ∧ (∀ j, j < d → L2.1 (a + 22) j = L.1 (a + 22) j) ∧ (∀ j, j < d → L2.1 (a + 15) j = L.1 (a + 15) j) ∧ (∀ j, j < d → L2.1 (a + 17 + j) = L.1 (a + 17 + j)) ∧ L2.1 (a + 15) d = nI (mask S.st 5) ∧ (∀ q, q < S.P → L2.1 (a + 17 + d) q = S.wh q) ∧ Fr (fun x => a ≤ x ∧ x < a + 24) L L2) (by decide) ⟨L1, rfl, hS1, ?_, ?_, ?_, ?_, ?_, ?_, ?_, ?_⟩ ?_ ?_ ?_
    · rw [kf.1 a (by omega), h0, Nat.zero_mul]; rfl
    · intro v ev j hj
      rw [Nat.zero_mul] at ev
      rw [kf.1 _ (by omega)]
      refine hfo v ?_ j hj
      cases f0 <;> exact ev
    · intro j hj; rw [kf.1 _ (by omega)]
    · intro j hj; exact kp2 j (by omega)
    · intro j hj; exact kf.1 _ (by omega)
    · rw [kp1]; exact hS.st
    · intro q hq; rw [kp3 q (by omega)]; exact hS.wh q hq
    · exact kf.mono fun x h => by omega
    · rintro i _ hi ⟨L2, rfl, r1, r2, r3, r4, r5, r6, r7, r8, rf⟩
      unfold fX2_tryOrders_b26
      dsimp only
      have eN : (i + 1) * 5 ^ k = i * 5 ^ k + 5 ^ k := by rw [Nat.add_mul, Nat.one_mul]
      have cle := ct_le (Po p g (k + 1) s S) (i * 5 ^ k)
      have ile : i * 5 ^ k ≤ 4 * 5 ^ k := Nat.mul_le_mul_right _ (by omega)
      have cadd : ct (Po p g (k + 1) s S) ((i + 1) * 5 ^ k) = ct (Po p g (k + 1) s S) (i * 5 ^ k) + ct (fun c => tb s i && Po p g k (s - 2 ^ i) (fallS S i) c) (5 ^ k) := by
        rw [eN, ct_add]
        congr 1
        exact ct_congr _ fun c hc => Po_s hc
      have ladd : lsc (Po p g (k + 1) s S) ((i + 1) * 5 ^ k) = (lsc (Po p g (k + 1) s S) (i * 5 ^ k)).or ((lsc (fun c => tb s i && Po p g k (s - 2 ^ i) (fallS S i) c) (5 ^ k)).map (i * 5 ^ k + ·)) := by
        rw [eN, lsc_add]
        congr 2
        exact lsc_congr _ fun c hc => Po_s hc
      rw [if_neg (by rw [l5, nQ_le (by omega) (by omega)]; omega)]
      cases cb : tb s i
      · rw [cb] at cadd ladd
        simp only [Bool.false_and] at cadd ladd
        rw [ct_none (p := fun _ => false) _ (fun c _ => rfl)] at cadd
        rw [lsc_no (p := fun _ => false) _ (fun c _ => rfl)] at ladd
        rw [if_neg (by rw [bit_n (by omega) (by omega), cb]; decide), lt_eq, nQ_s]
        refine ⟨_, rfl, L2, rfl, r1, by rw [cadd]; exact r2, ?_, r4, r5, r6, r7, r8, rf⟩
        rw [ladd]
        show FO L2 a n (f0.or (pre cp (5 ^ (k + 1)) ((lsc (Po p g (k + 1) s S) (i * 5 ^ k)).or none)))
        rw [Option.or_none]; exact r3
      · rw [cb] at cadd ladd
        simp only [Bool.true_and] at cadd ladd
        rw [if_pos (by rw [bit_n (by omega) (by omega), cb]), gd_of (vin_nI (by omega) (by omega)), lt_eq, nI_cl (by omega)]
        have sti := hst i hi cb
        have hiH := hW.st i sti
        have r1' : SC (wI L2 (a + 22) d (nI i)) (a + 1) S := r1.frame fun x _ _ => wQ_ne (by omega)
        obtain ⟨z3, e3, -, q3, f3⟩ := r1'.letFallF hW (x := i) hi sti
        have hs2 := sub_c s hs i hi cb
        have w3 : ∀ x, a + 15 ≤ x → x ≠ a + 22 → z3.2.1 x = L2.1 x := fun x h1 h2 => by rw [f3.1 x (by unfold SB; omega), wQ_ne h2]
        have w3a : z3.2.1 a = L2.1 a := by rw [f3.1 a (by unfold SB; omega), wQ_ne (by omega)]
        have w22 : ∀ j, z3.2.1 (a + 22) j = if j = d then nI i else L2.1 (a + 22) j := fun j => by rw [f3.1 _ (by unfold SB; omega), wQ_at, if_pos rfl]
        have hf2 : (c0 + ct (Po p g (k + 1) s S) (i * 5 ^ k) = 0 ↔ f0.or (pre cp (5 ^ (k + 1)) (lsc (Po p g (k + 1) s S) (i * 5 ^ k))) = none) := by
          have h1 := lsc_ct (p := Po p g (k + 1) s S) (i * 5 ^ k)
          constructor
          · intro h
            have a1 := hf.mp (by omega)
            have a2 := h1.mpr (by omega)
            rw [a1, a2]; rfl
          · intro h
            cases f0 with
            | some w => cases h
            | none =>
              have a1 := hf.mpr rfl
              have a2 := h1.mp (pre_none.mp h)
              omega
        obtain ⟨L4, e4, t1, t2, t3, t4, t5, t6, tf⟩ := ih fu (by omega) z3.2 (fallS S i) (s - 2 ^ i) (d + 1) (cp * 5 + i) (c0 + ct (Po p g (k + 1) s S) (i * 5 ^ k)) (f0.or (pre cp (5 ^ (k + 1)) (lsc (Po p g (k + 1) s S) (i * 5 ^ k)))) q3 (fallS_wf hW i) (Nat.lt_of_le_of_lt (Nat.sub_le _ _) hs) (by omega) (fun h hh e => by
            rw [tb_sub s hs i hi cb h hh, Bool.and_eq_true] at e
            show (S.st h && !(h == i)) = true
            rw [hst h hh e.1, e.2]; rfl) (by omega) hp (by rw [w3a]; exact r2) hf2 (by omega) (fun j hj => by
            rw [w22]
            by_cases e : j = d
            · subst e; rw [if_pos rfl, dig_last hi]
            · rw [if_neg e, dig_pre hi (by omega), r4 j (by omega)]; exact ho j (by omega)) (fun v ev j hj => by rw [w3 _ (by omega) (by omega)]; exact r3 v ev j hj)
        rw [e3, bd_some, nQ_s, andn_c s hs i hi cb, e4, bd_some]
        obtain ⟨L5, e5', u1, u2, u3, uf⟩ := backdF L4 a (d := d) (by omega)
        rw [e5', bd_some, lt_eq, nQ_s]
        have k15 : L4.1 (a + 15) d = nI (mask S.st 5) := by rw [t5 d (by omega), w3 _ (by omega) (by omega)]; exact r7
        have k17 : ∀ q, q < S.P → L4.1 (a + 17 + d) q = S.wh q := fun q hq => by rw [t6 d (by omega), w3 _ (by omega) (by omega)]; exact r8 q hq
        refine ⟨_, rfl, L5, rfl, SC.backd (d := d) t1 (by rw [u1]; exact k15) u2 (fun q hq => by rw [u3 q (by omega)]; exact k17 q hq) uf, ?_, ?_, ?_, ?_, ?_, ?_, ?_, ?_⟩
        · rw [uf.1 a (by omega), t2, cadd, Nat.add_assoc]
        · have e : (f0.or (pre cp (5 ^ (k + 1)) (lsc (Po p g (k + 1) s S) (i * 5 ^ k)))).or (pre (cp * 5 + i) (5 ^ k) (lsc (Po p g k (s - 2 ^ i) (fallS S i)) (5 ^ k))) = f0.or (pre cp (5 ^ (k + 1)) (lsc (Po p g (k + 1) s S) ((i + 1) * 5 ^ k))) := by
            rw [ladd, or_as]
            congr 1
            cases lsc (Po p g (k + 1) s S) (i * 5 ^ k) with
            | some v => rfl
            | none =>
              cases lsc (Po p g k (s - 2 ^ i) (fallS S i)) (5 ^ k) with
              | none => rfl
              | some v =>
                show some ((cp * 5 + i) * 5 ^ k + v) = some (cp * 5 ^ (k + 1) + (i * 5 ^ k + v))
                rw [e5, Nat.add_mul, Nat.mul_assoc, Nat.add_assoc]
          rw [← e]
          intro v ev j hj
          rw [uf.1 _ (by omega)]
          exact t3 v ev j hj
        · intro j hj; rw [uf.1 _ (by omega), t4 j (by omega), w22, if_neg (by omega)]; exact r4 j hj
        · intro j hj; rw [uf.1 _ (by omega), t5 j (by omega), w3 _ (by omega) (by omega)]; exact r5 j hj
        · intro j hj; rw [uf.1 _ (by omega), t6 j (by omega), w3 _ (by omega) (by omega)]; exact r6 j hj
        · rw [uf.1 _ (by omega)]; exact k15
        · intro q hq; rw [uf.1 _ (by omega)]; exact k17 q hq
        · exact (((rf.wI (by omega) _ _).trans (f3.mono fun x h => by unfold SB at h; omega)).trans tf).trans (uf.mono fun x h => by omega)
    · rintro _ ⟨L2, rfl, -⟩
      rfl
    · rintro _ ⟨L2, rfl, r1, r2, r3, r4, r5, r6, r7, r8, rf⟩
      rw [e5]
      exact ⟨L2, rfl, r1, r2, by rw [e5] at r3; exact r3, r4, r5, r6, rf⟩
