def rs (S : Sv) (a b f : Nat) (x y : Bool) : Bool := !decide (gn S f a (drs a b x y) < gn S f a (drs a b (!x) y)) && !decide (gn S f b (drs a b x y) < gn S f b (drs a b x (!y)))
theorem bshlm {h : Nat} (hh : h < 5) (p : Bool) : bI p <<< (nI h &&& 31) = nI (mask (fun i => (i == h) && p) 5) := by
  rw [bshl h (by omega)]
  refine congrArg nI ?_
  cases p
  · simp [mask_zero]
  · simp only [if_true, Bool.and_true]; exact mask_one (by omega) (by omega)
section DOP
variable {L : HL} {m B : Nat} {S : Sv} {G : Gv}
theorem restsF (hS : SC L (B + 1) S) (hW : WF S) {a b f : Nat} (ha : a < S.H) (hb' : b < S.H) (hfH : f < S.H) (sf : S.st f = true) (hab : a ≠ b) (x y : Bool) : ∃ z, fX6_rests B (nI a) (nI b) (nI f) (bI x) (bI y) L = some z ∧ z.1 = bI (rs S a b f x y) ∧ Fr (SA (B + 1)) L z.2 := by
  have h5 := hW.H5
  unfold fX6_rests
  have e1 : (bI x <<< (nI a &&& 31)) ||| (bI y <<< (nI b &&& 31)) = nI (mask (drs a b x y) 5) := by
    rw [bshlm (by omega), bshlm (by omega), i_or (by omega)]; rfl
  have e2 : nI (mask (drs a b x y) 5) ^^^ ((1 : Int32) <<< (nI a &&& 31)) = nI (mask (drs a b (!x) y) 5) := by
    rw [i_shl (n := 5) (by omega) (by omega), i_xor (by omega)]
    refine congrArg nI (mask_congr 5 fun i _ => ?_)
    unfold drs
    by_cases c : i = a
    · subst c; rw [beq_self_eq_true, beq_false_of_ne hab]; cases x <;> rfl
    · rw [beq_false_of_ne c]; cases (i == b) <;> cases y <;> rfl
  have e3 : nI (mask (drs a b x y) 5) ^^^ ((1 : Int32) <<< (nI b &&& 31)) = nI (mask (drs a b x (!y)) 5) := by
    rw [i_shl (n := 5) (by omega) (by omega), i_xor (by omega)]
    refine congrArg nI (mask_congr 5 fun i _ => ?_)
    unfold drs
    by_cases c : i = b
    · subst c; rw [beq_self_eq_true, beq_false_of_ne (fun z => hab z.symm)]; cases y <;> rfl
    · rw [beq_false_of_ne c]; cases (i == a) <;> cases x <;> rfl
  rw [e1, lt_eq, e2, lt_eq, e3, lt_eq]
  have fr : ∀ {L1 : HL}, Fr (SA (B + 1)) L L1 → SC L1 (B + 1) S := fun f => hS.frame fun a _ _ => f.1 a (by unfold SA; omega)
  obtain ⟨z1, q1, v1, f1⟩ := gainF hS hW ha hfH sf (drs a b x y)
  obtain ⟨z2, q2, v2, f2⟩ := gainF (fr f1) hW ha hfH sf (drs a b (!x) y)
  have f2 := f1.trans f2
  obtain ⟨z3, q3, v3, f3⟩ := gainF (fr f2) hW hb' hfH sf (drs a b x y)
  have f3 := f2.trans f3
  obtain ⟨z4, q4, v4, f4⟩ := gainF (fr f3) hW hb' hfH sf (drs a b x (!y))
  have f4 := f3.trans f4
  unfold rs
  rw [q1, bd_some, q2, bd_some, v1, v2]
  by_cases c1 : gn S f a (drs a b x y) < gn S f a (drs a b (!x) y)
  · rw [if_pos c1, decide_eq_true c1]; exact ⟨_, rfl, rfl, f2⟩
  rw [if_neg c1, decide_eq_false c1, q3, bd_some, q4, bd_some, v3, v4]
  by_cases c2 : gn S f b (drs a b x y) < gn S f b (drs a b x (!y))
  · rw [if_pos c2, decide_eq_true c2]; exact ⟨_, rfl, rfl, f4⟩
  · rw [if_neg c2, decide_eq_false c2]; exact ⟨_, rfl, rfl, f4⟩
end DOP
/-- does the pair of that number rest -/
def rq (S : Sv) (a b f c : Nat) : Bool := rs S a b f (decide (c / 2 = 1)) (decide (c % 2 = 1))
def fsq (q : Nat → Bool) : Nat → Int32
  | 0 => -1
  | n + 1 => if q n && decide (ct q n = 0) then nI (10 * (n / 2) + n % 2) else fsq q n
def rsm (q : Nat → Bool) : Nat → Nat × Int32
  | 0 => (0, -1)
  | n + 1 => ((rsm q n).1 + (if q (3 - n) then 1 else 0), if q (3 - n) then nI (10 * ((3 - n) / 2) + (3 - n) % 2) else (rsm q n).2)
theorem fsq_s (q : Nat → Bool) (n : Nat) : fsq q (n + 1) = if q n && decide (ct q n = 0) then nI (10 * (n / 2) + n % 2) else fsq q n := rfl
theorem rsm_congr {p q : Nat → Bool} (h : ∀ i, i < 4 → p i = q i) : ∀ n, rsm p n = rsm q n
  | 0 => rfl
  | n + 1 => by
    show ((rsm p n).1 + (if p (3 - n) then 1 else 0), if p (3 - n) then nI (10 * ((3 - n) / 2) + (3 - n) % 2) else (rsm p n).2) = ((rsm q n).1 + (if q (3 - n) then 1 else 0), if q (3 - n) then nI (10 * ((3 - n) / 2) + (3 - n) % 2) else (rsm q n).2)
    rw [rsm_congr h n, h (3 - n) (by omega)]
theorem fsq_congr {p q : Nat → Bool} : ∀ n, (∀ i, i < n → p i = q i) → fsq p n = fsq q n
  | 0, _ => rfl
  | n + 1, h => by
    rw [fsq_s, fsq_s, fsq_congr n (fun i hi => h i (by omega)), h n (by omega), ct_congr n (fun i hi => h i (by omega))]
def pk4 (a b c d : Bool) (n : Nat) : Bool := if n = 0 then a else if n = 1 then b else if n = 2 then c else d
theorem rsm_pk : ∀ a b c d : Bool, rsm (pk4 a b c d) 4 = (ct (pk4 a b c d) 4, fsq (pk4 a b c d) 4) := by decide +kernel
theorem rsm_4 (q : Nat → Bool) : rsm q 4 = (ct q 4, fsq q 4) := by
  have h : ∀ i, i < 4 → q i = pk4 (q 0) (q 1) (q 2) (q 3) i := by
    intro i hi
    rcases (show i = 0 ∨ i = 1 ∨ i = 2 ∨ i = 3 by omega) with rfl | rfl | rfl | rfl <;> rfl
  rw [rsm_congr h, ct_congr 4 h, fsq_congr 4 h]
  exact rsm_pk _ _ _ _
theorem cd_c : ∀ c, c < 4 → (nI c >>> ((1 : Int32) &&& 31) = bI (decide (c / 2 = 1)) ∧ nI c &&& (1 : Int32) = bI (decide (c % 2 = 1)) ∧ nI c / (2 : Int32) = bI (decide (c / 2 = 1)) ∧ nI c - nI c / (2 : Int32) * (2 : Int32) = bI (decide (c % 2 = 1)) ∧ (10 : Int32) * bI (decide (c / 2 = 1)) + bI (decide (c % 2 = 1)) = nI (10 * (c / 2) + c % 2)) := by decide +kernel
theorem one_sub (p : Bool) : (1 : Int32) - bI p = bI (!p) := by cases p <;> decide
theorem v_c : ∀ i : Nat, i < 4 → (iI (3 - (i : Int)) = nI (3 - i) ∧ ¬ iI (3 - (i : Int)) < 0 ∧ iI (3 - (i : Int)) + (-1 : Int32) = iI (3 - ((i + 1 : Nat) : Int))) := by decide +kernel
section DOQ
variable {L : HL} {m B : Nat} {S : Sv} {G : Gv}
theorem turnK (hS : SC L (B + 1) S) (hW : WF S) {a b f : Nat} (ha : a < S.H) (hb' : b < S.H) (hfH : f < S.H) (sf : S.st f = true) (hab : a ≠ b) (v4 : Int32) {β : Type} {k : Int32 × Int32 × Int32 × HL → Option β} {P : β → Prop} (hk : ∀ L1 v, Fr (SA (B + 1)) L L1 → ∃ y, k (nI (ct (rq S a b f) 4), fsq (rq S a b f) 4, v, L1) = some y ∧ P y) {kr : Int32 × HL → Option β} : ∃ y, lx (lp (fun s25 : Int32 × Int32 × Int32 × HL => fX6_doors_b116 B (nI a) (nI b) (nI f) v4 s25.1 s25.2.1 s25.2.2.1 s25.2.2.2) FU ((0 : Int32), (-1 : Int32), (0 : Int32), L)) kr k = some y ∧ P y := by
  refine lx_inv 4 (fun i s => ∃ L1, s = (nI (ct (rq S a b f) i), fsq (rq S a b f) i, nI i, L1) ∧ Fr (SA (B + 1)) L L1) (by decide) ⟨L, rfl, Fr.refl L⟩ ?_ ?_ ?_
  · rintro i _ hi ⟨L1, rfl, f1⟩
    have hS1 : SC L1 (B + 1) S := hS.frame fun a _ _ => f1.1 a (by unfold SA; omega)
    obtain ⟨d1, d2, -, -, d5⟩ := cd_c i hi
    have hc := ct_le (rq S a b f) i
    unfold fX6_doors_b116
    dsimp only
    obtain ⟨z, e1, v1, f2⟩ := restsF hS1 hW ha hb' hfH sf hab (decide (i / 2 = 1)) (decide (i % 2 = 1))
    rw [if_neg (by rw [l4, nQ_le (by omega) (by omega)]; omega), d1, d2, lt_eq, lt_eq, e1, bd_some, v1, d5]
    simp only [lt_eq, nQ_s]
    rw [ct_s]
    show ∃ s', (if bI (rq S a b f i) = 0 then _ else _) = _ ∧ _
    rw [fsq_s]
    cases c : rq S a b f i
    · rw [if_pos (by decide), Bool.false_and, if_neg (by decide)]
      exact ⟨_, rfl, z.2, rfl, f1.trans f2⟩
    · rw [if_neg (by decide), Bool.true_and]
      by_cases c0 : ct (rq S a b f) i = 0
      · rw [if_pos (by rw [c0]; rfl), decide_eq_true c0]
        exact ⟨_, rfl, z.2, rfl, f1.trans f2⟩
      · rw [if_neg (by rw [l0, nQ_eq (by omega) (by omega)]; exact c0), decide_eq_false c0]
        exact ⟨_, rfl, z.2, rfl, f1.trans f2⟩
  · rintro _ ⟨L1, rfl, -⟩
    rfl
  · rintro _ ⟨L1, rfl, f1⟩
    exact hk _ _ f1
theorem turnJ (hR : RC L (m + 1) S) (hW : WF S) {a b f : Nat} (ha : a < S.H) (hb' : b < S.H) (hfH : f < S.H) (sa : S.st a = true) (sb : S.st b = true) (sf : S.st f = true) (hab : a ≠ b) (haf : a ≠ f) (hbf : b ≠ f) (v4 : Int32) {β : Type} {k : Int32 × Int32 × Int32 × HL → Option β} {P : β → Prop} (hk : ∀ L1 v, Fr (· = m + 8) L L1 → ∃ y, k (nI (ct (rq S a b f) 4), fsq (rq S a b f) 4, v, L1) = some y ∧ P y) {kr : Int32 × HL → Option β} : ∃ y, lx (lp (fun s35 : Int32 × Int32 × Int32 × HL => fX7_doors_b106 m (nI a) (nI b) (nI f) v4 s35.1 s35.2.1 s35.2.2.1 s35.2.2.2) FU ((0 : Int32), (-1 : Int32), (3 : Int32), L)) kr k = some y ∧ P y := by
  refine lx_inv 4 (fun i s => ∃ L1, s = (nI (rsm (rq S a b f) i).1, (rsm (rq S a b f) i).2, iI (3 - (i : Int)), L1) ∧ Fr (· = m + 8) L L1) (by decide) ⟨L, rfl, Fr.refl L⟩ ?_ ?_ ?_
  · rintro i _ hi ⟨L1, rfl, f1⟩
    show ∃ s', fX7_doors_b106 m (nI a) (nI b) (nI f) v4 (nI (rsm (rq S a b f) i).1) (rsm (rq S a b f) i).2 (iI (3 - (i : Int))) L1 = some (Sum.inl s') ∧ ∃ L2, s' = (nI ((rsm (rq S a b f) i).1 + (if rq S a b f (3 - i) then 1 else 0)), (if rq S a b f (3 - i) then nI (10 * ((3 - i) / 2) + (3 - i) % 2) else (rsm (rq S a b f) i).2), iI (3 - ((i + 1 : Nat) : Int)), L2) ∧ Fr (· = m + 8) L L2
    generalize rsm (rq S a b f) i = s
    have fr : ∀ {L1 : HL}, Fr (· = m + 8) L L1 → RC L1 (m + 1) S := fun f => hR.frame (f.1 _ (by omega))
    obtain ⟨w1, w2, w3⟩ := v_c i hi
    obtain ⟨-, -, d3, d4, d5⟩ := cd_c (3 - i) (by omega)
    have j196 : ∀ (p : Bool) L2, fX7_doors_j182 m (nI a) (nI b) (nI f) v4 (nI s.1) s.2 (iI (3 - (i : Int))) (bI (decide ((3 - i) / 2 = 1))) (bI (decide ((3 - i) % 2 = 1))) (bI p) L2 = some (Sum.inl (nI (s.1 + (if p then 1 else 0)), (if p then nI (10 * ((3 - i) / 2) + (3 - i) % 2) else s.2), iI (3 - ((i + 1 : Nat) : Int)), L2)) := by
      intro p L2
      unfold fX7_doors_j182 fX7_doors_j196
      simp only [lt_eq, w3, d5]
      cases p
      · rw [if_pos (by decide), if_pos (by decide), nQ_z]; rfl
      · rw [if_neg (by decide), if_neg (by decide), nQ_s]; rfl
    have j181 : ∀ L2, fX7_doors_j181 m (nI a) (nI b) (nI f) v4 (nI s.1) s.2 (iI (3 - (i : Int))) (bI (decide ((3 - i) / 2 = 1))) (bI (decide ((3 - i) % 2 = 1))) L2 = some (Sum.inl (nI (s.1 + (if false then 1 else 0)), (if false then nI (10 * ((3 - i) / 2) + (3 - i) % 2) else s.2), iI (3 - ((i + 1 : Nat) : Int)), L2)) := fun L2 => j196 false L2
    have er : rq S a b f (3 - i) = rs S a b f (decide ((3 - i) / 2 = 1)) (decide ((3 - i) % 2 = 1)) := rfl
    rw [er]
    unfold fX7_doors_b106
    rw [if_neg w2]
    simp only [lt_eq]
    have d3' : iI (3 - (i : Int)) / (2 : Int32) = bI (decide ((3 - i) / 2 = 1)) := by rw [w1]; exact d3
    have d4' : iI (3 - (i : Int)) - iI (3 - (i : Int)) / (2 : Int32) * (2 : Int32) = bI (decide ((3 - i) % 2 = 1)) := by rw [w1]; exact d4
    rw [d4', d3', one_sub, one_sub]
    generalize decide ((3 - i) / 2 = 1) = x at *
    generalize decide ((3 - i) % 2 = 1) = y at *
    obtain ⟨z1, q1, v1, g1⟩ := (fr f1).getsByF (m := m) hW ha hb' hfH sa sb sf hab haf hbf x y
    have g1 := f1.trans g1
    obtain ⟨z2, q2, v2, g2⟩ := (fr g1).getsByF (m := m) hW ha hb' hfH sa sb sf hab haf hbf (!x) y
    have g2 := g1.trans g2
    obtain ⟨z3, q3, v3, g3⟩ := (fr g2).getsByF (m := m) hW hb' ha hfH sb sa sf (fun e => hab e.symm) hbf haf y x
    have g3 := g2.trans g3
    obtain ⟨z4, q4, v4', g4⟩ := (fr g3).getsByF (m := m) hW hb' ha hfH sb sa sf (fun e => hab e.symm) hbf haf (!y) x
    have g4 := g3.trans g4
    rw [drs_comm] at v3 v4'
    unfold rs
    rw [q1, bd_some, q2, bd_some, v1, v2]
    by_cases c1 : gn S f a (drs a b x y) < gn S f a (drs a b (!x) y)
    · rw [if_pos c1, decide_eq_true c1, j181]; exact ⟨_, rfl, z2.2, rfl, g2⟩
    rw [if_neg c1, decide_eq_false c1, q3, bd_some, q4, bd_some, v3, v4']
    by_cases c2 : gn S f b (drs a b x y) < gn S f b (drs a b x (!y))
    · rw [if_pos c2, decide_eq_true c2, j181]; exact ⟨_, rfl, z4.2, rfl, g4⟩
    · rw [if_neg c2, decide_eq_false c2, show (1 : Int32) = bI true from rfl, j196]; exact ⟨_, rfl, z4.2, rfl, g4⟩
  · rintro _ ⟨L1, rfl, -⟩
    rfl
  · rintro _ ⟨L1, rfl, f1⟩
    rw [rsm_4]
    exact hk _ _ f1
end DOQ
theorem ag_doors (B : Nat) (a b f w : Int32) : Agree B (fX6_doors B a b f w) (fX7_doors (B + 178) a b f w) := fun G hW => by
  have h5 := hW.Q.W.H5
  have hW0 := hW.Q.W
  cases c : (hasI G.S a && (hasI G.S b && (hasI G.S f && (!decide (a = b) && (!decide (a = f) && (!decide (b = f) && inb w 0 1))))))
  · refine ⟨-10, badG G, fun L h => ?_, fun L h => ?_, badG_w hW⟩
    · obtain ⟨z, q⟩ := refK_bad (B := B) (-10) L h
      refine ⟨z, ?_, q.2⟩
      have j56 : fX6_doors_j56 B L = some z := by unfold fX6_doors_j56; rw [bd_eta]; exact q.1
      have j37 : fX6_doors_j37 B a b f w L = some z := by unfold fX6_doors_j37 fX6_doors_j38; rw [if_pos rfl]; exact j56
      unfold fX6_doors
      by_cases c1 : a = f
      · rw [if_pos c1]; exact j37
      by_cases c2 : b = f
      · rw [if_neg c1, if_pos c2]; exact j37
      rw [if_neg c1, if_neg c2, h.Q.S.hasTwoF hW0, bd_some]
      cases c3 : (hasI G.S a && (hasI G.S b && !decide (a = b)))
      · rw [if_pos (by decide)]; exact j37
      rw [if_neg (by decide), h.Q.S.hasF hW0, bd_some]
      cases c4 : hasI G.S f
      · rw [if_pos (by decide)]; exact j37
      rw [if_neg (by decide)]
      simp only [Bool.and_eq_true] at c3
      rw [c3.1, c3.2.1, c3.2.2, c4, decide_eq_false c1, decide_eq_false c2] at c
      have c : inb w 0 1 = false := c
      have c' := inb_f.mp c
      unfold fX6_doors_j38
      simp only [Int32.lt_iff_toInt_lt, Int32.le_iff_toInt_le, tl_0, tl_1]
      rw [if_neg (by decide)]
      by_cases c6 : w.toInt < 0
      · rw [if_pos c6]; exact j56
      · rw [if_neg c6, if_neg (by omega)]; exact j56
    · obtain ⟨z, q⟩ := badJ (m := B + 178) (-10) L h
      refine ⟨z, ?_, q.2⟩
      have j47 : fX7_doors_j47 (B + 178) L = some z := by unfold fX7_doors_j47; rw [bd_eta]; exact q.1
      unfold fX7_doors
      rw [h.Q.S.isHouseF hW0, bd_some]
      cases c1 : hasI G.S a
      · rw [if_pos (by decide)]; exact j47
      rw [if_neg (by decide), h.Q.S.isHouseF hW0, bd_some]
      cases c2 : hasI G.S b
      · rw [if_pos (by decide)]; exact j47
      rw [if_neg (by decide), h.Q.S.isHouseF hW0, bd_some]
      cases c3 : hasI G.S f
      · rw [if_pos (by decide)]; exact j47
      rw [if_neg (by decide)]
      by_cases c4 : a = b
      · rw [if_pos c4]; exact j47
      by_cases c5 : a = f
      · rw [if_neg c4, if_pos c5]; exact j47
      by_cases c6 : b = f
      · rw [if_neg c4, if_neg c5, if_pos c6]; exact j47
      rw [c1, c2, c3, decide_eq_false c4, decide_eq_false c5, decide_eq_false c6] at c
      have c : inb w 0 1 = false := c
      rw [if_neg c4, if_neg c5, if_neg c6, isTwoF, bd_some, c, if_pos (by decide)]; exact j47
  simp only [Bool.and_eq_true, Bool.not_eq_true', decide_eq_false_iff_not] at c
  obtain ⟨c1, c2, c3, c4, c5, c6, c7⟩ := c
  obtain ⟨a, ha, rfl⟩ := hasI_of c1
  obtain ⟨b, hb', rfl⟩ := hasI_of c2
  obtain ⟨f, hfH, rfl⟩ := hasI_of c3
  have hab : a ≠ b := fun e => c4 (by rw [e])
  have haf : a ≠ f := fun e => c5 (by rw [e])
  have hbf : b ≠ f := fun e => c6 (by rw [e])
  have hw : ¬ w < 0 ∧ w ≤ 1 := by
    rcases two_i c7 with rfl | rfl <;> decide
  have K : ∀ L, KI L B G → fX6_doors B (nI a) (nI b) (nI f) w L = fX6_doors_j38 B (nI a) (nI b) (nI f) w 1 L := fun L h => by
    unfold fX6_doors
    rw [if_neg c5, if_neg c6, h.Q.S.hasTwoF hW0, bd_some, c1, c2, decide_eq_false c4, if_neg (by decide), h.Q.S.hasF hW0, bd_some, c3, if_neg (by decide)]
  have rst : ∀ L, JI L (B + 178) G → ∀ z, z < 5 → L.1 (B + 178 + 1) ((29 : Int32) + nI z).toNatClampNeg = bI (G.S.st z) := fun L h z hz => by rw [l29, nQ_add, nI_cl (by omega)]; exact h.Q.S.st z hz
  have vst : ∀ z, z < 5 → vin ((29 : Int32) + nI z) 228 := fun z hz => by rw [l29, nQ_add]; exact vin_nI (by omega) (by omega)
  cases cs : (G.S.st a && (G.S.st b && G.S.st f))
  · refine ⟨-20, noG G, fun L h => ?_, fun L h => ?_, noG_w hW⟩
    · obtain ⟨z, q⟩ := refK_no (B := B) (-20) L h
      refine ⟨z, ?_, q.2⟩
      have j98 : fX6_doors_j98 B L = some z := by unfold fX6_doors_j98; rw [bd_eta]; exact q.1
      rw [K L h]
      unfold fX6_doors_j38
      rw [if_neg (by decide), if_neg hw.1, if_pos hw.2, h.Q.S.standsF, bd_some, stI_n _ (by omega)]
      cases s1 : G.S.st a
      · rw [if_pos (by decide)]; exact j98
      rw [if_neg (by decide), h.Q.S.standsF, bd_some, stI_n _ (by omega)]
      cases s2 : G.S.st b
      · rw [if_pos (by decide)]; exact j98
      rw [s1, s2] at cs
      have cs : G.S.st f = false := cs
      rw [if_neg (by decide), h.Q.S.standsF, bd_some, stI_n _ (by omega), cs, if_pos (by decide)]; exact j98
    · obtain ⟨z, q⟩ := noJ (m := B + 178) (-20) L h
      refine ⟨z, ?_, q.2⟩
      have j90 : fX7_doors_j90 (B + 178) L = some z := by unfold fX7_doors_j90; rw [bd_eta]; exact q.1
      unfold fX7_doors
      rw [h.Q.S.isHouseF hW0, bd_some, c1, if_neg (by decide), h.Q.S.isHouseF hW0, bd_some, c2, if_neg (by decide), h.Q.S.isHouseF hW0, bd_some, c3, if_neg (by decide), if_neg c4, if_neg c5, if_neg c6, isTwoF, bd_some, c7, if_neg (by decide), gd_of (vst a (by omega)), rst L h a (by omega)]
      cases s1 : G.S.st a
      · rw [if_pos (by decide)]; exact j90
      rw [if_neg (by decide), gd_of (vst b (by omega)), rst L h b (by omega)]
      cases s2 : G.S.st b
      · rw [if_pos (by decide)]; exact j90
      rw [s1, s2] at cs
      have cs : G.S.st f = false := cs
      rw [if_neg (by decide), gd_of (vst f (by omega)), rst L h f (by omega), cs, if_pos (by decide)]; exact j90
  simp only [Bool.and_eq_true] at cs
  obtain ⟨sa, sb, sf⟩ := cs
  refine ⟨if w = 0 then nI (ct (rq G.S a b f) 4) else fsq (rq G.S a b f) 4, G, fun L h => ?_, fun L h => ?_, hW⟩
  · rw [K L h]
    unfold fX6_doors_j38
    rw [if_neg (by decide), if_neg hw.1, if_pos hw.2, h.Q.S.standsF, bd_some, stI_n _ (by omega), sa, if_neg (by decide), h.Q.S.standsF, bd_some, stI_n _ (by omega), sb, if_neg (by decide), h.Q.S.standsF, bd_some, stI_n _ (by omega), sf, if_neg (by decide)]
    refine turnK h.Q.S hW0 ha hb' hfH sf hab w fun L1 v f1 => ?_
    obtain ⟨k1, g1⟩ := h.scrF f1 (fun a e => scr_SA e)
    dsimp only
    by_cases c0 : w = 0
    · rw [if_pos c0, if_pos c0]; exact ⟨_, rfl, rfl, k1, g1⟩
    · rw [if_neg c0, if_neg c0]; exact ⟨_, rfl, rfl, k1, g1⟩
  · unfold fX7_doors
    rw [h.Q.S.isHouseF hW0, bd_some, c1, if_neg (by decide), h.Q.S.isHouseF hW0, bd_some, c2, if_neg (by decide), h.Q.S.isHouseF hW0, bd_some, c3, if_neg (by decide), if_neg c4, if_neg c5, if_neg c6, isTwoF, bd_some, c7, if_neg (by decide), gd_of (vst a (by omega)), rst L h a (by omega), sa, if_neg (by decide), gd_of (vst b (by omega)), rst L h b (by omega), sb, if_neg (by decide), gd_of (vst f (by omega)), rst L h f (by omega), sf, if_neg (by decide)]
    refine turnJ h.Q.S hW0 ha hb' hfH sa sb sf hab haf hbf w fun L1 v f1 => ?_
    obtain ⟨k1, g1⟩ := h.scrF f1 (fun a e => by omega)
    dsimp only
    by_cases c0 : w = 0
    · rw [if_pos c0, if_pos c0]; exact ⟨_, rfl, rfl, k1, g1⟩
    · rw [if_neg c0, if_neg c0]; exact ⟨_, rfl, rfl, k1, g1⟩
