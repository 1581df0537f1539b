/-! ===== orders agree ===== -/
theorem vn_dig : ∀ k s c, s < 32 → c < 5 ^ k → vn k s c = true → ∀ j, j < k → tb s (dig k c j) = true
  | 0, _, _, _, _, _ => fun j hj => by omega
  | k + 1, s, c, hs, hc, h => fun j hj => by
    have h : (tb s (c / 5 ^ k) && vn k (s - 2 ^ (c / 5 ^ k)) (c % 5 ^ k)) = true := h
    rw [Bool.and_eq_true] at h
    cases j with
    | zero => rw [dig_0 hc]; exact h.1
    | succ j =>
      rw [dig_s (by omega)]
      have := vn_dig k _ _ (Nat.lt_of_le_of_lt (Nat.sub_le _ _) hs) (low_lt c k) h.2 j (by omega)
      rw [tb_sub s hs _ (top_lt hc) h.1 _ (dig_lt _ _ _), Bool.and_eq_true] at this
      exact this.1
theorem sub_of {v : Int32} {M : Nat} (hM : M < 32) (h : v &&& (nI M ^^^ (-1 : Int32)) = 0) : ∃ s, s < 32 ∧ v = nI s ∧ s &&& M = s := by
  have e : v.toBitVec &&& (BitVec.ofNat 32 M ^^^ BitVec.allOnes 32) = 0#32 := by
    have := congrArg Int32.toBitVec h
    exact this
  have e2 : v.toBitVec &&& BitVec.ofNat 32 M = v.toBitVec := by
    apply BitVec.eq_of_getLsbD_eq
    intro i hi
    have := congrArg (fun b => BitVec.getLsbD b i) e
    simp only [BitVec.getLsbD_and, BitVec.getLsbD_xor, BitVec.getLsbD_allOnes, BitVec.getLsbD_zero, hi, decide_true] at this
    rw [BitVec.getLsbD_and]
    revert this
    cases v.toBitVec.getLsbD i <;> cases (BitVec.ofNat 32 M).getLsbD i <;> decide
  have e3 : v.toBitVec.toNat &&& M = v.toBitVec.toNat := by
    have := congrArg BitVec.toNat e2
    rw [BitVec.toNat_and, BitVec.toNat_ofNat, Nat.mod_eq_of_lt (by omega)] at this
    exact this
  refine ⟨v.toBitVec.toNat, ?_, ?_, e3⟩
  · have : v.toBitVec.toNat &&& M ≤ M := Nat.and_le_right
    omega
  · apply Int32.toBitVec_inj.mp
    show v.toBitVec = BitVec.ofNat 32 v.toBitVec.toNat
    rw [BitVec.ofNat_toNat, BitVec.setWidth_eq]
theorem mask_lt_H {S : Sv} (hW : WF S) : mask S.st 5 < 2 ^ S.H := by
  have h5 := hW.H5
  have := mask_cut (p := S.st) (x := S.H) (fun i hi => by
    cases c : S.st i
    · rfl
    · have := hW.st i c; omega) (5 - S.H)
  rw [show S.H + (5 - S.H) = 5 by omega] at this
  rw [this]
  exact mask_lt _ _
def frv (P : Nat → Bool) (N : Nat) : Nat → Option Nat
  | 0 => none
  | i + 1 => if P (N - 1 - i) then some (N - 1 - i) else frv P N i
def rcv (P : Nat → Bool) (N : Nat) : Nat → Nat
  | 0 => 0
  | i + 1 => rcv P N i + if P (N - 1 - i) then 1 else 0
theorem frv_or (P : Nat → Bool) (N : Nat) : ∀ i, i ≤ N → (lsc P (N - i)).or (frv P N i) = lsc P N
  | 0, _ => by show (lsc P N).or none = _; rw [Option.or_none]
  | i + 1, h => by
    rw [← frv_or P N i (by omega), show N - i = N - (i + 1) + 1 by omega, lsc_s, or_as]
    congr 1
    show (if P (N - 1 - i) then some (N - 1 - i) else frv P N i) = _
    rw [show N - (i + 1) = N - 1 - i by omega]
    cases P (N - 1 - i) <;> rfl
theorem rcv_ct (P : Nat → Bool) (N : Nat) : ∀ i, i ≤ N → rcv P N i + ct P (N - i) = ct P N
  | 0, _ => by show 0 + ct P N = ct P N; rw [Nat.zero_add]
  | i + 1, h => by
    rw [← rcv_ct P N i (by omega), show N - i = N - (i + 1) + 1 by omega, ct_s, show N - (i + 1) = N - 1 - i by omega]
    show rcv P N i + (if P (N - 1 - i) then 1 else 0) + _ = _
    omega
theorem frv_N (P : Nat → Bool) (N : Nat) : frv P N N = lsc P N := by
  have := frv_or P N N (Nat.le_refl N)
  rw [Nat.sub_self] at this
  exact this
theorem rcv_N (P : Nat → Bool) (N : Nat) : rcv P N N = ct P N := by
  have := rcv_ct P N N (Nat.le_refl N)
  rw [Nat.sub_self] at this
  exact this
def oI : Option Nat → Int32
  | none => -1
  | some v => nI v
def oans (S : Sv) (s p : Nat) (g w : Int32) : Int32 := if w = -1 then nI (ct (Po p g (pcn s) s S) (5 ^ pcn s)) else match lsc (Po p g (pcn s) s S) (5 ^ pcn s) with
  | none => -1
  | some v => if nI (pcn s) ≤ w then -5 else nI (dig (pcn s) v w.toNatClampNeg)
section ORD
variable {L : HL} {m B : Nat} {S : Sv} {G : Gv}
theorem seekF (hS : SC L (B + 1) S) (hW : WF S) {p s : Nat} {g : Int32} (hs : s < 32) (hst : ∀ h, h < 5 → tb s h = true → S.st h = true) (hp : p < S.P) : ∃ L', fX2_seek (B + 150) (B + 1) (nI s) (nI p) g L = some L' ∧ L'.1 (B + 150) 5 = nI (ct (Po p g (pcn s) s S) (5 ^ pcn s)) ∧ FO L' (B + 150) (pcn s) (lsc (Po p g (pcn s) s S) (5 ^ pcn s)) ∧ Fr (scr B) L L' := by
  have h6 := hW.P6
  unfold fX2_seek
  obtain ⟨L1, e1, q1, f1⟩ := hS.takeFromF (a0 := B + 150 + 1) hW (.inr (by omega))
  have q2 : SC (wI L1 (B + 150) 5 0) (B + 150 + 1) S := q1.frame fun a _ _ => wQ_ne (by omega)
  have hn := pcn5 s hs
  have h5 := pow5_le hn
  obtain ⟨L3, e3, t1, t2, t3, -, -, -, tf⟩ := tryF (p := p) (g := g) (a := B + 150) hn (pcn s) 8 (by omega) (wI L1 (B + 150) 5 0) S s 0 0 0 none q2 hW hs rfl hst (by omega) hp (wQ_same _ _ _ _) ⟨fun _ => rfl, fun _ => rfl⟩ (by omega) (fun j hj => by omega) (fun v ev => by cases ev)
  rw [e1, bd_some, lt_eq, q2.hasOneF hW, bd_some, oneI_n S (by omega), decide_eq_true hp, if_neg (by decide), show fX2_tryOrders 8 (B + 150) 0 (nI s) (nI p) g (wI L1 (B + 150) 5 0) = some L3 from e3, bd_some]
  refine ⟨L3, rfl, by rw [t2, Nat.zero_add], ?_, ((f1.mono fun a h => by unfold scr; omega).wI (by unfold scr; omega) _ _).trans (tf.mono fun a h => by unfold scr; omega)⟩
  have : (none : Option Nat).or (pre 0 (5 ^ pcn s) (lsc (Po p g (pcn s) s S) (5 ^ pcn s))) = lsc (Po p g (pcn s) s S) (5 ^ pcn s) := by
    cases lsc (Po p g (pcn s) s S) (5 ^ pcn s) with
    | none => rfl
    | some v => show some (0 * 5 ^ pcn s + v) = some v; rw [Nat.zero_mul, Nat.zero_add]
  rw [this] at t3
  exact t3
theorem ordersJ (hR : RC L (m + 1) S) (hW : WF S) {p s : Nat} {g v1 v4 : Int32} (hs : s < 32) (hst : ∀ h, h < 5 → tb s h = true → S.st h = true) (hp : p < S.P) {β : Type} {k : Int32 × Int32 × Int32 × HL → Option β} {Q : β → Prop} (hk : ∀ L1 u, Fr (fun a => a = m + 8 ∨ a = m + 9 ∨ a = m + 10) L L1 → ∃ y, k (nI (ct (Po p g (pcn s) s S) (5 ^ pcn s)), oI (lsc (Po p g (pcn s) s S) (5 ^ pcn s)), u, L1) = some y ∧ Q y) {kr : Int32 × HL → Option β} : ∃ y, lx (lp (fun s24 : Int32 × Int32 × Int32 × HL => fX7_orders_b101 m (nI s) (nI p) g v4 (nI (pcn s)) s24.1 s24.2.1 s24.2.2.1 s24.2.2.2) FU ((0 : Int32), (-1 : Int32), nI (5 ^ pcn s) - 1, L)) kr k = some y ∧ Q y := by
  have h6 := hW.P6
  have hn := pcn5 s hs
  have h5 := pow5_le hn
  have hvn : ∀ c, c < 5 ^ pcn s → (mt c (pcn s) == s) = vn (pcn s) s c := fun c hc => vn_c (pcn s) s c hs rfl hc
  have hdg : ∀ c, c < 5 ^ pcn s → vn (pcn s) s c = true → ∀ j, j < pcn s → dig (pcn s) c j < S.H := fun c hc h j hj => hW.st _ (hst _ (dig_lt _ _ _) (vn_dig _ s c hs hc h j hj))
  have hPo : ∀ c, c < 5 ^ pcn s → Po p g (pcn s) s S c = (vn (pcn s) s c && decide ((itS S (dig (pcn s) c) (pcn s)).wh p = g)) := fun c hc => by unfold Po; rw [Fk_it _ _ _ hc]
  generalize hP : Po p g (pcn s) s S = P at *
  generalize hnn : pcn s = n at *
  have e0 : nI (5 ^ n) - 1 = iI (((5 ^ n : Nat) : Int) - 1 - ((0 : Nat) : Int)) := by rw [← iI_nat, show (1 : Int32) = iI 1 from rfl, iI_sub]; exact congrArg iI (by omega)
  rw [e0]
  generalize hN : 5 ^ n = N at *
  refine lx_inv N (fun i t => ∃ L2, t = (nI (rcv P N i), oI (frv P N i), iI ((N : Int) - 1 - (i : Int)), L2) ∧ Fr (fun a => a = m + 8 ∨ a = m + 9 ∨ a = m + 10) L L2) (by rw [FU_20000]; omega) ⟨L, rfl, Fr.refl L⟩ ?_ ?_ ?_
  · rintro i _ hi ⟨L2, rfl, f⟩
    have hR2 : RC L2 (m + 1) S := hR.frame (f.1 _ (by omega))
    have ei : iI ((N : Int) - 1 - (i : Int)) = nI (N - 1 - i) := by rw [← iI_nat]; exact congrArg iI (by omega)
    have es : nI (N - 1 - i) + (-1 : Int32) = iI ((N : Int) - 1 - ((i + 1 : Nat) : Int)) := by rw [m1I, ← iI_nat, iI_add]; exact congrArg iI (by omega)
    show ∃ s', fX7_orders_b101 m (nI s) (nI p) g v4 (nI n) (nI (rcv P N i)) (oI (frv P N i)) (iI ((N : Int) - 1 - (i : Int))) L2 = some (Sum.inl s') ∧ ∃ L3, s' = (nI (rcv P N i + if P (N - 1 - i) then 1 else 0), oI (if P (N - 1 - i) then some (N - 1 - i) else frv P N i), iI ((N : Int) - 1 - ((i + 1 : Nat) : Int)), L3) ∧ Fr (fun a => a = m + 8 ∨ a = m + 9 ∨ a = m + 10) L L3
    rw [hPo (N - 1 - i) (by omega)]
    generalize rcv P N i = rr
    generalize frv P N i = ff
    obtain ⟨L3, e3, v3, f3⟩ := layOrderF L2 m (n := n) (c := N - 1 - i) (s := s) hn (by omega) hs
    unfold fX7_orders_b101
    rw [ei, if_neg (by rw [nI_nlt0 (by omega)]; exact not_false), e3, bd_some, hvn _ (by omega)]
    cases cv : vn n s (N - 1 - i)
    · rw [if_pos (show bI false = 0 from rfl), lt_eq, es]
      exact ⟨_, rfl, L3, rfl, f.trans (f3.mono fun a h => .inr (.inr h))⟩
    rw [if_neg (show ¬ bI true = 0 by decide), Bool.true_and]
    have hR3 : RC L3 (m + 1) S := hR2.frame (f3.1 _ (by omega))
    obtain ⟨L4, e4, q4, f4⟩ := layFallsF hR3 hW (k := n) hn (d := dig n (N - 1 - i)) (fun j hj => ⟨v3 j hj, hdg _ (by omega) cv j hj⟩)
    have f5 := (f.trans (f3.mono fun a h => .inr (.inr h))).trans (f4.mono (A' := fun a => a = m + 8 ∨ a = m + 9 ∨ a = m + 10) fun a h => by omega)
    have rp : L4.1 (m + 9) ((70 : Int32) + nI p).toNatClampNeg = (itS S (dig n (N - 1 - i)) n).wh p := by rw [l70, nQ_add, nI_cl (by omega)]; exact q4.wh p (by omega)
    rw [e4, bd_some, gd_of (by rw [l70, nQ_add]; exact vin_nI (by omega) (by omega)), rp]
    unfold fX7_orders_j143 fX7_orders_j157
    simp only [lt_eq, es]
    by_cases cg : (itS S (dig n (N - 1 - i)) n).wh p = g
    · rw [if_pos cg, if_neg (by decide), if_neg (by decide), nQ_s, decide_eq_true cg]
      exact ⟨_, rfl, L4, rfl, f5⟩
    · rw [if_neg cg, if_pos trivial, if_pos trivial, nQ_z, decide_eq_false cg]
      exact ⟨_, rfl, L4, rfl, f5⟩
  · rintro _ ⟨L2, rfl, f⟩
    unfold fX7_orders_b101
    rw [if_pos (iI_neg (by omega) (by omega))]
  · rintro _ ⟨L2, rfl, f⟩
    rw [rcv_N, frv_N]
    exact hk _ _ f
end ORD
theorem ag_orders (B : Nat) (a b c d : Int32) : Agree B (fX6_orders B a b c d) (fX7_orders (B + 178) a b c d) := fun G hW => by
  have h5 := hW.Q.W.H5
  have h6 := hW.Q.W.P6
  have hW0 := hW.Q.W
  have hM : mask G.S.st 5 < 32 := mask_lt _ 5
  have bad : ((decide (a &&& (nI (mask G.S.st 5) ^^^ (-1 : Int32)) = 0) && oneI G.S b) && ((decide (c = -1) || hasI G.S c) && decide ((-1 : Int32) ≤ d))) = false → ∃ r G', OpK (fX6_orders B a b c d) B G r G' ∧ OpJ (fX7_orders (B + 178) a b c d) (B + 178) G r G' ∧ WG G' := by
    intro cc
    refine ⟨-10, badG G, fun L h => ?_, fun L h => ?_, badG_w hW⟩
    · obtain ⟨z, q⟩ := refK_bad (B := B) (-10) L h
      refine ⟨z, ?_, q.2⟩
      have j59 : fX6_orders_j59 B L = some z := by unfold fX6_orders_j59; rw [bd_eta]; exact q.1
      have j29 : fX6_orders_j29 B a b c d L = some z := by unfold fX6_orders_j29 fX6_orders_j30; rw [if_pos rfl]; exact j59
      unfold fX6_orders
      rw [h.Q.S.st]
      by_cases c1 : a &&& (nI (mask G.S.st 5) ^^^ (-1 : Int32)) = 0
      · rw [decide_eq_true c1, Bool.true_and] at cc
        rw [if_pos c1, h.Q.S.hasOneF hW0, bd_some]
        cases c2 : oneI G.S b
        · rw [if_pos (by decide)]; exact j29
        · rw [c2, Bool.true_and] at cc
          rw [if_neg (by decide)]
          have j53 : decide ((-1 : Int32) ≤ d) = false → fX6_orders_j53 B a b c d L = some z := fun e => by
            unfold fX6_orders_j53
            rw [if_neg (of_decide_eq_false e)]; exact j59
          unfold fX6_orders_j30
          rw [if_neg (by decide)]
          by_cases c3 : c = -1
          · rw [decide_eq_true c3, Bool.true_or, Bool.true_and] at cc
            rw [if_pos c3]; exact j53 cc
          · rw [decide_eq_false c3, Bool.false_or] at cc
            rw [if_neg c3, h.Q.S.hasF hW0, bd_some]
            cases c4 : hasI G.S c
            · rw [if_pos (by decide)]; exact j59
            · rw [c4, Bool.true_and] at cc
              rw [if_neg (by decide)]; exact j53 cc
      · rw [if_neg c1]; exact j29
    · obtain ⟨z, q⟩ := badJ (m := B + 178) (-10) L h
      refine ⟨z, ?_, q.2⟩
      have j73 : fX7_orders_j73 (B + 178) L = some z := by unfold fX7_orders_j73; rw [bd_eta]; exact q.1
      have j38 : fX7_orders_j38 (B + 178) a b c d L = some z := by unfold fX7_orders_j38 fX7_orders_j39; rw [if_pos rfl]; exact j73
      unfold fX7_orders
      rw [inF, bd_some]
      generalize inb a (0 : Int64).toInt _ = u
      cases u
      · rw [if_pos (by decide)]; exact j38
      rw [if_neg (by decide), h.Q.S.standingF hW0 (by omega) (by omega), bd_some]
      by_cases c1 : a &&& (nI (mask G.S.st 5) ^^^ (-1 : Int32)) = 0
      · rw [decide_eq_true c1, Bool.true_and] at cc
        rw [if_pos c1]
        unfold fX7_orders_j39
        rw [if_neg (by decide), h.Q.S.isOneF hW0, bd_some]
        cases c2 : oneI G.S b
        · rw [if_pos (by decide)]; exact j73
        · rw [c2, Bool.true_and] at cc
          rw [if_neg (by decide)]
          have j67 : decide ((-1 : Int32) ≤ d) = false → fX7_orders_j67 (B + 178) a b c d L = some z := fun e => by
            unfold fX7_orders_j67
            rw [if_neg (of_decide_eq_false e)]; exact j73
          by_cases c3 : c = -1
          · rw [decide_eq_true c3, Bool.true_or, Bool.true_and] at cc
            rw [if_pos c3]; exact j67 cc
          · rw [decide_eq_false c3, Bool.false_or] at cc
            rw [if_neg c3, h.Q.S.isHouseF hW0, bd_some]
            cases c4 : hasI G.S c
            · rw [if_pos (by decide)]; exact j73
            · rw [c4, Bool.true_and] at cc
              rw [if_neg (by decide)]; exact j67 cc
      · rw [if_neg c1]; exact j38
  cases cc : ((decide (a &&& (nI (mask G.S.st 5) ^^^ (-1 : Int32)) = 0) && oneI G.S b) && ((decide (c = -1) || hasI G.S c) && decide ((-1 : Int32) ≤ d)))
  · exact bad cc
  clear bad
  rw [Bool.and_eq_true, Bool.and_eq_true, Bool.and_eq_true, decide_eq_true_eq, decide_eq_true_eq] at cc
  obtain ⟨⟨c1, c2⟩, c3, c4⟩ := cc
  obtain ⟨s, hs, rfl, hsM⟩ := sub_of hM c1
  obtain ⟨p, hp, rfl⟩ := oneI_of c2
  have hst : ∀ h, h < 5 → tb s h = true → G.S.st h = true := by
    intro h hh e
    have := tb_and s (by omega) (mask G.S.st 5) (by omega) h (by omega)
    rw [hsM, e, tb_mask (by omega) (by omega)] at this
    have this : (true && (decide (h < 5) && G.S.st h)) = true := this.symm
    simp only [Bool.and_eq_true] at this
    exact this.2.2
  have hsm : s ≤ mask G.S.st 5 := by
    have : s &&& mask G.S.st 5 ≤ mask G.S.st 5 := Nat.and_le_right
    omega
  have hn := pcn5 s hs
  have hN5 := pow5_le hn
  have hH := mask_lt_H hW0
  have hct := ct_le (Po p c (pcn s) s G.S) (5 ^ pcn s)
  have hz := lsc_ct (p := Po p c (pcn s) s G.S) (5 ^ pcn s)
  have dn : ∀ {q : Nat}, ¬ nI q ≤ d → d ≠ -1 → ∃ j, j < q ∧ d = nI j := by
    intro q hq hd
    have a1 : (-1 : Int) ≤ d.toInt := by have := Int32.le_iff_toInt_le.mp c4; rwa [tl_m1] at this
    have a2 : d.toInt ≠ -1 := fun e => hd (Int32.toInt_inj.mp (by rw [e]; rfl))
    by_cases hq2 : q < 2147483648
    · have a3 : ¬ (q : Int) ≤ d.toInt := fun e => hq (Int32.le_iff_toInt_le.mpr (by rw [nI_toI hq2]; exact e))
      exact nI_of_int (by omega) (by omega)
    · have := i_lt d
      exact nI_of_int (by omega) (by omega)
  have K : ∀ L, KI L B G → fX6_orders B (nI s) (nI p) c d L = fX6_orders_j53 B (nI s) (nI p) c d L := fun L h => by
    unfold fX6_orders
    rw [h.Q.S.st, if_pos c1, h.Q.S.hasOneF hW0, bd_some, c2, if_neg (by decide)]
    unfold fX6_orders_j30
    rw [if_neg (by decide)]
    by_cases e : c = -1
    · rw [if_pos e]
    · rw [decide_eq_false e, Bool.false_or] at c3
      rw [if_neg e, h.Q.S.hasF hW0, bd_some, c3, if_neg (by decide)]
  have J : ∀ L, JI L (B + 178) G → fX7_orders (B + 178) (nI s) (nI p) c d L = fX7_orders_j67 (B + 178) (nI s) (nI p) c d L := fun L h => by
    unfold fX7_orders
    have hin : inb (nI s) (0 : Int64).toInt (((1 : Int32) <<< ((L.1 (B + 178 + 1) (0 : Int32).toNatClampNeg) &&& 31)) - (1 : Int32)).toInt64.toInt = true := by
      have hp2 : 2 ^ G.S.H < 64 := Nat.lt_of_lt_of_le (Nat.pow_lt_pow_right (by omega) (show G.S.H < 6 by omega)) (by omega)
      rw [c0q, h.Q.S.H, shl_c G.S.H (by omega), show nI (2 ^ G.S.H) - (1 : Int32) = nI (2 ^ G.S.H - 1) from nQ_sub (b := 1) (Nat.pow_pos (by omega)), nI_long (by omega), jI_toInt (by omega) (by omega), inb_t, nI_toI (by omega)]
      refine ⟨by show (0 : Int) ≤ s; omega, by omega⟩
    rw [inF, bd_some, hin, if_neg (by decide), h.Q.S.standingF hW0 (by omega) (by omega), bd_some, if_pos c1]
    unfold fX7_orders_j39
    rw [if_neg (by decide), h.Q.S.isOneF hW0, bd_some, c2, if_neg (by decide)]
    by_cases e : c = -1
    · rw [if_pos e]
    · rw [decide_eq_false e, Bool.false_or] at c3
      rw [if_neg e, h.Q.S.isHouseF hW0, bd_some, c3, if_neg (by decide)]
  refine ⟨oans G.S s p c d, G, fun L h => ?_, fun L h => ?_, hW⟩
  · rw [K L h]
    unfold fX6_orders_j53 oans
    obtain ⟨L1, e1, v1, v2, f1⟩ := seekF (g := c) h.Q.S hW0 hs hst hp
    have fin := h.scrF f1 (fun a e => e)
    rw [if_pos c4, e1, bd_some, v1]
    by_cases e : d = -1
    · rw [if_pos e, if_pos e]; exact ⟨_, rfl, rfl, fin⟩
    rw [if_neg e, if_neg e]
    cases ef : lsc (Po p c (pcn s) s G.S) (5 ^ pcn s) with
    | none =>
      rw [if_pos (by rw [hz.mp ef]; rfl)]; exact ⟨_, rfl, rfl, fin⟩
    | some v =>
      have nz : ¬ ct (Po p c (pcn s) s G.S) (5 ^ pcn s) = 0 := fun z => by rw [hz.mpr z] at ef; cases ef
      rw [if_neg (by rw [l0, nQ_eq (by omega) (by omega)]; exact nz), bitCount_c s (by omega), bd_some]
      by_cases e2 : nI (pcn s) ≤ d
      · rw [if_pos e2]; exact ⟨_, rfl, (if_pos e2).symm, fin⟩
      · obtain ⟨j, hj, rfl⟩ := dn e2 e
        rw [if_neg e2, if_pos (by rw [l5, nQ_lt (by omega) (by omega)]; omega), gd_of (vin_nI (by omega) (by omega)), nI_cl (by omega), v2 v ef j hj]
        refine ⟨_, rfl, ?_, fin⟩
        show nI (dig (pcn s) v j) = if nI (pcn s) ≤ nI j then -5 else _
        rw [if_neg e2]
  · rw [J L h]
    unfold fX7_orders_j67 oans
    rw [if_pos c4, bits_c s (by omega), bd_some, codesF _ (by omega), bd_some, lt_eq]
    refine ordersJ (v1 := nI s) h.Q.S hW0 hs hst hp fun L1 u f1 => ?_
    obtain ⟨k1, g1⟩ := h.scrF f1 (fun a e => by omega)
    dsimp only
    by_cases e : d = -1
    · rw [if_pos e, if_pos e]; exact ⟨_, rfl, rfl, k1, g1⟩
    rw [if_neg e, if_neg e]
    cases ef : lsc (Po p c (pcn s) s G.S) (5 ^ pcn s) with
    | none =>
      rw [if_pos (by rw [hz.mp ef]; rfl)]; exact ⟨_, rfl, rfl, k1, g1⟩
    | some v =>
      have nz : ¬ ct (Po p c (pcn s) s G.S) (5 ^ pcn s) = 0 := fun z => by rw [hz.mpr z] at ef; cases ef
      obtain ⟨hv, pv⟩ := lsc_v ef
      unfold Po at pv
      rw [Bool.and_eq_true] at pv
      obtain ⟨L2, e2, v2, f2⟩ := layOrderF L1 (B + 178) (n := pcn s) (c := v) (s := s) hn (by omega) hs
      obtain ⟨k2, g2⟩ := k1.scrF f2 (fun a e => by omega)
      have g3 := g1.trans g2
      rw [if_neg (by rw [l0, nQ_eq (by omega) (by omega)]; exact nz), show oI (some v) = nI v from rfl, e2, bd_some, vn_c (pcn s) s v hs rfl hv, pv.1, if_neg (show ¬ bI true = 0 by decide)]
      by_cases e2 : nI (pcn s) ≤ d
      · rw [if_pos e2]; exact ⟨_, rfl, (if_pos e2).symm, k2, g3⟩
      · obtain ⟨j, hj, rfl⟩ := dn e2 e
        rw [if_neg e2, gd_of (vin_nI (by omega) (by omega)), nI_cl (by omega), v2 j hj]
        refine ⟨_, rfl, ?_, k2, g3⟩
        show nI (dig (pcn s) v j) = if nI (pcn s) ≤ nI j then -5 else _
        rw [if_neg e2]
