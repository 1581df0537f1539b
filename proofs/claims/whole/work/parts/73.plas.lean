/-! ===== marks in the plaster ===== -/
theorem nI_xor (a b : Nat) : nI a ^^^ nI b = nI (a ^^^ b) := by
  apply Int32.toBitVec_inj.mp
  show BitVec.ofNat 32 a ^^^ BitVec.ofNat 32 b = BitVec.ofNat 32 (a ^^^ b)
  rw [BitVec.ofNat_xor]
def mkN (S : Sv) (h : Nat) : Nat := (S.mk h).toNatClampNeg
def pd (S : Sv) (h x : Nat) : Nat := pcn (mkN S h ^^^ mkN S x)
def par (S : Sv) (d x h : Nat) : Bool := decide (h < x) && decide (pd S h x ≤ d)
theorem pd_mk {S : Sv} (hW : WF S) {h x : Nat} (hh : h < S.H) (hx : x < S.H) : ∃ k, k < 256 ∧ S.mk h ^^^ S.mk x = nI k ∧ pd S h x = pcn k := by
  obtain ⟨a, ha, ea⟩ := hW.mk h hh
  obtain ⟨b, hb, eb⟩ := hW.mk x hx
  refine ⟨a ^^^ b, Nat.xor_lt_two_pow (n := 8) ha hb, by rw [ea, eb, nI_xor], ?_⟩
  unfold pd mkN
  rw [ea, eb, nI_cl (by omega), nI_cl (by omega)]
theorem pcn_le (k : Nat) : pcn k ≤ 8 := by unfold pcn; omega
def pari (S : Sv) (d x i : Nat) : Nat := mask (fun h => decide (h < i) && par S d x h) 5
theorem pari_0 (S : Sv) (d x : Nat) : pari S d x 0 = 0 := by
  unfold pari
  simp only [Nat.not_lt_zero, decide_false, Bool.false_and]
  exact mask_zero 5
theorem pari_x (S : Sv) (d x : Nat) : pari S d x x = mask (par S d x) 5 := mask_congr 5 fun h _ => by
  unfold par
  cases decide (h < x) <;> rfl
theorem pari_no {S : Sv} {d x i : Nat} (h : ¬ pd S i x ≤ d) : pari S d x (i + 1) = pari S d x i := mask_congr 5 fun j _ => by
  by_cases e : j = i
  · subst e; unfold par; simp [h]
  · have : (j < i + 1) = (j < i) := propext (by omega)
    simp only [this]
theorem pari_yes {S : Sv} {d x i : Nat} (hi : i < x) (hx : x ≤ 5) (h : pd S i x ≤ d) : nI (pari S d x i) ||| ((1 : Int32) <<< (nI i &&& 31)) = nI (pari S d x (i + 1)) := by
  unfold pari
  rw [i_shl (n := 5) (by omega) (by omega), i_or (by omega)]
  refine congrArg nI (mask_congr 5 fun j _ => ?_)
  by_cases e : j = i
  · subst e; unfold par; simp [h, hi]
  · have : (j < i + 1) = (j < i) := propext (by omega)
    simp only [this, beq_false_of_ne e, Bool.or_false]
section PLA
variable {L : HL} {b m : Nat} {S : Sv}
theorem SC.begettersF (hS : SC L b S) (hW : WF S) {x d : Nat} (hx : x < S.H) (hd : d < 9) : fX4_begetters b (nI x) (nI d) L = some (nI (mask (par S d x) 5)) := by
  have h5 := hW.H5
  unfold fX4_begetters
  rw [← pari_x]
  refine (lx_for x (fun i => (nI (pari S d x i), nI i)) (by rw [pari_0]; rfl) (by rw [FU_20000]; omega) ?_ ?_).trans rfl
  · intro i hi
    unfold fX4_begetters_b5
    obtain ⟨k, hk, e1, e2⟩ := pd_mk hW (show i < S.H by omega) hx
    have hp := pcn_le k
    dsimp only
    rw [if_neg (by rw [nQ_le (by omega) (by omega)]; omega), hS.hasF hW, bd_some, hasI_n S (by omega), decide_eq_true hx, if_neg (by decide), gd_of (vin_nI (by omega) (by omega)), gd_of (vin_nI (by omega) (by omega)), nI_cl (by omega), nI_cl (by omega), hS.mk i (by omega), hS.mk x hx, e1, bitCount_c k hk, bd_some, ← e2]
    by_cases c : pd S i x ≤ d
    · rw [if_neg (by rw [nQ_lt (by omega) (by omega)]; omega), lt_eq, lt_eq, nQ_s, pari_yes hi (by omega) c]
    · rw [if_pos (by rw [nQ_lt (by omega) (by omega)]; omega), lt_eq, nQ_s, pari_no c]
  · unfold fX4_begetters_b5
    dsimp only
    rw [if_pos (by rw [nQ_le (by omega) (by omega)]; omega)]
theorem RC.parentsF (hR : RC L (m + 1) S) (hW : WF S) {x d : Nat} (hx : x < S.H) (hd : d < 9) : fX7_parents m (nI x) (nI d) L = some (nI (mask (par S d x) 5)) := by
  have h5 := hW.H5
  unfold fX7_parents
  rw [← pari_x]
  refine (lx_for x (fun i => (nI (pari S d x i), nI i)) (by rw [pari_0]; rfl) (by rw [FU_20000]; omega) ?_ ?_).trans rfl
  · intro i hi
    unfold fX7_parents_b5
    obtain ⟨k, hk, e1, e2⟩ := pd_mk hW (show i < S.H by omega) hx
    have hp := pcn_le k
    have rm : ∀ z, z < 5 → L.1 (m + 1) ((34 : Int32) + nI z).toNatClampNeg = S.mk z := fun z hz => by rw [l34, nQ_add, nI_cl (by omega)]; exact hR.mk z hz
    have vm : ∀ z, z < 5 → vin ((34 : Int32) + nI z) 228 := fun z hz => by rw [l34, nQ_add]; exact vin_nI (by omega) (by omega)
    dsimp only
    rw [if_neg (by rw [nQ_le (by omega) (by omega)]; omega), gd_of (vm i (by omega)), gd_of (vm x (by omega)), rm i (by omega), rm x (by omega), e1, bits_c k hk, bd_some, ← e2]
    by_cases c : pd S i x ≤ d
    · rw [if_neg (by rw [nQ_lt (by omega) (by omega)]; omega), lt_eq, lt_eq, nQ_s, pari_yes hi (by omega) c]
    · rw [if_pos (by rw [nQ_lt (by omega) (by omega)]; omega), lt_eq, lt_eq, nQ_s, i_or0, pari_no c]
  · unfold fX7_parents_b5
    dsimp only
    rw [if_pos (by rw [nQ_le (by omega) (by omega)]; omega)]
end PLA
def sole (k : Nat) : Nat → Int32
  | 0 => -1
  | n + 1 => if k = 2 ^ n then nI n else sole k n
theorem onlyBit_c : ∀ k, k < 32 → fX6_onlyBit (nI k) = some (sole k 5) := by decide +kernel
theorem sole_c : ∀ x, x < 6 → ∀ k, k < 32 → k < 2 ^ x → sole k x = sole k 5 := by decide +kernel
theorem mask_cut {p : Nat → Bool} {x : Nat} (h : ∀ i, x ≤ i → p i = false) : ∀ d, mask p (x + d) = mask p x
  | 0 => rfl
  | d + 1 => by
    show mask p (x + d) + (if p (x + d) then 2 ^ (x + d) else 0) = _
    rw [mask_cut h d, h (x + d) (by omega)]; rfl
theorem par_lt (S : Sv) (d : Nat) {x : Nat} (hx : x ≤ 5) : mask (par S d x) 5 < 2 ^ x := by
  have := mask_cut (p := par S d x) (x := x) (fun i hi => by unfold par; rw [decide_eq_false (by omega)]; rfl) (5 - x)
  rw [show x + (5 - x) = 5 by omega] at this
  rw [this]
  exact mask_lt _ _
def wys (S : Sv) (d : Nat) : Nat → Int32
  | 0 => 1
  | n + 1 => wys S d n * nI (ct (par S d (n + 1)) 5)
theorem hasN_t {S : Sv} {v : Int32} : inb v (-1) ((S.H : Int) - 1) = (decide (v = -1) || hasI S v) := by
  unfold inb hasI
  by_cases c : v = -1
  · subst c
    rw [tl_m1]
    have : decide ((-1 : Int) ≤ S.H - 1) = true := decide_eq_true (by omega)
    rw [this]; rfl
  · have n : v.toInt ≠ -1 := fun e => c (Int32.toInt_inj.mp (by rw [e]; rfl))
    rw [decide_eq_false c, Bool.false_or]
    congr 1
    · exact decide_eq_decide.mpr (by omega)
    · exact decide_eq_decide.mpr (by omega)
theorem ag_plaster (B : Nat) (a b : Int32) : Agree B (fX6_plaster B a b) (fX7_plaster (B + 178) a b) := fun G hW => by
  have h5 := hW.Q.W.H5
  have hW0 := hW.Q.W
  have eJ : ∀ L, JI L (B + 178) G → fX7_in b.toInt64 (-1 : Int64) ((L.1 (B + 178 + 1) (0 : Int32).toNatClampNeg) - (1 : Int32)).toInt64 = some (bI (decide (b = -1) || hasI G.S b)) := by
    intro L h
    rw [inF, c0q, h.Q.S.H]
    have e : (nI G.S.H - 1).toInt64.toInt = (G.S.H : Int) - 1 := by
      rw [Int32.toInt_toInt64, ← iI_nat, show (1 : Int32) = iI 1 from rfl, iI_sub, iI_toInt (by omega) (by omega)]
    rw [e, show (-1 : Int64).toInt = -1 by decide, hasN_t]
  cases c : (inb a 0 8 && (decide (b = -1) || hasI G.S b))
  · refine ⟨-10, badG G, fun L h => ?_, fun L h => ?_, badG_w hW⟩
    · unfold fX6_plaster fX6_plaster_j26
      simp only [bd_eta, Int32.lt_iff_toInt_lt, tl_0, tl_8]
      obtain ⟨z, q⟩ := refK_bad (B := B) (-10) L h
      refine ⟨z, ?_, q.2⟩
      by_cases c1 : a.toInt < 0
      · rw [if_pos c1]; exact q.1
      by_cases c2 : 8 < a.toInt
      · rw [if_neg c1, if_pos c2]; exact q.1
      rw [inb_t.mpr ⟨by omega, by omega⟩, Bool.true_and, Bool.or_eq_false_iff, decide_eq_false_iff_not] at c
      rw [if_neg c1, if_neg c2, if_neg c.1, h.Q.S.hasF hW0, bd_some, c.2, if_pos (by decide)]; exact q.1
    · unfold fX7_plaster fX7_plaster_j32
      simp only [inF a, bd_some, bd_eta, show (0 : Int64).toInt = 0 by decide, show (8 : Int64).toInt = 8 by decide]
      obtain ⟨z, q⟩ := badJ (m := B + 178) (-10) L h
      refine ⟨z, ?_, q.2⟩
      cases ca : inb a 0 8
      · rw [if_pos (by decide)]; exact q.1
      rw [ca, Bool.true_and] at c
      rw [if_neg (by decide), eJ L h, bd_some, c, if_pos (by decide)]; exact q.1
  rw [Bool.and_eq_true] at c
  obtain ⟨ca, cb⟩ := c
  have ca' := inb_t.mp ca
  obtain ⟨d, hd, rfl⟩ := nI_of_int (v := a) (n := 9) (by omega) (by omega)
  have K : ∀ L, KI L B G → fX6_plaster B (nI d) b L = fX6_plaster_j35 B (nI d) b L := by
    intro L h
    unfold fX6_plaster
    rw [if_neg (by rw [nI_nlt0 (by omega)]; exact not_false), if_neg (by rw [l8, nQ_lt (by omega) (by omega)]; omega)]
    by_cases e : b = -1
    · rw [if_pos e]
    · rw [decide_eq_false e, Bool.false_or] at cb
      rw [if_neg e, h.Q.S.hasF hW0, bd_some, cb, if_neg (by decide)]
  by_cases e : b = -1
  · refine ⟨wys G.S d (G.S.H - 1), G, fun L h => ?_, fun L h => ?_, hW⟩
    · rw [K L h]
      unfold fX6_plaster_j35
      rw [if_pos e]
      refine ⟨(wys G.S d (G.S.H - 1), L), ?_, rfl, h, FrK.refl B L⟩
      refine (lx_for (G.S.H - 1) (fun i => (wys G.S d i, nI (i + 1))) rfl (by rw [FU_20000]; omega) ?_ ?_).trans rfl
      · intro i hi
        unfold fX6_plaster_b58
        dsimp only
        rw [h.Q.S.H, if_neg (by rw [nQ_le (by omega) (by omega)]; omega), h.Q.S.begettersF hW0 (show i + 1 < G.S.H by omega) hd, bd_some, bitCount5, bd_some, lt_eq, lt_eq, nQ_s]
        rfl
      · unfold fX6_plaster_b58
        dsimp only
        rw [h.Q.S.H, if_pos (by rw [nQ_le (by omega) (by omega)]; omega)]
    · unfold fX7_plaster
      rw [inF, bd_some, show (0 : Int64).toInt = 0 by decide, show (8 : Int64).toInt = 8 by decide, ca, if_neg (by decide), eJ L h, bd_some, cb, if_neg (by decide), if_pos e]
      refine ⟨(wys G.S d (G.S.H - 1), L), ?_, rfl, h, FrJ.refl _ L⟩
      refine (lx_for (G.S.H - 1) (fun i => (wys G.S d i, nI (i + 1))) rfl (by rw [FU_20000]; omega) ?_ ?_).trans rfl
      · intro i hi
        unfold fX7_plaster_b49
        dsimp only
        rw [c0q, h.Q.S.H, if_neg (by rw [nQ_le (by omega) (by omega)]; omega), h.Q.S.parentsF hW0 (show i + 1 < G.S.H by omega) hd, bd_some, bits5, bd_some, lt_eq, lt_eq, nQ_s]
        rfl
      · unfold fX7_plaster_b49
        dsimp only
        rw [c0q, h.Q.S.H, if_pos (by rw [nQ_le (by omega) (by omega)]; omega)]
  · have ch := cb
    rw [decide_eq_false e, Bool.false_or] at ch
    obtain ⟨x, hx, rfl⟩ := hasI_of ch
    have hm := par_lt G.S d (x := x) (by omega)
    have hm5 := mask_lt (par G.S d x) 5
    refine ⟨sole (mask (par G.S d x) 5) 5, G, fun L h => ?_, fun L h => ?_, hW⟩
    · rw [K L h]
      unfold fX6_plaster_j35
      rw [if_neg e, h.Q.S.begettersF hW0 hx hd, bd_some, onlyBit_c _ hm5, bd_some]
      exact ⟨_, rfl, rfl, h, FrK.refl B L⟩
    · unfold fX7_plaster
      rw [inF, bd_some, show (0 : Int64).toInt = 0 by decide, show (8 : Int64).toInt = 8 by decide, ca, if_neg (by decide), eJ L h, bd_some, cb, if_neg (by decide), if_neg e, h.Q.S.parentsF hW0 hx hd, bd_some, ← sole_c x (by omega) _ hm5 hm]
      generalize mask (par G.S d x) 5 = k at *
      refine ⟨(sole k x, L), ?_, rfl, h, FrJ.refl _ L⟩
      refine (lx_for x (fun i => (sole k i, nI i)) rfl (by rw [FU_20000]; omega) ?_ ?_).trans rfl
      · intro i hi
        unfold fX7_plaster_b94
        dsimp only
        have hp : 2 ^ i < 64 := Nat.lt_of_lt_of_le (Nat.pow_lt_pow_right (by omega) (show i < 6 by omega)) (by omega)
        rw [if_neg (by rw [nQ_le (by omega) (by omega)]; omega), shl_c i (by omega)]
        by_cases c : k = 2 ^ i
        · rw [if_pos (by rw [c]), lt_eq, nQ_s]
          refine congrArg (fun z => some (Sum.inl (z, nI (i + 1)))) ?_
          exact (if_pos c).symm
        · rw [if_neg (by rw [nQ_eq (by omega) (by omega)]; exact c), lt_eq, nQ_s]
          refine congrArg (fun z => some (Sum.inl (z, nI (i + 1)))) ?_
          exact (if_neg c).symm
      · unfold fX7_plaster_b94
        dsimp only
        rw [if_pos (by rw [nQ_le (by omega) (by omega)]; omega)]
/-! false gables -/
def gab (S : Sv) (d i : Nat) : Nat := mask (fun h => decide (1 ≤ h) && (decide (h < i + 1) && decide (mask (par S d h) 5 = 0))) 5
theorem gab_0 (S : Sv) (d : Nat) : gab S d 0 = 0 := by
  refine (mask_congr 5 fun h _ => ?_).trans (mask_zero 5)
  by_cases c : 1 ≤ h
  · rw [decide_eq_false (show ¬ h < 0 + 1 by omega)]; simp
  · rw [decide_eq_false c]; rfl
theorem gab_s (S : Sv) {d i : Nat} (hi : i + 1 < 5) : (if nI (mask (par S d (i + 1)) 5) = 0 then nI (gab S d i) ||| ((1 : Int32) <<< (nI (i + 1) &&& 31)) else nI (gab S d i)) = nI (gab S d (i + 1)) := by
  have hm := mask_lt (par S d (i + 1)) 5
  have ez : (nI (mask (par S d (i + 1)) 5) = 0) = (mask (par S d (i + 1)) 5 = 0) := by rw [l0]; exact nQ_eq (by omega) (by omega)
  simp only [ez]
  unfold gab
  by_cases c : mask (par S d (i + 1)) 5 = 0
  · rw [if_pos c, i_shl (n := 5) (by omega) (by omega), i_or (by omega)]
    refine congrArg nI (mask_congr 5 fun j _ => ?_)
    by_cases e : j = i + 1
    · subst e; simp [c]
    · have : (j < i + 1 + 1) = (j < i + 1) := propext (by omega)
      simp only [this, beq_false_of_ne e, Bool.or_false]
  · rw [if_neg c]
    refine congrArg nI (mask_congr 5 fun j _ => ?_)
    by_cases e : j = i + 1
    · subst e; simp [c]
    · have : (j < i + 1 + 1) = (j < i + 1) := propext (by omega)
      simp only [this]
theorem ag_gables (B : Nat) (a : Int32) : Agree B (fX6_gables B a) (fX7_gables (B + 178) a) := fun G hW => by
  have h5 := hW.Q.W.H5
  have hW0 := hW.Q.W
  cases c : inb a 0 8
  · have c' := inb_f.mp c
    refine ⟨-2, badG G, fun L h => ?_, fun L h => ?_, badG_w hW⟩
    · unfold fX6_gables fX6_gables_j10
      simp only [bd_eta, Int32.lt_iff_toInt_lt, Int32.le_iff_toInt_le, tl_0, tl_8]
      obtain ⟨z, q⟩ := refK_bad (B := B) (-2) L h
      refine ⟨z, ?_, q.2⟩
      by_cases c1 : a.toInt < 0
      · rw [if_pos c1]; exact q.1
      · rw [if_neg c1, if_neg (by omega)]; exact q.1
    · unfold fX7_gables
      rw [inF, bd_some, show (0 : Int64).toInt = 0 by decide, show (8 : Int64).toInt = 8 by decide, c, if_pos (by decide), bd_eta]; exact badJ (-2) L h
  have c' := inb_t.mp c
  obtain ⟨d, hd, rfl⟩ := nI_of_int (v := a) (n := 9) (by omega) (by omega)
  refine ⟨nI (gab G.S d (G.S.H - 1)), G, fun L h => ?_, fun L h => ?_, hW⟩
  · unfold fX6_gables
    rw [if_neg (by rw [nI_nlt0 (by omega)]; exact not_false), if_pos (by rw [l8, nQ_le (by omega) (by omega)]; omega)]
    refine ⟨(nI (gab G.S d (G.S.H - 1)), L), ?_, rfl, h, FrK.refl B L⟩
    refine (lx_for (G.S.H - 1) (fun i => (nI (gab G.S d i), nI (i + 1))) (by rw [gab_0]; rfl) (by rw [FU_20000]; omega) ?_ ?_).trans rfl
    · intro i hi
      unfold fX6_gables_b23
      dsimp only
      rw [h.Q.S.H, if_neg (by rw [nQ_le (by omega) (by omega)]; omega), h.Q.S.begettersF hW0 (show i + 1 < G.S.H by omega) hd, bd_some, ← gab_s G.S (show i + 1 < 5 by omega)]
      by_cases c : nI (mask (par G.S d (i + 1)) 5) = 0
      · rw [if_pos c, if_pos c, lt_eq, lt_eq, nQ_s]
      · rw [if_neg c, if_neg c, lt_eq, nQ_s]
    · unfold fX6_gables_b23
      dsimp only
      rw [h.Q.S.H, if_pos (by rw [nQ_le (by omega) (by omega)]; omega)]
  · unfold fX7_gables
    rw [inF, bd_some, show (0 : Int64).toInt = 0 by decide, show (8 : Int64).toInt = 8 by decide, c, if_neg (by decide)]
    refine ⟨(nI (gab G.S d (G.S.H - 1)), L), ?_, rfl, h, FrJ.refl _ L⟩
    refine (lx_for (G.S.H - 1) (fun i => (nI (gab G.S d i), nI (i + 1))) (by rw [gab_0]; rfl) (by rw [FU_20000]; omega) ?_ ?_).trans rfl
    · intro i hi
      unfold fX7_gables_b23
      dsimp only
      rw [c0q, h.Q.S.H, if_neg (by rw [nQ_le (by omega) (by omega)]; omega), h.Q.S.parentsF hW0 (show i + 1 < G.S.H by omega) hd, bd_some, ← gab_s G.S (show i + 1 < 5 by omega)]
      by_cases c : nI (mask (par G.S d (i + 1)) 5) = 0
      · rw [if_pos c, if_pos c, lt_eq, lt_eq, nQ_s]
      · rw [if_neg c, if_neg c, lt_eq, lt_eq, nQ_s, i_or0]
    · unfold fX7_gables_b23
      dsimp only
      rw [c0q, h.Q.S.H, if_pos (by rw [nQ_le (by omega) (by omega)]; omega)]
