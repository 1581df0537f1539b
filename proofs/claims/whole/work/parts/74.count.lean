/-! ===== how many there are ===== -/
def sm (f : Nat → Nat) : Nat → Nat
  | 0 => 0
  | n + 1 => sm f n + f n
theorem sm_cut {f : Nat → Nat} {n : Nat} (h : ∀ i, n ≤ i → f i = 0) : ∀ d, sm f (n + d) = sm f n
  | 0 => rfl
  | d + 1 => by
    show sm f (n + d) + f (n + d) = sm f n
    rw [sm_cut h d, h _ (by omega)]; rfl
theorem ct_none {p : Nat → Bool} : ∀ n, (∀ i, i < n → p i = false) → ct p n = 0
  | 0, _ => rfl
  | n + 1, h => by
    show ct p n + (if p n then 1 else 0) = 0
    rw [ct_none n (fun i hi => h i (by omega)), h n (by omega)]; rfl
def wsum (S : Sv) : Nat := sm (fun h => ct (S.wa h) 5) S.H
def fsum (S : Sv) : Nat := sm (fun h => ct (S.fe h) 4) 4
theorem wsum_r {S : Sv} (hW : WF S) : sm (fun k => if S.wa (k / 5) (k % 5) then 1 else 0) 25 = wsum S := by
  have h5 := hW.H5
  have e := sm_cut (f := fun h => ct (S.wa h) 5) (n := S.H) (fun i hi => ct_none 5 fun j _ => by
    cases c : S.wa i j
    · rfl
    · have := (hW.wa i j c).1; omega) (5 - S.H)
  rw [show S.H + (5 - S.H) = 5 by omega] at e
  show _ = sm (fun h => ct (S.wa h) 5) S.H
  rw [← e]
  simp [sm, ct, Nat.add_assoc]
theorem fsum_r (S : Sv) : sm (fun k => if S.fe (k / 4) (k % 4) then 1 else 0) 16 = fsum S := by
  show _ = sm (fun h => ct (S.fe h) 4) 4
  simp [sm, ct, Nat.add_assoc]
theorem bI_n (p : Bool) : bI p = nI (if p then 1 else 0) := by cases p <;> rfl
section CNT
variable {L : HL} {b m B : Nat} {S : Sv} {G : Gv}
theorem SC.wallsInAllF (hS : SC L b S) (hW : WF S) : fX4_wallsInAll b L = some (nI (wsum S) / 2) := by
  have h5 := hW.H5
  unfold fX4_wallsInAll wsum
  refine (lx_for S.H (fun i => (nI (sm (fun h => ct (S.wa h) 5) i), nI i)) rfl (by rw [FU_20000]; omega) ?_ ?_).trans rfl
  · intro i hi
    unfold fX4_wallsInAll_b4
    dsimp only
    rw [hS.H, if_neg (by rw [nQ_le (by omega) (by omega)]; omega), gd_of (vin_nI (by omega) (by omega)), nI_cl (by omega), hS.wa i (by omega), bitCount5, bd_some, lt_eq, lt_eq, nQ_s, nQ_add]
    rfl
  · unfold fX4_wallsInAll_b4
    dsimp only
    rw [hS.H, if_pos (by rw [nQ_le (by omega) (by omega)]; omega)]
theorem SC.feudsInAllF (hS : SC L b S) : fX4_feudsInAll b L = some (nI (fsum S) / 2) := by
  unfold fX4_feudsInAll fsum
  refine (lx_for 4 (fun i => (nI (sm (fun h => ct (S.fe h) 4) i), nI i)) rfl (by decide) ?_ ?_).trans rfl
  · intro i hi
    unfold fX4_feudsInAll_b4
    dsimp only
    rw [if_neg (by rw [l4, nQ_le (by omega) (by omega)]; omega), gd_of (vin_nI (by omega) (by omega)), nI_cl (by omega), hS.fe i (by omega), bitCount4, bd_some, lt_eq, lt_eq, nQ_s, nQ_add]
    rfl
  · rfl
theorem sumOfF {a n : Nat} {f : Nat → Nat} (hv : ∀ k, k < n → L.1 (m + 1) (a + k) = nI (f k)) (han : a + n ≤ 228) : fX7_sumOf m (nI a) (nI n) L = some (nI (sm f n)) := by
  unfold fX7_sumOf
  refine (lx_for n (fun i => (nI (sm f i), nI i)) rfl (by rw [FU_20000]; omega) ?_ ?_).trans rfl
  · intro i hi
    unfold fX7_sumOf_b5
    dsimp only
    rw [if_neg (by rw [nQ_le (by omega) (by omega)]; omega), nQ_add a i, gd_of (vin_nI (by omega) (by omega)), lt_eq, lt_eq, nI_cl (by omega), hv i hi, nQ_s, nQ_add]
    rfl
  · unfold fX7_sumOf_b5
    dsimp only
    rw [if_pos (by rw [nQ_le (by omega) (by omega)]; omega)]
def cnt (G : Gv) (k : Nat) : Int32 := if k = 0 then nI G.S.H else if k = 1 then nI (ct G.S.st 5) else if k = 2 then nI G.S.P else if k = 3 then nI (lvn G.S (-1)) else if k = 4 then nI (wsum G.S) / 2 else if k = 5 then nI (fsum G.S) / 2 else if k = 6 then G.S.yr else if k = 7 then nI G.S.un else nI G.ln
theorem amountF (h : KI L B G) (hW : WG G) {k : Nat} (hk : k < 9) : fX6_amount B (nI k) L = some (cnt G k) := by
  have hS := h.Q.S
  have hW0 := hW.Q.W
  unfold fX6_amount
  rcases (show k = 0 ∨ k = 1 ∨ k = 2 ∨ k = 3 ∨ k = 4 ∨ k = 5 ∨ k = 6 ∨ k = 7 ∨ k = 8 by omega) with rfl | rfl | rfl | rfl | rfl | rfl | rfl | rfl | rfl
  · rw [if_pos (by decide), hS.H]; rfl
  · rw [if_neg (by decide), if_pos (by decide), hS.st, bitCount5, bd_some]; rfl
  · rw [if_neg (by decide), if_neg (by decide), if_pos (by decide), hS.P]; rfl
  · rw [if_neg (by decide), if_neg (by decide), if_neg (by decide), if_pos (by decide), hS.dwellersF hW0, bd_some]; rfl
  · rw [if_neg (by decide), if_neg (by decide), if_neg (by decide), if_neg (by decide), if_pos (by decide), hS.wallsInAllF hW0, bd_some]; rfl
  · rw [if_neg (by decide), if_neg (by decide), if_neg (by decide), if_neg (by decide), if_neg (by decide), if_pos (by decide), hS.feudsInAllF, bd_some]; rfl
  · rw [if_neg (by decide), if_neg (by decide), if_neg (by decide), if_neg (by decide), if_neg (by decide), if_neg (by decide), if_pos (by decide), hS.yr]; rfl
  · rw [if_neg (by decide), if_neg (by decide), if_neg (by decide), if_neg (by decide), if_neg (by decide), if_neg (by decide), if_neg (by decide), if_pos (by decide), show L.1 (B + 29) 0 = nI G.S.un from h.Q.U.1]; rfl
  · rw [if_neg (by decide), if_neg (by decide), if_neg (by decide), if_neg (by decide), if_neg (by decide), if_neg (by decide), if_neg (by decide), if_neg (by decide), if_pos (by decide), h.ln]; rfl
theorem countedF (h : JI L m G) (hW : WG G) {k : Nat} (hk : k < 9) : fX7_counted m (nI k) L = some (cnt G k) := by
  have hR := h.Q.S
  have hW0 := hW.Q.W
  unfold fX7_counted
  rcases (show k = 0 ∨ k = 1 ∨ k = 2 ∨ k = 3 ∨ k = 4 ∨ k = 5 ∨ k = 6 ∨ k = 7 ∨ k = 8 by omega) with rfl | rfl | rfl | rfl | rfl | rfl | rfl | rfl | rfl
  · rw [if_pos (by decide), c0q, hR.H]; rfl
  · rw [if_neg (by decide), if_pos (by decide), hR.standingF hW0 (by omega) (by omega), bd_some, bits5, bd_some]; rfl
  · rw [if_neg (by decide), if_neg (by decide), if_pos (by decide), c1q, hR.P]; rfl
  · rw [if_neg (by decide), if_neg (by decide), if_neg (by decide), if_pos (by decide), hR.livingInF hW0 (by omega) (by omega), bd_some, bits6, lvn_ct hW0, bd_some]; rfl
  · rw [if_neg (by decide), if_neg (by decide), if_neg (by decide), if_neg (by decide), if_pos (by decide), show fX7_sumOf m 39 25 L = some (nI (wsum G.S)) from (sumOfF (a := 39) (n := 25) (f := fun k => if G.S.wa (k / 5) (k % 5) then 1 else 0) (fun k hk => by
        have := hR.wa (k / 5) (by omega) (k % 5) (by omega)
        rw [show 39 + 5 * (k / 5) + k % 5 = 39 + k by omega] at this
        rw [this, bI_n]) (by omega)).trans (by rw [wsum_r hW0]), bd_some]; rfl
  · rw [if_neg (by decide), if_neg (by decide), if_neg (by decide), if_neg (by decide), if_neg (by decide), if_pos (by decide), show fX7_sumOf m 76 16 L = some (nI (fsum G.S)) from (sumOfF (a := 76) (n := 16) (f := fun k => if G.S.fe (k / 4) (k % 4) then 1 else 0) (fun k hk => by
        have := hR.fe (k / 4) (by omega) (k % 4) (by omega)
        rw [show 76 + 4 * (k / 4) + k % 4 = 76 + k by omega] at this
        rw [this, bI_n]) (by omega)).trans (by rw [fsum_r]), bd_some]; rfl
  · rw [if_neg (by decide), if_neg (by decide), if_neg (by decide), if_neg (by decide), if_neg (by decide), if_neg (by decide), if_pos (by decide), show (2 : Int32).toNatClampNeg = 2 by decide, hR.yr]; rfl
  · rw [if_neg (by decide), if_neg (by decide), if_neg (by decide), if_neg (by decide), if_neg (by decide), if_neg (by decide), if_neg (by decide), if_pos (by decide), c3q, h.Q.un]; rfl
  · rw [if_neg (by decide), if_neg (by decide), if_neg (by decide), if_neg (by decide), if_neg (by decide), if_neg (by decide), if_neg (by decide), if_neg (by decide), h.ln]; rfl
end CNT
theorem ag_count (B : Nat) (a : Int32) : Agree B (fX6_count B a) (fX7_count (B + 178) a) := fun G hW => by
  cases c : inb a 0 8
  · have c' := inb_f.mp c
    refine ⟨-2, badG G, fun L h => ?_, fun L h => ?_, badG_w hW⟩
    · unfold fX6_count fX6_count_j10
      simp only [bd_eta, Int32.lt_iff_toInt_lt, Int32.le_iff_toInt_le, tl_0, tl_8]
      obtain ⟨z, q⟩ := refK_bad (B := B) (-2) L h
      refine ⟨z, ?_, q.2⟩
      by_cases c1 : a.toInt < 0
      · rw [if_pos c1]; exact q.1
      · rw [if_neg c1, if_neg (by omega)]; exact q.1
    · unfold fX7_count
      rw [inF, bd_some, show (0 : Int64).toInt = 0 by decide, show (8 : Int64).toInt = 8 by decide, c, if_pos (by decide), bd_eta]; exact badJ (-2) L h
  have c' := inb_t.mp c
  obtain ⟨k, hk, rfl⟩ := nI_of_int (v := a) (n := 9) (by omega) (by omega)
  refine ⟨cnt G k, G, fun L h => ?_, fun L h => ?_, hW⟩
  · unfold fX6_count
    rw [if_neg (by rw [nI_nlt0 (by omega)]; exact not_false), if_pos (by rw [l8, nQ_le (by omega) (by omega)]; omega), amountF h hW hk, bd_some]
    exact ⟨_, rfl, rfl, h, FrK.refl B L⟩
  · unfold fX7_count
    rw [inF, bd_some, show (0 : Int64).toInt = 0 by decide, show (8 : Int64).toInt = 8 by decide, c, if_neg (by decide), countedF h hW hk, bd_some]
    exact ⟨_, rfl, rfl, h, FrJ.refl _ L⟩
