theorem SC.w_wl5 {L L' : HL} {b : Nat} {S : Sv} (h : SC L b S) {q : Nat} (e : ∀ h, h < 5 → L'.1 (b + 5) h = nI q) (hH : S.H ≤ 5) (o : ∀ a, b ≤ a → a ≤ b + 10 → a ≠ b + 5 → L'.1 a = L.1 a) : SC L' b (wlS S q) := h.w_wl (fun x hx => by rw [e x (by omega), if_pos hx]) o
/-- by that kind of will for all, never out -/
def sfk (S : Sv) (p q : Nat) : Bool := nv p (ct S.st 5) (mask S.st 5) (wlS S q)
def bdc (S : Sv) (p q : Nat) (c : Nat) : Bool := vn (ct S.st 5) (mask S.st 5) c && decide ((itS (wlS S q) (dig (ct S.st 5) c) (ct S.st 5 - 1)).wh p = -1)
theorem sfk_ct {S : Sv} {p q : Nat} (h1 : 1 ≤ ct S.st 5) : sfk S p q = decide (ct (bdc S p q) (5 ^ ct S.st 5) = 0) := by
  have hs : mask S.st 5 < 32 := mask_lt _ 5
  have hk : pcn (mask S.st 5) = ct S.st 5 := pcn_mask5 _
  obtain ⟨k, ek⟩ : ∃ k, ct S.st 5 = k + 1 := ⟨ct S.st 5 - 1, by omega⟩
  have hi := nv_iff (p := p) k (mask S.st 5) (wlS S q) hs (by omega)
  unfold sfk bdc
  rw [ek]
  rw [Bool.eq_iff_iff, decide_eq_true_eq]
  refine hi.trans ⟨fun h => ct_none _ fun c hc => ?_, fun h c hc hv e => ?_⟩
  · cases e : vn (k + 1) (mask S.st 5) c
    · rfl
    · rw [decide_eq_false (show ¬ (itS (wlS S q) (dig (k + 1) c) (k + 1 - 1)).wh p = -1 from h c hc e)]; rfl
  · have := ct_zero h c hc
    rw [hv, decide_eq_true (show (itS (wlS S q) (dig (k + 1) c) (k + 1 - 1)).wh p = -1 from e)] at this
    cases this
section SAF
variable {L : HL} {m B : Nat} {S : Sv} {G : Gv}
theorem isSafeK (hS : SC L (B + 1) S) (hW : WF S) {p q : Nat} (hp : p < S.P) (hq : q < 6) : ∃ L', fX2_isSafe (B + 150) (B + 1) (nI q) (nI p) L = some (bI (sfk S p q), L') ∧ Fr (scr B) L L' := by
  have h5 := hW.H5
  have h6 := hW.P6
  unfold fX2_isSafe
  obtain ⟨L1, e1, q1, f1⟩ := hS.takeFromF (a0 := B + 150 + 1) hW (.inr (by omega))
  rw [e1, bd_some]
  have key : ∃ z, lx (lp (fun s6 : Int32 × HL => fX2_isSafe_b11 (B + 150) (B + 1) (nI q) (nI p) s6.1 s6.2) FU ((0 : Int32), L1)) (fun v => some v) (fun s6 => bd (fX4_hasOne (B + 150 + 1) (nI p) s6.2) fun z7 => if z7 = 0 then (some ((0 : Int32), s6.2)) else bd (fX2_neverOut 8 (B + 150) (0 : Int32) (s6.2.1 (B + 150 + 1) 1) (nI p) s6.2) fun z9 => if z9.1 = 0 then (some ((0 : Int32), z9.2)) else some ((1 : Int32), z9.2)) = some z ∧ (z.1 = bI (sfk S p q) ∧ Fr (scr B) L z.2) := by
    refine lx_inv 5 (fun i t => ∃ L2, t = (nI i, L2) ∧ (∀ h, h < i → L2.1 (B + 150 + 1 + 5) h = nI q) ∧ Fr (· = B + 150 + 1 + 5) L1 L2) (by decide) ⟨L1, rfl, fun h hh => by omega, Fr.refl L1⟩ ?_ ?_ ?_
    · rintro i _ hi ⟨L2, rfl, v, f⟩
      unfold fX2_isSafe_b11
      dsimp only
      rw [if_neg (by rw [l5, nQ_le (by omega) (by omega)]; omega), gd_of (vin_nI (by omega) (by omega)), lt_eq, lt_eq, nQ_s, nI_cl (by omega)]
      refine ⟨_, rfl, _, rfl, fun h hh => ?_, f.wI rfl _ _⟩
      by_cases e : h = i
      · subst e; exact wQ_same _ _ _ _
      · rw [wQ_other e]; exact v h (by omega)
    · rintro _ ⟨L2, rfl, -⟩
      rfl
    · rintro _ ⟨L2, rfl, v, f⟩
      have hW2 := wlS_wf hW hq
      have q2 : SC L2 (B + 150 + 1) (wlS S q) := q1.w_wl5 v h5 (fun a _ _ h => f.1 a h)
      dsimp only
      have f2 : Fr (scr B) L L2 := (f1.mono fun a h => by unfold scr; omega).trans (f.mono fun a h => by unfold scr; omega)
      have hst : ∀ h, h < 5 → tb (mask S.st 5) h = true → (wlS S q).st h = true := fun h hh e => by
        rw [mask_tb hh] at e; exact e
      have hn := ct_le S.st 5
      have st2 : L2.1 (B + 150 + 1) 1 = nI (mask S.st 5) := q2.st
      rw [q2.hasOneF hW2, bd_some, show oneI (wlS S q) (nI p) = true by rw [oneI_n _ (by omega)]; exact decide_eq_true hp, if_neg (by decide), st2]
      rcases neverF (p := p) (a := B + 150) (ct S.st 5) 8 (by omega) L2 (wlS S q) (mask S.st 5) 0 q2 hW2 (mask_lt _ 5) (pcn_mask5 _) hst (by omega) hp with ⟨en, L3, e3, -, -, -, f3⟩ | ⟨en, L3, e3, f3⟩
      · rw [show fX2_neverOut 8 (B + 150) 0 (nI (mask S.st 5)) (nI p) L2 = some (1, L3) from e3, bd_some, if_neg (show ¬ (1 : Int32) = 0 by decide)]
        exact ⟨_, rfl, by unfold sfk; rw [en]; rfl, f2.trans (f3.mono fun a h => by unfold scr; omega)⟩
      · rw [show fX2_neverOut 8 (B + 150) 0 (nI (mask S.st 5)) (nI p) L2 = some (0, L3) from e3, bd_some, if_pos (show (0 : Int32) = 0 from rfl)]
        exact ⟨_, rfl, by unfold sfk; rw [en]; rfl, f2.trans (f3.mono fun a h => by unfold scr; omega)⟩
  obtain ⟨z, e, v, f⟩ := key
  exact ⟨z.2, by rw [← v]; exact e, f⟩
theorem isSafeJ (hR : RC L (m + 1) S) (hW : WF S) {p q : Nat} (hp : p < S.P) (hq : q < 6) (h1 : 1 ≤ ct S.st 5) : ∃ L', fX7_isSafe m (nI p) (nI q) L = some (bI (sfk S p q), L') ∧ Fr (fun a => a = m + 8 ∨ a = m + 9 ∨ a = m + 10) L L' := by
  have h6 := hW.P6
  have hn := ct_le S.st 5
  have h5 := pow5_le hn
  have hs : mask S.st 5 < 32 := mask_lt _ 5
  have hk : pcn (mask S.st 5) = ct S.st 5 := pcn_mask5 _
  have hvn : ∀ c, c < 5 ^ ct S.st 5 → (mt c (ct S.st 5) == mask S.st 5) = vn (ct S.st 5) (mask S.st 5) c := fun c hc => vn_c _ _ c hs hk hc
  have hdg : ∀ c, c < 5 ^ ct S.st 5 → vn (ct S.st 5) (mask S.st 5) c = true → ∀ j, j < ct S.st 5 → dig (ct S.st 5) c j < S.H := fun c hc h j hj => hW.st _ (by
    have := vn_dig _ _ c hs hc h j hj
    rwa [mask_tb (dig_lt _ _ _)] at this)
  have hbd : ∀ c, bdc S p q c = (vn (ct S.st 5) (mask S.st 5) c && decide ((itS (wlS S q) (dig (ct S.st 5) c) (ct S.st 5 - 1)).wh p = -1)) := fun c => rfl
  have hsf := sfk_ct (p := p) (q := q) h1
  unfold fX7_isSafe
  rw [hR.standingF hW (by omega) (by omega), bd_some, bits5, bd_some]
  generalize bdc S p q = bad at *
  generalize mask S.st 5 = s at *
  generalize ct S.st 5 = n at *
  have hco := codesF n (by omega)
  generalize hN : 5 ^ n = N at *
  have key : ∃ z, lx (lp (fun s14 : Int32 × Int32 × HL => fX7_isSafe_b20 m (nI p) (nI q) (nI s) (nI n) s14.1 s14.2.1 s14.2.2) FU ((1 : Int32), (0 : Int32), L)) (fun v => some v) (fun s14 => gd (s14.1 = 0 ∨ s14.1 = 1) <| some (s14.1, s14.2.2)) = some z ∧ (z.1 = bI (decide (ct bad N = 0)) ∧ Fr (fun a => a = m + 8 ∨ a = m + 9 ∨ a = m + 10) L z.2) := by
    refine lx_brk N (fun i t => ∃ L2, t = (bI (decide (ct bad i = 0)), nI i, L2) ∧ Fr (fun a => a = m + 8 ∨ a = m + 9 ∨ a = m + 10) L L2) (fun t => t.1 = bI (decide (ct bad N = 0)) ∧ Fr (fun a => a = m + 8 ∨ a = m + 9 ∨ a = m + 10) L t.2.2) (by rw [FU_20000]; omega) ⟨L, rfl, Fr.refl L⟩ ?_ ?_ ?_
    · rintro i _ hi ⟨L2, rfl, f⟩
      unfold fX7_isSafe_b20
      dsimp only
      rw [hco, bd_some, if_neg (by rw [nQ_le (by omega) (by omega)]; omega)]
      by_cases c0 : ct bad i = 0
      · have hR2 : RC L2 (m + 1) S := hR.frame (f.1 _ (by omega))
        obtain ⟨L3, e3, v3, f3⟩ := layOrderF L2 m (n := n) (c := i) (s := s) hn (by omega) hs
        rw [decide_eq_true c0, if_neg (show ¬ bI true = 0 by decide), e3, bd_some, hvn i hi, ct_s, hbd]
        cases cv : vn n s i
        · rw [if_pos (show bI false = 0 from rfl), lt_eq, nQ_s]
          refine .inl ⟨_, rfl, L3, ?_, f.trans (f3.mono fun a h => .inr (.inr h))⟩
          rw [c0]; rfl
        · rw [if_neg (show ¬ bI true = 0 by decide), show nI n - (1 : Int32) = nI (n - 1) from nQ_sub (b := 1) h1]
          have hR3 : RC L3 (m + 1) S := hR2.frame (f3.1 _ (by omega))
          obtain ⟨L4, e4, q4, f4⟩ := layFallsK hR3 hW (k := n - 1) (by omega) hq (d := dig n i) (fun j hj => ⟨v3 j (by omega), hdg i hi cv j (by omega)⟩)
          have f5 := (f.trans (f3.mono fun a h => .inr (.inr h))).trans (f4.mono (A' := fun a => a = m + 8 ∨ a = m + 9 ∨ a = m + 10) fun a h => by omega)
          have rp : L4.1 (m + 9) ((70 : Int32) + nI p).toNatClampNeg = (itS (wlS S q) (dig n i) (n - 1)).wh p := by rw [l70, nQ_add, nI_cl (by omega)]; exact q4.wh p (by omega)
          rw [e4, bd_some, gd_of (by rw [l70, nQ_add]; exact vin_nI (by omega) (by omega)), rp]
          simp only [lt_eq, nQ_s, Bool.true_and]
          by_cases cg : (itS (wlS S q) (dig n i) (n - 1)).wh p = -1
          · rw [if_pos cg]
            refine .inl ⟨_, rfl, L4, ?_, f5⟩
            rw [c0, decide_eq_true cg]; rfl
          · rw [if_neg cg]
            refine .inl ⟨_, rfl, L4, ?_, f5⟩
            rw [c0, decide_eq_false cg]; rfl
      · have hm := ct_mono bad (i := i) (N - i)
        rw [show i + (N - i) = N by omega] at hm
        rw [decide_eq_false c0, if_pos (show bI false = 0 from rfl), decide_eq_false (show ¬ ct bad N = 0 by omega)]
        exact .inr ⟨rfl, rfl, f⟩
    · rintro _ ⟨L2, rfl, f⟩
      unfold fX7_isSafe_b20
      dsimp only
      rw [hco, bd_some, if_pos (by rw [nQ_le (by omega) (by omega)]; omega)]
      exact ⟨rfl, rfl, f⟩
    · rintro t ⟨e, f⟩
      rw [e, gd_of (bI_01 _)]
      exact ⟨_, rfl, rfl, f⟩
  obtain ⟨z, e, v, f⟩ := key
  rw [← hsf] at v
  exact ⟨z.2, by rw [← v]; exact e, f⟩
end SAF
def sfm (S : Sv) (p i : Nat) : Nat := mask (fun k => decide (k < i) && (decide (ct S.st 5 = 0) || sfk S p k)) 6
theorem sfm_0 (S : Sv) (p : Nat) : sfm S p 0 = 0 := by
  refine (mask_congr 6 fun h _ => ?_).trans (mask_zero 6)
  rw [decide_eq_false (Nat.not_lt_zero h)]; rfl
theorem sfm_t {S : Sv} {p i : Nat} (hi : i < 6) (h : (decide (ct S.st 5 = 0) || sfk S p i) = true) : nI (sfm S p i) ||| ((1 : Int32) <<< (nI i &&& 31)) = nI (sfm S p (i + 1)) := by
  unfold sfm
  rw [i_shl (n := 6) (by omega) hi, i_or (by omega)]
  refine congrArg nI (mask_congr 6 fun j _ => ?_)
  by_cases e : j = i
  · subst e; rw [h]; simp
  · have : (j < i + 1) = (j < i) := propext (by omega)
    simp only [this, beq_false_of_ne e, Bool.or_false]
theorem sfm_f {S : Sv} {p i : Nat} (h : (decide (ct S.st 5 = 0) || sfk S p i) = false) : sfm S p (i + 1) = sfm S p i := mask_congr 6 fun j _ => by
  by_cases e : j = i
  · subst e; rw [h]; simp
  · have : (j < i + 1) = (j < i) := propext (by omega)
    simp only [this]
theorem ag_safe (B : Nat) (a : Int32) : Agree B (fX6_safe B a) (fX7_safe (B + 178) a) := fun G hW => by
  have h5 := hW.Q.W.H5
  have h6 := hW.Q.W.P6
  have hW0 := hW.Q.W
  cases c : oneI G.S a
  · refine ⟨-2, badG G, fun L h => ?_, fun L h => ?_, badG_w hW⟩
    · unfold fX6_safe
      rw [h.Q.S.hasOneF hW0, bd_some, c, if_pos (by decide), bd_eta]; exact refK_bad (-2) L h
    · unfold fX7_safe
      rw [h.Q.S.isOneF hW0, bd_some, c, if_pos (by decide), bd_eta]; exact badJ (-2) L h
  obtain ⟨p, hp, rfl⟩ := oneI_of c
  have z0 : ct G.S.st 5 = 0 → nI (mask G.S.st 5) = 0 := fun h => by rw [i_zero (by omega)]; exact ct_zero h
  have z1 : ¬ ct G.S.st 5 = 0 → ¬ nI (mask G.S.st 5) = 0 := fun h e => h (ct_none 5 (by rw [i_zero (by omega)] at e; exact e))
  refine ⟨nI (sfm G.S p 6), G, fun L h => ?_, fun L h => ?_, hW⟩
  · unfold fX6_safe
    have hS := h.Q.S
    rw [hS.hasOneF hW0, bd_some, c, if_neg (by decide)]
    refine lx_inv 6 (fun i s => ∃ L2, s = (nI (sfm G.S p i), nI i, L2) ∧ Fr (scr B) L L2) (by decide) ⟨L, by rw [sfm_0]; rfl, Fr.refl L⟩ ?_ ?_ ?_
    · rintro i _ hi ⟨L2, rfl, f⟩
      have hS2 : SC L2 (B + 1) G.S := hS.frame fun a _ _ => f.1 a (by unfold scr; omega)
      unfold fX6_safe_b24 fX6_safe_j56
      simp only [lt_eq, nQ_s]
      rw [if_neg (by rw [l6, nQ_le (by omega) (by omega)]; omega), hS2.st]
      by_cases c0 : ct G.S.st 5 = 0
      · rw [if_pos (z0 c0), sfm_t hi (by rw [decide_eq_true c0]; rfl)]
        exact ⟨_, rfl, L2, rfl, f⟩
      · obtain ⟨L3, e3, f3⟩ := isSafeK hS2 hW0 (p := p) (q := i) hp hi
        rw [if_neg (z1 c0), e3, bd_some]
        cases cs : sfk G.S p i
        · rw [if_pos (show bI false = 0 from rfl), ← sfm_f (i := i) (by rw [decide_eq_false c0, cs]; rfl)]
          exact ⟨_, rfl, L3, rfl, f.trans f3⟩
        · rw [if_neg (show ¬ bI true = 0 by decide), sfm_t hi (by rw [cs, Bool.or_true])]
          exact ⟨_, rfl, L3, rfl, f.trans f3⟩
    · rintro _ ⟨L2, rfl, f⟩
      rfl
    · rintro _ ⟨L2, rfl, f⟩
      exact ⟨_, rfl, rfl, h.scrF f (fun a e => e)⟩
  · unfold fX7_safe
    have hR := h.Q.S
    rw [hR.isOneF hW0, bd_some, c, if_neg (by decide)]
    refine lx_inv 6 (fun i s => ∃ L2, s = (nI (sfm G.S p i), nI i, L2) ∧ Fr (fun a => a = B + 178 + 8 ∨ a = B + 178 + 9 ∨ a = B + 178 + 10) L L2) (by decide) ⟨L, by rw [sfm_0]; rfl, Fr.refl L⟩ ?_ ?_ ?_
    · rintro i _ hi ⟨L2, rfl, f⟩
      have hR2 : RC L2 (B + 178 + 1) G.S := hR.frame (f.1 _ (by omega))
      unfold fX7_safe_b19 fX7_safe_j44
      simp only [lt_eq, nQ_s]
      rw [if_neg (by rw [l5, nQ_lt (by omega) (by omega)]; omega), hR2.standingF hW0 (by omega) (by omega), bd_some]
      by_cases c0 : ct G.S.st 5 = 0
      · rw [if_pos (z0 c0), sfm_t hi (by rw [decide_eq_true c0]; rfl)]
        exact ⟨_, rfl, L2, rfl, f⟩
      · obtain ⟨L3, e3, f3⟩ := isSafeJ hR2 hW0 (p := p) (q := i) hp hi (by omega)
        rw [if_neg (z1 c0), e3, bd_some]
        cases cs : sfk G.S p i
        · rw [if_pos (show bI false = 0 from rfl), i_or0, ← sfm_f (i := i) (by rw [decide_eq_false c0, cs]; rfl)]
          exact ⟨_, rfl, L3, rfl, f.trans f3⟩
        · rw [if_neg (show ¬ bI true = 0 by decide), sfm_t hi (by rw [cs, Bool.or_true])]
          exact ⟨_, rfl, L3, rfl, f.trans f3⟩
    · rintro _ ⟨L2, rfl, f⟩
      rfl
    · rintro _ ⟨L2, rfl, f⟩
      exact ⟨_, rfl, rfl, h.scrF f (fun a e => by omega)⟩
