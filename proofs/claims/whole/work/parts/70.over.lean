theorem nQ_z (a : Nat) : nI a + (0 : Int32) = nI a := nQ_add a 0
def adp (S : Sv) (a b n : Nat) : Nat := ct (fun h => !decide (hr S (S.wl h) h = hr (wallS S a b) (S.wl h) h)) n
theorem adp_t {S : Sv} {a b n : Nat} (h : hr S (S.wl n) n = hr (wallS S a b) (S.wl n) n) : adp S a b (n + 1) = adp S a b n := by
  refine (congrArg (ct _ n + ·) (if_neg ?_)).trans (Nat.add_zero _)
  simp [h]
theorem adp_f {S : Sv} {a b n : Nat} (h : ¬ hr S (S.wl n) n = hr (wallS S a b) (S.wl n) n) : adp S a b (n + 1) = adp S a b n + 1 := by
  refine congrArg (ct _ n + ·) (if_pos ?_)
  simp [h]
theorem ag_adopts (B : Nat) (a b : Int32) : Agree B (fX6_adopts B a b) (fX7_adopts (B + 178) a b) := fun G hW => by
  have h5 := hW.Q.W.H5
  cases c : (hasI G.S a && (hasI G.S b && !decide (a = b)))
  · refine ⟨-2, badG G, fun L h => ?_, fun L h => ?_, badG_w hW⟩
    · unfold fX6_adopts
      rw [h.Q.S.hasTwoF hW.Q.W, bd_some, c, if_pos (by decide), bd_eta]; exact refK_bad (-2) L h
    · unfold fX7_adopts fX7_adopts_j21
      simp only [h.Q.S.isHouseF hW.Q.W, bd_some, bd_eta]
      obtain ⟨z, q⟩ := badJ (m := B + 178) (-2) L h
      refine ⟨z, ?_, q.2⟩
      cases ca : hasI G.S a
      · rw [if_pos (by decide)]; exact q.1
      cases cb : hasI G.S b
      · rw [if_neg (by decide), if_pos (by decide)]; exact q.1
      by_cases cn : a = b
      · rw [if_neg (by decide), if_neg (by decide), if_pos cn]; exact q.1
      · rw [ca, cb, decide_eq_false cn] at c; cases c
  obtain ⟨x, y, hx, hy, hxy, rfl, rfl⟩ := two_c c
  have hW0 := hW.Q.W
  have nxy : ¬ nI x = nI y := by rw [nQ_eq (by omega) (by omega)]; exact hxy
  have J : ∀ L, JI L (B + 178) G → fX7_isHouse (B + 178) (nI x) L = some 1 ∧ fX7_isHouse (B + 178) (nI y) L = some 1 := fun L h => by
    rw [h.Q.S.isHouseF hW0, h.Q.S.isHouseF hW0, hasI_n G.S (show x < 2147483648 by omega), hasI_n G.S (show y < 2147483648 by omega), decide_eq_true hx, decide_eq_true hy]; exact ⟨rfl, rfl⟩
  cases cm : (G.S.st x && (G.S.st y && !G.S.wa x y))
  · refine ⟨-3, noG G, fun L h => ?_, fun L h => ?_, noG_w hW⟩
    · unfold fX6_adopts
      rw [h.Q.S.hasTwoF hW0, bd_some, c, if_neg (by decide), h.Q.S.mayWallN hW0 hx hy, bd_some, cm, if_pos (by decide), bd_eta]; exact refK_no (-3) L h
    · unfold fX7_adopts
      rw [(J L h).1, bd_some, if_neg (by decide), (J L h).2, bd_some, if_neg (by decide), if_neg nxy, h.Q.S.mayHaveWallF hW0 hx hy, bd_some, cm, if_pos (by decide), bd_eta]; exact noJ (-3) L h
  have hw : G.S.wa x y = false := by
    revert cm
    cases G.S.st x <;> cases G.S.st y <;> cases G.S.wa x y <;> decide
  have hW1 := wallS_wf hW0 hx hy hxy
  refine ⟨nI (adp G.S x y G.S.H), G, fun L h => ?_, fun L h => ?_, hW⟩
  · unfold fX6_adopts
    have hS := h.Q.S
    obtain ⟨L2, e2, q2, f2⟩ := hS.takeFromF (a0 := B + 15) hW0 (.inr (by omega))
    rw [hS.hasTwoF hW0, bd_some, c, if_neg (by decide), hS.mayWallN hW0 hx hy, bd_some, cm, if_neg (by decide), e2, bd_some]
    refine lx_inv G.S.H (fun i s => ∃ L3, s = (nI (adp G.S x y i), nI i, L3) ∧ SC L3 (B + 15) G.S ∧ Fr (scr B) L L3) (by rw [FU_20000]; omega) ⟨L2, rfl, q2, f2.mono fun a h => by unfold scr; omega⟩ ?_ ?_ ?_
    · rintro i _ hi ⟨L3, rfl, q3, f3⟩
      unfold fX6_adopts_b58
      dsimp only
      have hS3 : SC L3 (B + 1) G.S := hS.frame fun a _ _ => f3.1 a (by unfold scr; omega)
      obtain ⟨z4, e4, v4, q4, f4⟩ := heirByWallF q3 hW0 hi hx hy hxy hw
      have hS4 : SC z4.2 (B + 1) G.S := hS3.frame fun a _ _ => f4.1 a (by unfold SB; omega)
      obtain ⟨z5, e5, v5, f5⟩ := hS4.heirOfF hW0 hi
      have q5 : SC z5.2 (B + 15) G.S := q4.frame fun a _ _ => f5.1 a (by unfold SA; omega)
      have f6 : Fr (scr B) L z5.2 := (f3.trans (f4.mono fun a h => by unfold SB at h; unfold scr; omega)).trans (f5.mono fun a h => scr_SA h)
      rw [hS3.H, if_neg (by rw [nQ_le (by omega) (by omega)]; omega), e4, bd_some, e5, bd_some, v4, v5]
      by_cases c6 : hr G.S (G.S.wl i) i = hr (wallS G.S x y) (G.S.wl i) i
      · rw [if_pos c6.symm, lt_eq, nQ_s, adp_t c6]
        exact ⟨_, rfl, z5.2, rfl, q5, f6⟩
      · rw [if_neg (fun e => c6 e.symm), lt_eq, lt_eq, nQ_s, nQ_s, adp_f c6]
        exact ⟨_, rfl, z5.2, rfl, q5, f6⟩
    · rintro _ ⟨L3, rfl, q3, f3⟩
      unfold fX6_adopts_b58
      dsimp only
      have hS3 : SC L3 (B + 1) G.S := hS.frame fun a _ _ => f3.1 a (by unfold scr; omega)
      rw [hS3.H, if_pos (by rw [nQ_le (by omega) (by omega)]; omega)]
    · rintro _ ⟨L3, rfl, q3, f3⟩
      exact ⟨_, rfl, rfl, h.scrF f3 (fun a e => e)⟩
  · unfold fX7_adopts
    have hR := h.Q.S
    obtain ⟨L2, e2, q2, f2⟩ := hR.layWallF hW0 hx hy hxy hw
    rw [(J L h).1, bd_some, if_neg (by decide), (J L h).2, bd_some, if_neg (by decide), if_neg nxy, hR.mayHaveWallF hW0 hx hy, bd_some, cm, if_neg (by decide), e2, bd_some]
    refine lx_inv G.S.H (fun i s => ∃ L3, s = (nI (adp G.S x y i), nI i, L3) ∧ RC L3 (B + 178 + 9) (wallS G.S x y) ∧ Fr (fun a => a = B + 178 + 8 ∨ a = B + 178 + 9) L L3) (by rw [FU_20000]; omega) ⟨L2, rfl, q2, f2.mono fun a h => .inr h⟩ ?_ ?_ ?_
    · rintro i _ hi ⟨L3, rfl, q3, f3⟩
      unfold fX7_adopts_b55
      dsimp only
      obtain ⟨q, hq, eq⟩ := hW0.wl i hi
      have hR3 : RC L3 (B + 178 + 1) G.S := hR.frame (f3.1 _ (by omega))
      have v24 : ∀ n, 29 ≤ n → n < 1000 → vin ((24 : Int32) + nI i) n := fun n h1 h2 => by rw [l24, nQ_add]; exact vin_nI (by omega) (by omega)
      have rl : ∀ {L4 : HL}, RC L4 (B + 178 + 1) G.S → L4.1 (B + 178 + 1) ((24 : Int32) + nI i).toNatClampNeg = nI q := fun h => by rw [l24, nQ_add, nI_cl (by omega), ← eq]; exact h.wl i (by omega)
      obtain ⟨z4, e4, v4, f4⟩ := hR3.heirOnF (m := B + 178) (n := 228) hW0 (by omega) (by omega) (by omega) hi hq
      have hR4 : RC z4.2 (B + 178 + 1) G.S := hR3.frame (f4.1 _ (by omega))
      have q4 : RC z4.2 (B + 178 + 9) (wallS G.S x y) := q3.frame (f4.1 _ (by omega))
      obtain ⟨z5, e5, v5, f5⟩ := q4.heirOnF (m := B + 178) (n := 92) hW1 (by omega) (by omega) (by omega) (x := i) hi hq
      have q5 : RC z5.2 (B + 178 + 9) (wallS G.S x y) := q4.frame (f5.1 _ (by omega))
      have f6 := (f3.trans (f4.mono fun a h => .inl h)).trans (f5.mono fun a h => .inl h)
      rw [c0q, hR3.H, if_neg (by rw [nQ_le (by omega) (by omega)]; omega), gd_of (v24 228 (by omega) (by omega)), rl hR3, e4, bd_some, gd_of (v24 228 (by omega) (by omega)), rl hR4, e5, bd_some, v4, v5, ← eq]
      by_cases c6 : hr G.S (G.S.wl i) i = hr (wallS G.S x y) (G.S.wl i) i
      · rw [if_pos c6, lt_eq, lt_eq, nQ_s, nQ_z, adp_t c6]
        exact ⟨_, rfl, z5.2, rfl, q5, f6⟩
      · rw [if_neg c6, lt_eq, lt_eq, nQ_s, nQ_s, adp_f c6]
        exact ⟨_, rfl, z5.2, rfl, q5, f6⟩
    · rintro _ ⟨L3, rfl, q3, f3⟩
      unfold fX7_adopts_b55
      dsimp only
      have hR3 : RC L3 (B + 178 + 1) G.S := hR.frame (f3.1 _ (by omega))
      rw [c0q, hR3.H, if_pos (by rw [nQ_le (by omega) (by omega)]; omega)]
    · rintro _ ⟨L3, rfl, q3, f3⟩
      exact ⟨_, rfl, rfl, h.scrF f3 (fun a e => by omega)⟩
/-! the first that is overfull -/
def fov (S : Sv) (h : Nat) : Option Nat := if S.st h && ov S h then some h else none
def ovy (S : Sv) (k : Nat) : Option (Nat × Nat) := (fnd (fov (yrs S k)) (yrs S k).H).map fun h => (k, h)
def ovr (S : Sv) (w : Bool) : Int32 := match fnd (ovy S) 61 with
  | none => -1
  | some v => nI (if w then v.2 else v.1)
theorem ovr_n {S : Sv} {w : Bool} (h : fnd (ovy S) 61 = none) : ovr S w = -1 := by unfold ovr; rw [h]
theorem ovr_s {S : Sv} {w : Bool} {v : Nat × Nat} (h : fnd (ovy S) 61 = some v) : ovr S w = nI (if w then v.2 else v.1) := by unfold ovr; rw [h]
section OVR
variable {L : HL} {b t m B : Nat} {S : Sv}
theorem fov_t {h : Nat} (c : (S.st h && ov S h) = true) : fov S h = some h := by unfold fov; rw [c]; rfl
theorem fov_f {h : Nat} (c : (S.st h && ov S h) = false) : fov S h = none := by unfold fov; rw [c]; rfl
theorem SC.firstOverfullF (hS : SC L b S) (hW : WF S) : (fX4_firstOverfull b L = some (-1) ∧ fnd (fov S) S.H = none) ∨ ∃ h, fX4_firstOverfull b L = some (nI h) ∧ fnd (fov S) S.H = some h := by
  have h5 := hW.H5
  unfold fX4_firstOverfull
  rcases lp_fnd (f := fun s5 : Int32 => fX4_firstOverfull_b2 b s5 L) (s0 := (0 : Int32)) S.H (fun i s => s = nI i) (fov S) (fun v z => z = nI v) (by rw [FU_20000]; omega) rfl (by
    rintro i _ hi rfl
    unfold fX4_firstOverfull_b2
    rw [hS.H, if_neg (by rw [nQ_le (by omega) (by omega)]; omega), hS.isOverfullF hW hi, bd_some]
    cases c : (S.st i && ov S i)
    · rw [if_pos (by decide), lt_eq, nQ_s]; exact .inl ⟨fov_f c, _, rfl, rfl⟩
    · rw [if_neg (by decide)]; exact .inr ⟨_, _, fov_t c, rfl, rfl⟩) (by
    rintro _ rfl
    unfold fX4_firstOverfull_b2
    rw [hS.H, if_pos (by rw [nQ_le (by omega) (by omega)]; omega)]) with ⟨s, e, -, n⟩ | ⟨v, y, e, n, rfl⟩
  · rw [e]; exact .inl ⟨rfl, n⟩
  · rw [e]; exact .inr ⟨v, rfl, n⟩
end OVR
theorem ag_overfull (B : Nat) (a : Int32) : Agree B (fX6_overfull B a) (fX7_overfull (B + 178) a) := fun G hW => by
  have h5 := hW.Q.W.H5
  cases c : inb a 0 1
  · have c' := inb_f.mp c
    refine ⟨-10, badG G, fun L h => ?_, fun L h => ?_, badG_w hW⟩
    · unfold fX6_overfull fX6_overfull_j9
      simp only [bd_eta, Int32.lt_iff_toInt_lt, Int32.le_iff_toInt_le, tl_0, tl_1]
      obtain ⟨z, q⟩ := refK_bad (B := B) (-10) L h
      refine ⟨z, ?_, q.2⟩
      by_cases c1 : a.toInt < 0
      · rw [if_pos c1]; exact q.1
      · rw [if_neg c1, if_neg (by omega)]; exact q.1
    · unfold fX7_overfull
      rw [isTwoF, bd_some, c, if_pos (by decide), bd_eta]; exact badJ (-10) L h
  have c' := inb_t.mp c
  obtain ⟨k, hk, rfl⟩ := nI_of_int (v := a) (n := 2) (by omega) (by omega)
  have hW0 := hW.Q.W
  have hy := fun n => yrs_wf hW0 n
  have oy_n : ∀ {n}, fnd (fov (yrs G.S n)) (yrs G.S n).H = none → ovy G.S n = none := fun h => by unfold ovy; rw [h]; rfl
  have oy_s : ∀ {n v}, fnd (fov (yrs G.S n)) (yrs G.S n).H = some v → ovy G.S n = some (n, v) := fun h => by unfold ovy; rw [h]; rfl
  refine ⟨ovr G.S (decide (k = 1)), G, fun L h => ?_, fun L h => ?_, hW⟩
  · unfold fX6_overfull
    obtain ⟨L2, e2, q2, f2⟩ := h.Q.S.takeFromF (a0 := B + 15) hW0 (.inr (by omega))
    rw [if_neg (by rw [nI_nlt0 (by omega)]; exact not_false), if_pos (by rw [l1, nQ_le (by omega) (by omega)]; omega), e2, bd_some]
    have fin : ∀ {L3 : HL}, Fr (fun a => B + 15 ≤ a ∧ a < B + 29) L L3 → KI L3 B G ∧ FrK B L L3 := fun f => h.scrF f (fun a e => by unfold scr; omega)
    refine lx_fnd 61 (fun i s => ∃ L3, s = (nI i, L3) ∧ SC L3 (B + 15) (yrs G.S i) ∧ Fr (fun a => B + 15 ≤ a ∧ a < B + 29) L L3) (ovy G.S) (fun v z => z.1 = nI (if decide (k = 1) then v.2 else v.1) ∧ Fr (fun a => B + 15 ≤ a ∧ a < B + 29) L z.2) (by decide) ⟨L2, rfl, q2, f2.mono fun a h => by omega⟩ ?_ ?_ ?_ ?_
    · rintro i _ hi ⟨L3, rfl, q3, f3⟩
      unfold fX6_overfull_b31
      dsimp only
      rw [if_neg (by rw [l60, nQ_lt (by omega) (by omega)]; omega)]
      rcases q3.firstOverfullF (hy i).1 with ⟨e, n⟩ | ⟨v, e, n⟩
      · obtain ⟨L4, e4, q4, f4⟩ := q3.passYearF (hy i).1
        rw [e, bd_some, if_pos rfl, e4, bd_some, lt_eq, nQ_s]
        exact .inl ⟨oy_n n, _, rfl, L4, rfl, q4, f3.trans (f4.mono fun a h => by unfold SB at h; omega)⟩
      · have hv : v < 1000 := by
          rcases q3.firstOverfullF (hy i).1 with ⟨-, n'⟩ | ⟨v', e', n'⟩
          · rw [n] at n'; cases n'
          · have : ∀ n v, fnd (fov (yrs G.S i)) n = some v → v < n := by
              intro n
              induction n with
              | zero => intro v h; cases h
              | succ n ih =>
                intro v h
                have h : (fnd (fov (yrs G.S i)) n).or (fov (yrs G.S i) n) = some v := h
                cases c : fnd (fov (yrs G.S i)) n with
                | some w => rw [c] at h; cases h; have := ih v c; omega
                | none =>
                  rw [c] at h
                  have h : fov (yrs G.S i) n = some v := h
                  unfold fov at h
                  split at h
                  · cases h; omega
                  · cases h
            have := this _ _ n
            have := (hy i).2.1
            omega
        rw [e, bd_some, if_neg (by rw [nI_ne_neg' (by omega)]; exact not_false)]
        refine .inr ⟨(i, v), ?_⟩
        rcases (show k = 0 ∨ k = 1 by omega) with rfl | rfl
        · rw [if_pos (by decide)]; exact ⟨_, oy_s n, rfl, rfl, f3⟩
        · rw [if_neg (by decide)]; exact ⟨_, oy_s n, rfl, rfl, f3⟩
    · rintro _ ⟨L3, rfl, q3, f3⟩
      rfl
    · rintro _ ⟨L3, rfl, q3, f3⟩ hn
      exact ⟨_, rfl, (ovr_n hn).symm, fin f3⟩
    · rintro v z hv ⟨ev, fv⟩
      exact ⟨_, rfl, ev.trans (ovr_s hv).symm, fin fv⟩
  · unfold fX7_overfull
    obtain ⟨L2, e2, q2, f2⟩ := h.Q.S.layDayF
    rw [isTwoF, bd_some, c, if_neg (by decide), e2, bd_some]
    have fin : ∀ {L3 : HL}, Fr (fun a => a = B + 178 + 9 ∨ a = B + 178 + 8) L L3 → JI L3 (B + 178) G ∧ FrJ (B + 178) L L3 := fun f => h.scrF f (fun a e => by omega)
    refine lx_fnd 61 (fun i s => ∃ L3, s = (nI i, L3) ∧ RC L3 (B + 178 + 9) (yrs G.S i) ∧ Fr (fun a => a = B + 178 + 9 ∨ a = B + 178 + 8) L L3) (ovy G.S) (fun v z => z.1 = nI (if decide (k = 1) then v.2 else v.1) ∧ Fr (fun a => a = B + 178 + 9 ∨ a = B + 178 + 8) L z.2) (by decide) ⟨L2, rfl, q2, f2.mono fun a h => .inl h⟩ ?_ ?_ ?_ ?_
    · rintro i _ hi ⟨L3, rfl, q3, f3⟩
      unfold fX7_overfull_b20
      dsimp only
      have hWi := (hy i).1
      have eH := (hy i).2.1
      rw [if_neg (by rw [l60, nQ_lt (by omega) (by omega)]; omega)]
      have lpr := lp_fnd (f := fun s14 : Int32 => fX7_overfull_b28 (B + 178) (nI k) (nI i) s14 L3) (s0 := (0 : Int32)) (yrs G.S i).H (fun j s => s = nI j) (fov (yrs G.S i)) (fun v z => z = ((if k = 0 then nI i else nI v), L3)) (by rw [FU_20000]; omega) rfl (by
        rintro j _ hj rfl
        unfold fX7_overfull_b28
        have rs : L3.1 (B + 178 + 9) ((29 : Int32) + nI j).toNatClampNeg = bI ((yrs G.S i).st j) := by rw [l29, nQ_add, nI_cl (by omega)]; exact q3.st j (by omega)
        rw [c0q, q3.H, if_neg (by rw [nQ_le (by omega) (by omega)]; omega), gd_of (by rw [l29, nQ_add]; exact vin_nI (by omega) (by omega)), rs]
        cases cs : (yrs G.S i).st j
        · rw [if_neg (by decide), lt_eq, nQ_s]; exact .inl ⟨fov_f (by rw [cs]; rfl), _, rfl, rfl⟩
        rw [if_pos (by decide), q3.isOverfullF hWi (by omega) (by omega) hj, bd_some]
        cases co : ov (yrs G.S i) j
        · rw [if_pos (by decide), lt_eq, nQ_s]; exact .inl ⟨fov_f (by rw [cs, co]; rfl), _, rfl, rfl⟩
        rw [if_neg (by decide)]
        refine .inr ⟨j, ?_⟩
        rcases (show k = 0 ∨ k = 1 by omega) with rfl | rfl
        · rw [if_pos (by decide)]; exact ⟨_, fov_t (by rw [cs, co]; rfl), rfl, rfl⟩
        · rw [if_neg (by decide)]; exact ⟨_, fov_t (by rw [cs, co]; rfl), rfl, rfl⟩) (by
        rintro _ rfl
        unfold fX7_overfull_b28
        rw [c0q, q3.H, if_pos (by rw [nQ_le (by omega) (by omega)]; omega)])
      rcases lpr with ⟨s, e, -, n⟩ | ⟨v, y, e, n, rfl⟩
      · obtain ⟨L4, e4, q4, f4, -⟩ := q3.yearGoesF (m := B + 178) (n := 92) hWi (by omega) (by omega) (by omega)
        rw [e, lx_inl, e4, bd_some, lt_eq, nQ_s]
        exact .inl ⟨oy_n n, _, rfl, L4, rfl, q4, f3.trans f4⟩
      · rw [e, lx_inr]
        refine .inr ⟨(i, v), _, oy_s n, rfl, ?_, f3⟩
        rcases (show k = 0 ∨ k = 1 by omega) with rfl | rfl
        · rfl
        · rfl
    · rintro _ ⟨L3, rfl, q3, f3⟩
      rfl
    · rintro _ ⟨L3, rfl, q3, f3⟩ hn
      exact ⟨_, rfl, (ovr_n hn).symm, fin f3⟩
    · rintro v z hv ⟨ev, fv⟩
      exact ⟨_, rfl, ev.trans (ovr_s hv).symm, fin fv⟩
