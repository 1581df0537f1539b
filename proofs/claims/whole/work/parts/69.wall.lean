/-! ===== the first of a row of tries ===== -/
def fnd {γ : Type} (g : Nat → Option γ) : Nat → Option γ
  | 0 => none
  | n + 1 => (fnd g n).or (g n)
theorem fnd_keep {γ : Type} {g : Nat → Option γ} {n : Nat} {v : γ} (h : fnd g n = some v) : ∀ d, fnd g (n + d) = some v
  | 0 => h
  | d + 1 => by
    show (fnd g (n + d)).or (g (n + d)) = some v
    rw [fnd_keep h d]; rfl
theorem fnd_at {γ : Type} {g : Nat → Option γ} {i n : Nat} {v : γ} (h0 : fnd g i = none) (h1 : g i = some v) (hi : i < n) : fnd g n = some v := by
  have e : fnd g (i + 1) = some v := by
    show (fnd g i).or (g i) = some v
    rw [h0, h1]; rfl
  have := fnd_keep e (n - (i + 1))
  rwa [show i + 1 + (n - (i + 1)) = n by omega] at this
theorem lp_fnd {σ α γ : Type} {f : σ → Option (σ ⊕ (σ ⊕ α))} {s0 : σ} (N : Nat) (I : Nat → σ → Prop) (g : Nat → Option γ) (R : γ → α → Prop) (hN : N < FU) (h0 : I 0 s0) (h : ∀ i s, i < N → I i s → (g i = none ∧ ∃ s', f s = some (.inl s') ∧ I (i + 1) s') ∨ ∃ v x, g i = some v ∧ f s = some (.inr (.inr x)) ∧ R v x) (hend : ∀ s, I N s → f s = some (.inr (.inl s))) : (∃ s, lp f FU s0 = some (.inl s) ∧ I N s ∧ fnd g N = none) ∨ ∃ v y, lp f FU s0 = some (.inr y) ∧ fnd g N = some v ∧ R v y := by
  obtain ⟨x, h1, h2⟩ : ∃ x, lp f FU s0 = some x ∧ ((∃ s, x = .inl s ∧ I N s ∧ fnd g N = none) ∨ ∃ v y, x = .inr y ∧ fnd g N = some v ∧ R v y) :=
    Ok.lp (fun i s => I i s ∧ fnd g i = none) N (fun i s hi e => by
      obtain ⟨e1, e2⟩ := e
      by_cases q : i < N
      · rcases h i s q e1 with ⟨g0, s', e3, e4⟩ | ⟨v, x, g1, e3, e4⟩
        · rw [e3]; exact Ok.inl ⟨q, e4, by show (fnd g i).or (g i) = none; rw [e2, g0]; rfl⟩
        · rw [e3]; exact Ok.inr (.inr ⟨v, x, rfl, fnd_at e2 g1 q, e4⟩)
      · have : i = N := by omega
        subst this
        rw [hend s e1]; exact Ok.inr (.inl ⟨s, rfl, e1, e2⟩)) FU 0 _ (Nat.zero_le _) (by omega) ⟨h0, rfl⟩
  rcases h2 with ⟨s, rfl, e1, e2⟩ | ⟨v, y, rfl, e1, e2⟩
  · exact .inl ⟨s, h1, e1, e2⟩
  · exact .inr ⟨v, y, h1, e1, e2⟩
theorem lx_fnd {σ α β γ : Type} {f : σ → Option (σ ⊕ (σ ⊕ α))} {s0 : σ} {kr : α → Option β} {k : σ → Option β} {P : β → Prop} (N : Nat) (I : Nat → σ → Prop) (g : Nat → Option γ) (R : γ → α → Prop) (hN : N < FU) (h0 : I 0 s0) (h : ∀ i s, i < N → I i s → (g i = none ∧ ∃ s', f s = some (.inl s') ∧ I (i + 1) s') ∨ ∃ v x, g i = some v ∧ f s = some (.inr (.inr x)) ∧ R v x) (hend : ∀ s, I N s → f s = some (.inr (.inl s))) (hk : ∀ s, I N s → fnd g N = none → ∃ x, k s = some x ∧ P x) (hr : ∀ v x, fnd g N = some v → R v x → ∃ y, kr x = some y ∧ P y) : ∃ x, lx (lp f FU s0) kr k = some x ∧ P x := by
  rcases lp_fnd N I g R hN h0 h hend with ⟨s, e, e1, e2⟩ | ⟨v, y, e, e1, e2⟩
  · rw [e]; exact hk s e1 e2
  · rw [e]; exact hr v y e1 e2
/-! ===== a wall more ===== -/
def wallS (S : Sv) (a b : Nat) : Sv := S.set_wa (w2 S.wa a b)
theorem wallS_wf {S : Sv} (hW : WF S) {a b : Nat} (ha : a < S.H) (hb : b < S.H) (hab : a ≠ b) : WF (wallS S a b) := by
  refine WF.of hW.H5 hW.P6 hW.st (fun x y e => ?_) (fun x y => w2_sym hW.ws a b x y) hW.fi hW.fs hW.fm hW.fa hW.wh hW.wl hW.mk hW.fr hW.wo hW.rm
  have e : w2 S.wa a b x y = true := e
  show x < S.H ∧ y < S.H ∧ x ≠ y
  unfold w2 at e
  split at e
  · next h => rcases h with ⟨rfl, rfl⟩ | ⟨rfl, rfl⟩
              · exact ⟨ha, hb, hab⟩
              · exact ⟨hb, ha, fun z => hab z.symm⟩
  · exact hW.wa x y e
theorem w2_w2 {w : Nat → Nat → Bool} (hs : ∀ a b, w a b = w b a) (a b : Nat) : w2 (w2 w a b) a b = w := by
  funext x y
  have e : w2 w a b a b = !w a b := if_pos (.inl ⟨rfl, rfl⟩)
  show (if (x = a ∧ y = b) ∨ (x = b ∧ y = a) then !(w2 w a b a b) else w2 w a b x y) = w x y
  rw [e]
  by_cases c : (x = a ∧ y = b) ∨ (x = b ∧ y = a)
  · rw [if_pos c, Bool.not_not]
    rcases c with ⟨rfl, rfl⟩ | ⟨rfl, rfl⟩
    · rfl
    · exact hs _ _
  · rw [if_neg c]; exact if_neg c
theorem wallS_back {S : Sv} (hW : WF S) (a b : Nat) : wallS (wallS S a b) a b = S := by
  show S.set_wa (w2 (w2 S.wa a b) a b) = S
  rw [w2_w2 hW.ws]; rfl
section WAL
variable {L : HL} {b t m B : Nat} {S : Sv}
theorem SC.heirOfF (hS : SC L b S) (hW : WF S) {x : Nat} (hx : x < S.H) : ∃ z, fX4_heirOf b (nI x) L = some z ∧ z.1 = hr S (S.wl x) x ∧ Fr (SA b) L z.2 := by
  have h5 := hW.H5
  unfold fX4_heirOf
  obtain ⟨z, e1, e2, f⟩ := hS.heirF hW (x := x) (by omega) (S.wl x)
  rw [hS.hasF hW, bd_some, hasI_n S (by omega), decide_eq_true hx, if_neg (by decide), gd_of (vin_nI (by omega) (by omega)), nI_cl (by omega), hS.wl x hx, e1, bd_some]
  exact ⟨_, rfl, e2, f⟩
theorem dWall_n {j k : Nat} (hW : WF S) (hj : j < S.H) (hk : k < S.H) (hjk : j ≠ k) (is : Bool) (hw : S.wa j k = !is) : dWall S (nI j) (nI k) is = (1, wallS S j k) := by
  have h5 := hW.H5
  unfold dWall
  rw [hasI_n S (by omega), hasI_n S (by omega), decide_eq_true hj, decide_eq_true hk, decide_eq_false (show ¬ nI j = nI k by rw [nQ_eq (by omega) (by omega)]; exact hjk), if_pos (by decide), nI_cl (by omega), nI_cl (by omega), hw, if_neg (by cases is <;> decide)]
  rfl
theorem heirByWallF (hS : SC L (B + 15) S) (hW : WF S) {x j k : Nat} (hx : x < S.H) (hj : j < S.H) (hk : k < S.H) (hjk : j ≠ k) (hw : S.wa j k = false) : ∃ z, fX6_heirByWall B (nI x) (nI j) (nI k) L = some z ∧ z.1 = hr (wallS S j k) (S.wl x) x ∧ SC z.2 (B + 15) S ∧ Fr (SB (B + 15)) L z.2 := by
  unfold fX6_heirByWall
  have hW1 := wallS_wf hW hj hk hjk
  obtain ⟨z1, e1, -, q1, f1⟩ := hS.setWallF hW (nI j) (nI k) true
  rw [dWall_n hW hj hk hjk true hw] at q1
  rw [show fX4_setWall (B + 15) (nI j) (nI k) 1 L = some z1 from e1, bd_some]
  have q1 : SC z1.2 (B + 15) (wallS S j k) := q1
  obtain ⟨z2, e2, v2, f2⟩ := q1.heirOfF hW1 (x := x) hx
  rw [e2, bd_some]
  have q2 : SC z2.2 (B + 15) (wallS S j k) := q1.frame fun a _ _ => f2.1 a (by unfold SA; omega)
  have hw2 : (wallS S j k).wa j k = true := by
    show w2 S.wa j k j k = true
    unfold w2
    rw [if_pos (.inl ⟨rfl, rfl⟩), hw]; rfl
  obtain ⟨z3, e3, -, q3, f3⟩ := q2.setWallF hW1 (nI j) (nI k) false
  rw [dWall_n hW1 hj hk hjk false hw2] at q3
  have q3 : SC z3.2 (B + 15) (wallS (wallS S j k) j k) := q3
  rw [wallS_back hW] at q3
  rw [show fX4_setWall (B + 15) (nI j) (nI k) 0 z2.2 = some z3 from e3, bd_some]
  exact ⟨_, rfl, v2, q3, ((f1.mono fun a h => by unfold SD at h; unfold SB; omega).trans (f2.mono fun a h => by unfold SA at h; unfold SB; omega)).trans (f3.mono fun a h => by unfold SD at h; unfold SB; omega)⟩
theorem SC.mayWallN (hS : SC L b S) (hW : WF S) {j k : Nat} (hj : j < S.H) (hk : k < S.H) : fX4_mayWall b (nI j) (nI k) L = some (bI (S.st j && (S.st k && !S.wa j k))) := by
  have h5 := hW.H5
  rw [hS.mayWallF hW, stI_n S (by omega), stI_n S (by omega), hasI_n S (by omega), hasI_n S (by omega), decide_eq_true hj, decide_eq_true hk, nI_cl (by omega), nI_cl (by omega), Bool.true_and, Bool.true_and]
theorem RC.mayHaveWallF (hR : RC L (m + 1) S) (hW : WF S) {j k : Nat} (hj : j < S.H) (hk : k < S.H) : fX7_mayHaveWall m (nI j) (nI k) L = some (bI (S.st j && (S.st k && !S.wa j k))) := by
  have h5 := hW.H5
  unfold fX7_mayHaveWall
  have rs : ∀ z, z < 5 → L.1 (m + 1) ((29 : Int32) + nI z).toNatClampNeg = bI (S.st z) := fun z hz => by rw [l29, nQ_add, nI_cl (by omega)]; exact hR.st z hz
  have rw_ : L.1 (m + 1) (((39 : Int32) + ((5 : Int32) * nI j)) + nI k).toNatClampNeg = bI (S.wa j k) := by rw [l39, l5, nQ_mul, nQ_add, nQ_add, nI_cl (by omega)]; exact hR.wa j (by omega) k (by omega)
  have vs : ∀ z, z < 5 → vin ((29 : Int32) + nI z) 228 := fun z hz => by rw [l29, nQ_add]; exact vin_nI (by omega) (by omega)
  rw [gd_of (vs j (by omega)), rs j (by omega), gd_of (vs k (by omega)), rs k (by omega), gd_of (by rw [l39, l5, nQ_mul, nQ_add, nQ_add]; exact vin_nI (by omega) (by omega)), rw_]
  cases S.st j <;> cases S.st k <;> cases S.wa j k <;> rfl
theorem RC.layWallF (hR : RC L (m + 1) S) (hW : WF S) {j k : Nat} (hj : j < S.H) (hk : k < S.H) (hjk : j ≠ k) (hw : S.wa j k = false) : ∃ L', fX7_layWall m (nI j) (nI k) L = some L' ∧ RC L' (m + 9) (wallS S j k) ∧ Fr (· = m + 9) L L' := by
  have h5 := hW.H5
  unfold fX7_layWall
  obtain ⟨L1, e1, q1, f1⟩ := hR.layDayF
  rw [e1, bd_some, l39, l5, nQ_mul, nQ_mul, nQ_add, nQ_add, nQ_add, nQ_add, gd_of (vin_nI (by omega) (by omega)), lt_eq, gd_of (vin_nI (by omega) (by omega)), lt_eq, nI_cl (by omega), nI_cl (by omega)]
  refine ⟨_, rfl, q1.w_wa (fun x hx y hy => ?_) (fun q _ hq => by rw [wQ_other (by omega), wQ_other (by omega)]), (f1.wI rfl _ _).wI rfl _ _⟩
  unfold w2
  by_cases c2 : x = k ∧ y = j
  · obtain ⟨rfl, rfl⟩ := c2
    rw [wQ_same, if_pos (.inr ⟨rfl, rfl⟩), hw]; rfl
  · rw [wQ_other (by omega)]
    by_cases c1 : x = j ∧ y = k
    · obtain ⟨rfl, rfl⟩ := c1
      rw [wQ_same, if_pos (.inl ⟨rfl, rfl⟩), hw]; rfl
    · rw [wQ_other (by omega), if_neg (by rintro (h | h); exact c1 h; exact c2 h)]
      exact q1.wa x hx y hy
end WAL
def bldB (S : Sv) (x y a i : Nat) : Option Nat := if (S.st a && (S.st (a + 1 + i) && !S.wa a (a + 1 + i))) && decide (hr (wallS S a (a + 1 + i)) (S.wl x) x = nI y) then some (10 * a + (a + 1 + i)) else none
def bldA (S : Sv) (x y a : Nat) : Option Nat := fnd (bldB S x y a) (S.H - (a + 1))
def bld (S : Sv) (x y : Nat) : Int32 := match fnd (bldA S x y) S.H with
  | none => -1
  | some v => nI v
theorem bld_n {S : Sv} {x y : Nat} (h : fnd (bldA S x y) S.H = none) : bld S x y = -1 := by unfold bld; rw [h]
theorem bld_s {S : Sv} {x y v : Nat} (h : fnd (bldA S x y) S.H = some v) : bld S x y = nI v := by unfold bld; rw [h]
theorem l99 : (99 : Int32) = nI 99 := rfl
theorem ag_buildFor (B : Nat) (a b : Int32) : Agree B (fX6_buildFor B a b) (fX7_buildFor (B + 178) a b) := fun G hW => by
  have h5 := hW.Q.W.H5
  cases c : (hasI G.S a && (hasI G.S b && !decide (a = b)))
  · refine ⟨-2, badG G, fun L h => ?_, fun L h => ?_, badG_w hW⟩
    · unfold fX6_buildFor
      rw [h.Q.S.hasTwoF hW.Q.W, bd_some, c, if_pos (by decide), bd_eta]; exact refK_bad (-2) L h
    · unfold fX7_buildFor fX7_buildFor_j21
      simp only [h.Q.S.isHouseF hW.Q.W, bd_some, bd_eta]
      obtain ⟨z, q⟩ := badJ (m := B + 178) (-2) L h
      refine ⟨z, ?_, q.2⟩
      cases ca : hasI G.S a
      · rw [if_pos (by decide)]; exact q.1
      cases cb : hasI G.S b
      · rw [if_neg (by decide), if_pos (by decide)]; exact q.1
      by_cases cn : a = b
      · rw [if_neg (by decide), if_neg (by decide), if_pos cn]; exact q.1
      · rw [ca, cb, decide_eq_false cn] at c; cases c
  obtain ⟨x, y, hx, hy, hxy, rfl, rfl⟩ := two_c c
  have hW0 := hW.Q.W
  obtain ⟨q, hq, eq⟩ := hW0.wl x hx
  -- a turn's answer
  have tn : ∀ {a i : Nat}, (G.S.st a && (G.S.st (a + 1 + i) && !G.S.wa a (a + 1 + i))) = false → bldB G.S x y a i = none := fun h => by unfold bldB; rw [h]; rfl
  have tm : ∀ {a i : Nat}, (G.S.st a && (G.S.st (a + 1 + i) && !G.S.wa a (a + 1 + i))) = true → bldB G.S x y a i = if hr (wallS G.S a (a + 1 + i)) (G.S.wl x) x = nI y then some (10 * a + (a + 1 + i)) else none := fun h => by unfold bldB; rw [h, Bool.true_and]; simp only [decide_eq_true_eq]
  have t3 : ∀ {p q r : Bool}, (p && (q && !r)) = true → r = false := by intro p q r; cases p <;> cases q <;> cases r <;> decide
  refine ⟨if hr G.S (G.S.wl x) x = nI y then 99 else bld G.S x y, G, fun L h => ?_, fun L h => ?_, hW⟩
  · unfold fX6_buildFor
    have hS := h.Q.S
    obtain ⟨z1, e1, v1, f1⟩ := hS.heirOfF hW0 hx
    rw [hS.hasTwoF hW0, bd_some, c, if_neg (by decide), e1, bd_some, v1]
    by_cases c0 : hr G.S (G.S.wl x) x = nI y
    · rw [if_pos c0, if_pos c0]; exact ⟨_, rfl, rfl, h.scrF f1 (fun a e => scr_SA e)⟩
    rw [if_neg c0, if_neg c0]
    have hS1 : SC z1.2 (B + 1) G.S := hS.frame fun a _ _ => f1.1 a (by unfold SA; omega)
    obtain ⟨L2, e2, q2, f2⟩ := hS1.takeFromF (a0 := B + 15) hW0 (.inr (by omega))
    rw [e2, bd_some]
    have fin : ∀ {L3 : HL}, Fr (SB (B + 15)) L2 L3 → KI L3 B G ∧ FrK B L L3 := fun {L3} f => h.scrF (((f1.mono fun a h => scr_SA h).trans (f2.mono fun a h => by unfold scr; omega)).trans (f.mono fun a h => by unfold SB at h; unfold scr; omega) : Fr (scr B) L L3) (fun a e => e)
    refine lx_fnd G.S.H (fun i s => ∃ L3, s = (nI i, L3) ∧ SC L3 (B + 15) G.S ∧ Fr (SB (B + 15)) L2 L3) (bldA G.S x y) (fun v z => z.1 = nI v ∧ Fr (SB (B + 15)) L2 z.2) (by rw [FU_20000]; omega) ⟨L2, rfl, q2, Fr.refl L2⟩ ?_ ?_ ?_ ?_
    · rintro i _ hi ⟨L3, rfl, q3, f3⟩
      unfold fX6_buildFor_b49
      dsimp only
      rw [q3.H, if_neg (by rw [nQ_le (by omega) (by omega)]; omega), lt_eq, nQ_s]
      have lpr := lp_fnd (f := fun s16 : Int32 × HL => fX6_buildFor_b65 B (nI x) (nI y) (nI i) s16.1 s16.2) (s0 := (nI (i + 1), L3)) (G.S.H - (i + 1)) (fun j s => ∃ L4, s = (nI (i + 1 + j), L4) ∧ SC L4 (B + 15) G.S ∧ Fr (SB (B + 15)) L2 L4) (bldB G.S x y i) (fun v z => z.1 = nI v ∧ Fr (SB (B + 15)) L2 z.2) (by rw [FU_20000]; omega) ⟨L3, rfl, q3, f3⟩ (by
        rintro j _ hj ⟨L4, rfl, q4, f4⟩
        unfold fX6_buildFor_b65
        dsimp only
        rw [q4.H, if_neg (by rw [nQ_le (by omega) (by omega)]; omega), q4.mayWallN hW0 hi (show i + 1 + j < G.S.H by omega), bd_some]
        cases cm : (G.S.st i && (G.S.st (i + 1 + j) && !G.S.wa i (i + 1 + j)))
        · rw [if_pos (by decide), lt_eq, nQ_s]
          exact .inl ⟨tn cm, _, rfl, L4, rfl, q4, f4⟩
        rw [if_neg (by decide)]
        obtain ⟨z5, e5, v5, q5, f5⟩ := heirByWallF q4 hW0 hx hi (show i + 1 + j < G.S.H by omega) (by omega) (t3 cm)
        rw [e5, bd_some, v5, tm cm]
        by_cases c6 : hr (wallS G.S i (i + 1 + j)) (G.S.wl x) x = nI y
        · rw [if_pos c6, if_pos c6, l10, nQ_mul, nQ_add]
          exact .inr ⟨_, _, rfl, rfl, rfl, f4.trans f5⟩
        · rw [if_neg c6, if_neg c6, lt_eq, nQ_s]
          exact .inl ⟨rfl, _, rfl, z5.2, rfl, q5, f4.trans f5⟩) (by
        rintro _ ⟨L4, rfl, q4, f4⟩
        unfold fX6_buildFor_b65
        dsimp only
        rw [q4.H, if_pos (by rw [nQ_le (by omega) (by omega)]; omega)])
      rcases lpr with ⟨s, e3, ⟨L4, rfl, q4, f4⟩, n3⟩ | ⟨v, y3, e3, n3, r3⟩
      · rw [e3, lx_inl]
        simp only [lt_eq, nQ_s]
        exact .inl ⟨n3, _, rfl, L4, rfl, q4, f4⟩
      · rw [e3, lx_inr]
        exact .inr ⟨v, y3, n3, rfl, r3⟩
    · rintro _ ⟨L3, rfl, q3, f3⟩
      unfold fX6_buildFor_b49
      dsimp only
      rw [q3.H, if_pos (by rw [nQ_le (by omega) (by omega)]; omega)]
    · rintro _ ⟨L3, rfl, q3, f3⟩ hn
      exact ⟨_, rfl, (bld_n hn).symm, fin f3⟩
    · rintro v z hv ⟨ev, fv⟩
      exact ⟨_, rfl, ev.trans (bld_s hv).symm, fin fv⟩
  · unfold fX7_buildFor
    have hR := h.Q.S
    obtain ⟨z1, e1, v1, f1⟩ := hR.heirOnF (m := B + 178) (n := 228) hW0 (by omega) (by omega) (by omega) hx hq
    have rl : L.1 (B + 178 + 1) ((24 : Int32) + nI x).toNatClampNeg = nI q := by rw [l24, nQ_add, nI_cl (by omega), ← eq]; exact hR.wl x (by omega)
    simp only [hR.isHouseF hW0, bd_some, hasI_n G.S (show x < 2147483648 by omega), hasI_n G.S (show y < 2147483648 by omega), decide_eq_true hx, decide_eq_true hy]
    rw [if_neg (by decide), if_neg (by decide), if_neg (by rw [nQ_eq (by omega) (by omega)]; exact hxy), gd_of (by rw [l24, nQ_add]; exact vin_nI (by omega) (by omega)), rl, e1, bd_some, v1, ← eq]
    by_cases c0 : hr G.S (G.S.wl x) x = nI y
    · rw [if_pos c0, if_pos c0]; exact ⟨_, rfl, rfl, h.scrF f1 (fun a e => by omega)⟩
    rw [if_neg c0, if_neg c0]
    have hR1 : ∀ {L3 : HL}, Fr (fun a => a = B + 178 + 8 ∨ a = B + 178 + 9) L L3 → RC L3 (B + 178 + 1) G.S := fun f => hR.frame (f.1 _ (by omega))
    have fin : ∀ {L3 : HL}, Fr (fun a => a = B + 178 + 8 ∨ a = B + 178 + 9) L L3 → JI L3 (B + 178) G ∧ FrJ (B + 178) L L3 := fun f => h.scrF f (fun a e => by omega)
    refine lx_fnd G.S.H (fun i s => ∃ L3, s = (nI i, L3) ∧ Fr (fun a => a = B + 178 + 8 ∨ a = B + 178 + 9) L L3) (bldA G.S x y) (fun v z => z.1 = nI v ∧ Fr (fun a => a = B + 178 + 8 ∨ a = B + 178 + 9) L z.2) (by rw [FU_20000]; omega) ⟨z1.2, rfl, f1.mono fun a h => .inl h⟩ ?_ ?_ ?_ ?_
    · rintro i _ hi ⟨L3, rfl, f3⟩
      unfold fX7_buildFor_b55
      dsimp only
      rw [c0q, (hR1 f3).H, if_neg (by rw [nQ_le (by omega) (by omega)]; omega), lt_eq, nQ_s]
      have lpr := lp_fnd (f := fun s21 : Int32 × HL => fX7_buildFor_b70 (B + 178) (nI x) (nI y) (nI i) s21.1 s21.2) (s0 := (nI (i + 1), L3)) (G.S.H - (i + 1)) (fun j s => ∃ L4, s = (nI (i + 1 + j), L4) ∧ Fr (fun a => a = B + 178 + 8 ∨ a = B + 178 + 9) L L4) (bldB G.S x y i) (fun v z => z.1 = nI v ∧ Fr (fun a => a = B + 178 + 8 ∨ a = B + 178 + 9) L z.2) (by rw [FU_20000]; omega) ⟨L3, rfl, f3⟩ (by
        rintro j _ hj ⟨L4, rfl, f4⟩
        unfold fX7_buildFor_b70
        dsimp only
        rw [c0q, (hR1 f4).H, if_neg (by rw [nQ_le (by omega) (by omega)]; omega), (hR1 f4).mayHaveWallF hW0 hi (show i + 1 + j < G.S.H by omega), bd_some]
        cases cm : (G.S.st i && (G.S.st (i + 1 + j) && !G.S.wa i (i + 1 + j)))
        · rw [if_pos (by decide), lt_eq, nQ_s]
          exact .inl ⟨tn cm, _, rfl, L4, rfl, f4⟩
        rw [if_neg (by decide)]
        obtain ⟨L5, e5, q5, f5⟩ := (hR1 f4).layWallF hW0 hi (show i + 1 + j < G.S.H by omega) (by omega) (t3 cm)
        have hW5 := wallS_wf hW0 hi (show i + 1 + j < G.S.H by omega) (by omega)
        have rl5 : L5.1 (B + 178 + 9) ((24 : Int32) + nI x).toNatClampNeg = nI q := by rw [l24, nQ_add, nI_cl (by omega), ← eq]; exact q5.wl x (by omega)
        obtain ⟨z6, e6, v6, f6⟩ := q5.heirOnF (m := B + 178) (n := 92) hW5 (by omega) (by omega) (by omega) (x := x) hx hq
        rw [e5, bd_some, gd_of (by rw [l24, nQ_add]; exact vin_nI (by omega) (by omega)), rl5, e6, bd_some, v6, tm cm, ← eq]
        have f6' := (f4.trans (f5.mono fun a h => .inr h)).trans (f6.mono fun a h => .inl h)
        by_cases c6 : hr (wallS G.S i (i + 1 + j)) (G.S.wl x) x = nI y
        · rw [if_pos c6, if_pos c6, l10, nQ_mul, nQ_add]
          exact .inr ⟨_, _, rfl, rfl, rfl, f6'⟩
        · rw [if_neg c6, if_neg c6, lt_eq, nQ_s]
          exact .inl ⟨rfl, _, rfl, z6.2, rfl, f6'⟩) (by
        rintro _ ⟨L4, rfl, f4⟩
        unfold fX7_buildFor_b70
        dsimp only
        rw [c0q, (hR1 f4).H, if_pos (by rw [nQ_le (by omega) (by omega)]; omega)])
      rcases lpr with ⟨s, e3, ⟨L4, rfl, f4⟩, n3⟩ | ⟨v, y3, e3, n3, r3⟩
      · rw [e3, lx_inl]
        simp only [lt_eq, nQ_s]
        exact .inl ⟨n3, _, rfl, L4, rfl, f4⟩
      · rw [e3, lx_inr]
        exact .inr ⟨v, y3, n3, rfl, r3⟩
    · rintro _ ⟨L3, rfl, f3⟩
      unfold fX7_buildFor_b55
      dsimp only
      rw [c0q, (hR1 f3).H, if_pos (by rw [nQ_le (by omega) (by omega)]; omega)]
    · rintro _ ⟨L3, rfl, f3⟩ hn
      exact ⟨_, rfl, (bld_n hn).symm, fin f3⟩
    · rintro v z hv ⟨ev, fv⟩
      exact ⟨_, rfl, ev.trans (bld_s hv).symm, fin fv⟩
