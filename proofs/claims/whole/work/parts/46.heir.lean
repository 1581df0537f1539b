/-! ===== ranks and heirs ===== -/
def rkc (S : Sv) (k : Int32) (x y : Nat) (law opn : Int32) (roomy : Bool) : Int32 :=
  if k = 0 then law else if k = 1 then (if roomy then law else 1000) else if k = 2 then (if law = 1000 then 1000 else 10 * law - S.wo y / 10) else if k = 3 then (if roomy && qt S (fm S x) (fm S y) then law else 1000) else if k = 4 then opn else if k = 5 then opn - 2 * nI (lvn S (nI y)) else 1000
def lw (S : Sv) (x y : Nat) : Int32 := if dg S x y = -1 then 1000 else dg S x y
def opn (S : Sv) (x y : Nat) : Int32 := if lw S x y = 1000 then 9 else lw S x y
def roomy (S : Sv) (x y : Nat) : Bool := !decide (S.rm y - nI (lvn S (nI y)) < nI (lvn S (nI x)))
def rkv (S : Sv) (k : Int32) (x y : Nat) : Int32 := rkc S k x y (lw S x y) (opn S x y) (roomy S x y)
def rkd (S : Sv) (k : Int32) (x : Nat) (dr : Nat → Bool) (h : Nat) : Int32 := if dr h then (if rkv S k x h = 1000 then 9 else rkv S k x h) - 3 else rkv S k x h
def pick (s : Int32 × Int32) (r h : Int32) : Int32 × Int32 := if s.2 ≤ r then s else (h, r)
def hs (S : Sv) (k : Int32) (x : Nat) (dr : Nat → Bool) (h : Nat) (s : Int32 × Int32) : Int32 × Int32 :=
  if h = x ∨ S.st h = false then s else pick s (rkd S k x dr h) (nI h)
theorem pick_le {s : Int32 × Int32} {r h : Int32} (e : s.2 ≤ 1000) : (pick s r h).2 ≤ 1000 := by
  unfold pick
  by_cases c : s.2 ≤ r
  · rw [if_pos c]; exact e
  · rw [if_neg c]
    rw [Int32.not_le] at c
    exact Int32.le_trans (Int32.le_of_lt c) e
theorem pick_no {s : Int32 × Int32} {h : Int32} (e : s.2 ≤ 1000) : pick s 1000 h = s := if_pos e
def hf (S : Sv) (k : Int32) (x : Nat) (dr : Nat → Bool) : Nat → Int32 × Int32
  | 0 => (-1, 1000)
  | n + 1 => hs S k x dr n (hf S k x dr n)
def hb (S : Sv) (k : Int32) (x : Nat) (dr : Nat → Bool) : Int32 := (hf S k x dr S.H).1
def nod (_ : Nat) : Bool := false
/-- the heir by a kind of will, no door open; none of a house that doesn't stand -/
def hr (S : Sv) (k : Int32) (x : Nat) : Int32 := if S.st x then hb S k x nod else -1
theorem hf_in (S : Sv) (k : Int32) (x : Nat) (dr : Nat → Bool) : ∀ n, (hf S k x dr n).1 = -1 ∨ ∃ h, h < n ∧ (hf S k x dr n).1 = nI h ∧ S.st h = true ∧ h ≠ x
  | 0 => .inl rfl
  | n + 1 => by
    have ih := hf_in S k x dr n
    show (hs S k x dr n (hf S k x dr n)).1 = -1 ∨ _
    have old : (hf S k x dr n).1 = -1 ∨ ∃ h, h < n + 1 ∧ (hf S k x dr n).1 = nI h ∧ S.st h = true ∧ h ≠ x := by
      rcases ih with e | ⟨h, h1, h2⟩
      · exact .inl e
      · exact .inr ⟨h, by omega, h2⟩
    show (hs S k x dr n (hf S k x dr n)).1 = -1 ∨ ∃ h, h < n + 1 ∧ (hs S k x dr n (hf S k x dr n)).1 = nI h ∧ _
    unfold hs
    by_cases c : n = x ∨ S.st n = false
    · rw [if_pos c]; exact old
    · rw [if_neg c]
      unfold pick
      generalize rkd S k x dr n = r
      by_cases c2 : (hf S k x dr n).2 ≤ r
      · rw [if_pos c2]; exact old
      · rw [if_neg c2]
        refine .inr ⟨n, by omega, rfl, ?_, fun e => c (.inl e)⟩
        cases c3 : S.st n
        · exact absurd (.inr c3) c
        · rfl
theorem hf_le (S : Sv) (k : Int32) (x : Nat) (dr : Nat → Bool) : ∀ n, (hf S k x dr n).2 ≤ 1000
  | 0 => by show (1000 : Int32) ≤ 1000; decide
  | n + 1 => by
    have ih := hf_le S k x dr n
    show (hs S k x dr n (hf S k x dr n)).2 ≤ 1000
    unfold hs
    split
    · exact ih
    · exact pick_le ih
theorem hr_in {S : Sv} (hW : WF S) (k : Int32) (x : Nat) : hr S k x = -1 ∨ ∃ h, h < S.H ∧ hr S k x = nI h ∧ S.st h = true ∧ h ≠ x := by
  unfold hr
  split
  · exact hf_in S k x nod S.H
  · exact .inl rfl
/-- the rows measured for one house -/
def MR (L : HL) (b : Nat) (S : Sv) (x : Nat) : Prop := (∀ h, h < 5 → L.1 (b + 11) h = dg S x h) ∧ ∀ h, h < 5 → L.1 (b + 12) h = nI (lvn S (nI h)) ∧ L.1 (b + 13) h = nI (mask (fm S h) 4)
theorem dg_1000 {S : Sv} {x y : Nat} : ¬ dg S x y = 1000 := by
  rcases dg_s S x y with ⟨j, hj, e, -⟩ | ⟨e, -⟩
  · rw [e, l1000, nQ_eq (by omega) (by omega)]; omega
  · rw [e]; decide
section HEI
variable {L : HL} {b t n : Nat} {S : Sv}
theorem SC.measuredRankF (hS : SC L b S) (hW : WF S) {x y : Nat} (hM : MR L b S x) (hx : x < S.H) (hy : y < S.H) (k : Int32) : fX4_measuredRank b k (nI x) (nI y) L = some (rkv S k x y) := by
  have h5 := hW.H5
  obtain ⟨m1, m2⟩ := hM
  have hx5 : x < 5 := by omega
  have hy5 : y < 5 := by omega
  have j68 : ∀ law opn r, fX4_measuredRank_j68 b k (nI x) (nI y) law opn (bI r) L = some (rkc S k x y law opn r) := by
    intro law opn r
    unfold fX4_measuredRank_j68 rkc
    by_cases k0 : k = 0
    · rw [if_pos k0, if_pos k0]
    rw [if_neg k0, if_neg k0]
    by_cases k1 : k = 1
    · rw [if_pos k1, if_pos k1]; cases r <;> rfl
    rw [if_neg k1, if_neg k1]
    by_cases k2 : k = 2
    · rw [if_pos k2, if_pos k2]
      simp (disch := omega) only [vin_t, gd_true, nI_cl, hS.wo y hy]
      by_cases c : law = 1000
      · rw [if_pos c, if_pos c]
      · rw [if_neg c, if_neg c]
    rw [if_neg k2, if_neg k2]
    by_cases k3 : k = 3
    · rw [if_pos k3, if_pos k3]
      simp (disch := omega) only [vin_t, gd_true, nI_cl, (m2 y hy5).2, (m2 x hx5).2, hS.isQuietF, bd_some, bI_e0]
      cases r <;> cases qt S (fm S x) (fm S y) <;> rfl
    rw [if_neg k3, if_neg k3]
    by_cases k4 : k = 4
    · rw [if_pos k4, if_pos k4]
    rw [if_neg k4, if_neg k4]
    by_cases k5 : k = 5
    · rw [if_pos k5, if_pos k5]
      simp (disch := omega) only [vin_t, gd_true, nI_cl, (m2 y hy5).1]
    rw [if_neg k5, if_neg k5]
  have j39 : ∀ law opn, fX4_measuredRank_j39 b k (nI x) (nI y) law opn L = some (rkc S k x y law opn (roomy S x y)) := by
    intro law opn
    unfold fX4_measuredRank_j39 roomy
    simp (disch := omega) only [vin_t, gd_true, nI_cl, (m2 y hy5).1, (m2 x hx5).1, hS.rm y hy]
    by_cases c : S.rm y - nI (lvn S (nI y)) < nI (lvn S (nI x))
    · rw [if_pos c, decide_eq_true c]; exact j68 _ _ false
    · rw [if_neg c, decide_eq_false c]; exact j68 _ _ true
  have j22 : ∀ law, fX4_measuredRank_j22 b k (nI x) (nI y) law L = some (rkc S k x y law (if law = 1000 then 9 else law) (roomy S x y)) := by
    intro law
    unfold fX4_measuredRank_j22
    by_cases c : law = 1000
    · rw [if_pos c, if_pos c]; exact j39 _ _
    · rw [if_neg c, if_neg c]; exact j39 _ _
  unfold fX4_measuredRank rkv opn lw
  simp (disch := omega) only [vin_t, gd_true, nI_cl, m1 y hy5]
  by_cases c : dg S x y = -1
  · rw [if_pos c]; simp only [c, if_true]; exact j22 1000
  · rw [if_neg c]; simp only [c, if_false]; exact j22 _
theorem RC.rankOnF {m : Nat} (hR : RC L t S) (hW : WF S) (hn : 92 ≤ n) (hn' : n < 1000) (htm : t ≠ m + 8) {x y k : Nat} (hx : x < S.H) (hy : y < S.H) (hk : k < 6) : ∃ z, fX7_rankOn m t n (nI k) (nI x) (nI y) L = some z ∧ z.1 = (if S.st x && S.st y then rkv S (nI k) x y else 1000) ∧ Fr (· = m + 8) L z.2 := by
  have h5 := hW.H5
  have hx5 : x < 5 := by omega
  have hy5 : y < 5 := by omega
  have hst : ∀ z, z < 5 → L.1 t ((29 : Int32) + nI z).toNatClampNeg = bI (S.st z) := by
    intro z hz
    rw [l29, nQ_add, nI_cl (by omega)]; exact hR.st z hz
  have v4 : ∀ z, z < 5 → vin ((4 : Int32) + nI z) n := by
    intro z hz
    rw [l4, nQ_add]; exact vin_nI (by omega) (by omega)
  have v9 : ∀ z, z < 5 → vin ((9 : Int32) + nI z) n := by
    intro z hz
    rw [l9, nQ_add]; exact vin_nI (by omega) (by omega)
  have v29 : ∀ z, z < 5 → vin ((29 : Int32) + nI z) n := by
    intro z hz
    rw [l29, nQ_add]; exact vin_nI (by omega) (by omega)
  unfold fX7_rankOn
  rw [gd_of (v29 x hx5), hst x hx5]
  cases sx : S.st x
  · rw [if_pos (by decide)]; exact ⟨_, rfl, rfl, Fr.refl L⟩
  rw [if_neg (by decide), gd_of (v29 y hy5), hst y hy5]
  cases sy : S.st y
  · rw [if_pos (by decide)]; exact ⟨_, rfl, rfl, Fr.refl L⟩
  rw [if_neg (by decide)]
  obtain ⟨⟨d, L1⟩, e1, e2, f⟩ := hR.degreeOnF hW hn hn' htm hx hy5
  dsimp only at e2 f
  subst e2
  have hR1 : RC L1 t S := hR.frame (f.1 t htm)
  rw [e1, bd_some]
  dsimp only
  rw [hR1.livingInF hW hn hn', bd_some, hR1.livingInF hW hn hn', bd_some]
  refine ⟨(rkv S (nI k) x y, L1), ?_, rfl, f⟩
  have j215 : ∀ d r, fX7_rankOn_j215 m t n d (bI r) L1 = some (if r then 1000 else d, L1) := by
    intro d r; unfold fX7_rankOn_j215; cases r <;> rfl
  have j210 : ∀ d, fX7_rankOn_j210 m t n d L1 = some (1000, L1) := fun d => j215 d true
  have j214 : ∀ d, fX7_rankOn_j214 m t n d L1 = some (d, L1) := fun d => j215 d false
  have b6 : ∀ z, fX7_bits (nI (mask (lv S (nI z)) 6)) = some (nI (lvn S (nI z))) := fun z => by rw [bits6, lvn_ct hW]
  have j115 : ∀ o z, fX7_rankOn_j115 m t n (nI (mask (lv S (nI z)) 6)) o L1 = some (o - 2 * nI (lvn S (nI z)), L1) := by
    intro o z; unfold fX7_rankOn_j115; rw [b6, bd_some]
  have hrm : L1.1 t ((4 : Int32) + nI y).toNatClampNeg = S.rm y := by
    rw [l4, nQ_add, nI_cl (by omega)]; exact hR1.rm y hy5
  have hwo : L1.1 t ((9 : Int32) + nI y).toNatClampNeg = S.wo y := by
    rw [l9, nQ_add, nI_cl (by omega)]; exact hR1.wo y hy5
  have d1000 : ¬ dg S x y = 1000 := dg_1000
  rcases (show k = 0 ∨ k = 1 ∨ k = 2 ∨ k = 3 ∨ k = 4 ∨ k = 5 by omega) with rfl | rfl | rfl | rfl | rfl | rfl
  · rw [if_pos (by decide)]
    show _ = some (lw S x y, L1)
    unfold lw
    by_cases c : dg S x y = -1
    · rw [if_pos c, if_pos c]
    · rw [if_neg c, if_neg c]
  · rw [if_neg (by decide), if_pos (by decide)]
    show _ = some (if roomy S x y then lw S x y else 1000, L1)
    unfold lw
    by_cases c : dg S x y = -1
    · rw [if_pos c, if_pos c, j210, ite_self]
    · rw [if_neg c, if_neg c, gd_of (v4 y hy5), b6, bd_some, b6, bd_some, hrm]
      unfold roomy
      by_cases c2 : S.rm y - nI (lvn S (nI y)) < nI (lvn S (nI x))
      · rw [if_pos c2, j210, decide_eq_true c2]; rfl
      · rw [if_neg c2, if_neg (by decide), j214, decide_eq_false c2]; rfl
  · rw [if_neg (by decide), if_neg (by decide), if_pos (by decide)]
    show _ = some (if lw S x y = 1000 then 1000 else 10 * lw S x y - S.wo y / 10, L1)
    unfold lw
    by_cases c : dg S x y = -1
    · rw [if_pos c, if_pos c, if_pos rfl]
    · rw [if_neg c, if_neg c, if_neg d1000, gd_of (v9 y hy5), hwo]
  · rw [if_neg (by decide), if_neg (by decide), if_neg (by decide), if_pos (by decide)]
    show _ = some (if roomy S x y && qt S (fm S x) (fm S y) then lw S x y else 1000, L1)
    unfold lw
    by_cases c : dg S x y = -1
    · rw [if_pos c, if_pos c, j210, ite_self]
    · rw [if_neg c, if_neg c, gd_of (v4 y hy5), b6, bd_some, b6, bd_some, hrm]
      unfold roomy
      by_cases c2 : S.rm y - nI (lvn S (nI y)) < nI (lvn S (nI x))
      · rw [if_pos c2, j210, decide_eq_true c2]; rfl
      · rw [if_neg c2, if_pos (by decide), hR1.isFeudF hW hn hn', bd_some, fd_qt hW, decide_eq_false c2]
        cases qt S (fm S x) (fm S y)
        · rw [if_neg (by decide), j210]; rfl
        · rw [if_pos (by decide), j214]; rfl
  · rw [if_neg (by decide), if_neg (by decide), if_neg (by decide), if_neg (by decide), if_pos (by decide)]
    show _ = some (opn S x y, L1)
    unfold opn lw
    by_cases c : dg S x y = -1
    · rw [if_pos c, if_pos c, if_pos rfl]
    · rw [if_neg c, if_neg c, if_neg d1000]
  · rw [if_neg (by decide), if_neg (by decide), if_neg (by decide), if_neg (by decide), if_neg (by decide), if_pos (by decide)]
    show _ = some (opn S x y - 2 * nI (lvn S (nI y)), L1)
    unfold opn lw
    by_cases c : dg S x y = -1
    · rw [if_pos c, if_pos c, if_pos rfl, j115]
    · rw [if_neg c, if_neg c, if_neg d1000, j115]
end HEI
