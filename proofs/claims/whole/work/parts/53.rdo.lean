/-! ===== what a street is told: the reference's side ===== -/
theorem RC.copy3 {L L' : HL} {t t' : Nat} {S : Sv} (h : RC L t S) (e : ∀ k, k < 92 → k ≠ 3 → L'.1 t' k = L.1 t k) : RC L' t' S := by
  obtain ⟨h1, h2, h3, h4, h5, h6, h7, h8, h9, h10, h11, h12, h13, h14⟩ := h
  refine RC.of ?_ ?_ ?_ ?_ ?_ ?_ ?_ ?_ ?_ ?_ ?_ ?_ ?_ ?_
  · rw [e _ (by omega) (by omega)]; exact h1
  · rw [e _ (by omega) (by omega)]; exact h2
  · rw [e _ (by omega) (by omega)]; exact h3
  · intro h hh; rw [e _ (by omega) (by omega)]; exact h4 h hh
  · intro h hh; rw [e _ (by omega) (by omega)]; exact h5 h hh
  · intro h hh; rw [e _ (by omega) (by omega)]; exact h6 h hh
  · intro h hh; rw [e _ (by omega) (by omega)]; exact h7 h hh
  · intro h hh; rw [e _ (by omega) (by omega)]; exact h8 h hh
  · intro h hh; rw [e _ (by omega) (by omega)]; exact h9 h hh
  · intro h hh; rw [e _ (by omega) (by omega)]; exact h10 h hh
  · intro h hh h' hh'; rw [e _ (by omega) (by omega)]; exact h11 h hh h' hh'
  · intro h hh; rw [e _ (by omega) (by omega)]; exact h12 h hh
  · intro h hh; rw [e _ (by omega) (by omega)]; exact h13 h hh
  · intro h hh h' hh'; rw [e _ (by omega) (by omega)]; exact h14 h hh h' hh'
/-- refused, or told -/
def Ac (S : Sv) (r : Int32 × Sv) : Prop := (r.2 = S ∧ (r.1 = -2 ∨ r.1 = -3 ∨ r.1 = -4)) ∨ (-1 ≤ r.1.toInt ∧ WF r.2)
def DoJ (f : Option (Int32 × HL)) (L : HL) (m : Nat) (bad : Int32) (r : Int32 × Sv) : Prop := ∃ z, f = some z ∧ z.1 = (if r.1 = -2 then bad else r.1) ∧ RC z.2 (m + 1) r.2 ∧ Fr (· = m + 1) L z.2 ∧ (-1 ≤ r.1.toInt → z.2.1 (m + 1) 3 = 0) ∧ (¬ -1 ≤ r.1.toInt → z.2 = L)
section RDO
variable {L : HL} {m : Nat} {S : Sv}
theorem DoJ.bad (hR : RC L (m + 1) S) (x : Int32) : DoJ (some (x, L)) L m x (-2, S) := ⟨_, rfl, (if_pos rfl).symm, hR, Fr.refl L, fun h => absurd h (show ¬ -1 ≤ (-2 : Int32).toInt by decide), fun _ => rfl⟩
theorem DoJ.no (hR : RC L (m + 1) S) {r : Int32} (x : Int32) (hr : ¬ r = -2 ∧ ¬ -1 ≤ r.toInt) : DoJ (some (r, L)) L m x (r, S) := ⟨_, rfl, (if_neg hr.1).symm, hR, Fr.refl L, fun h => absurd h hr.2, fun _ => rfl⟩
theorem DoJ.yes {L1 : HL} {S' : Sv} {r : Int32} (x : Int32) (hr : -1 ≤ r.toInt) (h : RC L1 (m + 1) S') (f : Fr (· = m + 1) L L1) : DoJ (some (r, wI L1 (m + 1) 3 0)) L m x (r, S') := by
  refine ⟨_, rfl, (if_neg fun e => ?_).symm, h.copy3 (fun k _ hk => wQ_other hk), f.wI rfl _ _, fun _ => wQ_same _ _ _ _, fun h => absurd hr h⟩
  have e : r = -2 := e
  rw [e] at hr; exact absurd hr (by decide)
theorem c3q : (3 : Int32).toNatClampNeg = 3 := by decide
theorem c0q : (0 : Int32).toNatClampNeg = 0 := by decide
theorem c1q : (1 : Int32).toNatClampNeg = 1 := by decide
theorem b64 : (0 : Int64).toInt = 0 ∧ (1 : Int64).toInt = 1 ∧ (3 : Int64).toInt = 3 ∧ (5 : Int64).toInt = 5 ∧ (8 : Int64).toInt = 8 ∧ (9 : Int64).toInt = 9 ∧ (20 : Int64).toInt = 20 ∧ (60 : Int64).toInt = 60 ∧ (99 : Int64).toInt = 99 ∧ (127 : Int64).toInt = 127 ∧ (255 : Int64).toInt = 255 ∧ (-1 : Int64).toInt = -1 ∧ (2 : Int64).toInt = 2 ∧ (7 : Int64).toInt = 7 ∧ (999999 : Int64).toInt = 999999 := by decide
theorem dFrom_ac (hW : WF S) (a b : Int32) : Ac S (dFrom S a b) := by
  unfold dFrom
  cases c : (hasI S a && (decide (-1 ≤ b.toInt) && decide (b.toInt < a.toInt)))
  · rw [if_neg (by decide)]; exact .inl ⟨rfl, .inl rfl⟩
  · rw [if_pos rfl]
    simp only [Bool.and_eq_true, decide_eq_true_eq] at c
    obtain ⟨j, hj, rfl⟩ := hasI_of c.1
    have h5 := hW.H5
    rw [nI_cl (by omega)]
    refine .inr ⟨hW.fr j hj, WF.of hW.H5 hW.P6 hW.st hW.wa hW.ws hW.fi hW.fs hW.fm hW.fa hW.wh hW.wl hW.mk (fun h hh => ?_) hW.wo hW.rm⟩
    show -1 ≤ (upq S.fr j b h).toInt
    unfold upq
    by_cases e : h = j
    · rw [if_pos e]; exact c.2.1
    · rw [if_neg e]; exact hW.fr h hh
theorem ik_ge {k : Nat} (h : k < 1000) : -1 ≤ (nI k).toInt := by rw [nI_toI (by omega)]; omega
theorem dWill_ac (hW : WF S) (a b : Int32) : Ac S (dWill S a b) := by
  unfold dWill
  cases c : (hasI S a && inb b 0 5)
  · rw [if_neg (by decide)]; exact .inl ⟨rfl, .inl rfl⟩
  · rw [if_pos rfl]
    rw [Bool.and_eq_true] at c
    obtain ⟨j, hj, rfl⟩ := hasI_of c.1
    have h5 := hW.H5
    rw [nI_cl (by omega)]
    obtain ⟨k, hk, ek⟩ := hW.wl j hj
    refine .inr ⟨by show -1 ≤ (S.wl j).toInt; rw [ek]; exact ik_ge (by omega), WF.of hW.H5 hW.P6 hW.st hW.wa hW.ws hW.fi hW.fs hW.fm hW.fa hW.wh (fun h hh => ?_) hW.mk hW.fr hW.wo hW.rm⟩
    show ∃ k, k < 6 ∧ upq S.wl j b h = nI k
    unfold upq
    by_cases e : h = j
    · rw [if_pos e]
      have := inb_t.mp c.2
      obtain ⟨q, h1, h2⟩ := nI_of_int (v := b) (n := 6) (by omega) (by omega)
      exact ⟨q, h1, h2⟩
    · rw [if_neg e]; exact hW.wl h hh
theorem dMark_ac (hW : WF S) (a b : Int32) : Ac S (dMark S a b) := by
  unfold dMark
  cases c : (hasI S a && inb b 0 255)
  · rw [if_neg (by decide)]; exact .inl ⟨rfl, .inl rfl⟩
  · rw [if_pos rfl]
    rw [Bool.and_eq_true] at c
    obtain ⟨j, hj, rfl⟩ := hasI_of c.1
    have h5 := hW.H5
    rw [nI_cl (by omega)]
    obtain ⟨k, hk, ek⟩ := hW.mk j hj
    refine .inr ⟨by show -1 ≤ (S.mk j).toInt; rw [ek]; exact ik_ge (by omega), WF.of hW.H5 hW.P6 hW.st hW.wa hW.ws hW.fi hW.fs hW.fm hW.fa hW.wh hW.wl (fun h hh => ?_) hW.fr hW.wo hW.rm⟩
    show ∃ k, k < 256 ∧ upq S.mk j b h = nI k
    unfold upq
    by_cases e : h = j
    · rw [if_pos e]
      have := inb_t.mp c.2
      obtain ⟨q, h1, h2⟩ := nI_of_int (v := b) (n := 256) (by omega) (by omega)
      exact ⟨q, h1, h2⟩
    · rw [if_neg e]; exact hW.mk h hh
theorem dHouse_ac (hW : WF S) (a b c : Int32) : Ac S (dHouse S a b c) := by
  have h5 := hW.H5
  unfold dHouse
  cases cc : (inb a 1 9 && (inb b 0 99 && inb c 0 99))
  · rw [if_neg (by decide)]; exact .inl ⟨rfl, .inl rfl⟩
  rw [if_pos rfl]
  by_cases e5 : S.H = 5
  · rw [if_pos e5]; exact .inl ⟨rfl, .inr (.inr rfl)⟩
  rw [if_neg e5]
  refine .inr ⟨ik_ge (by omega), WF.of (show S.H + 1 ≤ 5 by omega) hW.P6 (fun h e => ?_) (fun a b e => ?_) hW.ws hW.fi hW.fs hW.fm hW.fa (fun p hp => ?_) (fun h hh => ?_) (fun h hh => ?_) (fun h hh => ?_) (fun h hh => ?_) (fun h hh => ?_)⟩
  · show h < S.H + 1
    have e : upq S.st S.H true h = true := e
    unfold upq at e
    by_cases e2 : h = S.H
    · omega
    · rw [if_neg e2] at e; have := hW.st h e; omega
  · obtain ⟨h1, h2, h3⟩ := hW.wa a b e
    exact ⟨show a < S.H + 1 by omega, show b < S.H + 1 by omega, h3⟩
  · rcases hW.wh p hp with e | ⟨h, h1, h2⟩
    · exact .inl e
    · exact .inr ⟨h, show h < S.H + 1 by omega, h2⟩
  · show ∃ k, k < 6 ∧ upq S.wl S.H 0 h = nI k
    have hh : h < S.H + 1 := hh
    unfold upq
    by_cases e : h = S.H
    · rw [if_pos e]; exact ⟨0, by omega, rfl⟩
    · rw [if_neg e]; exact hW.wl h (by omega)
  · show ∃ k, k < 256 ∧ upq S.mk S.H 0 h = nI k
    have hh : h < S.H + 1 := hh
    unfold upq
    by_cases e : h = S.H
    · rw [if_pos e]; exact ⟨0, by omega, rfl⟩
    · rw [if_neg e]; exact hW.mk h (by omega)
  · show -1 ≤ (upq S.fr S.H (-1) h).toInt
    have hh : h < S.H + 1 := hh
    unfold upq
    by_cases e : h = S.H
    · rw [if_pos e]; decide
    · rw [if_neg e]; exact hW.fr h (by omega)
  · show ∃ k, k < 100 ∧ upq S.wo S.H b h = nI k
    have hh : h < S.H + 1 := hh
    simp only [Bool.and_eq_true, inb_t] at cc
    unfold upq
    by_cases e : h = S.H
    · rw [if_pos e]; exact nI_of_int (n := 100) (by omega) (by omega)
    · rw [if_neg e]; exact hW.wo h (by omega)
  · show ∃ k, k < 10 ∧ upq S.rm S.H a h = nI k
    have hh : h < S.H + 1 := hh
    simp only [Bool.and_eq_true, inb_t] at cc
    unfold upq
    by_cases e : h = S.H
    · rw [if_pos e]; exact nI_of_int (n := 10) (by omega) (by omega)
    · rw [if_neg e]; exact hW.rm h (by omega)
theorem w2_sym {w : Nat → Nat → Bool} (h : ∀ a b, w a b = w b a) (i j x y : Nat) : w2 w i j x y = w2 w i j y x := by
  unfold w2
  have : ((x = i ∧ y = j) ∨ (x = j ∧ y = i)) = ((y = i ∧ x = j) ∨ (y = j ∧ x = i)) := propext (by constructor <;> (rintro (⟨a, b⟩ | ⟨a, b⟩); exact .inr ⟨b, a⟩; exact .inl ⟨b, a⟩))
  simp only [this, h x y]
theorem dWall_ac (hW : WF S) (a b : Int32) (w : Bool) : Ac S (dWall S a b w) := by
  have h5 := hW.H5
  unfold dWall
  cases c : (hasI S a && (hasI S b && !decide (a = b)))
  · rw [if_neg (by decide)]; exact .inl ⟨rfl, .inl rfl⟩
  rw [if_pos rfl]
  simp only [Bool.and_eq_true, Bool.not_eq_true', decide_eq_false_iff_not] at c
  obtain ⟨cv, cw, cn⟩ := c
  obtain ⟨j, hj, rfl⟩ := hasI_of cv
  obtain ⟨k, hk, rfl⟩ := hasI_of cw
  have hjk : j ≠ k := fun e => cn (by rw [e])
  rw [nI_cl (by omega), nI_cl (by omega)]
  by_cases e : S.wa j k = w
  · rw [if_pos e]; exact .inl ⟨rfl, .inr (.inl rfl)⟩
  rw [if_neg e]
  refine .inr ⟨by show -1 ≤ (1 : Int32).toInt; decide, WF.of hW.H5 hW.P6 hW.st (fun x y h => ?_) (w2_sym hW.ws j k) hW.fi hW.fs hW.fm hW.fa hW.wh hW.wl hW.mk hW.fr hW.wo hW.rm⟩
  have h : w2 S.wa j k x y = true := h
  show x < S.H ∧ y < S.H ∧ x ≠ y
  unfold w2 at h
  by_cases q : (x = j ∧ y = k) ∨ (x = k ∧ y = j)
  · omega
  · rw [if_neg q] at h; exact hW.wa x y h
theorem dFeud_ac (hW : WF S) (a b : Int32) (w : Bool) : Ac S (dFeud S a b w) := by
  unfold dFeud
  cases c : (inb a 0 3 && (inb b 0 3 && !decide (a = b)))
  · rw [if_neg (by decide)]; exact .inl ⟨rfl, .inl rfl⟩
  rw [if_pos rfl]
  simp only [Bool.and_eq_true, Bool.not_eq_true', decide_eq_false_iff_not] at c
  obtain ⟨cv, cw, cn⟩ := c
  have cv := inb_t.mp cv
  have cw := inb_t.mp cw
  obtain ⟨j, hj, rfl⟩ := nI_of_int (v := a) (n := 4) (by omega) (by omega)
  obtain ⟨k, hk, rfl⟩ := nI_of_int (v := b) (n := 4) (by omega) (by omega)
  have hjk : j ≠ k := fun e => cn (by rw [e])
  rw [nI_cl (by omega), nI_cl (by omega)]
  by_cases e : S.fe j k = w
  · rw [if_pos e]; exact .inl ⟨rfl, .inr (.inl rfl)⟩
  rw [if_neg e]
  refine .inr ⟨by show -1 ≤ (1 : Int32).toInt; decide, WF.of hW.H5 hW.P6 hW.st hW.wa hW.ws (fun x => ?_) (w2_sym hW.fs j k) (fun x y h => ?_) hW.fa hW.wh hW.wl hW.mk hW.fr hW.wo hW.rm⟩
  · show w2 S.fe j k x x = false
    unfold w2
    rw [if_neg (by omega)]; exact hW.fi x
  · have h : w2 S.fe j k x y = true := h
    unfold w2 at h
    by_cases q : (x = j ∧ y = k) ∨ (x = k ∧ y = j)
    · omega
    · rw [if_neg q] at h; exact hW.fm x y h
theorem dOne_ac (hW : WF S) (f h : Int32) : Ac S (dOne S f h) := by
  have h6 := hW.P6
  unfold dOne
  cases c : (inb f 0 3 && (decide (h = -1) || hasI S h))
  · rw [if_neg (by decide)]; exact .inl ⟨rfl, .inl rfl⟩
  rw [if_pos rfl]
  cases c2 : (decide (h = -1) || stI S h)
  · rw [if_neg (by decide)]; exact .inl ⟨rfl, .inr (.inl rfl)⟩
  rw [if_pos rfl]
  by_cases e6 : S.P = 6
  · rw [if_pos e6]; exact .inl ⟨rfl, .inr (.inr rfl)⟩
  rw [if_neg e6]
  rw [Bool.and_eq_true] at c
  have cf := inb_t.mp c.1
  refine .inr ⟨ik_ge (by omega), WF.of hW.H5 (show S.P + 1 ≤ 6 by omega) hW.st hW.wa hW.ws hW.fi hW.fs hW.fm (fun p hp => ?_) (fun p hp => ?_) hW.wl hW.mk hW.fr hW.wo hW.rm⟩
  · show ∃ q, q < 4 ∧ upq S.fa S.P f p = nI q
    have hp : p < S.P + 1 := hp
    unfold upq
    by_cases e : p = S.P
    · rw [if_pos e]
      obtain ⟨q, h1, h2⟩ := nI_of_int (v := f) (n := 4) (by omega) (by omega)
      exact ⟨q, h1, h2⟩
    · rw [if_neg e]; exact hW.fa p (by omega)
  · show upq S.wh S.P h p = -1 ∨ ∃ q, q < S.H ∧ upq S.wh S.P h p = nI q
    have hp : p < S.P + 1 := hp
    unfold upq
    by_cases e : p = S.P
    · rw [if_pos e]
      rcases Bool.or_eq_true _ _ ▸ c.2 with e1 | e1
      · exact .inl (of_decide_eq_true e1)
      · exact .inr (hasI_of e1)
    · rw [if_neg e]; exact hW.wh p (by omega)
end RDO
