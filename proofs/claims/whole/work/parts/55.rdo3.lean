section RDQ
variable {L : HL} {m : Nat} {S : Sv}
theorem bI_ne {a b : Bool} (h : ¬ a = b) : bI b = bI (!a) := by cases a <;> cases b <;> first | rfl | exact absurd rfl h
theorem RC.doWallF (hR : RC L (m + 1) S) (hW : WF S) (v w : Int32) (is : Bool) : DoJ (fX7_doWall m v w (bI is) L) L m (-2) (dWall S v w is) := by
  have h5 := hW.H5
  unfold fX7_doWall dWall
  rw [hR.isHouseF hW, bd_some]
  cases cv : hasI S v
  · rw [if_pos (by decide), Bool.false_and, if_neg (by decide)]; exact DoJ.bad hR _
  rw [if_neg (by decide), Bool.true_and, hR.isHouseF hW, bd_some]
  cases cw : hasI S w
  · rw [if_pos (by decide), Bool.false_and, if_neg (by decide)]; exact DoJ.bad hR _
  rw [if_neg (by decide), Bool.true_and]
  by_cases cn : v = w
  · rw [if_pos cn, decide_eq_true cn, if_neg (by decide)]; exact DoJ.bad hR _
  rw [if_neg cn, decide_eq_false cn, if_pos (show (!false) = true from rfl)]
  obtain ⟨j, hj, rfl⟩ := hasI_of cv
  obtain ⟨k, hk, rfl⟩ := hasI_of cw
  have hjk : j ≠ k := fun e => cn (by rw [e])
  have a1 : ((39 : Int32) + (5 : Int32) * nI j) + nI k = nI (39 + 5 * j + k) := by rw [l39, l5, nQ_mul, nQ_add, nQ_add]
  have a2 : ((39 : Int32) + (5 : Int32) * nI k) + nI j = nI (39 + 5 * k + j) := by rw [l39, l5, nQ_mul, nQ_add, nQ_add]
  have fin : ¬ S.wa j k = is → DoJ (some (1, wI (wI (wI L (m + 1) (39 + 5 * j + k) (bI is)) (m + 1) (39 + 5 * k + j) (bI is)) (m + 1) 3 0)) L m (-2) (1, S.set_wa (w2 S.wa j k)) := by
    intro c
    refine DoJ.yes _ (by decide) (hR.w_wa (fun x hx y hy => ?_) fun q _ hq => by rw [wQ_other (by omega), wQ_other (by omega)]) (((Fr.refl (A := (· = m + 1)) L).wI rfl _ _).wI rfl _ _)
    rw [bI_ne c]
    unfold w2
    by_cases e : (x = j ∧ y = k) ∨ (x = k ∧ y = j)
    · rw [if_pos e]
      rcases e with ⟨rfl, rfl⟩ | ⟨rfl, rfl⟩
      · rw [wQ_other (by omega), wQ_same]
      · rw [wQ_same]
    · rw [if_neg e, wQ_other (by omega), wQ_other (by omega)]; exact hR.wa x hx y hy
  have j96 : ∀ L1 d, fX7_doWall_j96 m (nI (39 + 5 * k + j)) d L1 = some (1, wI (wI L1 (m + 1) (39 + 5 * k + j) d) (m + 1) 3 0) := by
    intro L1 d
    unfold fX7_doWall_j96
    rw [gd_of (vin_nI (by omega) (by omega)), nI_cl (by omega), c3q]; rfl
  have j46 : DoJ (fX7_doWall_j46 m (nI j) (nI k) (bI is) (bI (S.wa j k)) L) L m (-2) (if S.wa j k = is then (-3, S) else (1, S.set_wa (w2 S.wa j k))) := by
    unfold fX7_doWall_j46 fX7_doWall_j74
    simp only [bI_eq]
    by_cases c : S.wa j k = is
    · rw [if_pos c, if_pos c]; exact DoJ.no hR _ (by decide)
    rw [if_neg c, if_neg c, a1, gd_of (vin_nI (by omega) (by omega)), gd_of (vin_nI (by omega) (by omega)), nI_cl (by omega), a2]
    simp only [lt_eq, j96]
    have := fin c
    cases is
    · rw [if_pos (by decide), if_pos (by decide)]; exact this
    · rw [if_neg (by decide), if_neg (by decide)]; exact this
  rw [a1, gd_of (vin_nI (by omega) (by omega))]
  have rd : L.1 (m + 1) (nI (39 + 5 * j + k)).toNatClampNeg = bI (S.wa j k) := by rw [nI_cl (by omega)]; exact hR.wa j (by omega) k (by omega)
  rw [rd, nI_cl (by omega), nI_cl (by omega)]
  cases c : S.wa j k
  · rw [if_neg (by decide)]; rw [c] at j46; exact j46
  · rw [if_pos (by decide)]; rw [c] at j46; exact j46
theorem RC.doFeudF (hR : RC L (m + 1) S) (hW : WF S) (v w : Int32) (is : Bool) : DoJ (fX7_doFeud m v w (bI is) L) L m (-2) (dFeud S v w is) := by
  unfold fX7_doFeud dFeud
  rw [isFamilyF, bd_some]
  cases cv : inb v 0 3
  · rw [if_pos (by decide), Bool.false_and, if_neg (by decide)]; exact DoJ.bad hR _
  rw [if_neg (by decide), Bool.true_and, isFamilyF, bd_some]
  cases cw : inb w 0 3
  · rw [if_pos (by decide), Bool.false_and, if_neg (by decide)]; exact DoJ.bad hR _
  rw [if_neg (by decide), Bool.true_and]
  by_cases cn : v = w
  · rw [if_pos cn, decide_eq_true cn, if_neg (by decide)]; exact DoJ.bad hR _
  rw [if_neg cn, decide_eq_false cn, if_pos (show (!false) = true from rfl)]
  have cv := inb_t.mp cv
  have cw := inb_t.mp cw
  obtain ⟨j, hj, rfl⟩ := nI_of_int (v := v) (n := 4) (by omega) (by omega)
  obtain ⟨k, hk, rfl⟩ := nI_of_int (v := w) (n := 4) (by omega) (by omega)
  have hjk : j ≠ k := fun e => cn (by rw [e])
  have a1 : ((76 : Int32) + (4 : Int32) * nI j) + nI k = nI (76 + 4 * j + k) := by rw [l76, l4, nQ_mul, nQ_add, nQ_add]
  have a2 : ((76 : Int32) + (4 : Int32) * nI k) + nI j = nI (76 + 4 * k + j) := by rw [l76, l4, nQ_mul, nQ_add, nQ_add]
  have fin : ¬ S.fe j k = is → DoJ (some (1, wI (wI (wI L (m + 1) (76 + 4 * j + k) (bI is)) (m + 1) (76 + 4 * k + j) (bI is)) (m + 1) 3 0)) L m (-2) (1, S.set_fe (w2 S.fe j k)) := by
    intro c
    refine DoJ.yes _ (by decide) (hR.w_fe (fun x hx y hy => ?_) fun q _ hq => by rw [wQ_other (by omega), wQ_other (by omega)]) (((Fr.refl (A := (· = m + 1)) L).wI rfl _ _).wI rfl _ _)
    rw [bI_ne c]
    unfold w2
    by_cases e : (x = j ∧ y = k) ∨ (x = k ∧ y = j)
    · rw [if_pos e]
      rcases e with ⟨rfl, rfl⟩ | ⟨rfl, rfl⟩
      · rw [wQ_other (by omega), wQ_same]
      · rw [wQ_same]
    · rw [if_neg e, wQ_other (by omega), wQ_other (by omega)]; exact hR.fe x hx y hy
  have j96 : ∀ L1 d, fX7_doFeud_j94 m (nI (76 + 4 * k + j)) d L1 = some (1, wI (wI L1 (m + 1) (76 + 4 * k + j) d) (m + 1) 3 0) := by
    intro L1 d
    unfold fX7_doFeud_j94
    rw [gd_of (vin_nI (by omega) (by omega)), nI_cl (by omega), c3q]; rfl
  have j46 : DoJ (fX7_doFeud_j44 m (nI j) (nI k) (bI is) (bI (S.fe j k)) L) L m (-2) (if S.fe j k = is then (-3, S) else (1, S.set_fe (w2 S.fe j k))) := by
    unfold fX7_doFeud_j44 fX7_doFeud_j72
    simp only [bI_eq]
    by_cases c : S.fe j k = is
    · rw [if_pos c, if_pos c]; exact DoJ.no hR _ (by decide)
    rw [if_neg c, if_neg c, a1, gd_of (vin_nI (by omega) (by omega)), gd_of (vin_nI (by omega) (by omega)), nI_cl (by omega), a2]
    simp only [lt_eq, j96]
    have := fin c
    cases is
    · rw [if_pos (by decide), if_pos (by decide)]; exact this
    · rw [if_neg (by decide), if_neg (by decide)]; exact this
  rw [a1, gd_of (vin_nI (by omega) (by omega))]
  have rd : L.1 (m + 1) (nI (76 + 4 * j + k)).toNatClampNeg = bI (S.fe j k) := by rw [nI_cl (by omega)]; exact hR.fe j (by omega) k (by omega)
  rw [rd, nI_cl (by omega), nI_cl (by omega)]
  cases c : S.fe j k
  · rw [if_neg (by decide)]; rw [c] at j46; exact j46
  · rw [if_pos (by decide)]; rw [c] at j46; exact j46
theorem RC.doOneF (hR : RC L (m + 1) S) (hW : WF S) (v w : Int32) : DoJ (fX7_doOne m v w L) L m (-2) (dOne S v w) := by
  have h5 := hW.H5
  have h6 := hW.P6
  have j43 : DoJ (fX7_doOne_j43 m v w L) L m (-2) (if S.P = 6 then (-4, S) else (nI S.P, newP S v w)) := by
    unfold fX7_doOne_j43
    rw [c1q, hR.P, lt_eq]
    by_cases c : S.P = 6
    · rw [if_pos (by rw [c]; rfl), if_pos c]; exact DoJ.no hR _ (by decide)
    rw [if_neg (by rw [l6, nQ_eq (by omega) (by omega)]; exact c), if_neg c, l64, l70, nQ_add, nQ_add, gd_of (vin_nI (by omega) (by omega)), lt_eq, gd_of (vin_nI (by omega) (by omega)), lt_eq, lt_eq, lt_eq, nI_cl (by omega), nI_cl (by omega), c3q]
    refine DoJ.yes _ (ik_ge (by omega)) ?_ ((((Fr.refl (A := (· = m + 1)) L).wI rfl _ _).wI rfl _ _).wI rfl _ _)
    rw [wQ_other (j := 1) (by omega), wQ_other (j := 1) (by omega), hR.P, nQ_s]
    refine RC.of ?_ ?_ ?_ ?_ ?_ ?_ ?_ ?_ ?_ ?_ ?_ ?_ ?_ ?_
    · rw [wQ_other (by omega), wQ_other (by omega), wQ_other (by omega)]; exact hR.H
    · rw [wQ_same]; rfl
    · rw [wQ_other (by omega), wQ_other (by omega), wQ_other (by omega)]; exact hR.yr
    · intro h hh; rw [wQ_other (by omega), wQ_other (by omega), wQ_other (by omega)]; exact hR.rm h hh
    · intro h hh; rw [wQ_other (by omega), wQ_other (by omega), wQ_other (by omega)]; exact hR.wo h hh
    · intro h hh; rw [wQ_other (by omega), wQ_other (by omega), wQ_other (by omega)]; exact hR.be h hh
    · intro h hh; rw [wQ_other (by omega), wQ_other (by omega), wQ_other (by omega)]; exact hR.fr h hh
    · intro h hh; rw [wQ_other (by omega), wQ_other (by omega), wQ_other (by omega)]; exact hR.wl h hh
    · intro h hh; rw [wQ_other (by omega), wQ_other (by omega), wQ_other (by omega)]; exact hR.st h hh
    · intro h hh; rw [wQ_other (by omega), wQ_other (by omega), wQ_other (by omega)]; exact hR.mk h hh
    · intro a ha b hb; rw [wQ_other (by omega), wQ_other (by omega), wQ_other (by omega)]; exact hR.wa a ha b hb
    · intro p hp
      show _ = upq S.fa S.P v p
      unfold upq
      by_cases e : p = S.P
      · subst e; rw [if_pos rfl, wQ_other (by omega), wQ_other (by omega), wQ_same]
      · rw [if_neg e, wQ_other (by omega), wQ_other (by omega), wQ_other (by omega)]; exact hR.fa p hp
    · intro p hp
      show _ = upq S.wh S.P w p
      unfold upq
      by_cases e : p = S.P
      · subst e; rw [if_pos rfl, wQ_other (by omega), wQ_same]
      · rw [if_neg e, wQ_other (by omega), wQ_other (by omega), wQ_other (by omega)]; exact hR.wh p hp
    · intro a ha b hb; rw [wQ_other (by omega), wQ_other (by omega), wQ_other (by omega)]; exact hR.fe a ha b hb
  have j23 : decide (w = -1) || hasI S w → DoJ (fX7_doOne_j23 m v w L) L m (-2) (if decide (w = -1) || stI S w then (if S.P = 6 then (-4, S) else (nI S.P, newP S v w)) else (-3, S)) := by
    intro hw
    unfold fX7_doOne_j23
    by_cases c : w = -1
    · rw [if_pos c, decide_eq_true c, Bool.true_or, if_pos rfl]; exact j43
    · rw [decide_eq_false c, Bool.false_or] at hw
      obtain ⟨k, hk, rfl⟩ := hasI_of hw
      rw [if_neg c, decide_eq_false c, Bool.false_or, l29, nQ_add, gd_of (vin_nI (by omega) (by omega)), stI_n S (by omega)]
      have rd : L.1 (m + 1) (nI (29 + k)).toNatClampNeg = bI (S.st k) := by rw [nI_cl (by omega)]; exact hR.st k (by omega)
      rw [rd]
      cases S.st k
      · rw [if_pos (by decide), if_neg (by decide)]; exact DoJ.no hR _ (by decide)
      · rw [if_neg (by decide), if_pos rfl]; exact j43
  unfold fX7_doOne dOne
  rw [isFamilyF, bd_some]
  cases cv : inb v 0 3
  · rw [if_pos (by decide), Bool.false_and, if_neg (by decide)]; exact DoJ.bad hR _
  rw [if_neg (by decide), Bool.true_and]
  by_cases c : w = -1
  · rw [if_pos c]
    have := j23 (by rw [decide_eq_true c]; rfl)
    rw [decide_eq_true c] at this ⊢
    exact this
  · rw [if_neg c, hR.isHouseF hW, bd_some]
    cases ch : hasI S w
    · rw [if_pos (by decide), decide_eq_false c, if_neg (by decide)]; exact DoJ.bad hR _
    · rw [if_neg (by decide), Bool.or_true, if_pos rfl]
      exact j23 (by rw [ch, Bool.or_true])
theorem cleanF (L : HL) (m : Nat) : ∃ L', fX7_clean m L = some L' ∧ RC L' (m + 1) zS ∧ L'.1 (m + 1) 3 = 0 ∧ Fr (· = m + 1) L L' := by
  unfold fX7_clean
  refine lx_inv 228 (fun i s => ∃ L2, s = (nI i, L2) ∧ Fr (· = m + 1) L L2 ∧ ∀ k, k < i → L2.1 (m + 1) k = 0) (by decide) ⟨L, rfl, Fr.refl L, fun h hh => by omega⟩ ?_ ?_ ?_
  · rintro i _ hi ⟨L2, rfl, f, q⟩
    unfold fX7_clean_b2
    dsimp only
    rw [if_neg (by rw [l228, nQ_le (by omega) (by omega)]; omega), gd_of (vin_nI hi (by omega)), nI_cl (by omega)]
    simp only [lt_eq, nQ_s]
    refine ⟨_, rfl, _, rfl, f.wI rfl _ _, fun h hh => ?_⟩
    by_cases e : h = i
    · subst e; exact wQ_same _ _ _ _
    · rw [wQ_other e]; exact q h (by omega)
  · rintro _ ⟨L2, rfl, -⟩; rfl
  · rintro _ ⟨L2, rfl, f, q⟩
    exact ⟨_, rfl, RC.of (q _ (by omega)) (q _ (by omega)) (q _ (by omega)) (fun h hh => q _ (by omega)) (fun h hh => q _ (by omega)) (fun h hh => q _ (by omega)) (fun h hh => q _ (by omega)) (fun h hh => q _ (by omega)) (fun h hh => q _ (by omega)) (fun h hh => q _ (by omega)) (fun a ha b hb => q _ (by omega)) (fun h hh => q _ (by omega)) (fun h hh => q _ (by omega)) (fun a ha b hb => q _ (by omega)), q _ (by omega), f⟩
end RDQ
