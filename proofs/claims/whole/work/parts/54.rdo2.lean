section RDP
variable {L : HL} {m : Nat} {S : Sv}
theorem RC.doFromF (hR : RC L (m + 1) S) (hW : WF S) (v w : Int32) : DoJ (fX7_doFrom m v w L) L m (-10) (dFrom S v w) := by
  have h5 := hW.H5
  have hac := dFrom_ac hW v w
  unfold fX7_doFrom
  unfold dFrom at *
  rw [hR.isHouseF hW, bd_some]
  cases cv : hasI S v
  · rw [if_pos (by decide), Bool.false_and, if_neg (by decide)]; exact DoJ.bad hR _
  rw [cv] at hac
  obtain ⟨j, hj, rfl⟩ := hasI_of cv
  rw [if_neg (by decide), Bool.true_and, inF, bd_some]
  rw [Bool.true_and] at hac
  have e : (decide (-1 ≤ w.toInt) && decide (w.toInt < (nI j).toInt)) = inb w (-1 : Int64).toInt ((nI j - 1).toInt64).toInt := by
    rw [Int32.toInt_toInt64, ← iI_nat, show (1 : Int32) = iI 1 from rfl, iI_sub, iI_toInt (by omega) (by omega), iI_toInt (by omega) (by omega)]
    unfold inb
    rw [show (-1 : Int64).toInt = -1 by decide]
    congr 1
    exact decide_eq_decide.mpr (by omega)
  rw [e] at hac ⊢
  cases c : inb w (-1 : Int64).toInt ((nI j - 1).toInt64).toInt
  · rw [if_pos (by decide), if_neg (by decide)]; exact DoJ.bad hR _
  rw [c, if_pos rfl] at hac
  rw [if_neg (by decide), if_pos rfl, l19, nQ_add, gd_of (vin_nI (by omega) (by omega)), lt_eq, gd_of (vin_nI (by omega) (by omega)), lt_eq, lt_eq, nI_cl (by omega), nI_cl (by omega), c3q]
  rw [show L.1 (m + 1) (19 + j) = S.fr j from hR.fr j (by omega)]
  refine DoJ.yes _ (hW.fr j hj) (hR.w_fr (fun h hh => ?_) fun k _ hk => wQ_other (by omega)) ((Fr.refl (A := (· = m + 1)) L).wI rfl _ _)
  by_cases e : h = j
  · subst e; rw [wQ_same, upq_s]
  · rw [wQ_other (by omega), upq_o e]; exact hR.fr h hh
theorem RC.doWillF (hR : RC L (m + 1) S) (hW : WF S) (v w : Int32) : DoJ (fX7_doWill m v w L) L m (-2) (dWill S v w) := by
  have h5 := hW.H5
  unfold fX7_doWill dWill
  rw [hR.isHouseF hW, bd_some]
  cases cv : hasI S v
  · rw [if_pos (by decide), Bool.false_and, if_neg (by decide)]; exact DoJ.bad hR _
  obtain ⟨j, hj, rfl⟩ := hasI_of cv
  rw [if_neg (by decide), Bool.true_and, inF, bd_some, show (0 : Int64).toInt = 0 by decide, show (5 : Int64).toInt = 5 by decide]
  cases c : inb w 0 5
  · rw [if_pos (by decide), if_neg (by decide)]; exact DoJ.bad hR _
  rw [if_neg (by decide), if_pos rfl, l24, nQ_add, gd_of (vin_nI (by omega) (by omega)), lt_eq, gd_of (vin_nI (by omega) (by omega)), lt_eq, lt_eq, nI_cl (by omega), nI_cl (by omega), c3q]
  rw [show L.1 (m + 1) (24 + j) = S.wl j from hR.wl j (by omega)]
  obtain ⟨k, hk, ek⟩ := hW.wl j hj
  refine DoJ.yes _ (by rw [ek]; exact ik_ge (by omega)) (hR.w_wl (fun h hh => ?_) fun k _ hk => wQ_other (by omega)) ((Fr.refl (A := (· = m + 1)) L).wI rfl _ _)
  by_cases e : h = j
  · subst e; rw [wQ_same, upq_s]
  · rw [wQ_other (by omega), upq_o e]; exact hR.wl h hh
theorem RC.doHouseF (hR : RC L (m + 1) S) (hW : WF S) (v w x : Int32) : DoJ (fX7_doHouse m v w x L) L m (-2) (dHouse S v w x) := by
  have h5 := hW.H5
  unfold fX7_doHouse dHouse
  simp only [inF, bd_some, show (1 : Int64).toInt = 1 by decide, show (9 : Int64).toInt = 9 by decide, show (0 : Int64).toInt = 0 by decide, show (99 : Int64).toInt = 99 by decide]
  cases c1 : inb v 1 9
  · rw [if_pos (by decide), Bool.false_and, if_neg (by decide)]; exact DoJ.bad hR _
  rw [if_neg (by decide), Bool.true_and]
  cases c2 : inb w 0 99
  · rw [if_pos (by decide), Bool.false_and, if_neg (by decide)]; exact DoJ.bad hR _
  rw [if_neg (by decide), Bool.true_and]
  cases c3 : inb x 0 99
  · rw [if_pos (by decide), if_neg (by decide)]; exact DoJ.bad hR _
  rw [if_neg (by decide), if_pos rfl, c0q, hR.H]
  by_cases c5 : S.H = 5
  · rw [lt_eq, if_pos (by rw [c5]; rfl), if_pos c5]; exact DoJ.no hR _ (by decide)
  have hH : S.H < 5 := by omega
  rw [lt_eq, if_neg (by rw [l5, nQ_eq (by omega) (by omega)]; exact c5), if_neg c5, l4, l9, l14, l19, l24, l29, l34]
  simp only [nQ_add, gd_of (vin_nI (show 4 + S.H < 228 by omega) (by omega)), gd_of (vin_nI (show 9 + S.H < 228 by omega) (by omega)), gd_of (vin_nI (show 14 + S.H < 228 by omega) (by omega)), gd_of (vin_nI (show 19 + S.H < 228 by omega) (by omega)), gd_of (vin_nI (show 24 + S.H < 228 by omega) (by omega)), gd_of (vin_nI (show 29 + S.H < 228 by omega) (by omega)), gd_of (vin_nI (show 34 + S.H < 228 by omega) (by omega)), nI_cl (show 4 + S.H < 2147483648 by omega), nI_cl (show 9 + S.H < 2147483648 by omega), nI_cl (show 14 + S.H < 2147483648 by omega), nI_cl (show 19 + S.H < 2147483648 by omega), nI_cl (show 24 + S.H < 2147483648 by omega), nI_cl (show 29 + S.H < 2147483648 by omega), nI_cl (show 34 + S.H < 2147483648 by omega), lt_eq, c3q]
  refine DoJ.yes _ (ik_ge (by omega)) ?_ ((((((((((Fr.refl (A := (· = m + 1)) L).wI rfl _ _).wI rfl _ _).wI rfl _ _).wI rfl _ _).wI rfl _ _).wI rfl _ _).wI rfl _ _)).wI rfl _ _)
  have v0 : ∀ (L1 : HL) (i : Nat) (y : Int32), i ≠ 0 → (wI L1 (m + 1) i y).1 (m + 1) 0 = L1.1 (m + 1) 0 := fun L1 i y h => wQ_other (Ne.symm h)
  have e0 : (wI (wI (wI (wI (wI (wI (wI L (m + 1) (4 + S.H) v) (m + 1) (9 + S.H) w) (m + 1) (14 + S.H) x) (m + 1) (19 + S.H) (-1)) (m + 1) (24 + S.H) (0 : Int32)) (m + 1) (29 + S.H) (1 : Int32)) (m + 1) (34 + S.H) (0 : Int32)).1 (m + 1) 0 = nI S.H := by
    rw [v0 _ _ _ (by omega), v0 _ _ _ (by omega), v0 _ _ _ (by omega), v0 _ _ _ (by omega), v0 _ _ _ (by omega), v0 _ _ _ (by omega), v0 _ _ _ (by omega)]; exact hR.H
  have at_ : ∀ k, (wI (wI (wI (wI (wI (wI (wI (wI L (m + 1) (4 + S.H) v) (m + 1) (9 + S.H) w) (m + 1) (14 + S.H) x) (m + 1) (19 + S.H) (-1)) (m + 1) (24 + S.H) (0 : Int32)) (m + 1) (29 + S.H) (1 : Int32)) (m + 1) (34 + S.H) (0 : Int32)) (m + 1) 0 (nI S.H + 1)).1 (m + 1) k = if k = 0 then nI (S.H + 1) else if k = 34 + S.H then 0 else if k = 29 + S.H then 1 else if k = 24 + S.H then 0 else if k = 19 + S.H then -1 else if k = 14 + S.H then x else if k = 9 + S.H then w else if k = 4 + S.H then v else L.1 (m + 1) k := by
    intro k
    simp only [wQ_at, if_true, nQ_s]
  rw [e0]
  generalize wI (wI (wI (wI (wI (wI (wI (wI L (m + 1) (4 + S.H) v) (m + 1) (9 + S.H) w) (m + 1) (14 + S.H) x) (m + 1) (19 + S.H) (-1)) (m + 1) (24 + S.H) (0 : Int32)) (m + 1) (29 + S.H) (1 : Int32)) (m + 1) (34 + S.H) (0 : Int32)) (m + 1) 0 (nI S.H + 1) = L9 at *
  have un : ∀ k, ¬ (k = 0 ∨ k = 34 + S.H ∨ k = 29 + S.H ∨ k = 24 + S.H ∨ k = 19 + S.H ∨ k = 14 + S.H ∨ k = 9 + S.H ∨ k = 4 + S.H) → L9.1 (m + 1) k = L.1 (m + 1) k := by
    intro k hk
    rw [at_, if_neg (by omega), if_neg (by omega), if_neg (by omega), if_neg (by omega), if_neg (by omega), if_neg (by omega), if_neg (by omega), if_neg (by omega)]
  refine RC.of ?_ ?_ ?_ ?_ ?_ ?_ ?_ ?_ ?_ ?_ ?_ ?_ ?_ ?_
  · rw [at_, if_pos rfl]; rfl
  · rw [un _ (by omega)]; exact hR.P
  · rw [un _ (by omega)]; exact hR.yr
  · intro h hh
    show _ = upq S.rm S.H v h
    unfold upq
    by_cases e : h = S.H
    · subst e; rw [at_, if_neg (by omega), if_neg (by omega), if_neg (by omega), if_neg (by omega), if_neg (by omega), if_neg (by omega), if_neg (by omega), if_pos rfl, if_pos rfl]
    · rw [un _ (by omega), if_neg e]; exact hR.rm h hh
  · intro h hh
    show _ = upq S.wo S.H w h
    unfold upq
    by_cases e : h = S.H
    · subst e; rw [at_, if_neg (by omega), if_neg (by omega), if_neg (by omega), if_neg (by omega), if_neg (by omega), if_neg (by omega), if_pos rfl, if_pos rfl]
    · rw [un _ (by omega), if_neg e]; exact hR.wo h hh
  · intro h hh
    show _ = upq S.be S.H x h
    unfold upq
    by_cases e : h = S.H
    · subst e; rw [at_, if_neg (by omega), if_neg (by omega), if_neg (by omega), if_neg (by omega), if_neg (by omega), if_pos rfl, if_pos rfl]
    · rw [un _ (by omega), if_neg e]; exact hR.be h hh
  · intro h hh
    show _ = upq S.fr S.H (-1) h
    unfold upq
    by_cases e : h = S.H
    · subst e; rw [at_, if_neg (by omega), if_neg (by omega), if_neg (by omega), if_neg (by omega), if_pos rfl, if_pos rfl]
    · rw [un _ (by omega), if_neg e]; exact hR.fr h hh
  · intro h hh
    show _ = upq S.wl S.H 0 h
    unfold upq
    by_cases e : h = S.H
    · subst e; rw [at_, if_neg (by omega), if_neg (by omega), if_neg (by omega), if_pos rfl, if_pos rfl]
    · rw [un _ (by omega), if_neg e]; exact hR.wl h hh
  · intro h hh
    show _ = bI (upq S.st S.H true h)
    unfold upq
    by_cases e : h = S.H
    · subst e; rw [at_, if_neg (by omega), if_neg (by omega), if_pos rfl, if_pos rfl]; rfl
    · rw [un _ (by omega), if_neg e]; exact hR.st h hh
  · intro h hh
    show _ = upq S.mk S.H 0 h
    unfold upq
    by_cases e : h = S.H
    · subst e; rw [at_, if_neg (by omega), if_pos rfl, if_pos rfl]
    · rw [un _ (by omega), if_neg e]; exact hR.mk h hh
  · intro a ha b hb; rw [un _ (by omega)]; exact hR.wa a ha b hb
  · intro p hp; rw [un _ (by omega)]; exact hR.fa p hp
  · intro p hp; rw [un _ (by omega)]; exact hR.wh p hp
  · intro a ha b hb; rw [un _ (by omega)]; exact hR.fe a ha b hb
end RDP
