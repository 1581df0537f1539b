/-! ===== questions that change nothing ===== -/
theorem bd_eta {α β : Type} (x : Option (α × β)) : (bd x fun z => some (z.1, z.2)) = x := by cases x <;> rfl
section ASK
variable {L : HL} {B m : Nat} {G : Gv}
theorem KI.scrF (h : KI L B G) {A : Nat → Prop} {L' : HL} (f : Fr A L L') (hA : ∀ a, A a → scr B a) : KI L' B G ∧ FrK B L L' := by
  have n : ∀ a, scr B a → (B ≤ a ∧ a < B + 178) ∧ a ≠ B + 122 := fun a h => by unfold scr at h; omega
  refine ⟨h.frame (fun a _ _ _ hs => f.1 a (fun g => hs (hA a g))) (by rw [f.1 _ (fun g => (n _ (hA _ g)).2 rfl)]) (by rw [f.2]), f.K (fun a g => (n a (hA a g)).1)⟩
theorem JI.scrF (h : JI L m G) {A : Nat → Prop} {L' : HL} (f : Fr A L L') (hA : ∀ a, A a → m + 6 ≤ a ∧ a < m + 12) : JI L' m G ∧ FrJ m L L' :=
  ⟨h.frame (fun a ha => f.1 a (fun g => by have := hA a g; omega)) (by rw [f.1 m (fun g => by have := hA m g; omega)]) (by rw [f.2]), f.J (fun a g => by have := hA a g; omega)⟩
theorem scr_SA {B a : Nat} (h : SA (B + 1) a) : scr B a := by unfold SA at h; unfold scr; omega
theorem FrK.refl (B : Nat) (L : HL) : FrK B L L := ⟨fun _ _ => rfl, fun _ _ => rfl⟩
theorem FrJ.refl (m : Nat) (L : HL) : FrJ m L L := ⟨fun _ _ => rfl, fun _ _ => rfl⟩
end ASK
theorem ag_mark (B : Nat) (a b : Int32) : Agree B (fX6_mark B a b) (fX7_mark (B + 178) a b) := fun G hW => by
  have ac := dMark_ac hW.Q.W a b
  refine ⟨_, _, fun L h => toldK h (h.Q.S.setMarksF hW.Q.W a b) ac, fun L h => ?_, toldG_w hW ac⟩
  have h5 := hW.Q.W.H5
  have hR := h.Q.S
  unfold fX7_mark
  unfold toldR toldG at *
  unfold dMark at *
  have hbad : ∃ z, fX7_mark_j20 (B + 178) L = some z ∧ z.1 = -2 ∧ JI z.2 (B + 178) (badG G) ∧ FrJ (B + 178) L z.2 := by
    unfold fX7_mark_j20; rw [bd_eta]; exact badJ (-2) L h
  rw [hR.isHouseF hW.Q.W, bd_some]
  cases cv : hasI G.S a
  · rw [if_pos (by decide)]; simp only [Bool.false_and, Bool.false_eq_true, if_false, if_true]; exact hbad
  rw [if_neg (by decide), inF, bd_some, show (0 : Int64).toInt = 0 by decide, show (255 : Int64).toInt = 255 by decide, Bool.true_and]
  cases c : inb b 0 255
  · rw [if_pos (by decide)]; simp only [Bool.false_eq_true, if_false, if_true]; exact hbad
  obtain ⟨j, hj, rfl⟩ := hasI_of cv
  rw [cv, c] at ac
  rw [if_neg (by decide), if_pos (show true = true from rfl), l34, nQ_add, gd_of (vin_nI (by omega) (by omega)), lt_eq, gd_of (vin_nI (by omega) (by omega)), lt_eq, lt_eq, nI_cl (by omega), nI_cl (by omega), c3q]
  obtain ⟨k, hk, ek⟩ := hW.Q.W.mk j hj
  have n : ∀ q : Int32, q.toInt < -1 → ¬ G.S.mk j = q := fun q hq e => by rw [ek] at e; rw [← e, nI_toI (by omega)] at hq; omega
  rw [if_neg (n _ (by decide)), if_neg (n _ (by decide)), if_neg (n _ (by decide)), if_neg (n _ (by decide))]
  refine ⟨_, rfl, hR.mk j (by omega), ?_, (((Fr.refl (A := (· = B + 178 + 1)) L).wI rfl _ _).wI rfl _ _).J (fun a e => by omega)⟩
  refine h.street (S' := G.S.set_mk (upq G.S.mk j b)) ?_ (((Fr.refl (A := (· = B + 178 + 1)) L).wI rfl _ _).wI rfl _ _) (wQ_same _ _ _ _)
  refine (hR.w_mk (L' := wI L (B + 178 + 1) (34 + j) b) (fun h hh => ?_) fun k _ hk => wQ_other (by omega)).copy3 (fun k _ hk => wQ_other hk)
  by_cases e : h = j
  · subst e; rw [wQ_same, upq_s]
  · rw [wQ_other (by omega), upq_o e]; exact hR.mk h hh
theorem ag_degree (B : Nat) (a b : Int32) : Agree B (fX6_degree B a b) (fX7_degree (B + 178) a b) := fun G hW => by
  have h5 := hW.Q.W.H5
  by_cases c : hasI G.S a = true ∧ hasI G.S b = true
  · obtain ⟨ca, cb⟩ := c
    refine ⟨dg G.S a.toNatClampNeg b.toNatClampNeg, G, fun L h => ?_, fun L h => ?_, hW⟩
    · unfold fX6_degree fX4_degreeOf
      have hS := h.Q.S
      simp only [hS.hasF hW.Q.W, bd_some, ca, cb]
      rw [if_neg (by decide), if_neg (by decide), if_neg (by decide), if_neg (by decide), bd_eta]
      obtain ⟨j, hj, rfl⟩ := hasI_of ca
      obtain ⟨k, hk, rfl⟩ := hasI_of cb
      obtain ⟨L1, e1, f, q⟩ := hS.measureStepsF hW.Q.W hj
      rw [e1, bd_some, gd_of (vin_nI (by omega) (by omega)), nI_cl (by omega), nI_cl (by omega)]
      exact ⟨_, rfl, q k (by omega), h.scrF f (fun a e => by unfold scr; omega)⟩
    · unfold fX7_degree
      have hR := h.Q.S
      simp only [hR.isHouseF hW.Q.W, bd_some, ca, cb]
      rw [if_neg (by decide), if_neg (by decide), bd_eta]
      obtain ⟨j, hj, rfl⟩ := hasI_of ca
      obtain ⟨k, hk, rfl⟩ := hasI_of cb
      obtain ⟨z, e1, e2, f⟩ := hR.degreeOnF (m := B + 178) (n := 228) hW.Q.W (by omega) (by omega) (by omega) hj (b := k) (by omega)
      rw [nI_cl (by omega), nI_cl (by omega)]
      exact ⟨z, e1, e2, h.scrF f (fun a e => by omega)⟩
  · refine ⟨-2, badG G, fun L h => ?_, fun L h => ?_, badG_w hW⟩
    · unfold fX6_degree fX6_degree_j22
      have hS := h.Q.S
      simp only [hS.hasF hW.Q.W, bd_some, bd_eta]
      obtain ⟨z, q⟩ := refK_bad (B := B) (-2) L h
      refine ⟨z, ?_, q.2⟩
      cases ca : hasI G.S a
      · rw [if_pos (by decide)]; exact q.1
      · cases cb : hasI G.S b
        · rw [if_neg (by decide), if_pos (by decide)]; exact q.1
        · exact absurd ⟨ca, cb⟩ c
    · unfold fX7_degree fX7_degree_j29
      have hR := h.Q.S
      simp only [hR.isHouseF hW.Q.W, bd_some, bd_eta]
      obtain ⟨z, q⟩ := badJ (m := B + 178) (-2) L h
      refine ⟨z, ?_, q.2⟩
      cases ca : hasI G.S a
      · rw [if_pos (by decide)]; exact q.1
      · cases cb : hasI G.S b
        · rw [if_neg (by decide), if_pos (by decide)]; exact q.1
        · exact absurd ⟨ca, cb⟩ c
theorem ag_heir (B : Nat) (a : Int32) : Agree B (fX6_heir B a) (fX7_heir (B + 178) a) := fun G hW => by
  have h5 := hW.Q.W.H5
  cases ca : hasI G.S a
  · refine ⟨-10, badG G, fun L h => ?_, fun L h => ?_, badG_w hW⟩
    · unfold fX6_heir
      rw [h.Q.S.hasF hW.Q.W, bd_some, ca, if_pos (by decide), bd_eta]; exact refK_bad (-10) L h
    · unfold fX7_heir
      rw [h.Q.S.isHouseF hW.Q.W, bd_some, ca, if_pos (by decide), bd_eta]; exact badJ (-10) L h
  · refine ⟨hr G.S (G.S.wl a.toNatClampNeg) a.toNatClampNeg, G, fun L h => ?_, fun L h => ?_, hW⟩
    · unfold fX6_heir fX4_heirOf
      have hS := h.Q.S
      simp only [hS.hasF hW.Q.W, bd_some, ca]
      rw [if_neg (by decide), if_neg (by decide), bd_eta, bd_eta]
      obtain ⟨j, hj, rfl⟩ := hasI_of ca
      rw [gd_of (vin_nI (by omega) (by omega)), nI_cl (by omega), hS.wl j hj]
      obtain ⟨z, e1, e2, f⟩ := hS.heirF hW.Q.W (x := j) (by omega) (G.S.wl j)
      exact ⟨z, e1, e2, h.scrF f (fun a e => scr_SA e)⟩
    · unfold fX7_heir
      have hR := h.Q.S
      rw [hR.isHouseF hW.Q.W, bd_some, ca, if_neg (by decide), bd_eta]
      obtain ⟨j, hj, rfl⟩ := hasI_of ca
      obtain ⟨k, hk, ek⟩ := hW.Q.W.wl j hj
      rw [l24, nQ_add, gd_of (vin_nI (by omega) (by omega)), nI_cl (by omega), nI_cl (by omega), hR.wl j (by omega), ek]
      obtain ⟨z, e1, e2, f⟩ := hR.heirOnF (m := B + 178) (n := 228) hW.Q.W (by omega) (by omega) (by omega) hj hk
      exact ⟨z, e1, e2, h.scrF f (fun a e => by omega)⟩
