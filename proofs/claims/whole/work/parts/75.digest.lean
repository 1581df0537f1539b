/-! ===== the digest ===== -/
def h31 (h : Int64) (v : Int32) : Int64 := (31 : Int64) * h + v.toInt64
def fol (f : Nat → Int64 → Int64) : Nat → Int64 → Int64
  | 0, h => h
  | n + 1, h => f n (fol f n h)
def hv (S : Sv) (x : Nat) (k : Nat) : Int32 := if k = 0 then S.rm x else if k = 1 then S.wo x else if k = 2 then S.be x else if k = 3 then S.fr x else if k = 4 then S.wl x else if k = 5 then bI (S.st x) else S.mk x
def dgA (G : Gv) : Int64 := fol (fun k h => h31 h (cnt G k)) 9 967
def dgH (S : Sv) (h : Int64) : Int64 := fol (fun x h => fol (fun k h => h31 h (hv S x k)) 7 h) S.H h
def dgW (S : Sv) (h : Int64) : Int64 := fol (fun a h => fol (fun i h => h31 h (bI (S.wa a (a + 1 + i)))) (S.H - (a + 1)) h) S.H h
def dgP (S : Sv) (h : Int64) : Int64 := fol (fun p h => h31 (h31 h (S.fa p)) (S.wh p)) S.P h
def dgF (S : Sv) (h : Int64) : Int64 := fol (fun a h => fol (fun i h => h31 h (bI (S.fe a (a + 1 + i)))) (4 - (a + 1)) h) 4 h
def dgs (G : Gv) : Int64 := (31 : Int64) * ((31 : Int64) * dgF G.S (dgP G.S (dgW G.S (dgH G.S (dgA G)))) + G.ab) + G.bl
section DIG
variable {L : HL} {b m B : Nat} {S : Sv} {G : Gv}
theorem SC.addToF (hS : SC L b S) (hW : WF S) (h : Int64) : fX4_addTo b h L = some (dgF S (dgP S (dgW S (dgH S h)))) := by
  have h5 := hW.H5
  have h6 := hW.P6
  unfold fX4_addTo
  refine (lx_for S.H (fun i => (fol (fun x h => fol (fun k h => h31 h (hv S x k)) 7 h) i h, nI i)) rfl (by rw [FU_20000]; omega) ?_ ?_).trans ?_
  · intro i hi
    show fX4_addTo_b5 b (fol (fun x h => fol (fun k h => h31 h (hv S x k)) 7 h) i h) (nI i) L = some (Sum.inl (fol (fun k h => h31 h (hv S i k)) 7 (fol (fun x h => fol (fun k h => h31 h (hv S x k)) 7 h) i h), nI (i + 1)))
    generalize fol (fun x h => fol (fun k h => h31 h (hv S x k)) 7 h) i h = w
    unfold fX4_addTo_b5 fX4_addTo_j108
    simp only [gd_of (vin_nI (show i < 5 by omega) (show 5 < 2147483648 by omega)), nI_cl (show i < 2147483648 by omega), hS.rm i hi, hS.wo i hi, hS.be i hi, hS.fr i hi, hS.wl i hi, hS.mk i hi, lt_eq, nQ_s]
    rw [hS.H, if_neg (by rw [nQ_le (by omega) (by omega)]; omega), hS.standsF, bd_some, stI_n S (by omega)]
    have e : ∀ w, fol (fun k h => h31 h (hv S i k)) 7 w = h31 (h31 (h31 (h31 (h31 (h31 (h31 w (S.rm i)) (S.wo i)) (S.be i)) (S.fr i)) (S.wl i)) (bI (S.st i))) (S.mk i) := fun _ => rfl
    rw [e]
    cases S.st i
    · rw [if_pos (by decide)]; rfl
    · rw [if_neg (by decide)]; rfl
  · unfold fX4_addTo_b5
    dsimp only
    rw [hS.H, if_pos (by rw [nQ_le (by omega) (by omega)]; omega)]
  dsimp only
  show _ = some (dgF S (dgP S (dgW S (dgH S h))))
  rw [show fol (fun x h => fol (fun k h => h31 h (hv S x k)) 7 h) S.H h = dgH S h from rfl]
  generalize dgH S h = h
  refine (lx_for S.H (fun i => (fol (fun a h => fol (fun i h => h31 h (bI (S.wa a (a + 1 + i)))) (S.H - (a + 1)) h) i h, nI i)) rfl (by rw [FU_20000]; omega) ?_ ?_).trans ?_
  · intro i hi
    show fX4_addTo_b135 b (fol (fun a h => fol (fun i h => h31 h (bI (S.wa a (a + 1 + i)))) (S.H - (a + 1)) h) i h) (nI i) L = some (Sum.inl (fol (fun j h => h31 h (bI (S.wa i (i + 1 + j)))) (S.H - (i + 1)) (fol (fun a h => fol (fun i h => h31 h (bI (S.wa a (a + 1 + i)))) (S.H - (a + 1)) h) i h), nI (i + 1)))
    generalize fol (fun a h => fol (fun i h => h31 h (bI (S.wa a (a + 1 + i)))) (S.H - (a + 1)) h) i h = w
    unfold fX4_addTo_b135
    rw [hS.H, if_neg (by rw [nQ_le (by omega) (by omega)]; omega), lt_eq, nQ_s]
    refine (lx_for (S.H - (i + 1)) (fun j => (fol (fun j h => h31 h (bI (S.wa i (i + 1 + j)))) j w, nI (i + 1 + j))) rfl (by rw [FU_20000]; omega) ?_ ?_).trans ?_
    · intro j hj
      show fX4_addTo_b150 b (fol (fun j h => h31 h (bI (S.wa i (i + 1 + j)))) j w) (nI i) (nI (i + 1 + j)) L = some (Sum.inl (h31 (fol (fun j h => h31 h (bI (S.wa i (i + 1 + j)))) j w) (bI (S.wa i (i + 1 + j))), nI (i + 1 + j + 1)))
      generalize fol (fun j h => h31 h (bI (S.wa i (i + 1 + j)))) j w = u
      unfold fX4_addTo_b150 fX4_addTo_j180
      rw [hS.H, if_neg (by rw [nQ_le (by omega) (by omega)]; omega), hS.hasWallF hW, bd_some, hasI_n S (by omega), hasI_n S (by omega), decide_eq_true hi, decide_eq_true (show i + 1 + j < S.H by omega), Bool.true_and, Bool.true_and, nI_cl (by omega), nI_cl (by omega)]
      simp only [lt_eq, nQ_s]
      cases S.wa i (i + 1 + j)
      · rw [if_pos (by decide)]; rfl
      · rw [if_neg (by decide)]; rfl
    · unfold fX4_addTo_b150
      dsimp only
      rw [hS.H, if_pos (by rw [nQ_le (by omega) (by omega)]; omega)]
    · simp only [lt_eq, nQ_s]
  · unfold fX4_addTo_b135
    dsimp only
    rw [hS.H, if_pos (by rw [nQ_le (by omega) (by omega)]; omega)]
  dsimp only
  rw [show fol (fun a h => fol (fun i h => h31 h (bI (S.wa a (a + 1 + i)))) (S.H - (a + 1)) h) S.H h = dgW S h from rfl]
  generalize dgW S h = h
  refine (lx_for S.P (fun i => (fol (fun p h => h31 (h31 h (S.fa p)) (S.wh p)) i h, nI i)) rfl (by rw [FU_20000]; omega) ?_ ?_).trans ?_
  · intro i hi
    unfold fX4_addTo_b198
    dsimp only
    rw [hS.P, if_neg (by rw [nQ_le (by omega) (by omega)]; omega), gd_of (vin_nI (by omega) (by omega)), lt_eq, gd_of (vin_nI (by omega) (by omega)), lt_eq, lt_eq, nI_cl (by omega), hS.fa i hi, hS.wh i hi, nQ_s]
    rfl
  · unfold fX4_addTo_b198
    dsimp only
    rw [hS.P, if_pos (by rw [nQ_le (by omega) (by omega)]; omega)]
  dsimp only
  rw [show fol (fun p h => h31 (h31 h (S.fa p)) (S.wh p)) S.P h = dgP S h from rfl]
  generalize dgP S h = h
  refine (lx_for 4 (fun i => (fol (fun a h => fol (fun i h => h31 h (bI (S.fe a (a + 1 + i)))) (4 - (a + 1)) h) i h, nI i)) rfl (by decide) ?_ ?_).trans rfl
  · intro i hi
    show fX4_addTo_b246 b (fol (fun a h => fol (fun i h => h31 h (bI (S.fe a (a + 1 + i)))) (4 - (a + 1)) h) i h) (nI i) L = some (Sum.inl (fol (fun j h => h31 h (bI (S.fe i (i + 1 + j)))) (4 - (i + 1)) (fol (fun a h => fol (fun i h => h31 h (bI (S.fe a (a + 1 + i)))) (4 - (a + 1)) h) i h), nI (i + 1)))
    generalize fol (fun a h => fol (fun i h => h31 h (bI (S.fe a (a + 1 + i)))) (4 - (a + 1)) h) i h = w
    unfold fX4_addTo_b246
    rw [if_neg (by rw [l4, nQ_le (by omega) (by omega)]; omega), lt_eq, nQ_s]
    refine (lx_for (4 - (i + 1)) (fun j => (fol (fun j h => h31 h (bI (S.fe i (i + 1 + j)))) j w, nI (i + 1 + j))) rfl (by rw [FU_20000]; omega) ?_ ?_).trans ?_
    · intro j hj
      show fX4_addTo_b258 b (fol (fun j h => h31 h (bI (S.fe i (i + 1 + j)))) j w) (nI i) (nI (i + 1 + j)) L = some (Sum.inl (h31 (fol (fun j h => h31 h (bI (S.fe i (i + 1 + j)))) j w) (bI (S.fe i (i + 1 + j))), nI (i + 1 + j + 1)))
      generalize fol (fun j h => h31 h (bI (S.fe i (i + 1 + j)))) j w = u
      unfold fX4_addTo_b258 fX4_addTo_j285
      rw [if_neg (by rw [l4, nQ_le (by omega) (by omega)]; omega), hS.hasFeudF hi (show i + 1 + j < 4 by omega), bd_some]
      simp only [lt_eq, nQ_s]
      cases S.fe i (i + 1 + j)
      · rw [if_pos (by decide)]; rfl
      · rw [if_neg (by decide)]; rfl
    · unfold fX4_addTo_b258
      dsimp only
      rw [if_pos (by rw [l4, nQ_le (by omega) (by omega)]; omega)]
    · simp only [lt_eq, nQ_s]
  · rfl
theorem digestK (h : KI L B G) (hW : WG G) : fX6_digest B L = some (dgs G) := by
  unfold fX6_digest
  refine (lx_for 9 (fun i => (fol (fun k h => h31 h (cnt G k)) i 967, nI i)) rfl (by decide) ?_ ?_).trans ?_
  · intro i hi
    unfold fX6_digest_b6
    dsimp only
    rw [if_neg (by rw [l8, nQ_lt (by omega) (by omega)]; omega), amountF h hW hi, bd_some, lt_eq, lt_eq, nQ_s]
    rfl
  · rfl
  dsimp only
  rw [h.Q.S.addToF hW.Q.W, bd_some, lt_eq, h.ab, h.bl]
  rfl
theorem hvF (hR : RC L (m + 1) S) {x k : Nat} (hx : x < 5) (hk : k < 7) : L.1 (m + 1) (4 + 5 * k + x) = hv S x k := by
  unfold hv
  rcases (show k = 0 ∨ k = 1 ∨ k = 2 ∨ k = 3 ∨ k = 4 ∨ k = 5 ∨ k = 6 by omega) with rfl | rfl | rfl | rfl | rfl | rfl | rfl
  · exact hR.rm x hx
  · exact hR.wo x hx
  · exact hR.be x hx
  · exact hR.fr x hx
  · exact hR.wl x hx
  · exact hR.st x hx
  · exact hR.mk x hx
theorem digestJ (hJ : JI L m G) (hG : WG G) : fX7_digest m L = some (dgs G) := by
  have hR := hJ.Q.S
  have hW := hG.Q.W
  have h5 := hW.H5
  have h6 := hW.P6
  unfold fX7_digest
  refine (lx_for 9 (fun i => (fol (fun k h => h31 h (cnt G k)) i 967, nI i)) rfl (by decide) ?_ ?_).trans ?_
  · intro i hi
    unfold fX7_digest_b6
    dsimp only
    rw [if_neg (by rw [l9, nQ_le (by omega) (by omega)]; omega), countedF hJ hG hi, bd_some, lt_eq, lt_eq, nQ_s]
    rfl
  · rfl
  dsimp only
  unfold dgs
  rw [show fol (fun k h => h31 h (cnt G k)) 9 967 = dgA G from rfl]
  generalize dgA G = h
  generalize G.S = S at hR hW h5 h6 ⊢
  refine (lx_for S.H (fun i => (fol (fun x h => fol (fun k h => h31 h (hv S x k)) 7 h) i h, nI i)) rfl (by rw [FU_20000]; omega) ?_ ?_).trans ?_
  · intro i hi
    show fX7_digest_b33 m (fol (fun x h => fol (fun k h => h31 h (hv S x k)) 7 h) i h) (nI i) L = some (Sum.inl (fol (fun k h => h31 h (hv S i k)) 7 (fol (fun x h => fol (fun k h => h31 h (hv S x k)) 7 h) i h), nI (i + 1)))
    generalize fol (fun x h => fol (fun k h => h31 h (hv S x k)) 7 h) i h = w
    unfold fX7_digest_b33
    rw [c0q, hR.H, if_neg (by rw [nQ_le (by omega) (by omega)]; omega)]
    refine (lx_for 7 (fun j => (fol (fun k h => h31 h (hv S i k)) j w, nI j)) rfl (by decide) ?_ ?_).trans ?_
    · intro j hj
      unfold fX7_digest_b46
      dsimp only
      rw [if_neg (by rw [l7, nQ_le (by omega) (by omega)]; omega), l4, l5, nQ_mul, nQ_add, nQ_add, gd_of (vin_nI (by omega) (by omega)), lt_eq, lt_eq, nI_cl (by omega), hvF hR (by omega) hj, nQ_s]
      rfl
    · rfl
    · simp only [lt_eq, nQ_s]
  · unfold fX7_digest_b33
    dsimp only
    rw [c0q, hR.H, if_pos (by rw [nQ_le (by omega) (by omega)]; omega)]
  dsimp only
  rw [show fol (fun x h => fol (fun k h => h31 h (hv S x k)) 7 h) S.H h = dgH S h from rfl]
  generalize dgH S h = h
  refine (lx_for S.H (fun i => (fol (fun a h => fol (fun i h => h31 h (bI (S.wa a (a + 1 + i)))) (S.H - (a + 1)) h) i h, nI i)) rfl (by rw [FU_20000]; omega) ?_ ?_).trans ?_
  · intro i hi
    show fX7_digest_b88 m (fol (fun a h => fol (fun i h => h31 h (bI (S.wa a (a + 1 + i)))) (S.H - (a + 1)) h) i h) (nI i) L = some (Sum.inl (fol (fun j h => h31 h (bI (S.wa i (i + 1 + j)))) (S.H - (i + 1)) (fol (fun a h => fol (fun i h => h31 h (bI (S.wa a (a + 1 + i)))) (S.H - (a + 1)) h) i h), nI (i + 1)))
    generalize fol (fun a h => fol (fun i h => h31 h (bI (S.wa a (a + 1 + i)))) (S.H - (a + 1)) h) i h = w
    unfold fX7_digest_b88
    rw [c0q, hR.H, if_neg (by rw [nQ_le (by omega) (by omega)]; omega), lt_eq, nQ_s]
    refine (lx_for (S.H - (i + 1)) (fun j => (fol (fun j h => h31 h (bI (S.wa i (i + 1 + j)))) j w, nI (i + 1 + j))) rfl (by rw [FU_20000]; omega) ?_ ?_).trans ?_
    · intro j hj
      unfold fX7_digest_b103
      dsimp only
      rw [c0q, hR.H, if_neg (by rw [nQ_le (by omega) (by omega)]; omega), l39, l5, nQ_mul, nQ_add, nQ_add, gd_of (vin_nI (by omega) (by omega)), lt_eq, lt_eq, nI_cl (by omega), hR.wa i (by omega) (i + 1 + j) (by omega), nQ_s]
      rfl
    · unfold fX7_digest_b103
      dsimp only
      rw [c0q, hR.H, if_pos (by rw [nQ_le (by omega) (by omega)]; omega)]
    · simp only [lt_eq, nQ_s]
  · unfold fX7_digest_b88
    dsimp only
    rw [c0q, hR.H, if_pos (by rw [nQ_le (by omega) (by omega)]; omega)]
  dsimp only
  rw [show fol (fun a h => fol (fun i h => h31 h (bI (S.wa a (a + 1 + i)))) (S.H - (a + 1)) h) S.H h = dgW S h from rfl]
  generalize dgW S h = h
  refine (lx_for S.P (fun i => (fol (fun p h => h31 (h31 h (S.fa p)) (S.wh p)) i h, nI i)) rfl (by rw [FU_20000]; omega) ?_ ?_).trans ?_
  · intro i hi
    unfold fX7_digest_b150
    dsimp only
    rw [c1q, hR.P, if_neg (by rw [nQ_le (by omega) (by omega)]; omega), l64, l70, nQ_add, nQ_add, gd_of (vin_nI (by omega) (by omega)), gd_of (vin_nI (by omega) (by omega)), lt_eq, lt_eq, nI_cl (by omega), nI_cl (by omega), hR.fa i (by omega), hR.wh i (by omega), nQ_s]
    rfl
  · unfold fX7_digest_b150
    dsimp only
    rw [c1q, hR.P, if_pos (by rw [nQ_le (by omega) (by omega)]; omega)]
  dsimp only
  rw [show fol (fun p h => h31 (h31 h (S.fa p)) (S.wh p)) S.P h = dgP S h from rfl]
  generalize dgP S h = h
  refine (lx_for 4 (fun i => (fol (fun a h => fol (fun i h => h31 h (bI (S.fe a (a + 1 + i)))) (4 - (a + 1)) h) i h, nI i)) rfl (by decide) ?_ ?_).trans ?_
  · intro i hi
    show fX7_digest_b200 m (fol (fun a h => fol (fun i h => h31 h (bI (S.fe a (a + 1 + i)))) (4 - (a + 1)) h) i h) (nI i) L = some (Sum.inl (fol (fun j h => h31 h (bI (S.fe i (i + 1 + j)))) (4 - (i + 1)) (fol (fun a h => fol (fun i h => h31 h (bI (S.fe a (a + 1 + i)))) (4 - (a + 1)) h) i h), nI (i + 1)))
    generalize fol (fun a h => fol (fun i h => h31 h (bI (S.fe a (a + 1 + i)))) (4 - (a + 1)) h) i h = w
    unfold fX7_digest_b200
    rw [if_neg (by rw [l4, nQ_le (by omega) (by omega)]; omega), lt_eq, nQ_s]
    refine (lx_for (4 - (i + 1)) (fun j => (fol (fun j h => h31 h (bI (S.fe i (i + 1 + j)))) j w, nI (i + 1 + j))) rfl (by rw [FU_20000]; omega) ?_ ?_).trans ?_
    · intro j hj
      unfold fX7_digest_b210
      dsimp only
      rw [if_neg (by rw [l4, nQ_le (by omega) (by omega)]; omega), l76, l4, nQ_mul, nQ_add, nQ_add, gd_of (vin_nI (by omega) (by omega)), lt_eq, lt_eq, nI_cl (by omega), hR.fe i (by omega) (i + 1 + j) (by omega), nQ_s]
      rfl
    · unfold fX7_digest_b210
      dsimp only
      rw [if_pos (by rw [l4, nQ_le (by omega) (by omega)]; omega)]
    · simp only [lt_eq, nQ_s]
  · rfl
  dsimp only
  rw [show fol (fun a h => fol (fun i h => h31 h (bI (S.fe a (a + 1 + i)))) (4 - (a + 1)) h) 4 h = dgF S h from rfl, hJ.ab, hJ.bl]
end DIG
/-- for a call that leaves the heap as it is -/
def ques {α : Type} (f : HL → Option α) (L : HL) : Option (α × HL) := (f L).map fun v => (v, L)
theorem ag_digest (B : Nat) : Agree B (ques (fX6_digest B)) (ques (fX7_digest (B + 178))) := fun G hW => by
  refine ⟨dgs G, G, fun L h => ?_, fun L h => ?_, hW⟩
  · unfold ques; rw [digestK h hW]; exact ⟨_, rfl, rfl, h, FrK.refl B L⟩
  · unfold ques; rw [digestJ h hW]; exact ⟨_, rfl, rfl, h, FrJ.refl _ L⟩
