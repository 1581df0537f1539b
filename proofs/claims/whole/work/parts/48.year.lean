/-! ===== years ===== -/
section YRC
variable (S : Sv) (y : Int32)
theorem rk_yr (a : Nat) : ∀ k h, rk (S.set_yr y) a k h = rk S a k h
  | 0, h => rfl
  | k + 1, h => by
    show (rk (S.set_yr y) a k h || (List.range 5).any fun g => rk (S.set_yr y) a k g && kx (S.set_yr y) g h) = (rk S a k h || (List.range 5).any fun g => rk S a k g && kx S g h)
    rw [rk_yr a k h]
    have : (fun g => rk (S.set_yr y) a k g && kx (S.set_yr y) g h) = fun g => rk S a k g && kx S g h := by
      funext g; rw [rk_yr a k g]; rfl
    rw [this]
theorem rg_yr (a k h : Nat) : rg (S.set_yr y) a k h = rg S a k h := by
  cases k with
  | zero => rfl
  | succ k => show (rk (S.set_yr y) a (k + 1) h && !rk (S.set_yr y) a k h) = (rk S a (k + 1) h && !rk S a k h); rw [rk_yr, rk_yr]
theorem dgk_yr (a h : Nat) : ∀ k, dgk (S.set_yr y) a k h = dgk S a k h
  | 0 => rfl
  | k + 1 => by show (if rg (S.set_yr y) a k h then nI k else dgk (S.set_yr y) a k h) = (if rg S a k h then nI k else dgk S a k h); rw [rg_yr, dgk_yr a h k]
theorem dg_yr (a h : Nat) : dg (S.set_yr y) a h = dg S a h := dgk_yr S y a h 5
theorem lw_yr (a h : Nat) : lw (S.set_yr y) a h = lw S a h := by unfold lw; rw [dg_yr]
theorem opn_yr (a h : Nat) : opn (S.set_yr y) a h = opn S a h := by unfold opn; rw [lw_yr]
theorem rkv_yr (k : Int32) (x h : Nat) : rkv (S.set_yr y) k x h = rkv S k x h := by
  unfold rkv; rw [lw_yr, opn_yr]; rfl
theorem hf_yr (k : Int32) (x : Nat) (dr : Nat → Bool) : ∀ n, hf (S.set_yr y) k x dr n = hf S k x dr n
  | 0 => rfl
  | n + 1 => by
    show hs (S.set_yr y) k x dr n (hf (S.set_yr y) k x dr n) = hs S k x dr n (hf S k x dr n)
    rw [hf_yr k x dr n]
    unfold hs rkd
    rw [rkv_yr]; rfl
theorem hr_yr (k : Int32) (x : Nat) : hr (S.set_yr y) k x = hr S k x := by
  unfold hr hb
  rw [hf_yr]; rfl
theorem fallS_yr (x : Nat) : fallS (S.set_yr y) x = (fallS S x).set_yr y := by
  unfold fallS
  have : hr (S.set_yr y) ((S.set_yr y).wl x) x = hr S (S.wl x) x := hr_yr S y _ x
  rw [this]
  generalize hr S (S.wl x) x = r
  rfl
end YRC
def ov (S : Sv) (h : Nat) : Bool := !decide (nI (lvn S (nI h)) ≤ S.rm h)
def beamS (S : Sv) (i : Nat) : Sv := S.set_be fun h => if h < i ∧ S.st h = true then S.be h + (if ov S h then 2 else 1) else S.be h
def yf (S : Sv) : Nat → Sv
  | 0 => S
  | n + 1 => if (yf S n).st n && !decide ((yf S n).be n < 100) then fallS (yf S n) n else yf S n
def yearS (S : Sv) : Sv := yf (beamS (S.set_yr (S.yr + 1)) S.H) S.H
theorem yf_wf {S : Sv} (hW : WF S) : ∀ n, WF (yf S n) ∧ (yf S n).H = S.H ∧ (yf S n).P = S.P
  | 0 => ⟨hW, rfl, rfl⟩
  | n + 1 => by
    obtain ⟨h1, h2, h3⟩ := yf_wf hW n
    show WF (if (yf S n).st n && !decide ((yf S n).be n < 100) then fallS (yf S n) n else yf S n) ∧ (if (yf S n).st n && !decide ((yf S n).be n < 100) then fallS (yf S n) n else yf S n).H = _ ∧ (if (yf S n).st n && !decide ((yf S n).be n < 100) then fallS (yf S n) n else yf S n).P = _
    split
    · exact ⟨fallS_wf h1 n, h2, h3⟩
    · exact ⟨h1, h2, h3⟩
theorem WF.set_be {S : Sv} (hW : WF S) (v : Nat → Int32) : WF (S.set_be v) := WF.of hW.H5 hW.P6 hW.st hW.wa hW.ws hW.fi hW.fs hW.fm hW.fa hW.wh hW.wl hW.mk hW.fr hW.wo hW.rm
theorem WF.set_yr {S : Sv} (hW : WF S) (v : Int32) : WF (S.set_yr v) := WF.of hW.H5 hW.P6 hW.st hW.wa hW.ws hW.fi hW.fs hW.fm hW.fa hW.wh hW.wl hW.mk hW.fr hW.wo hW.rm
theorem yearS_wf {S : Sv} (hW : WF S) : WF (yearS S) := (yf_wf ((hW.set_yr (S.yr + 1)).set_be _) S.H).1
theorem yearS_H {S : Sv} (hW : WF S) : (yearS S).H = S.H := (yf_wf ((hW.set_yr (S.yr + 1)).set_be _) S.H).2.1
theorem yearS_P {S : Sv} (hW : WF S) : (yearS S).P = S.P := (yf_wf ((hW.set_yr (S.yr + 1)).set_be _) S.H).2.2
theorem yf_yr (S : Sv) (y : Int32) : ∀ n, yf (S.set_yr y) n = (yf S n).set_yr y
  | 0 => rfl
  | n + 1 => by
    show (if (yf (S.set_yr y) n).st n && !decide ((yf (S.set_yr y) n).be n < 100) then fallS (yf (S.set_yr y) n) n else yf (S.set_yr y) n) = (if (yf S n).st n && !decide ((yf S n).be n < 100) then fallS (yf S n) n else yf S n).set_yr y
    rw [yf_yr S y n, fallS_yr]
    generalize yf S n = X
    generalize fallS X n = Z
    show (if X.st n && !decide (X.be n < 100) then Z.set_yr y else X.set_yr y) = _
    split <;> rfl
theorem beamS_yr (S : Sv) (y : Int32) (i : Nat) : beamS (S.set_yr y) i = (beamS S i).set_yr y := rfl
section YEA
variable {L : HL} {b t n : Nat} {S : Sv}
theorem SC.isOverfullF (hS : SC L b S) (hW : WF S) {x : Nat} (hx : x < S.H) : fX4_isOverfull b (nI x) L = some (bI (S.st x && ov S x)) := by
  have h5 := hW.H5
  unfold fX4_isOverfull
  rw [hS.standsF, bd_some, stI_n S (by omega)]
  cases S.st x
  · rw [if_pos (by decide)]; rfl
  rw [if_neg (by decide), hS.dwellersF hW, bd_some, gd_of (vin_nI (by omega) (by omega)), nI_cl (by omega), hS.rm x hx]
  unfold ov
  by_cases c : nI (lvn S (nI x)) ≤ S.rm x
  · rw [if_pos c, decide_eq_true c]; rfl
  · rw [if_neg c, decide_eq_false c]; rfl
theorem RC.isOverfullF (hR : RC L t S) (hW : WF S) (hn : 92 ≤ n) (hn' : n < 1000) {x : Nat} (hx : x < S.H) : fX7_isOverfull t n (nI x) L = some (bI (ov S x)) := by
  have h5 := hW.H5
  unfold fX7_isOverfull
  rw [hR.livingInF hW hn hn', bd_some, bits6, lvn_ct hW, bd_some, l4, nQ_add, gd_of (vin_nI (by omega) (by omega)), nI_cl (by omega), hR.rm x (by omega)]
  unfold ov
  by_cases c : nI (lvn S (nI x)) ≤ S.rm x
  · rw [if_pos c, decide_eq_true c]; rfl
  · rw [if_neg c, decide_eq_false c]; rfl
theorem beamS_s {i : Nat} : ∀ p, (beamS S (i + 1)).be p = if p = i then (if S.st i then S.be i + (if ov S i then 2 else 1) else S.be i) else (beamS S i).be p := by
  intro p
  show (if p < i + 1 ∧ S.st p = true then S.be p + (if ov S p then 2 else 1) else S.be p) = if p = i then (if S.st i then S.be i + (if ov S i then 2 else 1) else S.be i) else (if p < i ∧ S.st p = true then S.be p + (if ov S p then 2 else 1) else S.be p)
  by_cases e : p = i
  · subst e
    rw [if_pos rfl]
    by_cases c : S.st p = true
    · rw [if_pos ⟨by omega, c⟩, if_pos c]
    · rw [if_neg (fun z => c z.2), if_neg c]
  · rw [if_neg e]
    have : (p < i + 1) = (p < i) := propext (by omega)
    simp only [this]
theorem beamS_i {i : Nat} : (beamS S i).be i = S.be i := by
  show (if i < i ∧ S.st i = true then _ else _) = _
  rw [if_neg (by omega)]
theorem beamS_n {i : Nat} (hn : ¬ S.st i = true) : (beamS S (i + 1)) = beamS S i := by
  show S.set_be (beamS S (i + 1)).be = S.set_be (beamS S i).be
  congr 1
  funext p
  rw [beamS_s]
  by_cases e : p = i
  · subst e; rw [if_pos rfl, if_neg hn, beamS_i]
  · rw [if_neg e]
theorem SC.passYearF (hS : SC L b S) (hW : WF S) : ∃ L', fX4_passYear b L = some L' ∧ SC L' b (yearS S) ∧ Fr (SB b) L L' := by
  have h5 := hW.H5
  unfold fX4_passYear
  rw [lt_eq, hS.yr]
  obtain ⟨S1, eS⟩ : ∃ X, X = S.set_yr (S.yr + 1) := ⟨_, rfl⟩
  have hS1 : SC (wI L b 3 (S.yr + 1)) b S1 := by
    rw [eS]
    exact hS.w_yr (wQ_same _ _ _ _) (fun j hj => wQ_other hj) (fun a _ _ => wQ_ne (by omega))
  have hW1 : WF S1 := by rw [eS]; exact hW.set_yr _
  have eH : S1.H = S.H := by rw [eS]; rfl
  have eY : yearS S = yf (beamS S1 S1.H) S1.H := by rw [eS]; rfl
  rw [eY]
  have f1 : Fr (SB b) L (wI L b 3 (S.yr + 1)) := (Fr.refl L).wI (by unfold SB; omega) _ _
  generalize wI L b 3 (S.yr + 1) = L1 at *
  clear eY eS
  rw [← eH] at h5
  refine lx_inv S1.H (fun i s => ∃ L2, s = (nI i, L2) ∧ SC L2 b (beamS S1 i) ∧ Fr (SB b) L L2) (by rw [FU_20000]; omega) ⟨L1, rfl, ?_, f1⟩ ?_ ?_ ?_
  · have : beamS S1 0 = S1 := by
      show S1.set_be _ = S1
      simp only [Nat.not_lt_zero, false_and, if_false]; rfl
    rw [this]; exact hS1
  · rintro i _ hi ⟨L2, rfl, q, f⟩
    have hWq : WF (beamS S1 i) := hW1.set_be _
    have hst : fX4_stands b (nI i) L2 = some (bI (S1.st i)) := by rw [q.standsF, stI_n _ (by omega)]; rfl
    have hov : fX4_isOverfull b (nI i) L2 = some (bI (S1.st i && ov S1 i)) := q.isOverfullF hWq hi
    have hbe : L2.1 (b + 3) i = S1.be i := by rw [q.be i hi, beamS_i]
    unfold fX4_passYear_b12
    dsimp only
    rw [q.H, if_neg (by rw [nQ_le (by have : (beamS S1 i).H = S1.H := rfl; omega) (by omega)]; have : (beamS S1 i).H = S1.H := rfl; omega), hst, bd_some]
    by_cases c : S1.st i = true
    · rw [c, if_neg (by decide), gd_of (vin_nI (by omega) (by omega)), hov, bd_some, c, Bool.true_and, nI_cl (by omega), hbe]
      have fin : ∀ d : Int32, d = (if ov S1 i then 2 else 1) → ∃ s', fX4_passYear_j48 b (nI i) (nI i) (S1.be i) d L2 = some (Sum.inl s') ∧ ∃ L2, s' = (nI (i + 1), L2) ∧ SC L2 b (beamS S1 (i + 1)) ∧ Fr (SB b) L L2 := by
        intro d ed
        unfold fX4_passYear_j48
        rw [gd_of (vin_nI (by omega) (by omega)), nI_cl (by omega)]
        simp only [lt_eq, nQ_s]
        refine ⟨_, rfl, _, rfl, ?_, f.wI (by unfold SB; omega) _ _⟩
        refine SC.w_be (S := beamS S1 i) q (v := (beamS S1 (i + 1)).be) (fun h hh => ?_) fun a _ _ h => wQ_ne h
        rw [beamS_s]
        by_cases e : h = i
        · subst e; rw [wQ_same, if_pos rfl, if_pos c, ed]
        · rw [wQ_other e, if_neg e]; exact q.be h hh
      cases c2 : ov S1 i
      · rw [if_pos (by decide)]; exact fin 1 (by rw [c2]; rfl)
      · rw [if_neg (by decide)]; exact fin 2 (by rw [c2]; rfl)
    · have c' : S1.st i = false := by cases h : S1.st i; rfl; exact absurd h c
      rw [c', if_pos (by decide)]
      simp only [lt_eq, nQ_s]
      exact ⟨_, rfl, L2, rfl, by rw [beamS_n c]; exact q, f⟩
  · rintro _ ⟨L2, rfl, q, f⟩
    have e : L2.1 b 0 = nI S1.H := q.H
    unfold fX4_passYear_b12
    simp (disch := omega) only [e, nQ_le, Nat.le_refl, if_true]
  · rintro _ ⟨L2, rfl, q, f⟩
    have hW2 : WF (beamS S1 S1.H) := hW1.set_be _
    have e2 : (beamS S1 S1.H).H = S1.H := rfl
    generalize beamS S1 S1.H = S2 at *
    refine lx_inv S1.H (fun i s => ∃ L2, s = (nI i, L2) ∧ SC L2 b (yf S2 i) ∧ Fr (SB b) L L2) (by rw [FU_20000]; omega) ⟨L2, rfl, q, f⟩ ?_ ?_ ?_
    · rintro i _ hi ⟨L3, rfl, q, f⟩
      obtain ⟨hW3, h3, -⟩ := yf_wf hW2 i
      unfold fX4_passYear_b58
      dsimp only
      show ∃ s', _ ∧ ∃ L4, s' = (nI (i + 1), L4) ∧ SC L4 b (if (yf S2 i).st i && !decide ((yf S2 i).be i < 100) then fallS (yf S2 i) i else yf S2 i) ∧ Fr (SB b) L L4
      generalize yf S2 i = S3 at *
      rw [q.H, if_neg (by rw [nQ_le (by omega) (by omega)]; omega), q.standsF, bd_some, stI_n _ (by omega)]
      cases c : S3.st i
      · rw [if_pos (by decide), if_neg (by simp)]
        simp only [lt_eq, nQ_s]
        exact ⟨_, rfl, L3, rfl, q, f⟩
      · rw [if_neg (by decide), gd_of (vin_nI (by omega) (by omega)), nI_cl (by omega), q.be i (by omega), Bool.true_and]
        by_cases c2 : S3.be i < 100
        · rw [if_pos c2, decide_eq_true c2, if_neg (by decide)]
          simp only [lt_eq, nQ_s]
          exact ⟨_, rfl, L3, rfl, q, f⟩
        · obtain ⟨⟨r, L4⟩, e1, -, q4, f4⟩ := q.letFallF hW3 (by omega) c
          rw [if_neg c2, e1, bd_some, decide_eq_false c2, if_pos (by decide)]
          simp only [lt_eq, nQ_s]
          exact ⟨_, rfl, L4, rfl, q4, f.trans f4⟩
    · rintro _ ⟨L3, rfl, q, f⟩
      obtain ⟨hW3, h3, -⟩ := yf_wf hW2 S1.H
      unfold fX4_passYear_b58
      rw [q.H, if_pos (by rw [nQ_le (by omega) (by omega)]; omega)]
    · rintro _ ⟨L3, rfl, q, f⟩
      exact ⟨_, rfl, q, f⟩
theorem RC.yearGoesF {m : Nat} (hR : RC L t S) (hW : WF S) (hn : 92 ≤ n) (hn' : n < 1000) (htm : t ≠ m + 8) : ∃ L', fX7_yearGoes m t n L = some L' ∧ RC L' t (yearS S) ∧ Fr (fun a => a = t ∨ a = m + 8) L L' ∧ Kp t L L' := by
  have h5 := hW.H5
  have v0 : vin (0 : Int32) n := vin_nI (i := 0) (by omega) (by omega)
  have v2 : vin (2 : Int32) n := vin_nI (i := 2) (by omega) (by omega)
  have c0 : (0 : Int32).toNatClampNeg = 0 := by decide
  have c2 : (2 : Int32).toNatClampNeg = 2 := by decide
  unfold fX7_yearGoes
  refine lx_inv S.H (fun i s => ∃ L2, s = (nI i, L2) ∧ RC L2 t (beamS S i) ∧ Fr (fun a => a = t ∨ a = m + 8) L L2 ∧ Kp t L L2) (by rw [FU_20000]; omega) ⟨L, rfl, ?_, Fr.refl L, Kp.refl⟩ ?_ ?_ ?_
  · have : beamS S 0 = S := by
      show S.set_be _ = S
      simp only [Nat.not_lt_zero, false_and, if_false]; rfl
    rw [this]; exact hR
  · rintro i _ hi ⟨L2, rfl, q, f, kp⟩
    have hWq : WF (beamS S i) := hW.set_be _
    have hst : L2.1 t (29 + i) = bI (S.st i) := q.st i (by omega)
    have hov : fX7_isOverfull t n (nI i) L2 = some (bI (ov S i)) := q.isOverfullF hWq hn hn' hi
    have hbe : L2.1 t (14 + i) = S.be i := by rw [q.be i (by omega), beamS_i]
    have eH : L2.1 t 0 = nI S.H := q.H
    have vbe : vin ((14 : Int32) + nI i) n := by rw [l14, nQ_add]; exact vin_nI (by omega) (by omega)
    have vst : vin ((29 : Int32) + nI i) n := by rw [l29, nQ_add]; exact vin_nI (by omega) (by omega)
    have rbe : L2.1 t ((14 : Int32) + nI i).toNatClampNeg = S.be i := by rw [l14, nQ_add, nI_cl (by omega)]; exact hbe
    have rst : L2.1 t ((29 : Int32) + nI i).toNatClampNeg = bI (S.st i) := by rw [l29, nQ_add, nI_cl (by omega)]; exact hst
    unfold fX7_yearGoes_b2
    dsimp only
    rw [gd_of v0, c0, eH, if_neg (by rw [nQ_le (by omega) (by omega)]; omega), gd_of vbe, gd_of vst, rst, rbe, hov, bd_some]
    have fin : ∀ d : Int32, S.be i + d = (if S.st i then S.be i + (if ov S i then 2 else 1) else S.be i) → ∃ s', fX7_yearGoes_j42 m t n (nI i) ((14 : Int32) + nI i) (S.be i) d L2 = some (Sum.inl s') ∧ ∃ L2, s' = (nI (i + 1), L2) ∧ RC L2 t (beamS S (i + 1)) ∧ Fr (fun a => a = t ∨ a = m + 8) L L2 ∧ Kp t L L2 := by
      intro d ed
      unfold fX7_yearGoes_j42
      rw [gd_of vbe, l14, nQ_add, nI_cl (by omega)]
      simp only [lt_eq, nQ_s]
      refine ⟨_, rfl, _, rfl, ?_, f.wI (.inl rfl) _ _, kp.wI (by omega)⟩
      refine RC.w_be (S := beamS S i) q (v := (beamS S (i + 1)).be) (fun h hh => ?_) fun k _ hk => wQ_other (by omega)
      rw [beamS_s]
      by_cases e : h = i
      · subst e; rw [wQ_same, if_pos rfl, ed]
      · rw [wQ_other (by omega), if_neg e]; exact q.be h hh
    cases c : S.st i
    · rw [if_pos (by decide)]; exact fin 0 (by rw [c]; simp)
    · rw [if_neg (by decide)]
      cases c2 : ov S i
      · rw [if_pos (by decide)]; exact fin 1 (by rw [c, c2]; rfl)
      · rw [if_neg (by decide)]; exact fin 2 (by rw [c, c2]; rfl)
  · rintro _ ⟨L2, rfl, q, f⟩
    have eH : L2.1 t 0 = nI S.H := q.H
    unfold fX7_yearGoes_b2
    rw [gd_of v0, c0, eH, if_pos (by rw [nQ_le (by omega) (by omega)]; omega)]
  · rintro _ ⟨L2, rfl, q, f, kp⟩
    have hW2 : WF (beamS S S.H) := hW.set_be _
    have e2 : (beamS S S.H).H = S.H := rfl
    have eY : yearS S = (yf (beamS S S.H) S.H).set_yr (S.yr + 1) := by
      show yf ((beamS S S.H).set_yr (S.yr + 1)) S.H = _
      rw [yf_yr]
    have ey : (yf (beamS S S.H) S.H).yr = S.yr := by
      have : ∀ (X : Sv) n, (yf X n).yr = X.yr := by
        intro X n
        induction n with
        | zero => rfl
        | succ n ih =>
          show (if (yf X n).st n && !decide ((yf X n).be n < 100) then fallS (yf X n) n else yf X n).yr = _
          split
          · exact ih
          · exact ih
      exact this _ _
    rw [eY]
    generalize beamS S S.H = S2 at *
    refine lx_inv S.H (fun i s => ∃ L2, s = (nI i, L2) ∧ RC L2 t (yf S2 i) ∧ Fr (fun a => a = t ∨ a = m + 8) L L2 ∧ Kp t L L2) (by rw [FU_20000]; omega) ⟨L2, rfl, q, f, kp⟩ ?_ ?_ ?_
    · rintro i _ hi ⟨L3, rfl, q, f, kp⟩
      obtain ⟨hW3, h3, -⟩ := yf_wf hW2 i
      unfold fX7_yearGoes_b52
      dsimp only
      show ∃ s', _ ∧ ∃ L4, s' = (nI (i + 1), L4) ∧ RC L4 t (if (yf S2 i).st i && !decide ((yf S2 i).be i < 100) then fallS (yf S2 i) i else yf S2 i) ∧ Fr (fun a => a = t ∨ a = m + 8) L L4 ∧ Kp t L L4
      generalize yf S2 i = S3 at *
      have vbe : vin ((14 : Int32) + nI i) n := by rw [l14, nQ_add]; exact vin_nI (by omega) (by omega)
      have vst : vin ((29 : Int32) + nI i) n := by rw [l29, nQ_add]; exact vin_nI (by omega) (by omega)
      have rbe : L3.1 t ((14 : Int32) + nI i).toNatClampNeg = S3.be i := by rw [l14, nQ_add, nI_cl (by omega)]; exact q.be i (by omega)
      have rst : L3.1 t ((29 : Int32) + nI i).toNatClampNeg = bI (S3.st i) := by rw [l29, nQ_add, nI_cl (by omega)]; exact q.st i (by omega)
      rw [gd_of v0, c0, q.H, if_neg (by rw [nQ_le (by omega) (by omega)]; omega), gd_of vst, rst]
      cases c : S3.st i
      · rw [if_neg (by decide), if_neg (by simp)]
        simp only [lt_eq, nQ_s]
        exact ⟨_, rfl, L3, rfl, q, f, kp⟩
      · rw [if_pos (by decide), gd_of vbe, rbe, Bool.true_and]
        by_cases c2 : S3.be i < 100
        · rw [if_pos c2, decide_eq_true c2, if_neg (by decide)]
          simp only [lt_eq, nQ_s]
          exact ⟨_, rfl, L3, rfl, q, f, kp⟩
        · obtain ⟨⟨r, L4⟩, e1, -, q4, f4, kp4⟩ := q.fallsF hW3 hn hn' htm (x := i) (by omega)
          rw [if_neg c2, e1, bd_some, decide_eq_false c2, if_pos (by decide)]
          simp only [lt_eq, nQ_s]
          exact ⟨_, rfl, L4, rfl, q4, f.trans f4, kp.trans kp4⟩
    · rintro _ ⟨L3, rfl, q, f⟩
      obtain ⟨hW3, h3, -⟩ := yf_wf hW2 S.H
      unfold fX7_yearGoes_b52
      rw [gd_of v0, c0, q.H, if_pos (by rw [nQ_le (by omega) (by omega)]; omega)]
    · rintro _ ⟨L3, rfl, q, f, kp⟩
      rw [gd_of v2, gd_of v2, lt_eq, c2]
      refine ⟨_, rfl, ?_, f.wI (.inl rfl) _ _, kp.wI (by omega)⟩
      refine q.w_yr ?_ fun k _ hk => wQ_other (by omega)
      rw [wQ_same, q.yr, ey]
end YEA
