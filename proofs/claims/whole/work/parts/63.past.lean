/-! ===== what may be undone ===== -/
def kun (u : Nat) : Nat := if u = 8 then 8 else u + 1
def cur (S : Sv) : Uv := Uv.of S.st S.be S.wh S.yr
def kU (S : Sv) (U : Nat → Uv) : Nat → Uv := if S.un = 8 then fun i => if i < 7 then U (i + 1) else cur S else fun i => if i = S.un then cur S else U i
theorem fmo8 : ∀ k, k < 16 → fJ9_floorMod_7cf53 (nI k) 8 = some (nI (k % 8)) := by decide +kernel
theorem fmo8m : ∀ k, k < 8 → fJ9_floorMod_7cf53 (nI k - 1) 8 = some (nI ((k + 7) % 8)) := by decide +kernel
theorem mno8 : ∀ k, k < 9 → fJ9_min_7cf53 (nI k + 1) 8 = some (nI (kun k)) := by decide +kernel
section PST
variable {L : HL} {p s : Nat} {S : Sv} {U : Nat → Uv}
theorem slot_new {nx un : Nat} (hnx : nx < 8) (hun : un ≤ 8) : slot ((nx + 1) % 8) (kun un) (kun un - 1) = nx := by
  unfold slot kun
  split <;> omega
theorem slot_old {nx un i : Nat} (hnx : nx < 8) (hun : un < 8) (hi : i < un) : slot ((nx + 1) % 8) (un + 1) i = slot nx un i ∧ slot nx un i ≠ nx := by
  unfold slot; omega
theorem slot_old8 {nx i : Nat} (hnx : nx < 8) (hi : i < 7) : slot ((nx + 1) % 8) 8 i = slot nx 8 (i + 1) ∧ slot nx 8 (i + 1) ≠ nx := by
  unfold slot; omega
theorem keepF (hS : SC L s S) (hU : PCc L p S U) (hW : WF S) (hun : S.un ≤ 8) (hd : s + 14 ≤ p) : ∃ L', fX3_keep p s L = some L' ∧ PCc L' p (S.set_un (kun S.un)) (kU S U) ∧ Fr (fun a => p ≤ a ∧ a < p + 21) L L' := by
  have h5 := hW.H5
  have h6 := hW.P6
  obtain ⟨h1, nx, hnx, h3, h4⟩ := hU
  have en : nx % 8 = nx := Nat.mod_eq_of_lt hnx
  unfold fX3_keep
  rw [h3, fmo8 nx (by omega), bd_some, en]
  simp only [nI_cl (show nx < 2147483648 by omega)]
  rw [gd_of (vin_nI hnx (by omega)), lt_eq, gd_of (vin_nI hnx (by omega)), lt_eq, gd_of (vin_nI hnx (by omega)), wQ_ne (show s ≠ p + 1 by omega), hS.st, hS.yr]
  have f5 : Fr (fun a => p ≤ a ∧ a < p + 21) L (wI (wI L (p + 1) nx (nI (mask S.st 5))) (p + 2) nx S.yr) := ((Fr.refl L).wI (by omega) _ _).wI (by omega) _ _
  have a1 : ∀ x, (wI (wI L (p + 1) nx (nI (mask S.st 5))) (p + 2) nx S.yr).1 (p + 1) x = if x = nx then nI (mask S.st 5) else L.1 (p + 1) x := fun x => by rw [wQ_ne (by omega), wQ_at, if_pos rfl]
  have a2 : ∀ x, (wI (wI L (p + 1) nx (nI (mask S.st 5))) (p + 2) nx S.yr).1 (p + 2) x = if x = nx then S.yr else L.1 (p + 2) x := fun x => by rw [wQ_at, if_pos rfl, wQ_ne (show p + 2 ≠ p + 1 by omega)]
  have a3 : ∀ c, p + 3 ≤ c → (wI (wI L (p + 1) nx (nI (mask S.st 5))) (p + 2) nx S.yr).1 c = L.1 c := fun c hc => by rw [wQ_ne (by omega), wQ_ne (by omega)]
  have a0 : (wI (wI L (p + 1) nx (nI (mask S.st 5))) (p + 2) nx S.yr).1 p = L.1 p := by rw [wQ_ne (by omega), wQ_ne (by omega)]
  generalize wI (wI L (p + 1) nx (nI (mask S.st 5))) (p + 2) nx S.yr = L5 at *
  obtain ⟨L7, e7, v7, f7⟩ := copyRowF (L := L5) (a0 := s + 3) (a1 := p + 3 + 1 + nx) (n := 5) (by omega) (by omega)
  obtain ⟨L9, e9, v9, f9⟩ := copyRowF (L := L7) (a0 := s + 9) (a1 := p + 12 + 1 + nx) (n := 6) (by omega) (by omega)
  rw [e7, bd_some, gd_of (vin_nI hnx (by omega)), e9, bd_some, nQ_s, fmo8 (nx + 1) (by omega), bd_some, lt_eq, wQ_other (show 0 ≠ 1 by omega), f9.1 p (by omega), f7.1 p (by omega), a0, h1, mno8 S.un (by omega), bd_some, lt_eq]
  have f59 : Fr (fun a => p ≤ a ∧ a < p + 21) L L9 := (f5.trans (f7.mono fun a h => by omega)).trans (f9.mono fun a h => by omega)
  refine ⟨_, rfl, ⟨?_, (nx + 1) % 8, Nat.mod_lt _ (by omega), ?_, ?_⟩, (f59.wI (by omega) _ _).wI (by omega) _ _⟩
  · rw [wQ_same]; rfl
  · rw [wQ_other (by omega), wQ_same]
  · -- what lies at a place
    have r1 : L9.1 (p + 1) = L5.1 (p + 1) := by rw [f9.1 _ (by omega), f7.1 _ (by omega)]
    have r2 : L9.1 (p + 2) = L5.1 (p + 2) := by rw [f9.1 _ (by omega), f7.1 _ (by omega)]
    have rb : ∀ x, x < 8 → x ≠ nx → L9.1 (p + 4 + x) = L.1 (p + 4 + x) := fun x h1 h2 => by rw [f9.1 _ (by omega), f7.1 _ (by omega), a3 _ (by omega)]
    have rw_ : ∀ x, x < 8 → x ≠ nx → L9.1 (p + 13 + x) = L.1 (p + 13 + x) := fun x h1 h2 => by rw [f9.1 _ (by omega), f7.1 _ (by omega), a3 _ (by omega)]
    have new : PCs (wI (wI L9 p 1 (nI ((nx + 1) % 8))) p 0 (nI (kun S.un))) p (S.set_un (kun S.un)) (cur S) nx := by
      refine PCs.of ?_ ?_ (fun h hh => ?_) (fun q hq => ?_)
      · rw [wQ_ne (by omega), wQ_ne (by omega), r1, a1, if_pos rfl]; rfl
      · rw [wQ_ne (by omega), wQ_ne (by omega), r2, a2, if_pos rfl]; rfl
      · have hh : h < S.H := hh
        rw [wQ_ne (by omega), wQ_ne (by omega), f9.1 _ (by omega), show p + 4 + nx = p + 3 + 1 + nx by omega, v7 h (by omega), f5.1 (s + 3) (by omega)]; exact hS.be h hh
      · have hq : q < S.P := hq
        rw [wQ_ne (by omega), wQ_ne (by omega), show p + 13 + nx = p + 12 + 1 + nx by omega, v9 q (by omega), f7.1 _ (by omega), f5.1 (s + 9) (by omega)]; exact hS.wh q hq
    have old : ∀ x u, x < 8 → x ≠ nx → PCs L p S u x → PCs (wI (wI L9 p 1 (nI ((nx + 1) % 8))) p 0 (nI (kun S.un))) p (S.set_un (kun S.un)) u x := by
      intro x u hx hxn ⟨o1, o2, o3, o4⟩
      refine PCs.of ?_ ?_ (fun h hh => ?_) (fun q hq => ?_)
      · rw [wQ_ne (by omega), wQ_ne (by omega), r1, a1, if_neg hxn]; exact o1
      · rw [wQ_ne (by omega), wQ_ne (by omega), r2, a2, if_neg hxn]; exact o2
      · rw [wQ_ne (by omega), wQ_ne (by omega), rb x hx hxn]; exact o3 h hh
      · rw [wQ_ne (by omega), wQ_ne (by omega), rw_ x hx hxn]; exact o4 q hq
    intro i hi
    have hi : i < kun S.un := hi
    show PCs _ p _ (kU S U i) (slot ((nx + 1) % 8) (kun S.un) i)
    by_cases e : i = kun S.un - 1
    · have : kU S U i = cur S := by
        unfold kU kun at *
        by_cases c : S.un = 8
        · rw [if_pos c] at e ⊢; exact if_neg (by omega)
        · rw [if_neg c] at e ⊢; exact if_pos (by omega)
      rw [this, e, slot_new hnx hun]; exact new
    · unfold kU kun at *
      by_cases c : S.un = 8
      · rw [if_pos c] at e hi ⊢
        obtain ⟨s1, s2⟩ := slot_old8 (i := i) hnx (by omega)
        rw [if_pos c]
        simp only [show i < 7 by omega, if_true]
        rw [s1]
        have := h4 (i + 1) (by omega)
        rw [c] at this
        have := old _ _ slot_lt s2 this
        simp only [kun, if_pos c] at this
        exact this
      · rw [if_neg c] at e hi ⊢
        obtain ⟨s1, s2⟩ := slot_old (i := i) hnx (show S.un < 8 by omega) (by omega)
        rw [if_neg c]
        simp only [show ¬ i = S.un by omega, if_false]
        rw [s1]
        have := old _ _ slot_lt s2 (h4 i (by omega))
        simp only [kun, if_neg c] at this
        exact this
end PST
