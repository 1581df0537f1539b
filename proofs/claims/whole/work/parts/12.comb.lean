section HPC
variable {l : Launch} {E : Ev} {y : MethodName} {cc : ByteArray} {n : Nat} {ret : Option FieldType} {X : Xe} {L : HL} {pc : Nat} {lv : List (Nat × Value)} {st : List Value}
theorem nfw_le : nativeFrameWords "java/lang/System" "arraycopy" 5 + 11 ≤ 40 := by decide +kernel
theorem sx_copy {idx a0 a n0 n1 : Nat} {sp dp k : Int32} (hd : decode cc pc = .ok (.invokestatic idx, 3)) (hlk : Cond.methodLink y.cls idx arraycopyName ∈ gw) (hnat : Cond.native arraycopyName ∈ gw) (hstat : Cond.static arraycopyName ∈ gw) (hini : Cond.initialized "java/lang/System" ∈ gw) (hk0 : eK E a0 = some (.inr (0, n0))) (hk1 : eK E a = some (.inr (0, n1))) (hne : a0 ≠ a)
    (h1 : ¬ sp < 0) (h2 : ¬ dp < 0) (h3 : ¬ k < 0) (h4 : sp.toNatClampNeg + k.toNatClampNeg ≤ n0) (h5 : dp.toNatClampNeg + k.toNatClampNeg ≤ n1) (hdd : RM X 0) (hcat : (st.map fun v => v.category).sum ≤ 8)
    (kk : ∀ L1 : HL, L1 = wC L a0 sp.toNatClampNeg a dp.toNatClampNeg k.toNatClampNeg → Sy l E y cc n ret X (pc + 3) lv st L1) : Sy l E y cc n ret X pc lv (.int k :: .int dp :: .ref a :: .int sp :: .ref a0 :: st) L := by
  intro p e s m args below meth c H locs ls C hP hS hl
  have C' := C
  obtain ⟨hx, hb, hml, hown, hts, -, -, hKv, hKh⟩ := C
  have nn : ∀ z : Int32, ¬ z < 0 → z.toInt = (z.toNatClampNeg : Int) := by
    intro z hz
    have hz0 : (0 : Int) ≤ z.toInt := by
      have := Int32.not_lt.mp hz
      simpa using Int32.le_iff_toInt_le.mp this
    show z.toInt = ((z.toInt.toNat : Nat) : Int)
    omega
  have hc0 : H[a0]? = some (vp_cell (eA E 0) (n0, .inl (L.1 a0))) := hP a0 _ hk0
  have hc1 : H[a]? = some (vp_cell (eA E 0) (n1, .inl (L.1 a))) := hP a _ hk1
  obtain ⟨-, k0, hkk, cm0, hkk0⟩ := hKv.2.1.1 n0 (fun j => .int (L.1 a0 j))
  obtain ⟨-, k1, hkk', cm1, hkk1⟩ := hKv.2.1.1 n1 (fun j => .int (L.1 a j))
  intro T hT X
  obtain ⟨vm', X', step⟩ := X.arraycopy hx hown (hts _ hlk) (hts _ hnat) (hts _ hstat) (hts _ hini) (src := a0) (dst := a) (cs := vp_cell (eA E 0) (n0, .inl (L.1 a0))) (cd := vp_cell (eA E 0) (n1, .inl (L.1 a))) (srcPos := sp) (destPos := dp) (n := k) (by rw [hT]; exact hc0) (by rw [hT]; exact hc1)
    (fun _ h => by cases h) (fun _ h => by cases h) (fun h => by cases h) (fun h => by cases h) hkk hkk' hkk0 hkk1 (by rfl) h1 h2 h3
    (by rw [nn sp h1, nn k h3]; show ¬ _ > ((arrV (eA E 0) n0 (fun j => .int (L.1 a0 j))).slots.size : Int); rw [arrV_size]; omega)
    (by rw [nn dp h2, nn k h3]; show ¬ _ > ((arrV (eA E 0) n1 (fun j => .int (L.1 a j))).slots.size : Int); rw [arrV_size]; omega)
    (fun vm₁ _ i hi => by
      have e : (vp_cell (eA E 0) (n0, .inl (L.1 a0))).slots.getD (sp.toNatClampNeg + i) .null = .int (L.1 a0 (sp.toNatClampNeg + i)) := by
        show (arrV (eA E 0) n0 (fun j => .int (L.1 a0 j))).slots.getD _ _ = _
        rw [Array.getD_eq_getD_getElem?, arrV_read _ _ (by omega)]
        rfl
      refine ⟨?_, ?_⟩
      · rw [e]; rfl
      · rw [e]; exact trivial)
    (g := F0 m pc ls (.int k :: .int dp :: .ref a :: .int sp :: .ref a0 :: st)) rfl (by rw [hml]; exact hl.1) (rest := st) rfl (by rw [hb]; exact hd) hdd.1 (by have := nfw_le; have h9 := hdd.2.1; show 2 * 0 + _ + _ ≤ _; omega)
  have e1 : copied (vp_cell (eA E 0) (n0, .inl (L.1 a0))) (vp_cell (eA E 0) (n1, .inl (L.1 a))) sp dp k = vp_cell (eA E 0) (n1, .inl (va_cpy (L.1 a0) (L.1 a) sp.toNatClampNeg dp.toNatClampNeg k.toNatClampNeg)) := va_copied (fun z => .int z) (eA E 0) (eA E 0) (L.1 a0) (L.1 a) h4
  rw [e1] at X' step
  have hlt : a < H.size := (Array.getElem?_eq_some_iff.mp hc1).1
  have hheap : ((T.setVm vm').setCell a (vp_cell (eA E 0) (n1, .inl (va_cpy (L.1 a0) (L.1 a) sp.toNatClampNeg dp.toNatClampNeg k.toNatClampNeg)))).heap = H.setIfInBounds a (vp_cell (eA E 0) (n1, .inl (va_cpy (L.1 a0) (L.1 a) sp.toNatClampNeg dp.toNatClampNeg k.toNatClampNeg))) := by rw [← hT]; rfl
  have oq : ∀ q : Nat, q ≠ a → (H.setIfInBounds a (vp_cell (eA E 0) (n1, .inl (va_cpy (L.1 a0) (L.1 a) sp.toNatClampNeg dp.toNatClampNeg k.toNatClampNeg))))[q]? = H[q]? := fun q hq => by simp [Array.getElem?_setIfInBounds, Ne.symm hq]
  obtain ⟨t, a1, b1⟩ := kk _ rfl p e s m args below meth c _ _ ls C' (hP.one hk1 oq (fun b hb i => by simp [wC, hb]) (fun b _ i => rfl) (by
      show (H.setIfInBounds a _)[a]? = some (arrV _ _ _)
      rw [show (H.setIfInBounds a (vp_cell (eA E 0) (n1, .inl (va_cpy (L.1 a0) (L.1 a) sp.toNatClampNeg dp.toNatClampNeg k.toNatClampNeg))))[a]? = some (vp_cell (eA E 0) (n1, .inl (va_cpy (L.1 a0) (L.1 a) sp.toNatClampNeg dp.toNatClampNeg k.toNatClampNeg))) by simp [Array.getElem?_setIfInBounds, hlt]]
      rw [vp_cell_i]
      congr 2
      funext j
      show Value.int _ = Value.int _
      simp [wC, va_cpy])) ⟨by rw [Array.size_setIfInBounds]; exact hS.1, fun q hq => by
      rw [oq q (fun e => by rw [e, hk1] at hq; cases hq)]
      exact hS.2.1 q hq, fun x hx => by
      rcases List.mem_append.mp hx with h | h
      · exact hS.2.2 x h
      · obtain ⟨z, -, hz⟩ := List.mem_map.mp h
        rw [← hz]
        exact ⟨_, hk1⟩⟩ hl _ hheap X'
  exact ⟨t, step t a1, b1⟩
end HPC
/-! ===== the functions: what a method does, as a program prints it ===== -/
def lt {α β : Type} (e : α) (k : α → β) : β := k e
def gd {α : Type} (c : Prop) [Decidable c] (k : Option α) : Option α := if c then k else none
def bd {α β : Type} (x : Option α) (k : α → Option β) : Option β := match x with
  | none => none
  | some v => k v
/-- a loop's turn: it goes on (.inl), leaves (.inr (.inl)), or the method returns (.inr (.inr)) -/
abbrev Tn (σ α : Type) : Type := σ ⊕ (σ ⊕ α)
def lp {σ ρ : Type} (f : σ → Option (σ ⊕ ρ)) : Nat → σ → Option ρ
  | 0, _ => none
  | k + 1, s => match f s with
    | none => none
    | some (.inl s') => lp f k s'
    | some (.inr x) => some x
def lx {σ α β : Type} (x : Option (σ ⊕ α)) (kr : α → Option β) (k : σ → Option β) : Option β := match x with
  | none => none
  | some (.inl s) => k s
  | some (.inr v) => kr v
theorem lt_e {α β : Type} {e v : α} {k : α → Option β} {o : β} (hv : v = e) (h : lt e k = some o) : k v = some o := by subst hv; exact h
theorem gd_e {α : Type} {c : Prop} [Decidable c] {k : Option α} {o : α} (h : gd c k = some o) : c ∧ k = some o := by
  unfold gd at h
  split at h
  · exact ⟨by assumption, h⟩
  · cases h
theorem bd_e {α β : Type} {x : Option α} {k : α → Option β} {o : β} (h : bd x k = some o) : ∃ v, x = some v ∧ k v = some o := by
  unfold bd at h
  split at h
  · cases h
  · exact ⟨_, rfl, h⟩
theorem if_e {α : Type} {c : Prop} [Decidable c] {x z : Option α} {o : α} (hc : c) (h : (if c then x else z) = some o) : x = some o := by rw [if_pos hc] at h; exact h
theorem if_n {α : Type} {c : Prop} [Decidable c] {x z : Option α} {o : α} (hc : ¬ c) (h : (if c then x else z) = some o) : z = some o := by rw [if_neg hc] at h; exact h
theorem lx_e {σ α β : Type} {x : Option (σ ⊕ α)} {kr : α → Option β} {k : σ → Option β} {o : β} (h : lx x kr k = some o) : ∃ z, x = some z ∧ (∀ s, z = .inl s → k s = some o) ∧ ∀ v, z = .inr v → kr v = some o := by
  unfold lx at h
  split at h
  · cases h
  · exact ⟨_, rfl, fun s e => (by cases e; exact h), fun v e => (by cases e)⟩
  · exact ⟨_, rfl, fun s e => (by cases e), fun v e => (by cases e; exact h)⟩
/-- a loop ends where its turns do -/
theorem lp_go {σ ρ : Type} {f : σ → Option (σ ⊕ ρ)} (P : σ → Prop) (x : ρ) (hb : ∀ s z, f s = some z → (∀ s', z = .inl s' → P s') → (∀ x', z = .inr x' → x' = x) → P s) : ∀ k s, lp f k s = some x → P s := by
  intro k
  induction k with
  | zero => intro s h; cases h
  | succ k ih =>
    intro s h
    unfold lp at h
    split at h
    · cases h
    · next s' e => exact hb s _ e (fun s'' q => by cases q; exact ih _ h) (fun x' q => by cases q)
    · next x' e => exact hb s _ e (fun s'' q => by cases q) (fun x'' q => by cases q; exact Option.some.inj h)
theorem sw_out {x : Int32} {lo : Int} {k : Nat} (vs : List Int32) (hv : vs.map Int32.toInt = (List.range k).map (fun (i : Nat) => lo + (i : Int))) (h : ∀ v ∈ vs, ¬ x = v) : x.toInt < lo ∨ lo + (k : Int) - 1 < x.toInt := by
  by_cases h1 : x.toInt < lo
  · exact Or.inl h1
  · by_cases h2 : lo + (k : Int) - 1 < x.toInt
    · exact Or.inr h2
    · exfalso
      have hm : x.toInt ∈ vs.map Int32.toInt := by
        rw [hv]
        exact List.mem_map.mpr ⟨(x.toInt - lo).toNat, List.mem_range.mpr (by omega), by omega⟩
      obtain ⟨v, hv1, hv2⟩ := List.mem_map.mp hm
      exact h v hv1 (Int32.toInt_inj.mp hv2.symm)
