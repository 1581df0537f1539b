/-! ===== reading and writing the shadow world ===== -/
def CF (c : Nat) (R : String) (T : u_T) (N : Nat) : Prop := vwCl[c]? = some (R, T, N) ∧ (∀ w ∈ u_ws R T N, w ∈ gw) ∧ (∀ k, k < N → parseFieldDescriptor (T k).2.2.1 = some (fty c k)) ∧ (∀ a, a < N → ∀ b, b < N → a ≠ b → (T a).2.1 ≠ (T b).2.1)
def FL (own : String) (idx : Nat) (T : u_T) (k : Nat) : Prop := (Cond.fieldLink own idx (T k).1 (T k).2.1 (T k).2.2.1 ∈ gw) ∨ ∃ host, (Cond.fieldLinkNest own idx (T k).1 (T k).2.1 (T k).2.2.1 host ∈ nestW)
theorem lay_good {R : String} {T : u_T} {N : Nat} (h : ∀ w ∈ u_ws R T N, w ∈ lw_tbl) : ∀ w ∈ u_ws R T N, w ∈ gw := by
  intro w hw
  refine gw_of (h w hw) ?_
  obtain ⟨k, -, rfl⟩ := List.mem_map.mp hw
  unfold u_lay
  split <;> rfl
theorem cf_0 : CF 0 RX0 TX0 3 := ⟨rfl, lay_good inX0, tyX0_ok, nmX0⟩
theorem cf_1 : CF 1 RX1 TX1 3 := ⟨rfl, lay_good inX1, tyX1_ok, nmX1⟩
theorem cf_2 : CF 2 RX2 TX2 6 := ⟨rfl, lay_good inX2, tyX2_ok, nmX2⟩
theorem cf_3 : CF 3 RX3 TX3 6 := ⟨rfl, lay_good inX3, tyX3_ok, nmX3⟩
theorem cf_4 : CF 4 RX4 TX4 17 := ⟨rfl, lay_good inX4, tyX4_ok, nmX4⟩
theorem cf_5 : CF 5 RX5 TX5 8 := ⟨rfl, lay_good inX5, tyX5_ok, nmX5⟩
theorem cf_6 : CF 6 RX6 TX6 13 := ⟨rfl, lay_good inX6, tyX6_ok, nmX6⟩
theorem cf_7 : CF 7 RX7 TX7 20 := ⟨rfl, lay_good inX7, tyX7_ok, nmX7⟩
theorem wI_at (L : HL) (a i : Nat) (v : Int32) : (wI L a i v).1 a i = v := by simp [wI]
theorem wI_ne (L : HL) {a i b j : Nat} (v : Int32) (h : ¬ (b = a ∧ j = i)) : (wI L a i v).1 b j = L.1 b j := by
  unfold wI
  by_cases h1 : b = a
  · by_cases h2 : j = i
    · exact absurd ⟨h1, h2⟩ h
    · simp [h1, h2]
  · simp [h1]
theorem wI_2 (L : HL) (a i : Nat) (v : Int32) : (wI L a i v).2 = L.2 := rfl
theorem wJ_at (L : HL) (a i : Nat) (v : Int64) : (wJ L a i v).2 a i = v := by simp [wJ]
theorem wJ_ne (L : HL) {a i b j : Nat} (v : Int64) (h : ¬ (b = a ∧ j = i)) : (wJ L a i v).2 b j = L.2 b j := by
  unfold wJ
  by_cases h1 : b = a
  · by_cases h2 : j = i
    · exact absurd ⟨h1, h2⟩ h
    · simp [h1, h2]
  · simp [h1]
theorem wJ_1 (L : HL) (a i : Nat) (v : Int64) : (wJ L a i v).1 = L.1 := rfl
/-- one cell has changed -/
theorem HP.one {E : Ev} {L L1 : HL} {H H1 : Heap} {a : Nat} {k : Kd} (h : HP E L H) (hk : eK E a = some k) (ho : ∀ q : Nat, q ≠ a → H1[q]? = H[q]?) (h1 : ∀ b, b ≠ a → ∀ i, L1.1 b i = L.1 b i) (h2 : ∀ b, b ≠ a → ∀ i, L1.2 b i = L.2 b i) (hc : cellIs E L1 a H1 k) : HP E L1 H1 := by
  intro b kb hb
  by_cases e : b = a
  · subst e
    rw [hk] at hb
    cases hb
    exact hc
  · have h0 := h b kb hb
    have ef : ∀ t i, fv t E L1 b i = fv t E L b i := by
      intro t i
      cases t <;> simp [fv, h1 b e i, h2 b e i]
    have ea : ∀ t i, av t E L1 b i = av t E L b i := by
      intro t i
      unfold av
      split <;> simp [h1 b e i]
    match kb, h0 with
    | .inl c, h0 =>
      obtain ⟨r, r1, r2⟩ := h0
      exact ⟨r, r1, (r2.kept (ho b e)).to (fun k _ => (ef _ _).symm)⟩
    | .inr x, h0 =>
      show H1[b]? = _
      rw [ho b e]
      have h3 : H[b]? = some (arrV (eA E x.1) x.2 (fun i => av x.1 E L b i)) := h0
      rw [h3]
      congr 2
      funext i
      exact (ea _ _).symm
theorem HS.step {E : Ev} {X : Xe} {H0 H H1 : Heap} {locs : List Loc} {a : Nat} {i : Nat} (h : HS E X H0 H locs) (hk : FA E a) (hz : H1.size = H.size) (ho : ∀ q : Nat, q ≠ a → H1[q]? = H[q]?) : HS E X H0 H1 (locs ++ [⟨a, i⟩]) := by
  refine ⟨by rw [hz]; exact h.1, fun q hq => ?_, fun x hx => ?_⟩
  · rw [ho q (fun e => by obtain ⟨k, hk⟩ := hk; rw [e, hk] at hq; cases hq), h.2.1 q hq]
  · rcases List.mem_append.mp hx with h1 | h1
    · exact h.2.2 x h1
    · rw [List.mem_singleton.mp h1]; exact hk
section HPR
variable {l : Launch} {E : Ev} {y : MethodName} {cc : ByteArray} {n : Nat} {ret : Option FieldType} {X : Xe} {L : HL} {pc : Nat} {lv : List (Nat × Value)} {st : List Value}
theorem sx_get {a c k idx : Nat} {R : String} {T : u_T} {N : Nat} {v : Value} (hd : decode cc pc = .ok (.getfield idx, 3)) (hk : eK E a = some (.inl c)) (hc : CF c R T N) (hf : FL y.cls idx T k) (hkN : k < N) (hv : fv (fty c k) E L a k = v) (kk : Sy l E y cc n ret X (pc + 3) lv (v :: st) L) : Sy l E y cc n ret X pc lv (.ref a :: st) L := by
  intro p e s m args below meth c0 H locs ls C hP hS hl
  have K := kk p e s m args below meth c0 H locs ls C hP hS hl
  obtain ⟨hx, hb, -, hown, hts, -, -, hKv, -⟩ := C
  obtain ⟨r0, h1, cell, q1, q2, q3, q4⟩ := hP a _ hk
  have hr : r0 = (R, T, N) := Option.some.inj (h1.symm.trans hc.1)
  subst hr
  obtain ⟨hSl, hfc, kC, hkC, hkind⟩ := hKv.1 c _ hc.1
  obtain ⟨cf, kf, fi, f, hi, hsl⟩ := hSl k hkN
  have hst := (u_facts hfc hkC (u_lays hts hc.2.1 hkN) hi).1
  have hval : cell.slots[f.slot]? = some v := by rw [hsl, q4 k hkN]; exact congrArg some hv
  rcases hf with hf | ⟨host, hf⟩
  · exact W.getf hx hb hown (hts _ hf) hi hst q1 (by rw [q3]; exact fun h => by cases h) hval rfl rfl hd K
  · exact va_Wgetf hx hb hown (va_Nw.use rfl (hKv.2.2.1 _ hf)) hi hst q1 (by rw [q3]; exact fun h => by cases h) hval rfl rfl hd K
theorem sx_put {a c k idx : Nat} {R : String} {T : u_T} {N : Nat} {v : Value} {L1 : HL} (hd : decode cc pc = .ok (.putfield idx, 3)) (hk : eK E a = some (.inl c)) (hc : CF c R T N) (hf : FL y.cls idx T k) (hkN : k < N) (hfin : (T k).2.2.2 = false) (hn : narrow (fty c k) v = v) (hfit : fits (fty c k) v = true)
    (h1 : ∀ b, b ≠ a → ∀ i, L1.1 b i = L.1 b i) (h2 : ∀ b, b ≠ a → ∀ i, L1.2 b i = L.2 b i) (hv : ∀ j, j < N → fv (fty c j) E L1 a j = if j = k then v else fv (fty c j) E L a j)
    (kk : Sy l E y cc n ret X (pc + 3) lv st L1) : Sy l E y cc n ret X pc lv (v :: .ref a :: st) L := by
  intro p e s m args below meth c0 H locs ls C hP hS hl
  have C' := C
  obtain ⟨hx, hb, -, hown, hts, -, -, hKv, -⟩ := C
  obtain ⟨r0, hr1, cell, q1, q2, q3, q4⟩ := hP a _ hk
  have hr : r0 = (R, T, N) := Option.some.inj (hr1.symm.trans hc.1)
  subst hr
  have hKc := hKv.1 c _ hc.1
  obtain ⟨hSl, hfc, kC, hkC, hkind⟩ := hKc
  have hap : ∀ x z, x < N → z < N → x ≠ z → (eD E).2 c x ≠ (eD E).2 c z := by
    intro x z hxN hzN hne
    obtain ⟨_, _, _, fa, hia, ea⟩ := hSl x hxN
    obtain ⟨_, _, _, fb, hib, eb⟩ := hSl z hzN
    rw [← ea, ← eb]
    refine u_apart (u_lays hts hc.2.1 hxN) (u_lays hts hc.2.1 hzN) hia hib ?_
    rw [(State.fieldFound?_type hia (hc.2.2.1 x hxN)).1, (State.fieldFound?_type hib (hc.2.2.1 z hzN)).1]
    exact hc.2.2.2 x hxN z hzN hne
  obtain ⟨cf, kf, fi, f, hi, hsl⟩ := hSl k hkN
  have hlay := hts _ (hc.2.1 _ (u_in_lay hkN))
  unfold u_lay at hlay
  rw [if_neg (by rw [hfin]; decide)] at hlay
  have hst := (u_facts hfc hkC (u_lays hts hc.2.1 hkN) hi).1
  have h6 := u_store hfc hkC hkind hlay hi (hc.2.2.1 k hkN) hn hfit
  have go : ∀ H' : Heap, H'[a]? = some (cell.setSlot f.slot v) → H'.size = H.size → (∀ q, q ≠ a → H'[q]? = H[q]?) → W p l e X.1 s m args below meth c0 H' (locs ++ [⟨a, f.slot⟩]) X.2.1 X.2.2.1 (X.2.2.2.1 s args below) (F0 m (pc + 3) ls st) := by
    intro H' e1 e2 e3
    rw [hsl] at e1
    refine kk p e s m args below meth c0 H' _ ls C' (hP.one hk e3 h1 h2 ⟨_, hc.1, t_OB.to (V := updV (fun j => fv (fty c j) E L a j) k v) ⟨_, e1, q2, q3, t_set q4 hap hkN v⟩ (fun j hj => ?_)⟩) (hS.step ⟨_, hk⟩ e2 e3) hl
    rw [hv j hj]
    rfl
  rcases hf with hf | ⟨host, hf⟩
  · exact W.putK hx hb (f := f) ⟨hown, hts _ hf, ⟨_, _, _, hi⟩, hst⟩ (by rw [q2]; exact h6) q1 q3 (by rw [hsl]; exact k2_hasslot (q4 k hkN)) rfl rfl hd go
  · exact va_WputK hx hb (f := f) hown (va_Nw.use rfl (hKv.2.2.1 _ hf)) hi hst (by rw [q2]; exact h6) q1 q3 (by rw [hsl]; exact k2_hasslot (q4 k hkN)) rfl rfl hd go
theorem fv_wI {E : Ev} {L : HL} {c a k : Nat} {v : Int32} (hk : fv (fty c k) E (wI L a k v) a k = .int v) (j : Nat) : fv (fty c j) E (wI L a k v) a j = if j = k then .int v else fv (fty c j) E L a j := by
  by_cases e : j = k
  · rw [if_pos e, e]; exact hk
  · rw [if_neg e]
    unfold fv
    split <;> simp [wI_ne L v (show ¬ (a = a ∧ j = k) from fun h => e h.2), wI_2]
theorem fv_wJ {E : Ev} {L : HL} {c a k : Nat} {v : Int64} (hk : fv (fty c k) E (wJ L a k v) a k = .long v) (j : Nat) : fv (fty c j) E (wJ L a k v) a j = if j = k then .long v else fv (fty c j) E L a j := by
  by_cases e : j = k
  · rw [if_pos e, e]; exact hk
  · rw [if_neg e]
    unfold fv
    split <;> simp [wJ_ne L v (show ¬ (a = a ∧ j = k) from fun h => e h.2), wJ_1]
theorem sx_putI {a c k idx : Nat} {R : String} {T : u_T} {N : Nat} {v : Int32} (hd : decode cc pc = .ok (.putfield idx, 3)) (hk : eK E a = some (.inl c)) (hc : CF c R T N) (hf : FL y.cls idx T k) (hkN : k < N) (hfin : (T k).2.2.2 = false) (hn : narrow (fty c k) (.int v) = .int v) (hfit : fits (fty c k) (.int v) = true) (hvv : fv (fty c k) E (wI L a k v) a k = .int ((wI L a k v).1 a k))
    (kk : ∀ L1 : HL, L1 = wI L a k v → Sy l E y cc n ret X (pc + 3) lv st L1) : Sy l E y cc n ret X pc lv (.int v :: .ref a :: st) L :=
  sx_put (L1 := wI L a k v) hd hk hc hf hkN hfin hn hfit (fun b hb i => wI_ne L v (fun h => hb h.1)) (fun b _ i => rfl) (fun j _ => fv_wI (by rw [hvv, wI_at]) j) (kk _ rfl)
theorem sx_putJ {a c k idx : Nat} {R : String} {T : u_T} {N : Nat} {v : Int64} (hd : decode cc pc = .ok (.putfield idx, 3)) (hk : eK E a = some (.inl c)) (hc : CF c R T N) (hf : FL y.cls idx T k) (hkN : k < N) (hfin : (T k).2.2.2 = false) (hn : narrow (fty c k) (.long v) = .long v) (hfit : fits (fty c k) (.long v) = true) (hvv : fv (fty c k) E (wJ L a k v) a k = .long ((wJ L a k v).2 a k))
    (kk : ∀ L1 : HL, L1 = wJ L a k v → Sy l E y cc n ret X (pc + 3) lv st L1) : Sy l E y cc n ret X pc lv (.long v :: .ref a :: st) L :=
  sx_put (L1 := wJ L a k v) hd hk hc hf hkN hfin hn hfit (fun b _ i => rfl) (fun b hb i => wJ_ne L v (fun h => hb h.1)) (fun j _ => fv_wJ (by rw [hvv, wJ_at]) j) (kk _ rfl)
theorem in_lt {i : Int32} {N : Nat} (h : vp_in i N) : i.toNatClampNeg < N := Nat.not_le.mp fun q => h (Or.inr q)
theorem sx_iald {a N : Nat} {i : Int32} (hd : decode cc pc = .ok (.iaload, 1)) (hk : eK E a = some (.inr (0, N))) (hin : vp_in i N) (kk : Sy l E y cc n ret X (pc + 1) lv (.int (L.1 a i.toNatClampNeg) :: st) L) : Sy l E y cc n ret X pc lv (.int i :: .ref a :: st) L := by
  intro p e s m args below meth c0 H locs ls C hP hS hl
  have K := kk p e s m args below meth c0 H locs ls C hP hS hl
  obtain ⟨hx, hb, -, -, -, -, -, hKv, -⟩ := C
  exact W.iald (v := .int (L.1 a i.toNatClampNeg)) hx hb (hP a _ hk) (hKv.2.1.1 N _) (fun q => by cases q) (by rw [arrV_size]; exact hin) (by rw [arrV_read _ _ (in_lt hin)]; rfl) rfl rfl hd K
theorem sx_zald {a N : Nat} {i : Int32} (hd : decode cc pc = .ok (.baload, 1)) (hk : eK E a = some (.inr (1, N))) (hin : vp_in i N) (kk : Sy l E y cc n ret X (pc + 1) lv (.int (L.1 a i.toNatClampNeg) :: st) L) : Sy l E y cc n ret X pc lv (.int i :: .ref a :: st) L := by
  intro p e s m args below meth c0 H locs ls C hP hS hl
  have K := kk p e s m args below meth c0 H locs ls C hP hS hl
  obtain ⟨hx, hb, -, -, -, -, -, hKv, -⟩ := C
  exact W.zald (v := .int (L.1 a i.toNatClampNeg)) hx hb (hP a _ hk) (hKv.2.1.2.1 N _) (fun q => by cases q) (by rw [arrV_size]; exact hin) (by rw [arrV_read _ _ (in_lt hin)]; rfl) rfl rfl hd K
theorem sx_aald {a N q : Nat} {i : Int32} (hd : decode cc pc = .ok (.aaload, 1)) (hk : eK E a = some (.inr (2, N))) (hin : vp_in i N) (hq : eR E a i.toNatClampNeg = q) (kk : Sy l E y cc n ret X (pc + 1) lv (.ref q :: st) L) : Sy l E y cc n ret X pc lv (.int i :: .ref a :: st) L := by
  intro p e s m args below meth c0 H locs ls C hP hS hl
  have K := kk p e s m args below meth c0 H locs ls C hP hS hl
  obtain ⟨hx, hb, -, -, -, -, -, hKv, -⟩ := C
  subst hq
  exact W.aald (v := .ref (eR E a i.toNatClampNeg)) (ty := .array .int) hx hb (hP a _ hk) (hKv.2.1.2.2 N _) rfl (fun q => by cases q) (by rw [arrV_size]; exact hin) (by rw [arrV_read _ _ (in_lt hin)]; rfl) rfl rfl hd K
theorem sx_alen {a N : Nat} {v : Int32} (hd : decode cc pc = .ok (.arraylength, 1)) (hk : eK E a = some (.inr (0, N))) (hv : Int32.ofNat N = v) (kk : Sy l E y cc n ret X (pc + 1) lv (.int v :: st) L) : Sy l E y cc n ret X pc lv (.ref a :: st) L := by
  intro p e s m args below meth c0 H locs ls C hP hS hl
  have K := kk p e s m args below meth c0 H locs ls C hP hS hl
  obtain ⟨hx, hb, -, -, -, -, -, hKv, -⟩ := C
  exact W.alen (n := v) hx hb (hP a _ hk) (hKv.2.1.1 N _) (by rw [arrV_size]; exact hv) rfl rfl hd K
theorem av_wI (E : Ev) (L : HL) {t : Nat} (ht : t = 0 ∨ t = 1) (a i : Nat) (v : Int32) : (fun j => av t E (wI L a i v) a j) = updV (fun j => av t E L a j) i (.int v) := by
  funext j
  rcases ht with rfl | rfl <;>
  · unfold updV
    by_cases e : j = i
    · rw [if_pos e, e]; show Value.int _ = _; rw [wI_at]
    · rw [if_neg e]; show Value.int _ = Value.int _; rw [wI_ne L v (show ¬ (a = a ∧ j = i) from fun h => e h.2)]
theorem sx_iast {a N : Nat} {i v : Int32} (hd : decode cc pc = .ok (.iastore, 1)) (hk : eK E a = some (.inr (0, N))) (hin : vp_in i N) (kk : ∀ L1 : HL, L1 = wI L a i.toNatClampNeg v → Sy l E y cc n ret X (pc + 1) lv st L1) : Sy l E y cc n ret X pc lv (.int v :: .int i :: .ref a :: st) L := by
  intro p e s m args below meth c0 H locs ls C hP hS hl
  have C' := C
  obtain ⟨hx, hb, -, -, -, -, -, hKv, -⟩ := C
  refine W.iast hx hb (hP a _ hk) (hKv.2.1.1 N _) (fun q => by cases q) (by rw [arrV_size]; exact hin) rfl rfl hd fun H1 e1 z oq => ?_
  refine kk _ rfl p e s m args below meth c0 H1 _ ls C' (hP.one hk oq (fun b hb i => wI_ne L v (fun h => hb h.1)) (fun b _ i => rfl) ?_) (hS.step ⟨_, hk⟩ z oq) hl
  show H1[a]? = some (arrV _ _ _)
  rw [e1, arrV_store, av_wI E L (Or.inl rfl)]
theorem sx_zast {a N : Nat} {i v : Int32} (hd : decode cc pc = .ok (.bastore, 1)) (hk : eK E a = some (.inr (1, N))) (hin : vp_in i N) (hn : narrow .boolean (.int v) = .int v) (kk : ∀ L1 : HL, L1 = wI L a i.toNatClampNeg v → Sy l E y cc n ret X (pc + 1) lv st L1) : Sy l E y cc n ret X pc lv (.int v :: .int i :: .ref a :: st) L := by
  intro p e s m args below meth c0 H locs ls C hP hS hl
  have C' := C
  obtain ⟨hx, hb, -, -, -, -, -, hKv, -⟩ := C
  refine W.zast hx hb (hP a _ hk) (hKv.2.1.2.1 N _) (fun q => by cases q) (by rw [arrV_size]; exact hin) rfl rfl hd fun H1 e1 z oq => ?_
  refine kk _ rfl p e s m args below meth c0 H1 _ ls C' (hP.one hk oq (fun b hb i => wI_ne L v (fun h => hb h.1)) (fun b _ i => rfl) ?_) (hS.step ⟨_, hk⟩ z oq) hl
  show H1[a]? = some (arrV _ _ _)
  rw [e1, hn, arrV_store, av_wI E L (Or.inr rfl)]
/-! the ends -/
theorem qr_of {E : Ev} {d : Nat} {r : Option Value} {L' : HL} {L : HL} {H : Heap} {locs : List Loc} {s t : State} {args : Array Value} {r0 : Option Value} (hP : HP E L H) (hS : HS E (xm E d r L') s.heap H locs) (ht : t.heap = H) : Qr E r0 L args s (.returned r0) t :=
  ⟨rfl, by rw [ht]; exact hP, by rw [ht]; exact hS.1, fun q hq => by rw [ht]; exact hS.2.1 q hq⟩
theorem sx_iret {d : Nat} {r : Option Value} {L' : HL} {v : Int32} {ty : FieldType} (hd : decode cc pc = .ok (.ireturn, 1)) (hr : ret = some ty) (hn : narrow ty (.int v) = .int v) (he : r = some (.int v)) (hL : L' = L) : Sx l E y cc n ret d r L' pc lv [.int v] L := by
  intro p e s m args below meth c0 H locs ls C hP hS hl
  obtain ⟨hx, hb, -, -, -, hrt, hlk, -, -⟩ := C
  subst he; subst hL
  exact W.zret hx hb (hrt.trans hr) hn (fun t ht _ => qr_of hP hS ht) hS.2.2 hd hlk.1
theorem sx_lret {d : Nat} {r : Option Value} {L' : HL} {v : Int64} (hd : decode cc pc = .ok (.lreturn, 1)) (hr : ret = some .long) (he : r = some (.long v)) (hL : L' = L) : Sx l E y cc n ret d r L' pc lv [.long v] L := by
  intro p e s m args below meth c0 H locs ls C hP hS hl
  obtain ⟨hx, hb, -, -, -, hrt, hlk, -, -⟩ := C
  subst he; subst hL
  exact W.lret hx hb (hrt.trans hr) (fun t ht _ => qr_of hP hS ht) hS.2.2 hd hlk.1
theorem sx_vret {d : Nat} {r : Option Value} {L' : HL} (hd : decode cc pc = .ok (.return_, 1)) (hr : ret = none) (he : r = none) (hL : L' = L) : Sx l E y cc n ret d r L' pc lv [] L := by
  intro p e s m args below meth c0 H locs ls C hP hS hl
  obtain ⟨hx, hb, -, -, -, hrt, hlk, -, -⟩ := C
  subst he; subst hL
  exact W.vret hx hb (hrt.trans hr) (fun t ht _ => qr_of hP hS ht) hS.2.2 hd hlk.1
theorem sx_aret {d : Nat} {r : Option Value} {L' : HL} {a : Nat} {nm : String} (hd : decode cc pc = .ok (.areturn, 1)) (hr : ret = some (.object nm)) (he : r = some (.ref a)) (hL : L' = L) : Sx l E y cc n ret d r L' pc lv [.ref a] L := by
  intro p e s m args below meth c0 H locs ls C hP hS hl
  obtain ⟨hx, hb, -, -, -, hrt, hlk, -, -⟩ := C
  subst he; subst hL
  exact W.aret hx hb (hrt.trans hr) (Or.inl ⟨_, rfl⟩) (Or.inr ⟨_, rfl⟩) (fun t ht _ => qr_of hP hS ht) hS.2.2 hd hlk.1
/-! calls -/
def CN (y : MethodName) (k : Nat) : Prop := y.cls ≠ "java/lang/invoke/MethodHandle" ∧ y.cls ≠ "java/lang/invoke/VarHandle" ∧ (parseMethodDescriptor y.desc).map (fun d => d.parameters.length) = some k
def CB (y : MethodName) (cc : ByteArray) (n : Nat) (ret : Option FieldType) (k : Nat) : Prop := Cond.code y cc n ret ∈ gw ∧ Cond.initialized y.cls ∈ gw ∧ CN y k
def CI (y : MethodName) (cc : ByteArray) (n : Nat) (ret : Option FieldType) (k : Nat) : Prop := CB y cc n ret k ∧ Cond.instanceMethod y ∈ gw ∧ Cond.selects y.cls y y ∈ gw
def CT (y : MethodName) (cc : ByteArray) (n : Nat) (ret : Option FieldType) (k : Nat) : Prop := CB y cc n ret k ∧ Cond.static y ∈ gw
/-- the call's own link: a plain one, or one among nest mates -/
def ML (own : String) (idx : Nat) (y : MethodName) : Prop := Cond.methodLink own idx y ∈ gw ∨ ∃ host, Cond.methodLinkNest own idx y host ∈ nestW
theorem gw_good : ∀ w ∈ gw, (w.onTables && w.keeps) = true ∨ ∃ ty, w = .arrayClass ty := fun w hw => good_of_word (List.mem_filter.mp hw).2
theorem gin {y : MethodName} {cc : ByteArray} {n : Nat} {ret : Option FieldType} (h : Cond.code y cc n ret ∈ gw) : GoodIn gw (.code y cc n ret :: gw) := by
  intro w hw
  rcases List.mem_cons.mp hw with rfl | hw
  · exact ⟨h, gw_good _ h⟩
  · exact ⟨hw, gw_good _ hw⟩
theorem Pr.blind (E : Ev) (av : List Value) (L : HL) : FrameBlind (Pr E av L) := by
  intro a U g mk h
  exact ⟨h.1, h.2.1, EKv.same (s := U) rfl h.2.2.1, EKh.to (s := U) (Vm.Alike.refl _) (fun _ _ _ => rfl) h.2.2.2⟩
theorem Pr.go {E : Ev} {X : Xe} {av : List Value} {L : HL} {s U : State} {H : Heap} {locs : List Loc} (hU : U.heap = H) (hW : s.WarmedH U.vm) (hP : HP E L H) (hS : HS E X s.heap H locs) (hKv : EKv E s) (hKh : EKh E s s.heap) : Pr E av L av.toArray U :=
  ⟨rfl, by rw [hU]; exact hP, hKv.warm hW, by rw [hU]; exact EKh.to hW.alike (fun q _ hn => hS.2.1 q (FA.no hn)) hKh⟩
theorem call_go {p : Program} {e : Env} {s : State} {m : MethodId} {args : Array Value} {below : List Frame} {meth : Method} {c : Code} {H : Heap} {locs : List Loc} {ls : Array Slot} {st0 rest st1 : List Value} {r1 : Option Value} {L1 : HL} {a : Array Value}
    (hr : va_Run p l e X.1 s m args below meth c H locs X.2.1 X.2.2.1 0 0 (F0 m pc ls st0) rest (Qr E r1 L1 a) (FA E)) (C : Cx E y cc n ret X p s m args meth c) (hS : HS E X s.heap H locs) (hl : lv_has ls n lv) (h1 : r1.toList ++ rest = st1) (kk : Sy l E y cc n ret X (pc + 3) lv st1 L1) :
    W p l e X.1 s m args below meth c H locs X.2.1 X.2.2.1 (X.2.2.2.1 s args below) (F0 m pc ls st0) := by
  subst h1
  intro T hT X
  obtain ⟨v, st₀, t, T', Lc, h0, X', hL, e1, e2, ⟨hv1, hP1, hz, hk⟩, st⟩ := hr T hT X
  cases hv1
  obtain ⟨t2, a1, b1⟩ := kk p e s m args below meth c T'.heap (locs ++ Lc) ls C (by rw [e1]; exact hP1) ⟨by rw [e1, hz, h0]; exact hS.1, fun q hq => by rw [e1, hk q hq, h0]; exact hS.2.1 q hq, fun x hx => by
    rcases List.mem_append.mp hx with h | h
    · exact hS.2.2 x h
    · exact hL x h⟩ hl T' rfl X'
  exact ⟨t2, st t2 a1, b1⟩
theorem sx_recv {s : State} {H : Heap} {b c : Nat} {q : vw_C} (hKv : EKv E s) (hP : HP E L H) (hk : eK E b = some (.inl c)) (hc : vwCl[c]? = some q) : ∃ cell : Cell, H[b]? = some cell ∧ cell.vm.isStatics = false ∧ s.vm.findClass q.1 = some cell.cls := by
  obtain ⟨r0, h1, cell, q1, q2, q3, q4⟩ := hP b _ hk
  obtain ⟨hSl, hfc, -⟩ := hKv.1 c _ hc
  exact ⟨cell, q1, by rw [q3]; rfl, by rw [q2]; exact hfc⟩
theorem sx_callV {y2 : MethodName} {cc2 : ByteArray} {n2 d2 idx b ci : Nat} {ret2 : Option FieldType} {avs rest st1 : List Value} {r1 : Option Value} {L1 : HL} {k : Nat} {q : vw_C} (hd : decode cc pc = .ok (.invokevirtual idx, 3)) (hM : Mt l E y2 cc2 n2 ret2 d2 (.ref b :: avs) L r1 L1) (hw : CI y2 cc2 n2 ret2 k) (hl2 : ML y.cls idx y2) (hk : eK E b = some (.inl ci)) (hc : vwCl[ci]? = some q) (hq : q.1 = y2.cls) (hn : avs.length = k) (hst : st = avs.reverse ++ .ref b :: rest) (hrm : RM X d2) (hn2 : Nat.ble n2 29 = true) (hcat : (rest.map fun v => v.category).sum ≤ 8) (h1 : r1.toList ++ rest = st1)
    (kk : Sy l E y cc n ret X (pc + 3) lv st1 L1) : Sy l E y cc n ret X pc lv st L := by
  intro p e s m args below meth c H locs ls C hP hS hl
  have hn2 := Nat.le_of_ble_eq_true hn2
  have C' := C
  obtain ⟨hx, hb, hml, hown, hts, -, -, hKv, hKh⟩ := C
  have hpre : PreV s H y2.cls b (Pr E (.ref b :: avs) L) avs := ⟨Pr.blind _ _ _, by rw [← hq]; exact sx_recv hKv hP hk hc, fun U hU hW => Pr.go hU hW hP hS hKv hKh⟩
  have hR : (rmd d2).frames + 1 ≤ X.1.frames ∧ 8 + (n2 + 11) + (rmd d2).locals ≤ X.1.locals := ⟨hrm.1, by have h9 := hrm.2.1; show 8 + (n2 + 11) + 48 * d2 ≤ _; omega⟩
  subst hst
  rcases hl2 with hl2 | ⟨host, hl2⟩
  · exact call_go (va_runV (As := avs) (rest := rest) (Ts := gw) (own := y.cls) ⟨hx, hb, hml, hown, hts⟩ hM ⟨callB_of k hts (gin hw.1.1) rfl rfl rfl (hts _ hw.1.2.1) (hts _ hl2) hw.1.2.2 hR, hts _ hw.2.1, hts _ hw.2.2⟩ hpre rfl hn hl.1 rfl (lv_room hcat) hd ⟨hrm.2.2.1, hrm.2.2.2⟩) C' hS hl h1 kk
  · exact call_go (va_runVN (As := avs) (rest := rest) (Ts := gw) (own := y.cls) ⟨hx, hb, hml, hown, hts⟩ hM ⟨va_cnB k hts (gin hw.1.1) rfl rfl rfl (hKv.2.2.1 _ hl2) (hts _ hw.1.2.1) hw.1.2.2 hR, hts _ hw.2.1, hts _ hw.2.2⟩ hpre rfl hn hl.1 rfl (lv_room hcat) hd ⟨hrm.2.2.1, hrm.2.2.2⟩) C' hS hl h1 kk
theorem sx_callS {y2 : MethodName} {cc2 : ByteArray} {n2 d2 idx : Nat} {ret2 : Option FieldType} {avs rest st1 : List Value} {r1 : Option Value} {L1 : HL} {k : Nat} (hd : decode cc pc = .ok (.invokestatic idx, 3)) (hM : Mt l E y2 cc2 n2 ret2 d2 avs L r1 L1) (hw : CT y2 cc2 n2 ret2 k) (hl2 : ML y.cls idx y2) (hn : avs.length = k) (hst : st = avs.reverse ++ rest) (hrm : RM X d2) (hn2 : Nat.ble n2 29 = true) (hcat : (rest.map fun v => v.category).sum ≤ 8) (h1 : r1.toList ++ rest = st1)
    (kk : Sy l E y cc n ret X (pc + 3) lv st1 L1) : Sy l E y cc n ret X pc lv st L := by
  intro p e s m args below meth c H locs ls C hP hS hl
  have hn2 := Nat.le_of_ble_eq_true hn2
  have C' := C
  obtain ⟨hx, hb, hml, hown, hts, -, -, hKv, hKh⟩ := C
  have hpre : PreS s H (Pr E avs L) avs := ⟨Pr.blind _ _ _, fun U hU hW => Pr.go hU hW hP hS hKv hKh⟩
  have hR : (rmd d2).frames + 1 ≤ X.1.frames ∧ 8 + (n2 + 11) + (rmd d2).locals ≤ X.1.locals := ⟨hrm.1, by have h9 := hrm.2.1; show 8 + (n2 + 11) + 48 * d2 ≤ _; omega⟩
  subst hst
  rcases hl2 with hl2 | ⟨host, hl2⟩
  · exact call_go (va_runS (As := avs) (rest := rest) (Ts := gw) (own := y.cls) ⟨hx, hb, hml, hown, hts⟩ hM ⟨callB_of k hts (gin hw.1.1) rfl rfl rfl (hts _ hw.1.2.1) (hts _ hl2) hw.1.2.2 hR, hts _ hw.2⟩ hpre rfl hn hl.1 rfl (lv_room hcat) hd ⟨hrm.2.2.1, hrm.2.2.2⟩) C' hS hl h1 kk
  · exact call_go (va_runSN (As := avs) (rest := rest) (Ts := gw) (own := y.cls) ⟨hx, hb, hml, hown, hts⟩ hM ⟨va_cnB k hts (gin hw.1.1) rfl rfl rfl (hKv.2.2.1 _ hl2) (hts _ hw.1.2.1) hw.1.2.2 hR, hts _ hw.2, trivial⟩ hpre rfl hn hl.1 rfl (lv_room hcat) hd ⟨hrm.2.2.1, hrm.2.2.2⟩) C' hS hl h1 kk
end HPR
