
/-! ===== the constructors: cells made one behind the other ===== -/
def rmk (d mc ms : Nat) : Room := { frames := d, cells := mc, slots := ms, locals := 48 * d }
def arrIs (comp : ClassId) (x : Class) : Bool := match x.kind with
  | .array component _ => component == comp
  | _ => false
theorem arr_bare (vm : Vm) (comp : ClassId) : vm.bare.classes.findIdx? (arrIs comp) = vm.classes.findIdx? (arrIs comp) := by
  simp only [Vm.bare, Array.findIdx?_map]
  rfl
theorem ao_spec {U : State} (h : (Cond.arrayOver (.array .int)).before #[] U = true) : ∃ (comp c : ClassId) (k : Class), U.vm.findClass (FieldType.array .int).toString = some comp ∧ U.vm.classes.findIdx? (arrIs comp) = some c ∧ U.vm.classes[c]? = some k ∧ k.kind = .array comp (.array .int) ∧ U.vm.findClass ("[" ++ (FieldType.array .int).toString) = some c := by
  unfold Cond.before at h
  simp only [Cond.holds, Cond.value, beq_iff_eq] at h
  cases hc : U.vm.findClass (FieldType.array .int).toString with
  | none => simp [hc] at h
  | some comp =>
    simp only [hc, Option.bind_some, Option.bind_eq_some_iff, Option.map_eq_some_iff] at h
    obtain ⟨c, hi, k, hk, hb⟩ := h
    obtain ⟨hlt, hp, -⟩ := Array.findIdx?_eq_some_iff_getElem.mp hi
    have hkk : U.vm.classes[c] = k := (Array.getElem?_eq_some_iff.mp hk).2
    rw [hkk] at hp
    cases hkind : k.kind with
    | array component ty =>
      rw [hkind] at hb hp
      simp at hb hp
      refine ⟨comp, c, k, rfl, hi, hk, ?_, hb.2⟩
      rw [hkind, hp, hb.1]
    | _ => rw [hkind] at hp; simp at hp
theorem ao_moved {u U : State} (hvm : u.vm.Alike U.vm) (h : va_Nw (.arrayOver (.array .int)) u) : va_Nw (.arrayOver (.array .int)) U := by
  obtain ⟨comp, c, k, h1, h2, h3, h4, h5⟩ := ao_spec h
  obtain ⟨k', hk', he⟩ := hvm.2.2 _ _ h3
  have hi : U.vm.classes.findIdx? (arrIs comp) = some c := by
    rw [← arr_bare]
    first | rw [hvm.bare_eq] | rw [← hvm.bare_eq]
    rw [arr_bare]
    exact h2
  have hkind : k'.kind = .array comp (.array .int) := by rw [he]; exact h4
  have f1 : U.vm.findClass (FieldType.array .int).toString = some comp := by rw [hvm.findClass]; exact h1
  have f2 : U.vm.findClass ("[" ++ (FieldType.array .int).toString) = some c := by rw [hvm.findClass]; exact h5
  unfold va_Nw Cond.before Cond.holds
  simp only [Cond.value]
  rw [f1, Option.bind_some]
  refine (congrArg (fun o : Option Nat => (o.bind (fun c => (U.vm.classes[c]?).map fun (k : Class) => match k.kind with | .array _ ty => decide (ty = FieldType.array .int) && decide (U.vm.findClass ("[" ++ (FieldType.array .int).toString) = some c) | _ => false) == some true)) hi).trans ?_
  simp [hk', hkind, f2]
def AK (E : Ev) (U : State) : Prop := va_Nw (.arrayOver (.array .int)) U ∧ U.vm.findClass ("[" ++ FieldType.int.toString) = some (eA E 0) ∧ U.vm.findClass ("[" ++ FieldType.boolean.toString) = some (eA E 1) ∧ U.vm.findClass ("[" ++ (FieldType.array .int).toString) = some (eA E 2)
theorem AK.moved {E : Ev} {u U : State} (hv : u.vm.Alike U.vm) (h : AK E u) : AK E U := ⟨ao_moved hv h.1, by rw [hv.findClass]; exact h.2.1, by rw [hv.findClass]; exact h.2.2.1, by rw [hv.findClass]; exact h.2.2.2⟩
def Pk (E : Ev) (b c : Nat) : Array Value → State → Prop := fun v U => v = [Value.ref b].toArray ∧ U.heap.size = b + 1 ∧ (∃ r : vw_C, vwCl[c]? = some r ∧ t_OB b ((eD E).1 c) r.2.2 ((eD E).2 c) U.heap (fun k => defaultValue (fty c k))) ∧ EKv E U ∧ EKh E U U.heap ∧ AK E U
def Qk (E : Ev) (L : HL) (b sz : Nat) : Array Value → State → Outcome → State → Prop := fun _ st o t => o = .returned none ∧ t.heap.size = b + sz ∧ (∀ (q : Nat) (k : Kd), b ≤ q → q < b + sz → eK E q = some k → cellIs E L q t.heap k) ∧ ∀ q : Nat, q < b → t.heap[q]? = st.heap[q]?
def Mk (l : Launch) (E : Ev) (L : HL) (y : MethodName) (cc : ByteArray) (d c sz mc ms b : Nat) : Prop := Met l y (.code y cc 1 none :: gw) (rmk d mc ms) (Pk E b c) (Qk E L b sz) mc ms (fun q => b ≤ q)
theorem Pk.blind (E : Ev) (b c : Nat) : FrameBlind (Pk E b c) := by
  intro a U g mk h
  exact ⟨h.1, h.2.1, h.2.2.1, EKv.same (s := U) rfl h.2.2.2.1, EKh.to (s := U) (Vm.Alike.refl _) (fun _ _ _ => rfl) h.2.2.2.2.1, AK.moved (u := U) (Vm.Alike.refl _) h.2.2.2.2.2⟩
theorem cellIs.kept {E : Ev} {L : HL} {a : Nat} {H H1 : Heap} {k : Kd} (h : cellIs E L a H k) (hq : H1[a]? = H[a]?) : cellIs E L a H1 k := by
  match k, h with
  | .inl c, h => obtain ⟨r, h1, h2⟩ := h; exact ⟨r, h1, h2.kept hq⟩
  | .inr x, h => exact hq.trans h
section CTN
variable {p : Program} {l : Launch} {e : Env} {R : Room} {s : State} {m : MethodId} {args : Array Value} {below : List Frame} {meth : Method} {c0 : Code} {H : Heap} {locs : List Loc} {cells slots : Nat} {Q : State → Prop} {E : Ev} {L : HL}
/-- new C(); dup; its constructor -/
theorem w_newinit {cc cc2 : ByteArray} {y y2 : MethodName} {n pc idx idx2 c d mc ms sz N : Nat} {ls : Array Slot} {st : List Value} {Rn : String} {T : u_T} (hx : p.tables.exec = Jvm.exec) (hb : c0.code = cc) (hml : c0.maxLocals = n) (hown : s.vm.findClass y.cls = some m.cls) (hts : ∀ w ∈ gw, w.before args s = true) (hKv : EKv E s) (hKh : EKh E s s.heap) (hAK : AK E s) (hsz : ls.size = n)
    (hc : CF c Rn T N) (hcl : Cond.classLink y.cls idx Rn ∈ gw) (hin : Cond.instantiable Rn N ∈ gw) (hini : Cond.initialized Rn ∈ gw) (hdn : decode cc pc = .ok (.new idx, 3)) (hdd : decode cc (pc + 3) = .ok (.dup, 1)) (hdi : decode cc (pc + 4) = .ok (.invokespecial idx2, 3))
    (hM : Mk l E L y2 cc2 d c sz mc ms H.size) (hw : CB y2 cc2 1 none 0 ∧ Cond.instanceMethod y2 ∈ gw ∧ y2.name = "<init>") (hl2 : ML y.cls idx2 y2)
    (hR : d + 1 ≤ R.frames ∧ 48 * (d + 1) ≤ R.locals) (hcells : cells + 1 + mc ≤ R.cells) (hslots : slots + N + ms ≤ R.slots) (hS : s.heap.size ≤ H.size ∧ ∀ q : Nat, q < s.heap.size → ¬ FA E q → H[q]? = s.heap[q]?) (hcat : ((Value.ref H.size :: st).map fun v => v.category).sum ≤ 8)
    (kk : ∀ (H' : Heap) (locs' : List Loc), H'.size = H.size + sz → (∀ q : Nat, q < H.size → H'[q]? = H[q]?) → (∀ (q : Nat) (k : Kd), H.size ≤ q → q < H.size + sz → eK E q = some k → cellIs E L q H' k) → (∀ x ∈ locs', x ∈ locs ∨ H.size ≤ x.base) → W p l e R s m args below meth c0 H' locs' (cells + 1 + mc) (slots + N + ms) Q (F0 m (pc + 7) ls (.ref H.size :: st))) :
    W p l e R s m args below meth c0 H locs cells slots Q (F0 m pc ls st) := by
  have hKn := hKv.1 c _ hc.1
  refine W.newcK hx hb hown (hts _ hcl) (hts _ hin) (hts _ hini) rfl hdn (by omega) (by omega) hKn.2.1 rfl fun H1 kC hkC e1 z1 o1 => ?_
  refine lv_dup hx hb hdd rfl ?_
  have hborn : t_OB H.size ((eD E).1 c) N ((eD E).2 c) H1 (fun k => defaultValue (fty c k)) := u_born (fty c) hts hc.2.1 hKn hkC e1 hc.2.2.1
  have hpre : PreS s H1 (Pk E H.size c) [.ref H.size] := ⟨Pk.blind _ _ _, fun U hU hW => ⟨rfl, by rw [hU]; exact z1, by rw [hU]; exact ⟨_, hc.1, hborn⟩, hKv.warm hW, by
    rw [hU]
    exact EKh.to hW.alike (fun q hq hn => by rw [o1 q (Nat.lt_of_lt_of_le hq hS.1), hS.2 q hq hn]) hKh, hAK.moved hW.alike⟩⟩
  have hR2 : (rmk d mc ms).frames + 1 ≤ R.frames ∧ 8 + (1 + 11) + (rmk d mc ms).locals ≤ R.locals := ⟨hR.1, by have h9 := hR.2; show 8 + (1 + 11) + 48 * d ≤ _; omega⟩
  have hr : va_Run p l e R s m args below meth c0 H1 locs (cells + 1) (slots + N) mc ms (F0 m (pc + 4) ls (.ref H.size :: .ref H.size :: st)) (.ref H.size :: st) (Qk E L H.size sz [Value.ref H.size].toArray) (fun q => H.size ≤ q) := by
    rcases hl2 with hl2 | ⟨host, hl2⟩
    · exact va_runI (As := []) (b := H.size) (rest := .ref H.size :: st) (Ts := gw) (own := y.cls) ⟨hx, hb, hml, hown, hts⟩ hM ⟨callB_of 0 hts (gin hw.1.1) rfl rfl rfl (hts _ hw.1.2.1) (hts _ hl2) hw.1.2.2 hR2, hw.2.2, hts _ hw.2.1⟩ hpre rfl rfl hsz rfl (lv_room hcat) hdi ⟨by omega, by omega⟩
    · exact va_runIN (As := []) (b := H.size) (rest := .ref H.size :: st) (Ts := gw) (own := y.cls) ⟨hx, hb, hml, hown, hts⟩ hM ⟨va_cnB 0 hts (gin hw.1.1) rfl rfl rfl (hKv.2.2.1 _ hl2) (hts _ hw.1.2.1) hw.1.2.2 hR2, hw.2.2, hts _ hw.2.1⟩ hpre rfl rfl hsz rfl (lv_room hcat) hdi ⟨by omega, by omega⟩
  intro T1 hT X
  obtain ⟨v, st₀, t, T', Lc, h0, X', hLc, e1', e2', ⟨hv1, hz1, hreg, hk⟩, stp⟩ := hr T1 hT X
  cases hv1
  obtain ⟨t2, a1, b1⟩ := kk T'.heap (locs ++ Lc) (by rw [e1', hz1]) (fun q hq => by rw [e1', hk q hq, h0]; exact o1 q hq) (by rw [e1']; exact hreg) (fun x hx => by
    rcases List.mem_append.mp hx with h | h
    · exact Or.inl h
    · exact Or.inr (hLc x h)) T' rfl X'
  exact ⟨t2, stp t2 a1, b1⟩
end CTN
def Ck (E : Ev) (y : MethodName) (cc : ByteArray) (b : Nat) (p : Program) (s : State) (m : MethodId) (args : Array Value) (meth : Method) (c0 : Code) : Prop :=
  p.tables.exec = Jvm.exec ∧ c0.code = cc ∧ c0.maxLocals = 1 ∧ s.vm.findClass y.cls = some m.cls ∧ (∀ w ∈ gw, w.before args s = true) ∧ meth.sig.returnType = none ∧ meth.locks = false ∧ EKv E s ∧ EKh E s s.heap ∧ AK E s ∧ s.heap.size = b + 1 ∧ meth.name = "<init>"
def Sk (l : Launch) (E : Ev) (L : HL) (y : MethodName) (cc : ByteArray) (d c sz mc ms b : Nat) (pc : Nat) (st : List Value) (fs : List Value) (j cells slots : Nat) : Prop :=
  ∀ (p : Program) (e : Env) (s : State) (m : MethodId) (args : Array Value) (below : List Frame) (meth : Method) (c0 : Code) (H : Heap) (locs : List Loc) (ls : Array Slot), Ck E y cc b p s m args meth c0 → (∃ r : vw_C, vwCl[c]? = some r ∧ t_OB b ((eD E).1 c) r.2.2 ((eD E).2 c) H (vp_V fs)) → H.size = b + j → 1 ≤ j → (∀ (q : Nat) (k : Kd), b < q → q < b + j → eK E q = some k → cellIs E L q H k) → (∀ q : Nat, q < b → H[q]? = s.heap[q]?) → (∀ x ∈ locs, b ≤ x.base) → lv_has ls 1 [(0, .ref b)] →
    W p l e (rmk d mc ms) s m args below meth c0 H locs cells slots (MQ below (Qk E L b sz) args s mc ms (fun q => b ≤ q)) (F0 m pc ls st)
theorem Mk.of {l : Launch} {E : Ev} {L : HL} {y : MethodName} {cc : ByteArray} {d c sz mc ms b : Nat} {fs : List Value} (hy : plainFor y = true) (hyn : y.name = "<init>") {Rn : String} {T : u_T} {N : Nat} (hc : CF c Rn T N) (hfs : ∀ k, k < N → defaultValue (fty c k) = vp_V fs k) (h : Sk l E L y cc d c sz mc ms b 0 [] fs 1 0 0) : Mk l E L y cc d c sz mc ms b := by
  refine va_MetF (cc := cc) (maxL := 1) (ret := none) hy rfl ?_
  intro p e s m args below meth c0 s₁ B hml hv
  obtain ⟨rfl, hsz, ⟨r, hr, hob⟩, hK1, hK2, hAK⟩ := hv
  have hl := lv_entry [Value.ref b] (n := 1) (Nat.le_of_ble_eq_true rfl)
  rw [lg_entry_eq]
  have er : r = (Rn, T, N) := Option.some.inj (hr.symm.trans hc.1)
  subst er
  have hnm : meth.name = y.name := (name_of_methodNamed B.named B.method).1
  exact h p e s m _ below meth c0 s.heap [] _ ⟨B.exec, B.bytes, hml, findClass_of_methodNamed B.named, fun w hw => atoms_spec (ws := .code y cc 1 none :: gw) B.pre w (List.mem_cons_of_mem _ hw), B.returns, B.notSynchronized, hK1, hK2, hAK, hsz, hnm.trans hyn⟩ ⟨_, hc.1, hob.to hfs⟩ hsz (Nat.le_refl _) (fun q k h1 h2 => absurd h1 (by omega)) (fun _ _ => rfl) (fun _ h => by cases h) hl
section CTR
variable {l : Launch} {E : Ev} {L : HL} {y : MethodName} {cc : ByteArray} {d c sz mc ms b pc j cells slots : Nat} {st fs : List Value}
theorem sk_this (hd : decode cc pc = .ok (.aload_n 0, 1)) (kk : Sk l E L y cc d c sz mc ms b (pc + 1) (.ref b :: st) fs j cells slots) : Sk l E L y cc d c sz mc ms b pc st fs j cells slots := by
  intro p e s m args below meth c0 H locs ls C hO hH hj hreg hold hloc hl
  exact lv_aload_n C.1 C.2.1 hd rfl (lv_at hl 0 rfl) (kk p e s m args below meth c0 H locs ls C hO hH hj hreg hold hloc hl)
theorem sk_iconst {k : Int} {v : Int32} (hd : decode cc pc = .ok (.iconst k, 1)) (hv : Int32.ofInt k = v) (kk : Sk l E L y cc d c sz mc ms b (pc + 1) (.int v :: st) fs j cells slots) : Sk l E L y cc d c sz mc ms b pc st fs j cells slots := by
  intro p e s m args below meth c0 H locs ls C hO hH hj hreg hold hloc hl
  exact lv_iconst C.1 C.2.1 hd hv (kk p e s m args below meth c0 H locs ls C hO hH hj hreg hold hloc hl)
theorem sk_bipush {k : Int} {v : Int32} (hd : decode cc pc = .ok (.bipush k, 2)) (hv : (Int8.ofInt k).toInt32 = v) (kk : Sk l E L y cc d c sz mc ms b (pc + 2) (.int v :: st) fs j cells slots) : Sk l E L y cc d c sz mc ms b pc st fs j cells slots := by
  intro p e s m args below meth c0 H locs ls C hO hH hj hreg hold hloc hl
  exact lv_bipush C.1 C.2.1 hd hv (kk p e s m args below meth c0 H locs ls C hO hH hj hreg hold hloc hl)
theorem sk_sipush {k : Int} {v : Int32} (hd : decode cc pc = .ok (.sipush k, 3)) (hv : (Int16.ofInt k).toInt32 = v) (kk : Sk l E L y cc d c sz mc ms b (pc + 3) (.int v :: st) fs j cells slots) : Sk l E L y cc d c sz mc ms b pc st fs j cells slots := by
  intro p e s m args below meth c0 H locs ls C hO hH hj hreg hold hloc hl
  exact lv_sipush C.1 C.2.1 hd hv (kk p e s m args below meth c0 H locs ls C hO hH hj hreg hold hloc hl)
theorem sk_lconst {k : Fin 2} {v : Int64} (hd : decode cc pc = .ok (.lconst k, 1)) (hv : Int64.ofNat (k : Nat) = v) (kk : Sk l E L y cc d c sz mc ms b (pc + 1) (.long v :: st) fs j cells slots) : Sk l E L y cc d c sz mc ms b pc st fs j cells slots := by
  intro p e s m args below meth c0 H locs ls C hO hH hj hreg hold hloc hl
  exact lv_lconst C.1 C.2.1 hd hv (kk p e s m args below meth c0 H locs ls C hO hH hj hreg hold hloc hl)
theorem sk_obj {idx : Nat} (hd : decode cc pc = .ok (.invokespecial idx, 3)) (h1 : Cond.methodLink y.cls idx objectInit ∈ gw) (h2 : Cond.instanceMethod objectInit ∈ gw) (h3 : Cond.code objectInit ⟨#[0xb1]⟩ 1 none ∈ gw) (hdd : 1 ≤ d) (hcat : (st.map fun v => v.category).sum ≤ 8) (kk : Sk l E L y cc d c sz mc ms b (pc + 3) st fs j cells slots) : Sk l E L y cc d c sz mc ms b pc (.ref b :: st) fs j cells slots := by
  intro p e s m args below meth c0 H locs ls C hO hH hj hreg hold hloc hl
  have K := kk p e s m args below meth c0 H locs ls C hO hH hj hreg hold hloc hl
  obtain ⟨hx, hb, hml, hown, hts, -⟩ := C
  exact W.objInit hx hb hown (hts _ h1) (hts _ h2) (hts _ h3) rfl (by rw [hml]; exact hl.1) rfl hd hdd (by show 2 * 0 + _ + 12 ≤ 48 * d; omega) K
theorem sk_put {k idx : Nat} {Rn : String} {T : u_T} {N : Nat} {v : Value} {fs' : List Value} (hd : decode cc pc = .ok (.putfield idx, 3)) (hc : CF c Rn T N) (hf : Cond.fieldLink y.cls idx (T k).1 (T k).2.1 (T k).2.2.1 ∈ gw) (hkN : k < N) (hdecl : (T k).1 = y.cls) (hn : narrow (fty c k) v = v) (hfit : fits (fty c k) v = true) (hlen : k < fs.length) (hfs : fs.set k v = fs')
    (kk : Sk l E L y cc d c sz mc ms b (pc + 3) st fs' j cells slots) : Sk l E L y cc d c sz mc ms b pc (v :: .ref b :: st) fs j cells slots := by
  intro p e s m args below meth c0 H locs ls C hO hH hj hreg hold hloc hl
  have C' := C
  subst hfs
  obtain ⟨hx, hb, hml, hown, hts, -, -, hKv, -, -, -, hin2⟩ := C
  obtain ⟨r0, hr1, cell, q1, q2, q3, q4⟩ := hO
  have hr : r0 = (Rn, T, N) := Option.some.inj (hr1.symm.trans hc.1)
  subst hr
  obtain ⟨hSl, hfc, kC, hkC, hkind⟩ := hKv.1 c _ hc.1
  have hap : ∀ x z, x < N → z < N → x ≠ z → (eD E).2 c x ≠ (eD E).2 c z := by
    intro x z hxN hzN hne
    obtain ⟨_, _, _, fa, hia, ea⟩ := hSl x hxN
    obtain ⟨_, _, _, fb, hib, eb⟩ := hSl z hzN
    rw [← ea, ← eb]
    refine u_apart (u_lays hts hc.2.1 hxN) (u_lays hts hc.2.1 hzN) hia hib ?_
    rw [(State.fieldFound?_type hia (hc.2.2.1 x hxN)).1, (State.fieldFound?_type hib (hc.2.2.1 z hzN)).1]
    exact hc.2.2.2 x hxN z hzN hne
  obtain ⟨cf, kf, fi, f, hi, hsl⟩ := hSl k hkN
  have hlay := hts _ (hc.2.1 _ (u_in_lay hkN))
  unfold u_lay at hlay
  have hst := (u_facts hfc hkC (u_lays hts hc.2.1 hkN) hi).1
  have go : ∀ H' : Heap, H'[b]? = some (cell.setSlot f.slot v) → H'.size = H.size → (∀ q, q ≠ b → H'[q]? = H[q]?) → W p l e (rmk d mc ms) s m args below meth c0 H' (locs ++ [⟨b, f.slot⟩]) cells slots (MQ below (Qk E L b sz) args s mc ms (fun q => b ≤ q)) (F0 m (pc + 3) ls st) := by
    intro H' e1 e2 e3
    rw [hsl] at e1
    refine kk p e s m args below meth c0 H' _ ls C' ⟨_, hc.1, t_OB.to (V := updV (vp_V fs) k v) ⟨_, e1, q2, q3, t_set q4 hap hkN v⟩ (fun i _ => vp_updV_set hlen v i)⟩ (e2.trans hH) hj (fun q k' h1 h2 h3 => (hreg q k' h1 h2 h3).kept (e3 q (by omega))) (fun q hq => (e3 q (by omega)).trans (hold q hq)) (fun x hx => ?_) hl
    rcases List.mem_append.mp hx with h | h
    · exact hloc x h
    · rw [List.mem_singleton.mp h]; exact Nat.le_refl _
  by_cases hfin : (T k).2.2.2 = true
  · rw [if_pos hfin] at hlay
    have hcf : m.cls = cf := by
      obtain ⟨_, _, c', _, _, _, -, -, hf', -, -, -, hown2, -⟩ := Cond.laysFinal_spec hlay
      have e1 : c' = cf := by have := hi.symm.trans hf'; simp at this; exact this.1.symm
      rw [hdecl] at hown2
      rw [← e1]; exact Option.some.inj (hown.symm.trans hown2)
    have h6 := u_fits hfc hkC hkind (Or.inr hlay) hi (hc.2.2.1 k hkN) hn hfit
    exact W.putFinK hx hb hown (hts _ hf) hi hst hcf hin2 (by rw [q2]; exact h6) q1 q3 (by rw [hsl]; exact k2_hasslot (q4 k hkN)) rfl rfl hd go
  · rw [if_neg hfin] at hlay
    have h6 := u_store hfc hkC hkind hlay hi (hc.2.2.1 k hkN) hn hfit
    exact W.putK hx hb (f := f) ⟨hown, hts _ hf, ⟨_, _, _, hi⟩, hst⟩ (by rw [q2]; exact h6) q1 q3 (by rw [hsl]; exact k2_hasslot (q4 k hkN)) rfl rfl hd go
theorem arrV_congr {cA : ClassId} {N : Nat} {f g : Nat → Value} (h : ∀ i, i < N → f i = g i) : arrV cA N f = arrV cA N g := by
  unfold arrV
  congr 1
  apply congrArg Array.ofFn
  funext i
  exact h i.val i.isLt
/-- one cell more -/
theorem reg_push {H H' : Heap} (hreg : ∀ (q : Nat) (k : Kd), b < q → q < b + j → eK E q = some k → cellIs E L q H k) (hH : H.size = b + j) (o1 : ∀ q, q < H.size → H'[q]? = H[q]?) {k0 : Kd} (hk : eK E (b + j) = some k0) (hcell : cellIs E L (b + j) H' k0) : ∀ (q : Nat) (k : Kd), b < q → q < b + (j + 1) → eK E q = some k → cellIs E L q H' k := by
  intro q k h1 h2 h3
  by_cases e : q = b + j
  · subst e
    rw [hk] at h3
    cases h3
    exact hcell
  · exact (hreg q k h1 (by omega) h3).kept (o1 q (by omega))
theorem sk_newi {N j' cells' slots' : Nat} {n : Int32} (hd : decode cc pc = .ok (.newarray .int, 2)) (ha : Cond.arrayClass .int ∈ gw) (hn : ¬ n < 0) (hN : n.toNatClampNeg = N) (hbytes : N * componentBytes .int ≤ 536870912) (hk : eK E (b + j) = some (.inr (0, N))) (hz : ∀ i, L.1 (b + j) i = 0) (ej : j + 1 = j') (ec : cells + 1 = cells') (es : slots + N = slots') (hcells : cells' ≤ mc) (hslots : slots' ≤ ms)
    (kk : Sk l E L y cc d c sz mc ms b (pc + 2) (.ref (b + j) :: st) fs j' cells' slots') : Sk l E L y cc d c sz mc ms b pc (.int n :: st) fs j cells slots := by
  subst ej; subst ec; subst es
  intro p e s m args below meth c0 H locs ls C hO hH hj hreg hold hloc hl
  have C' := C
  obtain ⟨hx, hb, hml, hown, hts, -, -, hKv, -, hAK, -, -⟩ := C
  refine va_newaK (atype := .int) (H := H) (h := b + j) hx hb (hts _ ha) rfl hd rfl hn hN hbytes hcells hslots hH fun H1 cA e1 z1 o1 hAr hNm => ?_
  have hcA : cA = eA E 0 := Option.some.inj (hNm.symm.trans hAK.2.1)
  subst hcA
  obtain ⟨r0, hr1, hob⟩ := hO
  refine kk p e s m args below meth c0 H1 locs ls C' ⟨r0, hr1, hob.kept (o1 b (by omega))⟩ (by omega) (by omega) (reg_push hreg hH (fun q hq => o1 q (by omega)) hk ?_) (fun q hq => (o1 q (by omega)).trans (hold q hq)) hloc hl
  show H1[b + j]? = some (arrV _ _ _)
  rw [e1]
  exact congrArg some (arrV_congr fun i _ => by show _ = Value.int _; rw [hz i]; rfl)
theorem sk_newz {N j' cells' slots' : Nat} {n : Int32} (hd : decode cc pc = .ok (.newarray .boolean, 2)) (ha : Cond.arrayClass .boolean ∈ gw) (hn : ¬ n < 0) (hN : n.toNatClampNeg = N) (hbytes : N * componentBytes .boolean ≤ 536870912) (hk : eK E (b + j) = some (.inr (1, N))) (hz : ∀ i, L.1 (b + j) i = 0) (ej : j + 1 = j') (ec : cells + 1 = cells') (es : slots + N = slots') (hcells : cells' ≤ mc) (hslots : slots' ≤ ms)
    (kk : Sk l E L y cc d c sz mc ms b (pc + 2) (.ref (b + j) :: st) fs j' cells' slots') : Sk l E L y cc d c sz mc ms b pc (.int n :: st) fs j cells slots := by
  subst ej; subst ec; subst es
  intro p e s m args below meth c0 H locs ls C hO hH hj hreg hold hloc hl
  have C' := C
  obtain ⟨hx, hb, hml, hown, hts, -, -, hKv, -, hAK, -, -⟩ := C
  refine va_newaK (atype := .boolean) (H := H) (h := b + j) hx hb (hts _ ha) rfl hd rfl hn hN hbytes hcells hslots hH fun H1 cA e1 z1 o1 hAr hNm => ?_
  have hcA : cA = eA E 1 := Option.some.inj (hNm.symm.trans hAK.2.2.1)
  subst hcA
  obtain ⟨r0, hr1, hob⟩ := hO
  refine kk p e s m args below meth c0 H1 locs ls C' ⟨r0, hr1, hob.kept (o1 b (by omega))⟩ (by omega) (by omega) (reg_push hreg hH (fun q hq => o1 q (by omega)) hk ?_) (fun q hq => (o1 q (by omega)).trans (hold q hq)) hloc hl
  show H1[b + j]? = some (arrV _ _ _)
  rw [e1]
  exact congrArg some (arrV_congr fun i _ => by show _ = Value.int _; rw [hz i]; rfl)
theorem vr_outer (c : ClassId) (N h0 : Nat) : ∀ i : Nat, Jvm.Free.Multi.outerC c N h0 i = arrV c N (fun j => if j < i then .ref (h0 + 1 + j) else .null)
  | 0 => by
    show ({ cls := c, slots := Array.replicate N .null, vm := .none } : Cell) = _
    rw [arrV_new]
    exact arrV_congr fun j _ => by simp
  | i + 1 => by
    show (Jvm.Free.Multi.outerC c N h0 i).setSlot i (.ref (h0 + 1 + i)) = _
    rw [vr_outer c N h0 i, arrV_store]
    refine arrV_congr fun j _ => ?_
    by_cases e : j = i
    · subst e
      simp [updV]
    · by_cases h : j < i
      · simp [updV, e, h, Nat.lt_succ_of_lt h]
      · simp [updV, e, h, show ¬ j < i + 1 by omega]
theorem sk_mnew {N K idx j' cells' slots' : Nat} {n k : Int32} (hd : decode cc pc = .ok (.multianewarray idx 2, 4)) (hcl : Cond.classLink y.cls idx "[[I" ∈ gw) (ha : Cond.arrayClass .int ∈ gw) (hn : ¬ n < 0) (hk0 : ¬ k < 0) (hN : n.toNatClampNeg = N) (hK : k.toNatClampNeg = K) (hb1 : N * 4 ≤ 536870912) (hb2 : K * componentBytes .int ≤ 536870912) (hb3 : K ≤ 536870912)
    (hk1 : eK E (b + j) = some (.inr (2, N))) (hk2 : ∀ i, i < N → eR E (b + j) i = b + j + 1 + i ∧ eK E (b + j + 1 + i) = some (.inr (0, K))) (hz : ∀ q i, b + j < q → q ≤ b + j + N → L.1 q i = 0) (ej : j + 1 + N = j') (ec : cells + 1 + N = cells') (es : slots + N + N * K = slots') (hcells : cells' ≤ mc) (hslots : slots' ≤ ms)
    (kk : Sk l E L y cc d c sz mc ms b (pc + 4) (.ref (b + j) :: st) fs j' cells' slots') : Sk l E L y cc d c sz mc ms b pc (.int k :: .int n :: st) fs j cells slots := by
  subst ej; subst ec; subst es
  have hcells : cells + (1 + N) ≤ mc := by omega
  have hslots : slots + (N + N * K) ≤ ms := by omega
  intro p e s m args below meth c0 H locs ls C hO hH hj hreg hold hloc hl
  have C' := C
  obtain ⟨hx, hb, hml, hown, hts, -, -, hKv, -, hAK, -, -⟩ := C
  subst hN
  subst hK
  intro T hT Xs
  obtain ⟨vm₁, cA, comp, -, fA, fC, -, -, X', step⟩ := Xs.multianewarray2F hx hown (hts _ hcl) (show (Cond.arrayOver (.array .int)).before args s = true from hAK.1) (hts _ ha) (g := F0 m pc ls (.int k :: .int n :: st)) rfl (by rw [hb]; exact hd) rfl hn hk0 hb1 hb2 hb3 rfl rfl hcells hslots
  have e1 : cA = eA E 2 := Option.some.inj (fA.symm.trans hAK.2.2.2)
  have e2 : comp = eA E 0 := Option.some.inj (fC.symm.trans hAK.2.1)
  subst e1
  subst e2
  have hTh : (T.setVm vm₁).heap = H := hT
  have hTz : T.heap.size = b + j := by rw [hT]; exact hH
  obtain ⟨f1, f2, -, -⟩ := Jvm.Free.Multi.fill_facts (T.setVm vm₁) (eA E 2) (eA E 0) n.toNatClampNeg k.toNatClampNeg (defaultValue .int) n.toNatClampNeg
  have hold2 := fun (q : Nat) (hq : q < H.size) => Jvm.Free.Multi.fill_old (T.setVm vm₁) (eA E 2) (eA E 0) n.toNatClampNeg k.toNatClampNeg (defaultValue .int) (a := q) (by rw [hTh]; exact hq) n.toNatClampNeg
  have hinn := Jvm.Free.Multi.fill_inner (T.setVm vm₁) (eA E 2) (eA E 0) n.toNatClampNeg k.toNatClampNeg (defaultValue .int) n.toNatClampNeg
  generalize Jvm.Free.Multi.fill (T.setVm vm₁) (eA E 2) (eA E 0) n.toNatClampNeg k.toNatClampNeg (defaultValue .int) n.toNatClampNeg = F at X' step f1 f2 hold2 hinn
  rw [hTh, hH] at f1 f2 hinn
  rw [hTh] at hold2
  rw [vr_outer] at f2
  obtain ⟨r0, hr1, hob⟩ := hO
  obtain ⟨t, a1, b1⟩ := kk p e s m args below meth c0 F.heap locs ls C' ⟨r0, hr1, hob.kept (hold2 b (by omega))⟩ (by omega) (by omega) (fun q kd h1 h2 h3 => by
    by_cases g1 : q < b + j
    · exact (hreg q kd h1 g1 h3).kept (hold2 q (by omega))
    · by_cases g2 : q = b + j
      · subst g2
        rw [hk1] at h3
        cases h3
        show F.heap[b + j]? = some (arrV _ _ _)
        rw [f2]
        exact congrArg some (arrV_congr fun i hi => by rw [if_pos hi]; show _ = Value.ref _; rw [(hk2 i hi).1])
      · obtain ⟨i, rfl⟩ : ∃ i, q = b + j + 1 + i := ⟨q - (b + j + 1), by omega⟩
        have hi : i < n.toNatClampNeg := by omega
        rw [(hk2 i hi).2] at h3
        cases h3
        show F.heap[b + j + 1 + i]? = some (arrV _ _ _)
        rw [hinn i hi]
        show some ({ cls := eA E 0, slots := Array.replicate k.toNatClampNeg (defaultValue .int), vm := .none } : Cell) = _
        rw [arrV_new]
        exact congrArg some (arrV_congr fun x _ => by show _ = Value.int _; rw [hz _ x (by omega) (by omega)]; rfl)) (fun q hq => (hold2 q (by omega)).trans (hold q hq)) hloc hl F rfl X'
  refine ⟨t, step t ?_, b1⟩
  rw [hTz]
  exact a1
/-- a part of its own -/
theorem sk_new {cc2 : ByteArray} {y2 : MethodName} {idx idx2 c2 d2 mc2 ms2 sz2 N2 j' cells' slots' : Nat} {Rn : String} {T : u_T} (hc : CF c2 Rn T N2) (hcl : Cond.classLink y.cls idx Rn ∈ gw) (hin : Cond.instantiable Rn N2 ∈ gw) (hini : Cond.initialized Rn ∈ gw) (hdn : decode cc pc = .ok (.new idx, 3)) (hdd : decode cc (pc + 3) = .ok (.dup, 1)) (hdi : decode cc (pc + 4) = .ok (.invokespecial idx2, 3))
    (hM : Mk l E L y2 cc2 d2 c2 sz2 mc2 ms2 (b + j)) (hw : CB y2 cc2 1 none 0 ∧ Cond.instanceMethod y2 ∈ gw ∧ y2.name = "<init>") (hl2 : ML y.cls idx2 y2) (hR : Nat.ble (d2 + 1) d = true) (ej : j + sz2 = j') (ec : cells + 1 + mc2 = cells') (es : slots + N2 + ms2 = slots') (hcells : cells' ≤ mc) (hslots : slots' ≤ ms) (hcat : ((Value.ref (b + j) :: st).map fun v => v.category).sum ≤ 8) (hkb : eK E b = some (.inl c))
    (kk : Sk l E L y cc d c sz mc ms b (pc + 7) (.ref (b + j) :: st) fs j' cells' slots') : Sk l E L y cc d c sz mc ms b pc st fs j cells slots := by
  intro p e s m args below meth c0 H locs ls C hO hH hj hreg hold hloc hl
  have C' := C
  subst ej; subst ec; subst es
  have hR := Nat.le_of_ble_eq_true hR
  obtain ⟨hx, hb, hml, hown, hts, -, -, hKv, hKh, hAK, hs1, -⟩ := C
  rw [← hH] at hM hcat kk
  refine w_newinit (y := y) hx hb hml hown hts hKv hKh hAK hl.1 hc hcl hin hini hdn hdd hdi hM hw hl2 ⟨hR, Nat.mul_le_mul_left 48 hR⟩ hcells hslots ⟨by omega, fun q hq hn => ?_⟩ hcat fun H' locs' z1 o1 hr1 hlo => ?_
  · by_cases g : q < b
    · exact hold q g
    · exact absurd ⟨_, (show q = b by omega) ▸ hkb⟩ hn
  · obtain ⟨r0, hr1', hob⟩ := hO
    exact kk p e s m args below meth c0 H' locs' ls C' ⟨r0, hr1', hob.kept (o1 b (by omega))⟩ (by omega) (by omega) (fun q kd h1 h2 h3 => by
      by_cases g1 : q < b + j
      · exact (hreg q kd h1 g1 h3).kept (o1 q (by omega))
      · exact hr1 q kd (by omega) (by omega) h3) (fun q hq => (o1 q (by omega)).trans (hold q hq)) (fun x hx => by
      rcases hlo x hx with h | h
      · exact hloc x h
      · omega) hl
theorem sk_ret {Rn : String} {T : u_T} {N : Nat} (hd : decode cc pc = .ok (.return_, 1)) (hkb : eK E b = some (.inl c)) (hc : CF c Rn T N) (hfs : ∀ k, k < N → vp_V fs k = fv (fty c k) E L b k) (hj : j = sz) (hcells : cells = mc) (hslots : slots = ms) : Sk l E L y cc d c sz mc ms b pc [] fs j cells slots := by
  intro p e s m args below meth c0 H locs ls C hO hH hj1 hreg hold hloc hl
  subst hj; subst hcells; subst hslots
  obtain ⟨hx, hb, hml, hown, hts, hrt, hlk, -⟩ := C
  obtain ⟨r0, hr1, hob⟩ := hO
  have hr : r0 = (Rn, T, N) := Option.some.inj (hr1.symm.trans hc.1)
  subst hr
  exact W.vret hx hb hrt (fun t ht _ => ⟨rfl, by rw [ht]; exact hH, fun q k h1 h2 h3 => by
    rw [ht]
    by_cases g : q = b
    · subst g
      rw [hkb] at h3
      cases h3
      exact ⟨_, hc.1, hob.to hfs⟩
    · exact hreg q k (by omega) h2 h3, fun q hq => by rw [ht]; exact hold q hq⟩) hloc hd hlk
/-- an own method, called by a constructor when all stands -/
theorem sk_own {y2 : MethodName} {cc2 : ByteArray} {n2 d2 idx : Nat} {ret2 : Option FieldType} {Rn : String} {T : u_T} {N : Nat} (hd : decode cc pc = .ok (.invokevirtual idx, 3)) (hkb : eK E b = some (.inl c)) (hc : CF c Rn T N) (hfs : ∀ k, k < N → vp_V fs k = fv (fty c k) E L b k)
    (hM : ∀ E' : Ev, eD E' = eD E → eA E' = eA E → eR E' = eR E → eS E' = eS E → eT E' = eT E → (∀ q, b ≤ q → q < b + j → eK E' q = eK E q) → (∀ q, ¬ (b ≤ q ∧ q < b + j) → eK E' q = none) → Mt l E' y2 cc2 n2 ret2 d2 [.ref b] L none L) (hw : CI y2 cc2 n2 ret2 0) (hl2 : Cond.methodLink y.cls idx y2 ∈ gw) (hq : Rn = y2.cls) (hR : Nat.ble (d2 + 1) d = true) (hn2 : Nat.ble n2 29 = true) (hcells : cells ≤ mc) (hslots : slots ≤ ms)
    (kk : Sk l E L y cc d c sz mc ms b (pc + 3) [] fs j cells slots) : Sk l E L y cc d c sz mc ms b pc [.ref b] fs j cells slots := by
  intro p e s m args below meth c0 H locs ls C hO hH hj1 hreg hold hloc hl
  have C' := C
  have hR := Nat.le_of_ble_eq_true hR
  have hn2 := Nat.le_of_ble_eq_true hn2
  obtain ⟨hx, hb, hml, hown, hts, -, -, hKv, hKh, hAK, hs1, -⟩ := C
  obtain ⟨E', hE'⟩ : ∃ E' : Ev, E' = (E.1, E.2.1, (fun q => if b ≤ q ∧ q < b + j then eK E q else none), E.2.2.2) := ⟨_, rfl⟩
  have hKk : ∀ q, eK E' q = if b ≤ q ∧ q < b + j then eK E q else none := by intro q; rw [hE']
  have hM1 := hM E' (by rw [hE']) (by rw [hE']) (by rw [hE']) (by rw [hE']) (by rw [hE']) (fun q h1 h2 => by rw [hKk, if_pos ⟨h1, h2⟩]) (fun q h => by rw [hKk, if_neg h])
  have hcell : ∀ q k, cellIs E' L q H k = cellIs E L q H k := by intro q k; rw [hE']; rfl
  obtain ⟨r0, hr1, hob⟩ := hO
  have hr : r0 = (Rn, T, N) := Option.some.inj (hr1.symm.trans hc.1)
  subst hr
  have hP : HP E' L H := by
    intro q k hk
    rw [hKk] at hk
    split at hk
    · next hq1 =>
      rw [hcell]
      by_cases g : q = b
      · subst g
        rw [hkb] at hk
        cases hk
        exact ⟨_, hc.1, hob.to hfs⟩
      · exact hreg q k (by omega) hq1.2 hk
    · cases hk
  have hsub : ∀ q, FA E' q → FA E q := by
    intro q ⟨k, hk⟩
    rw [hKk] at hk
    split at hk
    · exact ⟨k, hk⟩
    · cases hk
  have hKv' : EKv E' s := by rw [hE']; exact hKv
  have hh : ∀ q : Nat, q < s.heap.size → ¬ FA E q → H[q]? = s.heap[q]? := by
    intro q hq hn
    by_cases g : q < b
    · exact hold q g
    · exact absurd ⟨_, (show q = b by omega) ▸ hkb⟩ hn
  have hKhH : ∀ U : State, U.heap = H → s.WarmedH U.vm → EKh E' U U.heap := by
    intro U hU hW
    have h1 : EKh E U H := EKh.to hW.alike hh hKh
    rw [hU]
    have e1 : eS E' = eS E := by rw [hE']
    have e2 : eT E' = eT E := by rw [hE']
    refine ⟨?_, h1.2.1.narrow hsub, h1.2.2.narrow hsub⟩
    rw [e1, e2]
    exact h1.1.narrow hsub
  have eD' : eD E' = eD E := by rw [hE']
  have hrecv : ∃ cell : Cell, H[b]? = some cell ∧ cell.vm.isStatics = false ∧ s.vm.findClass y2.cls = some cell.cls := by
    obtain ⟨cell, q1, q2, q3, q4⟩ := hob
    obtain ⟨hSl, hfc, -⟩ := hKv.1 c _ hc.1
    exact ⟨cell, q1, by rw [q3]; rfl, by rw [q2, ← hq]; exact hfc⟩
  have hpre : PreV s H y2.cls b (Pr E' [.ref b] L) [] := ⟨Pr.blind _ _ _, hrecv, fun U hU hW => ⟨rfl, by rw [hU]; exact hP, hKv'.warm hW, hKhH U hU hW⟩⟩
  have hR2 : (rmd d2).frames + 1 ≤ (rmk d mc ms).frames ∧ 8 + (n2 + 11) + (rmd d2).locals ≤ (rmk d mc ms).locals := ⟨hR, by show 8 + (n2 + 11) + 48 * d2 ≤ 48 * d; omega⟩
  have hr := va_runV (As := []) (rest := []) (Ts := gw) (own := y.cls) (p := p) (e := e) (l := l) (R := rmk d mc ms) (s := s) (m := m) (args := args) (below := below) (meth := meth) (c := c0) (H := H) (locs := locs) (cells := cells) (slots := slots) (g := F0 m pc ls [.ref b]) ⟨hx, hb, hml, hown, hts⟩ hM1 ⟨callB_of 0 hts (gin hw.1.1) rfl rfl rfl (hts _ hw.1.2.1) (hts _ hl2) hw.1.2.2 hR2, hts _ hw.2.1, hts _ hw.2.2⟩ hpre rfl rfl hl.1 rfl (lv_room (Nat.zero_le _)) hd ⟨hcells, hslots⟩
  intro T1 hT X
  obtain ⟨v, st₀, t, T', Lc, h0, X', hLc, e1', e2', ⟨hv1, hP1, hz1, hk1⟩, stp⟩ := hr T1 hT X
  cases hv1
  have hcell1 : ∀ q k, b ≤ q → q < b + j → eK E q = some k → cellIs E L q T'.heap k := by
    intro q k g1 g2 g3
    have h9 := hP1 q k (by rw [hKk, if_pos ⟨g1, g2⟩]; exact g3)
    rw [← e1', hE'] at h9
    exact h9
  have hsame : ∀ q : Nat, ¬ (b ≤ q ∧ q < b + j) → T'.heap[q]? = H[q]? := by
    intro q hn
    rw [e1', hk1 q (by rw [hKk, if_neg hn]), h0]
  have hcb := hcell1 b _ (Nat.le_refl _) (by omega) hkb
  obtain ⟨r2, g1, g2⟩ := hcb
  have hr2 : r2 = (Rn, T, N) := Option.some.inj (g1.symm.trans hc.1)
  subst hr2
  obtain ⟨t2, a1, b1⟩ := kk p e s m args below meth c0 T'.heap (locs ++ Lc) ls C' ⟨_, hc.1, g2.to (fun k hk => (hfs k hk).symm)⟩ (by rw [e1', hz1, h0]; exact hH) hj1 (fun q k g1 g2 g3 => hcell1 q k (by omega) g2 g3) (fun q hq => (hsame q (by omega)).trans (hold q hq)) (fun x hx => by
    rcases List.mem_append.mp hx with h | h
    · exact hloc x h
    · obtain ⟨k, hk⟩ := hLc x h
      rw [hKk] at hk
      split at hk
      · next hq1 => exact hq1.1
      · cases hk) hl T' rfl X'
  exact ⟨t2, stp t2 a1, b1⟩
end CTR
/-- clean() on a clean street -/
theorem wI_same {L : HL} {a i : Nat} {v : Int32} (h : L.1 a i = v) : wI L a i v = L := by
  unfold wI
  refine Prod.ext ?_ rfl
  funext b j
  show (if b = a then (if j = i then v else L.1 b j) else L.1 b j) = L.1 b j
  by_cases h1 : b = a
  · by_cases h2 : j = i
    · rw [if_pos h1, if_pos h2, h1, h2, h]
    · rw [if_pos h1, if_neg h2]
  · rw [if_neg h1]

theorem isX7_of {E E' : Ev} {b : Nat} (h : isX7 E b) (hr : eR E' = eR E) (hk : ∀ q, b ≤ q → q < b + 12 → eK E' q = eK E q) : isX7 E' b := by
  unfold isX7 at h ⊢
  rw [hr, hk b (by omega) (by omega), hk (b + 1) (by omega) (by omega), hk (b + 2) (by omega) (by omega), hk (b + 3) (by omega) (by omega), hk (b + 4) (by omega) (by omega), hk (b + 5) (by omega) (by omega), hk (b + 6) (by omega) (by omega), hk (b + 7) (by omega) (by omega), hk (b + 8) (by omega) (by omega), hk (b + 9) (by omega) (by omega), hk (b + 10) (by omega) (by omega), hk (b + 11) (by omega) (by omega)]
  exact h
theorem clean_zero {L : HL} {b : Nat} (hz : ∀ i, L.1 (b + 1) i = 0) : fX7_clean b L = some L := by
  have key : ∀ n i, n + i = 228 → ∀ fu, n < fu → lp (fun s8 : Int32 × HL => fX7_clean_b2 b s8.1 s8.2) fu (nI i, L) = some (.inl (nI 228, L)) := by
    intro n
    induction n with
    | zero =>
      intro i hi fu hfu
      obtain ⟨fu, rfl⟩ : ∃ g, fu = g + 1 := ⟨fu - 1, by omega⟩
      have hi2 : i = 228 := by omega
      subst hi2
      unfold lp
      have e : fX7_clean_b2 b (nI 228) L = some (.inr (.inl (nI 228, L))) := by
        unfold fX7_clean_b2
        rw [if_pos (by decide)]
      simp only [e]
    | succ n ih =>
      intro i hi fu hfu
      obtain ⟨fu, rfl⟩ : ∃ g, fu = g + 1 := ⟨fu - 1, by omega⟩
      unfold lp
      have e : fX7_clean_b2 b (nI i) L = some (.inl (nI (i + 1), L)) := by
        unfold fX7_clean_b2
        rw [if_neg (show ¬ (228 : Int32) ≤ nI i from nI_ge (b := 228) (by omega) (by omega))]
        unfold gd
        rw [if_pos (show vin (nI i) 228 from vp_in_nI (by omega) (by omega))]
        unfold lt
        rw [wI_same (hz _), nI_1]
      simp only [e]
      exact ih (i + 1) (by omega) fu (by omega)
  unfold fX7_clean
  have h := key 228 0 rfl FU (by decide)
  rw [nI_0] at h
  rw [h]
  rfl
theorem cbX4 : CB yX4_init cX4_init 1 none 0 ∧ Cond.instanceMethod yX4_init ∈ gw ∧ yX4_init.name = "<init>" := ⟨⟨wd_131, wd_105, by decide, by decide, by decide +kernel⟩, wd_130, rfl⟩
set_option maxRecDepth 100000 in
set_option maxHeartbeats 4000000 in
theorem kX4 {l : Launch} {E : Ev} {L : HL} {b : Nat} (h0 : isX4 E b) (hz : ∀ q, b ≤ q → q < b + 14 → ∀ i, L.1 q i = 0) : Mk l E L yX4_init cX4_init 2 4 14 13 66 b := by
  have hfs : ∀ k, k < 17 → vp_V [.int 0, .int 0, .int 0, .int 0, .ref (b + 1), .ref (b + 2), .ref (b + 3), .ref (b + 4), .ref (b + 5), .ref (b + 6), .ref (b + 7), .ref (b + 8), .ref (b + 9), .ref (b + 10), .ref (b + 11), .ref (b + 12), .ref (b + 13)] k = fv (fty 4 k) E L b k := by
    intro k hk
    match k, hk with
    | 0, _ => exact (congrArg Value.int (hz b (Nat.le_refl _) (by omega) 0)).symm
    | 1, _ => exact (congrArg Value.int (hz b (Nat.le_refl _) (by omega) 1)).symm
    | 2, _ => exact (congrArg Value.int (hz b (Nat.le_refl _) (by omega) 2)).symm
    | 3, _ => exact (congrArg Value.int (hz b (Nat.le_refl _) (by omega) 3)).symm
    | 4, _ => exact (congrArg Value.ref (X4_r4 h0)).symm
    | 5, _ => exact (congrArg Value.ref (X4_r5 h0)).symm
    | 6, _ => exact (congrArg Value.ref (X4_r6 h0)).symm
    | 7, _ => exact (congrArg Value.ref (X4_r7 h0)).symm
    | 8, _ => exact (congrArg Value.ref (X4_r8 h0)).symm
    | 9, _ => exact (congrArg Value.ref (X4_r9 h0)).symm
    | 10, _ => exact (congrArg Value.ref (X4_r10 h0)).symm
    | 11, _ => exact (congrArg Value.ref (X4_r11 h0)).symm
    | 12, _ => exact (congrArg Value.ref (X4_r12 h0)).symm
    | 13, _ => exact (congrArg Value.ref (X4_r13 h0)).symm
    | 14, _ => exact (congrArg Value.ref (X4_r14 h0)).symm
    | 15, _ => exact (congrArg Value.ref (X4_r15 h0)).symm
    | 16, _ => exact (congrArg Value.ref (X4_r16 h0)).symm
    | k + 17, h => exact absurd h (by omega)
  refine Mk.of (fs := [.int 0, .int 0, .int 0, .int 0, .null, .null, .null, .null, .null, .null, .null, .null, .null, .null, .null, .null, .null]) (plainFor_of_name (by decide)) rfl cf_4 (fun k hk => by
    match k, hk with
    | 0, _ => rfl
    | 1, _ => rfl
    | 2, _ => rfl
    | 3, _ => rfl
    | 4, _ => rfl
    | 5, _ => rfl
    | 6, _ => rfl
    | 7, _ => rfl
    | 8, _ => rfl
    | 9, _ => rfl
    | 10, _ => rfl
    | 11, _ => rfl
    | 12, _ => rfl
    | 13, _ => rfl
    | 14, _ => rfl
    | 15, _ => rfl
    | 16, _ => rfl
    | k + 17, h => exact absurd h (by omega)) ?_
  refine sk_this dX4_init_0 ?_
  refine sk_obj dX4_init_1 wd_132 wd_125 wd_126 (by decide) (Nat.le_of_ble_eq_true rfl) ?_
  refine sk_this dX4_init_4 ?_
  refine sk_iconst (v := 0) dX4_init_5 (by decide) ?_
  refine sk_put (k := 0) (v := .int 0) (fs' := [.int 0, .int 0, .int 0, .int 0, .null, .null, .null, .null, .null, .null, .null, .null, .null, .null, .null, .null, .null]) dX4_init_6 cf_4 wd_133 (by decide) rfl rfl rfl (Nat.le_of_ble_eq_true rfl) rfl ?_
  refine sk_this dX4_init_9 ?_
  refine sk_iconst (v := 0) dX4_init_10 (by decide) ?_
  refine sk_put (k := 1) (v := .int 0) (fs' := [.int 0, .int 0, .int 0, .int 0, .null, .null, .null, .null, .null, .null, .null, .null, .null, .null, .null, .null, .null]) dX4_init_11 cf_4 wd_136 (by decide) rfl rfl rfl (Nat.le_of_ble_eq_true rfl) rfl ?_
  refine sk_this dX4_init_14 ?_
  refine sk_iconst (v := 0) dX4_init_15 (by decide) ?_
  refine sk_put (k := 2) (v := .int 0) (fs' := [.int 0, .int 0, .int 0, .int 0, .null, .null, .null, .null, .null, .null, .null, .null, .null, .null, .null, .null, .null]) dX4_init_16 cf_4 wd_140 (by decide) rfl rfl rfl (Nat.le_of_ble_eq_true rfl) rfl ?_
  refine sk_this dX4_init_19 ?_
  refine sk_iconst (v := 0) dX4_init_20 (by decide) ?_
  refine sk_put (k := 3) (v := .int 0) (fs' := [.int 0, .int 0, .int 0, .int 0, .null, .null, .null, .null, .null, .null, .null, .null, .null, .null, .null, .null, .null]) dX4_init_21 cf_4 wd_143 (by decide) rfl rfl rfl (Nat.le_of_ble_eq_true rfl) rfl ?_
  refine sk_this dX4_init_24 ?_
  refine sk_iconst (v := 5) dX4_init_25 (by decide) ?_
  refine sk_newi (n := 5) (N := 5) (j' := 2) (cells' := 1) (slots' := 5) dX4_init_26 wd_209 (by decide) (by decide) (by decide) (X4_a4 h0) (hz _ (by omega) (by omega)) rfl rfl rfl (by decide) (by decide) ?_
  refine sk_put (k := 4) (v := .ref (b + 1)) (fs' := [.int 0, .int 0, .int 0, .int 0, .ref (b + 1), .null, .null, .null, .null, .null, .null, .null, .null, .null, .null, .null, .null]) dX4_init_28 cf_4 wd_146 (by decide) rfl rfl rfl (Nat.le_of_ble_eq_true rfl) rfl ?_
  refine sk_this dX4_init_31 ?_
  refine sk_iconst (v := 5) dX4_init_32 (by decide) ?_
  refine sk_newi (n := 5) (N := 5) (j' := 3) (cells' := 2) (slots' := 10) dX4_init_33 wd_209 (by decide) (by decide) (by decide) (X4_a5 h0) (hz _ (by omega) (by omega)) rfl rfl rfl (by decide) (by decide) ?_
  refine sk_put (k := 5) (v := .ref (b + 2)) (fs' := [.int 0, .int 0, .int 0, .int 0, .ref (b + 1), .ref (b + 2), .null, .null, .null, .null, .null, .null, .null, .null, .null, .null, .null]) dX4_init_35 cf_4 wd_149 (by decide) rfl rfl rfl (Nat.le_of_ble_eq_true rfl) rfl ?_
  refine sk_this dX4_init_38 ?_
  refine sk_iconst (v := 5) dX4_init_39 (by decide) ?_
  refine sk_newi (n := 5) (N := 5) (j' := 4) (cells' := 3) (slots' := 15) dX4_init_40 wd_209 (by decide) (by decide) (by decide) (X4_a6 h0) (hz _ (by omega) (by omega)) rfl rfl rfl (by decide) (by decide) ?_
  refine sk_put (k := 6) (v := .ref (b + 3)) (fs' := [.int 0, .int 0, .int 0, .int 0, .ref (b + 1), .ref (b + 2), .ref (b + 3), .null, .null, .null, .null, .null, .null, .null, .null, .null, .null]) dX4_init_42 cf_4 wd_151 (by decide) rfl rfl rfl (Nat.le_of_ble_eq_true rfl) rfl ?_
  refine sk_this dX4_init_45 ?_
  refine sk_iconst (v := 5) dX4_init_46 (by decide) ?_
  refine sk_newi (n := 5) (N := 5) (j' := 5) (cells' := 4) (slots' := 20) dX4_init_47 wd_209 (by decide) (by decide) (by decide) (X4_a7 h0) (hz _ (by omega) (by omega)) rfl rfl rfl (by decide) (by decide) ?_
  refine sk_put (k := 7) (v := .ref (b + 4)) (fs' := [.int 0, .int 0, .int 0, .int 0, .ref (b + 1), .ref (b + 2), .ref (b + 3), .ref (b + 4), .null, .null, .null, .null, .null, .null, .null, .null, .null]) dX4_init_49 cf_4 wd_154 (by decide) rfl rfl rfl (Nat.le_of_ble_eq_true rfl) rfl ?_
  refine sk_this dX4_init_52 ?_
  refine sk_iconst (v := 5) dX4_init_53 (by decide) ?_
  refine sk_newi (n := 5) (N := 5) (j' := 6) (cells' := 5) (slots' := 25) dX4_init_54 wd_209 (by decide) (by decide) (by decide) (X4_a8 h0) (hz _ (by omega) (by omega)) rfl rfl rfl (by decide) (by decide) ?_
  refine sk_put (k := 8) (v := .ref (b + 5)) (fs' := [.int 0, .int 0, .int 0, .int 0, .ref (b + 1), .ref (b + 2), .ref (b + 3), .ref (b + 4), .ref (b + 5), .null, .null, .null, .null, .null, .null, .null, .null]) dX4_init_56 cf_4 wd_156 (by decide) rfl rfl rfl (Nat.le_of_ble_eq_true rfl) rfl ?_
  refine sk_this dX4_init_59 ?_
  refine sk_iconst (v := 5) dX4_init_60 (by decide) ?_
  refine sk_newi (n := 5) (N := 5) (j' := 7) (cells' := 6) (slots' := 30) dX4_init_61 wd_209 (by decide) (by decide) (by decide) (X4_a9 h0) (hz _ (by omega) (by omega)) rfl rfl rfl (by decide) (by decide) ?_
  refine sk_put (k := 9) (v := .ref (b + 6)) (fs' := [.int 0, .int 0, .int 0, .int 0, .ref (b + 1), .ref (b + 2), .ref (b + 3), .ref (b + 4), .ref (b + 5), .ref (b + 6), .null, .null, .null, .null, .null, .null, .null]) dX4_init_63 cf_4 wd_159 (by decide) rfl rfl rfl (Nat.le_of_ble_eq_true rfl) rfl ?_
  refine sk_this dX4_init_66 ?_
  refine sk_iconst (v := 5) dX4_init_67 (by decide) ?_
  refine sk_newi (n := 5) (N := 5) (j' := 8) (cells' := 7) (slots' := 35) dX4_init_68 wd_209 (by decide) (by decide) (by decide) (X4_a10 h0) (hz _ (by omega) (by omega)) rfl rfl rfl (by decide) (by decide) ?_
  refine sk_put (k := 10) (v := .ref (b + 7)) (fs' := [.int 0, .int 0, .int 0, .int 0, .ref (b + 1), .ref (b + 2), .ref (b + 3), .ref (b + 4), .ref (b + 5), .ref (b + 6), .ref (b + 7), .null, .null, .null, .null, .null, .null]) dX4_init_70 cf_4 wd_161 (by decide) rfl rfl rfl (Nat.le_of_ble_eq_true rfl) rfl ?_
  refine sk_this dX4_init_73 ?_
  refine sk_bipush (v := 6) dX4_init_74 (by decide) ?_
  refine sk_newi (n := 6) (N := 6) (j' := 9) (cells' := 8) (slots' := 41) dX4_init_76 wd_209 (by decide) (by decide) (by decide) (X4_a11 h0) (hz _ (by omega) (by omega)) rfl rfl rfl (by decide) (by decide) ?_
  refine sk_put (k := 11) (v := .ref (b + 8)) (fs' := [.int 0, .int 0, .int 0, .int 0, .ref (b + 1), .ref (b + 2), .ref (b + 3), .ref (b + 4), .ref (b + 5), .ref (b + 6), .ref (b + 7), .ref (b + 8), .null, .null, .null, .null, .null]) dX4_init_78 cf_4 wd_162 (by decide) rfl rfl rfl (Nat.le_of_ble_eq_true rfl) rfl ?_
  refine sk_this dX4_init_81 ?_
  refine sk_bipush (v := 6) dX4_init_82 (by decide) ?_
  refine sk_newi (n := 6) (N := 6) (j' := 10) (cells' := 9) (slots' := 47) dX4_init_84 wd_209 (by decide) (by decide) (by decide) (X4_a12 h0) (hz _ (by omega) (by omega)) rfl rfl rfl (by decide) (by decide) ?_
  refine sk_put (k := 12) (v := .ref (b + 9)) (fs' := [.int 0, .int 0, .int 0, .int 0, .ref (b + 1), .ref (b + 2), .ref (b + 3), .ref (b + 4), .ref (b + 5), .ref (b + 6), .ref (b + 7), .ref (b + 8), .ref (b + 9), .null, .null, .null, .null]) dX4_init_86 cf_4 wd_165 (by decide) rfl rfl rfl (Nat.le_of_ble_eq_true rfl) rfl ?_
  refine sk_this dX4_init_89 ?_
  refine sk_iconst (v := 4) dX4_init_90 (by decide) ?_
  refine sk_newi (n := 4) (N := 4) (j' := 11) (cells' := 10) (slots' := 51) dX4_init_91 wd_209 (by decide) (by decide) (by decide) (X4_a13 h0) (hz _ (by omega) (by omega)) rfl rfl rfl (by decide) (by decide) ?_
  refine sk_put (k := 13) (v := .ref (b + 10)) (fs' := [.int 0, .int 0, .int 0, .int 0, .ref (b + 1), .ref (b + 2), .ref (b + 3), .ref (b + 4), .ref (b + 5), .ref (b + 6), .ref (b + 7), .ref (b + 8), .ref (b + 9), .ref (b + 10), .null, .null, .null]) dX4_init_93 cf_4 wd_170 (by decide) rfl rfl rfl (Nat.le_of_ble_eq_true rfl) rfl ?_
  refine sk_this dX4_init_96 ?_
  refine sk_iconst (v := 5) dX4_init_97 (by decide) ?_
  refine sk_newi (n := 5) (N := 5) (j' := 12) (cells' := 11) (slots' := 56) dX4_init_98 wd_209 (by decide) (by decide) (by decide) (X4_a14 h0) (hz _ (by omega) (by omega)) rfl rfl rfl (by decide) (by decide) ?_
  refine sk_put (k := 14) (v := .ref (b + 11)) (fs' := [.int 0, .int 0, .int 0, .int 0, .ref (b + 1), .ref (b + 2), .ref (b + 3), .ref (b + 4), .ref (b + 5), .ref (b + 6), .ref (b + 7), .ref (b + 8), .ref (b + 9), .ref (b + 10), .ref (b + 11), .null, .null]) dX4_init_100 cf_4 wd_171 (by decide) rfl rfl rfl (Nat.le_of_ble_eq_true rfl) rfl ?_
  refine sk_this dX4_init_103 ?_
  refine sk_iconst (v := 5) dX4_init_104 (by decide) ?_
  refine sk_newi (n := 5) (N := 5) (j' := 13) (cells' := 12) (slots' := 61) dX4_init_105 wd_209 (by decide) (by decide) (by decide) (X4_a15 h0) (hz _ (by omega) (by omega)) rfl rfl rfl (by decide) (by decide) ?_
  refine sk_put (k := 15) (v := .ref (b + 12)) (fs' := [.int 0, .int 0, .int 0, .int 0, .ref (b + 1), .ref (b + 2), .ref (b + 3), .ref (b + 4), .ref (b + 5), .ref (b + 6), .ref (b + 7), .ref (b + 8), .ref (b + 9), .ref (b + 10), .ref (b + 11), .ref (b + 12), .null]) dX4_init_107 cf_4 wd_172 (by decide) rfl rfl rfl (Nat.le_of_ble_eq_true rfl) rfl ?_
  refine sk_this dX4_init_110 ?_
  refine sk_iconst (v := 5) dX4_init_111 (by decide) ?_
  refine sk_newi (n := 5) (N := 5) (j' := 14) (cells' := 13) (slots' := 66) dX4_init_112 wd_209 (by decide) (by decide) (by decide) (X4_a16 h0) (hz _ (by omega) (by omega)) rfl rfl rfl (by decide) (by decide) ?_
  refine sk_put (k := 16) (v := .ref (b + 13)) (fs' := [.int 0, .int 0, .int 0, .int 0, .ref (b + 1), .ref (b + 2), .ref (b + 3), .ref (b + 4), .ref (b + 5), .ref (b + 6), .ref (b + 7), .ref (b + 8), .ref (b + 9), .ref (b + 10), .ref (b + 11), .ref (b + 12), .ref (b + 13)]) dX4_init_114 cf_4 wd_173 (by decide) rfl rfl rfl (Nat.le_of_ble_eq_true rfl) rfl ?_
  exact sk_ret dX4_init_117 (X4_k h0) cf_4 hfs rfl rfl rfl
theorem cbX3 : CB yX3_init cX3_init 1 none 0 ∧ Cond.instanceMethod yX3_init ∈ gw ∧ yX3_init.name = "<init>" := ⟨⟨wd_214, wd_106, by decide, by decide, by decide +kernel⟩, wd_213, rfl⟩
set_option maxRecDepth 100000 in
set_option maxHeartbeats 4000000 in
theorem kX3 {l : Launch} {E : Ev} {L : HL} {b : Nat} (h0 : isX3 E b) (hz : ∀ q, b ≤ q → q < b + 21 → ∀ i, L.1 q i = 0) : Mk l E L yX3_init cX3_init 2 3 21 20 120 b := by
  have hfs : ∀ k, k < 6 → vp_V [.int 0, .int 0, .ref (b + 1), .ref (b + 2), .ref (b + 3), .ref (b + 12)] k = fv (fty 3 k) E L b k := by
    intro k hk
    match k, hk with
    | 0, _ => exact (congrArg Value.int (hz b (Nat.le_refl _) (by omega) 0)).symm
    | 1, _ => exact (congrArg Value.int (hz b (Nat.le_refl _) (by omega) 1)).symm
    | 2, _ => exact (congrArg Value.ref (X3_r2 h0)).symm
    | 3, _ => exact (congrArg Value.ref (X3_r3 h0)).symm
    | 4, _ => exact (congrArg Value.ref (X3_r4 h0)).symm
    | 5, _ => exact (congrArg Value.ref (X3_r5 h0)).symm
    | k + 6, h => exact absurd h (by omega)
  refine Mk.of (fs := [.int 0, .int 0, .null, .null, .null, .null]) (plainFor_of_name (by decide)) rfl cf_3 (fun k hk => by
    match k, hk with
    | 0, _ => rfl
    | 1, _ => rfl
    | 2, _ => rfl
    | 3, _ => rfl
    | 4, _ => rfl
    | 5, _ => rfl
    | k + 6, h => exact absurd h (by omega)) ?_
  refine sk_this dX3_init_0 ?_
  refine sk_obj dX3_init_1 wd_215 wd_125 wd_126 (by decide) (Nat.le_of_ble_eq_true rfl) ?_
  refine sk_this dX3_init_4 ?_
  refine sk_iconst (v := 0) dX3_init_5 (by decide) ?_
  refine sk_put (k := 0) (v := .int 0) (fs' := [.int 0, .int 0, .null, .null, .null, .null]) dX3_init_6 cf_3 wd_218 (by decide) rfl rfl rfl (Nat.le_of_ble_eq_true rfl) rfl ?_
  refine sk_this dX3_init_9 ?_
  refine sk_iconst (v := 0) dX3_init_10 (by decide) ?_
  refine sk_put (k := 1) (v := .int 0) (fs' := [.int 0, .int 0, .null, .null, .null, .null]) dX3_init_11 cf_3 wd_220 (by decide) rfl rfl rfl (Nat.le_of_ble_eq_true rfl) rfl ?_
  refine sk_this dX3_init_14 ?_
  refine sk_bipush (v := 8) dX3_init_15 (by decide) ?_
  refine sk_newi (n := 8) (N := 8) (j' := 2) (cells' := 1) (slots' := 8) dX3_init_17 wd_209 (by decide) (by decide) (by decide) (X3_a2 h0) (hz _ (by omega) (by omega)) rfl rfl rfl (by decide) (by decide) ?_
  refine sk_put (k := 2) (v := .ref (b + 1)) (fs' := [.int 0, .int 0, .ref (b + 1), .null, .null, .null]) dX3_init_19 cf_3 wd_221 (by decide) rfl rfl rfl (Nat.le_of_ble_eq_true rfl) rfl ?_
  refine sk_this dX3_init_22 ?_
  refine sk_bipush (v := 8) dX3_init_23 (by decide) ?_
  refine sk_newi (n := 8) (N := 8) (j' := 3) (cells' := 2) (slots' := 16) dX3_init_25 wd_209 (by decide) (by decide) (by decide) (X3_a3 h0) (hz _ (by omega) (by omega)) rfl rfl rfl (by decide) (by decide) ?_
  refine sk_put (k := 3) (v := .ref (b + 2)) (fs' := [.int 0, .int 0, .ref (b + 1), .ref (b + 2), .null, .null]) dX3_init_27 cf_3 wd_222 (by decide) rfl rfl rfl (Nat.le_of_ble_eq_true rfl) rfl ?_
  refine sk_this dX3_init_30 ?_
  refine sk_bipush (v := 8) dX3_init_31 (by decide) ?_
  refine sk_iconst (v := 5) dX3_init_33 (by decide) ?_
  refine sk_mnew (n := 8) (k := 5) (N := 8) (K := 5) (j' := 12) (cells' := 11) (slots' := 64) dX3_init_34 wd_216 wd_209 (by decide) (by decide) (by decide) (by decide) (by decide) (by decide) (by decide) (X3_a4 h0) (X3_w4 h0) (fun q i g1 g2 => hz q (by omega) (by omega) i) rfl rfl rfl (by decide) (by decide) ?_
  refine sk_put (k := 4) (v := .ref (b + 3)) (fs' := [.int 0, .int 0, .ref (b + 1), .ref (b + 2), .ref (b + 3), .null]) dX3_init_38 cf_3 wd_223 (by decide) rfl rfl rfl (Nat.le_of_ble_eq_true rfl) rfl ?_
  refine sk_this dX3_init_41 ?_
  refine sk_bipush (v := 8) dX3_init_42 (by decide) ?_
  refine sk_bipush (v := 6) dX3_init_44 (by decide) ?_
  refine sk_mnew (n := 8) (k := 6) (N := 8) (K := 6) (j' := 21) (cells' := 20) (slots' := 120) dX3_init_46 wd_216 wd_209 (by decide) (by decide) (by decide) (by decide) (by decide) (by decide) (by decide) (X3_a5 h0) (X3_w5 h0) (fun q i g1 g2 => hz q (by omega) (by omega) i) rfl rfl rfl (by decide) (by decide) ?_
  refine sk_put (k := 5) (v := .ref (b + 12)) (fs' := [.int 0, .int 0, .ref (b + 1), .ref (b + 2), .ref (b + 3), .ref (b + 12)]) dX3_init_50 cf_3 wd_224 (by decide) rfl rfl rfl (Nat.le_of_ble_eq_true rfl) rfl ?_
  exact sk_ret dX3_init_53 (X3_k h0) cf_3 hfs rfl rfl rfl
theorem cbX1 : CB yX1_init cX1_init 1 none 0 ∧ Cond.instanceMethod yX1_init ∈ gw ∧ yX1_init.name = "<init>" := ⟨⟨wd_327, wd_110, by decide, by decide, by decide +kernel⟩, wd_326, rfl⟩
set_option maxRecDepth 100000 in
set_option maxHeartbeats 4000000 in
theorem kX1 {l : Launch} {E : Ev} {L : HL} {b : Nat} (h0 : isX1 E b) (hz : ∀ q, b ≤ q → q < b + 4 → ∀ i, L.1 q i = 0) : Mk l E L yX1_init cX1_init 2 1 4 3 16 b := by
  have hfs : ∀ k, k < 3 → vp_V [.ref (b + 1), .ref (b + 2), .ref (b + 3)] k = fv (fty 1 k) E L b k := by
    intro k hk
    match k, hk with
    | 0, _ => exact (congrArg Value.ref (X1_r0 h0)).symm
    | 1, _ => exact (congrArg Value.ref (X1_r1 h0)).symm
    | 2, _ => exact (congrArg Value.ref (X1_r2 h0)).symm
    | k + 3, h => exact absurd h (by omega)
  refine Mk.of (fs := [.null, .null, .null]) (plainFor_of_name (by decide)) rfl cf_1 (fun k hk => by
    match k, hk with
    | 0, _ => rfl
    | 1, _ => rfl
    | 2, _ => rfl
    | k + 3, h => exact absurd h (by omega)) ?_
  refine sk_this dX1_init_0 ?_
  refine sk_obj dX1_init_1 wd_328 wd_125 wd_126 (by decide) (Nat.le_of_ble_eq_true rfl) ?_
  refine sk_this dX1_init_4 ?_
  refine sk_iconst (v := 5) dX1_init_5 (by decide) ?_
  refine sk_newi (n := 5) (N := 5) (j' := 2) (cells' := 1) (slots' := 5) dX1_init_6 wd_209 (by decide) (by decide) (by decide) (X1_a0 h0) (hz _ (by omega) (by omega)) rfl rfl rfl (by decide) (by decide) ?_
  refine sk_put (k := 0) (v := .ref (b + 1)) (fs' := [.ref (b + 1), .null, .null]) dX1_init_8 cf_1 wd_329 (by decide) rfl rfl rfl (Nat.le_of_ble_eq_true rfl) rfl ?_
  refine sk_this dX1_init_11 ?_
  refine sk_iconst (v := 5) dX1_init_12 (by decide) ?_
  refine sk_newi (n := 5) (N := 5) (j' := 3) (cells' := 2) (slots' := 10) dX1_init_13 wd_209 (by decide) (by decide) (by decide) (X1_a1 h0) (hz _ (by omega) (by omega)) rfl rfl rfl (by decide) (by decide) ?_
  refine sk_put (k := 1) (v := .ref (b + 2)) (fs' := [.ref (b + 1), .ref (b + 2), .null]) dX1_init_15 cf_1 wd_330 (by decide) rfl rfl rfl (Nat.le_of_ble_eq_true rfl) rfl ?_
  refine sk_this dX1_init_18 ?_
  refine sk_bipush (v := 6) dX1_init_19 (by decide) ?_
  refine sk_newi (n := 6) (N := 6) (j' := 4) (cells' := 3) (slots' := 16) dX1_init_21 wd_209 (by decide) (by decide) (by decide) (X1_a2 h0) (hz _ (by omega) (by omega)) rfl rfl rfl (by decide) (by decide) ?_
  refine sk_put (k := 2) (v := .ref (b + 3)) (fs' := [.ref (b + 1), .ref (b + 2), .ref (b + 3)]) dX1_init_23 cf_1 wd_331 (by decide) rfl rfl rfl (Nat.le_of_ble_eq_true rfl) rfl ?_
  exact sk_ret dX1_init_26 (X1_k h0) cf_1 hfs rfl rfl rfl
theorem cbX5 : CB yX5_init cX5_init 1 none 0 ∧ Cond.instanceMethod yX5_init ∈ gw ∧ yX5_init.name = "<init>" := ⟨⟨wd_263, wd_108, by decide, by decide, by decide +kernel⟩, wd_262, rfl⟩
set_option maxRecDepth 100000 in
set_option maxHeartbeats 4000000 in
theorem kX5 {l : Launch} {E : Ev} {L : HL} {b : Nat} (h0 : isX5 E b) (hz : ∀ q, b ≤ q → q < b + 28 → ∀ i, L.1 q i = 0) : Mk l E L yX5_init cX5_init 2 5 28 27 270 b := by
  have hfs : ∀ k, k < 8 → vp_V [.ref (b + 1), .int 0, .ref (b + 2), .ref (b + 3), .int 0, .int 0, .int 0, .int 0] k = fv (fty 5 k) E L b k := by
    intro k hk
    match k, hk with
    | 0, _ => exact (congrArg Value.ref (X5_r0 h0)).symm
    | 1, _ => exact (congrArg Value.int (hz b (Nat.le_refl _) (by omega) 1)).symm
    | 2, _ => exact (congrArg Value.ref (X5_r2 h0)).symm
    | 3, _ => exact (congrArg Value.ref (X5_r3 h0)).symm
    | 4, _ => exact (congrArg Value.int (hz b (Nat.le_refl _) (by omega) 4)).symm
    | 5, _ => exact (congrArg Value.int (hz b (Nat.le_refl _) (by omega) 5)).symm
    | 6, _ => exact (congrArg Value.int (hz b (Nat.le_refl _) (by omega) 6)).symm
    | 7, _ => exact (congrArg Value.int (hz b (Nat.le_refl _) (by omega) 7)).symm
    | k + 8, h => exact absurd h (by omega)
  refine Mk.of (fs := [.null, .int 0, .null, .null, .int 0, .int 0, .int 0, .int 0]) (plainFor_of_name (by decide)) rfl cf_5 (fun k hk => by
    match k, hk with
    | 0, _ => rfl
    | 1, _ => rfl
    | 2, _ => rfl
    | 3, _ => rfl
    | 4, _ => rfl
    | 5, _ => rfl
    | 6, _ => rfl
    | 7, _ => rfl
    | k + 8, h => exact absurd h (by omega)) ?_
  refine sk_this dX5_init_0 ?_
  refine sk_obj dX5_init_1 wd_264 wd_125 wd_126 (by decide) (Nat.le_of_ble_eq_true rfl) ?_
  refine sk_this dX5_init_4 ?_
  refine sk_sipush (v := 150) dX5_init_5 (by decide) ?_
  refine sk_newi (n := 150) (N := 150) (j' := 2) (cells' := 1) (slots' := 150) dX5_init_8 wd_209 (by decide) (by decide) (by decide) (X5_a0 h0) (hz _ (by omega) (by omega)) rfl rfl rfl (by decide) (by decide) ?_
  refine sk_put (k := 0) (v := .ref (b + 1)) (fs' := [.ref (b + 1), .int 0, .null, .null, .int 0, .int 0, .int 0, .int 0]) dX5_init_10 cf_5 wd_266 (by decide) rfl rfl rfl (Nat.le_of_ble_eq_true rfl) rfl ?_
  refine sk_this dX5_init_13 ?_
  refine sk_iconst (v := 0) dX5_init_14 (by decide) ?_
  refine sk_put (k := 1) (v := .int 0) (fs' := [.ref (b + 1), .int 0, .null, .null, .int 0, .int 0, .int 0, .int 0]) dX5_init_15 cf_5 wd_267 (by decide) rfl rfl rfl (Nat.le_of_ble_eq_true rfl) rfl ?_
  refine sk_this dX5_init_18 ?_
  refine sk_bipush (v := 24) dX5_init_19 (by decide) ?_
  refine sk_newi (n := 24) (N := 24) (j' := 3) (cells' := 2) (slots' := 174) dX5_init_21 wd_209 (by decide) (by decide) (by decide) (X5_a2 h0) (hz _ (by omega) (by omega)) rfl rfl rfl (by decide) (by decide) ?_
  refine sk_put (k := 2) (v := .ref (b + 2)) (fs' := [.ref (b + 1), .int 0, .ref (b + 2), .null, .int 0, .int 0, .int 0, .int 0]) dX5_init_23 cf_5 wd_269 (by decide) rfl rfl rfl (Nat.le_of_ble_eq_true rfl) rfl ?_
  refine sk_this dX5_init_26 ?_
  refine sk_bipush (v := 24) dX5_init_27 (by decide) ?_
  refine sk_iconst (v := 3) dX5_init_29 (by decide) ?_
  refine sk_mnew (n := 24) (k := 3) (N := 24) (K := 3) (j' := 28) (cells' := 27) (slots' := 270) dX5_init_30 wd_265 wd_209 (by decide) (by decide) (by decide) (by decide) (by decide) (by decide) (by decide) (X5_a3 h0) (X5_w3 h0) (fun q i g1 g2 => hz q (by omega) (by omega) i) rfl rfl rfl (by decide) (by decide) ?_
  refine sk_put (k := 3) (v := .ref (b + 3)) (fs' := [.ref (b + 1), .int 0, .ref (b + 2), .ref (b + 3), .int 0, .int 0, .int 0, .int 0]) dX5_init_34 cf_5 wd_270 (by decide) rfl rfl rfl (Nat.le_of_ble_eq_true rfl) rfl ?_
  refine sk_this dX5_init_37 ?_
  refine sk_iconst (v := 0) dX5_init_38 (by decide) ?_
  refine sk_put (k := 4) (v := .int 0) (fs' := [.ref (b + 1), .int 0, .ref (b + 2), .ref (b + 3), .int 0, .int 0, .int 0, .int 0]) dX5_init_39 cf_5 wd_271 (by decide) rfl rfl rfl (Nat.le_of_ble_eq_true rfl) rfl ?_
  refine sk_this dX5_init_42 ?_
  refine sk_iconst (v := 0) dX5_init_43 (by decide) ?_
  refine sk_put (k := 5) (v := .int 0) (fs' := [.ref (b + 1), .int 0, .ref (b + 2), .ref (b + 3), .int 0, .int 0, .int 0, .int 0]) dX5_init_44 cf_5 wd_273 (by decide) rfl rfl rfl (Nat.le_of_ble_eq_true rfl) rfl ?_
  refine sk_this dX5_init_47 ?_
  refine sk_iconst (v := 0) dX5_init_48 (by decide) ?_
  refine sk_put (k := 6) (v := .int 0) (fs' := [.ref (b + 1), .int 0, .ref (b + 2), .ref (b + 3), .int 0, .int 0, .int 0, .int 0]) dX5_init_49 cf_5 wd_274 (by decide) rfl rfl rfl (Nat.le_of_ble_eq_true rfl) rfl ?_
  refine sk_this dX5_init_52 ?_
  refine sk_iconst (v := 0) dX5_init_53 (by decide) ?_
  refine sk_put (k := 7) (v := .int 0) (fs' := [.ref (b + 1), .int 0, .ref (b + 2), .ref (b + 3), .int 0, .int 0, .int 0, .int 0]) dX5_init_54 cf_5 wd_275 (by decide) rfl rfl rfl (Nat.le_of_ble_eq_true rfl) rfl ?_
  exact sk_ret dX5_init_57 (X5_k h0) cf_5 hfs rfl rfl rfl
theorem cbX0 : CB yX0_init cX0_init 1 none 0 ∧ Cond.instanceMethod yX0_init ∈ gw ∧ yX0_init.name = "<init>" := ⟨⟨wd_242, wd_107, by decide, by decide, by decide +kernel⟩, wd_241, rfl⟩
set_option maxRecDepth 100000 in
set_option maxHeartbeats 4000000 in
theorem kX0 {l : Launch} {E : Ev} {L : HL} {b : Nat} (h0 : isX0 E b) (hz : ∀ q, b ≤ q → q < b + 36 → ∀ i, L.1 q i = 0) : Mk l E L yX0_init cX0_init 4 0 36 35 209 b := by
  have hfs : ∀ k, k < 3 → vp_V [.int 0, .ref (b + 1), .ref (b + 15)] k = fv (fty 0 k) E L b k := by
    intro k hk
    match k, hk with
    | 0, _ => exact (congrArg Value.int (hz b (Nat.le_refl _) (by omega) 0)).symm
    | 1, _ => exact (congrArg Value.ref (X0_r1 h0)).symm
    | 2, _ => exact (congrArg Value.ref (X0_r2 h0)).symm
    | k + 3, h => exact absurd h (by omega)
  refine Mk.of (fs := [.int 0, .null, .null]) (plainFor_of_name (by decide)) rfl cf_0 (fun k hk => by
    match k, hk with
    | 0, _ => rfl
    | 1, _ => rfl
    | 2, _ => rfl
    | k + 3, h => exact absurd h (by omega)) ?_
  refine sk_this dX0_init_0 ?_
  refine sk_obj dX0_init_1 wd_243 wd_125 wd_126 (by decide) (Nat.le_of_ble_eq_true rfl) ?_
  refine sk_this dX0_init_4 ?_
  refine sk_iconst (v := 0) dX0_init_5 (by decide) ?_
  refine sk_put (k := 0) (v := .int 0) (fs' := [.int 0, .null, .null]) dX0_init_6 cf_0 wd_248 (by decide) rfl rfl rfl (Nat.le_of_ble_eq_true rfl) rfl ?_
  refine sk_this dX0_init_9 ?_
  refine sk_new (j' := 15) (cells' := 14) (slots' := 83) cf_4 wd_244 wd_128 wd_105 dX0_init_10 dX0_init_13 dX0_init_14 (kX4 (X0_o1 h0) (fun q g1 g2 => hz q (by omega) (by omega))) cbX4 (Or.inr ⟨_, nw_245⟩) rfl rfl rfl rfl (by decide) (by decide) (Nat.le_of_ble_eq_true rfl) (X0_k h0) ?_
  refine sk_put (k := 1) (v := .ref (b + 1)) (fs' := [.int 0, .ref (b + 1), .null]) dX0_init_17 cf_0 wd_250 (by decide) rfl rfl rfl (Nat.le_of_ble_eq_true rfl) rfl ?_
  refine sk_this dX0_init_20 ?_
  refine sk_new (j' := 36) (cells' := 35) (slots' := 209) cf_3 wd_246 wd_211 wd_106 dX0_init_21 dX0_init_24 dX0_init_25 (kX3 (X0_o2 h0) (fun q g1 g2 => hz q (by omega) (by omega))) cbX3 (Or.inr ⟨_, nw_247⟩) rfl rfl rfl rfl (by decide) (by decide) (Nat.le_of_ble_eq_true rfl) (X0_k h0) ?_
  refine sk_put (k := 2) (v := .ref (b + 15)) (fs' := [.int 0, .ref (b + 1), .ref (b + 15)]) dX0_init_28 cf_0 wd_251 (by decide) rfl rfl rfl (Nat.le_of_ble_eq_true rfl) rfl ?_
  exact sk_ret dX0_init_31 (X0_k h0) cf_0 hfs rfl rfl rfl
theorem cbX2 : CB yX2_init cX2_init 1 none 0 ∧ Cond.instanceMethod yX2_init ∈ gw ∧ yX2_init.name = "<init>" := ⟨⟨wd_297, wd_109, by decide, by decide, by decide +kernel⟩, wd_296, rfl⟩
set_option maxRecDepth 100000 in
set_option maxHeartbeats 4000000 in
theorem kX2 {l : Launch} {E : Ev} {L : HL} {b : Nat} (h0 : isX2 E b) (hz : ∀ q, b ≤ q → q < b + 24 → ∀ i, L.1 q i = 0) : Mk l E L yX2_init cX2_init 4 2 24 23 133 b := by
  have hfs : ∀ k, k < 6 → vp_V [.ref (b + 1), .ref (b + 15), .ref (b + 16), .ref (b + 22), .ref (b + 23), .int 0] k = fv (fty 2 k) E L b k := by
    intro k hk
    match k, hk with
    | 0, _ => exact (congrArg Value.ref (X2_r0 h0)).symm
    | 1, _ => exact (congrArg Value.ref (X2_r1 h0)).symm
    | 2, _ => exact (congrArg Value.ref (X2_r2 h0)).symm
    | 3, _ => exact (congrArg Value.ref (X2_r3 h0)).symm
    | 4, _ => exact (congrArg Value.ref (X2_r4 h0)).symm
    | 5, _ => exact (congrArg Value.int (hz b (Nat.le_refl _) (by omega) 5)).symm
    | k + 6, h => exact absurd h (by omega)
  refine Mk.of (fs := [.null, .null, .null, .null, .null, .int 0]) (plainFor_of_name (by decide)) rfl cf_2 (fun k hk => by
    match k, hk with
    | 0, _ => rfl
    | 1, _ => rfl
    | 2, _ => rfl
    | 3, _ => rfl
    | 4, _ => rfl
    | 5, _ => rfl
    | k + 6, h => exact absurd h (by omega)) ?_
  refine sk_this dX2_init_0 ?_
  refine sk_obj dX2_init_1 wd_298 wd_125 wd_126 (by decide) (Nat.le_of_ble_eq_true rfl) ?_
  refine sk_this dX2_init_4 ?_
  refine sk_new (j' := 15) (cells' := 14) (slots' := 83) cf_4 wd_299 wd_128 wd_105 dX2_init_5 dX2_init_8 dX2_init_9 (kX4 (X2_o0 h0) (fun q g1 g2 => hz q (by omega) (by omega))) cbX4 (Or.inr ⟨_, nw_300⟩) rfl rfl rfl rfl (by decide) (by decide) (Nat.le_of_ble_eq_true rfl) (X2_k h0) ?_
  refine sk_put (k := 0) (v := .ref (b + 1)) (fs' := [.ref (b + 1), .null, .null, .null, .null, .int 0]) dX2_init_12 cf_2 wd_302 (by decide) rfl rfl rfl (Nat.le_of_ble_eq_true rfl) rfl ?_
  refine sk_this dX2_init_15 ?_
  refine sk_iconst (v := 5) dX2_init_16 (by decide) ?_
  refine sk_newi (n := 5) (N := 5) (j' := 16) (cells' := 15) (slots' := 88) dX2_init_17 wd_209 (by decide) (by decide) (by decide) (X2_a1 h0) (hz _ (by omega) (by omega)) rfl rfl rfl (by decide) (by decide) ?_
  refine sk_put (k := 1) (v := .ref (b + 15)) (fs' := [.ref (b + 1), .ref (b + 15), .null, .null, .null, .int 0]) dX2_init_19 cf_2 wd_303 (by decide) rfl rfl rfl (Nat.le_of_ble_eq_true rfl) rfl ?_
  refine sk_this dX2_init_22 ?_
  refine sk_iconst (v := 5) dX2_init_23 (by decide) ?_
  refine sk_bipush (v := 6) dX2_init_24 (by decide) ?_
  refine sk_mnew (n := 5) (k := 6) (N := 5) (K := 6) (j' := 22) (cells' := 21) (slots' := 123) dX2_init_26 wd_301 wd_209 (by decide) (by decide) (by decide) (by decide) (by decide) (by decide) (by decide) (X2_a2 h0) (X2_w2 h0) (fun q i g1 g2 => hz q (by omega) (by omega) i) rfl rfl rfl (by decide) (by decide) ?_
  refine sk_put (k := 2) (v := .ref (b + 16)) (fs' := [.ref (b + 1), .ref (b + 15), .ref (b + 16), .null, .null, .int 0]) dX2_init_30 cf_2 wd_304 (by decide) rfl rfl rfl (Nat.le_of_ble_eq_true rfl) rfl ?_
  refine sk_this dX2_init_33 ?_
  refine sk_iconst (v := 5) dX2_init_34 (by decide) ?_
  refine sk_newi (n := 5) (N := 5) (j' := 23) (cells' := 22) (slots' := 128) dX2_init_35 wd_209 (by decide) (by decide) (by decide) (X2_a3 h0) (hz _ (by omega) (by omega)) rfl rfl rfl (by decide) (by decide) ?_
  refine sk_put (k := 3) (v := .ref (b + 22)) (fs' := [.ref (b + 1), .ref (b + 15), .ref (b + 16), .ref (b + 22), .null, .int 0]) dX2_init_37 cf_2 wd_305 (by decide) rfl rfl rfl (Nat.le_of_ble_eq_true rfl) rfl ?_
  refine sk_this dX2_init_40 ?_
  refine sk_iconst (v := 5) dX2_init_41 (by decide) ?_
  refine sk_newi (n := 5) (N := 5) (j' := 24) (cells' := 23) (slots' := 133) dX2_init_42 wd_209 (by decide) (by decide) (by decide) (X2_a4 h0) (hz _ (by omega) (by omega)) rfl rfl rfl (by decide) (by decide) ?_
  refine sk_put (k := 4) (v := .ref (b + 23)) (fs' := [.ref (b + 1), .ref (b + 15), .ref (b + 16), .ref (b + 22), .ref (b + 23), .int 0]) dX2_init_44 cf_2 wd_306 (by decide) rfl rfl rfl (Nat.le_of_ble_eq_true rfl) rfl ?_
  refine sk_this dX2_init_47 ?_
  refine sk_iconst (v := 0) dX2_init_48 (by decide) ?_
  refine sk_put (k := 5) (v := .int 0) (fs' := [.ref (b + 1), .ref (b + 15), .ref (b + 16), .ref (b + 22), .ref (b + 23), .int 0]) dX2_init_49 cf_2 wd_308 (by decide) rfl rfl rfl (Nat.le_of_ble_eq_true rfl) rfl ?_
  exact sk_ret dX2_init_52 (X2_k h0) cf_2 hfs rfl rfl rfl
theorem cbX6 : CB yX6_init cX6_init 1 none 0 ∧ Cond.instanceMethod yX6_init ∈ gw ∧ yX6_init.name = "<init>" := ⟨⟨wd_123, wd_104, by decide, by decide, by decide +kernel⟩, wd_122, rfl⟩
set_option maxRecDepth 100000 in
set_option maxHeartbeats 4000000 in
theorem kX6 {l : Launch} {E : Ev} {L : HL} {b : Nat} (h0 : isX6 E b) (hz : ∀ q, b ≤ q → q < b + 178 → ∀ i, L.1 q i = 0) (hl8 : L.2 b 8 = 0) (hl9 : L.2 b 9 = 1) : Mk l E L yX6_init cX6_init 6 6 178 177 1152 b := by
  have hfs : ∀ k, k < 13 → vp_V [.ref (b + 1), .ref (b + 15), .ref (b + 29), .ref (b + 50), .ref (b + 86), .ref (b + 122), .ref (b + 150), .ref (b + 174), .long 0, .long 1, .int 0, .int 0, .int 0] k = fv (fty 6 k) E L b k := by
    intro k hk
    match k, hk with
    | 0, _ => exact (congrArg Value.ref (X6_r0 h0)).symm
    | 1, _ => exact (congrArg Value.ref (X6_r1 h0)).symm
    | 2, _ => exact (congrArg Value.ref (X6_r2 h0)).symm
    | 3, _ => exact (congrArg Value.ref (X6_r3 h0)).symm
    | 4, _ => exact (congrArg Value.ref (X6_r4 h0)).symm
    | 5, _ => exact (congrArg Value.ref (X6_r5 h0)).symm
    | 6, _ => exact (congrArg Value.ref (X6_r6 h0)).symm
    | 7, _ => exact (congrArg Value.ref (X6_r7 h0)).symm
    | 8, _ => exact (congrArg Value.long hl8).symm
    | 9, _ => exact (congrArg Value.long hl9).symm
    | 10, _ => exact (congrArg Value.int (hz b (Nat.le_refl _) (by omega) 10)).symm
    | 11, _ => exact (congrArg Value.int (hz b (Nat.le_refl _) (by omega) 11)).symm
    | 12, _ => exact (congrArg Value.int (hz b (Nat.le_refl _) (by omega) 12)).symm
    | k + 13, h => exact absurd h (by omega)
  refine Mk.of (fs := [.null, .null, .null, .null, .null, .null, .null, .null, .long 0, .long 0, .int 0, .int 0, .int 0]) (plainFor_of_name (by decide)) rfl cf_6 (fun k hk => by
    match k, hk with
    | 0, _ => rfl
    | 1, _ => rfl
    | 2, _ => rfl
    | 3, _ => rfl
    | 4, _ => rfl
    | 5, _ => rfl
    | 6, _ => rfl
    | 7, _ => rfl
    | 8, _ => rfl
    | 9, _ => rfl
    | 10, _ => rfl
    | 11, _ => rfl
    | 12, _ => rfl
    | k + 13, h => exact absurd h (by omega)) ?_
  refine sk_this dX6_init_0 ?_
  refine sk_obj dX6_init_1 wd_124 wd_125 wd_126 (by decide) (Nat.le_of_ble_eq_true rfl) ?_
  refine sk_this dX6_init_4 ?_
  refine sk_new (j' := 15) (cells' := 14) (slots' := 83) cf_4 wd_127 wd_128 wd_105 dX6_init_5 dX6_init_8 dX6_init_9 (kX4 (X6_o0 h0) (fun q g1 g2 => hz q (by omega) (by omega))) cbX4 (Or.inr ⟨_, nw_129⟩) rfl rfl rfl rfl (by decide) (by decide) (Nat.le_of_ble_eq_true rfl) (X6_k h0) ?_
  refine sk_put (k := 0) (v := .ref (b + 1)) (fs' := [.ref (b + 1), .null, .null, .null, .null, .null, .null, .null, .long 0, .long 0, .int 0, .int 0, .int 0]) dX6_init_12 cf_6 wd_340 (by decide) rfl rfl rfl (Nat.le_of_ble_eq_true rfl) rfl ?_
  refine sk_this dX6_init_15 ?_
  refine sk_new (j' := 29) (cells' := 28) (slots' := 166) cf_4 wd_127 wd_128 wd_105 dX6_init_16 dX6_init_19 dX6_init_20 (kX4 (X6_o1 h0) (fun q g1 g2 => hz q (by omega) (by omega))) cbX4 (Or.inr ⟨_, nw_129⟩) rfl rfl rfl rfl (by decide) (by decide) (Nat.le_of_ble_eq_true rfl) (X6_k h0) ?_
  refine sk_put (k := 1) (v := .ref (b + 15)) (fs' := [.ref (b + 1), .ref (b + 15), .null, .null, .null, .null, .null, .null, .long 0, .long 0, .int 0, .int 0, .int 0]) dX6_init_23 cf_6 wd_341 (by decide) rfl rfl rfl (Nat.le_of_ble_eq_true rfl) rfl ?_
  refine sk_this dX6_init_26 ?_
  refine sk_new (j' := 50) (cells' := 49) (slots' := 292) cf_3 wd_210 wd_211 wd_106 dX6_init_27 dX6_init_30 dX6_init_31 (kX3 (X6_o2 h0) (fun q g1 g2 => hz q (by omega) (by omega))) cbX3 (Or.inr ⟨_, nw_212⟩) rfl rfl rfl rfl (by decide) (by decide) (Nat.le_of_ble_eq_true rfl) (X6_k h0) ?_
  refine sk_put (k := 2) (v := .ref (b + 29)) (fs' := [.ref (b + 1), .ref (b + 15), .ref (b + 29), .null, .null, .null, .null, .null, .long 0, .long 0, .int 0, .int 0, .int 0]) dX6_init_34 cf_6 wd_342 (by decide) rfl rfl rfl (Nat.le_of_ble_eq_true rfl) rfl ?_
  refine sk_this dX6_init_37 ?_
  refine sk_new (j' := 86) (cells' := 85) (slots' := 504) cf_0 wd_238 wd_239 wd_107 dX6_init_38 dX6_init_41 dX6_init_42 (kX0 (X6_o3 h0) (fun q g1 g2 => hz q (by omega) (by omega))) cbX0 (Or.inr ⟨_, nw_240⟩) rfl rfl rfl rfl (by decide) (by decide) (Nat.le_of_ble_eq_true rfl) (X6_k h0) ?_
  refine sk_put (k := 3) (v := .ref (b + 50)) (fs' := [.ref (b + 1), .ref (b + 15), .ref (b + 29), .ref (b + 50), .null, .null, .null, .null, .long 0, .long 0, .int 0, .int 0, .int 0]) dX6_init_45 cf_6 wd_343 (by decide) rfl rfl rfl (Nat.le_of_ble_eq_true rfl) rfl ?_
  refine sk_this dX6_init_48 ?_
  refine sk_new (j' := 122) (cells' := 121) (slots' := 716) cf_0 wd_238 wd_239 wd_107 dX6_init_49 dX6_init_52 dX6_init_53 (kX0 (X6_o4 h0) (fun q g1 g2 => hz q (by omega) (by omega))) cbX0 (Or.inr ⟨_, nw_240⟩) rfl rfl rfl rfl (by decide) (by decide) (Nat.le_of_ble_eq_true rfl) (X6_k h0) ?_
  refine sk_put (k := 4) (v := .ref (b + 86)) (fs' := [.ref (b + 1), .ref (b + 15), .ref (b + 29), .ref (b + 50), .ref (b + 86), .null, .null, .null, .long 0, .long 0, .int 0, .int 0, .int 0]) dX6_init_56 cf_6 wd_344 (by decide) rfl rfl rfl (Nat.le_of_ble_eq_true rfl) rfl ?_
  refine sk_this dX6_init_59 ?_
  refine sk_new (j' := 150) (cells' := 149) (slots' := 994) cf_5 wd_259 wd_260 wd_108 dX6_init_60 dX6_init_63 dX6_init_64 (kX5 (X6_o5 h0) (fun q g1 g2 => hz q (by omega) (by omega))) cbX5 (Or.inr ⟨_, nw_261⟩) rfl rfl rfl rfl (by decide) (by decide) (Nat.le_of_ble_eq_true rfl) (X6_k h0) ?_
  refine sk_put (k := 5) (v := .ref (b + 122)) (fs' := [.ref (b + 1), .ref (b + 15), .ref (b + 29), .ref (b + 50), .ref (b + 86), .ref (b + 122), .null, .null, .long 0, .long 0, .int 0, .int 0, .int 0]) dX6_init_67 cf_6 wd_345 (by decide) rfl rfl rfl (Nat.le_of_ble_eq_true rfl) rfl ?_
  refine sk_this dX6_init_70 ?_
  refine sk_new (j' := 174) (cells' := 173) (slots' := 1133) cf_2 wd_293 wd_294 wd_109 dX6_init_71 dX6_init_74 dX6_init_75 (kX2 (X6_o6 h0) (fun q g1 g2 => hz q (by omega) (by omega))) cbX2 (Or.inr ⟨_, nw_295⟩) rfl rfl rfl rfl (by decide) (by decide) (Nat.le_of_ble_eq_true rfl) (X6_k h0) ?_
  refine sk_put (k := 6) (v := .ref (b + 150)) (fs' := [.ref (b + 1), .ref (b + 15), .ref (b + 29), .ref (b + 50), .ref (b + 86), .ref (b + 122), .ref (b + 150), .null, .long 0, .long 0, .int 0, .int 0, .int 0]) dX6_init_78 cf_6 wd_346 (by decide) rfl rfl rfl (Nat.le_of_ble_eq_true rfl) rfl ?_
  refine sk_this dX6_init_81 ?_
  refine sk_new (j' := 178) (cells' := 177) (slots' := 1152) cf_1 wd_323 wd_324 wd_110 dX6_init_82 dX6_init_85 dX6_init_86 (kX1 (X6_o7 h0) (fun q g1 g2 => hz q (by omega) (by omega))) cbX1 (Or.inr ⟨_, nw_325⟩) rfl rfl rfl rfl (by decide) (by decide) (Nat.le_of_ble_eq_true rfl) (X6_k h0) ?_
  refine sk_put (k := 7) (v := .ref (b + 174)) (fs' := [.ref (b + 1), .ref (b + 15), .ref (b + 29), .ref (b + 50), .ref (b + 86), .ref (b + 122), .ref (b + 150), .ref (b + 174), .long 0, .long 0, .int 0, .int 0, .int 0]) dX6_init_89 cf_6 wd_347 (by decide) rfl rfl rfl (Nat.le_of_ble_eq_true rfl) rfl ?_
  refine sk_this dX6_init_92 ?_
  refine sk_lconst (v := 0) dX6_init_93 (by decide) ?_
  refine sk_put (k := 8) (v := .long 0) (fs' := [.ref (b + 1), .ref (b + 15), .ref (b + 29), .ref (b + 50), .ref (b + 86), .ref (b + 122), .ref (b + 150), .ref (b + 174), .long 0, .long 0, .int 0, .int 0, .int 0]) dX6_init_94 cf_6 wd_348 (by decide) rfl rfl rfl (Nat.le_of_ble_eq_true rfl) rfl ?_
  refine sk_this dX6_init_97 ?_
  refine sk_lconst (v := 1) dX6_init_98 (by decide) ?_
  refine sk_put (k := 9) (v := .long 1) (fs' := [.ref (b + 1), .ref (b + 15), .ref (b + 29), .ref (b + 50), .ref (b + 86), .ref (b + 122), .ref (b + 150), .ref (b + 174), .long 0, .long 1, .int 0, .int 0, .int 0]) dX6_init_99 cf_6 wd_349 (by decide) rfl rfl rfl (Nat.le_of_ble_eq_true rfl) rfl ?_
  refine sk_this dX6_init_102 ?_
  refine sk_iconst (v := 0) dX6_init_103 (by decide) ?_
  refine sk_put (k := 10) (v := .int 0) (fs' := [.ref (b + 1), .ref (b + 15), .ref (b + 29), .ref (b + 50), .ref (b + 86), .ref (b + 122), .ref (b + 150), .ref (b + 174), .long 0, .long 1, .int 0, .int 0, .int 0]) dX6_init_104 cf_6 wd_350 (by decide) rfl rfl rfl (Nat.le_of_ble_eq_true rfl) rfl ?_
  refine sk_this dX6_init_107 ?_
  refine sk_iconst (v := 0) dX6_init_108 (by decide) ?_
  refine sk_put (k := 11) (v := .int 0) (fs' := [.ref (b + 1), .ref (b + 15), .ref (b + 29), .ref (b + 50), .ref (b + 86), .ref (b + 122), .ref (b + 150), .ref (b + 174), .long 0, .long 1, .int 0, .int 0, .int 0]) dX6_init_109 cf_6 wd_351 (by decide) rfl rfl rfl (Nat.le_of_ble_eq_true rfl) rfl ?_
  refine sk_this dX6_init_112 ?_
  refine sk_iconst (v := 0) dX6_init_113 (by decide) ?_
  refine sk_put (k := 12) (v := .int 0) (fs' := [.ref (b + 1), .ref (b + 15), .ref (b + 29), .ref (b + 50), .ref (b + 86), .ref (b + 122), .ref (b + 150), .ref (b + 174), .long 0, .long 1, .int 0, .int 0, .int 0]) dX6_init_114 cf_6 wd_352 (by decide) rfl rfl rfl (Nat.le_of_ble_eq_true rfl) rfl ?_
  exact sk_ret dX6_init_117 (X6_k h0) cf_6 hfs rfl rfl rfl
theorem cbX7 : CB yX7_init cX7_init 1 none 0 ∧ Cond.instanceMethod yX7_init ∈ gw ∧ yX7_init.name = "<init>" := ⟨⟨wd_950, wd_111, by decide, by decide, by decide +kernel⟩, wd_949, rfl⟩
set_option maxRecDepth 100000 in
set_option maxHeartbeats 4000000 in
theorem kX7 {l : Launch} {E : Ev} {L : HL} {b : Nat} (h0 : isX7 E b) (hz : ∀ q, b ≤ q → q < b + 12 → ∀ i, L.1 q i = 0) (hl5 : L.2 b 5 = 0) (hl6 : L.2 b 6 = 1) (hl12 : L.2 b 12 = 0) : Mk l E L yX7_init cX7_init 4 7 12 11 1375 b := by
  have hfs : ∀ k, k < 20 → vp_V [.ref (b + 1), .ref (b + 2), .ref (b + 3), .ref (b + 4), .int 0, .long 0, .long 1, .ref (b + 5), .int 0, .int 0, .int 0, .int 0, .long 0, .ref (b + 6), .int 0, .ref (b + 7), .ref (b + 8), .ref (b + 9), .ref (b + 10), .ref (b + 11)] k = fv (fty 7 k) E L b k := by
    intro k hk
    match k, hk with
    | 0, _ => exact (congrArg Value.ref (X7_r0 h0)).symm
    | 1, _ => exact (congrArg Value.ref (X7_r1 h0)).symm
    | 2, _ => exact (congrArg Value.ref (X7_r2 h0)).symm
    | 3, _ => exact (congrArg Value.ref (X7_r3 h0)).symm
    | 4, _ => exact (congrArg Value.int (hz b (Nat.le_refl _) (by omega) 4)).symm
    | 5, _ => exact (congrArg Value.long hl5).symm
    | 6, _ => exact (congrArg Value.long hl6).symm
    | 7, _ => exact (congrArg Value.ref (X7_r7 h0)).symm
    | 8, _ => exact (congrArg Value.int (hz b (Nat.le_refl _) (by omega) 8)).symm
    | 9, _ => exact (congrArg Value.int (hz b (Nat.le_refl _) (by omega) 9)).symm
    | 10, _ => exact (congrArg Value.int (hz b (Nat.le_refl _) (by omega) 10)).symm
    | 11, _ => exact (congrArg Value.int (hz b (Nat.le_refl _) (by omega) 11)).symm
    | 12, _ => exact (congrArg Value.long hl12).symm
    | 13, _ => exact (congrArg Value.ref (X7_r13 h0)).symm
    | 14, _ => exact (congrArg Value.int (hz b (Nat.le_refl _) (by omega) 14)).symm
    | 15, _ => exact (congrArg Value.ref (X7_r15 h0)).symm
    | 16, _ => exact (congrArg Value.ref (X7_r16 h0)).symm
    | 17, _ => exact (congrArg Value.ref (X7_r17 h0)).symm
    | 18, _ => exact (congrArg Value.ref (X7_r18 h0)).symm
    | 19, _ => exact (congrArg Value.ref (X7_r19 h0)).symm
    | k + 20, h => exact absurd h (by omega)
  have clean_zero_b : fX7_clean b L = some L := clean_zero (hz (b + 1) (by omega) (by omega))
  refine Mk.of (fs := [.null, .null, .null, .null, .int 0, .long 0, .long 0, .null, .int 0, .int 0, .int 0, .int 0, .long 0, .null, .int 0, .null, .null, .null, .null, .null]) (plainFor_of_name (by decide)) rfl cf_7 (fun k hk => by
    match k, hk with
    | 0, _ => rfl
    | 1, _ => rfl
    | 2, _ => rfl
    | 3, _ => rfl
    | 4, _ => rfl
    | 5, _ => rfl
    | 6, _ => rfl
    | 7, _ => rfl
    | 8, _ => rfl
    | 9, _ => rfl
    | 10, _ => rfl
    | 11, _ => rfl
    | 12, _ => rfl
    | 13, _ => rfl
    | 14, _ => rfl
    | 15, _ => rfl
    | 16, _ => rfl
    | 17, _ => rfl
    | 18, _ => rfl
    | 19, _ => rfl
    | k + 20, h => exact absurd h (by omega)) ?_
  refine sk_this dX7_init_0 ?_
  refine sk_obj dX7_init_1 wd_951 wd_125 wd_126 (by decide) (Nat.le_of_ble_eq_true rfl) ?_
  refine sk_this dX7_init_4 ?_
  refine sk_sipush (v := 228) dX7_init_5 (by decide) ?_
  refine sk_newi (n := 228) (N := 228) (j' := 2) (cells' := 1) (slots' := 228) dX7_init_8 wd_209 (by decide) (by decide) (by decide) (X7_a0 h0) (hz _ (by omega) (by omega)) rfl rfl rfl (by decide) (by decide) ?_
  refine sk_put (k := 0) (v := .ref (b + 1)) (fs' := [.ref (b + 1), .null, .null, .null, .int 0, .long 0, .long 0, .null, .int 0, .int 0, .int 0, .int 0, .long 0, .null, .int 0, .null, .null, .null, .null, .null]) dX7_init_10 cf_7 wd_956 (by decide) rfl rfl rfl (Nat.le_of_ble_eq_true rfl) rfl ?_
  refine sk_this dX7_init_13 ?_
  refine sk_sipush (v := 456) dX7_init_14 (by decide) ?_
  refine sk_newi (n := 456) (N := 456) (j' := 3) (cells' := 2) (slots' := 684) dX7_init_17 wd_209 (by decide) (by decide) (by decide) (X7_a1 h0) (hz _ (by omega) (by omega)) rfl rfl rfl (by decide) (by decide) ?_
  refine sk_put (k := 1) (v := .ref (b + 2)) (fs' := [.ref (b + 1), .ref (b + 2), .null, .null, .int 0, .long 0, .long 0, .null, .int 0, .int 0, .int 0, .int 0, .long 0, .null, .int 0, .null, .null, .null, .null, .null]) dX7_init_19 cf_7 wd_957 (by decide) rfl rfl rfl (Nat.le_of_ble_eq_true rfl) rfl ?_
  refine sk_this dX7_init_22 ?_
  refine sk_iconst (v := 2) dX7_init_23 (by decide) ?_
  refine sk_newz (n := 2) (N := 2) (j' := 4) (cells' := 3) (slots' := 686) dX7_init_24 wd_1017 (by decide) (by decide) (by decide) (X7_a2 h0) (hz _ (by omega) (by omega)) rfl rfl rfl (by decide) (by decide) ?_
  refine sk_put (k := 2) (v := .ref (b + 3)) (fs' := [.ref (b + 1), .ref (b + 2), .ref (b + 3), .null, .int 0, .long 0, .long 0, .null, .int 0, .int 0, .int 0, .int 0, .long 0, .null, .int 0, .null, .null, .null, .null, .null]) dX7_init_26 cf_7 wd_958 (by decide) rfl rfl rfl (Nat.le_of_ble_eq_true rfl) rfl ?_
  refine sk_this dX7_init_29 ?_
  refine sk_sipush (v := 150) dX7_init_30 (by decide) ?_
  refine sk_newi (n := 150) (N := 150) (j' := 5) (cells' := 4) (slots' := 836) dX7_init_33 wd_209 (by decide) (by decide) (by decide) (X7_a3 h0) (hz _ (by omega) (by omega)) rfl rfl rfl (by decide) (by decide) ?_
  refine sk_put (k := 3) (v := .ref (b + 4)) (fs' := [.ref (b + 1), .ref (b + 2), .ref (b + 3), .ref (b + 4), .int 0, .long 0, .long 0, .null, .int 0, .int 0, .int 0, .int 0, .long 0, .null, .int 0, .null, .null, .null, .null, .null]) dX7_init_35 cf_7 wd_959 (by decide) rfl rfl rfl (Nat.le_of_ble_eq_true rfl) rfl ?_
  refine sk_this dX7_init_38 ?_
  refine sk_lconst (v := 1) dX7_init_39 (by decide) ?_
  refine sk_put (k := 6) (v := .long 1) (fs' := [.ref (b + 1), .ref (b + 2), .ref (b + 3), .ref (b + 4), .int 0, .long 0, .long 1, .null, .int 0, .int 0, .int 0, .int 0, .long 0, .null, .int 0, .null, .null, .null, .null, .null]) dX7_init_40 cf_7 wd_962 (by decide) rfl rfl rfl (Nat.le_of_ble_eq_true rfl) rfl ?_
  refine sk_this dX7_init_43 ?_
  refine sk_iconst (v := 3) dX7_init_44 (by decide) ?_
  refine sk_newi (n := 3) (N := 3) (j' := 6) (cells' := 5) (slots' := 839) dX7_init_45 wd_209 (by decide) (by decide) (by decide) (X7_a7 h0) (hz _ (by omega) (by omega)) rfl rfl rfl (by decide) (by decide) ?_
  refine sk_put (k := 7) (v := .ref (b + 5)) (fs' := [.ref (b + 1), .ref (b + 2), .ref (b + 3), .ref (b + 4), .int 0, .long 0, .long 1, .ref (b + 5), .int 0, .int 0, .int 0, .int 0, .long 0, .null, .int 0, .null, .null, .null, .null, .null]) dX7_init_47 cf_7 wd_963 (by decide) rfl rfl rfl (Nat.le_of_ble_eq_true rfl) rfl ?_
  refine sk_this dX7_init_50 ?_
  refine sk_sipush (v := 200) dX7_init_51 (by decide) ?_
  refine sk_newi (n := 200) (N := 200) (j' := 7) (cells' := 6) (slots' := 1039) dX7_init_54 wd_209 (by decide) (by decide) (by decide) (X7_a13 h0) (hz _ (by omega) (by omega)) rfl rfl rfl (by decide) (by decide) ?_
  refine sk_put (k := 13) (v := .ref (b + 6)) (fs' := [.ref (b + 1), .ref (b + 2), .ref (b + 3), .ref (b + 4), .int 0, .long 0, .long 1, .ref (b + 5), .int 0, .int 0, .int 0, .int 0, .long 0, .ref (b + 6), .int 0, .null, .null, .null, .null, .null]) dX7_init_56 cf_7 wd_969 (by decide) rfl rfl rfl (Nat.le_of_ble_eq_true rfl) rfl ?_
  refine sk_this dX7_init_59 ?_
  refine sk_sipush (v := 228) dX7_init_60 (by decide) ?_
  refine sk_newi (n := 228) (N := 228) (j' := 8) (cells' := 7) (slots' := 1267) dX7_init_63 wd_209 (by decide) (by decide) (by decide) (X7_a15 h0) (hz _ (by omega) (by omega)) rfl rfl rfl (by decide) (by decide) ?_
  refine sk_put (k := 15) (v := .ref (b + 7)) (fs' := [.ref (b + 1), .ref (b + 2), .ref (b + 3), .ref (b + 4), .int 0, .long 0, .long 1, .ref (b + 5), .int 0, .int 0, .int 0, .int 0, .long 0, .ref (b + 6), .int 0, .ref (b + 7), .null, .null, .null, .null]) dX7_init_65 cf_7 wd_971 (by decide) rfl rfl rfl (Nat.le_of_ble_eq_true rfl) rfl ?_
  refine sk_this dX7_init_68 ?_
  refine sk_iconst (v := 5) dX7_init_69 (by decide) ?_
  refine sk_newi (n := 5) (N := 5) (j' := 9) (cells' := 8) (slots' := 1272) dX7_init_70 wd_209 (by decide) (by decide) (by decide) (X7_a16 h0) (hz _ (by omega) (by omega)) rfl rfl rfl (by decide) (by decide) ?_
  refine sk_put (k := 16) (v := .ref (b + 8)) (fs' := [.ref (b + 1), .ref (b + 2), .ref (b + 3), .ref (b + 4), .int 0, .long 0, .long 1, .ref (b + 5), .int 0, .int 0, .int 0, .int 0, .long 0, .ref (b + 6), .int 0, .ref (b + 7), .ref (b + 8), .null, .null, .null]) dX7_init_72 cf_7 wd_972 (by decide) rfl rfl rfl (Nat.le_of_ble_eq_true rfl) rfl ?_
  refine sk_this dX7_init_75 ?_
  refine sk_bipush (v := 92) dX7_init_76 (by decide) ?_
  refine sk_newi (n := 92) (N := 92) (j' := 10) (cells' := 9) (slots' := 1364) dX7_init_78 wd_209 (by decide) (by decide) (by decide) (X7_a17 h0) (hz _ (by omega) (by omega)) rfl rfl rfl (by decide) (by decide) ?_
  refine sk_put (k := 17) (v := .ref (b + 9)) (fs' := [.ref (b + 1), .ref (b + 2), .ref (b + 3), .ref (b + 4), .int 0, .long 0, .long 1, .ref (b + 5), .int 0, .int 0, .int 0, .int 0, .long 0, .ref (b + 6), .int 0, .ref (b + 7), .ref (b + 8), .ref (b + 9), .null, .null]) dX7_init_80 cf_7 wd_973 (by decide) rfl rfl rfl (Nat.le_of_ble_eq_true rfl) rfl ?_
  refine sk_this dX7_init_83 ?_
  refine sk_iconst (v := 5) dX7_init_84 (by decide) ?_
  refine sk_newi (n := 5) (N := 5) (j' := 11) (cells' := 10) (slots' := 1369) dX7_init_85 wd_209 (by decide) (by decide) (by decide) (X7_a18 h0) (hz _ (by omega) (by omega)) rfl rfl rfl (by decide) (by decide) ?_
  refine sk_put (k := 18) (v := .ref (b + 10)) (fs' := [.ref (b + 1), .ref (b + 2), .ref (b + 3), .ref (b + 4), .int 0, .long 0, .long 1, .ref (b + 5), .int 0, .int 0, .int 0, .int 0, .long 0, .ref (b + 6), .int 0, .ref (b + 7), .ref (b + 8), .ref (b + 9), .ref (b + 10), .null]) dX7_init_87 cf_7 wd_974 (by decide) rfl rfl rfl (Nat.le_of_ble_eq_true rfl) rfl ?_
  refine sk_this dX7_init_90 ?_
  refine sk_bipush (v := 6) dX7_init_91 (by decide) ?_
  refine sk_newi (n := 6) (N := 6) (j' := 12) (cells' := 11) (slots' := 1375) dX7_init_93 wd_209 (by decide) (by decide) (by decide) (X7_a19 h0) (hz _ (by omega) (by omega)) rfl rfl rfl (by decide) (by decide) ?_
  refine sk_put (k := 19) (v := .ref (b + 11)) (fs' := [.ref (b + 1), .ref (b + 2), .ref (b + 3), .ref (b + 4), .int 0, .long 0, .long 1, .ref (b + 5), .int 0, .int 0, .int 0, .int 0, .long 0, .ref (b + 6), .int 0, .ref (b + 7), .ref (b + 8), .ref (b + 9), .ref (b + 10), .ref (b + 11)]) dX7_init_95 cf_7 wd_975 (by decide) rfl rfl rfl (Nat.le_of_ble_eq_true rfl) rfl ?_
  refine sk_this dX7_init_98 ?_
  refine sk_own dX7_init_99 (X7_k h0) cf_7 hfs (fun E' g1 g2 g3 g4 g5 g6 _ => mX7_clean (isX7_of h0 g3 g6) clean_zero_b) ciX7_clean wd_952 rfl rfl rfl (by decide) (by decide) ?_
  exact sk_ret dX7_init_102 (X7_k h0) cf_7 hfs rfl rfl rfl
