/-! ===== the shadow world: what the cells hold, by address and place; the references never change ===== -/
abbrev Kd : Type := Nat ⊕ (Nat × Nat)
/-- classes and slots; array classes by tag (0 int, 1 boolean, 2 int[]); kinds of the cells; references; the texts' addresses -/
abbrev Ev : Type := va_G × (Nat → ClassId) × (Nat → Option Kd) × (Nat → Nat → Nat) × (Nat → Nat) × (Nat → Nat)
abbrev eD (E : Ev) : va_G := E.1
abbrev eA (E : Ev) : Nat → ClassId := E.2.1
abbrev eK (E : Ev) : Nat → Option Kd := E.2.2.1
abbrev eR (E : Ev) : Nat → Nat → Nat := E.2.2.2.1
abbrev eS (E : Ev) : Nat → Nat := E.2.2.2.2.1
abbrev eT (E : Ev) : Nat → Nat := E.2.2.2.2.2
abbrev HL : Type := (Nat → Nat → Int32) × (Nat → Nat → Int64)
def wI (L : HL) (a i : Nat) (v : Int32) : HL := (fun b j => if b = a then (if j = i then v else L.1 b j) else L.1 b j, L.2)
def wJ (L : HL) (a i : Nat) (v : Int64) : HL := (L.1, fun b j => if b = a then (if j = i then v else L.2 b j) else L.2 b j)
/-- n elements of the array b, from sp on, come into the array a, from dp on -/
def wC (L : HL) (b sp a dp n : Nat) : HL := (fun c j => if c = a then (if dp ≤ j ∧ j < dp + n then L.1 b (sp + (j - dp)) else L.1 c j) else L.1 c j, L.2)
def fty : Nat → Nat → FieldType := fun c => match c with
  | 0 => tyX0
  | 1 => tyX1
  | 2 => tyX2
  | 3 => tyX3
  | 4 => tyX4
  | 5 => tyX5
  | 6 => tyX6
  | _ => tyX7
def fv (ty : FieldType) (E : Ev) (L : HL) (a k : Nat) : Value := match ty with
  | .int => .int (L.1 a k)
  | .boolean => .int (L.1 a k)
  | .long => .long (L.2 a k)
  | _ => .ref (eR E a k)
def av (t : Nat) (E : Ev) (L : HL) (a i : Nat) : Value := match t with
  | 0 => .int (L.1 a i)
  | 1 => .int (L.1 a i)
  | _ => .ref (eR E a i)
def cellIs (E : Ev) (L : HL) (a : Nat) (H : Heap) : Kd → Prop
  | .inl c => ∃ r : vw_C, vwCl[c]? = some r ∧ t_OB a ((eD E).1 c) r.2.2 ((eD E).2 c) H (fun k => fv (fty c k) E L a k)
  | .inr x => H[a]? = some (arrV (eA E x.1) x.2 (fun i => av x.1 E L a i))
def HP (E : Ev) (L : HL) (H : Heap) : Prop := ∀ (a : Nat) (k : Kd), eK E a = some k → cellIs E L a H k
def FA (E : Ev) : Addr → Prop := fun q => ∃ k, eK E q = some k
theorem FA.no {E : Ev} {q : Nat} (h : ¬ FA E q) : eK E q = none := by
  cases hk : eK E q with
  | none => rfl
  | some k => exact absurd ⟨k, hk⟩ h
def slen : List Nat := [6, 5, 4, 4, 4, 3, 4]
def sbyt : List (List Int32) := [[115, 116, 114, 101, 101, 116], [104, 111, 117, 115, 101], [102, 114, 111, 109], [119, 105, 108, 108], [119, 97, 108, 108], [111, 110, 101], [102, 101, 117, 100]]
def sidx : Nat → Nat := fun i => match i with
  | 0 => 67
  | 1 => 73
  | 2 => 75
  | 3 => 77
  | 4 => 79
  | 5 => 81
  | _ => 83
def stxt : Nat → String := fun i => match i with
  | 0 => "street"
  | 1 => "house"
  | 2 => "from"
  | 3 => "will"
  | 4 => "wall"
  | 5 => "one"
  | _ => "feud"
def EKv (E : Ev) (U : State) : Prop := (∀ (c : Nat) (q : vw_C), vwCl[c]? = some q → u_Kn U q.1 q.2.1 q.2.2 ((eD E).1 c) ((eD E).2 c)) ∧ (ArrOfT U (eA E 0) .int ∧ ArrOfT U (eA E 1) .boolean ∧ ArrOfT U (eA E 2) (.array .int)) ∧ (∀ w ∈ nestW, va_Nw w U) ∧ ∀ i : Nat, i < 7 → vk_R RX5 (sidx i) (stxt i) (eS E i) U
def EKh (E : Ev) (U : State) (H : Heap) : Prop := vk_S 7 slen sbyt (eS E) (eT E) (FA E) U H ∧ va_Z "java/lang/String" "COMPACT_STRINGS" "Z" (.int 1) (FA E) U H ∧ va_Zq "jdk/internal/util/Preconditions" "SIOOBE_FORMATTER" "Ljava/util/function/BiFunction;" (FA E) U H
theorem EKv.warm {E : Ev} {s U : State} (hW : s.WarmedH U.vm) (h : EKv E s) : EKv E U := by
  obtain ⟨h1, ⟨h2, h3, h4⟩, h5, h6⟩ := h
  refine ⟨fun c q hq => u_Kn_moved hW.alike (h1 c q hq), ⟨arrOfT_moved hW.alike h2, arrOfT_moved hW.alike h3, arrOfT_moved hW.alike h4⟩, fun w hw => ?_, fun i hi => (h6 i hi).warm hW⟩
  have hn := (List.mem_filter.mp hw).2
  have hb := h5 w hw
  cases w <;> first | exact va_Nw.warmF hW hb | exact va_Nw.warmM hW hb | cases hn
theorem EKv.same {E : Ev} {s U : State} (hv : U.vm = s.vm) (h : EKv E s) : EKv E U := by
  obtain ⟨h1, ⟨h2, h3, h4⟩, h5, h6⟩ := h
  have ha : s.vm.Alike U.vm := by rw [hv]; exact Vm.Alike.refl _
  refine ⟨fun c q hq => u_Kn_moved ha (h1 c q hq), ⟨arrOfT_moved ha h2, arrOfT_moved ha h3, arrOfT_moved ha h4⟩, fun w hw => ?_, fun i hi => (h6 i hi).same hv⟩
  have hn := (List.mem_filter.mp hw).2
  have hb := h5 w hw
  exact va_Nw.same (by cases w <;> first | rfl | cases hn) hv.symm hb
theorem EKh.to {E : Ev} {s U : State} {H H1 : Heap} (hv : s.vm.Alike U.vm) (hh : ∀ q : Nat, q < H.size → ¬ FA E q → H1[q]? = H[q]?) (h : EKh E s H) : EKh E U H1 :=
  ⟨(h.1.moved hv).kept hh, (h.2.1.moved hv).kept hh, (h.2.2.moved hv).kept hh⟩
/-- where a method stands: its room, what it has made, its end, what is known of its start -/
abbrev Xe : Type := Room × Nat × Nat × (State → Array Value → List Frame → State → Prop) × (State → Prop)
def Cx (E : Ev) (y : MethodName) (cc : ByteArray) (n : Nat) (ret : Option FieldType) (X : Xe) (p : Program) (s : State) (m : MethodId) (args : Array Value) (meth : Method) (c : Code) : Prop :=
  p.tables.exec = Jvm.exec ∧ c.code = cc ∧ c.maxLocals = n ∧ s.vm.findClass y.cls = some m.cls ∧ (∀ w ∈ gw, w.before args s = true) ∧ meth.sig.returnType = ret ∧ (meth.locks = false ∧ X.2.2.2.2 s) ∧ EKv E s ∧ EKh E s s.heap
def HS (E : Ev) (X : Xe) (H0 H : Heap) (locs : List Loc) : Prop := H.size = H0.size + X.2.1 ∧ (∀ q : Nat, eK E q = none → H[q]? = H0[q]?) ∧ ∀ x ∈ locs, FA E x.base
def Pr (E : Ev) (av : List Value) (L : HL) : Array Value → State → Prop := fun v U => v = av.toArray ∧ HP E L U.heap ∧ EKv E U ∧ EKh E U U.heap
def Qr (E : Ev) (r : Option Value) (L' : HL) : Array Value → State → Outcome → State → Prop := fun _ st o t => o = .returned r ∧ HP E L' t.heap ∧ t.heap.size = st.heap.size ∧ ∀ q : Nat, eK E q = none → t.heap[q]? = st.heap[q]?
def rmd (d : Nat) : Room := { frames := d, cells := 0, slots := 0, locals := 48 * d }
/-- a method's contract: from L it answers r and leaves L' -/
def Mt (l : Launch) (E : Ev) (y : MethodName) (cc : ByteArray) (n : Nat) (ret : Option FieldType) (d : Nat) (av : List Value) (L : HL) (r : Option Value) (L' : HL) : Prop := Met l y (.code y cc n ret :: gw) (rmd d) (Pr E av L) (Qr E r L') 0 0 (FA E)
/-- from here on the method ends as X says -/
def Sy (l : Launch) (E : Ev) (y : MethodName) (cc : ByteArray) (n : Nat) (ret : Option FieldType) (X : Xe) (pc : Nat) (lv : List (Nat × Value)) (st : List Value) (L : HL) : Prop :=
  ∀ (p : Program) (e : Env) (s : State) (m : MethodId) (args : Array Value) (below : List Frame) (meth : Method) (c : Code) (H : Heap) (locs : List Loc) (ls : Array Slot), Cx E y cc n ret X p s m args meth c → HP E L H → HS E X s.heap H locs → lv_has ls n lv →
    W p l e X.1 s m args below meth c H locs X.2.1 X.2.2.1 (X.2.2.2.1 s args below) (F0 m pc ls st)
abbrev xm (E : Ev) (d : Nat) (r : Option Value) (L' : HL) : Xe := (rmd d, 0, 0, fun s args below => MQ below (Qr E r L') args s 0 0 (FA E), fun _ => True)
/-- from here on the method answers r and leaves L' -/
abbrev Sx (l : Launch) (E : Ev) (y : MethodName) (cc : ByteArray) (n : Nat) (ret : Option FieldType) (d : Nat) (r : Option Value) (L' : HL) (pc : Nat) (lv : List (Nat × Value)) (st : List Value) (L : HL) : Prop := Sy l E y cc n ret (xm E d r L') pc lv st L
/-- room for a callee of depth d2 -/
def RM (X : Xe) (d2 : Nat) : Prop := d2 + 1 ≤ X.1.frames ∧ 48 * (d2 + 1) ≤ X.1.locals ∧ X.2.1 ≤ X.1.cells ∧ X.2.2.1 ≤ X.1.slots
theorem rm_m {E : Ev} {d d2 : Nat} {r : Option Value} {L' : HL} (h : Nat.ble (d2 + 1) d = true) : RM (xm E d r L') d2 := by
  have h := Nat.le_of_ble_eq_true h
  exact ⟨h, Nat.mul_le_mul_left 48 h, Nat.le_refl _, Nat.le_refl _⟩
theorem Mt.of {l : Launch} {E : Ev} {y : MethodName} {cc : ByteArray} {n : Nat} {ret : Option FieldType} {d : Nat} {av : List Value} {L L' : HL} {r : Option Value} (hy : plainFor y = true) (hlen : (lg_sl av).length ≤ n) (h : Sx l E y cc n ret d r L' 0 (lv_args 0 av) [] L) : Mt l E y cc n ret d av L r L' := by
  refine va_MetF (cc := cc) (maxL := n) (ret := ret) hy rfl ?_
  intro p e s m args below meth c s₁ B hml hv
  obtain ⟨rfl, hP, hK1, hK2⟩ := hv
  have hl := lv_entry av hlen
  rw [lg_entry_eq]
  exact h p e s m _ below meth c s.heap [] _ ⟨B.exec, B.bytes, hml, findClass_of_methodNamed B.named, fun w hw => atoms_spec (ws := .code y cc n ret :: gw) B.pre w (List.mem_cons_of_mem _ hw), B.returns, ⟨B.notSynchronized, trivial⟩, hK1, hK2⟩ hP ⟨rfl, fun _ _ => rfl, fun _ h => by cases h⟩ hl
section SXR
variable {l : Launch} {E : Ev} {y : MethodName} {cc : ByteArray} {n : Nat} {ret : Option FieldType} {X : Xe} {L : HL} {pc : Nat} {lv : List (Nat × Value)} {st : List Value}
theorem sx_sub {lv' : List (Nat × Value)} (ks : List Nat) (hl : lv_pick lv ks = lv') (kk : Sy l E y cc n ret X pc lv' st L) : Sy l E y cc n ret X pc lv st L := by
  intro p e s m args below meth c H locs ls C hP hS hv
  exact kk p e s m args below meth c H locs ls C hP hS (lv_sub hv ks hl)
theorem sx_iconst {k : Int} {v : Int32} (hd : decode cc pc = .ok (.iconst k, 1)) (hv : Int32.ofInt k = v) (kk : Sy l E y cc n ret X (pc + 1) lv (.int v :: st) L) : Sy l E y cc n ret X pc lv st L := by
  intro p e s m args below meth c H locs ls C hP hS hl
  exact lv_iconst C.1 C.2.1 hd hv (kk p e s m args below meth c H locs ls C hP hS hl)
theorem sx_bipush {k : Int} {v : Int32} (hd : decode cc pc = .ok (.bipush k, 2)) (hv : (Int8.ofInt k).toInt32 = v) (kk : Sy l E y cc n ret X (pc + 2) lv (.int v :: st) L) : Sy l E y cc n ret X pc lv st L := by
  intro p e s m args below meth c H locs ls C hP hS hl
  exact lv_bipush C.1 C.2.1 hd hv (kk p e s m args below meth c H locs ls C hP hS hl)
theorem sx_sipush {k : Int} {v : Int32} (hd : decode cc pc = .ok (.sipush k, 3)) (hv : (Int16.ofInt k).toInt32 = v) (kk : Sy l E y cc n ret X (pc + 3) lv (.int v :: st) L) : Sy l E y cc n ret X pc lv st L := by
  intro p e s m args below meth c H locs ls C hP hS hl
  exact lv_sipush C.1 C.2.1 hd hv (kk p e s m args below meth c H locs ls C hP hS hl)
theorem sx_lconst {k : Fin 2} {v : Int64} (hd : decode cc pc = .ok (.lconst k, 1)) (hv : Int64.ofNat (k : Nat) = v) (kk : Sy l E y cc n ret X (pc + 1) lv (.long v :: st) L) : Sy l E y cc n ret X pc lv st L := by
  intro p e s m args below meth c H locs ls C hP hS hl
  exact lv_lconst C.1 C.2.1 hd hv (kk p e s m args below meth c H locs ls C hP hS hl)
theorem sx_ldc {idx : Nat} {v : Int32} (hd : decode cc pc = .ok (.ldc idx, 2)) (hw : Cond.constant y.cls idx v ∈ gw) (kk : Sy l E y cc n ret X (pc + 2) lv (.int v :: st) L) : Sy l E y cc n ret X pc lv st L := by
  intro p e s m args below meth c H locs ls C hP hS hl
  exact lv_ldc C.1 C.2.1 C.2.2.2.1 (C.2.2.2.2.1 _ hw) hd (kk p e s m args below meth c H locs ls C hP hS hl)
theorem sx_ldcw {idx : Nat} {v : Int32} (hd : decode cc pc = .ok (.ldc_w idx, 3)) (hw : Cond.constant y.cls idx v ∈ gw) (kk : Sy l E y cc n ret X (pc + 3) lv (.int v :: st) L) : Sy l E y cc n ret X pc lv st L := by
  intro p e s m args below meth c H locs ls C hP hS hl
  exact lv_ldcw C.1 C.2.1 C.2.2.2.1 (C.2.2.2.2.1 _ hw) hd (kk p e s m args below meth c H locs ls C hP hS hl)
theorem sx_ldc2 {idx : Nat} {v : Int64} (hd : decode cc pc = .ok (.ldc2_w idx, 3)) (hw : Cond.constantLong y.cls idx v ∈ gw) (kk : Sy l E y cc n ret X (pc + 3) lv (.long v :: st) L) : Sy l E y cc n ret X pc lv st L := by
  intro p e s m args below meth c H locs ls C hP hS hl
  exact lv_ldc2 C.1 C.2.1 C.2.2.2.1 (C.2.2.2.2.1 _ hw) hd (kk p e s m args below meth c H locs ls C hP hS hl)
theorem sx_ldcS {idx i : Nat} (hd : decode cc pc = .ok (.ldc idx, 2)) (hy : y.cls = RX5) (hi : i < 7) (hx : sidx i = idx) (kk : Sy l E y cc n ret X (pc + 2) lv (.ref (eS E i) :: st) L) : Sy l E y cc n ret X pc lv st L := by
  intro p e s m args below meth c H locs ls C hP hS hl
  subst hx
  exact va_ldcS C.1 C.2.1 (by rw [← hy]; exact C.2.2.2.1) (C.2.2.2.2.2.2.2.1.2.2.2 i hi) hd (kk p e s m args below meth c H locs ls C hP hS hl)
theorem sx_iload_n {k : Fin 4} {i j : Nat} {x : Int32} (hd : decode cc pc = .ok (.iload_n k, 1)) (hi : (k : Nat) = i) (hx : lv[j]? = some (i, .int x)) (kk : Sy l E y cc n ret X (pc + 1) lv (.int x :: st) L) : Sy l E y cc n ret X pc lv st L := by
  intro p e s m args below meth c H locs ls C hP hS hl
  exact lv_iload_n C.1 C.2.1 hd hi (lv_at hl j hx) (kk p e s m args below meth c H locs ls C hP hS hl)
theorem sx_iload {i j : Nat} {x : Int32} (hd : decode cc pc = .ok (.iload i, 2)) (hx : lv[j]? = some (i, .int x)) (kk : Sy l E y cc n ret X (pc + 2) lv (.int x :: st) L) : Sy l E y cc n ret X pc lv st L := by
  intro p e s m args below meth c H locs ls C hP hS hl
  exact lv_iload C.1 C.2.1 hd (lv_at hl j hx) (kk p e s m args below meth c H locs ls C hP hS hl)
theorem sx_lload_n {k : Fin 4} {i j : Nat} {x : Int64} (hd : decode cc pc = .ok (.lload_n k, 1)) (hi : (k : Nat) = i) (hx : lv[j]? = some (i, .long x)) (kk : Sy l E y cc n ret X (pc + 1) lv (.long x :: st) L) : Sy l E y cc n ret X pc lv st L := by
  intro p e s m args below meth c H locs ls C hP hS hl
  exact lv_lload_n C.1 C.2.1 hd hi (lv_at hl j hx) (kk p e s m args below meth c H locs ls C hP hS hl)
theorem sx_lload {i j : Nat} {x : Int64} (hd : decode cc pc = .ok (.lload i, 2)) (hx : lv[j]? = some (i, .long x)) (kk : Sy l E y cc n ret X (pc + 2) lv (.long x :: st) L) : Sy l E y cc n ret X pc lv st L := by
  intro p e s m args below meth c H locs ls C hP hS hl
  exact lv_lload C.1 C.2.1 hd (lv_at hl j hx) (kk p e s m args below meth c H locs ls C hP hS hl)
theorem sx_aload_n {k : Fin 4} {i j : Nat} {x : Nat} (hd : decode cc pc = .ok (.aload_n k, 1)) (hi : (k : Nat) = i) (hx : lv[j]? = some (i, .ref x)) (kk : Sy l E y cc n ret X (pc + 1) lv (.ref x :: st) L) : Sy l E y cc n ret X pc lv st L := by
  intro p e s m args below meth c H locs ls C hP hS hl
  exact lv_aload_n C.1 C.2.1 hd hi (lv_at hl j hx) (kk p e s m args below meth c H locs ls C hP hS hl)
theorem sx_aload {i j : Nat} {x : Nat} (hd : decode cc pc = .ok (.aload i, 2)) (hx : lv[j]? = some (i, .ref x)) (kk : Sy l E y cc n ret X (pc + 2) lv (.ref x :: st) L) : Sy l E y cc n ret X pc lv st L := by
  intro p e s m args below meth c H locs ls C hP hS hl
  exact lv_aload C.1 C.2.1 hd (lv_at hl j hx) (kk p e s m args below meth c H locs ls C hP hS hl)
/-- the list of locals behind a store, by their numbers -/
def lput (lv : List (Nat × Value)) (i : Nat) (v : Value) : List (Nat × Value) := lv.filter (fun q => Nat.blt q.1 i && !(q.1 + 1 == i && q.2.category == 2)) ++ (i, v) :: lv.filter (fun q => Nat.blt i q.1)
def lput2 (lv : List (Nat × Value)) (i : Nat) (v : Value) : List (Nat × Value) := lv.filter (fun q => Nat.blt q.1 i && !(q.1 + 1 == i && q.2.category == 2)) ++ (i, v) :: lv.filter (fun q => Nat.blt (i + 1) q.1)
theorem lput_has {ls : Array Slot} {i : Nat} {v : Value} (h : lv_has ls n ((i, v) :: lv.filter (fun q => !(q.1 == i) && !(q.1 + 1 == i && q.2.category == 2)))) : lv_has ls n (lput lv i v) := by
  refine ⟨h.1, h.2.1, fun q hq => h.2.2 q ?_⟩
  rcases List.mem_append.mp hq with h1 | h1
  · obtain ⟨h2, h3⟩ := List.mem_filter.mp h1
    refine List.mem_cons_of_mem _ (List.mem_filter.mpr ⟨h2, ?_⟩)
    simp only [Bool.and_eq_true, Nat.blt_eq] at h3
    simp only [Bool.and_eq_true]
    exact ⟨by simp; omega, h3.2⟩
  · rcases List.mem_cons.mp h1 with h2 | h2
    · rw [h2]; exact List.mem_cons_self
    · obtain ⟨h3, h4⟩ := List.mem_filter.mp h2
      refine List.mem_cons_of_mem _ (List.mem_filter.mpr ⟨h3, ?_⟩)
      simp only [Nat.blt_eq] at h4
      have a1 : (q.1 == i) = false := by simp; omega
      have a2 : (q.1 + 1 == i) = false := by simp; omega
      simp [a1, a2]
theorem lput2_has {ls : Array Slot} {i : Nat} {v : Value} (h : lv_has ls n ((i, v) :: lv.filter (fun q => !(q.1 == i) && (!(q.1 == i + 1) && !(q.1 + 1 == i && q.2.category == 2))))) : lv_has ls n (lput2 lv i v) := by
  refine ⟨h.1, h.2.1, fun q hq => h.2.2 q ?_⟩
  rcases List.mem_append.mp hq with h1 | h1
  · obtain ⟨h2, h3⟩ := List.mem_filter.mp h1
    refine List.mem_cons_of_mem _ (List.mem_filter.mpr ⟨h2, ?_⟩)
    simp only [Bool.and_eq_true, Nat.blt_eq] at h3
    simp only [Bool.and_eq_true]
    exact ⟨by simp; omega, by simp; omega, h3.2⟩
  · rcases List.mem_cons.mp h1 with h2 | h2
    · rw [h2]; exact List.mem_cons_self
    · obtain ⟨h3, h4⟩ := List.mem_filter.mp h2
      refine List.mem_cons_of_mem _ (List.mem_filter.mpr ⟨h3, ?_⟩)
      simp only [Nat.blt_eq] at h4
      have a1 : (q.1 == i) = false := by simp; omega
      have a2 : (q.1 + 1 == i) = false := by simp; omega
      have a3 : (q.1 == i + 1) = false := by simp; omega
      simp [a1, a2, a3]
theorem sx_istore_n {k : Fin 4} {i : Nat} {x : Int32} {lv' : List (Nat × Value)} (hd : decode cc pc = .ok (.istore_n k, 1)) (hi : (k : Nat) = i) (hn : i < n) (hx : lput lv i (.int x) = lv') (kk : Sy l E y cc n ret X (pc + 1) lv' st L) : Sy l E y cc n ret X pc lv (.int x :: st) L := by
  intro p e s m args below meth c H locs ls C hP hS hl
  exact lv_istore_n C.1 C.2.1 hd hi hl hn rfl (fun ls' h => kk p e s m args below meth c H locs ls' C hP hS (hx ▸ lput_has h))
theorem sx_istore {i : Nat} {x : Int32} {lv' : List (Nat × Value)} (hd : decode cc pc = .ok (.istore i, 2)) (hn : i < n) (hx : lput lv i (.int x) = lv') (kk : Sy l E y cc n ret X (pc + 2) lv' st L) : Sy l E y cc n ret X pc lv (.int x :: st) L := by
  intro p e s m args below meth c H locs ls C hP hS hl
  exact lv_istore C.1 C.2.1 hd hl hn rfl (fun ls' h => kk p e s m args below meth c H locs ls' C hP hS (hx ▸ lput_has h))
theorem sx_astore_n {k : Fin 4} {i : Nat} {x : Nat} {lv' : List (Nat × Value)} (hd : decode cc pc = .ok (.astore_n k, 1)) (hi : (k : Nat) = i) (hn : i < n) (hx : lput lv i (.ref x) = lv') (kk : Sy l E y cc n ret X (pc + 1) lv' st L) : Sy l E y cc n ret X pc lv (.ref x :: st) L := by
  intro p e s m args below meth c H locs ls C hP hS hl
  exact lv_astore_n C.1 C.2.1 hd hi hl hn rfl (fun ls' h => kk p e s m args below meth c H locs ls' C hP hS (hx ▸ lput_has h))
theorem sx_lstore_n {k : Fin 4} {i : Nat} {x : Int64} {lv' : List (Nat × Value)} (hd : decode cc pc = .ok (.lstore_n k, 1)) (hi : (k : Nat) = i) (hn : i + 1 < n) (hx : lput2 lv i (.long x) = lv') (kk : Sy l E y cc n ret X (pc + 1) lv' st L) : Sy l E y cc n ret X pc lv (.long x :: st) L := by
  intro p e s m args below meth c H locs ls C hP hS hl
  exact lv_lstore_n C.1 C.2.1 hd hi hl hn rfl (fun ls' h => kk p e s m args below meth c H locs ls' C hP hS (hx ▸ lput2_has h))
theorem sx_lstore {i : Nat} {x : Int64} {lv' : List (Nat × Value)} (hd : decode cc pc = .ok (.lstore i, 2)) (hn : i + 1 < n) (hx : lput2 lv i (.long x) = lv') (kk : Sy l E y cc n ret X (pc + 2) lv' st L) : Sy l E y cc n ret X pc lv (.long x :: st) L := by
  intro p e s m args below meth c H locs ls C hP hS hl
  exact lv_lstore C.1 C.2.1 hd hl hn rfl (fun ls' h => kk p e s m args below meth c H locs ls' C hP hS (hx ▸ lput2_has h))
theorem sx_iinc {i j : Nat} {k : Int} {x v : Int32} {lv' : List (Nat × Value)} (hd : decode cc pc = .ok (.iinc i k, 3)) (hj : lv[j]? = some (i, .int x)) (hv : x + Int32.ofInt k = v) (hn : i < n) (hx : lput lv i (.int v) = lv') (kk : Sy l E y cc n ret X (pc + 3) lv' st L) : Sy l E y cc n ret X pc lv st L := by
  intro p e s m args below meth c H locs ls C hP hS hl
  exact lv_iinc C.1 C.2.1 hd hl hj hv hn rfl (fun ls' h => kk p e s m args below meth c H locs ls' C hP hS (hx ▸ lput_has h))
theorem sx_topi {x : Int32} (kk : ∀ v : Int32, v = x → Sy l E y cc n ret X pc lv (.int v :: st) L) : Sy l E y cc n ret X pc lv (.int x :: st) L := kk x rfl
theorem sx_topl {x : Int64} (kk : ∀ v : Int64, v = x → Sy l E y cc n ret X pc lv (.long v :: st) L) : Sy l E y cc n ret X pc lv (.long x :: st) L := kk x rfl
theorem sx_dup {v : Value} (hd : decode cc pc = .ok (.dup, 1)) (hv : v.category = 1) (kk : Sy l E y cc n ret X (pc + 1) lv (v :: v :: st) L) : Sy l E y cc n ret X pc lv (v :: st) L := by
  intro p e s m args below meth c H locs ls C hP hS hl
  exact lv_dup C.1 C.2.1 hd hv (kk p e s m args below meth c H locs ls C hP hS hl)
theorem sx_pop {v : Value} (hd : decode cc pc = .ok (.pop, 1)) (hv : v.category = 1) (kk : Sy l E y cc n ret X (pc + 1) lv st L) : Sy l E y cc n ret X pc lv (v :: st) L := by
  intro p e s m args below meth c H locs ls C hP hS hl
  exact lv_pop C.1 C.2.1 hd hv (kk p e s m args below meth c H locs ls C hP hS hl)
theorem sx_dup2 {v w : Value} (hd : decode cc pc = .ok (.dup2, 1)) (hv : v.category = 1) (hw : w.category = 1) (kk : Sy l E y cc n ret X (pc + 1) lv (v :: w :: v :: w :: st) L) : Sy l E y cc n ret X pc lv (v :: w :: st) L := by
  intro p e s m args below meth c H locs ls C hP hS hl
  exact lv_dup2_11 C.1 C.2.1 hd hv hw (kk p e s m args below meth c H locs ls C hP hS hl)
theorem sx_iadd {a b : Int32} (hd : decode cc pc = .ok (.iadd, 1)) (kk : Sy l E y cc n ret X (pc + 1) lv (.int (a + b) :: st) L) : Sy l E y cc n ret X pc lv (.int b :: .int a :: st) L := by
  intro p e s m args below meth c H locs ls C hP hS hl
  exact lv_iadd C.1 C.2.1 hd (kk p e s m args below meth c H locs ls C hP hS hl)
theorem sx_isub {a b : Int32} (hd : decode cc pc = .ok (.isub, 1)) (kk : Sy l E y cc n ret X (pc + 1) lv (.int (a - b) :: st) L) : Sy l E y cc n ret X pc lv (.int b :: .int a :: st) L := by
  intro p e s m args below meth c H locs ls C hP hS hl
  exact lv_isub C.1 C.2.1 hd (kk p e s m args below meth c H locs ls C hP hS hl)
theorem sx_imul {a b : Int32} (hd : decode cc pc = .ok (.imul, 1)) (kk : Sy l E y cc n ret X (pc + 1) lv (.int (a * b) :: st) L) : Sy l E y cc n ret X pc lv (.int b :: .int a :: st) L := by
  intro p e s m args below meth c H locs ls C hP hS hl
  exact lv_imul C.1 C.2.1 hd (kk p e s m args below meth c H locs ls C hP hS hl)
theorem sx_iand {a b : Int32} (hd : decode cc pc = .ok (.iand, 1)) (kk : Sy l E y cc n ret X (pc + 1) lv (.int (a &&& b) :: st) L) : Sy l E y cc n ret X pc lv (.int b :: .int a :: st) L := by
  intro p e s m args below meth c H locs ls C hP hS hl
  exact lv_iand C.1 C.2.1 hd (kk p e s m args below meth c H locs ls C hP hS hl)
theorem sx_ior {a b : Int32} (hd : decode cc pc = .ok (.ior, 1)) (kk : Sy l E y cc n ret X (pc + 1) lv (.int (a ||| b) :: st) L) : Sy l E y cc n ret X pc lv (.int b :: .int a :: st) L := by
  intro p e s m args below meth c H locs ls C hP hS hl
  exact lv_ior C.1 C.2.1 hd (kk p e s m args below meth c H locs ls C hP hS hl)
theorem sx_ixor {a b : Int32} (hd : decode cc pc = .ok (.ixor, 1)) (kk : Sy l E y cc n ret X (pc + 1) lv (.int (a ^^^ b) :: st) L) : Sy l E y cc n ret X pc lv (.int b :: .int a :: st) L := by
  intro p e s m args below meth c H locs ls C hP hS hl
  exact lv_ixor C.1 C.2.1 hd (kk p e s m args below meth c H locs ls C hP hS hl)
theorem sx_idiv {a b : Int32} (hd : decode cc pc = .ok (.idiv, 1)) (hne : ¬ b = 0) (kk : Sy l E y cc n ret X (pc + 1) lv (.int (a / b) :: st) L) : Sy l E y cc n ret X pc lv (.int b :: .int a :: st) L := by
  intro p e s m args below meth c H locs ls C hP hS hl
  exact lv_idiv C.1 C.2.1 hd hne (kk p e s m args below meth c H locs ls C hP hS hl)
theorem sx_irem {a b : Int32} (hd : decode cc pc = .ok (.irem, 1)) (hne : ¬ b = 0) (kk : Sy l E y cc n ret X (pc + 1) lv (.int (a - a / b * b) :: st) L) : Sy l E y cc n ret X pc lv (.int b :: .int a :: st) L := by
  intro p e s m args below meth c H locs ls C hP hS hl
  exact lv_irem C.1 C.2.1 hd hne (kk p e s m args below meth c H locs ls C hP hS hl)
theorem sx_ladd {a b : Int64} (hd : decode cc pc = .ok (.ladd, 1)) (kk : Sy l E y cc n ret X (pc + 1) lv (.long (a + b) :: st) L) : Sy l E y cc n ret X pc lv (.long b :: .long a :: st) L := by
  intro p e s m args below meth c H locs ls C hP hS hl
  exact lv_ladd C.1 C.2.1 hd (kk p e s m args below meth c H locs ls C hP hS hl)
theorem sx_lsub {a b : Int64} (hd : decode cc pc = .ok (.lsub, 1)) (kk : Sy l E y cc n ret X (pc + 1) lv (.long (a - b) :: st) L) : Sy l E y cc n ret X pc lv (.long b :: .long a :: st) L := by
  intro p e s m args below meth c H locs ls C hP hS hl
  exact lv_lsub C.1 C.2.1 hd (kk p e s m args below meth c H locs ls C hP hS hl)
theorem sx_lmul {a b : Int64} (hd : decode cc pc = .ok (.lmul, 1)) (kk : Sy l E y cc n ret X (pc + 1) lv (.long (a * b) :: st) L) : Sy l E y cc n ret X pc lv (.long b :: .long a :: st) L := by
  intro p e s m args below meth c H locs ls C hP hS hl
  exact lv_lmul C.1 C.2.1 hd (kk p e s m args below meth c H locs ls C hP hS hl)
theorem sx_ldiv {a b : Int64} (hd : decode cc pc = .ok (.ldiv, 1)) (hne : ¬ b = 0) (kk : Sy l E y cc n ret X (pc + 1) lv (.long (a / b) :: st) L) : Sy l E y cc n ret X pc lv (.long b :: .long a :: st) L := by
  intro p e s m args below meth c H locs ls C hP hS hl
  exact lv_ldiv C.1 C.2.1 hd hne (kk p e s m args below meth c H locs ls C hP hS hl)
theorem sx_lrem {a b : Int64} (hd : decode cc pc = .ok (.lrem, 1)) (hne : ¬ b = 0) (kk : Sy l E y cc n ret X (pc + 1) lv (.long (a - a / b * b) :: st) L) : Sy l E y cc n ret X pc lv (.long b :: .long a :: st) L := by
  intro p e s m args below meth c H locs ls C hP hS hl
  exact lv_lrem C.1 C.2.1 hd hne (kk p e s m args below meth c H locs ls C hP hS hl)
theorem sx_ishl {a b : Int32} (hd : decode cc pc = .ok (.ishl, 1)) (kk : Sy l E y cc n ret X (pc + 1) lv (.int (a <<< (b &&& 31)) :: st) L) : Sy l E y cc n ret X pc lv (.int b :: .int a :: st) L := by
  intro p e s m args below meth c H locs ls C hP hS hl
  exact lv_ishl C.1 C.2.1 hd (kk p e s m args below meth c H locs ls C hP hS hl)
theorem sx_ishr {a b : Int32} (hd : decode cc pc = .ok (.ishr, 1)) (kk : Sy l E y cc n ret X (pc + 1) lv (.int (a >>> (b &&& 31)) :: st) L) : Sy l E y cc n ret X pc lv (.int b :: .int a :: st) L := by
  intro p e s m args below meth c H locs ls C hP hS hl
  exact lv_ishr C.1 C.2.1 hd (kk p e s m args below meth c H locs ls C hP hS hl)
theorem sx_iushr {a b : Int32} (hd : decode cc pc = .ok (.iushr, 1)) (kk : Sy l E y cc n ret X (pc + 1) lv (.int ((a.toUInt32 >>> (b.toUInt32 &&& Int32.toUInt32 31)).toInt32) :: st) L) : Sy l E y cc n ret X pc lv (.int b :: .int a :: st) L := by
  intro p e s m args below meth c H locs ls C hP hS hl
  exact lv_iushr C.1 C.2.1 hd rfl (kk p e s m args below meth c H locs ls C hP hS hl)
theorem sx_i2l {a : Int32} (hd : decode cc pc = .ok (.i2l, 1)) (kk : Sy l E y cc n ret X (pc + 1) lv (.long a.toInt64 :: st) L) : Sy l E y cc n ret X pc lv (.int a :: st) L := by
  intro p e s m args below meth c H locs ls C hP hS hl
  exact lv_i2l C.1 C.2.1 hd rfl (kk p e s m args below meth c H locs ls C hP hS hl)
theorem sx_l2i {a : Int64} (hd : decode cc pc = .ok (.l2i, 1)) (kk : Sy l E y cc n ret X (pc + 1) lv (.int a.toInt32 :: st) L) : Sy l E y cc n ret X pc lv (.long a :: st) L := by
  intro p e s m args below meth c H locs ls C hP hS hl
  exact lv_l2i C.1 C.2.1 hd rfl (kk p e s m args below meth c H locs ls C hP hS hl)
theorem sx_lcmp {a b : Int64} (hd : decode cc pc = .ok (.lcmp, 1)) (kk : Sy l E y cc n ret X (pc + 1) lv (.int (lg_cmp a b) :: st) L) : Sy l E y cc n ret X pc lv (.long b :: .long a :: st) L := by
  intro p e s m args below meth c H locs ls C hP hS hl
  exact W.lcmp C.1 C.2.1 hd (kk p e s m args below meth c H locs ls C hP hS hl)
theorem sx_goto {off : Int} {tgt : Nat} (hd : decode cc pc = .ok (.goto off, 3)) (ht : (pc : Int) + off = (tgt : Int)) (kk : Sy l E y cc n ret X tgt lv st L) : Sy l E y cc n ret X pc lv st L := by
  intro p e s m args below meth c H locs ls C hP hS hl
  exact lv_goto C.1 C.2.1 hd ht (kk p e s m args below meth c H locs ls C hP hS hl)
theorem sx_if_eq {x : Int32} {off : Int} {tgt : Nat} (hd : decode cc pc = .ok (.ifCond .eq off, 3)) (ht : (pc : Int) + off = (tgt : Int)) (kt : x = 0 → Sy l E y cc n ret X tgt lv st L) (kf : ¬ x = 0 → Sy l E y cc n ret X (pc + 3) lv st L) : Sy l E y cc n ret X pc lv (.int x :: st) L := by
  intro p e s m args below meth c H locs ls C hP hS hl
  exact lv_if_eq C.1 C.2.1 hd ht (fun h => kt h p e s m args below meth c H locs ls C hP hS hl) (fun h => kf h p e s m args below meth c H locs ls C hP hS hl)
theorem sx_if_lt {x : Int32} {off : Int} {tgt : Nat} (hd : decode cc pc = .ok (.ifCond .lt off, 3)) (ht : (pc : Int) + off = (tgt : Int)) (kt : x < 0 → Sy l E y cc n ret X tgt lv st L) (kf : ¬ x < 0 → Sy l E y cc n ret X (pc + 3) lv st L) : Sy l E y cc n ret X pc lv (.int x :: st) L := by
  intro p e s m args below meth c H locs ls C hP hS hl
  exact lv_if_lt C.1 C.2.1 hd ht (fun h => kt h p e s m args below meth c H locs ls C hP hS hl) (fun h => kf h p e s m args below meth c H locs ls C hP hS hl)
theorem sx_if_ge {x : Int32} {off : Int} {tgt : Nat} (hd : decode cc pc = .ok (.ifCond .ge off, 3)) (ht : (pc : Int) + off = (tgt : Int)) (kt : 0 ≤ x → Sy l E y cc n ret X tgt lv st L) (kf : ¬ 0 ≤ x → Sy l E y cc n ret X (pc + 3) lv st L) : Sy l E y cc n ret X pc lv (.int x :: st) L := by
  intro p e s m args below meth c H locs ls C hP hS hl
  exact lv_if_ge C.1 C.2.1 hd ht (fun h => kt h p e s m args below meth c H locs ls C hP hS hl) (fun h => kf h p e s m args below meth c H locs ls C hP hS hl)
theorem sx_if_gt {x : Int32} {off : Int} {tgt : Nat} (hd : decode cc pc = .ok (.ifCond .gt off, 3)) (ht : (pc : Int) + off = (tgt : Int)) (kt : 0 < x → Sy l E y cc n ret X tgt lv st L) (kf : ¬ 0 < x → Sy l E y cc n ret X (pc + 3) lv st L) : Sy l E y cc n ret X pc lv (.int x :: st) L := by
  intro p e s m args below meth c H locs ls C hP hS hl
  exact lv_if_gt C.1 C.2.1 hd ht (fun h => kt h p e s m args below meth c H locs ls C hP hS hl) (fun h => kf h p e s m args below meth c H locs ls C hP hS hl)
theorem sx_if_le {x : Int32} {off : Int} {tgt : Nat} (hd : decode cc pc = .ok (.ifCond .le off, 3)) (ht : (pc : Int) + off = (tgt : Int)) (kt : x ≤ 0 → Sy l E y cc n ret X tgt lv st L) (kf : ¬ x ≤ 0 → Sy l E y cc n ret X (pc + 3) lv st L) : Sy l E y cc n ret X pc lv (.int x :: st) L := by
  intro p e s m args below meth c H locs ls C hP hS hl
  exact lv_if_le C.1 C.2.1 hd ht (fun h => kt h p e s m args below meth c H locs ls C hP hS hl) (fun h => kf h p e s m args below meth c H locs ls C hP hS hl)
theorem sx_icmp_eq {x z : Int32} {off : Int} {tgt : Nat} (hd : decode cc pc = .ok (.if_icmp .eq off, 3)) (ht : (pc : Int) + off = (tgt : Int)) (kt : x = z → Sy l E y cc n ret X tgt lv st L) (kf : ¬ x = z → Sy l E y cc n ret X (pc + 3) lv st L) : Sy l E y cc n ret X pc lv (.int z :: .int x :: st) L := by
  intro p e s m args below meth c H locs ls C hP hS hl
  exact lv_icmp_eq C.1 C.2.1 hd ht (fun h => kt h p e s m args below meth c H locs ls C hP hS hl) (fun h => kf h p e s m args below meth c H locs ls C hP hS hl)
theorem sx_icmp_lt {x z : Int32} {off : Int} {tgt : Nat} (hd : decode cc pc = .ok (.if_icmp .lt off, 3)) (ht : (pc : Int) + off = (tgt : Int)) (kt : x < z → Sy l E y cc n ret X tgt lv st L) (kf : ¬ x < z → Sy l E y cc n ret X (pc + 3) lv st L) : Sy l E y cc n ret X pc lv (.int z :: .int x :: st) L := by
  intro p e s m args below meth c H locs ls C hP hS hl
  exact lv_icmp_lt C.1 C.2.1 hd ht (fun h => kt h p e s m args below meth c H locs ls C hP hS hl) (fun h => kf h p e s m args below meth c H locs ls C hP hS hl)
theorem sx_icmp_ge {x z : Int32} {off : Int} {tgt : Nat} (hd : decode cc pc = .ok (.if_icmp .ge off, 3)) (ht : (pc : Int) + off = (tgt : Int)) (kt : z ≤ x → Sy l E y cc n ret X tgt lv st L) (kf : ¬ z ≤ x → Sy l E y cc n ret X (pc + 3) lv st L) : Sy l E y cc n ret X pc lv (.int z :: .int x :: st) L := by
  intro p e s m args below meth c H locs ls C hP hS hl
  exact lv_icmp_ge C.1 C.2.1 hd ht (fun h => kt h p e s m args below meth c H locs ls C hP hS hl) (fun h => kf h p e s m args below meth c H locs ls C hP hS hl)
theorem sx_icmp_gt {x z : Int32} {off : Int} {tgt : Nat} (hd : decode cc pc = .ok (.if_icmp .gt off, 3)) (ht : (pc : Int) + off = (tgt : Int)) (kt : z < x → Sy l E y cc n ret X tgt lv st L) (kf : ¬ z < x → Sy l E y cc n ret X (pc + 3) lv st L) : Sy l E y cc n ret X pc lv (.int z :: .int x :: st) L := by
  intro p e s m args below meth c H locs ls C hP hS hl
  exact lv_icmp_gt C.1 C.2.1 hd ht (fun h => kt h p e s m args below meth c H locs ls C hP hS hl) (fun h => kf h p e s m args below meth c H locs ls C hP hS hl)
theorem sx_icmp_le {x z : Int32} {off : Int} {tgt : Nat} (hd : decode cc pc = .ok (.if_icmp .le off, 3)) (ht : (pc : Int) + off = (tgt : Int)) (kt : x ≤ z → Sy l E y cc n ret X tgt lv st L) (kf : ¬ x ≤ z → Sy l E y cc n ret X (pc + 3) lv st L) : Sy l E y cc n ret X pc lv (.int z :: .int x :: st) L := by
  intro p e s m args below meth c H locs ls C hP hS hl
  exact lv_icmp_le C.1 C.2.1 hd ht (fun h => kt h p e s m args below meth c H locs ls C hP hS hl) (fun h => kf h p e s m args below meth c H locs ls C hP hS hl)
theorem sx_if_ne {x : Int32} {off : Int} {tgt : Nat} (hd : decode cc pc = .ok (.ifCond .ne off, 3)) (ht : (pc : Int) + off = (tgt : Int)) (kf : x = 0 → Sy l E y cc n ret X (pc + 3) lv st L) (kt : ¬ x = 0 → Sy l E y cc n ret X tgt lv st L) : Sy l E y cc n ret X pc lv (.int x :: st) L := by
  intro p e s m args below meth c H locs ls C hP hS hl
  exact lv_if_ne C.1 C.2.1 hd ht (fun h => kt h p e s m args below meth c H locs ls C hP hS hl) (fun h => kf h p e s m args below meth c H locs ls C hP hS hl)
theorem sx_icmp_ne {x z : Int32} {off : Int} {tgt : Nat} (hd : decode cc pc = .ok (.if_icmp .ne off, 3)) (ht : (pc : Int) + off = (tgt : Int)) (kf : x = z → Sy l E y cc n ret X (pc + 3) lv st L) (kt : ¬ x = z → Sy l E y cc n ret X tgt lv st L) : Sy l E y cc n ret X pc lv (.int z :: .int x :: st) L := by
  intro p e s m args below meth c H locs ls C hP hS hl
  exact lv_icmp_ne C.1 C.2.1 hd ht (fun h => kt h p e s m args below meth c H locs ls C hP hS hl) (fun h => kf h p e s m args below meth c H locs ls C hP hS hl)
theorem sx_swOut {dflt lo hi : Int} {offs : Array Int} {len : Nat} {x : Int32} {tgt : Nat} (hd : decode cc pc = .ok (.tableswitch dflt lo hi offs, len)) (h : x.toInt < lo ∨ hi < x.toInt) (ht : (pc : Int) + dflt = (tgt : Int)) (kk : Sy l E y cc n ret X tgt lv st L) : Sy l E y cc n ret X pc lv (.int x :: st) L := by
  intro p e s m args below meth c H locs ls C hP hS hl
  exact lv_tableOut C.1 C.2.1 hd h ht (kk p e s m args below meth c H locs ls C hP hS hl)
theorem sx_swIn {dflt lo hi : Int} {offs : Array Int} {len : Nat} {x : Int32} {off : Int} {tgt : Nat} (v : Int32) (hd : decode cc pc = .ok (.tableswitch dflt lo hi offs, len)) (hx : x = v) (h1 : ¬ v.toInt < lo) (h2 : ¬ hi < v.toInt) (ho : offs[(v.toInt - lo).toNat]? = some off) (ht : (pc : Int) + off = (tgt : Int)) (kk : Sy l E y cc n ret X tgt lv st L) : Sy l E y cc n ret X pc lv (.int x :: st) L := by
  intro p e s m args below meth c H locs ls C hP hS hl
  subst hx
  exact lv_tableIn C.1 C.2.1 hd h1 h2 ho ht (kk p e s m args below meth c H locs ls C hP hS hl)
end SXR
