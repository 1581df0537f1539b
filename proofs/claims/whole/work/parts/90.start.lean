/-! THE CLAIM OUT OF ONE WALK OF THE LAW'S BODY. Your part is whole_start (and what it stands on); all else here is the same for every law, but numbers. -/
def R_law : String := "HouseHeirsLaw"
def lw_P (b : Addr) (xs : List Int32) (args : Array Value) (s : State) : Prop := args = #[.ref b] ∧ s.IntsAt b xs ∧ xs.length ≤ 2560 ∧ (Jvm.Cond.and given_1 narrow_1).before args s = true
def lw_Q (_ : Array Value) (s : State) (o : Outcome) (t : State) : Prop := o = .returned (some (.int 1)) ∧ Framed s o t [] 600000 7302250
def lw_Z (below : List Frame) (a : Array Value) (s : State) : State → Prop := fun t => ∃ o, t.status = .running ∧ Ended t below o ∧ lw_Q a s o t
/-- the law's own end, with 1 on the stack, nothing written that was there before, its room as the claim has it -/
theorem lw_ret {p : Program} {l : Launch} {e : Env} {s : State} {m : MethodId} {below : List Frame} {meth : Method} {c : Code} {b : Nat} (hx : p.tables.exec = Jvm.exec) (hb : c.code = code) (hr : meth.sig.returnType = ret) (hlocks : meth.locks = false) {pc : Nat} {H : Heap} {ls : Array Slot} (hdg : decode code pc = .ok (.ireturn, 1)) : W p l e room_1 s m #[Value.ref b] below meth c H [] 600000 7302250 (lw_Z below #[Value.ref b] s) (F0 m pc ls [.int 1]) := by
  intro T hT X
  obtain ⟨fs, hret, hrun, hended, hW, hframe⟩ := X.leave (v := some (.int 1)) (hlocks := hlocks) (fun h => by rw [hr] at h; cases h)
  have hmeth' : T.vm.method? m = some meth := X.method'
  refine ⟨T.setFrames fs, ?_, .returned (some (.int 1)), hrun, hended, rfl, ⟨_, rfl⟩, hW, hframe⟩
  jvm_step X.here [X.here.top, hx, hb, hdg, hmeth', hr, ret, narrow_b1]
  (try refine ⟨rfl, ?_⟩); (try refine ⟨rfl, ?_⟩)
  first | (intro acts; rw [hret _ acts rfl rfl rfl]) | rw [hret _ _ rfl rfl rfl]
  exact Steps.refl _
/-- what holds at the law's entry: the machine, the code, the tables' words (any of lw_tbl by 'hts w (by decide +kernel)'), the script of L ints xs at the cell b, what the Statement gives of the start (any of its parts by flat_of_before) -/
def lw_At (p : Program) (s : State) (m : MethodId) (meth : Method) (c : Code) (b L : Nat) (xs : Nat → Int32) : Prop :=
  p.tables.exec = Jvm.exec ∧ c.code = code ∧ meth.sig.returnType = ret ∧ c.maxLocals = 4 ∧ s.vm.findClass R_law = some m.cls ∧ (∀ w ∈ lw_tbl, w.before #[Value.ref b] s = true) ∧ va_X b L xs s s.heap ∧ b < s.heap.size ∧ meth.locks = false ∧ (Jvm.Cond.and given_1 narrow_1).before #[Value.ref b] s = true
theorem law_fun (B : Nat) (xs : Nat → Int32) (n : Nat) (hn : n ≤ 2560) : ∃ z, fL_law xs n B (B + 178) (L0 B) = some z ∧ z.1 = 1 := law_all B xs n hn
set_option maxHeartbeats 4000000 in
theorem str_ex : ∀ i : Nat, i < 7 → Cond.exactly (.string "HouseHeirs$Text" (sidx i)) "java/lang/String" ∈ flatC (Jvm.Cond.and given_1 narrow_1) := by decide +kernel
set_option maxHeartbeats 4000000 in
theorem str_co : ∀ i : Nat, i < 7 → Cond.eq (.field (.string "HouseHeirs$Text" (sidx i)) "java/lang/String" "coder" "B") (.int 0) ∈ flatC (Jvm.Cond.and given_1 narrow_1) := by decide +kernel
set_option maxHeartbeats 4000000 in
theorem str_ar : ∀ i : Nat, i < 7 → Cond.arrayOf (.field (.string "HouseHeirs$Text" (sidx i)) "java/lang/String" "value" "[B") .byte ∈ flatC (Jvm.Cond.and given_1 narrow_1) := by decide +kernel
set_option maxHeartbeats 4000000 in
theorem str_le : ∀ i : Nat, i < 7 → Cond.eq (.length (.field (.string "HouseHeirs$Text" (sidx i)) "java/lang/String" "value" "[B")) (.int (Int32.ofNat (slen.getD i 0))) ∈ flatC (Jvm.Cond.and given_1 narrow_1) := by decide +kernel
set_option maxHeartbeats 4000000 in
theorem str_el : ∀ i : Nat, i < 7 → ∀ j : Nat, j < slen.getD i 0 → Cond.eq (.elem (.field (.string "HouseHeirs$Text" (sidx i)) "java/lang/String" "value" "[B") (.int (Int32.ofNat j))) (.int ((sbyt.getD i []).getD j 0)) ∈ flatC (Jvm.Cond.and given_1 narrow_1) := by decide +kernel
set_option maxHeartbeats 4000000 in
theorem str_ne : ∀ i : Nat, i < 7 → ∀ j : Nat, j < 7 → i ≠ j → Cond.not (Cond.eq (.string "HouseHeirs$Text" (sidx i)) (.string "HouseHeirs$Text" (sidx j))) ∈ flatC (Jvm.Cond.and given_1 narrow_1) ∨ Cond.not (Cond.eq (.string "HouseHeirs$Text" (sidx j)) (.string "HouseHeirs$Text" (sidx i))) ∈ flatC (Jvm.Cond.and given_1 narrow_1) := by decide +kernel
set_option maxHeartbeats 4000000 in
theorem str_sr : ∀ i : Nat, i < 7 → Cond.stringRef "HouseHeirs$Text" (sidx i) (stxt i) ∈ tables_1 := by decide +kernel
set_option maxHeartbeats 4000000 in
theorem sta_1 : Cond.eq (.static "java/lang/String" "COMPACT_STRINGS" "Z") (.int 1) ∈ flatC (Jvm.Cond.and given_1 narrow_1) := by decide +kernel
set_option maxHeartbeats 4000000 in
theorem sta_2 : Cond.isRef (.static "jdk/internal/util/Preconditions" "SIOOBE_FORMATTER" "Ljava/util/function/BiFunction;") ∈ flatC (Jvm.Cond.and given_1 narrow_1) := by decide +kernel
theorem ar_of {s : State} {args : Array Value} {t : FieldType} (h : (Cond.arrayClass t).before args s = true) : ∃ c : ClassId, ArrOfT s c t ∧ s.vm.findClass ("[" ++ t.toString) = some c := by
  obtain ⟨c, k, comp, h1, h2, h3⟩ := Cond.arrayClass_spec h
  exact ⟨c, fun N z => ⟨(fun q hq => by cases hq), k, h2, comp, h3⟩, h1⟩
theorem lw_retG {p : Program} {l : Launch} {e : Env} {s : State} {m : MethodId} {args : Array Value} {below : List Frame} {meth : Method} {c : Code} (hx : p.tables.exec = Jvm.exec) (hb : c.code = code) (hr : meth.sig.returnType = ret) (hlocks : meth.locks = false) {pc : Nat} {H : Heap} {ls : Array Slot} (hdg : decode code pc = .ok (.ireturn, 1)) : W p l e room_1 s m args below meth c H [] 600000 7302250 (lw_Z below args s) (F0 m pc ls [.int 1]) := by
  intro T hT X
  obtain ⟨fs, hret, hrun, hended, hW, hframe⟩ := X.leave (v := some (.int 1)) (hlocks := hlocks) (fun h => by rw [hr] at h; cases h)
  have hmeth' : T.vm.method? m = some meth := X.method'
  refine ⟨T.setFrames fs, ?_, .returned (some (.int 1)), hrun, hended, rfl, ⟨_, rfl⟩, hW, hframe⟩
  jvm_step X.here [X.here.top, hx, hb, hdg, hmeth', hr, ret, narrow_b1]
  (try refine ⟨rfl, ?_⟩); (try refine ⟨rfl, ?_⟩)
  first | (intro acts; rw [hret _ acts rfl rfl rfl]) | rw [hret _ _ rfl rfl rfl]
  exact Steps.refl _
abbrev xl (b n B : Nat) (xs : Nat → Int32) : Xe := (room_1, 190, 2560, fun s args below => lw_Z below args s, fun s => va_X b n xs s s.heap ∧ b < s.heap.size ∧ s.heap.size = B)
set_option maxHeartbeats 4000000 in
set_option maxRecDepth 100000 in
theorem whole_start {p : Program} {e : Env} {s : State} {m : MethodId} {below : List Frame} {meth : Method} {c : Code} (l : Launch) (hflags : l.flags = flags0) {b L : Nat} {xs : Nat → Int32} (hL : L ≤ 2560) (C0 : lw_At p s m meth c b L xs) : W p l e room_1 s m #[Value.ref b] below meth c s.heap [] 0 0 (lw_Z below #[Value.ref b] s) (entryFrame m ([Value.ref b] : List Value).toArray 4) := by
  obtain ⟨hx, hb, hr, hml, hown, hts, hX, hbl, hlocks, hgv⟩ := id C0
  have hs := flat_of_before _ hgv
  have htg : ∀ w ∈ gw, w.before #[Value.ref b] s = true := fun w h => hts w (List.mem_filter.mp h).1
  have hnw : ∀ w ∈ nestW, va_Nw w s := fun w hw => by
    have h1 := List.mem_filter.mp hw
    have h2 := hts w h1.1
    have hn := h1.2
    exact va_Nw.of (by cases w <;> first | rfl | cases hn) h2
  obtain ⟨c0, i0, k0⟩ := u_known (C := RX0) (T := TX0) (N := 3) (n := 3) hts inX0 (htg _ wd_239)
  obtain ⟨c1, i1, k1⟩ := u_known (C := RX1) (T := TX1) (N := 3) (n := 3) hts inX1 (htg _ wd_324)
  obtain ⟨c2, i2, k2⟩ := u_known (C := RX2) (T := TX2) (N := 6) (n := 6) hts inX2 (htg _ wd_294)
  obtain ⟨c3, i3, k3⟩ := u_known (C := RX3) (T := TX3) (N := 6) (n := 6) hts inX3 (htg _ wd_211)
  obtain ⟨c4, i4, k4⟩ := u_known (C := RX4) (T := TX4) (N := 17) (n := 17) hts inX4 (htg _ wd_128)
  obtain ⟨c5, i5, k5⟩ := u_known (C := RX5) (T := TX5) (N := 8) (n := 8) hts inX5 (htg _ wd_260)
  obtain ⟨c6, i6, k6⟩ := u_known (C := RX6) (T := TX6) (N := 13) (n := 13) hts inX6 (htg _ wd_120)
  obtain ⟨c7, i7, k7⟩ := u_known (C := RX7) (T := TX7) (N := 20) (n := 20) hts inX7 (htg _ wd_947)
  obtain ⟨aI, hI1, hI2⟩ := ar_of (htg _ wd_209)
  obtain ⟨aZ, hZ1, hZ2⟩ := ar_of (htg _ wd_1017)
  have hao : va_Nw (.arrayOver (.array .int)) s := hts _ ((tb_1 _ (List.mem_of_getElem? (i := 114) rfl)))
  obtain ⟨compA, aA, kA, -, -, hA3, hA4, hA5⟩ := ao_spec hao
  have hA1 : ArrOfT s aA (.array .int) := fun N z => ⟨(fun q hq => by cases hq), kA, hA3, compA, hA4⟩
  obtain ⟨adK, adV, hSS, hSe⟩ := vk_Sof (N := 7) (tm := fun i => .string "HouseHeirs$Text" (sidx i)) (len := slen) (byt := sbyt) (A := fun q => s.heap.size ≤ q) (args := #[Value.ref b]) (s := s) (by decide) (fun i hi => hs _ (str_ex i hi)) (fun i hi => hs _ (str_co i hi)) (fun i hi => hs _ (str_ar i hi)) (fun i hi => hs _ (str_le i hi)) (fun i hi j hj => hs _ (str_el i hi j hj)) (fun i j hi hj hne => (str_ne i hi j hj hne).elim (fun h => Or.inl (hs _ h)) (fun h => Or.inr (hs _ h))) (fun a ha => Nat.not_le.mpr ha)
  obtain ⟨E, hE⟩ : ∃ E : Ev, E = ((fun k => match k with | 0 => c0 | 1 => c1 | 2 => c2 | 3 => c3 | 4 => c4 | 5 => c5 | 6 => c6 | _ => c7, fun k => match k with | 0 => i0 | 1 => i1 | 2 => i2 | 3 => i3 | 4 => i4 | 5 => i5 | 6 => i6 | _ => i7), (fun t => match t with | 0 => aI | 1 => aZ | _ => aA), eKt s.heap.size, eRt s.heap.size, adK, adV) := ⟨_, rfl⟩
  have hEK : eK E = eKt s.heap.size := by rw [hE]
  have hER : eR E = eRt s.heap.size := by rw [hE]
  obtain ⟨h6, h7⟩ := lay_ok E s.heap.size hEK hER
  have hFA : ∀ q, FA E q → s.heap.size ≤ q := fun q ⟨k, hk⟩ => by rw [hEK] at hk; exact (eKt_in hk).1
  have hKv : EKv E s := by
    refine ⟨fun ci q hq => ?_, ?_, hnw, fun i hi => ?_⟩
    · rw [hE]
      match ci, hq with
      | 0, hq => cases hq; exact k0
      | 1, hq => cases hq; exact k1
      | 2, hq => cases hq; exact k2
      | 3, hq => cases hq; exact k3
      | 4, hq => cases hq; exact k4
      | 5, hq => cases hq; exact k5
      | 6, hq => cases hq; exact k6
      | 7, hq => cases hq; exact k7
      | n + 8, hq => simp [vwCl] at hq
    · rw [hE]; exact ⟨hI1, hZ1, hA1⟩
    · have h9 : eS E = adK := by rw [hE]
      rw [h9]
      exact vk_R.of (A := #[Value.ref b]) (hts _ (List.mem_append_right _ (str_sr i hi))) (hSe i hi)
  have hKh : EKh E s s.heap := by
    have h9 : eS E = adK := by rw [hE]
    have h8 : eT E = adV := by rw [hE]
    refine ⟨?_, ?_, ?_⟩
    · rw [h9, h8]; exact hSS.narrow hFA
    · exact va_Zof (hts _ (tb_2 _ (List.mem_of_getElem? (i := 189) rfl))) (htg _ wd_112) (va_eqt (hs _ sta_1)) (fun a ha h => absurd (hFA a h) (Nat.not_le.mpr ha))
    · exact va_Zqof (hts _ (tb_2 _ (List.mem_of_getElem? (i := 205) rfl))) (htg _ wd_114) (hs _ sta_2) (fun a ha h => absurd (hFA a h) (Nat.not_le.mpr ha))
  have hAK : AK E s := by
    refine ⟨hao, ?_, ?_, ?_⟩ <;> rw [hE]
    · exact hI2
    · exact hZ2
    · exact hA5
  have hl := lv_entry ([.ref b]) (n := 4) (Nat.le_of_ble_eq_true rfl)
  rw [lg_entry_eq]
  generalize (lg_sl ([.ref b]) ++ List.replicate (4 - (lg_sl ([.ref b])).length) Slot.unset).toArray = ls at hl ⊢
  have hl : lv_has ls 4 [(0, .ref b)] := hl
  refine w_newinit (y := yL_law) (E := E) (L := L0 s.heap.size) (n := 4) hx hb hml hown htg hKv hKh hAK hl.1 cf_6 wd_119 wd_120 wd_104 dL_law_0 dL_law_3 dL_law_4 (kX6 h6 (fun _ _ _ _ => rfl) (by simp [L0]) (by simp [L0])) cbX6 (Or.inl wd_121) ⟨Nat.le_of_ble_eq_true rfl, Nat.le_of_ble_eq_true rfl⟩ (Nat.le_of_ble_eq_true rfl) (Nat.le_of_ble_eq_true rfl) ⟨Nat.le_refl _, fun _ _ _ => rfl⟩ (Nat.le_of_ble_eq_true rfl) fun H1 locs1 z1 o1 r1 lo1 => ?_
  refine lv_astore_n (lv' := [(1, .ref s.heap.size), (0, .ref b)]) hx hb dL_law_7 rfl hl (by decide) rfl (fun ls hl => ?_)
  refine w_newinit (y := yL_law) (E := E) (L := L0 s.heap.size) (n := 4) hx hb hml hown htg hKv hKh hAK hl.1 cf_7 wd_946 wd_947 wd_111 dL_law_8 dL_law_11 dL_law_12 (by rw [z1]; exact kX7 h7 (fun _ _ _ _ => rfl) (by simp [L0]) (by simp [L0]) (by simp [L0])) cbX7 (Or.inl wd_948) ⟨Nat.le_of_ble_eq_true rfl, Nat.le_of_ble_eq_true rfl⟩ (Nat.le_of_ble_eq_true rfl) (Nat.le_of_ble_eq_true rfl) ⟨by omega, fun q hq _ => o1 q hq⟩ (Nat.le_of_ble_eq_true rfl) fun H2 locs2 z2 o2 r2 lo2 => ?_
  refine lv_astore_n (lv' := [(2, .ref H1.size), (1, .ref s.heap.size), (0, .ref b)]) hx hb dL_law_15 rfl hl (by decide) rfl (fun ls hl => ?_)
  rw [z1] at hl r2 lo2 o2 z2
  obtain ⟨z, hz, hz1⟩ := law_fun s.heap.size xs L hL
  have hP : HP E (L0 s.heap.size) H2 := by
    intro q k hk
    have hq : s.heap.size ≤ q ∧ q < s.heap.size + 190 := by rw [hEK] at hk; exact eKt_in hk
    by_cases g : q < s.heap.size + 178
    · exact (r1 q k hq.1 g hk).kept (o2 q g)
    · exact r2 q k (by omega) (by omega) hk
  have hrm : RM (xl b L s.heap.size xs) 20 := ⟨Nat.le_of_ble_eq_true rfl, Nat.le_of_ble_eq_true rfl, Nat.le_of_ble_eq_true rfl, Nat.le_of_ble_eq_true rfl⟩
  have hend : ∀ (pc : Nat) (lv : List (Nat × Value)) (L9 : HL), decode cL_law pc = .ok (.ireturn, 1) → Sy l E yL_law cL_law 4 (some .boolean) (xl b L s.heap.size xs) pc lv [.int 1] L9 := by
    intro pc lv L9 hd p e s m args below meth c H locs ls C hP hS hl
    refine va_forget (fun q hq => ?_) ?_
    · obtain ⟨-, -, h9⟩ := C.2.2.2.2.2.2.1.2
      rw [h9]
      exact hFA _ (hS.2.2 q hq)
    · exact W.widen (k := 600000) (n := 7302250) (Nat.le_of_ble_eq_true rfl) (Nat.le_of_ble_eq_true rfl) (lw_retG C.1 C.2.1 C.2.2.2.2.2.1 C.2.2.2.2.2.2.1.1 hd)
  have K := mL_law (l := l) (E := E) (X := xl b L s.heap.size xs) (a0 := b) hrm hend (fun s' h => ⟨h.1, h.2.1⟩) (by rw [hEK]; unfold eKt; rw [if_neg (Nat.not_le.mpr hbl)]) h6 h7 hz hz1
  refine va_forget (fun x hx2 => ?_) ?_
  · rcases lo2 x hx2 with h | h
    · rcases lo1 x h with h | h
      · cases h
      · exact h
    · omega
  exact K p e s m #[Value.ref b] below meth c H2 [] ls ⟨hx, hb, hml, hown, htg, hr, ⟨hlocks, hX, hbl, rfl⟩, hKv, hKh⟩ hP ⟨by rw [z2]; rfl, fun q hq => by
    by_cases g : q < s.heap.size
    · rw [o2 q (by omega), o1 q g]
    · rw [hEK] at hq
      have h9 : H2.size ≤ q := by
        rw [z2]
        by_cases g2 : q < s.heap.size + 190
        · exfalso
          obtain ⟨i, rfl⟩ : ∃ i, q = s.heap.size + i := ⟨q - s.heap.size, by omega⟩
          rw [eKt_at] at hq
          have := List.getElem?_eq_none_iff.mp hq
          have h3 : tplK.length = 190 := by decide +kernel
          omega
        · omega
      rw [Array.getElem?_eq_none h9, Array.getElem?_eq_none (by omega)], fun x hx2 => by cases hx2⟩ (lv_sub hl [2, 1, 0] rfl)
set_option maxHeartbeats 4000000 in
theorem lw_walk (l : Launch) (hflags : l.flags = flags0) (b : Addr) (xs : List Int32) : MetFree l x (headSpec (Jvm.Cond.code x code maxLocals ret :: tables_1) room_1) (lw_P b xs) (fun _ _ _ _ _ => True) lw_Q := by
  refine MetFree.of_bodyS (code := code) (maxLocals := maxLocals) (ret := ret) (by decide) ?_ ?_
  · intro args s m h hn
    obtain ⟨meth, c, h1, h2, h3, h4, h5, h6, -, -⟩ := Cond.code_spec hn (atoms_spec (ws := Jvm.Cond.code x code maxLocals ret :: tables_1) h _ List.mem_cons_self)
    exact ⟨meth, c, h1, h2, h3, h4, h5, h6⟩
  · intro p e s m args below meth c s₁ B hml0 hP _
    obtain ⟨rfl, hx, hbd, hgv⟩ := hP
    obtain ⟨scr, harrAt, hlist, hof, hsmall⟩ := hx
    obtain ⟨hcb, hkn, -, -⟩ := State.arrayAt?_spec harrAt
    have hown : s.vm.findClass R_law = some m.cls := findClass_of_methodNamed B.named
    have hts0 : ∀ c ∈ (Jvm.Cond.code x code maxLocals ret :: tables_1), c.before #[Value.ref b] s = true := atoms_spec (ws := Jvm.Cond.code x code maxLocals ret :: tables_1) B.pre
    have hts : ∀ w ∈ lw_tbl, w.before #[Value.ref b] s = true := k2_hts_sels lw_privs (fun w hw => hts0 w (List.mem_cons_of_mem _ hw)) lw_privs_ok
    have hml : c.maxLocals = 4 := B.maxLocals_eq (hts0 _ List.mem_cons_self)
    have X₀ : Stand p l e room_1 s m #[Value.ref b] below meth c s₁ [] 0 0 := Stand.of_body B
    have hh0 : s₁.heap = s.heap := by rw [B.state]; rfl
    have hsz : scr.slots.size = xs.length := by rw [← Array.length_toList, hlist, List.length_map]
    have hval : ∀ j : Nat, j < xs.length → scr.slots[j]? = some (.int (xs.getD j 0)) := fun j hj => by
      rw [← Array.getElem?_toList, hlist]
      simp [hj]
    have hbl : b < s.heap.size := (Array.getElem?_eq_some_iff.mp hcb).1
    have hX : va_X b xs.length (fun j => xs.getD j 0) s s.heap := ⟨scr, hcb, hof, hkn, hsz, hval⟩
    have K : W p l e room_1 s m #[Value.ref b] below meth c s₁.heap [] 0 0 (lw_Z below #[Value.ref b] s) (entryFrame m ([Value.ref b] : List Value).toArray 4) := by
      rw [hh0]
      exact whole_start l hflags hbd ⟨B.exec, B.bytes, B.returns, hml, hown, hts, hX, hbl, B.notSynchronized, hgv⟩
    obtain ⟨t, a1, o, b1, b2, b3⟩ := K s₁ rfl X₀
    exact ⟨t, o, a1, b1, b2, b3⟩
theorem lw_pre_spec {args : Array Value} {s : State} (h : (Jvm.Cond.and given_1 narrow_1).before args s = true) (hr : rest_1_c.before args s = true) : ∃ (b : Addr) (xs : List Int32), lw_P b xs args s := by
  have hs := flat_of_before _ h
  have hq := flat_of_before _ hr
  have hc : (Cond.count 1).before args s = true := hs _ (by decide +kernel)
  have harr : (Cond.arrayOf (.arg 0) .int).before args s = true := hs _ (by decide +kernel)
  have hle : (Cond.le (.length (.arg 0)) (.int 2560)).before args s = true := hs _ (by decide +kernel)
  have hlen : (Cond.isInt (.length (.arg 0))).before args s = true := hq _ (by decide +kernel)
  have hall : (Cond.all (.arg 0) (.isInt (.elem (.arg 0) (.index 0)))).before args s = true := hq _ (by decide +kernel)
  obtain ⟨b, xs, hb, hx⟩ := State.ints_of_pre rfl harr hlen hall
  have hsm : xs.length < 2 ^ 31 := hx.choose_spec.2.2.2
  have hev : (Term.length (.arg 0)).eval args s none [] s = some (.int xs.length.toInt32) := hx.length_eval hb
  have hv := Cond.le_ints hev (show (Term.int 2560).eval args s none [] s = some (.int 2560) from rfl)
  have hd : xs.length.toInt32 ≤ 2560 := by
    simpa [Cond.before, Cond.holds, hv] using hle
  have hN : xs.length ≤ 2560 := (Int32.ofNat_le_ofNat hsm (by decide)).mp (show Int32.ofNat xs.length ≤ Int32.ofNat 2560 from hd)
  exact ⟨b, xs, Cond.one_arg hc (show args[0]? = some (.ref b) from hb), hx, hN, h⟩
theorem lw_comes (l : Launch) (hflags : l.flags = flags0) : Comes l x (Jvm.Cond.code x code maxLocals ret :: tables_1) room_1 (fun tb e args s => Calls_1 tb e args s ∧ rest_1 tb e args s ∧ Pre_1 tb e args s)
    (fun _ _ args s o t => lw_Q args s o t) := by
  intro p e ha hc hk s m args below hf hfit hheap happ hpre
  obtain ⟨b, xs, hP⟩ := lw_pre_spec hpre.2.2 hpre.2.1
  obtain ⟨k, o, h1, h2, h3, hQ⟩ := lw_walk l hflags b xs p e ha hc hk s m args below hf ((Spec.applies_iff_loose hf).mp happ).1 hP trivial
  exact ⟨k, o, h1, h2, h3, hQ⟩
theorem lw_frame {s t : State} {o : Outcome} {args : Array Value} (h : Framed s o t [] 600000 7302250) :
    Framed s o t (fieldLocs frame_1_writes args s ++ arrayLocs frame_1_arrays args s ++ staticLocs frame_1_statics s) 600000 7302250 := h
theorem lw_limb (L : Cond) (hL : ∀ (args : Array Value) (s t : State), L.after args s (.returned (some (.int 1))) t = true) :
    ArmFor flags0 classFile x code maxLocals ret World_1 tables_1 room_1 Calls_1 rest_1 Pre_1
      (fun tb e a s o t => postC L tb e a s o t ∧ Framed s o t (fieldLocs frame_1_writes a s ++ arrayLocs frame_1_arrays a s ++ staticLocs frame_1_statics s) 600000 7302250) := by
  intro l hflags _ _ p e ha hc hk s m args below hf hfit hheap happ hpre
  obtain ⟨k, o, h1, h2, h3, rfl, hF⟩ := lw_comes l hflags p e ha hc hk s m args below hf hfit hheap happ hpre
  exact ⟨k, _, h1, h2, h3, hL args s _, lw_frame hF⟩
theorem i_vc : Claimed_1_1 ∧ Claimed_1_2 := ⟨lw_limb limb_1_1 (fun args s t => by simp [limb_1_1, Cond.after, Cond.holds, Cond.value]), lw_limb limb_1_2 (fun args s t => Cond.after_iff.mpr (by
  first | (rw [show limb_1_2 = Cond.eq .result (.int 1) from rfl, Cond.eq_ints (x := 1) (y := 1) rfl rfl]; simp; done) | (simp [limb_1_2, Cond.value, Term.eval]; done)))⟩

