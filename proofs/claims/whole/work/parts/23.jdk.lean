/-! ===== the JDK's own methods on the seven words ===== -/
theorem hs_va {E : Ev} {X : Xe} {s : State} {H : Heap} {locs : List Loc} (hS : HS E X s.heap H locs) : va_S (FA E) s.heap H locs := ⟨by rw [hS.1]; exact Nat.le_add_right _ _, fun q _ h => hS.2.1 q (FA.no h), hS.2.2⟩
section SJD
variable {l : Launch} {E : Ev} {y : MethodName} {cc : ByteArray} {n : Nat} {ret : Option FieldType} {X : Xe} {L : HL} {pc : Nat} {lv : List (Nat × Value)} {st : List Value}
theorem sx_sval {i idx : Nat} (hi : i < 7) (hd : decode cc pc = .ok (.getfield idx, 3)) (hf : Cond.fieldLink y.cls idx "java/lang/String" "value" "[B" ∈ gw) (kk : Sy l E y cc n ret X (pc + 3) lv (.ref (eT E i) :: st) L) : Sy l E y cc n ret X pc lv (.ref (eS E i) :: st) L := by
  intro p e s m args below meth c H locs ls C hP hS hl
  have K := kk p e s m args below meth c H locs ls C hP hS hl
  obtain ⟨hx, hb, -, hown, hts, -, -, -, hKh⟩ := C
  exact vk_getf hx hb (hKh.1.1 i hi).2.2.1 (hs_va hS) hown (hts _ hf) (fun _ q => q) hd K
theorem sx_scod {i idx : Nat} (hi : i < 7) (hd : decode cc pc = .ok (.getfield idx, 3)) (hf : Cond.fieldLink y.cls idx "java/lang/String" "coder" "B" ∈ gw) (kk : Sy l E y cc n ret X (pc + 3) lv (.int 0 :: st) L) : Sy l E y cc n ret X pc lv (.ref (eS E i) :: st) L := by
  intro p e s m args below meth c H locs ls C hP hS hl
  have K := kk p e s m args below meth c H locs ls C hP hS hl
  obtain ⟨hx, hb, -, hown, hts, -, -, -, hKh⟩ := C
  exact vk_getf hx hb (hKh.1.1 i hi).2.1 (hs_va hS) hown (hts _ hf) (fun _ q => q) hd K
theorem sx_scomp {idx : Nat} (hd : decode cc pc = .ok (.getstatic idx, 3)) (hf : Cond.fieldLink y.cls idx "java/lang/String" "COMPACT_STRINGS" "Z" ∈ gw) (kk : Sy l E y cc n ret X (pc + 3) lv (.int 1 :: st) L) : Sy l E y cc n ret X pc lv st L := by
  intro p e s m args below meth c H locs ls C hP hS hl
  have K := kk p e s m args below meth c H locs ls C hP hS hl
  obtain ⟨hx, hb, -, hown, hts, -, -, -, hKh⟩ := C
  exact va_gets hx hb hKh.2.1 (hs_va hS) hown (hts _ hf) (fun _ q => q) hd K
theorem sx_sfmt {idx : Nat} (hd : decode cc pc = .ok (.getstatic idx, 3)) (hf : Cond.fieldLink y.cls idx "jdk/internal/util/Preconditions" "SIOOBE_FORMATTER" "Ljava/util/function/BiFunction;" ∈ gw) (kk : ∀ v : Value, (v = .null ∨ ∃ t, v = .ref t) → Sy l E y cc n ret X (pc + 3) lv (v :: st) L) : Sy l E y cc n ret X pc lv st L := by
  intro p e s m args below meth c H locs ls C hP hS hl
  have C' := C
  obtain ⟨hx, hb, -, hown, hts, -, -, -, hKh⟩ := C
  rcases hKh.2.2 with hz | ⟨t, hz⟩
  · exact va_gets hx hb hz (hs_va hS) hown (hts _ hf) (fun _ q => q) hd (kk _ (Or.inl rfl) p e s m args below meth c H locs ls C' hP hS hl)
  · exact va_gets hx hb hz (hs_va hS) hown (hts _ hf) (fun _ q => q) hd (kk _ (Or.inr ⟨t, rfl⟩) p e s m args below meth c H locs ls C' hP hS hl)
theorem sx_stlen {i : Nat} (hi : i < 7) (hd : decode cc pc = .ok (.arraylength, 1)) (kk : Sy l E y cc n ret X (pc + 1) lv (.int (slenI i) :: st) L) : Sy l E y cc n ret X pc lv (.ref (eT E i) :: st) L := by
  intro p e s m args below meth c H locs ls C hP hS hl
  have K := kk p e s m args below meth c H locs ls C hP hS hl
  obtain ⟨hx, hb, -, hown, hts, -, -, -, hKh⟩ := C
  exact va_tlen hx hb (hKh.1.1 i hi).2.2.2 (hs_va hS) rfl hd K
theorem sx_stld {i : Nat} {j : Int32} (hi : i < 7) (hd : decode cc pc = .ok (.baload, 1)) (hin : vp_in j (slen.getD i 0)) (kk : Sy l E y cc n ret X (pc + 1) lv (.int (schr i j.toNatClampNeg) :: st) L) : Sy l E y cc n ret X pc lv (.int j :: .ref (eT E i) :: st) L := by
  intro p e s m args below meth c H locs ls C hP hS hl
  have K := kk p e s m args below meth c H locs ls C hP hS hl
  obtain ⟨hx, hb, -, hown, hts, -, -, -, hKh⟩ := C
  exact va_tb hx hb (hKh.1.1 i hi).2.2.2 (hs_va hS) hin rfl hd K
theorem sx_i2c {a v : Int32} (hd : decode cc pc = .ok (.i2c, 1)) (hv : (a.toUInt32 % 65536).toInt32 = v) (kk : Sy l E y cc n ret X (pc + 1) lv (.int v :: st) L) : Sy l E y cc n ret X pc lv (.int a :: st) L := by
  intro p e s m args below meth c H locs ls C hP hS hl
  exact lv_i2c C.1 C.2.1 hd hv (kk p e s m args below meth c H locs ls C hP hS hl)
/-- a call on one of the words -/
theorem sx_callW {y2 : MethodName} {cc2 : ByteArray} {n2 d2 idx i : Nat} {ret2 : Option FieldType} {avs rest st1 : List Value} {r1 : Option Value} {L1 : HL} {k : Nat} (hi : i < 7) (hd : decode cc pc = .ok (.invokevirtual idx, 3)) (hM : Mt l E y2 cc2 n2 ret2 d2 (.ref (eS E i) :: avs) L r1 L1) (hw : CI y2 cc2 n2 ret2 k) (hl2 : Cond.methodLink y.cls idx y2 ∈ gw) (hq : "java/lang/String" = y2.cls) (hn : avs.length = k) (hst : st = avs.reverse ++ .ref (eS E i) :: rest) (hrm : RM X d2) (hn2 : Nat.ble n2 29 = true) (hcat : (rest.map fun v => v.category).sum ≤ 8) (h1 : r1.toList ++ rest = st1)
    (kk : Sy l E y cc n ret X (pc + 3) lv st1 L1) : Sy l E y cc n ret X pc lv st L := by
  intro p e s m args below meth c H locs ls C hP hS hl
  have hn2 := Nat.le_of_ble_eq_true hn2
  have C' := C
  obtain ⟨hx, hb, hml, hown, hts, -, -, hKv, hKh⟩ := C
  have hpre : PreV s H y2.cls (eS E i) (Pr E (.ref (eS E i) :: avs) L) avs := ⟨Pr.blind _ _ _, by rw [← hq]; exact vk_recv hKh.1 hi (hs_va hS), fun U hU hW => Pr.go hU hW hP hS hKv hKh⟩
  have hR : (rmd d2).frames + 1 ≤ X.1.frames ∧ 8 + (n2 + 11) + (rmd d2).locals ≤ X.1.locals := ⟨hrm.1, by have h9 := hrm.2.1; show 8 + (n2 + 11) + 48 * d2 ≤ _; omega⟩
  subst hst
  exact call_go (va_runV (As := avs) (rest := rest) (Ts := gw) (own := y.cls) ⟨hx, hb, hml, hown, hts⟩ hM ⟨callB_of k hts (gin hw.1.1) rfl rfl rfl (hts _ hw.1.2.1) (hts _ hl2) hw.1.2.2 hR, hts _ hw.2.1, hts _ hw.2.2⟩ hpre rfl hn hl.1 rfl (lv_room hcat) hd ⟨hrm.2.2.1, hrm.2.2.2⟩) C' hS hl h1 kk
end SJD
theorem chr_ok : ∀ i, i < 7 → ∀ j, j < slen.getD i 0 → ((schr i j &&& 255).toUInt32 % 65536).toInt32 = schr i j ∧ vp_nar .char (schr i j) = schr i j := by decide +kernel
theorem len_ok : ∀ i, i < 7 → (slenI i).toNatClampNeg = slen.getD i 0 ∧ 0 ≤ slenI i := by decide +kernel
theorem ciJ0_length : CI yJ0_length_8abf5 cJ0_length_8abf5 1 (some .int) 0 := ⟨⟨wd_526, wd_112, by decide, by decide, by decide +kernel⟩, wd_524, wd_525⟩
theorem ciJ0_coder : CI yJ0_coder_7d493 cJ0_coder_7d493 1 (some .byte) 0 := ⟨⟨wd_530, wd_112, by decide, by decide, by decide +kernel⟩, wd_528, wd_529⟩
theorem ciJ0_charAt : CI yJ0_charAt_5068e cJ0_charAt_5068e 2 (some .char) 1 := ⟨⟨wd_536, wd_112, by decide, by decide, by decide +kernel⟩, wd_534, wd_535⟩
theorem ciJ0_isLatin1 : CI yJ0_isLatin1_aae02 cJ0_isLatin1_aae02 1 (some .boolean) 0 := ⟨⟨wd_540, wd_112, by decide, by decide, by decide +kernel⟩, wd_538, wd_539⟩
theorem ctJ1_charAt : CT yJ1_charAt_3b067 cJ1_charAt_3b067 2 (some .char) 2 := ⟨⟨wd_543, wd_113, by decide, by decide, by decide +kernel⟩, wd_542⟩
theorem ctJ0_check : CT yJ0_checkIndex_df160 cJ0_checkIndex_df160 2 none 2 := ⟨⟨wd_546, wd_112, by decide, by decide, by decide +kernel⟩, wd_545⟩
theorem ctJ3_check : CT yJ3_checkIndex_8e157 cJ3_checkIndex_8e157 3 (some .int) 3 := ⟨⟨wd_551, wd_114, by decide, by decide, by decide +kernel⟩, wd_550⟩
section JDC
variable {l : Launch} {E : Ev} {L : HL}
set_option maxHeartbeats 4000000 in
theorem mJ0_coder {i : Nat} (hi : i < 7) : Mt l E yJ0_coder_7d493 cJ0_coder_7d493 1 (some .byte) 1 [.ref (eS E i)] L (some (.int 0)) L := by
  refine Mt.of (plainFor_of_name (by decide)) (Nat.le_of_ble_eq_true rfl) ?_
  refine sx_scomp dJ0_coder_7d493_0 wd_531 ?_
  refine sx_if_eq (tgt := 13) dJ0_coder_7d493_3 rfl (fun c => absurd c (by decide)) (fun _ => ?_)
  refine sx_aload_n (i := 0) (j := 0) dJ0_coder_7d493_6 rfl rfl ?_
  refine sx_scod hi dJ0_coder_7d493_7 wd_1386 ?_
  refine sx_goto (tgt := 14) dJ0_coder_7d493_10 rfl ?_
  exact sx_iret dJ0_coder_7d493_14 rfl (by decide) rfl rfl
set_option maxHeartbeats 4000000 in
theorem mJ0_isLatin1 {i : Nat} (hi : i < 7) : Mt l E yJ0_isLatin1_aae02 cJ0_isLatin1_aae02 1 (some .boolean) 1 [.ref (eS E i)] L (some (.int 1)) L := by
  refine Mt.of (plainFor_of_name (by decide)) (Nat.le_of_ble_eq_true rfl) ?_
  refine sx_scomp dJ0_isLatin1_aae02_0 wd_531 ?_
  refine sx_if_eq (tgt := 17) dJ0_isLatin1_aae02_3 rfl (fun c => absurd c (by decide)) (fun _ => ?_)
  refine sx_aload_n (i := 0) (j := 0) dJ0_isLatin1_aae02_6 rfl rfl ?_
  refine sx_scod hi dJ0_isLatin1_aae02_7 wd_1386 ?_
  refine sx_if_ne (tgt := 17) dJ0_isLatin1_aae02_10 rfl (fun _ => ?_) (fun c => absurd rfl c)
  refine sx_iconst (v := 1) dJ0_isLatin1_aae02_13 (by decide) ?_
  refine sx_goto (tgt := 18) dJ0_isLatin1_aae02_14 rfl ?_
  exact sx_iret dJ0_isLatin1_aae02_18 rfl (by decide) rfl rfl
set_option maxHeartbeats 4000000 in
theorem mJ0_length {i : Nat} (hi : i < 7) : Mt l E yJ0_length_8abf5 cJ0_length_8abf5 1 (some .int) 2 [.ref (eS E i)] L (some (.int (slenI i))) L := by
  refine Mt.of (plainFor_of_name (by decide)) (Nat.le_of_ble_eq_true rfl) ?_
  refine sx_aload_n (i := 0) (j := 0) dJ0_length_8abf5_0 rfl rfl ?_
  refine sx_sval hi dJ0_length_8abf5_1 wd_1385 ?_
  refine sx_stlen hi dJ0_length_8abf5_4 ?_
  refine sx_aload_n (i := 0) (j := 0) dJ0_length_8abf5_5 rfl rfl ?_
  refine sx_callW (avs := []) (rest := [.int (slenI i)]) (st1 := [.int 0, .int (slenI i)]) hi dJ0_length_8abf5_6 (mJ0_coder hi) ciJ0_coder wd_527 rfl rfl rfl (rm_m rfl) rfl (Nat.le_of_ble_eq_true rfl) rfl ?_
  refine sx_ishr dJ0_length_8abf5_9 ?_
  refine sx_iret dJ0_length_8abf5_10 rfl rfl ?_ rfl
  rw [show slenI i >>> ((0 : Int32) &&& 31) = slenI i from (by decide +kernel : ∀ j, j < 7 → slenI j >>> ((0 : Int32) &&& 31) = slenI j) i hi]
set_option maxHeartbeats 4000000 in
theorem mJ3_check {v : Value} {a b : Int32} (hv : v = .null ∨ ∃ t, v = .ref t) (h0 : ¬ a < 0) (h1 : a < b) : Mt l E yJ3_checkIndex_8e157 cJ3_checkIndex_8e157 3 (some .int) 1 [.int a, .int b, v] L (some (.int a)) L := by
  have hlen : (lg_sl [Value.int a, .int b, v]).length ≤ 3 := by rcases hv with rfl | ⟨t, rfl⟩ <;> exact Nat.le_of_ble_eq_true rfl
  refine Mt.of (plainFor_of_name (by decide)) hlen ?_
  refine sx_iload_n (i := 0) (j := 0) dJ3_checkIndex_8e157_0 rfl rfl ?_
  refine sx_if_lt (tgt := 9) dJ3_checkIndex_8e157_1 rfl (fun c => absurd c h0) (fun _ => ?_)
  refine sx_iload_n (i := 0) (j := 0) dJ3_checkIndex_8e157_4 rfl rfl ?_
  refine sx_iload_n (i := 1) (j := 1) dJ3_checkIndex_8e157_5 rfl rfl ?_
  refine sx_icmp_lt (tgt := 16) dJ3_checkIndex_8e157_6 rfl (fun _ => ?_) (fun c => absurd h1 c)
  refine sx_iload_n (i := 0) (j := 0) dJ3_checkIndex_8e157_16 rfl rfl ?_
  exact sx_iret dJ3_checkIndex_8e157_17 rfl rfl rfl rfl
set_option maxHeartbeats 4000000 in
theorem mJ0_check {a b : Int32} (h0 : ¬ a < 0) (h1 : a < b) : Mt l E yJ0_checkIndex_df160 cJ0_checkIndex_df160 2 none 2 [.int a, .int b] L none L := by
  refine Mt.of (plainFor_of_name (by decide)) (Nat.le_of_ble_eq_true rfl) ?_
  refine sx_iload_n (i := 0) (j := 0) dJ0_checkIndex_df160_0 rfl rfl ?_
  refine sx_iload_n (i := 1) (j := 1) dJ0_checkIndex_df160_1 rfl rfl ?_
  refine sx_sfmt dJ0_checkIndex_df160_2 wd_547 (fun v hv => ?_)
  refine sx_callS (avs := [.int a, .int b, v]) (rest := []) (st1 := [.int a]) dJ0_checkIndex_df160_5 (mJ3_check hv h0 h1) ctJ3_check (Or.inl wd_549) rfl rfl (rm_m rfl) rfl (Nat.le_of_ble_eq_true rfl) rfl ?_
  refine sx_pop dJ0_checkIndex_df160_8 rfl ?_
  exact sx_vret dJ0_checkIndex_df160_9 rfl rfl rfl
set_option maxHeartbeats 4000000 in
theorem mJ1_charAt {i : Nat} {j : Int32} (hi : i < 7) (hin : vp_in j (slen.getD i 0)) : Mt l E yJ1_charAt_3b067 cJ1_charAt_3b067 2 (some .char) 3 [.ref (eT E i), .int j] L (some (.int (schr i j.toNatClampNeg))) L := by
  have hlt : j < slenI i := by
    have h1 := in_lt hin
    have h2 := len_ok i hi
    have h3 : ¬ j < 0 := fun q => hin (Or.inl q)
    rw [Int32.lt_iff_toInt_lt] at h3 ⊢
    have h4 := h2.2
    rw [Int32.le_iff_toInt_le] at h4
    have e1 : (slenI i).toInt.toNat = slen.getD i 0 := h2.1
    have e2 : j.toInt.toNat < slen.getD i 0 := h1
    simp only [Int32.toInt_zero] at h3 h4
    omega
  have hc := chr_ok i hi _ (in_lt hin)
  refine Mt.of (plainFor_of_name (by decide)) (Nat.le_of_ble_eq_true rfl) ?_
  refine sx_iload_n (i := 1) (j := 1) dJ1_charAt_3b067_0 rfl rfl ?_
  refine sx_aload_n (i := 0) (j := 0) dJ1_charAt_3b067_1 rfl rfl ?_
  refine sx_stlen hi dJ1_charAt_3b067_2 ?_
  refine sx_callS (avs := [.int j, .int (slenI i)]) (rest := []) (st1 := []) dJ1_charAt_3b067_3 (mJ0_check (fun q => hin (Or.inl q)) hlt) ctJ0_check (Or.inl wd_544) rfl rfl (rm_m rfl) rfl (Nat.le_of_ble_eq_true rfl) rfl ?_
  refine sx_aload_n (i := 0) (j := 0) dJ1_charAt_3b067_6 rfl rfl ?_
  refine sx_iload_n (i := 1) (j := 1) dJ1_charAt_3b067_7 rfl rfl ?_
  refine sx_stld hi dJ1_charAt_3b067_8 hin ?_
  refine sx_sipush (v := 255) dJ1_charAt_3b067_9 (by decide) ?_
  refine sx_iand dJ1_charAt_3b067_12 ?_
  refine sx_i2c (v := schr i j.toNatClampNeg) dJ1_charAt_3b067_13 hc.1 ?_
  refine sx_iret dJ1_charAt_3b067_14 rfl ?_ rfl rfl
  exact congrArg Value.int hc.2
set_option maxHeartbeats 4000000 in
theorem mJ0_charAt {i : Nat} {j : Int32} (hi : i < 7) (hin : vp_in j (slen.getD i 0)) : Mt l E yJ0_charAt_5068e cJ0_charAt_5068e 2 (some .char) 4 [.ref (eS E i), .int j] L (some (.int (schr i j.toNatClampNeg))) L := by
  have hc := chr_ok i hi _ (in_lt hin)
  refine Mt.of (plainFor_of_name (by decide)) (Nat.le_of_ble_eq_true rfl) ?_
  refine sx_aload_n (i := 0) (j := 0) dJ0_charAt_5068e_0 rfl rfl ?_
  refine sx_callW (avs := []) (rest := []) (st1 := [.int 1]) hi dJ0_charAt_5068e_1 (mJ0_isLatin1 hi) ciJ0_isLatin1 wd_537 rfl rfl rfl (rm_m rfl) rfl (Nat.le_of_ble_eq_true rfl) rfl ?_
  refine sx_if_eq (tgt := 16) dJ0_charAt_5068e_4 rfl (fun c => absurd c (by decide)) (fun _ => ?_)
  refine sx_aload_n (i := 0) (j := 0) dJ0_charAt_5068e_7 rfl rfl ?_
  refine sx_sval hi dJ0_charAt_5068e_8 wd_1385 ?_
  refine sx_iload_n (i := 1) (j := 1) dJ0_charAt_5068e_11 rfl rfl ?_
  refine sx_callS (avs := [.ref (eT E i), .int j]) (rest := []) (st1 := [.int (schr i j.toNatClampNeg)]) dJ0_charAt_5068e_12 (mJ1_charAt hi hin) ctJ1_charAt (Or.inl wd_541) rfl rfl (rm_m rfl) rfl (Nat.le_of_ble_eq_true rfl) rfl ?_
  refine sx_iret dJ0_charAt_5068e_15 rfl ?_ rfl rfl
  exact congrArg Value.int hc.2
end JDC
section SJE
variable {l : Launch} {E : Ev} {y : MethodName} {cc : ByteArray} {n : Nat} {ret : Option FieldType} {r : Option Value} {L' L : HL} {pc : Nat} {lv : List (Nat × Value)} {st : List Value}
theorem sx_slen {i idx : Nat} (hd : decode cc pc = .ok (.invokevirtual idx, 3)) (hl2 : Cond.methodLink y.cls idx yJ0_length_8abf5 ∈ gw) (hi : i < 7) (hcat : (st.map fun v => v.category).sum ≤ 8) (kk : Sx l E y cc n ret 8 r L' (pc + 3) lv (.int (slenI i) :: st) L) : Sx l E y cc n ret 8 r L' pc lv (.ref (eS E i) :: st) L :=
  sx_callW (avs := []) (rest := st) (st1 := .int (slenI i) :: st) hi hd (mJ0_length hi) ciJ0_length hl2 rfl rfl rfl (rm_m rfl) rfl hcat rfl kk
theorem sx_schr {i idx : Nat} {j : Int32} (hd : decode cc pc = .ok (.invokevirtual idx, 3)) (hl2 : Cond.methodLink y.cls idx yJ0_charAt_5068e ∈ gw) (hi : i < 7) (hin : vin j (slen.getD i 0)) (hcat : (st.map fun v => v.category).sum ≤ 8) (kk : Sx l E y cc n ret 8 r L' (pc + 3) lv (.int (schr i j.toNatClampNeg) :: st) L) : Sx l E y cc n ret 8 r L' pc lv (.int j :: .ref (eS E i) :: st) L :=
  sx_callW (avs := [.int j]) (rest := st) (st1 := .int (schr i j.toNatClampNeg) :: st) hi hd (mJ0_charAt hi hin) ciJ0_charAt hl2 rfl rfl rfl (rm_m rfl) rfl hcat rfl kk
end SJE
