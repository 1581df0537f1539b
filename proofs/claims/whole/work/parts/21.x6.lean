
set_option maxHeartbeats 4000000 in
theorem mX6_imageAt_0 {l : Launch} {E : Ev} {a0 : Nat} {v1 : Int32} {L : HL} (h0 : isX6 E a0) (c : v1 = 0) : Mt l E yX6_imageAt cX6_imageAt 2 (some (.object "HouseHeirs$Image")) 1 [.ref a0, .int v1] L (some (.ref (a0 + 50))) L := by
  refine Mt.of (plainFor_of_name (by decide)) (Nat.le_of_ble_eq_true rfl) ?_
  refine sx_sub (lv' := [(0, .ref a0), (1, .int v1)]) [0, 1] rfl ?_
  refine sx_iload_n (i := 1) (j := 1) dX6_imageAt_0 rfl rfl ?_
  refine sx_if_ne (tgt := 11) dX6_imageAt_1 rfl (fun _ => ?_) (fun c1 => absurd c c1)
  refine sx_aload_n (i := 0) (j := 0) dX6_imageAt_4 rfl rfl ?_
  refine sx_get (k := 3) (v := .ref (a0 + 50)) dX6_imageAt_5 (X6_k h0) cf_6 (Or.inl wd_343) (by decide : 3 < 13) (congrArg Value.ref (X6_r3 h0)) ?_
  refine sx_goto (tgt := 15) dX6_imageAt_8 rfl ?_
  exact sx_aret dX6_imageAt_15 rfl rfl rfl
set_option maxHeartbeats 4000000 in
theorem mX6_imageAt_1 {l : Launch} {E : Ev} {a0 : Nat} {v1 : Int32} {L : HL} (h0 : isX6 E a0) (c : ¬ v1 = 0) : Mt l E yX6_imageAt cX6_imageAt 2 (some (.object "HouseHeirs$Image")) 1 [.ref a0, .int v1] L (some (.ref (a0 + 86))) L := by
  refine Mt.of (plainFor_of_name (by decide)) (Nat.le_of_ble_eq_true rfl) ?_
  refine sx_sub (lv' := [(0, .ref a0), (1, .int v1)]) [0, 1] rfl ?_
  refine sx_iload_n (i := 1) (j := 1) dX6_imageAt_0 rfl rfl ?_
  refine sx_if_ne (tgt := 11) dX6_imageAt_1 rfl (fun c1 => absurd c1 c) (fun _ => ?_)
  refine sx_aload_n (i := 0) (j := 0) dX6_imageAt_11 rfl rfl ?_
  refine sx_get (k := 4) (v := .ref (a0 + 86)) dX6_imageAt_12 (X6_k h0) cf_6 (Or.inl wd_344) (by decide : 4 < 13) (congrArg Value.ref (X6_r4 h0)) ?_
  exact sx_aret dX6_imageAt_15 rfl rfl rfl

set_option maxRecDepth 100000 in
set_option maxHeartbeats 4000000 in
theorem mX6_street {l : Launch} {E : Ev} {L : HL} {a0 : Nat} {z : Int32 × HL} (h0 : isX6 E a0) (h : fX6_street a0 L = some z) : Mt l E yX6_street cX6_street 2 (some .int) (2) [.ref a0] L (some (.int z.1)) (z.2) := by
  obtain ⟨r, hr⟩ : ∃ r : Option Value, r = some (.int z.1) := ⟨_, rfl⟩
  obtain ⟨L', hL'⟩ : ∃ L' : HL, L' = z.2 := ⟨_, rfl⟩
  have k3 : r = some (.int z.1) ∧ L' = z.2 := ⟨hr, hL'⟩
  refine mt_eq hr hL' ?_
  refine Mt.of (plainFor_of_name (by decide)) (Nat.le_of_ble_eq_true rfl) ?_
  refine sx_sub (lv' := [(0, .ref a0)]) [0] rfl ?_
  unfold fX6_street at h
  refine sx_aload_n (i := 0) (j := 0) dX6_street_0 rfl rfl ?_
  refine sx_get (k := 0) (v := .ref (a0 + 1)) dX6_street_1 (X6_k h0) cf_6 (Or.inl wd_340) (by decide : 0 < 13) (congrArg Value.ref (X6_r0 h0)) ?_
  refine sx_get (k := 0) (v := .int (L.1 (a0 + 1) 0)) dX6_street_4 (X4_k (X6_o0 h0)) cf_4 (Or.inr ⟨_, nw_134⟩) (by decide : 0 < 17) rfl ?_
  refine sx_topi (fun w1 ew1 => ?_)
  have h := lt_e ew1 h
  refine sx_istore_n (i := 1) (lv' := [(0, .ref a0), (1, .int w1)]) dX6_street_7 rfl (by decide) rfl ?_
  refine sx_aload_n (i := 0) (j := 0) dX6_street_8 rfl rfl ?_
  refine sx_get (k := 0) (v := .ref (a0 + 1)) dX6_street_9 (X6_k h0) cf_6 (Or.inl wd_340) (by decide : 0 < 13) (congrArg Value.ref (X6_r0 h0)) ?_
  obtain ⟨z2, ez2, h⟩ := bd_e h
  refine sx_callV (avs := []) (rest := []) (st1 := []) dX6_street_12 (mX4_empty (X6_o0 h0) ez2) ciX4_empty (Or.inr ⟨_, nw_384⟩) (X4_k (X6_o0 h0)) rfl rfl rfl rfl (rm_m rfl) rfl (Nat.le_of_ble_eq_true rfl) rfl ?_
  refine sx_aload_n (i := 0) (j := 0) dX6_street_15 rfl rfl ?_
  refine sx_get (k := 2) (v := .ref (a0 + 29)) dX6_street_16 (X6_k h0) cf_6 (Or.inl wd_342) (by decide : 2 < 13) (congrArg Value.ref (X6_r2 h0)) ?_
  obtain ⟨z3, ez3, h⟩ := bd_e h
  refine sx_callV (avs := []) (rest := []) (st1 := []) dX6_street_19 (mX3_forget (X6_o2 h0) ez3) ciX3_forget (Or.inr ⟨_, nw_388⟩) (X3_k (X6_o2 h0)) rfl rfl rfl rfl (rm_m rfl) rfl (Nat.le_of_ble_eq_true rfl) rfl ?_
  refine sx_iload_n (i := 1) (j := 1) dX6_street_22 rfl rfl ?_
  obtain rfl := Option.some.inj h
  exact sx_iret dX6_street_23 rfl rfl k3.1 k3.2
set_option maxRecDepth 100000 in
set_option maxHeartbeats 4000000 in
theorem mX6_refused {l : Launch} {E : Ev} {L : HL} {a0 : Nat} {v1 : Int32} {v2 : Int32} {z : Int32 × HL} (h0 : isX6 E a0) (h : fX6_refused a0 v1 v2 L = some z) : Mt l E yX6_refused cX6_refused 3 (some .int) (1) [.ref a0, .int v1, .int v2] L (some (.int z.1)) (z.2) := by
  obtain ⟨r, hr⟩ : ∃ r : Option Value, r = some (.int z.1) := ⟨_, rfl⟩
  obtain ⟨L', hL'⟩ : ∃ L' : HL, L' = z.2 := ⟨_, rfl⟩
  have k3 : r = some (.int z.1) ∧ L' = z.2 := ⟨hr, hL'⟩
  refine mt_eq hr hL' ?_
  refine Mt.of (plainFor_of_name (by decide)) (Nat.le_of_ble_eq_true rfl) ?_
  refine sx_sub (lv' := [(0, .ref a0), (1, .int v1), (2, .int v2)]) [0, 1, 2] rfl ?_
  unfold fX6_refused at h
  refine sx_iload_n (i := 1) (j := 1) dX6_refused_0 rfl rfl ?_
  refine sx_bipush (v := (-2 : Int32)) dX6_refused_1 (by decide) ?_
  refine sx_icmp_ne (tgt := 19) dX6_refused_3 rfl (fun c1 => ?_) (fun c1 => ?_)
  · have h := if_e c1 h
    refine sx_aload_n (i := 0) (j := 0) dX6_refused_6 rfl rfl ?_
    refine sx_dup dX6_refused_7 rfl ?_
    refine sx_get (k := 10) (v := .int (L.1 a0 10)) dX6_refused_8 (X6_k h0) cf_6 (Or.inl wd_350) (by decide : 10 < 13) rfl ?_
    refine sx_iconst (v := (1 : Int32)) dX6_refused_11 (by decide) ?_
    refine sx_iadd dX6_refused_12 ?_
    refine sx_putI (k := 10) dX6_refused_13 (X6_k h0) cf_6 (Or.inl wd_350) (by decide : 10 < 13) rfl rfl rfl rfl (fun L2 eL2 => ?_)
    have h := lt_e eL2 h
    refine sx_goto (tgt := 54) dX6_refused_16 rfl ?_
    refine sx_iload_n (i := 2) (j := 2) dX6_refused_54 rfl rfl ?_
    obtain rfl := Option.some.inj h
    exact sx_iret dX6_refused_55 rfl rfl k3.1 k3.2
  · have h := if_n c1 h
    refine sx_iload_n (i := 1) (j := 1) dX6_refused_19 rfl rfl ?_
    refine sx_bipush (v := (-3 : Int32)) dX6_refused_20 (by decide) ?_
    refine sx_icmp_ne (tgt := 38) dX6_refused_22 rfl (fun c3 => ?_) (fun c3 => ?_)
    · have h := if_e c3 h
      refine sx_aload_n (i := 0) (j := 0) dX6_refused_25 rfl rfl ?_
      refine sx_dup dX6_refused_26 rfl ?_
      refine sx_get (k := 11) (v := .int (L.1 a0 11)) dX6_refused_27 (X6_k h0) cf_6 (Or.inl wd_351) (by decide : 11 < 13) rfl ?_
      refine sx_iconst (v := (1 : Int32)) dX6_refused_30 (by decide) ?_
      refine sx_iadd dX6_refused_31 ?_
      refine sx_putI (k := 11) dX6_refused_32 (X6_k h0) cf_6 (Or.inl wd_351) (by decide : 11 < 13) rfl rfl rfl rfl (fun L4 eL4 => ?_)
      have h := lt_e eL4 h
      refine sx_goto (tgt := 54) dX6_refused_35 rfl ?_
      refine sx_iload_n (i := 2) (j := 2) dX6_refused_54 rfl rfl ?_
      obtain rfl := Option.some.inj h
      exact sx_iret dX6_refused_55 rfl rfl k3.1 k3.2
    · have h := if_n c3 h
      refine sx_iload_n (i := 1) (j := 1) dX6_refused_38 rfl rfl ?_
      refine sx_bipush (v := (-4 : Int32)) dX6_refused_39 (by decide) ?_
      refine sx_icmp_ne (tgt := 54) dX6_refused_41 rfl (fun c5 => ?_) (fun c5 => ?_)
      · have h := if_e c5 h
        refine sx_aload_n (i := 0) (j := 0) dX6_refused_44 rfl rfl ?_
        refine sx_dup dX6_refused_45 rfl ?_
        refine sx_get (k := 12) (v := .int (L.1 a0 12)) dX6_refused_46 (X6_k h0) cf_6 (Or.inl wd_352) (by decide : 12 < 13) rfl ?_
        refine sx_iconst (v := (1 : Int32)) dX6_refused_49 (by decide) ?_
        refine sx_iadd dX6_refused_50 ?_
        refine sx_putI (k := 12) dX6_refused_51 (X6_k h0) cf_6 (Or.inl wd_352) (by decide : 12 < 13) rfl rfl rfl rfl (fun L6 eL6 => ?_)
        have h := lt_e eL6 h
        refine sx_iload_n (i := 2) (j := 2) dX6_refused_54 rfl rfl ?_
        obtain rfl := Option.some.inj h
        exact sx_iret dX6_refused_55 rfl rfl k3.1 k3.2
      · have h := if_n c5 h
        refine sx_iload_n (i := 2) (j := 2) dX6_refused_54 rfl rfl ?_
        obtain rfl := Option.some.inj h
        exact sx_iret dX6_refused_55 rfl rfl k3.1 k3.2
set_option maxRecDepth 100000 in
set_option maxHeartbeats 4000000 in
theorem mX6_told {l : Launch} {E : Ev} {L : HL} {a0 : Nat} {v1 : Int32} {v2 : Int32} {z : Int32 × HL} (h0 : isX6 E a0) (h : fX6_told a0 v1 v2 L = some z) : Mt l E yX6_told cX6_told 3 (some .int) (2) [.ref a0, .int v1, .int v2] L (some (.int z.1)) (z.2) := by
  obtain ⟨r, hr⟩ : ∃ r : Option Value, r = some (.int z.1) := ⟨_, rfl⟩
  obtain ⟨L', hL'⟩ : ∃ L' : HL, L' = z.2 := ⟨_, rfl⟩
  have k3 : r = some (.int z.1) ∧ L' = z.2 := ⟨hr, hL'⟩
  refine mt_eq hr hL' ?_
  refine Mt.of (plainFor_of_name (by decide)) (Nat.le_of_ble_eq_true rfl) ?_
  refine sx_sub (lv' := [(0, .ref a0), (1, .int v1), (2, .int v2)]) [0, 1, 2] rfl ?_
  unfold fX6_told at h
  refine sx_iload_n (i := 1) (j := 1) dX6_told_0 rfl rfl ?_
  refine sx_bipush (v := (-2 : Int32)) dX6_told_1 (by decide) ?_
  refine sx_icmp_ne (tgt := 14) dX6_told_3 rfl (fun c1 => ?_) (fun c1 => ?_)
  · have h := if_e c1 h
    refine sx_aload_n (i := 0) (j := 0) dX6_told_6 rfl rfl ?_
    refine sx_bipush (v := (-2 : Int32)) dX6_told_7 (by decide) ?_
    refine sx_iload_n (i := 2) (j := 2) dX6_told_9 rfl rfl ?_
    obtain ⟨z2, ez2, h⟩ := bd_e h
    refine sx_callV (avs := [.int (-2 : Int32), .int v2]) (rest := []) (st1 := [.int z2.1]) dX6_told_10 (mX6_refused h0 ez2) ciX6_refused (Or.inl wd_404) (X6_k h0) rfl rfl rfl rfl (rm_m rfl) rfl (Nat.le_of_ble_eq_true rfl) rfl ?_
    obtain rfl := Option.some.inj h
    exact sx_iret dX6_told_13 rfl rfl k3.1 k3.2
  · have h := if_n c1 h
    refine sx_iload_n (i := 1) (j := 1) dX6_told_14 rfl rfl ?_
    refine sx_iconst (v := (-1 : Int32)) dX6_told_15 (by decide) ?_
    refine sx_icmp_ge (tgt := 26) dX6_told_16 rfl (fun c3 => ?_) (fun c3 => ?_)
    · have h := if_e c3 h
      refine sx_aload_n (i := 0) (j := 0) dX6_told_26 rfl rfl ?_
      refine sx_get (k := 2) (v := .ref (a0 + 29)) dX6_told_27 (X6_k h0) cf_6 (Or.inl wd_342) (by decide : 2 < 13) (congrArg Value.ref (X6_r2 h0)) ?_
      obtain ⟨z4, ez4, h⟩ := bd_e h
      refine sx_callV (avs := []) (rest := []) (st1 := []) dX6_told_30 (mX3_forget (X6_o2 h0) ez4) ciX3_forget (Or.inr ⟨_, nw_388⟩) (X3_k (X6_o2 h0)) rfl rfl rfl rfl (rm_m rfl) rfl (Nat.le_of_ble_eq_true rfl) rfl ?_
      refine sx_iload_n (i := 1) (j := 1) dX6_told_33 rfl rfl ?_
      obtain rfl := Option.some.inj h
      exact sx_iret dX6_told_34 rfl rfl k3.1 k3.2
    · have h := if_n c3 h
      refine sx_aload_n (i := 0) (j := 0) dX6_told_19 rfl rfl ?_
      refine sx_iload_n (i := 1) (j := 1) dX6_told_20 rfl rfl ?_
      refine sx_iload_n (i := 1) (j := 1) dX6_told_21 rfl rfl ?_
      obtain ⟨z5, ez5, h⟩ := bd_e h
      refine sx_callV (avs := [.int v1, .int v1]) (rest := []) (st1 := [.int z5.1]) dX6_told_22 (mX6_refused h0 ez5) ciX6_refused (Or.inl wd_404) (X6_k h0) rfl rfl rfl rfl (rm_m rfl) rfl (Nat.le_of_ble_eq_true rfl) rfl ?_
      obtain rfl := Option.some.inj h
      exact sx_iret dX6_told_25 rfl rfl k3.1 k3.2
set_option maxRecDepth 100000 in
set_option maxHeartbeats 4000000 in
theorem mX6_house {l : Launch} {E : Ev} {L : HL} {a0 : Nat} {v1 : Int32} {v2 : Int32} {v3 : Int32} {z : Int32 × HL} (h0 : isX6 E a0) (h : fX6_house a0 v1 v2 v3 L = some z) : Mt l E yX6_house cX6_house 4 (some .int) (3) [.ref a0, .int v1, .int v2, .int v3] L (some (.int z.1)) (z.2) := by
  obtain ⟨r, hr⟩ : ∃ r : Option Value, r = some (.int z.1) := ⟨_, rfl⟩
  obtain ⟨L', hL'⟩ : ∃ L' : HL, L' = z.2 := ⟨_, rfl⟩
  have k3 : r = some (.int z.1) ∧ L' = z.2 := ⟨hr, hL'⟩
  refine mt_eq hr hL' ?_
  refine Mt.of (plainFor_of_name (by decide)) (Nat.le_of_ble_eq_true rfl) ?_
  refine sx_sub (lv' := [(0, .ref a0), (1, .int v1), (2, .int v2), (3, .int v3)]) [0, 1, 2, 3] rfl ?_
  unfold fX6_house at h
  refine sx_aload_n (i := 0) (j := 0) dX6_house_0 rfl rfl ?_
  refine sx_aload_n (i := 0) (j := 0) dX6_house_1 rfl rfl ?_
  refine sx_get (k := 0) (v := .ref (a0 + 1)) dX6_house_2 (X6_k h0) cf_6 (Or.inl wd_340) (by decide : 0 < 13) (congrArg Value.ref (X6_r0 h0)) ?_
  refine sx_iload_n (i := 1) (j := 1) dX6_house_5 rfl rfl ?_
  refine sx_iload_n (i := 2) (j := 2) dX6_house_6 rfl rfl ?_
  refine sx_iload_n (i := 3) (j := 3) dX6_house_7 rfl rfl ?_
  obtain ⟨z1, ez1, h⟩ := bd_e h
  refine sx_callV (avs := [.int v1, .int v2, .int v3]) (rest := [.ref a0]) (st1 := [.int z1.1, .ref a0]) dX6_house_8 (mX4_addHouse (X6_o0 h0) ez1) ciX4_addHouse (Or.inr ⟨_, nw_396⟩) (X4_k (X6_o0 h0)) rfl rfl rfl rfl (rm_m rfl) rfl (Nat.le_of_ble_eq_true rfl) rfl ?_
  refine sx_bipush (v := (-2 : Int32)) dX6_house_11 (by decide) ?_
  obtain ⟨z2, ez2, h⟩ := bd_e h
  refine sx_callV (avs := [.int z1.1, .int (-2 : Int32)]) (rest := []) (st1 := [.int z2.1]) dX6_house_13 (mX6_told h0 ez2) ciX6_told (Or.inl wd_400) (X6_k h0) rfl rfl rfl rfl (rm_m rfl) rfl (Nat.le_of_ble_eq_true rfl) rfl ?_
  obtain rfl := Option.some.inj h
  exact sx_iret dX6_house_16 rfl rfl k3.1 k3.2
set_option maxRecDepth 100000 in
set_option maxHeartbeats 4000000 in
theorem mX6_builtFrom {l : Launch} {E : Ev} {L : HL} {a0 : Nat} {v1 : Int32} {v2 : Int32} {z : Int32 × HL} (h0 : isX6 E a0) (h : fX6_builtFrom a0 v1 v2 L = some z) : Mt l E yX6_builtFrom cX6_builtFrom 3 (some .int) (3) [.ref a0, .int v1, .int v2] L (some (.int z.1)) (z.2) := by
  obtain ⟨r, hr⟩ : ∃ r : Option Value, r = some (.int z.1) := ⟨_, rfl⟩
  obtain ⟨L', hL'⟩ : ∃ L' : HL, L' = z.2 := ⟨_, rfl⟩
  have k3 : r = some (.int z.1) ∧ L' = z.2 := ⟨hr, hL'⟩
  refine mt_eq hr hL' ?_
  refine Mt.of (plainFor_of_name (by decide)) (Nat.le_of_ble_eq_true rfl) ?_
  refine sx_sub (lv' := [(0, .ref a0), (1, .int v1), (2, .int v2)]) [0, 1, 2] rfl ?_
  unfold fX6_builtFrom at h
  refine sx_aload_n (i := 0) (j := 0) dX6_builtFrom_0 rfl rfl ?_
  refine sx_aload_n (i := 0) (j := 0) dX6_builtFrom_1 rfl rfl ?_
  refine sx_get (k := 0) (v := .ref (a0 + 1)) dX6_builtFrom_2 (X6_k h0) cf_6 (Or.inl wd_340) (by decide : 0 < 13) (congrArg Value.ref (X6_r0 h0)) ?_
  refine sx_iload_n (i := 1) (j := 1) dX6_builtFrom_5 rfl rfl ?_
  refine sx_iload_n (i := 2) (j := 2) dX6_builtFrom_6 rfl rfl ?_
  obtain ⟨z1, ez1, h⟩ := bd_e h
  refine sx_callV (avs := [.int v1, .int v2]) (rest := [.ref a0]) (st1 := [.int z1.1, .ref a0]) dX6_builtFrom_7 (mX4_setFrom (X6_o0 h0) ez1) ciX4_setFrom (Or.inr ⟨_, nw_412⟩) (X4_k (X6_o0 h0)) rfl rfl rfl rfl (rm_m rfl) rfl (Nat.le_of_ble_eq_true rfl) rfl ?_
  refine sx_bipush (v := (-10 : Int32)) dX6_builtFrom_10 (by decide) ?_
  obtain ⟨z2, ez2, h⟩ := bd_e h
  refine sx_callV (avs := [.int z1.1, .int (-10 : Int32)]) (rest := []) (st1 := [.int z2.1]) dX6_builtFrom_12 (mX6_told h0 ez2) ciX6_told (Or.inl wd_400) (X6_k h0) rfl rfl rfl rfl (rm_m rfl) rfl (Nat.le_of_ble_eq_true rfl) rfl ?_
  obtain rfl := Option.some.inj h
  exact sx_iret dX6_builtFrom_15 rfl rfl k3.1 k3.2
set_option maxRecDepth 100000 in
set_option maxHeartbeats 4000000 in
theorem mX6_will {l : Launch} {E : Ev} {L : HL} {a0 : Nat} {v1 : Int32} {v2 : Int32} {z : Int32 × HL} (h0 : isX6 E a0) (h : fX6_will a0 v1 v2 L = some z) : Mt l E yX6_will cX6_will 3 (some .int) (3) [.ref a0, .int v1, .int v2] L (some (.int z.1)) (z.2) := by
  obtain ⟨r, hr⟩ : ∃ r : Option Value, r = some (.int z.1) := ⟨_, rfl⟩
  obtain ⟨L', hL'⟩ : ∃ L' : HL, L' = z.2 := ⟨_, rfl⟩
  have k3 : r = some (.int z.1) ∧ L' = z.2 := ⟨hr, hL'⟩
  refine mt_eq hr hL' ?_
  refine Mt.of (plainFor_of_name (by decide)) (Nat.le_of_ble_eq_true rfl) ?_
  refine sx_sub (lv' := [(0, .ref a0), (1, .int v1), (2, .int v2)]) [0, 1, 2] rfl ?_
  unfold fX6_will at h
  refine sx_aload_n (i := 0) (j := 0) dX6_will_0 rfl rfl ?_
  refine sx_aload_n (i := 0) (j := 0) dX6_will_1 rfl rfl ?_
  refine sx_get (k := 0) (v := .ref (a0 + 1)) dX6_will_2 (X6_k h0) cf_6 (Or.inl wd_340) (by decide : 0 < 13) (congrArg Value.ref (X6_r0 h0)) ?_
  refine sx_iload_n (i := 1) (j := 1) dX6_will_5 rfl rfl ?_
  refine sx_iload_n (i := 2) (j := 2) dX6_will_6 rfl rfl ?_
  obtain ⟨z1, ez1, h⟩ := bd_e h
  refine sx_callV (avs := [.int v1, .int v2]) (rest := [.ref a0]) (st1 := [.int z1.1, .ref a0]) dX6_will_7 (mX4_setWill (X6_o0 h0) ez1) ciX4_setWill (Or.inr ⟨_, nw_424⟩) (X4_k (X6_o0 h0)) rfl rfl rfl rfl (rm_m rfl) rfl (Nat.le_of_ble_eq_true rfl) rfl ?_
  refine sx_bipush (v := (-2 : Int32)) dX6_will_10 (by decide) ?_
  obtain ⟨z2, ez2, h⟩ := bd_e h
  refine sx_callV (avs := [.int z1.1, .int (-2 : Int32)]) (rest := []) (st1 := [.int z2.1]) dX6_will_12 (mX6_told h0 ez2) ciX6_told (Or.inl wd_400) (X6_k h0) rfl rfl rfl rfl (rm_m rfl) rfl (Nat.le_of_ble_eq_true rfl) rfl ?_
  obtain rfl := Option.some.inj h
  exact sx_iret dX6_will_15 rfl rfl k3.1 k3.2
set_option maxRecDepth 100000 in
set_option maxHeartbeats 4000000 in
theorem mX6_wall {l : Launch} {E : Ev} {L : HL} {a0 : Nat} {v1 : Int32} {v2 : Int32} {v3 : Int32} {z : Int32 × HL} (h0 : isX6 E a0) (h : fX6_wall a0 v1 v2 v3 L = some z) : Mt l E yX6_wall cX6_wall 4 (some .int) (4) [.ref a0, .int v1, .int v2, .int v3] L (some (.int z.1)) (z.2) := by
  obtain ⟨r, hr⟩ : ∃ r : Option Value, r = some (.int z.1) := ⟨_, rfl⟩
  obtain ⟨L', hL'⟩ : ∃ L' : HL, L' = z.2 := ⟨_, rfl⟩
  have k3 : r = some (.int z.1) ∧ L' = z.2 := ⟨hr, hL'⟩
  refine mt_eq hr hL' ?_
  refine Mt.of (plainFor_of_name (by decide)) (Nat.le_of_ble_eq_true rfl) ?_
  refine sx_sub (lv' := [(0, .ref a0), (1, .int v1), (2, .int v2), (3, .int v3)]) [0, 1, 2, 3] rfl ?_
  unfold fX6_wall at h
  refine sx_aload_n (i := 0) (j := 0) dX6_wall_0 rfl rfl ?_
  refine sx_aload_n (i := 0) (j := 0) dX6_wall_1 rfl rfl ?_
  refine sx_get (k := 0) (v := .ref (a0 + 1)) dX6_wall_2 (X6_k h0) cf_6 (Or.inl wd_340) (by decide : 0 < 13) (congrArg Value.ref (X6_r0 h0)) ?_
  refine sx_iload_n (i := 1) (j := 1) dX6_wall_5 rfl rfl ?_
  refine sx_iload_n (i := 2) (j := 2) dX6_wall_6 rfl rfl ?_
  refine sx_iload_n (i := 3) (j := 3) dX6_wall_7 rfl rfl ?_
  obtain ⟨z1, ez1, h⟩ := bd_e h
  refine sx_callV (avs := [.int v1, .int v2, .int v3]) (rest := [.ref a0]) (st1 := [.int z1.1, .ref a0]) dX6_wall_8 (mX4_setWall (X6_o0 h0) ez1) ciX4_setWall (Or.inr ⟨_, nw_432⟩) (X4_k (X6_o0 h0)) rfl rfl rfl rfl (rm_m rfl) rfl (Nat.le_of_ble_eq_true rfl) rfl ?_
  refine sx_bipush (v := (-2 : Int32)) dX6_wall_11 (by decide) ?_
  obtain ⟨z2, ez2, h⟩ := bd_e h
  refine sx_callV (avs := [.int z1.1, .int (-2 : Int32)]) (rest := []) (st1 := [.int z2.1]) dX6_wall_13 (mX6_told h0 ez2) ciX6_told (Or.inl wd_400) (X6_k h0) rfl rfl rfl rfl (rm_m rfl) rfl (Nat.le_of_ble_eq_true rfl) rfl ?_
  obtain rfl := Option.some.inj h
  exact sx_iret dX6_wall_16 rfl rfl k3.1 k3.2
set_option maxRecDepth 100000 in
set_option maxHeartbeats 4000000 in
theorem mX6_one {l : Launch} {E : Ev} {L : HL} {a0 : Nat} {v1 : Int32} {v2 : Int32} {z : Int32 × HL} (h0 : isX6 E a0) (h : fX6_one a0 v1 v2 L = some z) : Mt l E yX6_one cX6_one 3 (some .int) (3) [.ref a0, .int v1, .int v2] L (some (.int z.1)) (z.2) := by
  obtain ⟨r, hr⟩ : ∃ r : Option Value, r = some (.int z.1) := ⟨_, rfl⟩
  obtain ⟨L', hL'⟩ : ∃ L' : HL, L' = z.2 := ⟨_, rfl⟩
  have k3 : r = some (.int z.1) ∧ L' = z.2 := ⟨hr, hL'⟩
  refine mt_eq hr hL' ?_
  refine Mt.of (plainFor_of_name (by decide)) (Nat.le_of_ble_eq_true rfl) ?_
  refine sx_sub (lv' := [(0, .ref a0), (1, .int v1), (2, .int v2)]) [0, 1, 2] rfl ?_
  unfold fX6_one at h
  refine sx_aload_n (i := 0) (j := 0) dX6_one_0 rfl rfl ?_
  refine sx_aload_n (i := 0) (j := 0) dX6_one_1 rfl rfl ?_
  refine sx_get (k := 0) (v := .ref (a0 + 1)) dX6_one_2 (X6_k h0) cf_6 (Or.inl wd_340) (by decide : 0 < 13) (congrArg Value.ref (X6_r0 h0)) ?_
  refine sx_iload_n (i := 1) (j := 1) dX6_one_5 rfl rfl ?_
  refine sx_iload_n (i := 2) (j := 2) dX6_one_6 rfl rfl ?_
  obtain ⟨z1, ez1, h⟩ := bd_e h
  refine sx_callV (avs := [.int v1, .int v2]) (rest := [.ref a0]) (st1 := [.int z1.1, .ref a0]) dX6_one_7 (mX4_addOne (X6_o0 h0) ez1) ciX4_addOne (Or.inr ⟨_, nw_448⟩) (X4_k (X6_o0 h0)) rfl rfl rfl rfl (rm_m rfl) rfl (Nat.le_of_ble_eq_true rfl) rfl ?_
  refine sx_bipush (v := (-2 : Int32)) dX6_one_10 (by decide) ?_
  obtain ⟨z2, ez2, h⟩ := bd_e h
  refine sx_callV (avs := [.int z1.1, .int (-2 : Int32)]) (rest := []) (st1 := [.int z2.1]) dX6_one_12 (mX6_told h0 ez2) ciX6_told (Or.inl wd_400) (X6_k h0) rfl rfl rfl rfl (rm_m rfl) rfl (Nat.le_of_ble_eq_true rfl) rfl ?_
  obtain rfl := Option.some.inj h
  exact sx_iret dX6_one_15 rfl rfl k3.1 k3.2
set_option maxRecDepth 100000 in
set_option maxHeartbeats 4000000 in
theorem mX6_feud {l : Launch} {E : Ev} {L : HL} {a0 : Nat} {v1 : Int32} {v2 : Int32} {v3 : Int32} {z : Int32 × HL} (h0 : isX6 E a0) (h : fX6_feud a0 v1 v2 v3 L = some z) : Mt l E yX6_feud cX6_feud 4 (some .int) (3) [.ref a0, .int v1, .int v2, .int v3] L (some (.int z.1)) (z.2) := by
  obtain ⟨r, hr⟩ : ∃ r : Option Value, r = some (.int z.1) := ⟨_, rfl⟩
  obtain ⟨L', hL'⟩ : ∃ L' : HL, L' = z.2 := ⟨_, rfl⟩
  have k3 : r = some (.int z.1) ∧ L' = z.2 := ⟨hr, hL'⟩
  refine mt_eq hr hL' ?_
  refine Mt.of (plainFor_of_name (by decide)) (Nat.le_of_ble_eq_true rfl) ?_
  refine sx_sub (lv' := [(0, .ref a0), (1, .int v1), (2, .int v2), (3, .int v3)]) [0, 1, 2, 3] rfl ?_
  unfold fX6_feud at h
  refine sx_aload_n (i := 0) (j := 0) dX6_feud_0 rfl rfl ?_
  refine sx_aload_n (i := 0) (j := 0) dX6_feud_1 rfl rfl ?_
  refine sx_get (k := 0) (v := .ref (a0 + 1)) dX6_feud_2 (X6_k h0) cf_6 (Or.inl wd_340) (by decide : 0 < 13) (congrArg Value.ref (X6_r0 h0)) ?_
  refine sx_iload_n (i := 1) (j := 1) dX6_feud_5 rfl rfl ?_
  refine sx_iload_n (i := 2) (j := 2) dX6_feud_6 rfl rfl ?_
  refine sx_iload_n (i := 3) (j := 3) dX6_feud_7 rfl rfl ?_
  obtain ⟨z1, ez1, h⟩ := bd_e h
  refine sx_callV (avs := [.int v1, .int v2, .int v3]) (rest := [.ref a0]) (st1 := [.int z1.1, .ref a0]) dX6_feud_8 (mX4_setFeud (X6_o0 h0) ez1) ciX4_setFeud (Or.inr ⟨_, nw_460⟩) (X4_k (X6_o0 h0)) rfl rfl rfl rfl (rm_m rfl) rfl (Nat.le_of_ble_eq_true rfl) rfl ?_
  refine sx_bipush (v := (-2 : Int32)) dX6_feud_11 (by decide) ?_
  obtain ⟨z2, ez2, h⟩ := bd_e h
  refine sx_callV (avs := [.int z1.1, .int (-2 : Int32)]) (rest := []) (st1 := [.int z2.1]) dX6_feud_13 (mX6_told h0 ez2) ciX6_told (Or.inl wd_400) (X6_k h0) rfl rfl rfl rfl (rm_m rfl) rfl (Nat.le_of_ble_eq_true rfl) rfl ?_
  obtain rfl := Option.some.inj h
  exact sx_iret dX6_feud_16 rfl rfl k3.1 k3.2
set_option maxRecDepth 100000 in
set_option maxHeartbeats 4000000 in
theorem mX6_mark {l : Launch} {E : Ev} {L : HL} {a0 : Nat} {v1 : Int32} {v2 : Int32} {z : Int32 × HL} (h0 : isX6 E a0) (h : fX6_mark a0 v1 v2 L = some z) : Mt l E yX6_mark cX6_mark 3 (some .int) (3) [.ref a0, .int v1, .int v2] L (some (.int z.1)) (z.2) := by
  obtain ⟨r, hr⟩ : ∃ r : Option Value, r = some (.int z.1) := ⟨_, rfl⟩
  obtain ⟨L', hL'⟩ : ∃ L' : HL, L' = z.2 := ⟨_, rfl⟩
  have k3 : r = some (.int z.1) ∧ L' = z.2 := ⟨hr, hL'⟩
  refine mt_eq hr hL' ?_
  refine Mt.of (plainFor_of_name (by decide)) (Nat.le_of_ble_eq_true rfl) ?_
  refine sx_sub (lv' := [(0, .ref a0), (1, .int v1), (2, .int v2)]) [0, 1, 2] rfl ?_
  unfold fX6_mark at h
  refine sx_aload_n (i := 0) (j := 0) dX6_mark_0 rfl rfl ?_
  refine sx_aload_n (i := 0) (j := 0) dX6_mark_1 rfl rfl ?_
  refine sx_get (k := 0) (v := .ref (a0 + 1)) dX6_mark_2 (X6_k h0) cf_6 (Or.inl wd_340) (by decide : 0 < 13) (congrArg Value.ref (X6_r0 h0)) ?_
  refine sx_iload_n (i := 1) (j := 1) dX6_mark_5 rfl rfl ?_
  refine sx_iload_n (i := 2) (j := 2) dX6_mark_6 rfl rfl ?_
  obtain ⟨z1, ez1, h⟩ := bd_e h
  refine sx_callV (avs := [.int v1, .int v2]) (rest := [.ref a0]) (st1 := [.int z1.1, .ref a0]) dX6_mark_7 (mX4_setMarks (X6_o0 h0) ez1) ciX4_setMarks (Or.inr ⟨_, nw_472⟩) (X4_k (X6_o0 h0)) rfl rfl rfl rfl (rm_m rfl) rfl (Nat.le_of_ble_eq_true rfl) rfl ?_
  refine sx_bipush (v := (-2 : Int32)) dX6_mark_10 (by decide) ?_
  obtain ⟨z2, ez2, h⟩ := bd_e h
  refine sx_callV (avs := [.int z1.1, .int (-2 : Int32)]) (rest := []) (st1 := [.int z2.1]) dX6_mark_12 (mX6_told h0 ez2) ciX6_told (Or.inl wd_400) (X6_k h0) rfl rfl rfl rfl (rm_m rfl) rfl (Nat.le_of_ble_eq_true rfl) rfl ?_
  obtain rfl := Option.some.inj h
  exact sx_iret dX6_mark_15 rfl rfl k3.1 k3.2
set_option maxRecDepth 100000 in
set_option maxHeartbeats 4000000 in
theorem tX6_type_j10 {l : Launch} {E : Ev} {r : Option Value} {L' L : HL} {a0 : Nat} {z : Int32 × HL} (h0 : isX6 E a0) (h : fX6_type_j10 a0 L = some z) (k3 : r = some (.int z.1) ∧ L' = z.2) : Sx l E yX6_type cX6_type 2 (some .int) (2) r L' 10 [(0, .ref a0)] [] L := by
  unfold fX6_type_j10 at h
  refine sx_aload_n (i := 0) (j := 0) dX6_type_10 rfl rfl ?_
  refine sx_bipush (v := (-2 : Int32)) dX6_type_11 (by decide) ?_
  refine sx_bipush (v := (-2 : Int32)) dX6_type_13 (by decide) ?_
  obtain ⟨z2, ez2, h⟩ := bd_e h
  refine sx_callV (avs := [.int (-2 : Int32), .int (-2 : Int32)]) (rest := []) (st1 := [.int z2.1]) dX6_type_15 (mX6_refused h0 ez2) ciX6_refused (Or.inl wd_404) (X6_k h0) rfl rfl rfl rfl (rm_m rfl) rfl (Nat.le_of_ble_eq_true rfl) rfl ?_
  obtain rfl := Option.some.inj h
  exact sx_iret dX6_type_18 rfl rfl k3.1 k3.2
set_option maxRecDepth 100000 in
set_option maxHeartbeats 4000000 in
theorem mX6_type {l : Launch} {E : Ev} {L : HL} {a0 : Nat} {v1 : Int32} {z : Int32 × HL} (h0 : isX6 E a0) (h : fX6_type a0 v1 L = some z) : Mt l E yX6_type cX6_type 2 (some .int) (2) [.ref a0, .int v1] L (some (.int z.1)) (z.2) := by
  obtain ⟨r, hr⟩ : ∃ r : Option Value, r = some (.int z.1) := ⟨_, rfl⟩
  obtain ⟨L', hL'⟩ : ∃ L' : HL, L' = z.2 := ⟨_, rfl⟩
  have k3 : r = some (.int z.1) ∧ L' = z.2 := ⟨hr, hL'⟩
  refine mt_eq hr hL' ?_
  refine Mt.of (plainFor_of_name (by decide)) (Nat.le_of_ble_eq_true rfl) ?_
  refine sx_sub (lv' := [(0, .ref a0), (1, .int v1)]) [0, 1] rfl ?_
  unfold fX6_type at h
  refine sx_iload_n (i := 1) (j := 1) dX6_type_0 rfl rfl ?_
  refine sx_if_lt (tgt := 10) dX6_type_1 rfl (fun c1 => ?_) (fun c1 => ?_)
  · have h := if_e c1 h
    exact sx_sub [0] rfl (tX6_type_j10 h0 h k3)
  · have h := if_n c1 h
    refine sx_iload_n (i := 1) (j := 1) dX6_type_4 rfl rfl ?_
    refine sx_bipush (v := (127 : Int32)) dX6_type_5 (by decide) ?_
    refine sx_icmp_le (tgt := 19) dX6_type_7 rfl (fun c3 => ?_) (fun c3 => ?_)
    · have h := if_e c3 h
      refine sx_aload_n (i := 0) (j := 0) dX6_type_19 rfl rfl ?_
      refine sx_get (k := 5) (v := .ref (a0 + 122)) dX6_type_20 (X6_k h0) cf_6 (Or.inl wd_345) (by decide : 5 < 13) (congrArg Value.ref (X6_r5 h0)) ?_
      refine sx_get (k := 1) (v := .int (L.1 (a0 + 122) 1)) dX6_type_23 (X5_k (X6_o5 h0)) cf_5 (Or.inr ⟨_, nw_268⟩) (by decide : 1 < 8) rfl ?_
      refine sx_sipush (v := (150 : Int32)) dX6_type_26 (by decide) ?_
      refine sx_icmp_lt (tgt := 41) dX6_type_29 rfl (fun c4 => ?_) (fun c4 => ?_)
      · have h := if_e c4 h
        refine sx_aload_n (i := 0) (j := 0) dX6_type_41 rfl rfl ?_
        refine sx_get (k := 5) (v := .ref (a0 + 122)) dX6_type_42 (X6_k h0) cf_6 (Or.inl wd_345) (by decide : 5 < 13) (congrArg Value.ref (X6_r5 h0)) ?_
        refine sx_iload_n (i := 1) (j := 1) dX6_type_45 rfl rfl ?_
        obtain ⟨z5, ez5, h⟩ := bd_e h
        refine sx_callV (avs := [.int v1]) (rest := []) (st1 := [.int z5.1]) dX6_type_46 (mX5_append (X6_o5 h0) ez5) ciX5_append (Or.inr ⟨_, nw_480⟩) (X5_k (X6_o5 h0)) rfl rfl rfl rfl (rm_m rfl) rfl (Nat.le_of_ble_eq_true rfl) rfl ?_
        obtain rfl := Option.some.inj h
        exact sx_iret dX6_type_49 rfl rfl k3.1 k3.2
      · have h := if_n c4 h
        refine sx_aload_n (i := 0) (j := 0) dX6_type_32 rfl rfl ?_
        refine sx_bipush (v := (-4 : Int32)) dX6_type_33 (by decide) ?_
        refine sx_bipush (v := (-4 : Int32)) dX6_type_35 (by decide) ?_
        obtain ⟨z6, ez6, h⟩ := bd_e h
        refine sx_callV (avs := [.int (-4 : Int32), .int (-4 : Int32)]) (rest := []) (st1 := [.int z6.1]) dX6_type_37 (mX6_refused h0 ez6) ciX6_refused (Or.inl wd_404) (X6_k h0) rfl rfl rfl rfl (rm_m rfl) rfl (Nat.le_of_ble_eq_true rfl) rfl ?_
        obtain rfl := Option.some.inj h
        exact sx_iret dX6_type_40 rfl rfl k3.1 k3.2
    · have h := if_n c3 h
      exact sx_sub [0] rfl (tX6_type_j10 h0 h k3)
set_option maxRecDepth 100000 in
set_option maxHeartbeats 4000000 in
theorem mX6_clear {l : Launch} {E : Ev} {L : HL} {a0 : Nat} {z : Int32 × HL} (h0 : isX6 E a0) (h : fX6_clear a0 L = some z) : Mt l E yX6_clear cX6_clear 2 (some .int) (1) [.ref a0] L (some (.int z.1)) (z.2) := by
  obtain ⟨r, hr⟩ : ∃ r : Option Value, r = some (.int z.1) := ⟨_, rfl⟩
  obtain ⟨L', hL'⟩ : ∃ L' : HL, L' = z.2 := ⟨_, rfl⟩
  have k3 : r = some (.int z.1) ∧ L' = z.2 := ⟨hr, hL'⟩
  refine mt_eq hr hL' ?_
  refine Mt.of (plainFor_of_name (by decide)) (Nat.le_of_ble_eq_true rfl) ?_
  refine sx_sub (lv' := [(0, .ref a0)]) [0] rfl ?_
  unfold fX6_clear at h
  refine sx_aload_n (i := 0) (j := 0) dX6_clear_0 rfl rfl ?_
  refine sx_get (k := 5) (v := .ref (a0 + 122)) dX6_clear_1 (X6_k h0) cf_6 (Or.inl wd_345) (by decide : 5 < 13) (congrArg Value.ref (X6_r5 h0)) ?_
  refine sx_get (k := 1) (v := .int (L.1 (a0 + 122) 1)) dX6_clear_4 (X5_k (X6_o5 h0)) cf_5 (Or.inr ⟨_, nw_268⟩) (by decide : 1 < 8) rfl ?_
  refine sx_topi (fun w1 ew1 => ?_)
  have h := lt_e ew1 h
  refine sx_istore_n (i := 1) (lv' := [(0, .ref a0), (1, .int w1)]) dX6_clear_7 rfl (by decide) rfl ?_
  refine sx_aload_n (i := 0) (j := 0) dX6_clear_8 rfl rfl ?_
  refine sx_get (k := 5) (v := .ref (a0 + 122)) dX6_clear_9 (X6_k h0) cf_6 (Or.inl wd_345) (by decide : 5 < 13) (congrArg Value.ref (X6_r5 h0)) ?_
  refine sx_iconst (v := (0 : Int32)) dX6_clear_12 (by decide) ?_
  refine sx_putI (k := 1) dX6_clear_13 (X5_k (X6_o5 h0)) cf_5 (Or.inr ⟨_, nw_268⟩) (by decide : 1 < 8) rfl rfl rfl rfl (fun L2 eL2 => ?_)
  have h := lt_e eL2 h
  refine sx_iload_n (i := 1) (j := 1) dX6_clear_16 rfl rfl ?_
  obtain rfl := Option.some.inj h
  exact sx_iret dX6_clear_17 rfl rfl k3.1 k3.2
set_option maxRecDepth 100000 in
set_option maxHeartbeats 4000000 in
theorem mX6_fall {l : Launch} {E : Ev} {L : HL} {a0 : Nat} {v1 : Int32} {z : Int32 × HL} (h0 : isX6 E a0) (h : fX6_fall a0 v1 L = some z) : Mt l E yX6_fall cX6_fall 2 (some .int) (5) [.ref a0, .int v1] L (some (.int z.1)) (z.2) := by
  obtain ⟨r, hr⟩ : ∃ r : Option Value, r = some (.int z.1) := ⟨_, rfl⟩
  obtain ⟨L', hL'⟩ : ∃ L' : HL, L' = z.2 := ⟨_, rfl⟩
  have k3 : r = some (.int z.1) ∧ L' = z.2 := ⟨hr, hL'⟩
  refine mt_eq hr hL' ?_
  refine Mt.of (plainFor_of_name (by decide)) (Nat.le_of_ble_eq_true rfl) ?_
  refine sx_sub (lv' := [(0, .ref a0), (1, .int v1)]) [0, 1] rfl ?_
  unfold fX6_fall at h
  refine sx_aload_n (i := 0) (j := 0) dX6_fall_0 rfl rfl ?_
  refine sx_get (k := 0) (v := .ref (a0 + 1)) dX6_fall_1 (X6_k h0) cf_6 (Or.inl wd_340) (by decide : 0 < 13) (congrArg Value.ref (X6_r0 h0)) ?_
  refine sx_iload_n (i := 1) (j := 1) dX6_fall_4 rfl rfl ?_
  obtain ⟨z1, ez1, h⟩ := bd_e h
  refine sx_callV (avs := [.int v1]) (rest := []) (st1 := [.int z1]) dX6_fall_5 (mX4_has (X6_o0 h0) ez1) ciX4_has (Or.inr ⟨_, nw_616⟩) (X4_k (X6_o0 h0)) rfl rfl rfl rfl (rm_m rfl) rfl (Nat.le_of_ble_eq_true rfl) rfl ?_
  refine sx_if_ne (tgt := 20) dX6_fall_8 rfl (fun c2 => ?_) (fun c2 => ?_)
  · have h := if_e c2 h
    refine sx_aload_n (i := 0) (j := 0) dX6_fall_11 rfl rfl ?_
    refine sx_bipush (v := (-2 : Int32)) dX6_fall_12 (by decide) ?_
    refine sx_bipush (v := (-10 : Int32)) dX6_fall_14 (by decide) ?_
    obtain ⟨z3, ez3, h⟩ := bd_e h
    refine sx_callV (avs := [.int (-2 : Int32), .int (-10 : Int32)]) (rest := []) (st1 := [.int z3.1]) dX6_fall_16 (mX6_refused h0 ez3) ciX6_refused (Or.inl wd_404) (X6_k h0) rfl rfl rfl rfl (rm_m rfl) rfl (Nat.le_of_ble_eq_true rfl) rfl ?_
    obtain rfl := Option.some.inj h
    exact sx_iret dX6_fall_19 rfl rfl k3.1 k3.2
  · have h := if_n c2 h
    refine sx_aload_n (i := 0) (j := 0) dX6_fall_20 rfl rfl ?_
    refine sx_get (k := 0) (v := .ref (a0 + 1)) dX6_fall_21 (X6_k h0) cf_6 (Or.inl wd_340) (by decide : 0 < 13) (congrArg Value.ref (X6_r0 h0)) ?_
    refine sx_iload_n (i := 1) (j := 1) dX6_fall_24 rfl rfl ?_
    obtain ⟨z4, ez4, h⟩ := bd_e h
    refine sx_callV (avs := [.int v1]) (rest := []) (st1 := [.int z4]) dX6_fall_25 (mX4_stands (X6_o0 h0) ez4) ciX4_stands (Or.inr ⟨_, nw_617⟩) (X4_k (X6_o0 h0)) rfl rfl rfl rfl (rm_m rfl) rfl (Nat.le_of_ble_eq_true rfl) rfl ?_
    refine sx_if_ne (tgt := 40) dX6_fall_28 rfl (fun c5 => ?_) (fun c5 => ?_)
    · have h := if_e c5 h
      refine sx_aload_n (i := 0) (j := 0) dX6_fall_31 rfl rfl ?_
      refine sx_bipush (v := (-3 : Int32)) dX6_fall_32 (by decide) ?_
      refine sx_bipush (v := (-20 : Int32)) dX6_fall_34 (by decide) ?_
      obtain ⟨z6, ez6, h⟩ := bd_e h
      refine sx_callV (avs := [.int (-3 : Int32), .int (-20 : Int32)]) (rest := []) (st1 := [.int z6.1]) dX6_fall_36 (mX6_refused h0 ez6) ciX6_refused (Or.inl wd_404) (X6_k h0) rfl rfl rfl rfl (rm_m rfl) rfl (Nat.le_of_ble_eq_true rfl) rfl ?_
      obtain rfl := Option.some.inj h
      exact sx_iret dX6_fall_39 rfl rfl k3.1 k3.2
    · have h := if_n c5 h
      refine sx_aload_n (i := 0) (j := 0) dX6_fall_40 rfl rfl ?_
      refine sx_get (k := 2) (v := .ref (a0 + 29)) dX6_fall_41 (X6_k h0) cf_6 (Or.inl wd_342) (by decide : 2 < 13) (congrArg Value.ref (X6_r2 h0)) ?_
      refine sx_aload_n (i := 0) (j := 0) dX6_fall_44 rfl rfl ?_
      refine sx_get (k := 0) (v := .ref (a0 + 1)) dX6_fall_45 (X6_k h0) cf_6 (Or.inl wd_340) (by decide : 0 < 13) (congrArg Value.ref (X6_r0 h0)) ?_
      obtain ⟨z7, ez7, h⟩ := bd_e h
      refine sx_callV (avs := [.ref (a0 + 1)]) (rest := []) (st1 := []) dX6_fall_48 (mX3_keep (X6_o2 h0) (X6_o0 h0) ez7) ciX3_keep (Or.inr ⟨_, nw_618⟩) (X3_k (X6_o2 h0)) rfl rfl rfl rfl (rm_m rfl) rfl (Nat.le_of_ble_eq_true rfl) rfl ?_
      refine sx_aload_n (i := 0) (j := 0) dX6_fall_51 rfl rfl ?_
      refine sx_get (k := 0) (v := .ref (a0 + 1)) dX6_fall_52 (X6_k h0) cf_6 (Or.inl wd_340) (by decide : 0 < 13) (congrArg Value.ref (X6_r0 h0)) ?_
      refine sx_iload_n (i := 1) (j := 1) dX6_fall_55 rfl rfl ?_
      obtain ⟨z8, ez8, h⟩ := bd_e h
      refine sx_callV (avs := [.int v1]) (rest := []) (st1 := [.int z8.1]) dX6_fall_56 (mX4_letFall (X6_o0 h0) ez8) ciX4_letFall (Or.inr ⟨_, nw_627⟩) (X4_k (X6_o0 h0)) rfl rfl rfl rfl (rm_m rfl) rfl (Nat.le_of_ble_eq_true rfl) rfl ?_
      obtain rfl := Option.some.inj h
      exact sx_iret dX6_fall_59 rfl rfl k3.1 k3.2
set_option maxRecDepth 100000 in
set_option maxHeartbeats 4000000 in
theorem tX6_year_j11 {l : Launch} {E : Ev} {r : Option Value} {L' L : HL} {a0 : Nat} {z : Int32 × HL} (h0 : isX6 E a0) (h : fX6_year_j11 a0 L = some z) (k3 : r = some (.int z.1) ∧ L' = z.2) : Sx l E yX6_year cX6_year 3 (some .int) (6) r L' 11 [(0, .ref a0)] [] L := by
  unfold fX6_year_j11 at h
  refine sx_aload_n (i := 0) (j := 0) dX6_year_11 rfl rfl ?_
  refine sx_bipush (v := (-2 : Int32)) dX6_year_12 (by decide) ?_
  refine sx_bipush (v := (-2 : Int32)) dX6_year_14 (by decide) ?_
  obtain ⟨z2, ez2, h⟩ := bd_e h
  refine sx_callV (avs := [.int (-2 : Int32), .int (-2 : Int32)]) (rest := []) (st1 := [.int z2.1]) dX6_year_16 (mX6_refused h0 ez2) ciX6_refused (Or.inl wd_404) (X6_k h0) rfl rfl rfl rfl (rm_m rfl) rfl (Nat.le_of_ble_eq_true rfl) rfl ?_
  obtain rfl := Option.some.inj h
  exact sx_iret dX6_year_19 rfl rfl k3.1 k3.2
set_option maxRecDepth 100000 in
set_option maxHeartbeats 4000000 in
theorem tX6_year_b22 {l : Launch} {E : Ev} {r : Option Value} {L' L : HL} {a0 : Nat} {v1 : Int32} {v2 : Int32} {z : Tn (Int32 × HL) (Int32 × HL)} (h0 : isX6 E a0) (h : fX6_year_b22 a0 v1 v2 L = some z) (k1 : ∀ s, z = .inl s → Sx l E yX6_year cX6_year 3 (some .int) (6) r L' 22 [(0, .ref a0), (1, .int v1), (2, .int s.1)] [] s.2) (k2 : ∀ s, z = .inr (.inl s) → Sx l E yX6_year cX6_year 3 (some .int) (6) r L' 51 [(0, .ref a0)] [] s.2) (k3 : ∀ v, z = .inr (.inr v) → r = some (.int v.1) ∧ L' = v.2) : Sx l E yX6_year cX6_year 3 (some .int) (6) r L' 22 [(0, .ref a0), (1, .int v1), (2, .int v2)] [] L := by
  unfold fX6_year_b22 at h
  refine sx_iload_n (i := 2) (j := 2) dX6_year_22 rfl rfl ?_
  refine sx_iload_n (i := 1) (j := 1) dX6_year_23 rfl rfl ?_
  refine sx_icmp_ge (tgt := 51) dX6_year_24 rfl (fun c4 => ?_) (fun c4 => ?_)
  · have h := if_e c4 h
    obtain rfl := Option.some.inj h
    exact sx_sub [0] rfl (k2 _ rfl)
  · have h := if_n c4 h
    refine sx_aload_n (i := 0) (j := 0) dX6_year_27 rfl rfl ?_
    refine sx_get (k := 2) (v := .ref (a0 + 29)) dX6_year_28 (X6_k h0) cf_6 (Or.inl wd_342) (by decide : 2 < 13) (congrArg Value.ref (X6_r2 h0)) ?_
    refine sx_aload_n (i := 0) (j := 0) dX6_year_31 rfl rfl ?_
    refine sx_get (k := 0) (v := .ref (a0 + 1)) dX6_year_32 (X6_k h0) cf_6 (Or.inl wd_340) (by decide : 0 < 13) (congrArg Value.ref (X6_r0 h0)) ?_
    obtain ⟨z5, ez5, h⟩ := bd_e h
    refine sx_callV (avs := [.ref (a0 + 1)]) (rest := []) (st1 := []) dX6_year_35 (mX3_keep (X6_o2 h0) (X6_o0 h0) ez5) ciX3_keep (Or.inr ⟨_, nw_618⟩) (X3_k (X6_o2 h0)) rfl rfl rfl rfl (rm_m rfl) rfl (Nat.le_of_ble_eq_true rfl) rfl ?_
    refine sx_aload_n (i := 0) (j := 0) dX6_year_38 rfl rfl ?_
    refine sx_get (k := 0) (v := .ref (a0 + 1)) dX6_year_39 (X6_k h0) cf_6 (Or.inl wd_340) (by decide : 0 < 13) (congrArg Value.ref (X6_r0 h0)) ?_
    obtain ⟨z6, ez6, h⟩ := bd_e h
    refine sx_callV (avs := []) (rest := []) (st1 := []) dX6_year_42 (mX4_passYear (X6_o0 h0) ez6) ciX4_passYear (Or.inr ⟨_, nw_659⟩) (X4_k (X6_o0 h0)) rfl rfl rfl rfl (rm_m rfl) rfl (Nat.le_of_ble_eq_true rfl) rfl ?_
    obtain ⟨w7, ew7⟩ : ∃ w : Int32, w = v2 + (1 : Int32) := ⟨_, rfl⟩
    have h := lt_e ew7 h
    refine sx_iinc (j := 2) (v := w7) (lv' := [(0, .ref a0), (1, .int v1), (2, .int w7)]) dX6_year_45 rfl (ii_1 ew7) (by decide) rfl ?_
    refine sx_goto (tgt := 22) dX6_year_48 rfl ?_
    obtain rfl := Option.some.inj h
    exact sx_sub [0, 1, 2] rfl (k1 _ rfl)
set_option maxRecDepth 100000 in
set_option maxHeartbeats 4000000 in
theorem mX6_year {l : Launch} {E : Ev} {L : HL} {a0 : Nat} {v1 : Int32} {z : Int32 × HL} (h0 : isX6 E a0) (h : fX6_year a0 v1 L = some z) : Mt l E yX6_year cX6_year 3 (some .int) (6) [.ref a0, .int v1] L (some (.int z.1)) (z.2) := by
  obtain ⟨r, hr⟩ : ∃ r : Option Value, r = some (.int z.1) := ⟨_, rfl⟩
  obtain ⟨L', hL'⟩ : ∃ L' : HL, L' = z.2 := ⟨_, rfl⟩
  have k3 : r = some (.int z.1) ∧ L' = z.2 := ⟨hr, hL'⟩
  refine mt_eq hr hL' ?_
  refine Mt.of (plainFor_of_name (by decide)) (Nat.le_of_ble_eq_true rfl) ?_
  refine sx_sub (lv' := [(0, .ref a0), (1, .int v1)]) [0, 1] rfl ?_
  unfold fX6_year at h
  refine sx_iload_n (i := 1) (j := 1) dX6_year_0 rfl rfl ?_
  refine sx_iconst (v := (1 : Int32)) dX6_year_1 (by decide) ?_
  refine sx_icmp_lt (tgt := 11) dX6_year_2 rfl (fun c1 => ?_) (fun c1 => ?_)
  · have h := if_e c1 h
    exact sx_sub [0] rfl (tX6_year_j11 h0 h k3)
  · have h := if_n c1 h
    refine sx_iload_n (i := 1) (j := 1) dX6_year_5 rfl rfl ?_
    refine sx_bipush (v := (20 : Int32)) dX6_year_6 (by decide) ?_
    refine sx_icmp_le (tgt := 20) dX6_year_8 rfl (fun c3 => ?_) (fun c3 => ?_)
    · have h := if_e c3 h
      refine sx_iconst (v := (0 : Int32)) dX6_year_20 (by decide) ?_
      refine sx_istore_n (i := 2) (lv' := [(0, .ref a0), (1, .int v1), (2, .int (0 : Int32))]) dX6_year_21 rfl (by decide) rfl ?_
      obtain ⟨x10, hx, q1, q2⟩ := lx_e h
      refine sx_sub (lv' := [(0, .ref a0), (1, .int v1), (2, .int (0 : Int32))]) [0, 1, 2] rfl ?_
      refine lp_go (fun s8 => Sx l E yX6_year cX6_year 3 (some .int) (6) r L' 22 [(0, .ref a0), (1, .int v1), (2, .int s8.1)] [] s8.2) x10 (fun s8 z2 hz c1 c2 => ?_) FU _ hx
      refine tX6_year_b22 h0 hz (fun s2 e => c1 s2 e) (fun s8 e => ?_) (fun v e => ?_)
      · have h := q1 _ (c2 _ e).symm
        refine sx_aload_n (i := 0) (j := 0) dX6_year_51 rfl rfl ?_
        refine sx_get (k := 0) (v := .ref (a0 + 1)) dX6_year_52 (X6_k h0) cf_6 (Or.inl wd_340) (by decide : 0 < 13) (congrArg Value.ref (X6_r0 h0)) ?_
        refine sx_get (k := 1) (v := .int (s8.2.1 (a0 + 1) 1)) dX6_year_55 (X4_k (X6_o0 h0)) cf_4 (Or.inr ⟨_, nw_139⟩) (by decide : 1 < 17) rfl ?_
        obtain ⟨z9, ez9, h⟩ := bd_e h
        refine sx_callS (avs := [.int (s8.2.1 (a0 + 1) 1)]) (rest := []) (st1 := [.int z9]) dX6_year_58 (mJ6_bitCount_0f7a4 ez9) ctJ6_bitCount_0f7a4 (Or.inl wd_672) rfl rfl (rm_m rfl) rfl (Nat.le_of_ble_eq_true rfl) rfl ?_
        obtain rfl := Option.some.inj h
        exact sx_iret dX6_year_61 rfl rfl k3.1 k3.2
      · have e2 := Option.some.inj (q2 _ (c2 _ e).symm)
        subst e2
        exact k3
    · have h := if_n c3 h
      exact sx_sub [0] rfl (tX6_year_j11 h0 h k3)
set_option maxRecDepth 100000 in
set_option maxHeartbeats 4000000 in
theorem tX6_move_j27 {l : Launch} {E : Ev} {r : Option Value} {L' L : HL} {a0 : Nat} {z : Int32 × HL} (h0 : isX6 E a0) (h : fX6_move_j27 a0 L = some z) (k3 : r = some (.int z.1) ∧ L' = z.2) : Sx l E yX6_move cX6_move 4 (some .int) (4) r L' 27 [(0, .ref a0)] [] L := by
  unfold fX6_move_j27 at h
  refine sx_aload_n (i := 0) (j := 0) dX6_move_27 rfl rfl ?_
  refine sx_bipush (v := (-2 : Int32)) dX6_move_28 (by decide) ?_
  refine sx_bipush (v := (-10 : Int32)) dX6_move_30 (by decide) ?_
  obtain ⟨z3, ez3, h⟩ := bd_e h
  refine sx_callV (avs := [.int (-2 : Int32), .int (-10 : Int32)]) (rest := []) (st1 := [.int z3.1]) dX6_move_32 (mX6_refused h0 ez3) ciX6_refused (Or.inl wd_404) (X6_k h0) rfl rfl rfl rfl (rm_m rfl) rfl (Nat.le_of_ble_eq_true rfl) rfl ?_
  obtain rfl := Option.some.inj h
  exact sx_iret dX6_move_35 rfl rfl k3.1 k3.2
set_option maxRecDepth 100000 in
set_option maxHeartbeats 4000000 in
theorem tX6_move_j65 {l : Launch} {E : Ev} {r : Option Value} {L' L : HL} {a0 : Nat} {z : Int32 × HL} (h0 : isX6 E a0) (h : fX6_move_j65 a0 L = some z) (k3 : r = some (.int z.1) ∧ L' = z.2) : Sx l E yX6_move cX6_move 4 (some .int) (4) r L' 65 [(0, .ref a0)] [] L := by
  unfold fX6_move_j65 at h
  refine sx_aload_n (i := 0) (j := 0) dX6_move_65 rfl rfl ?_
  refine sx_bipush (v := (-3 : Int32)) dX6_move_66 (by decide) ?_
  refine sx_bipush (v := (-20 : Int32)) dX6_move_68 (by decide) ?_
  obtain ⟨z8, ez8, h⟩ := bd_e h
  refine sx_callV (avs := [.int (-3 : Int32), .int (-20 : Int32)]) (rest := []) (st1 := [.int z8.1]) dX6_move_70 (mX6_refused h0 ez8) ciX6_refused (Or.inl wd_404) (X6_k h0) rfl rfl rfl rfl (rm_m rfl) rfl (Nat.le_of_ble_eq_true rfl) rfl ?_
  obtain rfl := Option.some.inj h
  exact sx_iret dX6_move_73 rfl rfl k3.1 k3.2
set_option maxRecDepth 100000 in
set_option maxHeartbeats 4000000 in
theorem tX6_move_j52 {l : Launch} {E : Ev} {r : Option Value} {L' L : HL} {a0 : Nat} {v1 : Int32} {v2 : Int32} {z : Int32 × HL} (h0 : isX6 E a0) (h : fX6_move_j52 a0 v1 v2 L = some z) (k3 : r = some (.int z.1) ∧ L' = z.2) : Sx l E yX6_move cX6_move 4 (some .int) (4) r L' 52 [(0, .ref a0), (1, .int v1), (2, .int v2)] [] L := by
  unfold fX6_move_j52 at h
  refine sx_aload_n (i := 0) (j := 0) dX6_move_52 rfl rfl ?_
  refine sx_get (k := 0) (v := .ref (a0 + 1)) dX6_move_53 (X6_k h0) cf_6 (Or.inl wd_340) (by decide : 0 < 13) (congrArg Value.ref (X6_r0 h0)) ?_
  refine sx_get (k := 12) (v := .ref ((a0 + 1) + 9)) dX6_move_56 (X4_k (X6_o0 h0)) cf_4 (Or.inr ⟨_, nw_169⟩) (by decide : 12 < 17) (congrArg Value.ref (X4_r12 (X6_o0 h0))) ?_
  refine sx_iload_n (i := 1) (j := 1) dX6_move_59 rfl rfl ?_
  obtain ⟨c6, h⟩ := gd_e h
  refine sx_iald dX6_move_60 (X4_a12 (X6_o0 h0)) c6 ?_
  refine sx_iload_n (i := 2) (j := 2) dX6_move_61 rfl rfl ?_
  refine sx_icmp_ne (tgt := 74) dX6_move_62 rfl (fun c7 => ?_) (fun c7 => ?_)
  · have h := if_e c7 h
    exact sx_sub [0] rfl (tX6_move_j65 h0 h k3)
  · have h := if_n c7 h
    refine sx_aload_n (i := 0) (j := 0) dX6_move_74 rfl rfl ?_
    refine sx_get (k := 0) (v := .ref (a0 + 1)) dX6_move_75 (X6_k h0) cf_6 (Or.inl wd_340) (by decide : 0 < 13) (congrArg Value.ref (X6_r0 h0)) ?_
    refine sx_get (k := 12) (v := .ref ((a0 + 1) + 9)) dX6_move_78 (X4_k (X6_o0 h0)) cf_4 (Or.inr ⟨_, nw_169⟩) (by decide : 12 < 17) (congrArg Value.ref (X4_r12 (X6_o0 h0))) ?_
    refine sx_iload_n (i := 1) (j := 1) dX6_move_81 rfl rfl ?_
    obtain ⟨c9, h⟩ := gd_e h
    refine sx_iald dX6_move_82 (X4_a12 (X6_o0 h0)) c9 ?_
    refine sx_topi (fun w10 ew10 => ?_)
    have h := lt_e ew10 h
    refine sx_istore_n (i := 3) (lv' := [(0, .ref a0), (1, .int v1), (2, .int v2), (3, .int w10)]) dX6_move_83 rfl (by decide) rfl ?_
    refine sx_aload_n (i := 0) (j := 0) dX6_move_84 rfl rfl ?_
    refine sx_get (k := 2) (v := .ref (a0 + 29)) dX6_move_85 (X6_k h0) cf_6 (Or.inl wd_342) (by decide : 2 < 13) (congrArg Value.ref (X6_r2 h0)) ?_
    refine sx_aload_n (i := 0) (j := 0) dX6_move_88 rfl rfl ?_
    refine sx_get (k := 0) (v := .ref (a0 + 1)) dX6_move_89 (X6_k h0) cf_6 (Or.inl wd_340) (by decide : 0 < 13) (congrArg Value.ref (X6_r0 h0)) ?_
    obtain ⟨z11, ez11, h⟩ := bd_e h
    refine sx_callV (avs := [.ref (a0 + 1)]) (rest := []) (st1 := []) dX6_move_92 (mX3_keep (X6_o2 h0) (X6_o0 h0) ez11) ciX3_keep (Or.inr ⟨_, nw_618⟩) (X3_k (X6_o2 h0)) rfl rfl rfl rfl (rm_m rfl) rfl (Nat.le_of_ble_eq_true rfl) rfl ?_
    refine sx_aload_n (i := 0) (j := 0) dX6_move_95 rfl rfl ?_
    refine sx_get (k := 0) (v := .ref (a0 + 1)) dX6_move_96 (X6_k h0) cf_6 (Or.inl wd_340) (by decide : 0 < 13) (congrArg Value.ref (X6_r0 h0)) ?_
    refine sx_get (k := 12) (v := .ref ((a0 + 1) + 9)) dX6_move_99 (X4_k (X6_o0 h0)) cf_4 (Or.inr ⟨_, nw_169⟩) (by decide : 12 < 17) (congrArg Value.ref (X4_r12 (X6_o0 h0))) ?_
    refine sx_iload_n (i := 1) (j := 1) dX6_move_102 rfl rfl ?_
    refine sx_iload_n (i := 2) (j := 2) dX6_move_103 rfl rfl ?_
    obtain ⟨c12, h⟩ := gd_e h
    refine sx_iast dX6_move_104 (X4_a12 (X6_o0 h0)) c12 (fun L13 eL13 => ?_)
    have h := lt_e eL13 h
    refine sx_iload_n (i := 3) (j := 3) dX6_move_105 rfl rfl ?_
    obtain rfl := Option.some.inj h
    exact sx_iret dX6_move_106 rfl rfl k3.1 k3.2
set_option maxRecDepth 100000 in
set_option maxHeartbeats 4000000 in
theorem tX6_move_j36 {l : Launch} {E : Ev} {r : Option Value} {L' L : HL} {a0 : Nat} {v1 : Int32} {v2 : Int32} {z : Int32 × HL} (h0 : isX6 E a0) (h : fX6_move_j36 a0 v1 v2 L = some z) (k3 : r = some (.int z.1) ∧ L' = z.2) : Sx l E yX6_move cX6_move 4 (some .int) (4) r L' 36 [(0, .ref a0), (1, .int v1), (2, .int v2)] [] L := by
  unfold fX6_move_j36 at h
  refine sx_iload_n (i := 2) (j := 2) dX6_move_36 rfl rfl ?_
  refine sx_iconst (v := (-1 : Int32)) dX6_move_37 (by decide) ?_
  refine sx_icmp_eq (tgt := 52) dX6_move_38 rfl (fun c5 => ?_) (fun c5 => ?_)
  · have h := if_e c5 h
    exact sx_sub [0, 1, 2] rfl (tX6_move_j52 h0 h k3)
  · have h := if_n c5 h
    refine sx_aload_n (i := 0) (j := 0) dX6_move_41 rfl rfl ?_
    refine sx_get (k := 0) (v := .ref (a0 + 1)) dX6_move_42 (X6_k h0) cf_6 (Or.inl wd_340) (by decide : 0 < 13) (congrArg Value.ref (X6_r0 h0)) ?_
    refine sx_iload_n (i := 2) (j := 2) dX6_move_45 rfl rfl ?_
    obtain ⟨z14, ez14, h⟩ := bd_e h
    refine sx_callV (avs := [.int v2]) (rest := []) (st1 := [.int z14]) dX6_move_46 (mX4_stands (X6_o0 h0) ez14) ciX4_stands (Or.inr ⟨_, nw_617⟩) (X4_k (X6_o0 h0)) rfl rfl rfl rfl (rm_m rfl) rfl (Nat.le_of_ble_eq_true rfl) rfl ?_
    refine sx_if_eq (tgt := 65) dX6_move_49 rfl (fun c15 => ?_) (fun c15 => ?_)
    · have h := if_e c15 h
      exact sx_sub [0] rfl (tX6_move_j65 h0 h k3)
    · have h := if_n c15 h
      exact sx_sub [0, 1, 2] rfl (tX6_move_j52 h0 h k3)
set_option maxRecDepth 100000 in
set_option maxHeartbeats 4000000 in
theorem mX6_move {l : Launch} {E : Ev} {L : HL} {a0 : Nat} {v1 : Int32} {v2 : Int32} {z : Int32 × HL} (h0 : isX6 E a0) (h : fX6_move a0 v1 v2 L = some z) : Mt l E yX6_move cX6_move 4 (some .int) (4) [.ref a0, .int v1, .int v2] L (some (.int z.1)) (z.2) := by
  obtain ⟨r, hr⟩ : ∃ r : Option Value, r = some (.int z.1) := ⟨_, rfl⟩
  obtain ⟨L', hL'⟩ : ∃ L' : HL, L' = z.2 := ⟨_, rfl⟩
  have k3 : r = some (.int z.1) ∧ L' = z.2 := ⟨hr, hL'⟩
  refine mt_eq hr hL' ?_
  refine Mt.of (plainFor_of_name (by decide)) (Nat.le_of_ble_eq_true rfl) ?_
  refine sx_sub (lv' := [(0, .ref a0), (1, .int v1), (2, .int v2)]) [0, 1, 2] rfl ?_
  unfold fX6_move at h
  refine sx_aload_n (i := 0) (j := 0) dX6_move_0 rfl rfl ?_
  refine sx_get (k := 0) (v := .ref (a0 + 1)) dX6_move_1 (X6_k h0) cf_6 (Or.inl wd_340) (by decide : 0 < 13) (congrArg Value.ref (X6_r0 h0)) ?_
  refine sx_iload_n (i := 1) (j := 1) dX6_move_4 rfl rfl ?_
  obtain ⟨z1, ez1, h⟩ := bd_e h
  refine sx_callV (avs := [.int v1]) (rest := []) (st1 := [.int z1]) dX6_move_5 (mX4_hasOne (X6_o0 h0) ez1) ciX4_hasOne (Or.inr ⟨_, nw_682⟩) (X4_k (X6_o0 h0)) rfl rfl rfl rfl (rm_m rfl) rfl (Nat.le_of_ble_eq_true rfl) rfl ?_
  refine sx_if_eq (tgt := 27) dX6_move_8 rfl (fun c2 => ?_) (fun c2 => ?_)
  · have h := if_e c2 h
    exact sx_sub [0] rfl (tX6_move_j27 h0 h k3)
  · have h := if_n c2 h
    refine sx_iload_n (i := 2) (j := 2) dX6_move_11 rfl rfl ?_
    refine sx_iconst (v := (-1 : Int32)) dX6_move_12 (by decide) ?_
    refine sx_icmp_eq (tgt := 36) dX6_move_13 rfl (fun c4 => ?_) (fun c4 => ?_)
    · have h := if_e c4 h
      exact sx_sub [0, 1, 2] rfl (tX6_move_j36 h0 h k3)
    · have h := if_n c4 h
      refine sx_aload_n (i := 0) (j := 0) dX6_move_16 rfl rfl ?_
      refine sx_get (k := 0) (v := .ref (a0 + 1)) dX6_move_17 (X6_k h0) cf_6 (Or.inl wd_340) (by decide : 0 < 13) (congrArg Value.ref (X6_r0 h0)) ?_
      refine sx_iload_n (i := 2) (j := 2) dX6_move_20 rfl rfl ?_
      obtain ⟨z16, ez16, h⟩ := bd_e h
      refine sx_callV (avs := [.int v2]) (rest := []) (st1 := [.int z16]) dX6_move_21 (mX4_has (X6_o0 h0) ez16) ciX4_has (Or.inr ⟨_, nw_616⟩) (X4_k (X6_o0 h0)) rfl rfl rfl rfl (rm_m rfl) rfl (Nat.le_of_ble_eq_true rfl) rfl ?_
      refine sx_if_ne (tgt := 36) dX6_move_24 rfl (fun c17 => ?_) (fun c17 => ?_)
      · have h := if_e c17 h
        exact sx_sub [0] rfl (tX6_move_j27 h0 h k3)
      · have h := if_n c17 h
        exact sx_sub [0, 1, 2] rfl (tX6_move_j36 h0 h k3)
set_option maxRecDepth 100000 in
set_option maxHeartbeats 4000000 in
theorem mX6_undo {l : Launch} {E : Ev} {L : HL} {a0 : Nat} {z : Int32 × HL} (h0 : isX6 E a0) (h : fX6_undo a0 L = some z) : Mt l E yX6_undo cX6_undo 1 (some .int) (4) [.ref a0] L (some (.int z.1)) (z.2) := by
  obtain ⟨r, hr⟩ : ∃ r : Option Value, r = some (.int z.1) := ⟨_, rfl⟩
  obtain ⟨L', hL'⟩ : ∃ L' : HL, L' = z.2 := ⟨_, rfl⟩
  have k3 : r = some (.int z.1) ∧ L' = z.2 := ⟨hr, hL'⟩
  refine mt_eq hr hL' ?_
  refine Mt.of (plainFor_of_name (by decide)) (Nat.le_of_ble_eq_true rfl) ?_
  refine sx_sub (lv' := [(0, .ref a0)]) [0] rfl ?_
  unfold fX6_undo at h
  refine sx_aload_n (i := 0) (j := 0) dX6_undo_0 rfl rfl ?_
  refine sx_get (k := 2) (v := .ref (a0 + 29)) dX6_undo_1 (X6_k h0) cf_6 (Or.inl wd_342) (by decide : 2 < 13) (congrArg Value.ref (X6_r2 h0)) ?_
  refine sx_get (k := 0) (v := .int (L.1 (a0 + 29) 0)) dX6_undo_4 (X3_k (X6_o2 h0)) cf_3 (Or.inr ⟨_, nw_219⟩) (by decide : 0 < 6) rfl ?_
  refine sx_if_ne (tgt := 19) dX6_undo_7 rfl (fun c1 => ?_) (fun c1 => ?_)
  · have h := if_e c1 h
    refine sx_aload_n (i := 0) (j := 0) dX6_undo_10 rfl rfl ?_
    refine sx_bipush (v := (-3 : Int32)) dX6_undo_11 (by decide) ?_
    refine sx_bipush (v := (-3 : Int32)) dX6_undo_13 (by decide) ?_
    obtain ⟨z2, ez2, h⟩ := bd_e h
    refine sx_callV (avs := [.int (-3 : Int32), .int (-3 : Int32)]) (rest := []) (st1 := [.int z2.1]) dX6_undo_15 (mX6_refused h0 ez2) ciX6_refused (Or.inl wd_404) (X6_k h0) rfl rfl rfl rfl (rm_m rfl) rfl (Nat.le_of_ble_eq_true rfl) rfl ?_
    obtain rfl := Option.some.inj h
    exact sx_iret dX6_undo_18 rfl rfl k3.1 k3.2
  · have h := if_n c1 h
    refine sx_aload_n (i := 0) (j := 0) dX6_undo_19 rfl rfl ?_
    refine sx_get (k := 2) (v := .ref (a0 + 29)) dX6_undo_20 (X6_k h0) cf_6 (Or.inl wd_342) (by decide : 2 < 13) (congrArg Value.ref (X6_r2 h0)) ?_
    refine sx_aload_n (i := 0) (j := 0) dX6_undo_23 rfl rfl ?_
    refine sx_get (k := 0) (v := .ref (a0 + 1)) dX6_undo_24 (X6_k h0) cf_6 (Or.inl wd_340) (by decide : 0 < 13) (congrArg Value.ref (X6_r0 h0)) ?_
    obtain ⟨z3, ez3, h⟩ := bd_e h
    refine sx_callV (avs := [.ref (a0 + 1)]) (rest := []) (st1 := []) dX6_undo_27 (mX3_bringBack (X6_o2 h0) (X6_o0 h0) ez3) ciX3_bringBack (Or.inr ⟨_, nw_690⟩) (X3_k (X6_o2 h0)) rfl rfl rfl rfl (rm_m rfl) rfl (Nat.le_of_ble_eq_true rfl) rfl ?_
    refine sx_iconst (v := (1 : Int32)) dX6_undo_30 (by decide) ?_
    obtain rfl := Option.some.inj h
    exact sx_iret dX6_undo_31 rfl rfl k3.1 k3.2
set_option maxRecDepth 100000 in
set_option maxHeartbeats 4000000 in
theorem mX6_of {l : Launch} {E : Ev} {L : HL} {a0 : Nat} {v1 : Int32} {v2 : Int32} {z : Int32 × HL} (h0 : isX6 E a0) (h : fX6_of a0 v1 v2 L = some z) : Mt l E yX6_of cX6_of 3 (some .int) (2) [.ref a0, .int v1, .int v2] L (some (.int z.1)) (z.2) := by
  obtain ⟨r, hr⟩ : ∃ r : Option Value, r = some (.int z.1) := ⟨_, rfl⟩
  obtain ⟨L', hL'⟩ : ∃ L' : HL, L' = z.2 := ⟨_, rfl⟩
  have k3 : r = some (.int z.1) ∧ L' = z.2 := ⟨hr, hL'⟩
  refine mt_eq hr hL' ?_
  refine Mt.of (plainFor_of_name (by decide)) (Nat.le_of_ble_eq_true rfl) ?_
  refine sx_sub (lv' := [(0, .ref a0), (1, .int v1), (2, .int v2)]) [0, 1, 2] rfl ?_
  unfold fX6_of at h
  refine sx_aload_n (i := 0) (j := 0) dX6_of_0 rfl rfl ?_
  refine sx_get (k := 0) (v := .ref (a0 + 1)) dX6_of_1 (X6_k h0) cf_6 (Or.inl wd_340) (by decide : 0 < 13) (congrArg Value.ref (X6_r0 h0)) ?_
  refine sx_iload_n (i := 1) (j := 1) dX6_of_4 rfl rfl ?_
  obtain ⟨z1, ez1, h⟩ := bd_e h
  refine sx_callV (avs := [.int v1]) (rest := []) (st1 := [.int z1]) dX6_of_5 (mX4_has (X6_o0 h0) ez1) ciX4_has (Or.inr ⟨_, nw_616⟩) (X4_k (X6_o0 h0)) rfl rfl rfl rfl (rm_m rfl) rfl (Nat.le_of_ble_eq_true rfl) rfl ?_
  refine sx_if_ne (tgt := 20) dX6_of_8 rfl (fun c2 => ?_) (fun c2 => ?_)
  · have h := if_e c2 h
    refine sx_aload_n (i := 0) (j := 0) dX6_of_11 rfl rfl ?_
    refine sx_bipush (v := (-2 : Int32)) dX6_of_12 (by decide) ?_
    refine sx_bipush (v := (-10 : Int32)) dX6_of_14 (by decide) ?_
    obtain ⟨z3, ez3, h⟩ := bd_e h
    refine sx_callV (avs := [.int (-2 : Int32), .int (-10 : Int32)]) (rest := []) (st1 := [.int z3.1]) dX6_of_16 (mX6_refused h0 ez3) ciX6_refused (Or.inl wd_404) (X6_k h0) rfl rfl rfl rfl (rm_m rfl) rfl (Nat.le_of_ble_eq_true rfl) rfl ?_
    obtain rfl := Option.some.inj h
    exact sx_iret dX6_of_19 rfl rfl k3.1 k3.2
  · have h := if_n c2 h
    refine sx_iload_n (i := 2) (j := 2) dX6_of_20 rfl rfl ?_
    by_cases c4 : v2 = (0 : Int32)
    · have h := if_e c4 h
      refine sx_swIn (tgt := 68) (0 : Int32) dX6_of_21 c4 (by decide) (by decide) rfl rfl ?_
      refine sx_aload_n (i := 0) (j := 0) dX6_of_68 rfl rfl ?_
      refine sx_get (k := 0) (v := .ref (a0 + 1)) dX6_of_69 (X6_k h0) cf_6 (Or.inl wd_340) (by decide : 0 < 13) (congrArg Value.ref (X6_r0 h0)) ?_
      refine sx_get (k := 4) (v := .ref ((a0 + 1) + 1)) dX6_of_72 (X4_k (X6_o0 h0)) cf_4 (Or.inr ⟨_, nw_148⟩) (by decide : 4 < 17) (congrArg Value.ref (X4_r4 (X6_o0 h0))) ?_
      refine sx_iload_n (i := 1) (j := 1) dX6_of_75 rfl rfl ?_
      obtain ⟨c5, h⟩ := gd_e h
      refine sx_iald dX6_of_76 (X4_a4 (X6_o0 h0)) c5 ?_
      obtain rfl := Option.some.inj h
      exact sx_iret dX6_of_77 rfl rfl k3.1 k3.2
    have h := if_n c4 h
    by_cases c6 : v2 = (1 : Int32)
    · have h := if_e c6 h
      refine sx_swIn (tgt := 78) (1 : Int32) dX6_of_21 c6 (by decide) (by decide) rfl rfl ?_
      refine sx_aload_n (i := 0) (j := 0) dX6_of_78 rfl rfl ?_
      refine sx_get (k := 0) (v := .ref (a0 + 1)) dX6_of_79 (X6_k h0) cf_6 (Or.inl wd_340) (by decide : 0 < 13) (congrArg Value.ref (X6_r0 h0)) ?_
      refine sx_get (k := 5) (v := .ref ((a0 + 1) + 2)) dX6_of_82 (X4_k (X6_o0 h0)) cf_4 (Or.inr ⟨_, nw_150⟩) (by decide : 5 < 17) (congrArg Value.ref (X4_r5 (X6_o0 h0))) ?_
      refine sx_iload_n (i := 1) (j := 1) dX6_of_85 rfl rfl ?_
      obtain ⟨c7, h⟩ := gd_e h
      refine sx_iald dX6_of_86 (X4_a5 (X6_o0 h0)) c7 ?_
      obtain rfl := Option.some.inj h
      exact sx_iret dX6_of_87 rfl rfl k3.1 k3.2
    have h := if_n c6 h
    by_cases c8 : v2 = (2 : Int32)
    · have h := if_e c8 h
      refine sx_swIn (tgt := 88) (2 : Int32) dX6_of_21 c8 (by decide) (by decide) rfl rfl ?_
      refine sx_aload_n (i := 0) (j := 0) dX6_of_88 rfl rfl ?_
      refine sx_get (k := 0) (v := .ref (a0 + 1)) dX6_of_89 (X6_k h0) cf_6 (Or.inl wd_340) (by decide : 0 < 13) (congrArg Value.ref (X6_r0 h0)) ?_
      refine sx_get (k := 6) (v := .ref ((a0 + 1) + 3)) dX6_of_92 (X4_k (X6_o0 h0)) cf_4 (Or.inr ⟨_, nw_153⟩) (by decide : 6 < 17) (congrArg Value.ref (X4_r6 (X6_o0 h0))) ?_
      refine sx_iload_n (i := 1) (j := 1) dX6_of_95 rfl rfl ?_
      obtain ⟨c9, h⟩ := gd_e h
      refine sx_iald dX6_of_96 (X4_a6 (X6_o0 h0)) c9 ?_
      obtain rfl := Option.some.inj h
      exact sx_iret dX6_of_97 rfl rfl k3.1 k3.2
    have h := if_n c8 h
    by_cases c10 : v2 = (3 : Int32)
    · have h := if_e c10 h
      refine sx_swIn (tgt := 98) (3 : Int32) dX6_of_21 c10 (by decide) (by decide) rfl rfl ?_
      refine sx_aload_n (i := 0) (j := 0) dX6_of_98 rfl rfl ?_
      refine sx_get (k := 0) (v := .ref (a0 + 1)) dX6_of_99 (X6_k h0) cf_6 (Or.inl wd_340) (by decide : 0 < 13) (congrArg Value.ref (X6_r0 h0)) ?_
      refine sx_get (k := 7) (v := .ref ((a0 + 1) + 4)) dX6_of_102 (X4_k (X6_o0 h0)) cf_4 (Or.inr ⟨_, nw_155⟩) (by decide : 7 < 17) (congrArg Value.ref (X4_r7 (X6_o0 h0))) ?_
      refine sx_iload_n (i := 1) (j := 1) dX6_of_105 rfl rfl ?_
      obtain ⟨c11, h⟩ := gd_e h
      refine sx_iald dX6_of_106 (X4_a7 (X6_o0 h0)) c11 ?_
      obtain rfl := Option.some.inj h
      exact sx_iret dX6_of_107 rfl rfl k3.1 k3.2
    have h := if_n c10 h
    by_cases c12 : v2 = (4 : Int32)
    · have h := if_e c12 h
      refine sx_swIn (tgt := 108) (4 : Int32) dX6_of_21 c12 (by decide) (by decide) rfl rfl ?_
      refine sx_aload_n (i := 0) (j := 0) dX6_of_108 rfl rfl ?_
      refine sx_get (k := 0) (v := .ref (a0 + 1)) dX6_of_109 (X6_k h0) cf_6 (Or.inl wd_340) (by decide : 0 < 13) (congrArg Value.ref (X6_r0 h0)) ?_
      refine sx_get (k := 8) (v := .ref ((a0 + 1) + 5)) dX6_of_112 (X4_k (X6_o0 h0)) cf_4 (Or.inr ⟨_, nw_158⟩) (by decide : 8 < 17) (congrArg Value.ref (X4_r8 (X6_o0 h0))) ?_
      refine sx_iload_n (i := 1) (j := 1) dX6_of_115 rfl rfl ?_
      obtain ⟨c13, h⟩ := gd_e h
      refine sx_iald dX6_of_116 (X4_a8 (X6_o0 h0)) c13 ?_
      obtain rfl := Option.some.inj h
      exact sx_iret dX6_of_117 rfl rfl k3.1 k3.2
    have h := if_n c12 h
    by_cases c14 : v2 = (5 : Int32)
    · have h := if_e c14 h
      refine sx_swIn (tgt := 118) (5 : Int32) dX6_of_21 c14 (by decide) (by decide) rfl rfl ?_
      refine sx_aload_n (i := 0) (j := 0) dX6_of_118 rfl rfl ?_
      refine sx_get (k := 0) (v := .ref (a0 + 1)) dX6_of_119 (X6_k h0) cf_6 (Or.inl wd_340) (by decide : 0 < 13) (congrArg Value.ref (X6_r0 h0)) ?_
      refine sx_iload_n (i := 1) (j := 1) dX6_of_122 rfl rfl ?_
      obtain ⟨z15, ez15, h⟩ := bd_e h
      refine sx_callV (avs := [.int v1]) (rest := []) (st1 := [.int z15]) dX6_of_123 (mX4_stands (X6_o0 h0) ez15) ciX4_stands (Or.inr ⟨_, nw_617⟩) (X4_k (X6_o0 h0)) rfl rfl rfl rfl (rm_m rfl) rfl (Nat.le_of_ble_eq_true rfl) rfl ?_
      refine sx_if_eq (tgt := 133) dX6_of_126 rfl (fun c16 => ?_) (fun c16 => ?_)
      · have h := if_e c16 h
        refine sx_iconst (v := (0 : Int32)) dX6_of_133 (by decide) ?_
        obtain rfl := Option.some.inj h
        exact sx_iret dX6_of_134 rfl rfl k3.1 k3.2
      · have h := if_n c16 h
        refine sx_iconst (v := (1 : Int32)) dX6_of_129 (by decide) ?_
        refine sx_goto (tgt := 134) dX6_of_130 rfl ?_
        obtain rfl := Option.some.inj h
        exact sx_iret dX6_of_134 rfl rfl k3.1 k3.2
    have h := if_n c14 h
    by_cases c17 : v2 = (6 : Int32)
    · have h := if_e c17 h
      refine sx_swIn (tgt := 135) (6 : Int32) dX6_of_21 c17 (by decide) (by decide) rfl rfl ?_
      refine sx_aload_n (i := 0) (j := 0) dX6_of_135 rfl rfl ?_
      refine sx_get (k := 0) (v := .ref (a0 + 1)) dX6_of_136 (X6_k h0) cf_6 (Or.inl wd_340) (by decide : 0 < 13) (congrArg Value.ref (X6_r0 h0)) ?_
      refine sx_iload_n (i := 1) (j := 1) dX6_of_139 rfl rfl ?_
      obtain ⟨z18, ez18, h⟩ := bd_e h
      refine sx_callV (avs := [.int v1]) (rest := []) (st1 := [.int z18]) dX6_of_140 (mX4_dwellerBits (X6_o0 h0) ez18) ciX4_dwellerBits (Or.inr ⟨_, nw_698⟩) (X4_k (X6_o0 h0)) rfl rfl rfl rfl (rm_m rfl) rfl (Nat.le_of_ble_eq_true rfl) rfl ?_
      obtain rfl := Option.some.inj h
      exact sx_iret dX6_of_143 rfl rfl k3.1 k3.2
    have h := if_n c17 h
    by_cases c19 : v2 = (7 : Int32)
    · have h := if_e c19 h
      refine sx_swIn (tgt := 144) (7 : Int32) dX6_of_21 c19 (by decide) (by decide) rfl rfl ?_
      refine sx_aload_n (i := 0) (j := 0) dX6_of_144 rfl rfl ?_
      refine sx_get (k := 0) (v := .ref (a0 + 1)) dX6_of_145 (X6_k h0) cf_6 (Or.inl wd_340) (by decide : 0 < 13) (congrArg Value.ref (X6_r0 h0)) ?_
      refine sx_get (k := 9) (v := .ref ((a0 + 1) + 6)) dX6_of_148 (X4_k (X6_o0 h0)) cf_4 (Or.inr ⟨_, nw_160⟩) (by decide : 9 < 17) (congrArg Value.ref (X4_r9 (X6_o0 h0))) ?_
      refine sx_iload_n (i := 1) (j := 1) dX6_of_151 rfl rfl ?_
      obtain ⟨c20, h⟩ := gd_e h
      refine sx_iald dX6_of_152 (X4_a9 (X6_o0 h0)) c20 ?_
      obtain rfl := Option.some.inj h
      exact sx_iret dX6_of_153 rfl rfl k3.1 k3.2
    have h := if_n c19 h
    refine sx_swOut (tgt := 154) dX6_of_21 (sw_out (lo := 0) (k := 8) [0, 1, 2, 3, 4, 5, 6, 7] (by decide +kernel) (List.forall_mem_cons.mpr ⟨c4, List.forall_mem_cons.mpr ⟨c6, List.forall_mem_cons.mpr ⟨c8, List.forall_mem_cons.mpr ⟨c10, List.forall_mem_cons.mpr ⟨c12, List.forall_mem_cons.mpr ⟨c14, List.forall_mem_cons.mpr ⟨c17, List.forall_mem_cons.mpr ⟨c19, fun _ q => absurd q List.not_mem_nil⟩⟩⟩⟩⟩⟩⟩⟩)) rfl ?_
    refine sx_aload_n (i := 0) (j := 0) dX6_of_154 rfl rfl ?_
    refine sx_bipush (v := (-2 : Int32)) dX6_of_155 (by decide) ?_
    refine sx_bipush (v := (-10 : Int32)) dX6_of_157 (by decide) ?_
    obtain ⟨z21, ez21, h⟩ := bd_e h
    refine sx_callV (avs := [.int (-2 : Int32), .int (-10 : Int32)]) (rest := []) (st1 := [.int z21.1]) dX6_of_159 (mX6_refused h0 ez21) ciX6_refused (Or.inl wd_404) (X6_k h0) rfl rfl rfl rfl (rm_m rfl) rfl (Nat.le_of_ble_eq_true rfl) rfl ?_
    obtain rfl := Option.some.inj h
    exact sx_iret dX6_of_162 rfl rfl k3.1 k3.2
set_option maxRecDepth 100000 in
set_option maxHeartbeats 4000000 in
theorem tX6_who_j20 {l : Launch} {E : Ev} {r : Option Value} {L' L : HL} {a0 : Nat} {z : Int32 × HL} (h0 : isX6 E a0) (h : fX6_who_j20 a0 L = some z) (k3 : r = some (.int z.1) ∧ L' = z.2) : Sx l E yX6_who cX6_who 3 (some .int) (2) r L' 20 [(0, .ref a0)] [] L := by
  unfold fX6_who_j20 at h
  refine sx_aload_n (i := 0) (j := 0) dX6_who_20 rfl rfl ?_
  refine sx_bipush (v := (-2 : Int32)) dX6_who_21 (by decide) ?_
  refine sx_bipush (v := (-10 : Int32)) dX6_who_23 (by decide) ?_
  obtain ⟨z3, ez3, h⟩ := bd_e h
  refine sx_callV (avs := [.int (-2 : Int32), .int (-10 : Int32)]) (rest := []) (st1 := [.int z3.1]) dX6_who_25 (mX6_refused h0 ez3) ciX6_refused (Or.inl wd_404) (X6_k h0) rfl rfl rfl rfl (rm_m rfl) rfl (Nat.le_of_ble_eq_true rfl) rfl ?_
  obtain rfl := Option.some.inj h
  exact sx_iret dX6_who_28 rfl rfl k3.1 k3.2
set_option maxRecDepth 100000 in
set_option maxHeartbeats 4000000 in
theorem mX6_who {l : Launch} {E : Ev} {L : HL} {a0 : Nat} {v1 : Int32} {v2 : Int32} {z : Int32 × HL} (h0 : isX6 E a0) (h : fX6_who a0 v1 v2 L = some z) : Mt l E yX6_who cX6_who 3 (some .int) (2) [.ref a0, .int v1, .int v2] L (some (.int z.1)) (z.2) := by
  obtain ⟨r, hr⟩ : ∃ r : Option Value, r = some (.int z.1) := ⟨_, rfl⟩
  obtain ⟨L', hL'⟩ : ∃ L' : HL, L' = z.2 := ⟨_, rfl⟩
  have k3 : r = some (.int z.1) ∧ L' = z.2 := ⟨hr, hL'⟩
  refine mt_eq hr hL' ?_
  refine Mt.of (plainFor_of_name (by decide)) (Nat.le_of_ble_eq_true rfl) ?_
  refine sx_sub (lv' := [(0, .ref a0), (1, .int v1), (2, .int v2)]) [0, 1, 2] rfl ?_
  unfold fX6_who at h
  refine sx_aload_n (i := 0) (j := 0) dX6_who_0 rfl rfl ?_
  refine sx_get (k := 0) (v := .ref (a0 + 1)) dX6_who_1 (X6_k h0) cf_6 (Or.inl wd_340) (by decide : 0 < 13) (congrArg Value.ref (X6_r0 h0)) ?_
  refine sx_iload_n (i := 1) (j := 1) dX6_who_4 rfl rfl ?_
  obtain ⟨z1, ez1, h⟩ := bd_e h
  refine sx_callV (avs := [.int v1]) (rest := []) (st1 := [.int z1]) dX6_who_5 (mX4_hasOne (X6_o0 h0) ez1) ciX4_hasOne (Or.inr ⟨_, nw_682⟩) (X4_k (X6_o0 h0)) rfl rfl rfl rfl (rm_m rfl) rfl (Nat.le_of_ble_eq_true rfl) rfl ?_
  refine sx_if_eq (tgt := 20) dX6_who_8 rfl (fun c2 => ?_) (fun c2 => ?_)
  · have h := if_e c2 h
    exact sx_sub [0] rfl (tX6_who_j20 h0 h k3)
  · have h := if_n c2 h
    refine sx_iload_n (i := 2) (j := 2) dX6_who_11 rfl rfl ?_
    refine sx_if_lt (tgt := 20) dX6_who_12 rfl (fun c4 => ?_) (fun c4 => ?_)
    · have h := if_e c4 h
      exact sx_sub [0] rfl (tX6_who_j20 h0 h k3)
    · have h := if_n c4 h
      refine sx_iload_n (i := 2) (j := 2) dX6_who_15 rfl rfl ?_
      refine sx_iconst (v := (1 : Int32)) dX6_who_16 (by decide) ?_
      refine sx_icmp_le (tgt := 29) dX6_who_17 rfl (fun c5 => ?_) (fun c5 => ?_)
      · have h := if_e c5 h
        refine sx_iload_n (i := 2) (j := 2) dX6_who_29 rfl rfl ?_
        refine sx_if_ne (tgt := 45) dX6_who_30 rfl (fun c6 => ?_) (fun c6 => ?_)
        · have h := if_e c6 h
          refine sx_aload_n (i := 0) (j := 0) dX6_who_33 rfl rfl ?_
          refine sx_get (k := 0) (v := .ref (a0 + 1)) dX6_who_34 (X6_k h0) cf_6 (Or.inl wd_340) (by decide : 0 < 13) (congrArg Value.ref (X6_r0 h0)) ?_
          refine sx_get (k := 11) (v := .ref ((a0 + 1) + 8)) dX6_who_37 (X4_k (X6_o0 h0)) cf_4 (Or.inr ⟨_, nw_164⟩) (by decide : 11 < 17) (congrArg Value.ref (X4_r11 (X6_o0 h0))) ?_
          refine sx_iload_n (i := 1) (j := 1) dX6_who_40 rfl rfl ?_
          obtain ⟨c7, h⟩ := gd_e h
          refine sx_iald dX6_who_41 (X4_a11 (X6_o0 h0)) c7 ?_
          refine sx_goto (tgt := 54) dX6_who_42 rfl ?_
          obtain rfl := Option.some.inj h
          exact sx_iret dX6_who_54 rfl rfl k3.1 k3.2
        · have h := if_n c6 h
          refine sx_aload_n (i := 0) (j := 0) dX6_who_45 rfl rfl ?_
          refine sx_get (k := 0) (v := .ref (a0 + 1)) dX6_who_46 (X6_k h0) cf_6 (Or.inl wd_340) (by decide : 0 < 13) (congrArg Value.ref (X6_r0 h0)) ?_
          refine sx_get (k := 12) (v := .ref ((a0 + 1) + 9)) dX6_who_49 (X4_k (X6_o0 h0)) cf_4 (Or.inr ⟨_, nw_169⟩) (by decide : 12 < 17) (congrArg Value.ref (X4_r12 (X6_o0 h0))) ?_
          refine sx_iload_n (i := 1) (j := 1) dX6_who_52 rfl rfl ?_
          obtain ⟨c8, h⟩ := gd_e h
          refine sx_iald dX6_who_53 (X4_a12 (X6_o0 h0)) c8 ?_
          obtain rfl := Option.some.inj h
          exact sx_iret dX6_who_54 rfl rfl k3.1 k3.2
      · have h := if_n c5 h
        exact sx_sub [0] rfl (tX6_who_j20 h0 h k3)
set_option maxRecDepth 100000 in
set_option maxHeartbeats 4000000 in
theorem tX6_degree_j22 {l : Launch} {E : Ev} {r : Option Value} {L' L : HL} {a0 : Nat} {z : Int32 × HL} (h0 : isX6 E a0) (h : fX6_degree_j22 a0 L = some z) (k3 : r = some (.int z.1) ∧ L' = z.2) : Sx l E yX6_degree cX6_degree 3 (some .int) (4) r L' 22 [(0, .ref a0)] [] L := by
  unfold fX6_degree_j22 at h
  refine sx_aload_n (i := 0) (j := 0) dX6_degree_22 rfl rfl ?_
  refine sx_bipush (v := (-2 : Int32)) dX6_degree_23 (by decide) ?_
  refine sx_bipush (v := (-2 : Int32)) dX6_degree_25 (by decide) ?_
  obtain ⟨z3, ez3, h⟩ := bd_e h
  refine sx_callV (avs := [.int (-2 : Int32), .int (-2 : Int32)]) (rest := []) (st1 := [.int z3.1]) dX6_degree_27 (mX6_refused h0 ez3) ciX6_refused (Or.inl wd_404) (X6_k h0) rfl rfl rfl rfl (rm_m rfl) rfl (Nat.le_of_ble_eq_true rfl) rfl ?_
  obtain rfl := Option.some.inj h
  exact sx_iret dX6_degree_30 rfl rfl k3.1 k3.2
set_option maxRecDepth 100000 in
set_option maxHeartbeats 4000000 in
theorem mX6_degree {l : Launch} {E : Ev} {L : HL} {a0 : Nat} {v1 : Int32} {v2 : Int32} {z : Int32 × HL} (h0 : isX6 E a0) (h : fX6_degree a0 v1 v2 L = some z) : Mt l E yX6_degree cX6_degree 3 (some .int) (4) [.ref a0, .int v1, .int v2] L (some (.int z.1)) (z.2) := by
  obtain ⟨r, hr⟩ : ∃ r : Option Value, r = some (.int z.1) := ⟨_, rfl⟩
  obtain ⟨L', hL'⟩ : ∃ L' : HL, L' = z.2 := ⟨_, rfl⟩
  have k3 : r = some (.int z.1) ∧ L' = z.2 := ⟨hr, hL'⟩
  refine mt_eq hr hL' ?_
  refine Mt.of (plainFor_of_name (by decide)) (Nat.le_of_ble_eq_true rfl) ?_
  refine sx_sub (lv' := [(0, .ref a0), (1, .int v1), (2, .int v2)]) [0, 1, 2] rfl ?_
  unfold fX6_degree at h
  refine sx_aload_n (i := 0) (j := 0) dX6_degree_0 rfl rfl ?_
  refine sx_get (k := 0) (v := .ref (a0 + 1)) dX6_degree_1 (X6_k h0) cf_6 (Or.inl wd_340) (by decide : 0 < 13) (congrArg Value.ref (X6_r0 h0)) ?_
  refine sx_iload_n (i := 1) (j := 1) dX6_degree_4 rfl rfl ?_
  obtain ⟨z1, ez1, h⟩ := bd_e h
  refine sx_callV (avs := [.int v1]) (rest := []) (st1 := [.int z1]) dX6_degree_5 (mX4_has (X6_o0 h0) ez1) ciX4_has (Or.inr ⟨_, nw_616⟩) (X4_k (X6_o0 h0)) rfl rfl rfl rfl (rm_m rfl) rfl (Nat.le_of_ble_eq_true rfl) rfl ?_
  refine sx_if_eq (tgt := 22) dX6_degree_8 rfl (fun c2 => ?_) (fun c2 => ?_)
  · have h := if_e c2 h
    exact sx_sub [0] rfl (tX6_degree_j22 h0 h k3)
  · have h := if_n c2 h
    refine sx_aload_n (i := 0) (j := 0) dX6_degree_11 rfl rfl ?_
    refine sx_get (k := 0) (v := .ref (a0 + 1)) dX6_degree_12 (X6_k h0) cf_6 (Or.inl wd_340) (by decide : 0 < 13) (congrArg Value.ref (X6_r0 h0)) ?_
    refine sx_iload_n (i := 2) (j := 2) dX6_degree_15 rfl rfl ?_
    obtain ⟨z4, ez4, h⟩ := bd_e h
    refine sx_callV (avs := [.int v2]) (rest := []) (st1 := [.int z4]) dX6_degree_16 (mX4_has (X6_o0 h0) ez4) ciX4_has (Or.inr ⟨_, nw_616⟩) (X4_k (X6_o0 h0)) rfl rfl rfl rfl (rm_m rfl) rfl (Nat.le_of_ble_eq_true rfl) rfl ?_
    refine sx_if_ne (tgt := 31) dX6_degree_19 rfl (fun c5 => ?_) (fun c5 => ?_)
    · have h := if_e c5 h
      exact sx_sub [0] rfl (tX6_degree_j22 h0 h k3)
    · have h := if_n c5 h
      refine sx_aload_n (i := 0) (j := 0) dX6_degree_31 rfl rfl ?_
      refine sx_get (k := 0) (v := .ref (a0 + 1)) dX6_degree_32 (X6_k h0) cf_6 (Or.inl wd_340) (by decide : 0 < 13) (congrArg Value.ref (X6_r0 h0)) ?_
      refine sx_iload_n (i := 1) (j := 1) dX6_degree_35 rfl rfl ?_
      refine sx_iload_n (i := 2) (j := 2) dX6_degree_36 rfl rfl ?_
      obtain ⟨z6, ez6, h⟩ := bd_e h
      refine sx_callV (avs := [.int v1, .int v2]) (rest := []) (st1 := [.int z6.1]) dX6_degree_37 (mX4_degreeOf (X6_o0 h0) ez6) ciX4_degreeOf (Or.inr ⟨_, nw_710⟩) (X4_k (X6_o0 h0)) rfl rfl rfl rfl (rm_m rfl) rfl (Nat.le_of_ble_eq_true rfl) rfl ?_
      obtain rfl := Option.some.inj h
      exact sx_iret dX6_degree_40 rfl rfl k3.1 k3.2
set_option maxRecDepth 100000 in
set_option maxHeartbeats 4000000 in
theorem mX6_rank {l : Launch} {E : Ev} {L : HL} {a0 : Nat} {v1 : Int32} {v2 : Int32} {z : Int32 × HL} (h0 : isX6 E a0) (h : fX6_rank a0 v1 v2 L = some z) : Mt l E yX6_rank cX6_rank 3 (some .int) (4) [.ref a0, .int v1, .int v2] L (some (.int z.1)) (z.2) := by
  obtain ⟨r, hr⟩ : ∃ r : Option Value, r = some (.int z.1) := ⟨_, rfl⟩
  obtain ⟨L', hL'⟩ : ∃ L' : HL, L' = z.2 := ⟨_, rfl⟩
  have k3 : r = some (.int z.1) ∧ L' = z.2 := ⟨hr, hL'⟩
  refine mt_eq hr hL' ?_
  refine Mt.of (plainFor_of_name (by decide)) (Nat.le_of_ble_eq_true rfl) ?_
  refine sx_sub (lv' := [(0, .ref a0), (1, .int v1), (2, .int v2)]) [0, 1, 2] rfl ?_
  unfold fX6_rank at h
  refine sx_aload_n (i := 0) (j := 0) dX6_rank_0 rfl rfl ?_
  refine sx_get (k := 0) (v := .ref (a0 + 1)) dX6_rank_1 (X6_k h0) cf_6 (Or.inl wd_340) (by decide : 0 < 13) (congrArg Value.ref (X6_r0 h0)) ?_
  refine sx_iload_n (i := 1) (j := 1) dX6_rank_4 rfl rfl ?_
  refine sx_iload_n (i := 2) (j := 2) dX6_rank_5 rfl rfl ?_
  obtain ⟨z1, ez1, h⟩ := bd_e h
  refine sx_callV (avs := [.int v1, .int v2]) (rest := []) (st1 := [.int z1]) dX6_rank_6 (mX4_hasTwo (X6_o0 h0) ez1) ciX4_hasTwo (Or.inr ⟨_, nw_718⟩) (X4_k (X6_o0 h0)) rfl rfl rfl rfl (rm_m rfl) rfl (Nat.le_of_ble_eq_true rfl) rfl ?_
  refine sx_if_ne (tgt := 22) dX6_rank_9 rfl (fun c2 => ?_) (fun c2 => ?_)
  · have h := if_e c2 h
    refine sx_aload_n (i := 0) (j := 0) dX6_rank_12 rfl rfl ?_
    refine sx_bipush (v := (-2 : Int32)) dX6_rank_13 (by decide) ?_
    refine sx_sipush (v := (-1000 : Int32)) dX6_rank_15 (by decide) ?_
    obtain ⟨z3, ez3, h⟩ := bd_e h
    refine sx_callV (avs := [.int (-2 : Int32), .int (-1000 : Int32)]) (rest := []) (st1 := [.int z3.1]) dX6_rank_18 (mX6_refused h0 ez3) ciX6_refused (Or.inl wd_404) (X6_k h0) rfl rfl rfl rfl (rm_m rfl) rfl (Nat.le_of_ble_eq_true rfl) rfl ?_
    obtain rfl := Option.some.inj h
    exact sx_iret dX6_rank_21 rfl rfl k3.1 k3.2
  · have h := if_n c2 h
    refine sx_aload_n (i := 0) (j := 0) dX6_rank_22 rfl rfl ?_
    refine sx_get (k := 0) (v := .ref (a0 + 1)) dX6_rank_23 (X6_k h0) cf_6 (Or.inl wd_340) (by decide : 0 < 13) (congrArg Value.ref (X6_r0 h0)) ?_
    refine sx_iload_n (i := 1) (j := 1) dX6_rank_26 rfl rfl ?_
    refine sx_iload_n (i := 2) (j := 2) dX6_rank_27 rfl rfl ?_
    obtain ⟨z4, ez4, h⟩ := bd_e h
    refine sx_callV (avs := [.int v1, .int v2]) (rest := []) (st1 := [.int z4.1]) dX6_rank_28 (mX4_rankOf (X6_o0 h0) ez4) ciX4_rankOf (Or.inr ⟨_, nw_719⟩) (X4_k (X6_o0 h0)) rfl rfl rfl rfl (rm_m rfl) rfl (Nat.le_of_ble_eq_true rfl) rfl ?_
    obtain rfl := Option.some.inj h
    exact sx_iret dX6_rank_31 rfl rfl k3.1 k3.2
set_option maxRecDepth 100000 in
set_option maxHeartbeats 4000000 in
theorem mX6_heir {l : Launch} {E : Ev} {L : HL} {a0 : Nat} {v1 : Int32} {z : Int32 × HL} (h0 : isX6 E a0) (h : fX6_heir a0 v1 L = some z) : Mt l E yX6_heir cX6_heir 2 (some .int) (5) [.ref a0, .int v1] L (some (.int z.1)) (z.2) := by
  obtain ⟨r, hr⟩ : ∃ r : Option Value, r = some (.int z.1) := ⟨_, rfl⟩
  obtain ⟨L', hL'⟩ : ∃ L' : HL, L' = z.2 := ⟨_, rfl⟩
  have k3 : r = some (.int z.1) ∧ L' = z.2 := ⟨hr, hL'⟩
  refine mt_eq hr hL' ?_
  refine Mt.of (plainFor_of_name (by decide)) (Nat.le_of_ble_eq_true rfl) ?_
  refine sx_sub (lv' := [(0, .ref a0), (1, .int v1)]) [0, 1] rfl ?_
  unfold fX6_heir at h
  refine sx_aload_n (i := 0) (j := 0) dX6_heir_0 rfl rfl ?_
  refine sx_get (k := 0) (v := .ref (a0 + 1)) dX6_heir_1 (X6_k h0) cf_6 (Or.inl wd_340) (by decide : 0 < 13) (congrArg Value.ref (X6_r0 h0)) ?_
  refine sx_iload_n (i := 1) (j := 1) dX6_heir_4 rfl rfl ?_
  obtain ⟨z1, ez1, h⟩ := bd_e h
  refine sx_callV (avs := [.int v1]) (rest := []) (st1 := [.int z1]) dX6_heir_5 (mX4_has (X6_o0 h0) ez1) ciX4_has (Or.inr ⟨_, nw_616⟩) (X4_k (X6_o0 h0)) rfl rfl rfl rfl (rm_m rfl) rfl (Nat.le_of_ble_eq_true rfl) rfl ?_
  refine sx_if_ne (tgt := 20) dX6_heir_8 rfl (fun c2 => ?_) (fun c2 => ?_)
  · have h := if_e c2 h
    refine sx_aload_n (i := 0) (j := 0) dX6_heir_11 rfl rfl ?_
    refine sx_bipush (v := (-2 : Int32)) dX6_heir_12 (by decide) ?_
    refine sx_bipush (v := (-10 : Int32)) dX6_heir_14 (by decide) ?_
    obtain ⟨z3, ez3, h⟩ := bd_e h
    refine sx_callV (avs := [.int (-2 : Int32), .int (-10 : Int32)]) (rest := []) (st1 := [.int z3.1]) dX6_heir_16 (mX6_refused h0 ez3) ciX6_refused (Or.inl wd_404) (X6_k h0) rfl rfl rfl rfl (rm_m rfl) rfl (Nat.le_of_ble_eq_true rfl) rfl ?_
    obtain rfl := Option.some.inj h
    exact sx_iret dX6_heir_19 rfl rfl k3.1 k3.2
  · have h := if_n c2 h
    refine sx_aload_n (i := 0) (j := 0) dX6_heir_20 rfl rfl ?_
    refine sx_get (k := 0) (v := .ref (a0 + 1)) dX6_heir_21 (X6_k h0) cf_6 (Or.inl wd_340) (by decide : 0 < 13) (congrArg Value.ref (X6_r0 h0)) ?_
    refine sx_iload_n (i := 1) (j := 1) dX6_heir_24 rfl rfl ?_
    obtain ⟨z4, ez4, h⟩ := bd_e h
    refine sx_callV (avs := [.int v1]) (rest := []) (st1 := [.int z4.1]) dX6_heir_25 (mX4_heirOf (X6_o0 h0) ez4) ciX4_heirOf (Or.inr ⟨_, nw_727⟩) (X4_k (X6_o0 h0)) rfl rfl rfl rfl (rm_m rfl) rfl (Nat.le_of_ble_eq_true rfl) rfl ?_
    obtain rfl := Option.some.inj h
    exact sx_iret dX6_heir_28 rfl rfl k3.1 k3.2
set_option maxRecDepth 100000 in
set_option maxHeartbeats 4000000 in
theorem tX6_wills_b26 {l : Launch} {E : Ev} {r : Option Value} {L' L : HL} {a0 : Nat} {v1 : Int32} {v2 : Int32} {v3 : Int32} {v4 : Int32} {z : Tn (Int32 × Int32 × HL) (Int32 × HL)} (h0 : isX6 E a0) (h : fX6_wills_b26 a0 v1 v2 v3 v4 L = some z) (k1 : ∀ s, z = .inl s → Sx l E yX6_wills cX6_wills 5 (some .int) (4) r L' 26 [(0, .ref a0), (1, .int v1), (2, .int v2), (3, .int s.1), (4, .int s.2.1)] [] s.2.2) (k2 : ∀ s, z = .inr (.inl s) → Sx l E yX6_wills cX6_wills 5 (some .int) (4) r L' 61 [(3, .int s.1)] [] s.2.2) (k3 : ∀ v, z = .inr (.inr v) → r = some (.int v.1) ∧ L' = v.2) : Sx l E yX6_wills cX6_wills 5 (some .int) (4) r L' 26 [(0, .ref a0), (1, .int v1), (2, .int v2), (3, .int v3), (4, .int v4)] [] L := by
  unfold fX6_wills_b26 at h
  refine sx_iload (j := 4) dX6_wills_26 rfl ?_
  refine sx_bipush (v := (6 : Int32)) dX6_wills_28 (by decide) ?_
  refine sx_icmp_ge (tgt := 61) dX6_wills_30 rfl (fun c4 => ?_) (fun c4 => ?_)
  · have h := if_e c4 h
    obtain rfl := Option.some.inj h
    exact sx_sub [3] rfl (k2 _ rfl)
  · have h := if_n c4 h
    refine sx_aload_n (i := 0) (j := 0) dX6_wills_33 rfl rfl ?_
    refine sx_get (k := 0) (v := .ref (a0 + 1)) dX6_wills_34 (X6_k h0) cf_6 (Or.inl wd_340) (by decide : 0 < 13) (congrArg Value.ref (X6_r0 h0)) ?_
    refine sx_iload (j := 4) dX6_wills_37 rfl ?_
    refine sx_iload_n (i := 1) (j := 1) dX6_wills_39 rfl rfl ?_
    refine sx_iconst (v := (0 : Int32)) dX6_wills_40 (by decide) ?_
    obtain ⟨z5, ez5, h⟩ := bd_e h
    refine sx_callV (avs := [.int v4, .int v1, .int (0 : Int32)]) (rest := []) (st1 := [.int z5.1]) dX6_wills_41 (mX4_heirBy (X6_o0 h0) ez5) ciX4_heirBy (Or.inr ⟨_, nw_735⟩) (X4_k (X6_o0 h0)) rfl rfl rfl rfl (rm_m rfl) rfl (Nat.le_of_ble_eq_true rfl) rfl ?_
    refine sx_iload_n (i := 2) (j := 2) dX6_wills_44 rfl rfl ?_
    refine sx_icmp_ne (tgt := 55) dX6_wills_45 rfl (fun c6 => ?_) (fun c6 => ?_)
    · have h := if_e c6 h
      refine sx_iload_n (i := 3) (j := 3) dX6_wills_48 rfl rfl ?_
      refine sx_iconst (v := (1 : Int32)) dX6_wills_49 (by decide) ?_
      refine sx_iload (j := 4) dX6_wills_50 rfl ?_
      refine sx_ishl dX6_wills_52 ?_
      refine sx_ior dX6_wills_53 ?_
      refine sx_topi (fun w7 ew7 => ?_)
      have h := lt_e ew7 h
      refine sx_istore_n (i := 3) (lv' := [(0, .ref a0), (1, .int v1), (2, .int v2), (3, .int w7), (4, .int v4)]) dX6_wills_54 rfl (by decide) rfl ?_
      obtain ⟨w8, ew8⟩ : ∃ w : Int32, w = v4 + (1 : Int32) := ⟨_, rfl⟩
      have h := lt_e ew8 h
      refine sx_iinc (j := 4) (v := w8) (lv' := [(0, .ref a0), (1, .int v1), (2, .int v2), (3, .int w7), (4, .int w8)]) dX6_wills_55 rfl (ii_1 ew8) (by decide) rfl ?_
      refine sx_goto (tgt := 26) dX6_wills_58 rfl ?_
      obtain rfl := Option.some.inj h
      exact sx_sub [0, 1, 2, 3, 4] rfl (k1 _ rfl)
    · have h := if_n c6 h
      obtain ⟨w9, ew9⟩ : ∃ w : Int32, w = v4 + (1 : Int32) := ⟨_, rfl⟩
      have h := lt_e ew9 h
      refine sx_iinc (j := 4) (v := w9) (lv' := [(0, .ref a0), (1, .int v1), (2, .int v2), (3, .int v3), (4, .int w9)]) dX6_wills_55 rfl (ii_1 ew9) (by decide) rfl ?_
      refine sx_goto (tgt := 26) dX6_wills_58 rfl ?_
      obtain rfl := Option.some.inj h
      exact sx_sub [0, 1, 2, 3, 4] rfl (k1 _ rfl)
set_option maxRecDepth 100000 in
set_option maxHeartbeats 4000000 in
theorem mX6_wills {l : Launch} {E : Ev} {L : HL} {a0 : Nat} {v1 : Int32} {v2 : Int32} {z : Int32 × HL} (h0 : isX6 E a0) (h : fX6_wills a0 v1 v2 L = some z) : Mt l E yX6_wills cX6_wills 5 (some .int) (4) [.ref a0, .int v1, .int v2] L (some (.int z.1)) (z.2) := by
  obtain ⟨r, hr⟩ : ∃ r : Option Value, r = some (.int z.1) := ⟨_, rfl⟩
  obtain ⟨L', hL'⟩ : ∃ L' : HL, L' = z.2 := ⟨_, rfl⟩
  have k3 : r = some (.int z.1) ∧ L' = z.2 := ⟨hr, hL'⟩
  refine mt_eq hr hL' ?_
  refine Mt.of (plainFor_of_name (by decide)) (Nat.le_of_ble_eq_true rfl) ?_
  refine sx_sub (lv' := [(0, .ref a0), (1, .int v1), (2, .int v2)]) [0, 1, 2] rfl ?_
  unfold fX6_wills at h
  refine sx_aload_n (i := 0) (j := 0) dX6_wills_0 rfl rfl ?_
  refine sx_get (k := 0) (v := .ref (a0 + 1)) dX6_wills_1 (X6_k h0) cf_6 (Or.inl wd_340) (by decide : 0 < 13) (congrArg Value.ref (X6_r0 h0)) ?_
  refine sx_iload_n (i := 1) (j := 1) dX6_wills_4 rfl rfl ?_
  refine sx_iload_n (i := 2) (j := 2) dX6_wills_5 rfl rfl ?_
  obtain ⟨z1, ez1, h⟩ := bd_e h
  refine sx_callV (avs := [.int v1, .int v2]) (rest := []) (st1 := [.int z1]) dX6_wills_6 (mX4_hasTwo (X6_o0 h0) ez1) ciX4_hasTwo (Or.inr ⟨_, nw_718⟩) (X4_k (X6_o0 h0)) rfl rfl rfl rfl (rm_m rfl) rfl (Nat.le_of_ble_eq_true rfl) rfl ?_
  refine sx_if_ne (tgt := 21) dX6_wills_9 rfl (fun c2 => ?_) (fun c2 => ?_)
  · have h := if_e c2 h
    refine sx_aload_n (i := 0) (j := 0) dX6_wills_12 rfl rfl ?_
    refine sx_bipush (v := (-2 : Int32)) dX6_wills_13 (by decide) ?_
    refine sx_bipush (v := (-2 : Int32)) dX6_wills_15 (by decide) ?_
    obtain ⟨z3, ez3, h⟩ := bd_e h
    refine sx_callV (avs := [.int (-2 : Int32), .int (-2 : Int32)]) (rest := []) (st1 := [.int z3.1]) dX6_wills_17 (mX6_refused h0 ez3) ciX6_refused (Or.inl wd_404) (X6_k h0) rfl rfl rfl rfl (rm_m rfl) rfl (Nat.le_of_ble_eq_true rfl) rfl ?_
    obtain rfl := Option.some.inj h
    exact sx_iret dX6_wills_20 rfl rfl k3.1 k3.2
  · have h := if_n c2 h
    refine sx_iconst (v := (0 : Int32)) dX6_wills_21 (by decide) ?_
    refine sx_istore_n (i := 3) (lv' := [(0, .ref a0), (1, .int v1), (2, .int v2), (3, .int (0 : Int32))]) dX6_wills_22 rfl (by decide) rfl ?_
    refine sx_iconst (v := (0 : Int32)) dX6_wills_23 (by decide) ?_
    refine sx_istore (lv' := [(0, .ref a0), (1, .int v1), (2, .int v2), (3, .int (0 : Int32)), (4, .int (0 : Int32))]) dX6_wills_24 (by decide) rfl ?_
    obtain ⟨x11, hx, q1, q2⟩ := lx_e h
    refine sx_sub (lv' := [(0, .ref a0), (1, .int v1), (2, .int v2), (3, .int (0 : Int32)), (4, .int (0 : Int32))]) [0, 1, 2, 3, 4] rfl ?_
    refine lp_go (fun s10 => Sx l E yX6_wills cX6_wills 5 (some .int) (4) r L' 26 [(0, .ref a0), (1, .int v1), (2, .int v2), (3, .int s10.1), (4, .int s10.2.1)] [] s10.2.2) x11 (fun s10 z2 hz c1 c2 => ?_) FU _ hx
    refine tX6_wills_b26 h0 hz (fun s2 e => c1 s2 e) (fun s10 e => ?_) (fun v e => ?_)
    · have h := q1 _ (c2 _ e).symm
      refine sx_iload_n (i := 3) (j := 0) dX6_wills_61 rfl rfl ?_
      obtain rfl := Option.some.inj h
      exact sx_iret dX6_wills_62 rfl rfl k3.1 k3.2
    · have e2 := Option.some.inj (q2 _ (c2 _ e).symm)
      subst e2
      exact k3
set_option maxRecDepth 100000 in
set_option maxHeartbeats 4000000 in
theorem mX6_heirByWall {l : Launch} {E : Ev} {L : HL} {a0 : Nat} {v1 : Int32} {v2 : Int32} {v3 : Int32} {z : Int32 × HL} (h0 : isX6 E a0) (h : fX6_heirByWall a0 v1 v2 v3 L = some z) : Mt l E yX6_heirByWall cX6_heirByWall 5 (some .int) (5) [.ref a0, .int v1, .int v2, .int v3] L (some (.int z.1)) (z.2) := by
  obtain ⟨r, hr⟩ : ∃ r : Option Value, r = some (.int z.1) := ⟨_, rfl⟩
  obtain ⟨L', hL'⟩ : ∃ L' : HL, L' = z.2 := ⟨_, rfl⟩
  have k3 : r = some (.int z.1) ∧ L' = z.2 := ⟨hr, hL'⟩
  refine mt_eq hr hL' ?_
  refine Mt.of (plainFor_of_name (by decide)) (Nat.le_of_ble_eq_true rfl) ?_
  refine sx_sub (lv' := [(0, .ref a0), (1, .int v1), (2, .int v2), (3, .int v3)]) [0, 1, 2, 3] rfl ?_
  unfold fX6_heirByWall at h
  refine sx_aload_n (i := 0) (j := 0) dX6_heirByWall_0 rfl rfl ?_
  refine sx_get (k := 1) (v := .ref (a0 + 15)) dX6_heirByWall_1 (X6_k h0) cf_6 (Or.inl wd_341) (by decide : 1 < 13) (congrArg Value.ref (X6_r1 h0)) ?_
  refine sx_iload_n (i := 2) (j := 2) dX6_heirByWall_4 rfl rfl ?_
  refine sx_iload_n (i := 3) (j := 3) dX6_heirByWall_5 rfl rfl ?_
  refine sx_iconst (v := (1 : Int32)) dX6_heirByWall_6 (by decide) ?_
  obtain ⟨z1, ez1, h⟩ := bd_e h
  refine sx_callV (avs := [.int v2, .int v3, .int (1 : Int32)]) (rest := []) (st1 := [.int z1.1]) dX6_heirByWall_7 (mX4_setWall (X6_o1 h0) ez1) ciX4_setWall (Or.inr ⟨_, nw_432⟩) (X4_k (X6_o1 h0)) rfl rfl rfl rfl (rm_m rfl) rfl (Nat.le_of_ble_eq_true rfl) rfl ?_
  refine sx_pop dX6_heirByWall_10 rfl ?_
  refine sx_aload_n (i := 0) (j := 0) dX6_heirByWall_11 rfl rfl ?_
  refine sx_get (k := 1) (v := .ref (a0 + 15)) dX6_heirByWall_12 (X6_k h0) cf_6 (Or.inl wd_341) (by decide : 1 < 13) (congrArg Value.ref (X6_r1 h0)) ?_
  refine sx_iload_n (i := 1) (j := 1) dX6_heirByWall_15 rfl rfl ?_
  obtain ⟨z2, ez2, h⟩ := bd_e h
  refine sx_callV (avs := [.int v1]) (rest := []) (st1 := [.int z2.1]) dX6_heirByWall_16 (mX4_heirOf (X6_o1 h0) ez2) ciX4_heirOf (Or.inr ⟨_, nw_727⟩) (X4_k (X6_o1 h0)) rfl rfl rfl rfl (rm_m rfl) rfl (Nat.le_of_ble_eq_true rfl) rfl ?_
  refine sx_istore (lv' := [(0, .ref a0), (1, .int v1), (2, .int v2), (3, .int v3), (4, .int z2.1)]) dX6_heirByWall_19 (by decide) rfl ?_
  refine sx_aload_n (i := 0) (j := 0) dX6_heirByWall_21 rfl rfl ?_
  refine sx_get (k := 1) (v := .ref (a0 + 15)) dX6_heirByWall_22 (X6_k h0) cf_6 (Or.inl wd_341) (by decide : 1 < 13) (congrArg Value.ref (X6_r1 h0)) ?_
  refine sx_iload_n (i := 2) (j := 2) dX6_heirByWall_25 rfl rfl ?_
  refine sx_iload_n (i := 3) (j := 3) dX6_heirByWall_26 rfl rfl ?_
  refine sx_iconst (v := (0 : Int32)) dX6_heirByWall_27 (by decide) ?_
  obtain ⟨z3, ez3, h⟩ := bd_e h
  refine sx_callV (avs := [.int v2, .int v3, .int (0 : Int32)]) (rest := []) (st1 := [.int z3.1]) dX6_heirByWall_28 (mX4_setWall (X6_o1 h0) ez3) ciX4_setWall (Or.inr ⟨_, nw_432⟩) (X4_k (X6_o1 h0)) rfl rfl rfl rfl (rm_m rfl) rfl (Nat.le_of_ble_eq_true rfl) rfl ?_
  refine sx_pop dX6_heirByWall_31 rfl ?_
  refine sx_iload (j := 4) dX6_heirByWall_32 rfl ?_
  obtain rfl := Option.some.inj h
  exact sx_iret dX6_heirByWall_34 rfl rfl k3.1 k3.2
set_option maxRecDepth 100000 in
set_option maxHeartbeats 4000000 in
theorem tX6_buildFor_b65 {l : Launch} {E : Ev} {r : Option Value} {L' L : HL} {a0 : Nat} {v1 : Int32} {v2 : Int32} {v3 : Int32} {v4 : Int32} {z : Tn (Int32 × HL) (Int32 × HL)} (h0 : isX6 E a0) (h : fX6_buildFor_b65 a0 v1 v2 v3 v4 L = some z) (k1 : ∀ s, z = .inl s → Sx l E yX6_buildFor cX6_buildFor 5 (some .int) (6) r L' 65 [(0, .ref a0), (1, .int v1), (2, .int v2), (3, .int v3), (4, .int s.1)] [] s.2) (k2 : ∀ s, z = .inr (.inl s) → Sx l E yX6_buildFor cX6_buildFor 5 (some .int) (6) r L' 116 [(0, .ref a0), (1, .int v1), (2, .int v2), (3, .int v3)] [] s.2) (k3 : ∀ v, z = .inr (.inr v) → r = some (.int v.1) ∧ L' = v.2) : Sx l E yX6_buildFor cX6_buildFor 5 (some .int) (6) r L' 65 [(0, .ref a0), (1, .int v1), (2, .int v2), (3, .int v3), (4, .int v4)] [] L := by
  unfold fX6_buildFor_b65 at h
  refine sx_iload (j := 4) dX6_buildFor_65 rfl ?_
  refine sx_aload_n (i := 0) (j := 0) dX6_buildFor_67 rfl rfl ?_
  refine sx_get (k := 1) (v := .ref (a0 + 15)) dX6_buildFor_68 (X6_k h0) cf_6 (Or.inl wd_341) (by decide : 1 < 13) (congrArg Value.ref (X6_r1 h0)) ?_
  refine sx_get (k := 0) (v := .int (L.1 (a0 + 15) 0)) dX6_buildFor_71 (X4_k (X6_o1 h0)) cf_4 (Or.inr ⟨_, nw_134⟩) (by decide : 0 < 17) rfl ?_
  refine sx_icmp_ge (tgt := 116) dX6_buildFor_74 rfl (fun c9 => ?_) (fun c9 => ?_)
  · have h := if_e c9 h
    obtain rfl := Option.some.inj h
    exact sx_sub [0, 1, 2, 3] rfl (k2 _ rfl)
  · have h := if_n c9 h
    refine sx_aload_n (i := 0) (j := 0) dX6_buildFor_77 rfl rfl ?_
    refine sx_get (k := 1) (v := .ref (a0 + 15)) dX6_buildFor_78 (X6_k h0) cf_6 (Or.inl wd_341) (by decide : 1 < 13) (congrArg Value.ref (X6_r1 h0)) ?_
    refine sx_iload_n (i := 3) (j := 3) dX6_buildFor_81 rfl rfl ?_
    refine sx_iload (j := 4) dX6_buildFor_82 rfl ?_
    obtain ⟨z10, ez10, h⟩ := bd_e h
    refine sx_callV (avs := [.int v3, .int v4]) (rest := []) (st1 := [.int z10]) dX6_buildFor_84 (mX4_mayWall (X6_o1 h0) ez10) ciX4_mayWall (Or.inr ⟨_, nw_740⟩) (X4_k (X6_o1 h0)) rfl rfl rfl rfl (rm_m rfl) rfl (Nat.le_of_ble_eq_true rfl) rfl ?_
    refine sx_if_eq (tgt := 110) dX6_buildFor_87 rfl (fun c11 => ?_) (fun c11 => ?_)
    · have h := if_e c11 h
      obtain ⟨w12, ew12⟩ : ∃ w : Int32, w = v4 + (1 : Int32) := ⟨_, rfl⟩
      have h := lt_e ew12 h
      refine sx_iinc (j := 4) (v := w12) (lv' := [(0, .ref a0), (1, .int v1), (2, .int v2), (3, .int v3), (4, .int w12)]) dX6_buildFor_110 rfl (ii_1 ew12) (by decide) rfl ?_
      refine sx_goto (tgt := 65) dX6_buildFor_113 rfl ?_
      obtain rfl := Option.some.inj h
      exact sx_sub [0, 1, 2, 3, 4] rfl (k1 _ rfl)
    · have h := if_n c11 h
      refine sx_aload_n (i := 0) (j := 0) dX6_buildFor_90 rfl rfl ?_
      refine sx_iload_n (i := 1) (j := 1) dX6_buildFor_91 rfl rfl ?_
      refine sx_iload_n (i := 3) (j := 3) dX6_buildFor_92 rfl rfl ?_
      refine sx_iload (j := 4) dX6_buildFor_93 rfl ?_
      obtain ⟨z13, ez13, h⟩ := bd_e h
      refine sx_callV (avs := [.int v1, .int v3, .int v4]) (rest := []) (st1 := [.int z13.1]) dX6_buildFor_95 (mX6_heirByWall h0 ez13) ciX6_heirByWall (Or.inl wd_744) (X6_k h0) rfl rfl rfl rfl (rm_m rfl) rfl (Nat.le_of_ble_eq_true rfl) rfl ?_
      refine sx_iload_n (i := 2) (j := 2) dX6_buildFor_98 rfl rfl ?_
      refine sx_icmp_ne (tgt := 110) dX6_buildFor_99 rfl (fun c14 => ?_) (fun c14 => ?_)
      · have h := if_e c14 h
        refine sx_bipush (v := (10 : Int32)) dX6_buildFor_102 (by decide) ?_
        refine sx_iload_n (i := 3) (j := 3) dX6_buildFor_104 rfl rfl ?_
        refine sx_imul dX6_buildFor_105 ?_
        refine sx_iload (j := 4) dX6_buildFor_106 rfl ?_
        refine sx_iadd dX6_buildFor_108 ?_
        obtain rfl := Option.some.inj h
        exact sx_iret dX6_buildFor_109 rfl rfl (k3 _ rfl).1 (k3 _ rfl).2
      · have h := if_n c14 h
        obtain ⟨w15, ew15⟩ : ∃ w : Int32, w = v4 + (1 : Int32) := ⟨_, rfl⟩
        have h := lt_e ew15 h
        refine sx_iinc (j := 4) (v := w15) (lv' := [(0, .ref a0), (1, .int v1), (2, .int v2), (3, .int v3), (4, .int w15)]) dX6_buildFor_110 rfl (ii_1 ew15) (by decide) rfl ?_
        refine sx_goto (tgt := 65) dX6_buildFor_113 rfl ?_
        obtain rfl := Option.some.inj h
        exact sx_sub [0, 1, 2, 3, 4] rfl (k1 _ rfl)
set_option maxRecDepth 100000 in
set_option maxHeartbeats 4000000 in
theorem tX6_buildFor_b49 {l : Launch} {E : Ev} {r : Option Value} {L' L : HL} {a0 : Nat} {v1 : Int32} {v2 : Int32} {v3 : Int32} {z : Tn (Int32 × HL) (Int32 × HL)} (h0 : isX6 E a0) (h : fX6_buildFor_b49 a0 v1 v2 v3 L = some z) (k1 : ∀ s, z = .inl s → Sx l E yX6_buildFor cX6_buildFor 5 (some .int) (6) r L' 49 [(0, .ref a0), (1, .int v1), (2, .int v2), (3, .int s.1)] [] s.2) (k2 : ∀ s, z = .inr (.inl s) → Sx l E yX6_buildFor cX6_buildFor 5 (some .int) (6) r L' 122 [] [] s.2) (k3 : ∀ v, z = .inr (.inr v) → r = some (.int v.1) ∧ L' = v.2) : Sx l E yX6_buildFor cX6_buildFor 5 (some .int) (6) r L' 49 [(0, .ref a0), (1, .int v1), (2, .int v2), (3, .int v3)] [] L := by
  unfold fX6_buildFor_b49 at h
  refine sx_iload_n (i := 3) (j := 3) dX6_buildFor_49 rfl rfl ?_
  refine sx_aload_n (i := 0) (j := 0) dX6_buildFor_50 rfl rfl ?_
  refine sx_get (k := 1) (v := .ref (a0 + 15)) dX6_buildFor_51 (X6_k h0) cf_6 (Or.inl wd_341) (by decide : 1 < 13) (congrArg Value.ref (X6_r1 h0)) ?_
  refine sx_get (k := 0) (v := .int (L.1 (a0 + 15) 0)) dX6_buildFor_54 (X4_k (X6_o1 h0)) cf_4 (Or.inr ⟨_, nw_134⟩) (by decide : 0 < 17) rfl ?_
  refine sx_icmp_ge (tgt := 122) dX6_buildFor_57 rfl (fun c7 => ?_) (fun c7 => ?_)
  · have h := if_e c7 h
    obtain rfl := Option.some.inj h
    exact sx_sub [] rfl (k2 _ rfl)
  · have h := if_n c7 h
    refine sx_iload_n (i := 3) (j := 3) dX6_buildFor_60 rfl rfl ?_
    refine sx_iconst (v := (1 : Int32)) dX6_buildFor_61 (by decide) ?_
    refine sx_iadd dX6_buildFor_62 ?_
    refine sx_topi (fun w8 ew8 => ?_)
    have h := lt_e ew8 h
    refine sx_istore (lv' := [(0, .ref a0), (1, .int v1), (2, .int v2), (3, .int v3), (4, .int w8)]) dX6_buildFor_63 (by decide) rfl ?_
    obtain ⟨x18, hx, q1, q2⟩ := lx_e h
    refine sx_sub (lv' := [(0, .ref a0), (1, .int v1), (2, .int v2), (3, .int v3), (4, .int w8)]) [0, 1, 2, 3, 4] rfl ?_
    refine lp_go (fun s16 => Sx l E yX6_buildFor cX6_buildFor 5 (some .int) (6) r L' 65 [(0, .ref a0), (1, .int v1), (2, .int v2), (3, .int v3), (4, .int s16.1)] [] s16.2) x18 (fun s16 z2 hz c1 c2 => ?_) FU _ hx
    refine tX6_buildFor_b65 h0 hz (fun s2 e => c1 s2 e) (fun s16 e => ?_) (fun v e => ?_)
    · have h := q1 _ (c2 _ e).symm
      obtain ⟨w17, ew17⟩ : ∃ w : Int32, w = v3 + (1 : Int32) := ⟨_, rfl⟩
      have h := lt_e ew17 h
      refine sx_iinc (j := 3) (v := w17) (lv' := [(0, .ref a0), (1, .int v1), (2, .int v2), (3, .int w17)]) dX6_buildFor_116 rfl (ii_1 ew17) (by decide) rfl ?_
      refine sx_goto (tgt := 49) dX6_buildFor_119 rfl ?_
      obtain rfl := Option.some.inj h
      exact sx_sub [0, 1, 2, 3] rfl (k1 _ rfl)
    · exact k3 _ (Option.some.inj (q2 _ (c2 _ e).symm)).symm
set_option maxRecDepth 100000 in
set_option maxHeartbeats 4000000 in
theorem mX6_buildFor {l : Launch} {E : Ev} {L : HL} {a0 : Nat} {v1 : Int32} {v2 : Int32} {z : Int32 × HL} (h0 : isX6 E a0) (h : fX6_buildFor a0 v1 v2 L = some z) : Mt l E yX6_buildFor cX6_buildFor 5 (some .int) (6) [.ref a0, .int v1, .int v2] L (some (.int z.1)) (z.2) := by
  obtain ⟨r, hr⟩ : ∃ r : Option Value, r = some (.int z.1) := ⟨_, rfl⟩
  obtain ⟨L', hL'⟩ : ∃ L' : HL, L' = z.2 := ⟨_, rfl⟩
  have k3 : r = some (.int z.1) ∧ L' = z.2 := ⟨hr, hL'⟩
  refine mt_eq hr hL' ?_
  refine Mt.of (plainFor_of_name (by decide)) (Nat.le_of_ble_eq_true rfl) ?_
  refine sx_sub (lv' := [(0, .ref a0), (1, .int v1), (2, .int v2)]) [0, 1, 2] rfl ?_
  unfold fX6_buildFor at h
  refine sx_aload_n (i := 0) (j := 0) dX6_buildFor_0 rfl rfl ?_
  refine sx_get (k := 0) (v := .ref (a0 + 1)) dX6_buildFor_1 (X6_k h0) cf_6 (Or.inl wd_340) (by decide : 0 < 13) (congrArg Value.ref (X6_r0 h0)) ?_
  refine sx_iload_n (i := 1) (j := 1) dX6_buildFor_4 rfl rfl ?_
  refine sx_iload_n (i := 2) (j := 2) dX6_buildFor_5 rfl rfl ?_
  obtain ⟨z1, ez1, h⟩ := bd_e h
  refine sx_callV (avs := [.int v1, .int v2]) (rest := []) (st1 := [.int z1]) dX6_buildFor_6 (mX4_hasTwo (X6_o0 h0) ez1) ciX4_hasTwo (Or.inr ⟨_, nw_718⟩) (X4_k (X6_o0 h0)) rfl rfl rfl rfl (rm_m rfl) rfl (Nat.le_of_ble_eq_true rfl) rfl ?_
  refine sx_if_ne (tgt := 21) dX6_buildFor_9 rfl (fun c2 => ?_) (fun c2 => ?_)
  · have h := if_e c2 h
    refine sx_aload_n (i := 0) (j := 0) dX6_buildFor_12 rfl rfl ?_
    refine sx_bipush (v := (-2 : Int32)) dX6_buildFor_13 (by decide) ?_
    refine sx_bipush (v := (-2 : Int32)) dX6_buildFor_15 (by decide) ?_
    obtain ⟨z3, ez3, h⟩ := bd_e h
    refine sx_callV (avs := [.int (-2 : Int32), .int (-2 : Int32)]) (rest := []) (st1 := [.int z3.1]) dX6_buildFor_17 (mX6_refused h0 ez3) ciX6_refused (Or.inl wd_404) (X6_k h0) rfl rfl rfl rfl (rm_m rfl) rfl (Nat.le_of_ble_eq_true rfl) rfl ?_
    obtain rfl := Option.some.inj h
    exact sx_iret dX6_buildFor_20 rfl rfl k3.1 k3.2
  · have h := if_n c2 h
    refine sx_aload_n (i := 0) (j := 0) dX6_buildFor_21 rfl rfl ?_
    refine sx_get (k := 0) (v := .ref (a0 + 1)) dX6_buildFor_22 (X6_k h0) cf_6 (Or.inl wd_340) (by decide : 0 < 13) (congrArg Value.ref (X6_r0 h0)) ?_
    refine sx_iload_n (i := 1) (j := 1) dX6_buildFor_25 rfl rfl ?_
    obtain ⟨z4, ez4, h⟩ := bd_e h
    refine sx_callV (avs := [.int v1]) (rest := []) (st1 := [.int z4.1]) dX6_buildFor_26 (mX4_heirOf (X6_o0 h0) ez4) ciX4_heirOf (Or.inr ⟨_, nw_727⟩) (X4_k (X6_o0 h0)) rfl rfl rfl rfl (rm_m rfl) rfl (Nat.le_of_ble_eq_true rfl) rfl ?_
    refine sx_iload_n (i := 2) (j := 2) dX6_buildFor_29 rfl rfl ?_
    refine sx_icmp_ne (tgt := 36) dX6_buildFor_30 rfl (fun c5 => ?_) (fun c5 => ?_)
    · have h := if_e c5 h
      refine sx_bipush (v := (99 : Int32)) dX6_buildFor_33 (by decide) ?_
      obtain rfl := Option.some.inj h
      exact sx_iret dX6_buildFor_35 rfl rfl k3.1 k3.2
    · have h := if_n c5 h
      refine sx_aload_n (i := 0) (j := 0) dX6_buildFor_36 rfl rfl ?_
      refine sx_get (k := 1) (v := .ref (a0 + 15)) dX6_buildFor_37 (X6_k h0) cf_6 (Or.inl wd_341) (by decide : 1 < 13) (congrArg Value.ref (X6_r1 h0)) ?_
      refine sx_aload_n (i := 0) (j := 0) dX6_buildFor_40 rfl rfl ?_
      refine sx_get (k := 0) (v := .ref (a0 + 1)) dX6_buildFor_41 (X6_k h0) cf_6 (Or.inl wd_340) (by decide : 0 < 13) (congrArg Value.ref (X6_r0 h0)) ?_
      obtain ⟨z6, ez6, h⟩ := bd_e h
      refine sx_callV (avs := [.ref (a0 + 1)]) (rest := []) (st1 := []) dX6_buildFor_44 (mX4_takeFrom (X6_o1 h0) (X6_o0 h0) ez6) ciX4_takeFrom (Or.inr ⟨_, nw_598⟩) (X4_k (X6_o1 h0)) rfl rfl rfl rfl (rm_m rfl) rfl (Nat.le_of_ble_eq_true rfl) rfl ?_
      refine sx_iconst (v := (0 : Int32)) dX6_buildFor_47 (by decide) ?_
      refine sx_istore_n (i := 3) (lv' := [(0, .ref a0), (1, .int v1), (2, .int v2), (3, .int (0 : Int32))]) dX6_buildFor_48 rfl (by decide) rfl ?_
      obtain ⟨x20, hx, q1, q2⟩ := lx_e h
      refine sx_sub (lv' := [(0, .ref a0), (1, .int v1), (2, .int v2), (3, .int (0 : Int32))]) [0, 1, 2, 3] rfl ?_
      refine lp_go (fun s19 => Sx l E yX6_buildFor cX6_buildFor 5 (some .int) (6) r L' 49 [(0, .ref a0), (1, .int v1), (2, .int v2), (3, .int s19.1)] [] s19.2) x20 (fun s19 z2 hz c1 c2 => ?_) FU _ hx
      refine tX6_buildFor_b49 h0 hz (fun s2 e => c1 s2 e) (fun s19 e => ?_) (fun v e => ?_)
      · have h := q1 _ (c2 _ e).symm
        refine sx_iconst (v := (-1 : Int32)) dX6_buildFor_122 (by decide) ?_
        obtain rfl := Option.some.inj h
        exact sx_iret dX6_buildFor_123 rfl rfl k3.1 k3.2
      · have e2 := Option.some.inj (q2 _ (c2 _ e).symm)
        subst e2
        exact k3
set_option maxRecDepth 100000 in
set_option maxHeartbeats 4000000 in
theorem tX6_adopts_b58 {l : Launch} {E : Ev} {r : Option Value} {L' L : HL} {a0 : Nat} {v1 : Int32} {v2 : Int32} {v3 : Int32} {v4 : Int32} {z : Tn (Int32 × Int32 × HL) (Int32 × HL)} (h0 : isX6 E a0) (h : fX6_adopts_b58 a0 v1 v2 v3 v4 L = some z) (k1 : ∀ s, z = .inl s → Sx l E yX6_adopts cX6_adopts 5 (some .int) (6) r L' 58 [(0, .ref a0), (1, .int v1), (2, .int v2), (3, .int s.1), (4, .int s.2.1)] [] s.2.2) (k2 : ∀ s, z = .inr (.inl s) → Sx l E yX6_adopts cX6_adopts 5 (some .int) (6) r L' 99 [(3, .int s.1)] [] s.2.2) (k3 : ∀ v, z = .inr (.inr v) → r = some (.int v.1) ∧ L' = v.2) : Sx l E yX6_adopts cX6_adopts 5 (some .int) (6) r L' 58 [(0, .ref a0), (1, .int v1), (2, .int v2), (3, .int v3), (4, .int v4)] [] L := by
  unfold fX6_adopts_b58 at h
  refine sx_iload (j := 4) dX6_adopts_58 rfl ?_
  refine sx_aload_n (i := 0) (j := 0) dX6_adopts_60 rfl rfl ?_
  refine sx_get (k := 0) (v := .ref (a0 + 1)) dX6_adopts_61 (X6_k h0) cf_6 (Or.inl wd_340) (by decide : 0 < 13) (congrArg Value.ref (X6_r0 h0)) ?_
  refine sx_get (k := 0) (v := .int (L.1 (a0 + 1) 0)) dX6_adopts_64 (X4_k (X6_o0 h0)) cf_4 (Or.inr ⟨_, nw_134⟩) (by decide : 0 < 17) rfl ?_
  refine sx_icmp_ge (tgt := 99) dX6_adopts_67 rfl (fun c8 => ?_) (fun c8 => ?_)
  · have h := if_e c8 h
    obtain rfl := Option.some.inj h
    exact sx_sub [3] rfl (k2 _ rfl)
  · have h := if_n c8 h
    refine sx_aload_n (i := 0) (j := 0) dX6_adopts_70 rfl rfl ?_
    refine sx_iload (j := 4) dX6_adopts_71 rfl ?_
    refine sx_iload_n (i := 1) (j := 1) dX6_adopts_73 rfl rfl ?_
    refine sx_iload_n (i := 2) (j := 2) dX6_adopts_74 rfl rfl ?_
    obtain ⟨z9, ez9, h⟩ := bd_e h
    refine sx_callV (avs := [.int v4, .int v1, .int v2]) (rest := []) (st1 := [.int z9.1]) dX6_adopts_75 (mX6_heirByWall h0 ez9) ciX6_heirByWall (Or.inl wd_744) (X6_k h0) rfl rfl rfl rfl (rm_m rfl) rfl (Nat.le_of_ble_eq_true rfl) rfl ?_
    refine sx_aload_n (i := 0) (j := 0) dX6_adopts_78 rfl rfl ?_
    refine sx_get (k := 0) (v := .ref (a0 + 1)) dX6_adopts_79 (X6_k h0) cf_6 (Or.inl wd_340) (by decide : 0 < 13) (congrArg Value.ref (X6_r0 h0)) ?_
    refine sx_iload (j := 4) dX6_adopts_82 rfl ?_
    obtain ⟨z10, ez10, h⟩ := bd_e h
    refine sx_callV (avs := [.int v4]) (rest := [.int z9.1]) (st1 := [.int z10.1, .int z9.1]) dX6_adopts_84 (mX4_heirOf (X6_o0 h0) ez10) ciX4_heirOf (Or.inr ⟨_, nw_727⟩) (X4_k (X6_o0 h0)) rfl rfl rfl rfl (rm_m rfl) rfl (Nat.le_of_ble_eq_true rfl) rfl ?_
    refine sx_icmp_eq (tgt := 93) dX6_adopts_87 rfl (fun c11 => ?_) (fun c11 => ?_)
    · have h := if_e c11 h
      obtain ⟨w12, ew12⟩ : ∃ w : Int32, w = v4 + (1 : Int32) := ⟨_, rfl⟩
      have h := lt_e ew12 h
      refine sx_iinc (j := 4) (v := w12) (lv' := [(0, .ref a0), (1, .int v1), (2, .int v2), (3, .int v3), (4, .int w12)]) dX6_adopts_93 rfl (ii_1 ew12) (by decide) rfl ?_
      refine sx_goto (tgt := 58) dX6_adopts_96 rfl ?_
      obtain rfl := Option.some.inj h
      exact sx_sub [0, 1, 2, 3, 4] rfl (k1 _ rfl)
    · have h := if_n c11 h
      obtain ⟨w13, ew13⟩ : ∃ w : Int32, w = v3 + (1 : Int32) := ⟨_, rfl⟩
      have h := lt_e ew13 h
      refine sx_iinc (j := 3) (v := w13) (lv' := [(0, .ref a0), (1, .int v1), (2, .int v2), (3, .int w13), (4, .int v4)]) dX6_adopts_90 rfl (ii_1 ew13) (by decide) rfl ?_
      obtain ⟨w14, ew14⟩ : ∃ w : Int32, w = v4 + (1 : Int32) := ⟨_, rfl⟩
      have h := lt_e ew14 h
      refine sx_iinc (j := 4) (v := w14) (lv' := [(0, .ref a0), (1, .int v1), (2, .int v2), (3, .int w13), (4, .int w14)]) dX6_adopts_93 rfl (ii_1 ew14) (by decide) rfl ?_
      refine sx_goto (tgt := 58) dX6_adopts_96 rfl ?_
      obtain rfl := Option.some.inj h
      exact sx_sub [0, 1, 2, 3, 4] rfl (k1 _ rfl)
set_option maxRecDepth 100000 in
set_option maxHeartbeats 4000000 in
theorem mX6_adopts {l : Launch} {E : Ev} {L : HL} {a0 : Nat} {v1 : Int32} {v2 : Int32} {z : Int32 × HL} (h0 : isX6 E a0) (h : fX6_adopts a0 v1 v2 L = some z) : Mt l E yX6_adopts cX6_adopts 5 (some .int) (6) [.ref a0, .int v1, .int v2] L (some (.int z.1)) (z.2) := by
  obtain ⟨r, hr⟩ : ∃ r : Option Value, r = some (.int z.1) := ⟨_, rfl⟩
  obtain ⟨L', hL'⟩ : ∃ L' : HL, L' = z.2 := ⟨_, rfl⟩
  have k3 : r = some (.int z.1) ∧ L' = z.2 := ⟨hr, hL'⟩
  refine mt_eq hr hL' ?_
  refine Mt.of (plainFor_of_name (by decide)) (Nat.le_of_ble_eq_true rfl) ?_
  refine sx_sub (lv' := [(0, .ref a0), (1, .int v1), (2, .int v2)]) [0, 1, 2] rfl ?_
  unfold fX6_adopts at h
  refine sx_aload_n (i := 0) (j := 0) dX6_adopts_0 rfl rfl ?_
  refine sx_get (k := 0) (v := .ref (a0 + 1)) dX6_adopts_1 (X6_k h0) cf_6 (Or.inl wd_340) (by decide : 0 < 13) (congrArg Value.ref (X6_r0 h0)) ?_
  refine sx_iload_n (i := 1) (j := 1) dX6_adopts_4 rfl rfl ?_
  refine sx_iload_n (i := 2) (j := 2) dX6_adopts_5 rfl rfl ?_
  obtain ⟨z1, ez1, h⟩ := bd_e h
  refine sx_callV (avs := [.int v1, .int v2]) (rest := []) (st1 := [.int z1]) dX6_adopts_6 (mX4_hasTwo (X6_o0 h0) ez1) ciX4_hasTwo (Or.inr ⟨_, nw_718⟩) (X4_k (X6_o0 h0)) rfl rfl rfl rfl (rm_m rfl) rfl (Nat.le_of_ble_eq_true rfl) rfl ?_
  refine sx_if_ne (tgt := 21) dX6_adopts_9 rfl (fun c2 => ?_) (fun c2 => ?_)
  · have h := if_e c2 h
    refine sx_aload_n (i := 0) (j := 0) dX6_adopts_12 rfl rfl ?_
    refine sx_bipush (v := (-2 : Int32)) dX6_adopts_13 (by decide) ?_
    refine sx_bipush (v := (-2 : Int32)) dX6_adopts_15 (by decide) ?_
    obtain ⟨z3, ez3, h⟩ := bd_e h
    refine sx_callV (avs := [.int (-2 : Int32), .int (-2 : Int32)]) (rest := []) (st1 := [.int z3.1]) dX6_adopts_17 (mX6_refused h0 ez3) ciX6_refused (Or.inl wd_404) (X6_k h0) rfl rfl rfl rfl (rm_m rfl) rfl (Nat.le_of_ble_eq_true rfl) rfl ?_
    obtain rfl := Option.some.inj h
    exact sx_iret dX6_adopts_20 rfl rfl k3.1 k3.2
  · have h := if_n c2 h
    refine sx_aload_n (i := 0) (j := 0) dX6_adopts_21 rfl rfl ?_
    refine sx_get (k := 0) (v := .ref (a0 + 1)) dX6_adopts_22 (X6_k h0) cf_6 (Or.inl wd_340) (by decide : 0 < 13) (congrArg Value.ref (X6_r0 h0)) ?_
    refine sx_iload_n (i := 1) (j := 1) dX6_adopts_25 rfl rfl ?_
    refine sx_iload_n (i := 2) (j := 2) dX6_adopts_26 rfl rfl ?_
    obtain ⟨z4, ez4, h⟩ := bd_e h
    refine sx_callV (avs := [.int v1, .int v2]) (rest := []) (st1 := [.int z4]) dX6_adopts_27 (mX4_mayWall (X6_o0 h0) ez4) ciX4_mayWall (Or.inr ⟨_, nw_740⟩) (X4_k (X6_o0 h0)) rfl rfl rfl rfl (rm_m rfl) rfl (Nat.le_of_ble_eq_true rfl) rfl ?_
    refine sx_if_ne (tgt := 42) dX6_adopts_30 rfl (fun c5 => ?_) (fun c5 => ?_)
    · have h := if_e c5 h
      refine sx_aload_n (i := 0) (j := 0) dX6_adopts_33 rfl rfl ?_
      refine sx_bipush (v := (-3 : Int32)) dX6_adopts_34 (by decide) ?_
      refine sx_bipush (v := (-3 : Int32)) dX6_adopts_36 (by decide) ?_
      obtain ⟨z6, ez6, h⟩ := bd_e h
      refine sx_callV (avs := [.int (-3 : Int32), .int (-3 : Int32)]) (rest := []) (st1 := [.int z6.1]) dX6_adopts_38 (mX6_refused h0 ez6) ciX6_refused (Or.inl wd_404) (X6_k h0) rfl rfl rfl rfl (rm_m rfl) rfl (Nat.le_of_ble_eq_true rfl) rfl ?_
      obtain rfl := Option.some.inj h
      exact sx_iret dX6_adopts_41 rfl rfl k3.1 k3.2
    · have h := if_n c5 h
      refine sx_aload_n (i := 0) (j := 0) dX6_adopts_42 rfl rfl ?_
      refine sx_get (k := 1) (v := .ref (a0 + 15)) dX6_adopts_43 (X6_k h0) cf_6 (Or.inl wd_341) (by decide : 1 < 13) (congrArg Value.ref (X6_r1 h0)) ?_
      refine sx_aload_n (i := 0) (j := 0) dX6_adopts_46 rfl rfl ?_
      refine sx_get (k := 0) (v := .ref (a0 + 1)) dX6_adopts_47 (X6_k h0) cf_6 (Or.inl wd_340) (by decide : 0 < 13) (congrArg Value.ref (X6_r0 h0)) ?_
      obtain ⟨z7, ez7, h⟩ := bd_e h
      refine sx_callV (avs := [.ref (a0 + 1)]) (rest := []) (st1 := []) dX6_adopts_50 (mX4_takeFrom (X6_o1 h0) (X6_o0 h0) ez7) ciX4_takeFrom (Or.inr ⟨_, nw_598⟩) (X4_k (X6_o1 h0)) rfl rfl rfl rfl (rm_m rfl) rfl (Nat.le_of_ble_eq_true rfl) rfl ?_
      refine sx_iconst (v := (0 : Int32)) dX6_adopts_53 (by decide) ?_
      refine sx_istore_n (i := 3) (lv' := [(0, .ref a0), (1, .int v1), (2, .int v2), (3, .int (0 : Int32))]) dX6_adopts_54 rfl (by decide) rfl ?_
      refine sx_iconst (v := (0 : Int32)) dX6_adopts_55 (by decide) ?_
      refine sx_istore (lv' := [(0, .ref a0), (1, .int v1), (2, .int v2), (3, .int (0 : Int32)), (4, .int (0 : Int32))]) dX6_adopts_56 (by decide) rfl ?_
      obtain ⟨x16, hx, q1, q2⟩ := lx_e h
      refine sx_sub (lv' := [(0, .ref a0), (1, .int v1), (2, .int v2), (3, .int (0 : Int32)), (4, .int (0 : Int32))]) [0, 1, 2, 3, 4] rfl ?_
      refine lp_go (fun s15 => Sx l E yX6_adopts cX6_adopts 5 (some .int) (6) r L' 58 [(0, .ref a0), (1, .int v1), (2, .int v2), (3, .int s15.1), (4, .int s15.2.1)] [] s15.2.2) x16 (fun s15 z2 hz c1 c2 => ?_) FU _ hx
      refine tX6_adopts_b58 h0 hz (fun s2 e => c1 s2 e) (fun s15 e => ?_) (fun v e => ?_)
      · have h := q1 _ (c2 _ e).symm
        refine sx_iload_n (i := 3) (j := 0) dX6_adopts_99 rfl rfl ?_
        obtain rfl := Option.some.inj h
        exact sx_iret dX6_adopts_100 rfl rfl k3.1 k3.2
      · have e2 := Option.some.inj (q2 _ (c2 _ e).symm)
        subst e2
        exact k3
set_option maxRecDepth 100000 in
set_option maxHeartbeats 4000000 in
theorem tX6_lookAhead_b13 {l : Launch} {E : Ev} {r : Option Value} {L' L : HL} {a0 : Nat} {v1 : Int32} {v2 : Int32} {z : Tn (Int32 × HL) (HL)} (h0 : isX6 E a0) (h : fX6_lookAhead_b13 a0 v1 v2 L = some z) (k1 : ∀ s, z = .inl s → Sx l E yX6_lookAhead cX6_lookAhead 3 (none) (6) r L' 13 [(0, .ref a0), (1, .int v1), (2, .int s.1)] [] s.2) (k2 : ∀ s, z = .inr (.inl s) → Sx l E yX6_lookAhead cX6_lookAhead 3 (none) (6) r L' 31 [] [] s.2) (k3 : ∀ v, z = .inr (.inr v) → r = none ∧ L' = v) : Sx l E yX6_lookAhead cX6_lookAhead 3 (none) (6) r L' 13 [(0, .ref a0), (1, .int v1), (2, .int v2)] [] L := by
  unfold fX6_lookAhead_b13 at h
  refine sx_iload_n (i := 2) (j := 2) dX6_lookAhead_13 rfl rfl ?_
  refine sx_iload_n (i := 1) (j := 1) dX6_lookAhead_14 rfl rfl ?_
  refine sx_icmp_ge (tgt := 31) dX6_lookAhead_15 rfl (fun c2 => ?_) (fun c2 => ?_)
  · have h := if_e c2 h
    obtain rfl := Option.some.inj h
    exact sx_sub [] rfl (k2 _ rfl)
  · have h := if_n c2 h
    refine sx_aload_n (i := 0) (j := 0) dX6_lookAhead_18 rfl rfl ?_
    refine sx_get (k := 1) (v := .ref (a0 + 15)) dX6_lookAhead_19 (X6_k h0) cf_6 (Or.inl wd_341) (by decide : 1 < 13) (congrArg Value.ref (X6_r1 h0)) ?_
    obtain ⟨z3, ez3, h⟩ := bd_e h
    refine sx_callV (avs := []) (rest := []) (st1 := []) dX6_lookAhead_22 (mX4_passYear (X6_o1 h0) ez3) ciX4_passYear (Or.inr ⟨_, nw_659⟩) (X4_k (X6_o1 h0)) rfl rfl rfl rfl (rm_m rfl) rfl (Nat.le_of_ble_eq_true rfl) rfl ?_
    obtain ⟨w4, ew4⟩ : ∃ w : Int32, w = v2 + (1 : Int32) := ⟨_, rfl⟩
    have h := lt_e ew4 h
    refine sx_iinc (j := 2) (v := w4) (lv' := [(0, .ref a0), (1, .int v1), (2, .int w4)]) dX6_lookAhead_25 rfl (ii_1 ew4) (by decide) rfl ?_
    refine sx_goto (tgt := 13) dX6_lookAhead_28 rfl ?_
    obtain rfl := Option.some.inj h
    exact sx_sub [0, 1, 2] rfl (k1 _ rfl)
set_option maxRecDepth 100000 in
set_option maxHeartbeats 4000000 in
theorem mX6_lookAhead {l : Launch} {E : Ev} {L : HL} {a0 : Nat} {v1 : Int32} {z : HL} (h0 : isX6 E a0) (h : fX6_lookAhead a0 v1 L = some z) : Mt l E yX6_lookAhead cX6_lookAhead 3 (none) (6) [.ref a0, .int v1] L (none) z := by
  obtain ⟨r, hr⟩ : ∃ r : Option Value, r = none := ⟨_, rfl⟩
  obtain ⟨L', hL'⟩ : ∃ L' : HL, L' = z := ⟨_, rfl⟩
  have k3 : r = none ∧ L' = z := ⟨hr, hL'⟩
  refine mt_eq hr hL' ?_
  refine Mt.of (plainFor_of_name (by decide)) (Nat.le_of_ble_eq_true rfl) ?_
  refine sx_sub (lv' := [(0, .ref a0), (1, .int v1)]) [0, 1] rfl ?_
  unfold fX6_lookAhead at h
  refine sx_aload_n (i := 0) (j := 0) dX6_lookAhead_0 rfl rfl ?_
  refine sx_get (k := 1) (v := .ref (a0 + 15)) dX6_lookAhead_1 (X6_k h0) cf_6 (Or.inl wd_341) (by decide : 1 < 13) (congrArg Value.ref (X6_r1 h0)) ?_
  refine sx_aload_n (i := 0) (j := 0) dX6_lookAhead_4 rfl rfl ?_
  refine sx_get (k := 0) (v := .ref (a0 + 1)) dX6_lookAhead_5 (X6_k h0) cf_6 (Or.inl wd_340) (by decide : 0 < 13) (congrArg Value.ref (X6_r0 h0)) ?_
  obtain ⟨z1, ez1, h⟩ := bd_e h
  refine sx_callV (avs := [.ref (a0 + 1)]) (rest := []) (st1 := []) dX6_lookAhead_8 (mX4_takeFrom (X6_o1 h0) (X6_o0 h0) ez1) ciX4_takeFrom (Or.inr ⟨_, nw_598⟩) (X4_k (X6_o1 h0)) rfl rfl rfl rfl (rm_m rfl) rfl (Nat.le_of_ble_eq_true rfl) rfl ?_
  refine sx_iconst (v := (0 : Int32)) dX6_lookAhead_11 (by decide) ?_
  refine sx_istore_n (i := 2) (lv' := [(0, .ref a0), (1, .int v1), (2, .int (0 : Int32))]) dX6_lookAhead_12 rfl (by decide) rfl ?_
  obtain ⟨x6, hx, q1, q2⟩ := lx_e h
  refine sx_sub (lv' := [(0, .ref a0), (1, .int v1), (2, .int (0 : Int32))]) [0, 1, 2] rfl ?_
  refine lp_go (fun s5 => Sx l E yX6_lookAhead cX6_lookAhead 3 (none) (6) r L' 13 [(0, .ref a0), (1, .int v1), (2, .int s5.1)] [] s5.2) x6 (fun s5 z2 hz c1 c2 => ?_) FU _ hx
  refine tX6_lookAhead_b13 h0 hz (fun s2 e => c1 s2 e) (fun s5 e => ?_) (fun v e => ?_)
  · have h := q1 _ (c2 _ e).symm
    obtain rfl := Option.some.inj h
    exact sx_vret dX6_lookAhead_31 rfl k3.1 k3.2
  · have e2 := Option.some.inj (q2 _ (c2 _ e).symm)
    subst e2
    exact k3
set_option maxRecDepth 100000 in
set_option maxHeartbeats 4000000 in
theorem tX6_lives_j21 {l : Launch} {E : Ev} {r : Option Value} {L' L : HL} {a0 : Nat} {z : Int32 × HL} (h0 : isX6 E a0) (h : fX6_lives_j21 a0 L = some z) (k3 : r = some (.int z.1) ∧ L' = z.2) : Sx l E yX6_lives cX6_lives 3 (some .int) (7) r L' 21 [(0, .ref a0)] [] L := by
  unfold fX6_lives_j21 at h
  refine sx_aload_n (i := 0) (j := 0) dX6_lives_21 rfl rfl ?_
  refine sx_bipush (v := (-2 : Int32)) dX6_lives_22 (by decide) ?_
  refine sx_bipush (v := (-10 : Int32)) dX6_lives_24 (by decide) ?_
  obtain ⟨z3, ez3, h⟩ := bd_e h
  refine sx_callV (avs := [.int (-2 : Int32), .int (-10 : Int32)]) (rest := []) (st1 := [.int z3.1]) dX6_lives_26 (mX6_refused h0 ez3) ciX6_refused (Or.inl wd_404) (X6_k h0) rfl rfl rfl rfl (rm_m rfl) rfl (Nat.le_of_ble_eq_true rfl) rfl ?_
  obtain rfl := Option.some.inj h
  exact sx_iret dX6_lives_29 rfl rfl k3.1 k3.2
set_option maxRecDepth 100000 in
set_option maxHeartbeats 4000000 in
theorem mX6_lives {l : Launch} {E : Ev} {L : HL} {a0 : Nat} {v1 : Int32} {v2 : Int32} {z : Int32 × HL} (h0 : isX6 E a0) (h : fX6_lives a0 v1 v2 L = some z) : Mt l E yX6_lives cX6_lives 3 (some .int) (7) [.ref a0, .int v1, .int v2] L (some (.int z.1)) (z.2) := by
  obtain ⟨r, hr⟩ : ∃ r : Option Value, r = some (.int z.1) := ⟨_, rfl⟩
  obtain ⟨L', hL'⟩ : ∃ L' : HL, L' = z.2 := ⟨_, rfl⟩
  have k3 : r = some (.int z.1) ∧ L' = z.2 := ⟨hr, hL'⟩
  refine mt_eq hr hL' ?_
  refine Mt.of (plainFor_of_name (by decide)) (Nat.le_of_ble_eq_true rfl) ?_
  refine sx_sub (lv' := [(0, .ref a0), (1, .int v1), (2, .int v2)]) [0, 1, 2] rfl ?_
  unfold fX6_lives at h
  refine sx_aload_n (i := 0) (j := 0) dX6_lives_0 rfl rfl ?_
  refine sx_get (k := 0) (v := .ref (a0 + 1)) dX6_lives_1 (X6_k h0) cf_6 (Or.inl wd_340) (by decide : 0 < 13) (congrArg Value.ref (X6_r0 h0)) ?_
  refine sx_iload_n (i := 1) (j := 1) dX6_lives_4 rfl rfl ?_
  obtain ⟨z1, ez1, h⟩ := bd_e h
  refine sx_callV (avs := [.int v1]) (rest := []) (st1 := [.int z1]) dX6_lives_5 (mX4_hasOne (X6_o0 h0) ez1) ciX4_hasOne (Or.inr ⟨_, nw_682⟩) (X4_k (X6_o0 h0)) rfl rfl rfl rfl (rm_m rfl) rfl (Nat.le_of_ble_eq_true rfl) rfl ?_
  refine sx_if_eq (tgt := 21) dX6_lives_8 rfl (fun c2 => ?_) (fun c2 => ?_)
  · have h := if_e c2 h
    exact sx_sub [0] rfl (tX6_lives_j21 h0 h k3)
  · have h := if_n c2 h
    refine sx_iload_n (i := 2) (j := 2) dX6_lives_11 rfl rfl ?_
    refine sx_if_lt (tgt := 21) dX6_lives_12 rfl (fun c4 => ?_) (fun c4 => ?_)
    · have h := if_e c4 h
      exact sx_sub [0] rfl (tX6_lives_j21 h0 h k3)
    · have h := if_n c4 h
      refine sx_iload_n (i := 2) (j := 2) dX6_lives_15 rfl rfl ?_
      refine sx_bipush (v := (60 : Int32)) dX6_lives_16 (by decide) ?_
      refine sx_icmp_le (tgt := 30) dX6_lives_18 rfl (fun c5 => ?_) (fun c5 => ?_)
      · have h := if_e c5 h
        refine sx_aload_n (i := 0) (j := 0) dX6_lives_30 rfl rfl ?_
        refine sx_iload_n (i := 2) (j := 2) dX6_lives_31 rfl rfl ?_
        obtain ⟨z6, ez6, h⟩ := bd_e h
        refine sx_callV (avs := [.int v2]) (rest := []) (st1 := []) dX6_lives_32 (mX6_lookAhead h0 ez6) ciX6_lookAhead (Or.inl wd_756) (X6_k h0) rfl rfl rfl rfl (rm_m rfl) rfl (Nat.le_of_ble_eq_true rfl) rfl ?_
        refine sx_aload_n (i := 0) (j := 0) dX6_lives_35 rfl rfl ?_
        refine sx_get (k := 1) (v := .ref (a0 + 15)) dX6_lives_36 (X6_k h0) cf_6 (Or.inl wd_341) (by decide : 1 < 13) (congrArg Value.ref (X6_r1 h0)) ?_
        refine sx_get (k := 12) (v := .ref ((a0 + 15) + 9)) dX6_lives_39 (X4_k (X6_o1 h0)) cf_4 (Or.inr ⟨_, nw_169⟩) (by decide : 12 < 17) (congrArg Value.ref (X4_r12 (X6_o1 h0))) ?_
        refine sx_iload_n (i := 1) (j := 1) dX6_lives_42 rfl rfl ?_
        obtain ⟨c7, h⟩ := gd_e h
        refine sx_iald dX6_lives_43 (X4_a12 (X6_o1 h0)) c7 ?_
        obtain rfl := Option.some.inj h
        exact sx_iret dX6_lives_44 rfl rfl k3.1 k3.2
      · have h := if_n c5 h
        exact sx_sub [0] rfl (tX6_lives_j21 h0 h k3)
set_option maxRecDepth 100000 in
set_option maxHeartbeats 4000000 in
theorem tX6_stand_j10 {l : Launch} {E : Ev} {r : Option Value} {L' L : HL} {a0 : Nat} {z : Int32 × HL} (h0 : isX6 E a0) (h : fX6_stand_j10 a0 L = some z) (k3 : r = some (.int z.1) ∧ L' = z.2) : Sx l E yX6_stand cX6_stand 2 (some .int) (7) r L' 10 [(0, .ref a0)] [] L := by
  unfold fX6_stand_j10 at h
  refine sx_aload_n (i := 0) (j := 0) dX6_stand_10 rfl rfl ?_
  refine sx_bipush (v := (-2 : Int32)) dX6_stand_11 (by decide) ?_
  refine sx_bipush (v := (-2 : Int32)) dX6_stand_13 (by decide) ?_
  obtain ⟨z2, ez2, h⟩ := bd_e h
  refine sx_callV (avs := [.int (-2 : Int32), .int (-2 : Int32)]) (rest := []) (st1 := [.int z2.1]) dX6_stand_15 (mX6_refused h0 ez2) ciX6_refused (Or.inl wd_404) (X6_k h0) rfl rfl rfl rfl (rm_m rfl) rfl (Nat.le_of_ble_eq_true rfl) rfl ?_
  obtain rfl := Option.some.inj h
  exact sx_iret dX6_stand_18 rfl rfl k3.1 k3.2
set_option maxRecDepth 100000 in
set_option maxHeartbeats 4000000 in
theorem mX6_stand {l : Launch} {E : Ev} {L : HL} {a0 : Nat} {v1 : Int32} {z : Int32 × HL} (h0 : isX6 E a0) (h : fX6_stand a0 v1 L = some z) : Mt l E yX6_stand cX6_stand 2 (some .int) (7) [.ref a0, .int v1] L (some (.int z.1)) (z.2) := by
  obtain ⟨r, hr⟩ : ∃ r : Option Value, r = some (.int z.1) := ⟨_, rfl⟩
  obtain ⟨L', hL'⟩ : ∃ L' : HL, L' = z.2 := ⟨_, rfl⟩
  have k3 : r = some (.int z.1) ∧ L' = z.2 := ⟨hr, hL'⟩
  refine mt_eq hr hL' ?_
  refine Mt.of (plainFor_of_name (by decide)) (Nat.le_of_ble_eq_true rfl) ?_
  refine sx_sub (lv' := [(0, .ref a0), (1, .int v1)]) [0, 1] rfl ?_
  unfold fX6_stand at h
  refine sx_iload_n (i := 1) (j := 1) dX6_stand_0 rfl rfl ?_
  refine sx_if_lt (tgt := 10) dX6_stand_1 rfl (fun c1 => ?_) (fun c1 => ?_)
  · have h := if_e c1 h
    exact sx_sub [0] rfl (tX6_stand_j10 h0 h k3)
  · have h := if_n c1 h
    refine sx_iload_n (i := 1) (j := 1) dX6_stand_4 rfl rfl ?_
    refine sx_bipush (v := (60 : Int32)) dX6_stand_5 (by decide) ?_
    refine sx_icmp_le (tgt := 19) dX6_stand_7 rfl (fun c3 => ?_) (fun c3 => ?_)
    · have h := if_e c3 h
      refine sx_aload_n (i := 0) (j := 0) dX6_stand_19 rfl rfl ?_
      refine sx_iload_n (i := 1) (j := 1) dX6_stand_20 rfl rfl ?_
      obtain ⟨z4, ez4, h⟩ := bd_e h
      refine sx_callV (avs := [.int v1]) (rest := []) (st1 := []) dX6_stand_21 (mX6_lookAhead h0 ez4) ciX6_lookAhead (Or.inl wd_756) (X6_k h0) rfl rfl rfl rfl (rm_m rfl) rfl (Nat.le_of_ble_eq_true rfl) rfl ?_
      refine sx_aload_n (i := 0) (j := 0) dX6_stand_24 rfl rfl ?_
      refine sx_get (k := 1) (v := .ref (a0 + 15)) dX6_stand_25 (X6_k h0) cf_6 (Or.inl wd_341) (by decide : 1 < 13) (congrArg Value.ref (X6_r1 h0)) ?_
      refine sx_get (k := 1) (v := .int (z4.1 (a0 + 15) 1)) dX6_stand_28 (X4_k (X6_o1 h0)) cf_4 (Or.inr ⟨_, nw_139⟩) (by decide : 1 < 17) rfl ?_
      obtain rfl := Option.some.inj h
      exact sx_iret dX6_stand_31 rfl rfl k3.1 k3.2
    · have h := if_n c3 h
      exact sx_sub [0] rfl (tX6_stand_j10 h0 h k3)
set_option maxRecDepth 100000 in
set_option maxHeartbeats 4000000 in
theorem tX6_overfull_j9 {l : Launch} {E : Ev} {r : Option Value} {L' L : HL} {a0 : Nat} {z : Int32 × HL} (h0 : isX6 E a0) (h : fX6_overfull_j9 a0 L = some z) (k3 : r = some (.int z.1) ∧ L' = z.2) : Sx l E yX6_overfull cX6_overfull 4 (some .int) (6) r L' 9 [(0, .ref a0)] [] L := by
  unfold fX6_overfull_j9 at h
  refine sx_aload_n (i := 0) (j := 0) dX6_overfull_9 rfl rfl ?_
  refine sx_bipush (v := (-2 : Int32)) dX6_overfull_10 (by decide) ?_
  refine sx_bipush (v := (-10 : Int32)) dX6_overfull_12 (by decide) ?_
  obtain ⟨z2, ez2, h⟩ := bd_e h
  refine sx_callV (avs := [.int (-2 : Int32), .int (-10 : Int32)]) (rest := []) (st1 := [.int z2.1]) dX6_overfull_14 (mX6_refused h0 ez2) ciX6_refused (Or.inl wd_404) (X6_k h0) rfl rfl rfl rfl (rm_m rfl) rfl (Nat.le_of_ble_eq_true rfl) rfl ?_
  obtain rfl := Option.some.inj h
  exact sx_iret dX6_overfull_17 rfl rfl k3.1 k3.2
set_option maxRecDepth 100000 in
set_option maxHeartbeats 4000000 in
theorem tX6_overfull_b31 {l : Launch} {E : Ev} {r : Option Value} {L' L : HL} {a0 : Nat} {v1 : Int32} {v2 : Int32} {z : Tn (Int32 × HL) (Int32 × HL)} (h0 : isX6 E a0) (h : fX6_overfull_b31 a0 v1 v2 L = some z) (k1 : ∀ s, z = .inl s → Sx l E yX6_overfull cX6_overfull 4 (some .int) (6) r L' 31 [(0, .ref a0), (1, .int v1), (2, .int s.1)] [] s.2) (k2 : ∀ s, z = .inr (.inl s) → Sx l E yX6_overfull cX6_overfull 4 (some .int) (6) r L' 73 [] [] s.2) (k3 : ∀ v, z = .inr (.inr v) → r = some (.int v.1) ∧ L' = v.2) : Sx l E yX6_overfull cX6_overfull 4 (some .int) (6) r L' 31 [(0, .ref a0), (1, .int v1), (2, .int v2)] [] L := by
  unfold fX6_overfull_b31 at h
  refine sx_iload_n (i := 2) (j := 2) dX6_overfull_31 rfl rfl ?_
  refine sx_bipush (v := (60 : Int32)) dX6_overfull_32 (by decide) ?_
  refine sx_icmp_gt (tgt := 73) dX6_overfull_34 rfl (fun c5 => ?_) (fun c5 => ?_)
  · have h := if_e c5 h
    obtain rfl := Option.some.inj h
    exact sx_sub [] rfl (k2 _ rfl)
  · have h := if_n c5 h
    refine sx_aload_n (i := 0) (j := 0) dX6_overfull_37 rfl rfl ?_
    refine sx_get (k := 1) (v := .ref (a0 + 15)) dX6_overfull_38 (X6_k h0) cf_6 (Or.inl wd_341) (by decide : 1 < 13) (congrArg Value.ref (X6_r1 h0)) ?_
    obtain ⟨z6, ez6, h⟩ := bd_e h
    refine sx_callV (avs := []) (rest := []) (st1 := [.int z6]) dX6_overfull_41 (mX4_firstOverfull (X6_o1 h0) ez6) ciX4_firstOverfull (Or.inr ⟨_, nw_768⟩) (X4_k (X6_o1 h0)) rfl rfl rfl rfl (rm_m rfl) rfl (Nat.le_of_ble_eq_true rfl) rfl ?_
    refine sx_istore_n (i := 3) (lv' := [(0, .ref a0), (1, .int v1), (2, .int v2), (3, .int z6)]) dX6_overfull_44 rfl (by decide) rfl ?_
    refine sx_iload_n (i := 3) (j := 3) dX6_overfull_45 rfl rfl ?_
    refine sx_iconst (v := (-1 : Int32)) dX6_overfull_46 (by decide) ?_
    refine sx_icmp_eq (tgt := 60) dX6_overfull_47 rfl (fun c7 => ?_) (fun c7 => ?_)
    · have h := if_e c7 h
      refine sx_aload_n (i := 0) (j := 0) dX6_overfull_60 rfl rfl ?_
      refine sx_get (k := 1) (v := .ref (a0 + 15)) dX6_overfull_61 (X6_k h0) cf_6 (Or.inl wd_341) (by decide : 1 < 13) (congrArg Value.ref (X6_r1 h0)) ?_
      obtain ⟨z8, ez8, h⟩ := bd_e h
      refine sx_callV (avs := []) (rest := []) (st1 := []) dX6_overfull_64 (mX4_passYear (X6_o1 h0) ez8) ciX4_passYear (Or.inr ⟨_, nw_659⟩) (X4_k (X6_o1 h0)) rfl rfl rfl rfl (rm_m rfl) rfl (Nat.le_of_ble_eq_true rfl) rfl ?_
      obtain ⟨w9, ew9⟩ : ∃ w : Int32, w = v2 + (1 : Int32) := ⟨_, rfl⟩
      have h := lt_e ew9 h
      refine sx_iinc (j := 2) (v := w9) (lv' := [(0, .ref a0), (1, .int v1), (2, .int w9), (3, .int z6)]) dX6_overfull_67 rfl (ii_1 ew9) (by decide) rfl ?_
      refine sx_goto (tgt := 31) dX6_overfull_70 rfl ?_
      obtain rfl := Option.some.inj h
      exact sx_sub [0, 1, 2] rfl (k1 _ rfl)
    · have h := if_n c7 h
      refine sx_iload_n (i := 1) (j := 1) dX6_overfull_50 rfl rfl ?_
      refine sx_if_ne (tgt := 58) dX6_overfull_51 rfl (fun c10 => ?_) (fun c10 => ?_)
      · have h := if_e c10 h
        refine sx_iload_n (i := 2) (j := 2) dX6_overfull_54 rfl rfl ?_
        refine sx_goto (tgt := 59) dX6_overfull_55 rfl ?_
        obtain rfl := Option.some.inj h
        exact sx_iret dX6_overfull_59 rfl rfl (k3 _ rfl).1 (k3 _ rfl).2
      · have h := if_n c10 h
        refine sx_iload_n (i := 3) (j := 3) dX6_overfull_58 rfl rfl ?_
        obtain rfl := Option.some.inj h
        exact sx_iret dX6_overfull_59 rfl rfl (k3 _ rfl).1 (k3 _ rfl).2
set_option maxRecDepth 100000 in
set_option maxHeartbeats 4000000 in
theorem mX6_overfull {l : Launch} {E : Ev} {L : HL} {a0 : Nat} {v1 : Int32} {z : Int32 × HL} (h0 : isX6 E a0) (h : fX6_overfull a0 v1 L = some z) : Mt l E yX6_overfull cX6_overfull 4 (some .int) (6) [.ref a0, .int v1] L (some (.int z.1)) (z.2) := by
  obtain ⟨r, hr⟩ : ∃ r : Option Value, r = some (.int z.1) := ⟨_, rfl⟩
  obtain ⟨L', hL'⟩ : ∃ L' : HL, L' = z.2 := ⟨_, rfl⟩
  have k3 : r = some (.int z.1) ∧ L' = z.2 := ⟨hr, hL'⟩
  refine mt_eq hr hL' ?_
  refine Mt.of (plainFor_of_name (by decide)) (Nat.le_of_ble_eq_true rfl) ?_
  refine sx_sub (lv' := [(0, .ref a0), (1, .int v1)]) [0, 1] rfl ?_
  unfold fX6_overfull at h
  refine sx_iload_n (i := 1) (j := 1) dX6_overfull_0 rfl rfl ?_
  refine sx_if_lt (tgt := 9) dX6_overfull_1 rfl (fun c1 => ?_) (fun c1 => ?_)
  · have h := if_e c1 h
    exact sx_sub [0] rfl (tX6_overfull_j9 h0 h k3)
  · have h := if_n c1 h
    refine sx_iload_n (i := 1) (j := 1) dX6_overfull_4 rfl rfl ?_
    refine sx_iconst (v := (1 : Int32)) dX6_overfull_5 (by decide) ?_
    refine sx_icmp_le (tgt := 18) dX6_overfull_6 rfl (fun c3 => ?_) (fun c3 => ?_)
    · have h := if_e c3 h
      refine sx_aload_n (i := 0) (j := 0) dX6_overfull_18 rfl rfl ?_
      refine sx_get (k := 1) (v := .ref (a0 + 15)) dX6_overfull_19 (X6_k h0) cf_6 (Or.inl wd_341) (by decide : 1 < 13) (congrArg Value.ref (X6_r1 h0)) ?_
      refine sx_aload_n (i := 0) (j := 0) dX6_overfull_22 rfl rfl ?_
      refine sx_get (k := 0) (v := .ref (a0 + 1)) dX6_overfull_23 (X6_k h0) cf_6 (Or.inl wd_340) (by decide : 0 < 13) (congrArg Value.ref (X6_r0 h0)) ?_
      obtain ⟨z4, ez4, h⟩ := bd_e h
      refine sx_callV (avs := [.ref (a0 + 1)]) (rest := []) (st1 := []) dX6_overfull_26 (mX4_takeFrom (X6_o1 h0) (X6_o0 h0) ez4) ciX4_takeFrom (Or.inr ⟨_, nw_598⟩) (X4_k (X6_o1 h0)) rfl rfl rfl rfl (rm_m rfl) rfl (Nat.le_of_ble_eq_true rfl) rfl ?_
      refine sx_iconst (v := (0 : Int32)) dX6_overfull_29 (by decide) ?_
      refine sx_istore_n (i := 2) (lv' := [(0, .ref a0), (1, .int v1), (2, .int (0 : Int32))]) dX6_overfull_30 rfl (by decide) rfl ?_
      obtain ⟨x12, hx, q1, q2⟩ := lx_e h
      refine sx_sub (lv' := [(0, .ref a0), (1, .int v1), (2, .int (0 : Int32))]) [0, 1, 2] rfl ?_
      refine lp_go (fun s11 => Sx l E yX6_overfull cX6_overfull 4 (some .int) (6) r L' 31 [(0, .ref a0), (1, .int v1), (2, .int s11.1)] [] s11.2) x12 (fun s11 z2 hz c1 c2 => ?_) FU _ hx
      refine tX6_overfull_b31 h0 hz (fun s2 e => c1 s2 e) (fun s11 e => ?_) (fun v e => ?_)
      · have h := q1 _ (c2 _ e).symm
        refine sx_iconst (v := (-1 : Int32)) dX6_overfull_73 (by decide) ?_
        obtain rfl := Option.some.inj h
        exact sx_iret dX6_overfull_74 rfl rfl k3.1 k3.2
      · have e2 := Option.some.inj (q2 _ (c2 _ e).symm)
        subst e2
        exact k3
    · have h := if_n c3 h
      exact sx_sub [0] rfl (tX6_overfull_j9 h0 h k3)
set_option maxRecDepth 100000 in
set_option maxHeartbeats 4000000 in
theorem tX6_orders_j59 {l : Launch} {E : Ev} {r : Option Value} {L' L : HL} {a0 : Nat} {z : Int32 × HL} (h0 : isX6 E a0) (h : fX6_orders_j59 a0 L = some z) (k3 : r = some (.int z.1) ∧ L' = z.2) : Sx l E yX6_orders cX6_orders 6 (some .int) (15) r L' 59 [(0, .ref a0)] [] L := by
  unfold fX6_orders_j59 at h
  refine sx_aload_n (i := 0) (j := 0) dX6_orders_59 rfl rfl ?_
  refine sx_bipush (v := (-2 : Int32)) dX6_orders_60 (by decide) ?_
  refine sx_bipush (v := (-10 : Int32)) dX6_orders_62 (by decide) ?_
  obtain ⟨z5, ez5, h⟩ := bd_e h
  refine sx_callV (avs := [.int (-2 : Int32), .int (-10 : Int32)]) (rest := []) (st1 := [.int z5.1]) dX6_orders_64 (mX6_refused h0 ez5) ciX6_refused (Or.inl wd_404) (X6_k h0) rfl rfl rfl rfl (rm_m rfl) rfl (Nat.le_of_ble_eq_true rfl) rfl ?_
  obtain rfl := Option.some.inj h
  exact sx_iret dX6_orders_67 rfl rfl k3.1 k3.2
set_option maxRecDepth 100000 in
set_option maxHeartbeats 4000000 in
theorem tX6_orders_j53 {l : Launch} {E : Ev} {r : Option Value} {L' L : HL} {a0 : Nat} {v1 : Int32} {v2 : Int32} {v3 : Int32} {v4 : Int32} {z : Int32 × HL} (h0 : isX6 E a0) (h : fX6_orders_j53 a0 v1 v2 v3 v4 L = some z) (k3 : r = some (.int z.1) ∧ L' = z.2) : Sx l E yX6_orders cX6_orders 6 (some .int) (15) r L' 53 [(0, .ref a0), (1, .int v1), (2, .int v2), (3, .int v3), (4, .int v4)] [] L := by
  unfold fX6_orders_j53 at h
  refine sx_iload (j := 4) dX6_orders_53 rfl ?_
  refine sx_iconst (v := (-1 : Int32)) dX6_orders_55 (by decide) ?_
  refine sx_icmp_ge (tgt := 68) dX6_orders_56 rfl (fun c7 => ?_) (fun c7 => ?_)
  · have h := if_e c7 h
    refine sx_aload_n (i := 0) (j := 0) dX6_orders_68 rfl rfl ?_
    refine sx_get (k := 6) (v := .ref (a0 + 150)) dX6_orders_69 (X6_k h0) cf_6 (Or.inl wd_346) (by decide : 6 < 13) (congrArg Value.ref (X6_r6 h0)) ?_
    refine sx_aload_n (i := 0) (j := 0) dX6_orders_72 rfl rfl ?_
    refine sx_get (k := 0) (v := .ref (a0 + 1)) dX6_orders_73 (X6_k h0) cf_6 (Or.inl wd_340) (by decide : 0 < 13) (congrArg Value.ref (X6_r0 h0)) ?_
    refine sx_iload_n (i := 1) (j := 1) dX6_orders_76 rfl rfl ?_
    refine sx_iload_n (i := 2) (j := 2) dX6_orders_77 rfl rfl ?_
    refine sx_iload_n (i := 3) (j := 3) dX6_orders_78 rfl rfl ?_
    obtain ⟨z8, ez8, h⟩ := bd_e h
    refine sx_callV (avs := [.ref (a0 + 1), .int v1, .int v2, .int v3]) (rest := []) (st1 := []) dX6_orders_79 (mX2_seek (X6_o6 h0) (X6_o0 h0) ez8) ciX2_seek (Or.inr ⟨_, nw_776⟩) (X2_k (X6_o6 h0)) rfl rfl rfl rfl (rm_m rfl) rfl (Nat.le_of_ble_eq_true rfl) rfl ?_
    refine sx_iload (j := 4) dX6_orders_82 rfl ?_
    refine sx_iconst (v := (-1 : Int32)) dX6_orders_84 (by decide) ?_
    refine sx_icmp_ne (tgt := 96) dX6_orders_85 rfl (fun c9 => ?_) (fun c9 => ?_)
    · have h := if_e c9 h
      refine sx_aload_n (i := 0) (j := 0) dX6_orders_88 rfl rfl ?_
      refine sx_get (k := 6) (v := .ref (a0 + 150)) dX6_orders_89 (X6_k h0) cf_6 (Or.inl wd_346) (by decide : 6 < 13) (congrArg Value.ref (X6_r6 h0)) ?_
      refine sx_get (k := 5) (v := .int (z8.1 (a0 + 150) 5)) dX6_orders_92 (X2_k (X6_o6 h0)) cf_2 (Or.inr ⟨_, nw_309⟩) (by decide : 5 < 6) rfl ?_
      obtain rfl := Option.some.inj h
      exact sx_iret dX6_orders_95 rfl rfl k3.1 k3.2
    · have h := if_n c9 h
      refine sx_aload_n (i := 0) (j := 0) dX6_orders_96 rfl rfl ?_
      refine sx_get (k := 6) (v := .ref (a0 + 150)) dX6_orders_97 (X6_k h0) cf_6 (Or.inl wd_346) (by decide : 6 < 13) (congrArg Value.ref (X6_r6 h0)) ?_
      refine sx_get (k := 5) (v := .int (z8.1 (a0 + 150) 5)) dX6_orders_100 (X2_k (X6_o6 h0)) cf_2 (Or.inr ⟨_, nw_309⟩) (by decide : 5 < 6) rfl ?_
      refine sx_if_ne (tgt := 108) dX6_orders_103 rfl (fun c10 => ?_) (fun c10 => ?_)
      · have h := if_e c10 h
        refine sx_iconst (v := (-1 : Int32)) dX6_orders_106 (by decide) ?_
        obtain rfl := Option.some.inj h
        exact sx_iret dX6_orders_107 rfl rfl k3.1 k3.2
      · have h := if_n c10 h
        refine sx_iload (j := 4) dX6_orders_108 rfl ?_
        refine sx_iload_n (i := 1) (j := 1) dX6_orders_110 rfl rfl ?_
        obtain ⟨z11, ez11, h⟩ := bd_e h
        refine sx_callS (avs := [.int v1]) (rest := [.int v4]) (st1 := [.int z11, .int v4]) dX6_orders_111 (mJ6_bitCount_0f7a4 ez11) ctJ6_bitCount_0f7a4 (Or.inl wd_672) rfl rfl (rm_m rfl) rfl (Nat.le_of_ble_eq_true rfl) rfl ?_
        refine sx_icmp_ge (tgt := 123) dX6_orders_114 rfl (fun c12 => ?_) (fun c12 => ?_)
        · have h := if_e c12 h
          refine sx_bipush (v := (-5 : Int32)) dX6_orders_123 (by decide) ?_
          obtain rfl := Option.some.inj h
          exact sx_iret dX6_orders_125 rfl rfl k3.1 k3.2
        · have h := if_n c12 h
          refine sx_iload (j := 4) dX6_orders_117 rfl ?_
          refine sx_iconst (v := (5 : Int32)) dX6_orders_119 (by decide) ?_
          refine sx_icmp_lt (tgt := 126) dX6_orders_120 rfl (fun c13 => ?_) (fun c13 => ?_)
          · have h := if_e c13 h
            refine sx_aload_n (i := 0) (j := 0) dX6_orders_126 rfl rfl ?_
            refine sx_get (k := 6) (v := .ref (a0 + 150)) dX6_orders_127 (X6_k h0) cf_6 (Or.inl wd_346) (by decide : 6 < 13) (congrArg Value.ref (X6_r6 h0)) ?_
            refine sx_get (k := 4) (v := .ref ((a0 + 150) + 23)) dX6_orders_130 (X2_k (X6_o6 h0)) cf_2 (Or.inr ⟨_, nw_307⟩) (by decide : 4 < 6) (congrArg Value.ref (X2_r4 (X6_o6 h0))) ?_
            refine sx_iload (j := 4) dX6_orders_133 rfl ?_
            obtain ⟨c14, h⟩ := gd_e h
            refine sx_iald dX6_orders_135 (X2_a4 (X6_o6 h0)) c14 ?_
            obtain rfl := Option.some.inj h
            exact sx_iret dX6_orders_136 rfl rfl k3.1 k3.2
          · have h := if_n c13 h
            refine sx_bipush (v := (-5 : Int32)) dX6_orders_123 (by decide) ?_
            obtain rfl := Option.some.inj h
            exact sx_iret dX6_orders_125 rfl rfl k3.1 k3.2
  · have h := if_n c7 h
    exact sx_sub [0] rfl (tX6_orders_j59 h0 h k3)
set_option maxRecDepth 100000 in
set_option maxHeartbeats 4000000 in
theorem tX6_orders_j30 {l : Launch} {E : Ev} {r : Option Value} {L' L : HL} {a0 : Nat} {v1 : Int32} {v2 : Int32} {v3 : Int32} {v4 : Int32} {s0 : Int32} {z : Int32 × HL} (h0 : isX6 E a0) (h : fX6_orders_j30 a0 v1 v2 v3 v4 s0 L = some z) (k3 : r = some (.int z.1) ∧ L' = z.2) : Sx l E yX6_orders cX6_orders 6 (some .int) (15) r L' 30 [(0, .ref a0), (1, .int v1), (2, .int v2), (3, .int v3), (4, .int v4)] [.int s0] L := by
  unfold fX6_orders_j30 at h
  refine sx_istore (lv' := [(0, .ref a0), (1, .int v1), (2, .int v2), (3, .int v3), (4, .int v4), (5, .int s0)]) dX6_orders_30 (by decide) rfl ?_
  refine sx_iload (j := 5) dX6_orders_32 rfl ?_
  refine sx_if_eq (tgt := 59) dX6_orders_34 rfl (fun c4 => ?_) (fun c4 => ?_)
  · have h := if_e c4 h
    exact sx_sub [0] rfl (tX6_orders_j59 h0 h k3)
  · have h := if_n c4 h
    refine sx_iload_n (i := 3) (j := 3) dX6_orders_37 rfl rfl ?_
    refine sx_iconst (v := (-1 : Int32)) dX6_orders_38 (by decide) ?_
    refine sx_icmp_eq (tgt := 53) dX6_orders_39 rfl (fun c6 => ?_) (fun c6 => ?_)
    · have h := if_e c6 h
      exact sx_sub [0, 1, 2, 3, 4] rfl (tX6_orders_j53 h0 h k3)
    · have h := if_n c6 h
      refine sx_aload_n (i := 0) (j := 0) dX6_orders_42 rfl rfl ?_
      refine sx_get (k := 0) (v := .ref (a0 + 1)) dX6_orders_43 (X6_k h0) cf_6 (Or.inl wd_340) (by decide : 0 < 13) (congrArg Value.ref (X6_r0 h0)) ?_
      refine sx_iload_n (i := 3) (j := 3) dX6_orders_46 rfl rfl ?_
      obtain ⟨z15, ez15, h⟩ := bd_e h
      refine sx_callV (avs := [.int v3]) (rest := []) (st1 := [.int z15]) dX6_orders_47 (mX4_has (X6_o0 h0) ez15) ciX4_has (Or.inr ⟨_, nw_616⟩) (X4_k (X6_o0 h0)) rfl rfl rfl rfl (rm_m rfl) rfl (Nat.le_of_ble_eq_true rfl) rfl ?_
      refine sx_if_eq (tgt := 59) dX6_orders_50 rfl (fun c16 => ?_) (fun c16 => ?_)
      · have h := if_e c16 h
        exact sx_sub [0] rfl (tX6_orders_j59 h0 h k3)
      · have h := if_n c16 h
        exact sx_sub [0, 1, 2, 3, 4] rfl (tX6_orders_j53 h0 h k3)
set_option maxRecDepth 100000 in
set_option maxHeartbeats 4000000 in
theorem tX6_orders_j29 {l : Launch} {E : Ev} {r : Option Value} {L' L : HL} {a0 : Nat} {v1 : Int32} {v2 : Int32} {v3 : Int32} {v4 : Int32} {z : Int32 × HL} (h0 : isX6 E a0) (h : fX6_orders_j29 a0 v1 v2 v3 v4 L = some z) (k3 : r = some (.int z.1) ∧ L' = z.2) : Sx l E yX6_orders cX6_orders 6 (some .int) (15) r L' 29 [(0, .ref a0), (1, .int v1), (2, .int v2), (3, .int v3), (4, .int v4)] [] L := by
  unfold fX6_orders_j29 at h
  refine sx_iconst (v := (0 : Int32)) dX6_orders_29 (by decide) ?_
  exact sx_sub [0, 1, 2, 3, 4] rfl (tX6_orders_j30 h0 h k3)
set_option maxRecDepth 100000 in
set_option maxHeartbeats 4000000 in
theorem mX6_orders {l : Launch} {E : Ev} {L : HL} {a0 : Nat} {v1 : Int32} {v2 : Int32} {v3 : Int32} {v4 : Int32} {z : Int32 × HL} (h0 : isX6 E a0) (h : fX6_orders a0 v1 v2 v3 v4 L = some z) : Mt l E yX6_orders cX6_orders 6 (some .int) (15) [.ref a0, .int v1, .int v2, .int v3, .int v4] L (some (.int z.1)) (z.2) := by
  obtain ⟨r, hr⟩ : ∃ r : Option Value, r = some (.int z.1) := ⟨_, rfl⟩
  obtain ⟨L', hL'⟩ : ∃ L' : HL, L' = z.2 := ⟨_, rfl⟩
  have k3 : r = some (.int z.1) ∧ L' = z.2 := ⟨hr, hL'⟩
  refine mt_eq hr hL' ?_
  refine Mt.of (plainFor_of_name (by decide)) (Nat.le_of_ble_eq_true rfl) ?_
  refine sx_sub (lv' := [(0, .ref a0), (1, .int v1), (2, .int v2), (3, .int v3), (4, .int v4)]) [0, 1, 2, 3, 4] rfl ?_
  unfold fX6_orders at h
  refine sx_iload_n (i := 1) (j := 1) dX6_orders_0 rfl rfl ?_
  refine sx_aload_n (i := 0) (j := 0) dX6_orders_1 rfl rfl ?_
  refine sx_get (k := 0) (v := .ref (a0 + 1)) dX6_orders_2 (X6_k h0) cf_6 (Or.inl wd_340) (by decide : 0 < 13) (congrArg Value.ref (X6_r0 h0)) ?_
  refine sx_get (k := 1) (v := .int (L.1 (a0 + 1) 1)) dX6_orders_5 (X4_k (X6_o0 h0)) cf_4 (Or.inr ⟨_, nw_139⟩) (by decide : 1 < 17) rfl ?_
  refine sx_iconst (v := (-1 : Int32)) dX6_orders_8 (by decide) ?_
  refine sx_ixor dX6_orders_9 ?_
  refine sx_iand dX6_orders_10 ?_
  refine sx_if_ne (tgt := 29) dX6_orders_11 rfl (fun c1 => ?_) (fun c1 => ?_)
  · have h := if_e c1 h
    refine sx_aload_n (i := 0) (j := 0) dX6_orders_14 rfl rfl ?_
    refine sx_get (k := 0) (v := .ref (a0 + 1)) dX6_orders_15 (X6_k h0) cf_6 (Or.inl wd_340) (by decide : 0 < 13) (congrArg Value.ref (X6_r0 h0)) ?_
    refine sx_iload_n (i := 2) (j := 2) dX6_orders_18 rfl rfl ?_
    obtain ⟨z2, ez2, h⟩ := bd_e h
    refine sx_callV (avs := [.int v2]) (rest := []) (st1 := [.int z2]) dX6_orders_19 (mX4_hasOne (X6_o0 h0) ez2) ciX4_hasOne (Or.inr ⟨_, nw_682⟩) (X4_k (X6_o0 h0)) rfl rfl rfl rfl (rm_m rfl) rfl (Nat.le_of_ble_eq_true rfl) rfl ?_
    refine sx_if_eq (tgt := 29) dX6_orders_22 rfl (fun c3 => ?_) (fun c3 => ?_)
    · have h := if_e c3 h
      exact sx_sub [0, 1, 2, 3, 4] rfl (tX6_orders_j29 h0 h k3)
    · have h := if_n c3 h
      refine sx_iconst (v := (1 : Int32)) dX6_orders_25 (by decide) ?_
      refine sx_goto (tgt := 30) dX6_orders_26 rfl ?_
      exact sx_sub [0, 1, 2, 3, 4] rfl (tX6_orders_j30 h0 h k3)
  · have h := if_n c1 h
    exact sx_sub [0, 1, 2, 3, 4] rfl (tX6_orders_j29 h0 h k3)
set_option maxRecDepth 100000 in
set_option maxHeartbeats 4000000 in
theorem tX6_safe_j56 {l : Launch} {E : Ev} {r : Option Value} {L' L : HL} {a0 : Nat} {v1 : Int32} {v2 : Int32} {v3 : Int32} {z : Tn (Int32 × Int32 × HL) (Int32 × HL)} (h0 : isX6 E a0) (h : fX6_safe_j56 a0 v1 v2 v3 L = some z) (k1 : ∀ s, z = .inl s → Sx l E yX6_safe cX6_safe 4 (some .int) (15) r L' 24 [(0, .ref a0), (1, .int v1), (2, .int s.1), (3, .int s.2.1)] [] s.2.2) (k2 : ∀ s, z = .inr (.inl s) → Sx l E yX6_safe cX6_safe 4 (some .int) (15) r L' 68 [(2, .int s.1)] [] s.2.2) (k3 : ∀ v, z = .inr (.inr v) → r = some (.int v.1) ∧ L' = v.2) : Sx l E yX6_safe cX6_safe 4 (some .int) (15) r L' 56 [(0, .ref a0), (1, .int v1), (2, .int v2), (3, .int v3)] [] L := by
  unfold fX6_safe_j56 at h
  refine sx_iload_n (i := 2) (j := 2) dX6_safe_56 rfl rfl ?_
  refine sx_iconst (v := (1 : Int32)) dX6_safe_57 (by decide) ?_
  refine sx_iload_n (i := 3) (j := 3) dX6_safe_58 rfl rfl ?_
  refine sx_ishl dX6_safe_59 ?_
  refine sx_ior dX6_safe_60 ?_
  refine sx_topi (fun w6 ew6 => ?_)
  have h := lt_e ew6 h
  refine sx_istore_n (i := 2) (lv' := [(0, .ref a0), (1, .int v1), (2, .int w6), (3, .int v3)]) dX6_safe_61 rfl (by decide) rfl ?_
  obtain ⟨w7, ew7⟩ : ∃ w : Int32, w = v3 + (1 : Int32) := ⟨_, rfl⟩
  have h := lt_e ew7 h
  refine sx_iinc (j := 3) (v := w7) (lv' := [(0, .ref a0), (1, .int v1), (2, .int w6), (3, .int w7)]) dX6_safe_62 rfl (ii_1 ew7) (by decide) rfl ?_
  refine sx_goto (tgt := 24) dX6_safe_65 rfl ?_
  obtain rfl := Option.some.inj h
  exact sx_sub [0, 1, 2, 3] rfl (k1 _ rfl)
set_option maxRecDepth 100000 in
set_option maxHeartbeats 4000000 in
theorem tX6_safe_b24 {l : Launch} {E : Ev} {r : Option Value} {L' L : HL} {a0 : Nat} {v1 : Int32} {v2 : Int32} {v3 : Int32} {z : Tn (Int32 × Int32 × HL) (Int32 × HL)} (h0 : isX6 E a0) (h : fX6_safe_b24 a0 v1 v2 v3 L = some z) (k1 : ∀ s, z = .inl s → Sx l E yX6_safe cX6_safe 4 (some .int) (15) r L' 24 [(0, .ref a0), (1, .int v1), (2, .int s.1), (3, .int s.2.1)] [] s.2.2) (k2 : ∀ s, z = .inr (.inl s) → Sx l E yX6_safe cX6_safe 4 (some .int) (15) r L' 68 [(2, .int s.1)] [] s.2.2) (k3 : ∀ v, z = .inr (.inr v) → r = some (.int v.1) ∧ L' = v.2) : Sx l E yX6_safe cX6_safe 4 (some .int) (15) r L' 24 [(0, .ref a0), (1, .int v1), (2, .int v2), (3, .int v3)] [] L := by
  unfold fX6_safe_b24 at h
  refine sx_iload_n (i := 3) (j := 3) dX6_safe_24 rfl rfl ?_
  refine sx_bipush (v := (6 : Int32)) dX6_safe_25 (by decide) ?_
  refine sx_icmp_ge (tgt := 68) dX6_safe_27 rfl (fun c4 => ?_) (fun c4 => ?_)
  · have h := if_e c4 h
    obtain rfl := Option.some.inj h
    exact sx_sub [2] rfl (k2 _ rfl)
  · have h := if_n c4 h
    refine sx_aload_n (i := 0) (j := 0) dX6_safe_30 rfl rfl ?_
    refine sx_get (k := 0) (v := .ref (a0 + 1)) dX6_safe_31 (X6_k h0) cf_6 (Or.inl wd_340) (by decide : 0 < 13) (congrArg Value.ref (X6_r0 h0)) ?_
    refine sx_get (k := 1) (v := .int (L.1 (a0 + 1) 1)) dX6_safe_34 (X4_k (X6_o0 h0)) cf_4 (Or.inr ⟨_, nw_139⟩) (by decide : 1 < 17) rfl ?_
    refine sx_if_eq (tgt := 56) dX6_safe_37 rfl (fun c5 => ?_) (fun c5 => ?_)
    · have h := if_e c5 h
      exact sx_sub [0, 1, 2, 3] rfl (tX6_safe_j56 h0 h k1 k2 k3)
    · have h := if_n c5 h
      refine sx_aload_n (i := 0) (j := 0) dX6_safe_40 rfl rfl ?_
      refine sx_get (k := 6) (v := .ref (a0 + 150)) dX6_safe_41 (X6_k h0) cf_6 (Or.inl wd_346) (by decide : 6 < 13) (congrArg Value.ref (X6_r6 h0)) ?_
      refine sx_aload_n (i := 0) (j := 0) dX6_safe_44 rfl rfl ?_
      refine sx_get (k := 0) (v := .ref (a0 + 1)) dX6_safe_45 (X6_k h0) cf_6 (Or.inl wd_340) (by decide : 0 < 13) (congrArg Value.ref (X6_r0 h0)) ?_
      refine sx_iload_n (i := 3) (j := 3) dX6_safe_48 rfl rfl ?_
      refine sx_iload_n (i := 1) (j := 1) dX6_safe_49 rfl rfl ?_
      obtain ⟨z8, ez8, h⟩ := bd_e h
      refine sx_callV (avs := [.ref (a0 + 1), .int v3, .int v1]) (rest := []) (st1 := [.int z8.1]) dX6_safe_50 (mX2_isSafe (X6_o6 h0) (X6_o0 h0) ez8) ciX2_isSafe (Or.inr ⟨_, nw_803⟩) (X2_k (X6_o6 h0)) rfl rfl rfl rfl (rm_m rfl) rfl (Nat.le_of_ble_eq_true rfl) rfl ?_
      refine sx_if_eq (tgt := 62) dX6_safe_53 rfl (fun c9 => ?_) (fun c9 => ?_)
      · have h := if_e c9 h
        obtain ⟨w10, ew10⟩ : ∃ w : Int32, w = v3 + (1 : Int32) := ⟨_, rfl⟩
        have h := lt_e ew10 h
        refine sx_iinc (j := 3) (v := w10) (lv' := [(0, .ref a0), (1, .int v1), (2, .int v2), (3, .int w10)]) dX6_safe_62 rfl (ii_1 ew10) (by decide) rfl ?_
        refine sx_goto (tgt := 24) dX6_safe_65 rfl ?_
        obtain rfl := Option.some.inj h
        exact sx_sub [0, 1, 2, 3] rfl (k1 _ rfl)
      · have h := if_n c9 h
        exact sx_sub [0, 1, 2, 3] rfl (tX6_safe_j56 h0 h k1 k2 k3)
set_option maxRecDepth 100000 in
set_option maxHeartbeats 4000000 in
theorem mX6_safe {l : Launch} {E : Ev} {L : HL} {a0 : Nat} {v1 : Int32} {z : Int32 × HL} (h0 : isX6 E a0) (h : fX6_safe a0 v1 L = some z) : Mt l E yX6_safe cX6_safe 4 (some .int) (15) [.ref a0, .int v1] L (some (.int z.1)) (z.2) := by
  obtain ⟨r, hr⟩ : ∃ r : Option Value, r = some (.int z.1) := ⟨_, rfl⟩
  obtain ⟨L', hL'⟩ : ∃ L' : HL, L' = z.2 := ⟨_, rfl⟩
  have k3 : r = some (.int z.1) ∧ L' = z.2 := ⟨hr, hL'⟩
  refine mt_eq hr hL' ?_
  refine Mt.of (plainFor_of_name (by decide)) (Nat.le_of_ble_eq_true rfl) ?_
  refine sx_sub (lv' := [(0, .ref a0), (1, .int v1)]) [0, 1] rfl ?_
  unfold fX6_safe at h
  refine sx_aload_n (i := 0) (j := 0) dX6_safe_0 rfl rfl ?_
  refine sx_get (k := 0) (v := .ref (a0 + 1)) dX6_safe_1 (X6_k h0) cf_6 (Or.inl wd_340) (by decide : 0 < 13) (congrArg Value.ref (X6_r0 h0)) ?_
  refine sx_iload_n (i := 1) (j := 1) dX6_safe_4 rfl rfl ?_
  obtain ⟨z1, ez1, h⟩ := bd_e h
  refine sx_callV (avs := [.int v1]) (rest := []) (st1 := [.int z1]) dX6_safe_5 (mX4_hasOne (X6_o0 h0) ez1) ciX4_hasOne (Or.inr ⟨_, nw_682⟩) (X4_k (X6_o0 h0)) rfl rfl rfl rfl (rm_m rfl) rfl (Nat.le_of_ble_eq_true rfl) rfl ?_
  refine sx_if_ne (tgt := 20) dX6_safe_8 rfl (fun c2 => ?_) (fun c2 => ?_)
  · have h := if_e c2 h
    refine sx_aload_n (i := 0) (j := 0) dX6_safe_11 rfl rfl ?_
    refine sx_bipush (v := (-2 : Int32)) dX6_safe_12 (by decide) ?_
    refine sx_bipush (v := (-2 : Int32)) dX6_safe_14 (by decide) ?_
    obtain ⟨z3, ez3, h⟩ := bd_e h
    refine sx_callV (avs := [.int (-2 : Int32), .int (-2 : Int32)]) (rest := []) (st1 := [.int z3.1]) dX6_safe_16 (mX6_refused h0 ez3) ciX6_refused (Or.inl wd_404) (X6_k h0) rfl rfl rfl rfl (rm_m rfl) rfl (Nat.le_of_ble_eq_true rfl) rfl ?_
    obtain rfl := Option.some.inj h
    exact sx_iret dX6_safe_19 rfl rfl k3.1 k3.2
  · have h := if_n c2 h
    refine sx_iconst (v := (0 : Int32)) dX6_safe_20 (by decide) ?_
    refine sx_istore_n (i := 2) (lv' := [(0, .ref a0), (1, .int v1), (2, .int (0 : Int32))]) dX6_safe_21 rfl (by decide) rfl ?_
    refine sx_iconst (v := (0 : Int32)) dX6_safe_22 (by decide) ?_
    refine sx_istore_n (i := 3) (lv' := [(0, .ref a0), (1, .int v1), (2, .int (0 : Int32)), (3, .int (0 : Int32))]) dX6_safe_23 rfl (by decide) rfl ?_
    obtain ⟨x12, hx, q1, q2⟩ := lx_e h
    refine sx_sub (lv' := [(0, .ref a0), (1, .int v1), (2, .int (0 : Int32)), (3, .int (0 : Int32))]) [0, 1, 2, 3] rfl ?_
    refine lp_go (fun s11 => Sx l E yX6_safe cX6_safe 4 (some .int) (15) r L' 24 [(0, .ref a0), (1, .int v1), (2, .int s11.1), (3, .int s11.2.1)] [] s11.2.2) x12 (fun s11 z2 hz c1 c2 => ?_) FU _ hx
    refine tX6_safe_b24 h0 hz (fun s2 e => c1 s2 e) (fun s11 e => ?_) (fun v e => ?_)
    · have h := q1 _ (c2 _ e).symm
      refine sx_iload_n (i := 2) (j := 0) dX6_safe_68 rfl rfl ?_
      obtain rfl := Option.some.inj h
      exact sx_iret dX6_safe_69 rfl rfl k3.1 k3.2
    · have e2 := Option.some.inj (q2 _ (c2 _ e).symm)
      subst e2
      exact k3
set_option maxRecDepth 100000 in
set_option maxHeartbeats 4000000 in
theorem mX6_moves {l : Launch} {E : Ev} {L : HL} {a0 : Nat} {v1 : Int32} {z : Int32 × HL} (h0 : isX6 E a0) (h : fX6_moves a0 v1 L = some z) : Mt l E yX6_moves cX6_moves 3 (some .int) (13) [.ref a0, .int v1] L (some (.int z.1)) (z.2) := by
  obtain ⟨r, hr⟩ : ∃ r : Option Value, r = some (.int z.1) := ⟨_, rfl⟩
  obtain ⟨L', hL'⟩ : ∃ L' : HL, L' = z.2 := ⟨_, rfl⟩
  have k3 : r = some (.int z.1) ∧ L' = z.2 := ⟨hr, hL'⟩
  refine mt_eq hr hL' ?_
  refine Mt.of (plainFor_of_name (by decide)) (Nat.le_of_ble_eq_true rfl) ?_
  refine sx_sub (lv' := [(0, .ref a0), (1, .int v1)]) [0, 1] rfl ?_
  unfold fX6_moves at h
  refine sx_iload_n (i := 1) (j := 1) dX6_moves_0 rfl rfl ?_
  refine sx_iconst (v := (-1 : Int32)) dX6_moves_1 (by decide) ?_
  refine sx_icmp_ge (tgt := 14) dX6_moves_2 rfl (fun c1 => ?_) (fun c1 => ?_)
  · have h := if_e c1 h
    refine sx_aload_n (i := 0) (j := 0) dX6_moves_14 rfl rfl ?_
    refine sx_get (k := 7) (v := .ref (a0 + 174)) dX6_moves_15 (X6_k h0) cf_6 (Or.inl wd_347) (by decide : 7 < 13) (congrArg Value.ref (X6_r7 h0)) ?_
    refine sx_aload_n (i := 0) (j := 0) dX6_moves_18 rfl rfl ?_
    refine sx_get (k := 0) (v := .ref (a0 + 1)) dX6_moves_19 (X6_k h0) cf_6 (Or.inl wd_340) (by decide : 0 < 13) (congrArg Value.ref (X6_r0 h0)) ?_
    obtain ⟨z2, ez2, h⟩ := bd_e h
    refine sx_callV (avs := [.ref (a0 + 1)]) (rest := []) (st1 := [.int z2.1]) dX6_moves_22 (mX1_seek (X6_o7 h0) (X6_o0 h0) ez2) ciX1_seek (Or.inr ⟨_, nw_815⟩) (X1_k (X6_o7 h0)) rfl rfl rfl rfl (rm_m rfl) rfl (Nat.le_of_ble_eq_true rfl) rfl ?_
    refine sx_istore_n (i := 2) (lv' := [(0, .ref a0), (1, .int v1), (2, .int z2.1)]) dX6_moves_25 rfl (by decide) rfl ?_
    refine sx_iload_n (i := 2) (j := 2) dX6_moves_26 rfl rfl ?_
    refine sx_iconst (v := (-1 : Int32)) dX6_moves_27 (by decide) ?_
    refine sx_icmp_eq (tgt := 36) dX6_moves_28 rfl (fun c3 => ?_) (fun c3 => ?_)
    · have h := if_e c3 h
      refine sx_iload_n (i := 2) (j := 2) dX6_moves_36 rfl rfl ?_
      obtain rfl := Option.some.inj h
      exact sx_iret dX6_moves_37 rfl rfl k3.1 k3.2
    · have h := if_n c3 h
      refine sx_iload_n (i := 1) (j := 1) dX6_moves_31 rfl rfl ?_
      refine sx_iconst (v := (-1 : Int32)) dX6_moves_32 (by decide) ?_
      refine sx_icmp_ne (tgt := 38) dX6_moves_33 rfl (fun c4 => ?_) (fun c4 => ?_)
      · have h := if_e c4 h
        refine sx_iload_n (i := 2) (j := 2) dX6_moves_36 rfl rfl ?_
        obtain rfl := Option.some.inj h
        exact sx_iret dX6_moves_37 rfl rfl k3.1 k3.2
      · have h := if_n c4 h
        refine sx_iload_n (i := 1) (j := 1) dX6_moves_38 rfl rfl ?_
        refine sx_aload_n (i := 0) (j := 0) dX6_moves_39 rfl rfl ?_
        refine sx_get (k := 0) (v := .ref (a0 + 1)) dX6_moves_40 (X6_k h0) cf_6 (Or.inl wd_340) (by decide : 0 < 13) (congrArg Value.ref (X6_r0 h0)) ?_
        refine sx_get (k := 2) (v := .int (z2.2.1 (a0 + 1) 2)) dX6_moves_43 (X4_k (X6_o0 h0)) cf_4 (Or.inr ⟨_, nw_142⟩) (by decide : 2 < 17) rfl ?_
        refine sx_icmp_ge (tgt := 55) dX6_moves_46 rfl (fun c5 => ?_) (fun c5 => ?_)
        · have h := if_e c5 h
          refine sx_bipush (v := (-5 : Int32)) dX6_moves_55 (by decide) ?_
          obtain rfl := Option.some.inj h
          exact sx_iret dX6_moves_57 rfl rfl k3.1 k3.2
        · have h := if_n c5 h
          refine sx_iload_n (i := 1) (j := 1) dX6_moves_49 rfl rfl ?_
          refine sx_bipush (v := (6 : Int32)) dX6_moves_50 (by decide) ?_
          refine sx_icmp_lt (tgt := 58) dX6_moves_52 rfl (fun c6 => ?_) (fun c6 => ?_)
          · have h := if_e c6 h
            refine sx_aload_n (i := 0) (j := 0) dX6_moves_58 rfl rfl ?_
            refine sx_get (k := 7) (v := .ref (a0 + 174)) dX6_moves_59 (X6_k h0) cf_6 (Or.inl wd_347) (by decide : 7 < 13) (congrArg Value.ref (X6_r7 h0)) ?_
            refine sx_get (k := 2) (v := .ref ((a0 + 174) + 3)) dX6_moves_62 (X1_k (X6_o7 h0)) cf_1 (Or.inr ⟨_, nw_332⟩) (by decide : 2 < 3) (congrArg Value.ref (X1_r2 (X6_o7 h0))) ?_
            refine sx_iload_n (i := 1) (j := 1) dX6_moves_65 rfl rfl ?_
            obtain ⟨c7, h⟩ := gd_e h
            refine sx_iald dX6_moves_66 (X1_a2 (X6_o7 h0)) c7 ?_
            obtain rfl := Option.some.inj h
            exact sx_iret dX6_moves_67 rfl rfl k3.1 k3.2
          · have h := if_n c6 h
            refine sx_bipush (v := (-5 : Int32)) dX6_moves_55 (by decide) ?_
            obtain rfl := Option.some.inj h
            exact sx_iret dX6_moves_57 rfl rfl k3.1 k3.2
  · have h := if_n c1 h
    refine sx_aload_n (i := 0) (j := 0) dX6_moves_5 rfl rfl ?_
    refine sx_bipush (v := (-2 : Int32)) dX6_moves_6 (by decide) ?_
    refine sx_bipush (v := (-10 : Int32)) dX6_moves_8 (by decide) ?_
    obtain ⟨z8, ez8, h⟩ := bd_e h
    refine sx_callV (avs := [.int (-2 : Int32), .int (-10 : Int32)]) (rest := []) (st1 := [.int z8.1]) dX6_moves_10 (mX6_refused h0 ez8) ciX6_refused (Or.inl wd_404) (X6_k h0) rfl rfl rfl rfl (rm_m rfl) rfl (Nat.le_of_ble_eq_true rfl) rfl ?_
    obtain rfl := Option.some.inj h
    exact sx_iret dX6_moves_13 rfl rfl k3.1 k3.2
set_option maxRecDepth 100000 in
set_option maxHeartbeats 4000000 in
theorem tX6_lowerFraction_j52 {l : Launch} {E : Ev} {r : Option Value} {L' L : HL} {a0 : Nat} {v1 : Int64} {z : Tn (Int64 × HL) (HL)} (h0 : isX6 E a0) (h : fX6_lowerFraction_j52 a0 v1 L = some z) (k1 : ∀ s, z = .inl s → Sx l E yX6_lowerFraction cX6_lowerFraction 3 (none) (1) r L' 4 [(0, .ref a0), (1, .long s.1)] [] s.2) (k2 : ∀ s, z = .inr (.inl s) → Sx l E yX6_lowerFraction cX6_lowerFraction 3 (none) (1) r L' 59 [] [] s.2) (k3 : ∀ v, z = .inr (.inr v) → r = none ∧ L' = v) : Sx l E yX6_lowerFraction cX6_lowerFraction 3 (none) (1) r L' 52 [(0, .ref a0), (1, .long v1)] [] L := by
  unfold fX6_lowerFraction_j52 at h
  refine sx_lload_n (i := 1) (j := 1) dX6_lowerFraction_52 rfl rfl ?_
  refine sx_lconst (v := (1 : Int64)) dX6_lowerFraction_53 (by decide) ?_
  refine sx_lsub dX6_lowerFraction_54 ?_
  refine sx_topl (fun w10 ew10 => ?_)
  have h := lt_e ew10 h
  refine sx_lstore_n (i := 1) (lv' := [(0, .ref a0), (1, .long w10)]) dX6_lowerFraction_55 rfl (by decide) rfl ?_
  refine sx_goto (tgt := 4) dX6_lowerFraction_56 rfl ?_
  obtain rfl := Option.some.inj h
  exact sx_sub [0, 1] rfl (k1 _ rfl)
set_option maxRecDepth 100000 in
set_option maxHeartbeats 4000000 in
theorem tX6_lowerFraction_b4 {l : Launch} {E : Ev} {r : Option Value} {L' L : HL} {a0 : Nat} {v1 : Int64} {z : Tn (Int64 × HL) (HL)} (h0 : isX6 E a0) (h : fX6_lowerFraction_b4 a0 v1 L = some z) (k1 : ∀ s, z = .inl s → Sx l E yX6_lowerFraction cX6_lowerFraction 3 (none) (1) r L' 4 [(0, .ref a0), (1, .long s.1)] [] s.2) (k2 : ∀ s, z = .inr (.inl s) → Sx l E yX6_lowerFraction cX6_lowerFraction 3 (none) (1) r L' 59 [] [] s.2) (k3 : ∀ v, z = .inr (.inr v) → r = none ∧ L' = v) : Sx l E yX6_lowerFraction cX6_lowerFraction 3 (none) (1) r L' 4 [(0, .ref a0), (1, .long v1)] [] L := by
  unfold fX6_lowerFraction_b4 at h
  refine sx_lload_n (i := 1) (j := 1) dX6_lowerFraction_4 rfl rfl ?_
  refine sx_lconst (v := (1 : Int64)) dX6_lowerFraction_5 (by decide) ?_
  refine sx_lcmp dX6_lowerFraction_6 ?_
  refine sx_if_le (tgt := 59) dX6_lowerFraction_7 rfl (fun c1 => ?_) (fun c1 => ?_)
  · have h := if_e c1 h
    obtain rfl := Option.some.inj h
    exact sx_sub [] rfl (k2 _ rfl)
  · have h := if_n c1 h
    refine sx_aload_n (i := 0) (j := 0) dX6_lowerFraction_10 rfl rfl ?_
    refine sx_get (k := 8) (v := .long (L.2 a0 8)) dX6_lowerFraction_11 (X6_k h0) cf_6 (Or.inl wd_348) (by decide : 8 < 13) rfl ?_
    refine sx_lload_n (i := 1) (j := 1) dX6_lowerFraction_14 rfl rfl ?_
    obtain ⟨c2, h⟩ := gd_e h
    refine sx_lrem dX6_lowerFraction_15 c2 ?_
    refine sx_lconst (v := (0 : Int64)) dX6_lowerFraction_16 (by decide) ?_
    refine sx_lcmp dX6_lowerFraction_17 ?_
    refine sx_if_ne (tgt := 52) dX6_lowerFraction_18 rfl (fun c3 => ?_) (fun c3 => ?_)
    · have h := if_e c3 h
      refine sx_aload_n (i := 0) (j := 0) dX6_lowerFraction_21 rfl rfl ?_
      refine sx_get (k := 9) (v := .long (L.2 a0 9)) dX6_lowerFraction_22 (X6_k h0) cf_6 (Or.inl wd_349) (by decide : 9 < 13) rfl ?_
      refine sx_lload_n (i := 1) (j := 1) dX6_lowerFraction_25 rfl rfl ?_
      obtain ⟨c4, h⟩ := gd_e h
      refine sx_lrem dX6_lowerFraction_26 c4 ?_
      refine sx_lconst (v := (0 : Int64)) dX6_lowerFraction_27 (by decide) ?_
      refine sx_lcmp dX6_lowerFraction_28 ?_
      refine sx_if_ne (tgt := 52) dX6_lowerFraction_29 rfl (fun c5 => ?_) (fun c5 => ?_)
      · have h := if_e c5 h
        refine sx_aload_n (i := 0) (j := 0) dX6_lowerFraction_32 rfl rfl ?_
        refine sx_dup dX6_lowerFraction_33 rfl ?_
        refine sx_get (k := 8) (v := .long (L.2 a0 8)) dX6_lowerFraction_34 (X6_k h0) cf_6 (Or.inl wd_348) (by decide : 8 < 13) rfl ?_
        refine sx_lload_n (i := 1) (j := 1) dX6_lowerFraction_37 rfl rfl ?_
        obtain ⟨c6, h⟩ := gd_e h
        refine sx_ldiv dX6_lowerFraction_38 c6 ?_
        refine sx_putJ (k := 8) dX6_lowerFraction_39 (X6_k h0) cf_6 (Or.inl wd_348) (by decide : 8 < 13) rfl rfl rfl rfl (fun L7 eL7 => ?_)
        have h := lt_e eL7 h
        refine sx_aload_n (i := 0) (j := 0) dX6_lowerFraction_42 rfl rfl ?_
        refine sx_dup dX6_lowerFraction_43 rfl ?_
        refine sx_get (k := 9) (v := .long (L7.2 a0 9)) dX6_lowerFraction_44 (X6_k h0) cf_6 (Or.inl wd_349) (by decide : 9 < 13) rfl ?_
        refine sx_lload_n (i := 1) (j := 1) dX6_lowerFraction_47 rfl rfl ?_
        obtain ⟨c8, h⟩ := gd_e h
        refine sx_ldiv dX6_lowerFraction_48 c8 ?_
        refine sx_putJ (k := 9) dX6_lowerFraction_49 (X6_k h0) cf_6 (Or.inl wd_349) (by decide : 9 < 13) rfl rfl rfl rfl (fun L9 eL9 => ?_)
        have h := lt_e eL9 h
        exact sx_sub [0, 1] rfl (tX6_lowerFraction_j52 h0 h k1 k2 k3)
      · have h := if_n c5 h
        exact sx_sub [0, 1] rfl (tX6_lowerFraction_j52 h0 h k1 k2 k3)
    · have h := if_n c3 h
      exact sx_sub [0, 1] rfl (tX6_lowerFraction_j52 h0 h k1 k2 k3)
set_option maxRecDepth 100000 in
set_option maxHeartbeats 4000000 in
theorem mX6_lowerFraction {l : Launch} {E : Ev} {L : HL} {a0 : Nat} {z : HL} (h0 : isX6 E a0) (h : fX6_lowerFraction a0 L = some z) : Mt l E yX6_lowerFraction cX6_lowerFraction 3 (none) (1) [.ref a0] L (none) z := by
  obtain ⟨r, hr⟩ : ∃ r : Option Value, r = none := ⟨_, rfl⟩
  obtain ⟨L', hL'⟩ : ∃ L' : HL, L' = z := ⟨_, rfl⟩
  have k3 : r = none ∧ L' = z := ⟨hr, hL'⟩
  refine mt_eq hr hL' ?_
  refine Mt.of (plainFor_of_name (by decide)) (Nat.le_of_ble_eq_true rfl) ?_
  refine sx_sub (lv' := [(0, .ref a0)]) [0] rfl ?_
  unfold fX6_lowerFraction at h
  refine sx_ldc2 (v := (5 : Int64)) dX6_lowerFraction_0 wd_840 ?_
  refine sx_lstore_n (i := 1) (lv' := [(0, .ref a0), (1, .long (5 : Int64))]) dX6_lowerFraction_3 rfl (by decide) rfl ?_
  obtain ⟨x12, hx, q1, q2⟩ := lx_e h
  refine sx_sub (lv' := [(0, .ref a0), (1, .long (5 : Int64))]) [0, 1] rfl ?_
  refine lp_go (fun s11 => Sx l E yX6_lowerFraction cX6_lowerFraction 3 (none) (1) r L' 4 [(0, .ref a0), (1, .long s11.1)] [] s11.2) x12 (fun s11 z2 hz c1 c2 => ?_) FU _ hx
  refine tX6_lowerFraction_b4 h0 hz (fun s2 e => c1 s2 e) (fun s11 e => ?_) (fun v e => ?_)
  · have h := q1 _ (c2 _ e).symm
    obtain rfl := Option.some.inj h
    exact sx_vret dX6_lowerFraction_59 rfl k3.1 k3.2
  · have e2 := Option.some.inj (q2 _ (c2 _ e).symm)
    subst e2
    exact k3
set_option maxRecDepth 100000 in
set_option maxHeartbeats 4000000 in
theorem tX6_share_j62 {l : Launch} {E : Ev} {r : Option Value} {L' L : HL} {a0 : Nat} {v2 : Int32} {s1 : Int64} {z : Int32 × HL} (h0 : isX6 E a0) (h : fX6_share_j62 a0 v2 s1 L = some z) (k3 : r = some (.int z.1) ∧ L' = z.2) : Sx l E yX6_share cX6_share 3 (some .int) (4) r L' 62 [(0, .ref a0), (2, .int v2)] [.long s1, .ref a0] L := by
  unfold fX6_share_j62 at h
  refine sx_putJ (k := 9) dX6_share_62 (X6_k h0) cf_6 (Or.inl wd_349) (by decide : 9 < 13) rfl rfl rfl rfl (fun L8 eL8 => ?_)
  have h := lt_e eL8 h
  refine sx_aload_n (i := 0) (j := 0) dX6_share_65 rfl rfl ?_
  obtain ⟨z9, ez9, h⟩ := bd_e h
  refine sx_callV (avs := []) (rest := []) (st1 := []) dX6_share_66 (mX6_lowerFraction h0 ez9) ciX6_lowerFraction (Or.inl wd_836) (X6_k h0) rfl rfl rfl rfl (rm_m rfl) rfl (Nat.le_of_ble_eq_true rfl) rfl ?_
  refine sx_iload_n (i := 2) (j := 1) dX6_share_69 rfl rfl ?_
  obtain rfl := Option.some.inj h
  exact sx_iret dX6_share_70 rfl rfl k3.1 k3.2
set_option maxRecDepth 100000 in
set_option maxHeartbeats 4000000 in
theorem tX6_share_j48 {l : Launch} {E : Ev} {r : Option Value} {L' L : HL} {a0 : Nat} {v2 : Int32} {s1 : Int64} {z : Int32 × HL} (h0 : isX6 E a0) (h : fX6_share_j48 a0 v2 s1 L = some z) (k3 : r = some (.int z.1) ∧ L' = z.2) : Sx l E yX6_share cX6_share 3 (some .int) (4) r L' 48 [(0, .ref a0), (2, .int v2)] [.long s1, .ref a0] L := by
  unfold fX6_share_j48 at h
  refine sx_putJ (k := 8) dX6_share_48 (X6_k h0) cf_6 (Or.inl wd_348) (by decide : 8 < 13) rfl rfl rfl rfl (fun L6 eL6 => ?_)
  have h := lt_e eL6 h
  refine sx_aload_n (i := 0) (j := 0) dX6_share_51 rfl rfl ?_
  refine sx_iload_n (i := 2) (j := 1) dX6_share_52 rfl rfl ?_
  refine sx_if_ne (tgt := 60) dX6_share_53 rfl (fun c7 => ?_) (fun c7 => ?_)
  · have h := if_e c7 h
    refine sx_lconst (v := (1 : Int64)) dX6_share_56 (by decide) ?_
    refine sx_goto (tgt := 62) dX6_share_57 rfl ?_
    exact sx_sub [0, 1] rfl (tX6_share_j62 h0 h k3)
  · have h := if_n c7 h
    refine sx_iload_n (i := 2) (j := 1) dX6_share_60 rfl rfl ?_
    refine sx_i2l dX6_share_61 ?_
    exact sx_sub [0, 1] rfl (tX6_share_j62 h0 h k3)
set_option maxRecDepth 100000 in
set_option maxHeartbeats 4000000 in
theorem mX6_share {l : Launch} {E : Ev} {L : HL} {a0 : Nat} {v1 : Int32} {z : Int32 × HL} (h0 : isX6 E a0) (h : fX6_share a0 v1 L = some z) : Mt l E yX6_share cX6_share 3 (some .int) (4) [.ref a0, .int v1] L (some (.int z.1)) (z.2) := by
  obtain ⟨r, hr⟩ : ∃ r : Option Value, r = some (.int z.1) := ⟨_, rfl⟩
  obtain ⟨L', hL'⟩ : ∃ L' : HL, L' = z.2 := ⟨_, rfl⟩
  have k3 : r = some (.int z.1) ∧ L' = z.2 := ⟨hr, hL'⟩
  refine mt_eq hr hL' ?_
  refine Mt.of (plainFor_of_name (by decide)) (Nat.le_of_ble_eq_true rfl) ?_
  refine sx_sub (lv' := [(0, .ref a0), (1, .int v1)]) [0, 1] rfl ?_
  unfold fX6_share at h
  refine sx_aload_n (i := 0) (j := 0) dX6_share_0 rfl rfl ?_
  refine sx_get (k := 0) (v := .ref (a0 + 1)) dX6_share_1 (X6_k h0) cf_6 (Or.inl wd_340) (by decide : 0 < 13) (congrArg Value.ref (X6_r0 h0)) ?_
  refine sx_iload_n (i := 1) (j := 1) dX6_share_4 rfl rfl ?_
  obtain ⟨z1, ez1, h⟩ := bd_e h
  refine sx_callV (avs := [.int v1]) (rest := []) (st1 := [.int z1]) dX6_share_5 (mX4_has (X6_o0 h0) ez1) ciX4_has (Or.inr ⟨_, nw_616⟩) (X4_k (X6_o0 h0)) rfl rfl rfl rfl (rm_m rfl) rfl (Nat.le_of_ble_eq_true rfl) rfl ?_
  refine sx_if_ne (tgt := 20) dX6_share_8 rfl (fun c2 => ?_) (fun c2 => ?_)
  · have h := if_e c2 h
    refine sx_aload_n (i := 0) (j := 0) dX6_share_11 rfl rfl ?_
    refine sx_bipush (v := (-2 : Int32)) dX6_share_12 (by decide) ?_
    refine sx_bipush (v := (-2 : Int32)) dX6_share_14 (by decide) ?_
    obtain ⟨z3, ez3, h⟩ := bd_e h
    refine sx_callV (avs := [.int (-2 : Int32), .int (-2 : Int32)]) (rest := []) (st1 := [.int z3.1]) dX6_share_16 (mX6_refused h0 ez3) ciX6_refused (Or.inl wd_404) (X6_k h0) rfl rfl rfl rfl (rm_m rfl) rfl (Nat.le_of_ble_eq_true rfl) rfl ?_
    obtain rfl := Option.some.inj h
    exact sx_iret dX6_share_19 rfl rfl k3.1 k3.2
  · have h := if_n c2 h
    refine sx_aload_n (i := 0) (j := 0) dX6_share_20 rfl rfl ?_
    refine sx_get (k := 0) (v := .ref (a0 + 1)) dX6_share_21 (X6_k h0) cf_6 (Or.inl wd_340) (by decide : 0 < 13) (congrArg Value.ref (X6_r0 h0)) ?_
    refine sx_iload_n (i := 1) (j := 1) dX6_share_24 rfl rfl ?_
    obtain ⟨z4, ez4, h⟩ := bd_e h
    refine sx_callV (avs := [.int v1]) (rest := []) (st1 := [.int z4.1]) dX6_share_25 (mX4_nearestKin (X6_o0 h0) ez4) ciX4_nearestKin (Or.inr ⟨_, nw_832⟩) (X4_k (X6_o0 h0)) rfl rfl rfl rfl (rm_m rfl) rfl (Nat.le_of_ble_eq_true rfl) rfl ?_
    refine sx_istore_n (i := 2) (lv' := [(0, .ref a0), (1, .int v1), (2, .int z4.1)]) dX6_share_28 rfl (by decide) rfl ?_
    refine sx_aload_n (i := 0) (j := 0) dX6_share_29 rfl rfl ?_
    refine sx_iload_n (i := 2) (j := 2) dX6_share_30 rfl rfl ?_
    refine sx_if_ne (tgt := 38) dX6_share_31 rfl (fun c5 => ?_) (fun c5 => ?_)
    · have h := if_e c5 h
      refine sx_lconst (v := (0 : Int64)) dX6_share_34 (by decide) ?_
      refine sx_goto (tgt := 48) dX6_share_35 rfl ?_
      exact sx_sub [0, 2] rfl (tX6_share_j48 h0 h k3)
    · have h := if_n c5 h
      refine sx_aload_n (i := 0) (j := 0) dX6_share_38 rfl rfl ?_
      refine sx_get (k := 0) (v := .ref (a0 + 1)) dX6_share_39 (X6_k h0) cf_6 (Or.inl wd_340) (by decide : 0 < 13) (congrArg Value.ref (X6_r0 h0)) ?_
      refine sx_get (k := 5) (v := .ref ((a0 + 1) + 2)) dX6_share_42 (X4_k (X6_o0 h0)) cf_4 (Or.inr ⟨_, nw_150⟩) (by decide : 5 < 17) (congrArg Value.ref (X4_r5 (X6_o0 h0))) ?_
      refine sx_iload_n (i := 1) (j := 1) dX6_share_45 rfl rfl ?_
      obtain ⟨c10, h⟩ := gd_e h
      refine sx_iald dX6_share_46 (X4_a5 (X6_o0 h0)) c10 ?_
      refine sx_i2l dX6_share_47 ?_
      exact sx_sub [0, 2] rfl (tX6_share_j48 h0 h k3)
set_option maxRecDepth 100000 in
set_option maxHeartbeats 4000000 in
theorem tX6_onlyBit_b2 {l : Launch} {E : Ev} {r : Option Value} {L' L : HL} {v0 : Int32} {v1 : Int32} {z : Tn (Int32) (Int32)} (h : fX6_onlyBit_b2 v0 v1 = some z) (k1 : ∀ s, z = .inl s → Sx l E yX6_onlyBit cX6_onlyBit 2 (some .int) (1) r L' 2 [(0, .int v0), (1, .int s)] [] L) (k2 : ∀ s, z = .inr (.inl s) → Sx l E yX6_onlyBit cX6_onlyBit 2 (some .int) (1) r L' 22 [] [] L) (k3 : ∀ v, z = .inr (.inr v) → r = some (.int v) ∧ L' = L) : Sx l E yX6_onlyBit cX6_onlyBit 2 (some .int) (1) r L' 2 [(0, .int v0), (1, .int v1)] [] L := by
  unfold fX6_onlyBit_b2 at h
  refine sx_iload_n (i := 1) (j := 1) dX6_onlyBit_2 rfl rfl ?_
  refine sx_iconst (v := (5 : Int32)) dX6_onlyBit_3 (by decide) ?_
  refine sx_icmp_ge (tgt := 22) dX6_onlyBit_4 rfl (fun c1 => ?_) (fun c1 => ?_)
  · have h := if_e c1 h
    obtain rfl := Option.some.inj h
    exact sx_sub [] rfl (k2 _ rfl)
  · have h := if_n c1 h
    refine sx_iload_n (i := 0) (j := 0) dX6_onlyBit_7 rfl rfl ?_
    refine sx_iconst (v := (1 : Int32)) dX6_onlyBit_8 (by decide) ?_
    refine sx_iload_n (i := 1) (j := 1) dX6_onlyBit_9 rfl rfl ?_
    refine sx_ishl dX6_onlyBit_10 ?_
    refine sx_icmp_ne (tgt := 16) dX6_onlyBit_11 rfl (fun c2 => ?_) (fun c2 => ?_)
    · have h := if_e c2 h
      refine sx_iload_n (i := 1) (j := 1) dX6_onlyBit_14 rfl rfl ?_
      obtain rfl := Option.some.inj h
      exact sx_iret dX6_onlyBit_15 rfl rfl (k3 _ rfl).1 (k3 _ rfl).2
    · have h := if_n c2 h
      obtain ⟨w3, ew3⟩ : ∃ w : Int32, w = v1 + (1 : Int32) := ⟨_, rfl⟩
      have h := lt_e ew3 h
      refine sx_iinc (j := 1) (v := w3) (lv' := [(0, .int v0), (1, .int w3)]) dX6_onlyBit_16 rfl (ii_1 ew3) (by decide) rfl ?_
      refine sx_goto (tgt := 2) dX6_onlyBit_19 rfl ?_
      obtain rfl := Option.some.inj h
      exact sx_sub [0, 1] rfl (k1 _ rfl)
set_option maxRecDepth 100000 in
set_option maxHeartbeats 4000000 in
theorem mX6_onlyBit {l : Launch} {E : Ev} {L : HL} {v0 : Int32} {z : Int32} (h : fX6_onlyBit v0 = some z) : Mt l E yX6_onlyBit cX6_onlyBit 2 (some .int) (1) [.int v0] L (some (.int z)) L := by
  obtain ⟨r, hr⟩ : ∃ r : Option Value, r = some (.int z) := ⟨_, rfl⟩
  obtain ⟨L', hL'⟩ : ∃ L' : HL, L' = L := ⟨_, rfl⟩
  have k3 : r = some (.int z) ∧ L' = L := ⟨hr, hL'⟩
  refine mt_eq hr hL' ?_
  refine Mt.of (plainFor_of_name (by decide)) (Nat.le_of_ble_eq_true rfl) ?_
  refine sx_sub (lv' := [(0, .int v0)]) [0] rfl ?_
  unfold fX6_onlyBit at h
  refine sx_iconst (v := (0 : Int32)) dX6_onlyBit_0 (by decide) ?_
  refine sx_istore_n (i := 1) (lv' := [(0, .int v0), (1, .int (0 : Int32))]) dX6_onlyBit_1 rfl (by decide) rfl ?_
  obtain ⟨x5, hx, q1, q2⟩ := lx_e h
  refine sx_sub (lv' := [(0, .int v0), (1, .int (0 : Int32))]) [0, 1] rfl ?_
  refine lp_go (fun s4 => Sx l E yX6_onlyBit cX6_onlyBit 2 (some .int) (1) r L' 2 [(0, .int v0), (1, .int s4)] [] L) x5 (fun s4 z2 hz c1 c2 => ?_) FU _ hx
  refine tX6_onlyBit_b2 hz (fun s2 e => c1 s2 e) (fun s4 e => ?_) (fun v e => ?_)
  · have h := q1 _ (c2 _ e).symm
    refine sx_iconst (v := (-1 : Int32)) dX6_onlyBit_22 (by decide) ?_
    obtain rfl := Option.some.inj h
    exact sx_iret dX6_onlyBit_23 rfl rfl k3.1 k3.2
  · have e2 := Option.some.inj (q2 _ (c2 _ e).symm)
    subst e2
    exact k3
set_option maxRecDepth 100000 in
set_option maxHeartbeats 4000000 in
theorem tX6_plaster_j26 {l : Launch} {E : Ev} {r : Option Value} {L' L : HL} {a0 : Nat} {z : Int32 × HL} (h0 : isX6 E a0) (h : fX6_plaster_j26 a0 L = some z) (k3 : r = some (.int z.1) ∧ L' = z.2) : Sx l E yX6_plaster cX6_plaster 5 (some .int) (3) r L' 26 [(0, .ref a0)] [] L := by
  unfold fX6_plaster_j26 at h
  refine sx_aload_n (i := 0) (j := 0) dX6_plaster_26 rfl rfl ?_
  refine sx_bipush (v := (-2 : Int32)) dX6_plaster_27 (by decide) ?_
  refine sx_bipush (v := (-10 : Int32)) dX6_plaster_29 (by decide) ?_
  obtain ⟨z2, ez2, h⟩ := bd_e h
  refine sx_callV (avs := [.int (-2 : Int32), .int (-10 : Int32)]) (rest := []) (st1 := [.int z2.1]) dX6_plaster_31 (mX6_refused h0 ez2) ciX6_refused (Or.inl wd_404) (X6_k h0) rfl rfl rfl rfl (rm_m rfl) rfl (Nat.le_of_ble_eq_true rfl) rfl ?_
  obtain rfl := Option.some.inj h
  exact sx_iret dX6_plaster_34 rfl rfl k3.1 k3.2
set_option maxRecDepth 100000 in
set_option maxHeartbeats 4000000 in
theorem tX6_plaster_b58 {l : Launch} {E : Ev} {r : Option Value} {L' L : HL} {a0 : Nat} {v1 : Int32} {v3 : Int32} {v4 : Int32} {z : Tn (Int32 × Int32) (Int32 × HL)} (h0 : isX6 E a0) (h : fX6_plaster_b58 a0 v1 v3 v4 L = some z) (k1 : ∀ s, z = .inl s → Sx l E yX6_plaster cX6_plaster 5 (some .int) (3) r L' 58 [(0, .ref a0), (1, .int v1), (3, .int s.1), (4, .int s.2)] [] L) (k2 : ∀ s, z = .inr (.inl s) → Sx l E yX6_plaster cX6_plaster 5 (some .int) (3) r L' 92 [(3, .int s.1)] [] L) (k3 : ∀ v, z = .inr (.inr v) → r = some (.int v.1) ∧ L' = v.2) : Sx l E yX6_plaster cX6_plaster 5 (some .int) (3) r L' 58 [(0, .ref a0), (1, .int v1), (3, .int v3), (4, .int v4)] [] L := by
  unfold fX6_plaster_b58 at h
  refine sx_iload (j := 3) dX6_plaster_58 rfl ?_
  refine sx_aload_n (i := 0) (j := 0) dX6_plaster_60 rfl rfl ?_
  refine sx_get (k := 0) (v := .ref (a0 + 1)) dX6_plaster_61 (X6_k h0) cf_6 (Or.inl wd_340) (by decide : 0 < 13) (congrArg Value.ref (X6_r0 h0)) ?_
  refine sx_get (k := 0) (v := .int (L.1 (a0 + 1) 0)) dX6_plaster_64 (X4_k (X6_o0 h0)) cf_4 (Or.inr ⟨_, nw_134⟩) (by decide : 0 < 17) rfl ?_
  refine sx_icmp_ge (tgt := 92) dX6_plaster_67 rfl (fun c6 => ?_) (fun c6 => ?_)
  · have h := if_e c6 h
    obtain rfl := Option.some.inj h
    exact sx_sub [2] rfl (k2 _ rfl)
  · have h := if_n c6 h
    refine sx_iload_n (i := 3) (j := 2) dX6_plaster_70 rfl rfl ?_
    refine sx_aload_n (i := 0) (j := 0) dX6_plaster_71 rfl rfl ?_
    refine sx_get (k := 0) (v := .ref (a0 + 1)) dX6_plaster_72 (X6_k h0) cf_6 (Or.inl wd_340) (by decide : 0 < 13) (congrArg Value.ref (X6_r0 h0)) ?_
    refine sx_iload (j := 3) dX6_plaster_75 rfl ?_
    refine sx_iload_n (i := 1) (j := 1) dX6_plaster_77 rfl rfl ?_
    obtain ⟨z7, ez7, h⟩ := bd_e h
    refine sx_callV (avs := [.int v4, .int v1]) (rest := [.int v3]) (st1 := [.int z7, .int v3]) dX6_plaster_78 (mX4_begetters (X6_o0 h0) ez7) ciX4_begetters (Or.inr ⟨_, nw_845⟩) (X4_k (X6_o0 h0)) rfl rfl rfl rfl (rm_m rfl) rfl (Nat.le_of_ble_eq_true rfl) rfl ?_
    obtain ⟨z8, ez8, h⟩ := bd_e h
    refine sx_callS (avs := [.int z7]) (rest := [.int v3]) (st1 := [.int z8, .int v3]) dX6_plaster_81 (mJ6_bitCount_0f7a4 ez8) ctJ6_bitCount_0f7a4 (Or.inl wd_672) rfl rfl (rm_m rfl) rfl (Nat.le_of_ble_eq_true rfl) rfl ?_
    refine sx_imul dX6_plaster_84 ?_
    refine sx_topi (fun w9 ew9 => ?_)
    have h := lt_e ew9 h
    refine sx_istore_n (i := 3) (lv' := [(0, .ref a0), (1, .int v1), (3, .int w9), (4, .int v4)]) dX6_plaster_85 rfl (by decide) rfl ?_
    obtain ⟨w10, ew10⟩ : ∃ w : Int32, w = v4 + (1 : Int32) := ⟨_, rfl⟩
    have h := lt_e ew10 h
    refine sx_iinc (j := 3) (v := w10) (lv' := [(0, .ref a0), (1, .int v1), (3, .int w9), (4, .int w10)]) dX6_plaster_86 rfl (ii_1 ew10) (by decide) rfl ?_
    refine sx_goto (tgt := 58) dX6_plaster_89 rfl ?_
    obtain rfl := Option.some.inj h
    exact sx_sub [0, 1, 2, 3] rfl (k1 _ rfl)
set_option maxRecDepth 100000 in
set_option maxHeartbeats 4000000 in
theorem tX6_plaster_j35 {l : Launch} {E : Ev} {r : Option Value} {L' L : HL} {a0 : Nat} {v1 : Int32} {v2 : Int32} {z : Int32 × HL} (h0 : isX6 E a0) (h : fX6_plaster_j35 a0 v1 v2 L = some z) (k3 : r = some (.int z.1) ∧ L' = z.2) : Sx l E yX6_plaster cX6_plaster 5 (some .int) (3) r L' 35 [(0, .ref a0), (1, .int v1), (2, .int v2)] [] L := by
  unfold fX6_plaster_j35 at h
  refine sx_iload_n (i := 2) (j := 2) dX6_plaster_35 rfl rfl ?_
  refine sx_iconst (v := (-1 : Int32)) dX6_plaster_36 (by decide) ?_
  refine sx_icmp_eq (tgt := 53) dX6_plaster_37 rfl (fun c5 => ?_) (fun c5 => ?_)
  · have h := if_e c5 h
    refine sx_iconst (v := (1 : Int32)) dX6_plaster_53 (by decide) ?_
    refine sx_istore_n (i := 3) (lv' := [(0, .ref a0), (1, .int v1), (2, .int v2), (3, .int (1 : Int32))]) dX6_plaster_54 rfl (by decide) rfl ?_
    refine sx_iconst (v := (1 : Int32)) dX6_plaster_55 (by decide) ?_
    refine sx_istore (lv' := [(0, .ref a0), (1, .int v1), (2, .int v2), (3, .int (1 : Int32)), (4, .int (1 : Int32))]) dX6_plaster_56 (by decide) rfl ?_
    obtain ⟨x12, hx, q1, q2⟩ := lx_e h
    refine sx_sub (lv' := [(0, .ref a0), (1, .int v1), (3, .int (1 : Int32)), (4, .int (1 : Int32))]) [0, 1, 3, 4] rfl ?_
    refine lp_go (fun s11 => Sx l E yX6_plaster cX6_plaster 5 (some .int) (3) r L' 58 [(0, .ref a0), (1, .int v1), (3, .int s11.1), (4, .int s11.2)] [] L) x12 (fun s11 z2 hz c1 c2 => ?_) FU _ hx
    refine tX6_plaster_b58 h0 hz (fun s2 e => c1 s2 e) (fun s11 e => ?_) (fun v e => ?_)
    · have h := q1 _ (c2 _ e).symm
      refine sx_iload_n (i := 3) (j := 0) dX6_plaster_92 rfl rfl ?_
      obtain rfl := Option.some.inj h
      exact sx_iret dX6_plaster_93 rfl rfl k3.1 k3.2
    · have e2 := Option.some.inj (q2 _ (c2 _ e).symm)
      subst e2
      exact k3
  · have h := if_n c5 h
    refine sx_aload_n (i := 0) (j := 0) dX6_plaster_40 rfl rfl ?_
    refine sx_get (k := 0) (v := .ref (a0 + 1)) dX6_plaster_41 (X6_k h0) cf_6 (Or.inl wd_340) (by decide : 0 < 13) (congrArg Value.ref (X6_r0 h0)) ?_
    refine sx_iload_n (i := 2) (j := 2) dX6_plaster_44 rfl rfl ?_
    refine sx_iload_n (i := 1) (j := 1) dX6_plaster_45 rfl rfl ?_
    obtain ⟨z13, ez13, h⟩ := bd_e h
    refine sx_callV (avs := [.int v2, .int v1]) (rest := []) (st1 := [.int z13]) dX6_plaster_46 (mX4_begetters (X6_o0 h0) ez13) ciX4_begetters (Or.inr ⟨_, nw_845⟩) (X4_k (X6_o0 h0)) rfl rfl rfl rfl (rm_m rfl) rfl (Nat.le_of_ble_eq_true rfl) rfl ?_
    obtain ⟨z14, ez14, h⟩ := bd_e h
    refine sx_callS (avs := [.int z13]) (rest := []) (st1 := [.int z14]) dX6_plaster_49 (mX6_onlyBit ez14) ctX6_onlyBit (Or.inl wd_850) rfl rfl (rm_m rfl) rfl (Nat.le_of_ble_eq_true rfl) rfl ?_
    obtain rfl := Option.some.inj h
    exact sx_iret dX6_plaster_52 rfl rfl k3.1 k3.2
set_option maxRecDepth 100000 in
set_option maxHeartbeats 4000000 in
theorem mX6_plaster {l : Launch} {E : Ev} {L : HL} {a0 : Nat} {v1 : Int32} {v2 : Int32} {z : Int32 × HL} (h0 : isX6 E a0) (h : fX6_plaster a0 v1 v2 L = some z) : Mt l E yX6_plaster cX6_plaster 5 (some .int) (3) [.ref a0, .int v1, .int v2] L (some (.int z.1)) (z.2) := by
  obtain ⟨r, hr⟩ : ∃ r : Option Value, r = some (.int z.1) := ⟨_, rfl⟩
  obtain ⟨L', hL'⟩ : ∃ L' : HL, L' = z.2 := ⟨_, rfl⟩
  have k3 : r = some (.int z.1) ∧ L' = z.2 := ⟨hr, hL'⟩
  refine mt_eq hr hL' ?_
  refine Mt.of (plainFor_of_name (by decide)) (Nat.le_of_ble_eq_true rfl) ?_
  refine sx_sub (lv' := [(0, .ref a0), (1, .int v1), (2, .int v2)]) [0, 1, 2] rfl ?_
  unfold fX6_plaster at h
  refine sx_iload_n (i := 1) (j := 1) dX6_plaster_0 rfl rfl ?_
  refine sx_if_lt (tgt := 26) dX6_plaster_1 rfl (fun c1 => ?_) (fun c1 => ?_)
  · have h := if_e c1 h
    exact sx_sub [0] rfl (tX6_plaster_j26 h0 h k3)
  · have h := if_n c1 h
    refine sx_iload_n (i := 1) (j := 1) dX6_plaster_4 rfl rfl ?_
    refine sx_bipush (v := (8 : Int32)) dX6_plaster_5 (by decide) ?_
    refine sx_icmp_gt (tgt := 26) dX6_plaster_7 rfl (fun c3 => ?_) (fun c3 => ?_)
    · have h := if_e c3 h
      exact sx_sub [0] rfl (tX6_plaster_j26 h0 h k3)
    · have h := if_n c3 h
      refine sx_iload_n (i := 2) (j := 2) dX6_plaster_10 rfl rfl ?_
      refine sx_iconst (v := (-1 : Int32)) dX6_plaster_11 (by decide) ?_
      refine sx_icmp_eq (tgt := 35) dX6_plaster_12 rfl (fun c4 => ?_) (fun c4 => ?_)
      · have h := if_e c4 h
        exact sx_sub [0, 1, 2] rfl (tX6_plaster_j35 h0 h k3)
      · have h := if_n c4 h
        refine sx_aload_n (i := 0) (j := 0) dX6_plaster_15 rfl rfl ?_
        refine sx_get (k := 0) (v := .ref (a0 + 1)) dX6_plaster_16 (X6_k h0) cf_6 (Or.inl wd_340) (by decide : 0 < 13) (congrArg Value.ref (X6_r0 h0)) ?_
        refine sx_iload_n (i := 2) (j := 2) dX6_plaster_19 rfl rfl ?_
        obtain ⟨z15, ez15, h⟩ := bd_e h
        refine sx_callV (avs := [.int v2]) (rest := []) (st1 := [.int z15]) dX6_plaster_20 (mX4_has (X6_o0 h0) ez15) ciX4_has (Or.inr ⟨_, nw_616⟩) (X4_k (X6_o0 h0)) rfl rfl rfl rfl (rm_m rfl) rfl (Nat.le_of_ble_eq_true rfl) rfl ?_
        refine sx_if_ne (tgt := 35) dX6_plaster_23 rfl (fun c16 => ?_) (fun c16 => ?_)
        · have h := if_e c16 h
          exact sx_sub [0] rfl (tX6_plaster_j26 h0 h k3)
        · have h := if_n c16 h
          exact sx_sub [0, 1, 2] rfl (tX6_plaster_j35 h0 h k3)
set_option maxRecDepth 100000 in
set_option maxHeartbeats 4000000 in
theorem tX6_gables_j10 {l : Launch} {E : Ev} {r : Option Value} {L' L : HL} {a0 : Nat} {z : Int32 × HL} (h0 : isX6 E a0) (h : fX6_gables_j10 a0 L = some z) (k3 : r = some (.int z.1) ∧ L' = z.2) : Sx l E yX6_gables cX6_gables 4 (some .int) (3) r L' 10 [(0, .ref a0)] [] L := by
  unfold fX6_gables_j10 at h
  refine sx_aload_n (i := 0) (j := 0) dX6_gables_10 rfl rfl ?_
  refine sx_bipush (v := (-2 : Int32)) dX6_gables_11 (by decide) ?_
  refine sx_bipush (v := (-2 : Int32)) dX6_gables_13 (by decide) ?_
  obtain ⟨z2, ez2, h⟩ := bd_e h
  refine sx_callV (avs := [.int (-2 : Int32), .int (-2 : Int32)]) (rest := []) (st1 := [.int z2.1]) dX6_gables_15 (mX6_refused h0 ez2) ciX6_refused (Or.inl wd_404) (X6_k h0) rfl rfl rfl rfl (rm_m rfl) rfl (Nat.le_of_ble_eq_true rfl) rfl ?_
  obtain rfl := Option.some.inj h
  exact sx_iret dX6_gables_18 rfl rfl k3.1 k3.2
set_option maxRecDepth 100000 in
set_option maxHeartbeats 4000000 in
theorem tX6_gables_b23 {l : Launch} {E : Ev} {r : Option Value} {L' L : HL} {a0 : Nat} {v1 : Int32} {v2 : Int32} {v3 : Int32} {z : Tn (Int32 × Int32) (Int32 × HL)} (h0 : isX6 E a0) (h : fX6_gables_b23 a0 v1 v2 v3 L = some z) (k1 : ∀ s, z = .inl s → Sx l E yX6_gables cX6_gables 4 (some .int) (3) r L' 23 [(0, .ref a0), (1, .int v1), (2, .int s.1), (3, .int s.2)] [] L) (k2 : ∀ s, z = .inr (.inl s) → Sx l E yX6_gables cX6_gables 4 (some .int) (3) r L' 58 [(2, .int s.1)] [] L) (k3 : ∀ v, z = .inr (.inr v) → r = some (.int v.1) ∧ L' = v.2) : Sx l E yX6_gables cX6_gables 4 (some .int) (3) r L' 23 [(0, .ref a0), (1, .int v1), (2, .int v2), (3, .int v3)] [] L := by
  unfold fX6_gables_b23 at h
  refine sx_iload_n (i := 3) (j := 3) dX6_gables_23 rfl rfl ?_
  refine sx_aload_n (i := 0) (j := 0) dX6_gables_24 rfl rfl ?_
  refine sx_get (k := 0) (v := .ref (a0 + 1)) dX6_gables_25 (X6_k h0) cf_6 (Or.inl wd_340) (by decide : 0 < 13) (congrArg Value.ref (X6_r0 h0)) ?_
  refine sx_get (k := 0) (v := .int (L.1 (a0 + 1) 0)) dX6_gables_28 (X4_k (X6_o0 h0)) cf_4 (Or.inr ⟨_, nw_134⟩) (by decide : 0 < 17) rfl ?_
  refine sx_icmp_ge (tgt := 58) dX6_gables_31 rfl (fun c4 => ?_) (fun c4 => ?_)
  · have h := if_e c4 h
    obtain rfl := Option.some.inj h
    exact sx_sub [2] rfl (k2 _ rfl)
  · have h := if_n c4 h
    refine sx_aload_n (i := 0) (j := 0) dX6_gables_34 rfl rfl ?_
    refine sx_get (k := 0) (v := .ref (a0 + 1)) dX6_gables_35 (X6_k h0) cf_6 (Or.inl wd_340) (by decide : 0 < 13) (congrArg Value.ref (X6_r0 h0)) ?_
    refine sx_iload_n (i := 3) (j := 3) dX6_gables_38 rfl rfl ?_
    refine sx_iload_n (i := 1) (j := 1) dX6_gables_39 rfl rfl ?_
    obtain ⟨z5, ez5, h⟩ := bd_e h
    refine sx_callV (avs := [.int v3, .int v1]) (rest := []) (st1 := [.int z5]) dX6_gables_40 (mX4_begetters (X6_o0 h0) ez5) ciX4_begetters (Or.inr ⟨_, nw_845⟩) (X4_k (X6_o0 h0)) rfl rfl rfl rfl (rm_m rfl) rfl (Nat.le_of_ble_eq_true rfl) rfl ?_
    refine sx_if_ne (tgt := 52) dX6_gables_43 rfl (fun c6 => ?_) (fun c6 => ?_)
    · have h := if_e c6 h
      refine sx_iload_n (i := 2) (j := 2) dX6_gables_46 rfl rfl ?_
      refine sx_iconst (v := (1 : Int32)) dX6_gables_47 (by decide) ?_
      refine sx_iload_n (i := 3) (j := 3) dX6_gables_48 rfl rfl ?_
      refine sx_ishl dX6_gables_49 ?_
      refine sx_ior dX6_gables_50 ?_
      refine sx_topi (fun w7 ew7 => ?_)
      have h := lt_e ew7 h
      refine sx_istore_n (i := 2) (lv' := [(0, .ref a0), (1, .int v1), (2, .int w7), (3, .int v3)]) dX6_gables_51 rfl (by decide) rfl ?_
      obtain ⟨w8, ew8⟩ : ∃ w : Int32, w = v3 + (1 : Int32) := ⟨_, rfl⟩
      have h := lt_e ew8 h
      refine sx_iinc (j := 3) (v := w8) (lv' := [(0, .ref a0), (1, .int v1), (2, .int w7), (3, .int w8)]) dX6_gables_52 rfl (ii_1 ew8) (by decide) rfl ?_
      refine sx_goto (tgt := 23) dX6_gables_55 rfl ?_
      obtain rfl := Option.some.inj h
      exact sx_sub [0, 1, 2, 3] rfl (k1 _ rfl)
    · have h := if_n c6 h
      obtain ⟨w9, ew9⟩ : ∃ w : Int32, w = v3 + (1 : Int32) := ⟨_, rfl⟩
      have h := lt_e ew9 h
      refine sx_iinc (j := 3) (v := w9) (lv' := [(0, .ref a0), (1, .int v1), (2, .int v2), (3, .int w9)]) dX6_gables_52 rfl (ii_1 ew9) (by decide) rfl ?_
      refine sx_goto (tgt := 23) dX6_gables_55 rfl ?_
      obtain rfl := Option.some.inj h
      exact sx_sub [0, 1, 2, 3] rfl (k1 _ rfl)
set_option maxRecDepth 100000 in
set_option maxHeartbeats 4000000 in
theorem mX6_gables {l : Launch} {E : Ev} {L : HL} {a0 : Nat} {v1 : Int32} {z : Int32 × HL} (h0 : isX6 E a0) (h : fX6_gables a0 v1 L = some z) : Mt l E yX6_gables cX6_gables 4 (some .int) (3) [.ref a0, .int v1] L (some (.int z.1)) (z.2) := by
  obtain ⟨r, hr⟩ : ∃ r : Option Value, r = some (.int z.1) := ⟨_, rfl⟩
  obtain ⟨L', hL'⟩ : ∃ L' : HL, L' = z.2 := ⟨_, rfl⟩
  have k3 : r = some (.int z.1) ∧ L' = z.2 := ⟨hr, hL'⟩
  refine mt_eq hr hL' ?_
  refine Mt.of (plainFor_of_name (by decide)) (Nat.le_of_ble_eq_true rfl) ?_
  refine sx_sub (lv' := [(0, .ref a0), (1, .int v1)]) [0, 1] rfl ?_
  unfold fX6_gables at h
  refine sx_iload_n (i := 1) (j := 1) dX6_gables_0 rfl rfl ?_
  refine sx_if_lt (tgt := 10) dX6_gables_1 rfl (fun c1 => ?_) (fun c1 => ?_)
  · have h := if_e c1 h
    exact sx_sub [0] rfl (tX6_gables_j10 h0 h k3)
  · have h := if_n c1 h
    refine sx_iload_n (i := 1) (j := 1) dX6_gables_4 rfl rfl ?_
    refine sx_bipush (v := (8 : Int32)) dX6_gables_5 (by decide) ?_
    refine sx_icmp_le (tgt := 19) dX6_gables_7 rfl (fun c3 => ?_) (fun c3 => ?_)
    · have h := if_e c3 h
      refine sx_iconst (v := (0 : Int32)) dX6_gables_19 (by decide) ?_
      refine sx_istore_n (i := 2) (lv' := [(0, .ref a0), (1, .int v1), (2, .int (0 : Int32))]) dX6_gables_20 rfl (by decide) rfl ?_
      refine sx_iconst (v := (1 : Int32)) dX6_gables_21 (by decide) ?_
      refine sx_istore_n (i := 3) (lv' := [(0, .ref a0), (1, .int v1), (2, .int (0 : Int32)), (3, .int (1 : Int32))]) dX6_gables_22 rfl (by decide) rfl ?_
      obtain ⟨x11, hx, q1, q2⟩ := lx_e h
      refine sx_sub (lv' := [(0, .ref a0), (1, .int v1), (2, .int (0 : Int32)), (3, .int (1 : Int32))]) [0, 1, 2, 3] rfl ?_
      refine lp_go (fun s10 => Sx l E yX6_gables cX6_gables 4 (some .int) (3) r L' 23 [(0, .ref a0), (1, .int v1), (2, .int s10.1), (3, .int s10.2)] [] L) x11 (fun s10 z2 hz c1 c2 => ?_) FU _ hx
      refine tX6_gables_b23 h0 hz (fun s2 e => c1 s2 e) (fun s10 e => ?_) (fun v e => ?_)
      · have h := q1 _ (c2 _ e).symm
        refine sx_iload_n (i := 2) (j := 0) dX6_gables_58 rfl rfl ?_
        obtain rfl := Option.some.inj h
        exact sx_iret dX6_gables_59 rfl rfl k3.1 k3.2
      · have e2 := Option.some.inj (q2 _ (c2 _ e).symm)
        subst e2
        exact k3
    · have h := if_n c3 h
      exact sx_sub [0] rfl (tX6_gables_j10 h0 h k3)
set_option maxRecDepth 100000 in
set_option maxHeartbeats 4000000 in
theorem tX6_gain_j46 {l : Launch} {E : Ev} {r : Option Value} {L' L : HL} {a0 : Nat} {v1 : Int32} {v3 : Int32} {s0 : Int32} {z : Int32 × HL} (h0 : isX6 E a0) (h : fX6_gain_j46 a0 v1 v3 s0 L = some z) (k3 : r = some (.int z.1) ∧ L' = z.2) : Sx l E yX6_gain cX6_gain 7 (some .int) (4) r L' 46 [(0, .ref a0), (1, .int v1), (3, .int v3)] [.int s0] L := by
  unfold fX6_gain_j46 at h
  refine sx_istore (lv' := [(0, .ref a0), (1, .int v1), (3, .int v3), (5, .int s0)]) dX6_gain_46 (by decide) rfl ?_
  refine sx_iconst (v := (0 : Int32)) dX6_gain_48 (by decide) ?_
  refine sx_aload_n (i := 0) (j := 0) dX6_gain_49 rfl rfl ?_
  refine sx_get (k := 0) (v := .ref (a0 + 1)) dX6_gain_50 (X6_k h0) cf_6 (Or.inl wd_340) (by decide : 0 < 13) (congrArg Value.ref (X6_r0 h0)) ?_
  refine sx_iload_n (i := 1) (j := 1) dX6_gain_53 rfl rfl ?_
  obtain ⟨z5, ez5, h⟩ := bd_e h
  refine sx_callV (avs := [.int v1]) (rest := [.int (0 : Int32)]) (st1 := [.int z5, .int (0 : Int32)]) dX6_gain_54 (mX4_dwellers (X6_o0 h0) ez5) ciX4_dwellers (Or.inr ⟨_, nw_869⟩) (X4_k (X6_o0 h0)) rfl rfl rfl rfl (rm_m rfl) rfl (Nat.le_of_ble_eq_true rfl) rfl ?_
  refine sx_iload (j := 3) dX6_gain_57 rfl ?_
  refine sx_iadd dX6_gain_59 ?_
  refine sx_aload_n (i := 0) (j := 0) dX6_gain_60 rfl rfl ?_
  refine sx_get (k := 0) (v := .ref (a0 + 1)) dX6_gain_61 (X6_k h0) cf_6 (Or.inl wd_340) (by decide : 0 < 13) (congrArg Value.ref (X6_r0 h0)) ?_
  refine sx_get (k := 4) (v := .ref ((a0 + 1) + 1)) dX6_gain_64 (X4_k (X6_o0 h0)) cf_4 (Or.inr ⟨_, nw_148⟩) (by decide : 4 < 17) (congrArg Value.ref (X4_r4 (X6_o0 h0))) ?_
  refine sx_iload_n (i := 1) (j := 1) dX6_gain_67 rfl rfl ?_
  obtain ⟨c6, h⟩ := gd_e h
  refine sx_iald dX6_gain_68 (X4_a4 (X6_o0 h0)) c6 ?_
  refine sx_isub dX6_gain_69 ?_
  obtain ⟨z7, ez7, h⟩ := bd_e h
  refine sx_callS (avs := [.int (0 : Int32), .int ((z5 + s0) - (L.1 ((a0 + 1) + 1) v1.toNatClampNeg))]) (rest := []) (st1 := [.int z7]) dX6_gain_70 (mJ9_max_7cf53 ez7) ctJ9_max_7cf53 (Or.inl wd_870) rfl rfl (rm_m rfl) rfl (Nat.le_of_ble_eq_true rfl) rfl ?_
  refine sx_istore (lv' := [(0, .ref a0), (1, .int v1), (3, .int v3), (5, .int s0), (6, .int z7)]) dX6_gain_73 (by decide) rfl ?_
  refine sx_iconst (v := (2 : Int32)) dX6_gain_75 (by decide) ?_
  refine sx_iload (j := 3) dX6_gain_76 rfl ?_
  refine sx_imul dX6_gain_78 ?_
  refine sx_iload (j := 4) dX6_gain_79 rfl ?_
  refine sx_isub dX6_gain_81 ?_
  refine sx_iload_n (i := 3) (j := 2) dX6_gain_82 rfl rfl ?_
  refine sx_iload_n (i := 1) (j := 1) dX6_gain_83 rfl rfl ?_
  refine sx_ishr dX6_gain_84 ?_
  refine sx_iconst (v := (1 : Int32)) dX6_gain_85 (by decide) ?_
  refine sx_iand dX6_gain_86 ?_
  refine sx_isub dX6_gain_87 ?_
  obtain rfl := Option.some.inj h
  exact sx_iret dX6_gain_88 rfl rfl k3.1 k3.2
set_option maxRecDepth 100000 in
set_option maxHeartbeats 4000000 in
theorem tX6_gain_j27 {l : Launch} {E : Ev} {r : Option Value} {L' L : HL} {a0 : Nat} {v1 : Int32} {v2 : Int32} {v3 : Int32} {s0 : Int32} {z : Int32 × HL} (h0 : isX6 E a0) (h : fX6_gain_j27 a0 v1 v2 v3 s0 L = some z) (k3 : r = some (.int z.1) ∧ L' = z.2) : Sx l E yX6_gain cX6_gain 7 (some .int) (4) r L' 27 [(0, .ref a0), (1, .int v1), (2, .int v2), (3, .int v3)] [.int s0] L := by
  unfold fX6_gain_j27 at h
  refine sx_istore (lv' := [(0, .ref a0), (1, .int v1), (2, .int v2), (3, .int v3), (4, .int s0)]) dX6_gain_27 (by decide) rfl ?_
  refine sx_iload (j := 4) dX6_gain_29 rfl ?_
  refine sx_if_eq (tgt := 45) dX6_gain_31 rfl (fun c4 => ?_) (fun c4 => ?_)
  · have h := if_e c4 h
    refine sx_iconst (v := (0 : Int32)) dX6_gain_45 (by decide) ?_
    exact sx_sub [0, 1, 3] rfl (tX6_gain_j46 h0 h k3)
  · have h := if_n c4 h
    refine sx_aload_n (i := 0) (j := 0) dX6_gain_34 rfl rfl ?_
    refine sx_get (k := 0) (v := .ref (a0 + 1)) dX6_gain_35 (X6_k h0) cf_6 (Or.inl wd_340) (by decide : 0 < 13) (congrArg Value.ref (X6_r0 h0)) ?_
    refine sx_iload_n (i := 2) (j := 2) dX6_gain_38 rfl rfl ?_
    obtain ⟨z8, ez8, h⟩ := bd_e h
    refine sx_callV (avs := [.int v2]) (rest := []) (st1 := [.int z8]) dX6_gain_39 (mX4_dwellers (X6_o0 h0) ez8) ciX4_dwellers (Or.inr ⟨_, nw_869⟩) (X4_k (X6_o0 h0)) rfl rfl rfl rfl (rm_m rfl) rfl (Nat.le_of_ble_eq_true rfl) rfl ?_
    refine sx_goto (tgt := 46) dX6_gain_42 rfl ?_
    exact sx_sub [0, 1, 3] rfl (tX6_gain_j46 h0 h k3)
set_option maxRecDepth 100000 in
set_option maxHeartbeats 4000000 in
theorem mX6_gain {l : Launch} {E : Ev} {L : HL} {a0 : Nat} {v1 : Int32} {v2 : Int32} {v3 : Int32} {z : Int32 × HL} (h0 : isX6 E a0) (h : fX6_gain a0 v1 v2 v3 L = some z) : Mt l E yX6_gain cX6_gain 7 (some .int) (4) [.ref a0, .int v1, .int v2, .int v3] L (some (.int z.1)) (z.2) := by
  obtain ⟨r, hr⟩ : ∃ r : Option Value, r = some (.int z.1) := ⟨_, rfl⟩
  obtain ⟨L', hL'⟩ : ∃ L' : HL, L' = z.2 := ⟨_, rfl⟩
  have k3 : r = some (.int z.1) ∧ L' = z.2 := ⟨hr, hL'⟩
  refine mt_eq hr hL' ?_
  refine Mt.of (plainFor_of_name (by decide)) (Nat.le_of_ble_eq_true rfl) ?_
  refine sx_sub (lv' := [(0, .ref a0), (1, .int v1), (2, .int v2), (3, .int v3)]) [0, 1, 2, 3] rfl ?_
  unfold fX6_gain at h
  refine sx_aload_n (i := 0) (j := 0) dX6_gain_0 rfl rfl ?_
  refine sx_get (k := 0) (v := .ref (a0 + 1)) dX6_gain_1 (X6_k h0) cf_6 (Or.inl wd_340) (by decide : 0 < 13) (congrArg Value.ref (X6_r0 h0)) ?_
  refine sx_aload_n (i := 0) (j := 0) dX6_gain_4 rfl rfl ?_
  refine sx_get (k := 0) (v := .ref (a0 + 1)) dX6_gain_5 (X6_k h0) cf_6 (Or.inl wd_340) (by decide : 0 < 13) (congrArg Value.ref (X6_r0 h0)) ?_
  refine sx_get (k := 8) (v := .ref ((a0 + 1) + 5)) dX6_gain_8 (X4_k (X6_o0 h0)) cf_4 (Or.inr ⟨_, nw_158⟩) (by decide : 8 < 17) (congrArg Value.ref (X4_r8 (X6_o0 h0))) ?_
  refine sx_iload_n (i := 2) (j := 2) dX6_gain_11 rfl rfl ?_
  obtain ⟨c1, h⟩ := gd_e h
  refine sx_iald dX6_gain_12 (X4_a8 (X6_o0 h0)) c1 ?_
  refine sx_iload_n (i := 2) (j := 2) dX6_gain_13 rfl rfl ?_
  refine sx_iload_n (i := 3) (j := 3) dX6_gain_14 rfl rfl ?_
  obtain ⟨z2, ez2, h⟩ := bd_e h
  refine sx_callV (avs := [.int (L.1 ((a0 + 1) + 5) v2.toNatClampNeg), .int v2, .int v3]) (rest := []) (st1 := [.int z2.1]) dX6_gain_15 (mX4_heirBy (X6_o0 h0) ez2) ciX4_heirBy (Or.inr ⟨_, nw_735⟩) (X4_k (X6_o0 h0)) rfl rfl rfl rfl (rm_m rfl) rfl (Nat.le_of_ble_eq_true rfl) rfl ?_
  refine sx_iload_n (i := 1) (j := 1) dX6_gain_18 rfl rfl ?_
  refine sx_icmp_ne (tgt := 26) dX6_gain_19 rfl (fun c3 => ?_) (fun c3 => ?_)
  · have h := if_e c3 h
    refine sx_iconst (v := (1 : Int32)) dX6_gain_22 (by decide) ?_
    refine sx_goto (tgt := 27) dX6_gain_23 rfl ?_
    exact sx_sub [0, 1, 2, 3] rfl (tX6_gain_j27 h0 h k3)
  · have h := if_n c3 h
    refine sx_iconst (v := (0 : Int32)) dX6_gain_26 (by decide) ?_
    exact sx_sub [0, 1, 2, 3] rfl (tX6_gain_j27 h0 h k3)
set_option maxRecDepth 100000 in
set_option maxHeartbeats 4000000 in
theorem mX6_rests {l : Launch} {E : Ev} {L : HL} {a0 : Nat} {v1 : Int32} {v2 : Int32} {v3 : Int32} {v4 : Int32} {v5 : Int32} {z : Int32 × HL} (h0 : isX6 E a0) (h : fX6_rests a0 v1 v2 v3 v4 v5 L = some z) : Mt l E yX6_rests cX6_rests 9 (some .boolean) (5) [.ref a0, .int v1, .int v2, .int v3, .int v4, .int v5] L (some (.int z.1)) (z.2) := by
  obtain ⟨r, hr⟩ : ∃ r : Option Value, r = some (.int z.1) := ⟨_, rfl⟩
  obtain ⟨L', hL'⟩ : ∃ L' : HL, L' = z.2 := ⟨_, rfl⟩
  have k3 : r = some (.int z.1) ∧ L' = z.2 := ⟨hr, hL'⟩
  refine mt_eq hr hL' ?_
  refine Mt.of (plainFor_of_name (by decide)) (Nat.le_of_ble_eq_true rfl) ?_
  refine sx_sub (lv' := [(0, .ref a0), (1, .int v1), (2, .int v2), (3, .int v3), (4, .int v4), (5, .int v5)]) [0, 1, 2, 3, 4, 5] rfl ?_
  unfold fX6_rests at h
  refine sx_iload (j := 4) dX6_rests_0 rfl ?_
  refine sx_iload_n (i := 1) (j := 1) dX6_rests_2 rfl rfl ?_
  refine sx_ishl dX6_rests_3 ?_
  refine sx_iload (j := 5) dX6_rests_4 rfl ?_
  refine sx_iload_n (i := 2) (j := 2) dX6_rests_6 rfl rfl ?_
  refine sx_ishl dX6_rests_7 ?_
  refine sx_ior dX6_rests_8 ?_
  refine sx_topi (fun w1 ew1 => ?_)
  have h := lt_e ew1 h
  refine sx_istore (lv' := [(0, .ref a0), (1, .int v1), (2, .int v2), (3, .int v3), (4, .int v4), (5, .int v5), (6, .int w1)]) dX6_rests_9 (by decide) rfl ?_
  refine sx_iload (j := 6) dX6_rests_11 rfl ?_
  refine sx_iconst (v := (1 : Int32)) dX6_rests_13 (by decide) ?_
  refine sx_iload_n (i := 1) (j := 1) dX6_rests_14 rfl rfl ?_
  refine sx_ishl dX6_rests_15 ?_
  refine sx_ixor dX6_rests_16 ?_
  refine sx_topi (fun w2 ew2 => ?_)
  have h := lt_e ew2 h
  refine sx_istore (lv' := [(0, .ref a0), (1, .int v1), (2, .int v2), (3, .int v3), (4, .int v4), (5, .int v5), (6, .int w1), (7, .int w2)]) dX6_rests_17 (by decide) rfl ?_
  refine sx_iload (j := 6) dX6_rests_19 rfl ?_
  refine sx_iconst (v := (1 : Int32)) dX6_rests_21 (by decide) ?_
  refine sx_iload_n (i := 2) (j := 2) dX6_rests_22 rfl rfl ?_
  refine sx_ishl dX6_rests_23 ?_
  refine sx_ixor dX6_rests_24 ?_
  refine sx_topi (fun w3 ew3 => ?_)
  have h := lt_e ew3 h
  refine sx_istore (lv' := [(0, .ref a0), (1, .int v1), (2, .int v2), (3, .int v3), (4, .int v4), (5, .int v5), (6, .int w1), (7, .int w2), (8, .int w3)]) dX6_rests_25 (by decide) rfl ?_
  refine sx_aload_n (i := 0) (j := 0) dX6_rests_27 rfl rfl ?_
  refine sx_iload_n (i := 1) (j := 1) dX6_rests_28 rfl rfl ?_
  refine sx_iload_n (i := 3) (j := 3) dX6_rests_29 rfl rfl ?_
  refine sx_iload (j := 6) dX6_rests_30 rfl ?_
  obtain ⟨z4, ez4, h⟩ := bd_e h
  refine sx_callV (avs := [.int v1, .int v3, .int w1]) (rest := []) (st1 := [.int z4.1]) dX6_rests_32 (mX6_gain h0 ez4) ciX6_gain (Or.inl wd_865) (X6_k h0) rfl rfl rfl rfl (rm_m rfl) rfl (Nat.le_of_ble_eq_true rfl) rfl ?_
  refine sx_aload_n (i := 0) (j := 0) dX6_rests_35 rfl rfl ?_
  refine sx_iload_n (i := 1) (j := 1) dX6_rests_36 rfl rfl ?_
  refine sx_iload_n (i := 3) (j := 3) dX6_rests_37 rfl rfl ?_
  refine sx_iload (j := 7) dX6_rests_38 rfl ?_
  obtain ⟨z5, ez5, h⟩ := bd_e h
  refine sx_callV (avs := [.int v1, .int v3, .int w2]) (rest := [.int z4.1]) (st1 := [.int z5.1, .int z4.1]) dX6_rests_40 (mX6_gain h0 ez5) ciX6_gain (Or.inl wd_865) (X6_k h0) rfl rfl rfl rfl (rm_m rfl) rfl (Nat.le_of_ble_eq_true rfl) rfl ?_
  refine sx_icmp_lt (tgt := 69) dX6_rests_43 rfl (fun c6 => ?_) (fun c6 => ?_)
  · have h := if_e c6 h
    refine sx_iconst (v := (0 : Int32)) dX6_rests_69 (by decide) ?_
    obtain rfl := Option.some.inj h
    exact sx_iret dX6_rests_70 rfl (by decide) k3.1 k3.2
  · have h := if_n c6 h
    refine sx_aload_n (i := 0) (j := 0) dX6_rests_46 rfl rfl ?_
    refine sx_iload_n (i := 2) (j := 2) dX6_rests_47 rfl rfl ?_
    refine sx_iload_n (i := 3) (j := 3) dX6_rests_48 rfl rfl ?_
    refine sx_iload (j := 6) dX6_rests_49 rfl ?_
    obtain ⟨z7, ez7, h⟩ := bd_e h
    refine sx_callV (avs := [.int v2, .int v3, .int w1]) (rest := []) (st1 := [.int z7.1]) dX6_rests_51 (mX6_gain h0 ez7) ciX6_gain (Or.inl wd_865) (X6_k h0) rfl rfl rfl rfl (rm_m rfl) rfl (Nat.le_of_ble_eq_true rfl) rfl ?_
    refine sx_aload_n (i := 0) (j := 0) dX6_rests_54 rfl rfl ?_
    refine sx_iload_n (i := 2) (j := 2) dX6_rests_55 rfl rfl ?_
    refine sx_iload_n (i := 3) (j := 3) dX6_rests_56 rfl rfl ?_
    refine sx_iload (j := 8) dX6_rests_57 rfl ?_
    obtain ⟨z8, ez8, h⟩ := bd_e h
    refine sx_callV (avs := [.int v2, .int v3, .int w3]) (rest := [.int z7.1]) (st1 := [.int z8.1, .int z7.1]) dX6_rests_59 (mX6_gain h0 ez8) ciX6_gain (Or.inl wd_865) (X6_k h0) rfl rfl rfl rfl (rm_m rfl) rfl (Nat.le_of_ble_eq_true rfl) rfl ?_
    refine sx_icmp_lt (tgt := 69) dX6_rests_62 rfl (fun c9 => ?_) (fun c9 => ?_)
    · have h := if_e c9 h
      refine sx_iconst (v := (0 : Int32)) dX6_rests_69 (by decide) ?_
      obtain rfl := Option.some.inj h
      exact sx_iret dX6_rests_70 rfl (by decide) k3.1 k3.2
    · have h := if_n c9 h
      refine sx_iconst (v := (1 : Int32)) dX6_rests_65 (by decide) ?_
      refine sx_goto (tgt := 70) dX6_rests_66 rfl ?_
      obtain rfl := Option.some.inj h
      exact sx_iret dX6_rests_70 rfl (by decide) k3.1 k3.2
set_option maxRecDepth 100000 in
set_option maxHeartbeats 4000000 in
theorem tX6_doors_j56 {l : Launch} {E : Ev} {r : Option Value} {L' L : HL} {a0 : Nat} {z : Int32 × HL} (h0 : isX6 E a0) (h : fX6_doors_j56 a0 L = some z) (k3 : r = some (.int z.1) ∧ L' = z.2) : Sx l E yX6_doors cX6_doors 11 (some .int) (6) r L' 56 [(0, .ref a0)] [] L := by
  unfold fX6_doors_j56 at h
  refine sx_aload_n (i := 0) (j := 0) dX6_doors_56 rfl rfl ?_
  refine sx_bipush (v := (-2 : Int32)) dX6_doors_57 (by decide) ?_
  refine sx_bipush (v := (-10 : Int32)) dX6_doors_59 (by decide) ?_
  obtain ⟨z3, ez3, h⟩ := bd_e h
  refine sx_callV (avs := [.int (-2 : Int32), .int (-10 : Int32)]) (rest := []) (st1 := [.int z3.1]) dX6_doors_61 (mX6_refused h0 ez3) ciX6_refused (Or.inl wd_404) (X6_k h0) rfl rfl rfl rfl (rm_m rfl) rfl (Nat.le_of_ble_eq_true rfl) rfl ?_
  obtain rfl := Option.some.inj h
  exact sx_iret dX6_doors_64 rfl rfl k3.1 k3.2
set_option maxRecDepth 100000 in
set_option maxHeartbeats 4000000 in
theorem tX6_doors_j98 {l : Launch} {E : Ev} {r : Option Value} {L' L : HL} {a0 : Nat} {z : Int32 × HL} (h0 : isX6 E a0) (h : fX6_doors_j98 a0 L = some z) (k3 : r = some (.int z.1) ∧ L' = z.2) : Sx l E yX6_doors cX6_doors 11 (some .int) (6) r L' 98 [(0, .ref a0)] [] L := by
  unfold fX6_doors_j98 at h
  refine sx_aload_n (i := 0) (j := 0) dX6_doors_98 rfl rfl ?_
  refine sx_bipush (v := (-3 : Int32)) dX6_doors_99 (by decide) ?_
  refine sx_bipush (v := (-20 : Int32)) dX6_doors_101 (by decide) ?_
  obtain ⟨z8, ez8, h⟩ := bd_e h
  refine sx_callV (avs := [.int (-3 : Int32), .int (-20 : Int32)]) (rest := []) (st1 := [.int z8.1]) dX6_doors_103 (mX6_refused h0 ez8) ciX6_refused (Or.inl wd_404) (X6_k h0) rfl rfl rfl rfl (rm_m rfl) rfl (Nat.le_of_ble_eq_true rfl) rfl ?_
  obtain rfl := Option.some.inj h
  exact sx_iret dX6_doors_106 rfl rfl k3.1 k3.2
set_option maxRecDepth 100000 in
set_option maxHeartbeats 4000000 in
theorem tX6_doors_b116 {l : Launch} {E : Ev} {r : Option Value} {L' L : HL} {a0 : Nat} {v1 : Int32} {v2 : Int32} {v3 : Int32} {v4 : Int32} {v6 : Int32} {v7 : Int32} {v8 : Int32} {z : Tn (Int32 × Int32 × Int32 × HL) (Int32 × HL)} (h0 : isX6 E a0) (h : fX6_doors_b116 a0 v1 v2 v3 v4 v6 v7 v8 L = some z) (k1 : ∀ s, z = .inl s → Sx l E yX6_doors cX6_doors 11 (some .int) (6) r L' 116 [(0, .ref a0), (1, .int v1), (2, .int v2), (3, .int v3), (4, .int v4), (6, .int s.1), (7, .int s.2.1), (8, .int s.2.2.1)] [] s.2.2.2) (k2 : ∀ s, z = .inr (.inl s) → Sx l E yX6_doors cX6_doors 11 (some .int) (6) r L' 177 [(4, .int v4), (6, .int s.1), (7, .int s.2.1)] [] s.2.2.2) (k3 : ∀ v, z = .inr (.inr v) → r = some (.int v.1) ∧ L' = v.2) : Sx l E yX6_doors cX6_doors 11 (some .int) (6) r L' 116 [(0, .ref a0), (1, .int v1), (2, .int v2), (3, .int v3), (4, .int v4), (6, .int v6), (7, .int v7), (8, .int v8)] [] L := by
  unfold fX6_doors_b116 at h
  refine sx_iload (j := 7) dX6_doors_116 rfl ?_
  refine sx_iconst (v := (4 : Int32)) dX6_doors_118 (by decide) ?_
  refine sx_icmp_ge (tgt := 177) dX6_doors_119 rfl (fun c13 => ?_) (fun c13 => ?_)
  · have h := if_e c13 h
    obtain rfl := Option.some.inj h
    exact sx_sub [4, 5, 6] rfl (k2 _ rfl)
  · have h := if_n c13 h
    refine sx_iload (j := 7) dX6_doors_122 rfl ?_
    refine sx_iconst (v := (1 : Int32)) dX6_doors_124 (by decide) ?_
    refine sx_ishr dX6_doors_125 ?_
    refine sx_topi (fun w14 ew14 => ?_)
    have h := lt_e ew14 h
    refine sx_istore (lv' := [(0, .ref a0), (1, .int v1), (2, .int v2), (3, .int v3), (4, .int v4), (6, .int v6), (7, .int v7), (8, .int v8), (9, .int w14)]) dX6_doors_126 (by decide) rfl ?_
    refine sx_iload (j := 7) dX6_doors_128 rfl ?_
    refine sx_iconst (v := (1 : Int32)) dX6_doors_130 (by decide) ?_
    refine sx_iand dX6_doors_131 ?_
    refine sx_topi (fun w15 ew15 => ?_)
    have h := lt_e ew15 h
    refine sx_istore (lv' := [(0, .ref a0), (1, .int v1), (2, .int v2), (3, .int v3), (4, .int v4), (6, .int v6), (7, .int v7), (8, .int v8), (9, .int w14), (10, .int w15)]) dX6_doors_132 (by decide) rfl ?_
    refine sx_aload_n (i := 0) (j := 0) dX6_doors_134 rfl rfl ?_
    refine sx_iload_n (i := 1) (j := 1) dX6_doors_135 rfl rfl ?_
    refine sx_iload_n (i := 2) (j := 2) dX6_doors_136 rfl rfl ?_
    refine sx_iload_n (i := 3) (j := 3) dX6_doors_137 rfl rfl ?_
    refine sx_iload (j := 8) dX6_doors_138 rfl ?_
    refine sx_iload (j := 9) dX6_doors_140 rfl ?_
    obtain ⟨z16, ez16, h⟩ := bd_e h
    refine sx_callV (avs := [.int v1, .int v2, .int v3, .int w14, .int w15]) (rest := []) (st1 := [.int z16.1]) dX6_doors_142 (mX6_rests h0 ez16) ciX6_rests (Or.inl wd_861) (X6_k h0) rfl rfl rfl rfl (rm_m rfl) rfl (Nat.le_of_ble_eq_true rfl) rfl ?_
    refine sx_if_eq (tgt := 171) dX6_doors_145 rfl (fun c17 => ?_) (fun c17 => ?_)
    · have h := if_e c17 h
      obtain ⟨w18, ew18⟩ : ∃ w : Int32, w = v8 + (1 : Int32) := ⟨_, rfl⟩
      have h := lt_e ew18 h
      refine sx_iinc (j := 7) (v := w18) (lv' := [(0, .ref a0), (1, .int v1), (2, .int v2), (3, .int v3), (4, .int v4), (6, .int v6), (7, .int v7), (8, .int w18), (9, .int w14), (10, .int w15)]) dX6_doors_171 rfl (ii_1 ew18) (by decide) rfl ?_
      refine sx_goto (tgt := 116) dX6_doors_174 rfl ?_
      obtain rfl := Option.some.inj h
      exact sx_sub [0, 1, 2, 3, 4, 5, 6, 7] rfl (k1 _ rfl)
    · have h := if_n c17 h
      refine sx_iload (j := 5) dX6_doors_148 rfl ?_
      refine sx_if_ne (tgt := 164) dX6_doors_150 rfl (fun c19 => ?_) (fun c19 => ?_)
      · have h := if_e c19 h
        refine sx_bipush (v := (10 : Int32)) dX6_doors_153 (by decide) ?_
        refine sx_iload (j := 8) dX6_doors_155 rfl ?_
        refine sx_imul dX6_doors_157 ?_
        refine sx_iload (j := 9) dX6_doors_158 rfl ?_
        refine sx_iadd dX6_doors_160 ?_
        refine sx_goto (tgt := 166) dX6_doors_161 rfl ?_
        refine sx_topi (fun w20 ew20 => ?_)
        have h := lt_e ew20 h
        refine sx_istore (lv' := [(0, .ref a0), (1, .int v1), (2, .int v2), (3, .int v3), (4, .int v4), (6, .int v6), (7, .int w20), (8, .int v8), (9, .int w14), (10, .int w15)]) dX6_doors_166 (by decide) rfl ?_
        obtain ⟨w21, ew21⟩ : ∃ w : Int32, w = v6 + (1 : Int32) := ⟨_, rfl⟩
        have h := lt_e ew21 h
        refine sx_iinc (j := 5) (v := w21) (lv' := [(0, .ref a0), (1, .int v1), (2, .int v2), (3, .int v3), (4, .int v4), (6, .int w21), (7, .int w20), (8, .int v8), (9, .int w14), (10, .int w15)]) dX6_doors_168 rfl (ii_1 ew21) (by decide) rfl ?_
        obtain ⟨w22, ew22⟩ : ∃ w : Int32, w = v8 + (1 : Int32) := ⟨_, rfl⟩
        have h := lt_e ew22 h
        refine sx_iinc (j := 7) (v := w22) (lv' := [(0, .ref a0), (1, .int v1), (2, .int v2), (3, .int v3), (4, .int v4), (6, .int w21), (7, .int w20), (8, .int w22), (9, .int w14), (10, .int w15)]) dX6_doors_171 rfl (ii_1 ew22) (by decide) rfl ?_
        refine sx_goto (tgt := 116) dX6_doors_174 rfl ?_
        obtain rfl := Option.some.inj h
        exact sx_sub [0, 1, 2, 3, 4, 5, 6, 7] rfl (k1 _ rfl)
      · have h := if_n c19 h
        refine sx_iload (j := 6) dX6_doors_164 rfl ?_
        refine sx_istore (lv' := [(0, .ref a0), (1, .int v1), (2, .int v2), (3, .int v3), (4, .int v4), (6, .int v6), (7, .int v7), (8, .int v8), (9, .int w14), (10, .int w15)]) dX6_doors_166 (by decide) rfl ?_
        obtain ⟨w23, ew23⟩ : ∃ w : Int32, w = v6 + (1 : Int32) := ⟨_, rfl⟩
        have h := lt_e ew23 h
        refine sx_iinc (j := 5) (v := w23) (lv' := [(0, .ref a0), (1, .int v1), (2, .int v2), (3, .int v3), (4, .int v4), (6, .int w23), (7, .int v7), (8, .int v8), (9, .int w14), (10, .int w15)]) dX6_doors_168 rfl (ii_1 ew23) (by decide) rfl ?_
        obtain ⟨w24, ew24⟩ : ∃ w : Int32, w = v8 + (1 : Int32) := ⟨_, rfl⟩
        have h := lt_e ew24 h
        refine sx_iinc (j := 7) (v := w24) (lv' := [(0, .ref a0), (1, .int v1), (2, .int v2), (3, .int v3), (4, .int v4), (6, .int w23), (7, .int v7), (8, .int w24), (9, .int w14), (10, .int w15)]) dX6_doors_171 rfl (ii_1 ew24) (by decide) rfl ?_
        refine sx_goto (tgt := 116) dX6_doors_174 rfl ?_
        obtain rfl := Option.some.inj h
        exact sx_sub [0, 1, 2, 3, 4, 5, 6, 7] rfl (k1 _ rfl)
set_option maxRecDepth 100000 in
set_option maxHeartbeats 4000000 in
theorem tX6_doors_j38 {l : Launch} {E : Ev} {r : Option Value} {L' L : HL} {a0 : Nat} {v1 : Int32} {v2 : Int32} {v3 : Int32} {v4 : Int32} {s0 : Int32} {z : Int32 × HL} (h0 : isX6 E a0) (h : fX6_doors_j38 a0 v1 v2 v3 v4 s0 L = some z) (k3 : r = some (.int z.1) ∧ L' = z.2) : Sx l E yX6_doors cX6_doors 11 (some .int) (6) r L' 38 [(0, .ref a0), (1, .int v1), (2, .int v2), (3, .int v3), (4, .int v4)] [.int s0] L := by
  unfold fX6_doors_j38 at h
  refine sx_istore (lv' := [(0, .ref a0), (1, .int v1), (2, .int v2), (3, .int v3), (4, .int v4), (5, .int s0)]) dX6_doors_38 (by decide) rfl ?_
  refine sx_iload (j := 5) dX6_doors_40 rfl ?_
  refine sx_if_eq (tgt := 56) dX6_doors_42 rfl (fun c2 => ?_) (fun c2 => ?_)
  · have h := if_e c2 h
    exact sx_sub [0] rfl (tX6_doors_j56 h0 h k3)
  · have h := if_n c2 h
    refine sx_iload (j := 4) dX6_doors_45 rfl ?_
    refine sx_if_lt (tgt := 56) dX6_doors_47 rfl (fun c4 => ?_) (fun c4 => ?_)
    · have h := if_e c4 h
      exact sx_sub [0] rfl (tX6_doors_j56 h0 h k3)
    · have h := if_n c4 h
      refine sx_iload (j := 4) dX6_doors_50 rfl ?_
      refine sx_iconst (v := (1 : Int32)) dX6_doors_52 (by decide) ?_
      refine sx_icmp_le (tgt := 65) dX6_doors_53 rfl (fun c5 => ?_) (fun c5 => ?_)
      · have h := if_e c5 h
        refine sx_aload_n (i := 0) (j := 0) dX6_doors_65 rfl rfl ?_
        refine sx_get (k := 0) (v := .ref (a0 + 1)) dX6_doors_66 (X6_k h0) cf_6 (Or.inl wd_340) (by decide : 0 < 13) (congrArg Value.ref (X6_r0 h0)) ?_
        refine sx_iload_n (i := 1) (j := 1) dX6_doors_69 rfl rfl ?_
        obtain ⟨z6, ez6, h⟩ := bd_e h
        refine sx_callV (avs := [.int v1]) (rest := []) (st1 := [.int z6]) dX6_doors_70 (mX4_stands (X6_o0 h0) ez6) ciX4_stands (Or.inr ⟨_, nw_617⟩) (X4_k (X6_o0 h0)) rfl rfl rfl rfl (rm_m rfl) rfl (Nat.le_of_ble_eq_true rfl) rfl ?_
        refine sx_if_eq (tgt := 98) dX6_doors_73 rfl (fun c7 => ?_) (fun c7 => ?_)
        · have h := if_e c7 h
          exact sx_sub [0] rfl (tX6_doors_j98 h0 h k3)
        · have h := if_n c7 h
          refine sx_aload_n (i := 0) (j := 0) dX6_doors_76 rfl rfl ?_
          refine sx_get (k := 0) (v := .ref (a0 + 1)) dX6_doors_77 (X6_k h0) cf_6 (Or.inl wd_340) (by decide : 0 < 13) (congrArg Value.ref (X6_r0 h0)) ?_
          refine sx_iload_n (i := 2) (j := 2) dX6_doors_80 rfl rfl ?_
          obtain ⟨z9, ez9, h⟩ := bd_e h
          refine sx_callV (avs := [.int v2]) (rest := []) (st1 := [.int z9]) dX6_doors_81 (mX4_stands (X6_o0 h0) ez9) ciX4_stands (Or.inr ⟨_, nw_617⟩) (X4_k (X6_o0 h0)) rfl rfl rfl rfl (rm_m rfl) rfl (Nat.le_of_ble_eq_true rfl) rfl ?_
          refine sx_if_eq (tgt := 98) dX6_doors_84 rfl (fun c10 => ?_) (fun c10 => ?_)
          · have h := if_e c10 h
            exact sx_sub [0] rfl (tX6_doors_j98 h0 h k3)
          · have h := if_n c10 h
            refine sx_aload_n (i := 0) (j := 0) dX6_doors_87 rfl rfl ?_
            refine sx_get (k := 0) (v := .ref (a0 + 1)) dX6_doors_88 (X6_k h0) cf_6 (Or.inl wd_340) (by decide : 0 < 13) (congrArg Value.ref (X6_r0 h0)) ?_
            refine sx_iload_n (i := 3) (j := 3) dX6_doors_91 rfl rfl ?_
            obtain ⟨z11, ez11, h⟩ := bd_e h
            refine sx_callV (avs := [.int v3]) (rest := []) (st1 := [.int z11]) dX6_doors_92 (mX4_stands (X6_o0 h0) ez11) ciX4_stands (Or.inr ⟨_, nw_617⟩) (X4_k (X6_o0 h0)) rfl rfl rfl rfl (rm_m rfl) rfl (Nat.le_of_ble_eq_true rfl) rfl ?_
            refine sx_if_ne (tgt := 107) dX6_doors_95 rfl (fun c12 => ?_) (fun c12 => ?_)
            · have h := if_e c12 h
              exact sx_sub [0] rfl (tX6_doors_j98 h0 h k3)
            · have h := if_n c12 h
              refine sx_iconst (v := (0 : Int32)) dX6_doors_107 (by decide) ?_
              refine sx_istore (lv' := [(0, .ref a0), (1, .int v1), (2, .int v2), (3, .int v3), (4, .int v4), (5, .int s0), (6, .int (0 : Int32))]) dX6_doors_108 (by decide) rfl ?_
              refine sx_iconst (v := (-1 : Int32)) dX6_doors_110 (by decide) ?_
              refine sx_istore (lv' := [(0, .ref a0), (1, .int v1), (2, .int v2), (3, .int v3), (4, .int v4), (5, .int s0), (6, .int (0 : Int32)), (7, .int (-1 : Int32))]) dX6_doors_111 (by decide) rfl ?_
              refine sx_iconst (v := (0 : Int32)) dX6_doors_113 (by decide) ?_
              refine sx_istore (lv' := [(0, .ref a0), (1, .int v1), (2, .int v2), (3, .int v3), (4, .int v4), (5, .int s0), (6, .int (0 : Int32)), (7, .int (-1 : Int32)), (8, .int (0 : Int32))]) dX6_doors_114 (by decide) rfl ?_
              obtain ⟨x27, hx, q1, q2⟩ := lx_e h
              refine sx_sub (lv' := [(0, .ref a0), (1, .int v1), (2, .int v2), (3, .int v3), (4, .int v4), (6, .int (0 : Int32)), (7, .int (-1 : Int32)), (8, .int (0 : Int32))]) [0, 1, 2, 3, 4, 6, 7, 8] rfl ?_
              refine lp_go (fun s25 => Sx l E yX6_doors cX6_doors 11 (some .int) (6) r L' 116 [(0, .ref a0), (1, .int v1), (2, .int v2), (3, .int v3), (4, .int v4), (6, .int s25.1), (7, .int s25.2.1), (8, .int s25.2.2.1)] [] s25.2.2.2) x27 (fun s25 z2 hz c1 c2 => ?_) FU _ hx
              refine tX6_doors_b116 h0 hz (fun s2 e => c1 s2 e) (fun s25 e => ?_) (fun v e => ?_)
              · have h := q1 _ (c2 _ e).symm
                refine sx_iload (j := 0) dX6_doors_177 rfl ?_
                refine sx_if_ne (tgt := 187) dX6_doors_179 rfl (fun c26 => ?_) (fun c26 => ?_)
                · have h := if_e c26 h
                  refine sx_iload (j := 1) dX6_doors_182 rfl ?_
                  refine sx_goto (tgt := 189) dX6_doors_184 rfl ?_
                  obtain rfl := Option.some.inj h
                  exact sx_iret dX6_doors_189 rfl rfl k3.1 k3.2
                · have h := if_n c26 h
                  refine sx_iload (j := 2) dX6_doors_187 rfl ?_
                  obtain rfl := Option.some.inj h
                  exact sx_iret dX6_doors_189 rfl rfl k3.1 k3.2
              · have e2 := Option.some.inj (q2 _ (c2 _ e).symm)
                subst e2
                exact k3
      · have h := if_n c5 h
        exact sx_sub [0] rfl (tX6_doors_j56 h0 h k3)
set_option maxRecDepth 100000 in
set_option maxHeartbeats 4000000 in
theorem tX6_doors_j37 {l : Launch} {E : Ev} {r : Option Value} {L' L : HL} {a0 : Nat} {v1 : Int32} {v2 : Int32} {v3 : Int32} {v4 : Int32} {z : Int32 × HL} (h0 : isX6 E a0) (h : fX6_doors_j37 a0 v1 v2 v3 v4 L = some z) (k3 : r = some (.int z.1) ∧ L' = z.2) : Sx l E yX6_doors cX6_doors 11 (some .int) (6) r L' 37 [(0, .ref a0), (1, .int v1), (2, .int v2), (3, .int v3), (4, .int v4)] [] L := by
  unfold fX6_doors_j37 at h
  refine sx_iconst (v := (0 : Int32)) dX6_doors_37 (by decide) ?_
  exact sx_sub [0, 1, 2, 3, 4] rfl (tX6_doors_j38 h0 h k3)
set_option maxRecDepth 100000 in
set_option maxHeartbeats 4000000 in
theorem mX6_doors {l : Launch} {E : Ev} {L : HL} {a0 : Nat} {v1 : Int32} {v2 : Int32} {v3 : Int32} {v4 : Int32} {z : Int32 × HL} (h0 : isX6 E a0) (h : fX6_doors a0 v1 v2 v3 v4 L = some z) : Mt l E yX6_doors cX6_doors 11 (some .int) (6) [.ref a0, .int v1, .int v2, .int v3, .int v4] L (some (.int z.1)) (z.2) := by
  obtain ⟨r, hr⟩ : ∃ r : Option Value, r = some (.int z.1) := ⟨_, rfl⟩
  obtain ⟨L', hL'⟩ : ∃ L' : HL, L' = z.2 := ⟨_, rfl⟩
  have k3 : r = some (.int z.1) ∧ L' = z.2 := ⟨hr, hL'⟩
  refine mt_eq hr hL' ?_
  refine Mt.of (plainFor_of_name (by decide)) (Nat.le_of_ble_eq_true rfl) ?_
  refine sx_sub (lv' := [(0, .ref a0), (1, .int v1), (2, .int v2), (3, .int v3), (4, .int v4)]) [0, 1, 2, 3, 4] rfl ?_
  unfold fX6_doors at h
  refine sx_iload_n (i := 1) (j := 1) dX6_doors_0 rfl rfl ?_
  refine sx_iload_n (i := 3) (j := 3) dX6_doors_1 rfl rfl ?_
  refine sx_icmp_eq (tgt := 37) dX6_doors_2 rfl (fun c1 => ?_) (fun c1 => ?_)
  · have h := if_e c1 h
    exact sx_sub [0, 1, 2, 3, 4] rfl (tX6_doors_j37 h0 h k3)
  · have h := if_n c1 h
    refine sx_iload_n (i := 2) (j := 2) dX6_doors_5 rfl rfl ?_
    refine sx_iload_n (i := 3) (j := 3) dX6_doors_6 rfl rfl ?_
    refine sx_icmp_eq (tgt := 37) dX6_doors_7 rfl (fun c28 => ?_) (fun c28 => ?_)
    · have h := if_e c28 h
      exact sx_sub [0, 1, 2, 3, 4] rfl (tX6_doors_j37 h0 h k3)
    · have h := if_n c28 h
      refine sx_aload_n (i := 0) (j := 0) dX6_doors_10 rfl rfl ?_
      refine sx_get (k := 0) (v := .ref (a0 + 1)) dX6_doors_11 (X6_k h0) cf_6 (Or.inl wd_340) (by decide : 0 < 13) (congrArg Value.ref (X6_r0 h0)) ?_
      refine sx_iload_n (i := 1) (j := 1) dX6_doors_14 rfl rfl ?_
      refine sx_iload_n (i := 2) (j := 2) dX6_doors_15 rfl rfl ?_
      obtain ⟨z29, ez29, h⟩ := bd_e h
      refine sx_callV (avs := [.int v1, .int v2]) (rest := []) (st1 := [.int z29]) dX6_doors_16 (mX4_hasTwo (X6_o0 h0) ez29) ciX4_hasTwo (Or.inr ⟨_, nw_718⟩) (X4_k (X6_o0 h0)) rfl rfl rfl rfl (rm_m rfl) rfl (Nat.le_of_ble_eq_true rfl) rfl ?_
      refine sx_if_eq (tgt := 37) dX6_doors_19 rfl (fun c30 => ?_) (fun c30 => ?_)
      · have h := if_e c30 h
        exact sx_sub [0, 1, 2, 3, 4] rfl (tX6_doors_j37 h0 h k3)
      · have h := if_n c30 h
        refine sx_aload_n (i := 0) (j := 0) dX6_doors_22 rfl rfl ?_
        refine sx_get (k := 0) (v := .ref (a0 + 1)) dX6_doors_23 (X6_k h0) cf_6 (Or.inl wd_340) (by decide : 0 < 13) (congrArg Value.ref (X6_r0 h0)) ?_
        refine sx_iload_n (i := 3) (j := 3) dX6_doors_26 rfl rfl ?_
        obtain ⟨z31, ez31, h⟩ := bd_e h
        refine sx_callV (avs := [.int v3]) (rest := []) (st1 := [.int z31]) dX6_doors_27 (mX4_has (X6_o0 h0) ez31) ciX4_has (Or.inr ⟨_, nw_616⟩) (X4_k (X6_o0 h0)) rfl rfl rfl rfl (rm_m rfl) rfl (Nat.le_of_ble_eq_true rfl) rfl ?_
        refine sx_if_eq (tgt := 37) dX6_doors_30 rfl (fun c32 => ?_) (fun c32 => ?_)
        · have h := if_e c32 h
          exact sx_sub [0, 1, 2, 3, 4] rfl (tX6_doors_j37 h0 h k3)
        · have h := if_n c32 h
          refine sx_iconst (v := (1 : Int32)) dX6_doors_33 (by decide) ?_
          refine sx_goto (tgt := 38) dX6_doors_34 rfl ?_
          exact sx_sub [0, 1, 2, 3, 4] rfl (tX6_doors_j38 h0 h k3)
set_option maxRecDepth 100000 in
set_option maxHeartbeats 4000000 in
theorem tX6_drawn_j20 {l : Launch} {E : Ev} {r : Option Value} {L' L : HL} {a0 : Nat} {z : Int32 × HL} (h0 : isX6 E a0) (h : fX6_drawn_j20 a0 L = some z) (k3 : r = some (.int z.1) ∧ L' = z.2) : Sx l E yX6_drawn cX6_drawn 7 (some .int) (5) r L' 20 [(0, .ref a0)] [] L := by
  unfold fX6_drawn_j20 at h
  refine sx_aload_n (i := 0) (j := 0) dX6_drawn_20 rfl rfl ?_
  refine sx_bipush (v := (-2 : Int32)) dX6_drawn_21 (by decide) ?_
  refine sx_bipush (v := (-2 : Int32)) dX6_drawn_23 (by decide) ?_
  obtain ⟨z2, ez2, h⟩ := bd_e h
  refine sx_callV (avs := [.int (-2 : Int32), .int (-2 : Int32)]) (rest := []) (st1 := [.int z2.1]) dX6_drawn_25 (mX6_refused h0 ez2) ciX6_refused (Or.inl wd_404) (X6_k h0) rfl rfl rfl rfl (rm_m rfl) rfl (Nat.le_of_ble_eq_true rfl) rfl ?_
  obtain rfl := Option.some.inj h
  exact sx_iret dX6_drawn_28 rfl rfl k3.1 k3.2
set_option maxRecDepth 100000 in
set_option maxHeartbeats 4000000 in
theorem tX6_drawn_b46 {l : Launch} {E : Ev} {r : Option Value} {L' L : HL} {a0 : Nat} {v2 : Int32} {v3 : Int64} {v5 : Int32} {z : Tn (Int64 × Int32 × HL) (Int32 × HL)} (h0 : isX6 E a0) (h : fX6_drawn_b46 a0 v2 v3 v5 L = some z) (k1 : ∀ s, z = .inl s → Sx l E yX6_drawn cX6_drawn 7 (some .int) (5) r L' 46 [(0, .ref a0), (2, .int v2), (3, .long s.1), (5, .int s.2.1)] [] s.2.2) (k2 : ∀ s, z = .inr (.inl s) → Sx l E yX6_drawn cX6_drawn 7 (some .int) (5) r L' 114 [(0, .ref a0)] [] s.2.2) (k3 : ∀ v, z = .inr (.inr v) → r = some (.int v.1) ∧ L' = v.2) : Sx l E yX6_drawn cX6_drawn 7 (some .int) (5) r L' 46 [(0, .ref a0), (2, .int v2), (3, .long v3), (5, .int v5)] [] L := by
  unfold fX6_drawn_b46 at h
  refine sx_iload (j := 3) dX6_drawn_46 rfl ?_
  refine sx_iload_n (i := 2) (j := 1) dX6_drawn_48 rfl rfl ?_
  refine sx_icmp_ge (tgt := 114) dX6_drawn_49 rfl (fun c8 => ?_) (fun c8 => ?_)
  · have h := if_e c8 h
    obtain rfl := Option.some.inj h
    exact sx_sub [0] rfl (k2 _ rfl)
  · have h := if_n c8 h
    refine sx_aload_n (i := 0) (j := 0) dX6_drawn_52 rfl rfl ?_
    refine sx_get (k := 1) (v := .ref (a0 + 15)) dX6_drawn_53 (X6_k h0) cf_6 (Or.inl wd_341) (by decide : 1 < 13) (congrArg Value.ref (X6_r1 h0)) ?_
    refine sx_get (k := 1) (v := .int (L.1 (a0 + 15) 1)) dX6_drawn_56 (X4_k (X6_o1 h0)) cf_4 (Or.inr ⟨_, nw_139⟩) (by decide : 1 < 17) rfl ?_
    obtain ⟨z9, ez9, h⟩ := bd_e h
    refine sx_callS (avs := [.int (L.1 (a0 + 15) 1)]) (rest := []) (st1 := [.int z9]) dX6_drawn_59 (mJ6_bitCount_0f7a4 ez9) ctJ6_bitCount_0f7a4 (Or.inl wd_672) rfl rfl (rm_m rfl) rfl (Nat.le_of_ble_eq_true rfl) rfl ?_
    refine sx_istore (lv' := [(0, .ref a0), (2, .int v2), (3, .long v3), (5, .int v5), (6, .int z9)]) dX6_drawn_62 (by decide) rfl ?_
    refine sx_iload (j := 4) dX6_drawn_64 rfl ?_
    refine sx_if_le (tgt := 108) dX6_drawn_66 rfl (fun c10 => ?_) (fun c10 => ?_)
    · have h := if_e c10 h
      obtain ⟨w11, ew11⟩ : ∃ w : Int32, w = v5 + (1 : Int32) := ⟨_, rfl⟩
      have h := lt_e ew11 h
      refine sx_iinc (j := 3) (v := w11) (lv' := [(0, .ref a0), (2, .int v2), (3, .long v3), (5, .int w11), (6, .int z9)]) dX6_drawn_108 rfl (ii_1 ew11) (by decide) rfl ?_
      refine sx_goto (tgt := 46) dX6_drawn_111 rfl ?_
      obtain rfl := Option.some.inj h
      exact sx_sub [0, 1, 2, 3] rfl (k1 _ rfl)
    · have h := if_n c10 h
      refine sx_lload_n (i := 3) (j := 2) dX6_drawn_69 rfl rfl ?_
      refine sx_ldc2 (v := (1103515245 : Int64)) dX6_drawn_70 wd_878 ?_
      refine sx_lmul dX6_drawn_73 ?_
      refine sx_ldc2 (v := (12345 : Int64)) dX6_drawn_74 wd_879 ?_
      refine sx_ladd dX6_drawn_77 ?_
      refine sx_ldc2 (v := (2147483648 : Int64)) dX6_drawn_78 wd_880 ?_
      refine sx_lrem dX6_drawn_81 (by decide) ?_
      refine sx_topl (fun w12 ew12 => ?_)
      have h := lt_e ew12 h
      refine sx_lstore_n (i := 3) (lv' := [(0, .ref a0), (2, .int v2), (3, .long w12), (5, .int v5), (6, .int z9)]) dX6_drawn_82 rfl (by decide) rfl ?_
      refine sx_aload_n (i := 0) (j := 0) dX6_drawn_83 rfl rfl ?_
      refine sx_get (k := 1) (v := .ref (a0 + 15)) dX6_drawn_84 (X6_k h0) cf_6 (Or.inl wd_341) (by decide : 1 < 13) (congrArg Value.ref (X6_r1 h0)) ?_
      refine sx_aload_n (i := 0) (j := 0) dX6_drawn_87 rfl rfl ?_
      refine sx_get (k := 1) (v := .ref (a0 + 15)) dX6_drawn_88 (X6_k h0) cf_6 (Or.inl wd_341) (by decide : 1 < 13) (congrArg Value.ref (X6_r1 h0)) ?_
      refine sx_lload_n (i := 3) (j := 2) dX6_drawn_91 rfl rfl ?_
      refine sx_ldc2 (v := (65536 : Int64)) dX6_drawn_92 wd_881 ?_
      refine sx_ldiv dX6_drawn_95 (by decide) ?_
      refine sx_iload (j := 4) dX6_drawn_96 rfl ?_
      refine sx_i2l dX6_drawn_98 ?_
      obtain ⟨c13, h⟩ := gd_e h
      refine sx_lrem dX6_drawn_99 c13 ?_
      refine sx_l2i dX6_drawn_100 ?_
      obtain ⟨z14, ez14, h⟩ := bd_e h
      refine sx_callV (avs := [.int ((w12 / (65536 : Int64)) - (w12 / (65536 : Int64)) / z9.toInt64 * z9.toInt64).toInt32]) (rest := [.ref (a0 + 15)]) (st1 := [.int z14, .ref (a0 + 15)]) dX6_drawn_101 (mX4_nthStanding (X6_o1 h0) ez14) ciX4_nthStanding (Or.inr ⟨_, nw_882⟩) (X4_k (X6_o1 h0)) rfl rfl rfl rfl (rm_m rfl) rfl (Nat.le_of_ble_eq_true rfl) rfl ?_
      obtain ⟨z15, ez15, h⟩ := bd_e h
      refine sx_callV (avs := [.int z14]) (rest := []) (st1 := [.int z15.1]) dX6_drawn_104 (mX4_letFall (X6_o1 h0) ez15) ciX4_letFall (Or.inr ⟨_, nw_627⟩) (X4_k (X6_o1 h0)) rfl rfl rfl rfl (rm_m rfl) rfl (Nat.le_of_ble_eq_true rfl) rfl ?_
      refine sx_pop dX6_drawn_107 rfl ?_
      obtain ⟨w16, ew16⟩ : ∃ w : Int32, w = v5 + (1 : Int32) := ⟨_, rfl⟩
      have h := lt_e ew16 h
      refine sx_iinc (j := 3) (v := w16) (lv' := [(0, .ref a0), (2, .int v2), (3, .long w12), (5, .int w16), (6, .int z9)]) dX6_drawn_108 rfl (ii_1 ew16) (by decide) rfl ?_
      refine sx_goto (tgt := 46) dX6_drawn_111 rfl ?_
      obtain rfl := Option.some.inj h
      exact sx_sub [0, 1, 2, 3] rfl (k1 _ rfl)
set_option maxRecDepth 100000 in
set_option maxHeartbeats 4000000 in
theorem mX6_drawn {l : Launch} {E : Ev} {L : HL} {a0 : Nat} {v1 : Int32} {v2 : Int32} {z : Int32 × HL} (h0 : isX6 E a0) (h : fX6_drawn a0 v1 v2 L = some z) : Mt l E yX6_drawn cX6_drawn 7 (some .int) (5) [.ref a0, .int v1, .int v2] L (some (.int z.1)) (z.2) := by
  obtain ⟨r, hr⟩ : ∃ r : Option Value, r = some (.int z.1) := ⟨_, rfl⟩
  obtain ⟨L', hL'⟩ : ∃ L' : HL, L' = z.2 := ⟨_, rfl⟩
  have k3 : r = some (.int z.1) ∧ L' = z.2 := ⟨hr, hL'⟩
  refine mt_eq hr hL' ?_
  refine Mt.of (plainFor_of_name (by decide)) (Nat.le_of_ble_eq_true rfl) ?_
  refine sx_sub (lv' := [(0, .ref a0), (1, .int v1), (2, .int v2)]) [0, 1, 2] rfl ?_
  unfold fX6_drawn at h
  refine sx_iload_n (i := 1) (j := 1) dX6_drawn_0 rfl rfl ?_
  refine sx_if_lt (tgt := 20) dX6_drawn_1 rfl (fun c1 => ?_) (fun c1 => ?_)
  · have h := if_e c1 h
    exact sx_sub [0] rfl (tX6_drawn_j20 h0 h k3)
  · have h := if_n c1 h
    refine sx_iload_n (i := 1) (j := 1) dX6_drawn_4 rfl rfl ?_
    refine sx_ldcw (v := (999999 : Int32)) dX6_drawn_5 wd_877 ?_
    refine sx_icmp_gt (tgt := 20) dX6_drawn_8 rfl (fun c3 => ?_) (fun c3 => ?_)
    · have h := if_e c3 h
      exact sx_sub [0] rfl (tX6_drawn_j20 h0 h k3)
    · have h := if_n c3 h
      refine sx_iload_n (i := 2) (j := 2) dX6_drawn_11 rfl rfl ?_
      refine sx_if_lt (tgt := 20) dX6_drawn_12 rfl (fun c4 => ?_) (fun c4 => ?_)
      · have h := if_e c4 h
        exact sx_sub [0] rfl (tX6_drawn_j20 h0 h k3)
      · have h := if_n c4 h
        refine sx_iload_n (i := 2) (j := 2) dX6_drawn_15 rfl rfl ?_
        refine sx_iconst (v := (5 : Int32)) dX6_drawn_16 (by decide) ?_
        refine sx_icmp_le (tgt := 29) dX6_drawn_17 rfl (fun c5 => ?_) (fun c5 => ?_)
        · have h := if_e c5 h
          refine sx_aload_n (i := 0) (j := 0) dX6_drawn_29 rfl rfl ?_
          refine sx_get (k := 1) (v := .ref (a0 + 15)) dX6_drawn_30 (X6_k h0) cf_6 (Or.inl wd_341) (by decide : 1 < 13) (congrArg Value.ref (X6_r1 h0)) ?_
          refine sx_aload_n (i := 0) (j := 0) dX6_drawn_33 rfl rfl ?_
          refine sx_get (k := 0) (v := .ref (a0 + 1)) dX6_drawn_34 (X6_k h0) cf_6 (Or.inl wd_340) (by decide : 0 < 13) (congrArg Value.ref (X6_r0 h0)) ?_
          obtain ⟨z6, ez6, h⟩ := bd_e h
          refine sx_callV (avs := [.ref (a0 + 1)]) (rest := []) (st1 := []) dX6_drawn_37 (mX4_takeFrom (X6_o1 h0) (X6_o0 h0) ez6) ciX4_takeFrom (Or.inr ⟨_, nw_598⟩) (X4_k (X6_o1 h0)) rfl rfl rfl rfl (rm_m rfl) rfl (Nat.le_of_ble_eq_true rfl) rfl ?_
          refine sx_iload_n (i := 1) (j := 1) dX6_drawn_40 rfl rfl ?_
          refine sx_i2l dX6_drawn_41 ?_
          refine sx_topl (fun w7 ew7 => ?_)
          have h := lt_e ew7 h
          refine sx_lstore_n (i := 3) (lv' := [(0, .ref a0), (1, .int v1), (2, .int v2), (3, .long w7)]) dX6_drawn_42 rfl (by decide) rfl ?_
          refine sx_iconst (v := (0 : Int32)) dX6_drawn_43 (by decide) ?_
          refine sx_istore (lv' := [(0, .ref a0), (1, .int v1), (2, .int v2), (3, .long w7), (5, .int (0 : Int32))]) dX6_drawn_44 (by decide) rfl ?_
          obtain ⟨x19, hx, q1, q2⟩ := lx_e h
          refine sx_sub (lv' := [(0, .ref a0), (2, .int v2), (3, .long w7), (5, .int (0 : Int32))]) [0, 2, 3, 4] rfl ?_
          refine lp_go (fun s17 => Sx l E yX6_drawn cX6_drawn 7 (some .int) (5) r L' 46 [(0, .ref a0), (2, .int v2), (3, .long s17.1), (5, .int s17.2.1)] [] s17.2.2) x19 (fun s17 z2 hz c1 c2 => ?_) FU _ hx
          refine tX6_drawn_b46 h0 hz (fun s2 e => c1 s2 e) (fun s17 e => ?_) (fun v e => ?_)
          · have h := q1 _ (c2 _ e).symm
            refine sx_aload_n (i := 0) (j := 0) dX6_drawn_114 rfl rfl ?_
            refine sx_get (k := 1) (v := .ref (a0 + 15)) dX6_drawn_115 (X6_k h0) cf_6 (Or.inl wd_341) (by decide : 1 < 13) (congrArg Value.ref (X6_r1 h0)) ?_
            refine sx_iconst (v := (-1 : Int32)) dX6_drawn_118 (by decide) ?_
            obtain ⟨z18, ez18, h⟩ := bd_e h
            refine sx_callV (avs := [.int (-1 : Int32)]) (rest := []) (st1 := [.int z18]) dX6_drawn_119 (mX4_dwellers (X6_o1 h0) ez18) ciX4_dwellers (Or.inr ⟨_, nw_869⟩) (X4_k (X6_o1 h0)) rfl rfl rfl rfl (rm_m rfl) rfl (Nat.le_of_ble_eq_true rfl) rfl ?_
            obtain rfl := Option.some.inj h
            exact sx_iret dX6_drawn_122 rfl rfl k3.1 k3.2
          · have e2 := Option.some.inj (q2 _ (c2 _ e).symm)
            subst e2
            exact k3
        · have h := if_n c5 h
          exact sx_sub [0] rfl (tX6_drawn_j20 h0 h k3)
set_option maxRecDepth 100000 in
set_option maxHeartbeats 4000000 in
theorem tX6_part_j9 {l : Launch} {E : Ev} {r : Option Value} {L' L : HL} {a0 : Nat} {z : Int64 × HL} (h0 : isX6 E a0) (h : fX6_part_j9 a0 L = some z) (k3 : r = some (.long z.1) ∧ L' = z.2) : Sx l E yX6_part cX6_part 2 (some .long) (2) r L' 9 [(0, .ref a0)] [] L := by
  unfold fX6_part_j9 at h
  refine sx_aload_n (i := 0) (j := 0) dX6_part_9 rfl rfl ?_
  refine sx_bipush (v := (-2 : Int32)) dX6_part_10 (by decide) ?_
  refine sx_bipush (v := (-2 : Int32)) dX6_part_12 (by decide) ?_
  obtain ⟨z2, ez2, h⟩ := bd_e h
  refine sx_callV (avs := [.int (-2 : Int32), .int (-2 : Int32)]) (rest := []) (st1 := [.int z2.1]) dX6_part_14 (mX6_refused h0 ez2) ciX6_refused (Or.inl wd_404) (X6_k h0) rfl rfl rfl rfl (rm_m rfl) rfl (Nat.le_of_ble_eq_true rfl) rfl ?_
  refine sx_i2l dX6_part_17 ?_
  obtain rfl := Option.some.inj h
  exact sx_lret dX6_part_18 rfl k3.1 k3.2
set_option maxRecDepth 100000 in
set_option maxHeartbeats 4000000 in
theorem mX6_part {l : Launch} {E : Ev} {L : HL} {a0 : Nat} {v1 : Int32} {z : Int64 × HL} (h0 : isX6 E a0) (h : fX6_part a0 v1 L = some z) : Mt l E yX6_part cX6_part 2 (some .long) (2) [.ref a0, .int v1] L (some (.long z.1)) (z.2) := by
  obtain ⟨r, hr⟩ : ∃ r : Option Value, r = some (.long z.1) := ⟨_, rfl⟩
  obtain ⟨L', hL'⟩ : ∃ L' : HL, L' = z.2 := ⟨_, rfl⟩
  have k3 : r = some (.long z.1) ∧ L' = z.2 := ⟨hr, hL'⟩
  refine mt_eq hr hL' ?_
  refine Mt.of (plainFor_of_name (by decide)) (Nat.le_of_ble_eq_true rfl) ?_
  refine sx_sub (lv' := [(0, .ref a0), (1, .int v1)]) [0, 1] rfl ?_
  unfold fX6_part at h
  refine sx_iload_n (i := 1) (j := 1) dX6_part_0 rfl rfl ?_
  refine sx_if_lt (tgt := 9) dX6_part_1 rfl (fun c1 => ?_) (fun c1 => ?_)
  · have h := if_e c1 h
    exact sx_sub [0] rfl (tX6_part_j9 h0 h k3)
  · have h := if_n c1 h
    refine sx_iload_n (i := 1) (j := 1) dX6_part_4 rfl rfl ?_
    refine sx_iconst (v := (1 : Int32)) dX6_part_5 (by decide) ?_
    refine sx_icmp_le (tgt := 19) dX6_part_6 rfl (fun c3 => ?_) (fun c3 => ?_)
    · have h := if_e c3 h
      refine sx_iload_n (i := 1) (j := 1) dX6_part_19 rfl rfl ?_
      refine sx_if_ne (tgt := 30) dX6_part_20 rfl (fun c4 => ?_) (fun c4 => ?_)
      · have h := if_e c4 h
        refine sx_aload_n (i := 0) (j := 0) dX6_part_23 rfl rfl ?_
        refine sx_get (k := 8) (v := .long (L.2 a0 8)) dX6_part_24 (X6_k h0) cf_6 (Or.inl wd_348) (by decide : 8 < 13) rfl ?_
        refine sx_goto (tgt := 34) dX6_part_27 rfl ?_
        obtain rfl := Option.some.inj h
        exact sx_lret dX6_part_34 rfl k3.1 k3.2
      · have h := if_n c4 h
        refine sx_aload_n (i := 0) (j := 0) dX6_part_30 rfl rfl ?_
        refine sx_get (k := 9) (v := .long (L.2 a0 9)) dX6_part_31 (X6_k h0) cf_6 (Or.inl wd_349) (by decide : 9 < 13) rfl ?_
        obtain rfl := Option.some.inj h
        exact sx_lret dX6_part_34 rfl k3.1 k3.2
    · have h := if_n c3 h
      exact sx_sub [0] rfl (tX6_part_j9 h0 h k3)
set_option maxRecDepth 100000 in
set_option maxHeartbeats 4000000 in
theorem tX6_image_j9 {l : Launch} {E : Ev} {r : Option Value} {L' L : HL} {a0 : Nat} {z : Int32 × HL} (h0 : isX6 E a0) (h : fX6_image_j9 a0 L = some z) (k3 : r = some (.int z.1) ∧ L' = z.2) : Sx l E yX6_image cX6_image 2 (some .int) (5) r L' 9 [(0, .ref a0)] [] L := by
  unfold fX6_image_j9 at h
  refine sx_aload_n (i := 0) (j := 0) dX6_image_9 rfl rfl ?_
  refine sx_bipush (v := (-2 : Int32)) dX6_image_10 (by decide) ?_
  refine sx_bipush (v := (-2 : Int32)) dX6_image_12 (by decide) ?_
  obtain ⟨z2, ez2, h⟩ := bd_e h
  refine sx_callV (avs := [.int (-2 : Int32), .int (-2 : Int32)]) (rest := []) (st1 := [.int z2.1]) dX6_image_14 (mX6_refused h0 ez2) ciX6_refused (Or.inl wd_404) (X6_k h0) rfl rfl rfl rfl (rm_m rfl) rfl (Nat.le_of_ble_eq_true rfl) rfl ?_
  obtain rfl := Option.some.inj h
  exact sx_iret dX6_image_17 rfl rfl k3.1 k3.2
set_option maxRecDepth 100000 in
set_option maxHeartbeats 4000000 in
theorem mX6_image {l : Launch} {E : Ev} {L : HL} {a0 : Nat} {v1 : Int32} {z : Int32 × HL} (h0 : isX6 E a0) (h : fX6_image a0 v1 L = some z) : Mt l E yX6_image cX6_image 2 (some .int) (5) [.ref a0, .int v1] L (some (.int z.1)) (z.2) := by
  obtain ⟨r, hr⟩ : ∃ r : Option Value, r = some (.int z.1) := ⟨_, rfl⟩
  obtain ⟨L', hL'⟩ : ∃ L' : HL, L' = z.2 := ⟨_, rfl⟩
  have k3 : r = some (.int z.1) ∧ L' = z.2 := ⟨hr, hL'⟩
  refine mt_eq hr hL' ?_
  refine Mt.of (plainFor_of_name (by decide)) (Nat.le_of_ble_eq_true rfl) ?_
  refine sx_sub (lv' := [(0, .ref a0), (1, .int v1)]) [0, 1] rfl ?_
  unfold fX6_image at h
  refine sx_iload_n (i := 1) (j := 1) dX6_image_0 rfl rfl ?_
  refine sx_if_lt (tgt := 9) dX6_image_1 rfl (fun c1 => ?_) (fun c1 => ?_)
  · have h := if_e c1 h
    exact sx_sub [0] rfl (tX6_image_j9 h0 h k3)
  · have h := if_n c1 h
    refine sx_iload_n (i := 1) (j := 1) dX6_image_4 rfl rfl ?_
    refine sx_iconst (v := (1 : Int32)) dX6_image_5 (by decide) ?_
    refine sx_icmp_le (tgt := 18) dX6_image_6 rfl (fun c3 => ?_) (fun c3 => ?_)
    · have h := if_e c3 h
      refine sx_aload_n (i := 0) (j := 0) dX6_image_18 rfl rfl ?_
      refine sx_iload_n (i := 1) (j := 1) dX6_image_19 rfl rfl ?_
      by_cases c5 : v1 = 0
      · have h := if_e c5 h
        refine sx_callV (avs := [.int v1]) (rest := []) (st1 := [.ref (a0 + 50)]) dX6_image_20 (mX6_imageAt_0 h0 c5) ciX6_imageAt (Or.inl wd_894) (X6_k h0) rfl rfl rfl rfl (rm_m rfl) rfl (Nat.le_of_ble_eq_true rfl) rfl ?_
        refine sx_aload_n (i := 0) (j := 0) dX6_image_23 rfl rfl ?_
        refine sx_get (k := 0) (v := .ref (a0 + 1)) dX6_image_24 (X6_k h0) cf_6 (Or.inl wd_340) (by decide : 0 < 13) (congrArg Value.ref (X6_r0 h0)) ?_
        refine sx_aload_n (i := 0) (j := 0) dX6_image_27 rfl rfl ?_
        refine sx_get (k := 2) (v := .ref (a0 + 29)) dX6_image_28 (X6_k h0) cf_6 (Or.inl wd_342) (by decide : 2 < 13) (congrArg Value.ref (X6_r2 h0)) ?_
        obtain ⟨z6, ez6, h⟩ := bd_e h
        refine sx_callV (avs := [.ref (a0 + 1), .ref (a0 + 29)]) (rest := []) (st1 := []) dX6_image_31 (mX0_keep (X6_o3 h0) (X6_o0 h0) (X6_o2 h0) ez6) ciX0_keep (Or.inr ⟨_, nw_898⟩) (X0_k (X6_o3 h0)) rfl rfl rfl rfl (rm_m rfl) rfl (Nat.le_of_ble_eq_true rfl) rfl ?_
        refine sx_iconst (v := (1 : Int32)) dX6_image_34 (by decide) ?_
        obtain rfl := Option.some.inj h
        exact sx_iret dX6_image_35 rfl rfl k3.1 k3.2
      · have h := if_n c5 h
        refine sx_callV (avs := [.int v1]) (rest := []) (st1 := [.ref (a0 + 86)]) dX6_image_20 (mX6_imageAt_1 h0 c5) ciX6_imageAt (Or.inl wd_894) (X6_k h0) rfl rfl rfl rfl (rm_m rfl) rfl (Nat.le_of_ble_eq_true rfl) rfl ?_
        refine sx_aload_n (i := 0) (j := 0) dX6_image_23 rfl rfl ?_
        refine sx_get (k := 0) (v := .ref (a0 + 1)) dX6_image_24 (X6_k h0) cf_6 (Or.inl wd_340) (by decide : 0 < 13) (congrArg Value.ref (X6_r0 h0)) ?_
        refine sx_aload_n (i := 0) (j := 0) dX6_image_27 rfl rfl ?_
        refine sx_get (k := 2) (v := .ref (a0 + 29)) dX6_image_28 (X6_k h0) cf_6 (Or.inl wd_342) (by decide : 2 < 13) (congrArg Value.ref (X6_r2 h0)) ?_
        obtain ⟨z7, ez7, h⟩ := bd_e h
        refine sx_callV (avs := [.ref (a0 + 1), .ref (a0 + 29)]) (rest := []) (st1 := []) dX6_image_31 (mX0_keep (X6_o4 h0) (X6_o0 h0) (X6_o2 h0) ez7) ciX0_keep (Or.inr ⟨_, nw_898⟩) (X0_k (X6_o4 h0)) rfl rfl rfl rfl (rm_m rfl) rfl (Nat.le_of_ble_eq_true rfl) rfl ?_
        refine sx_iconst (v := (1 : Int32)) dX6_image_34 (by decide) ?_
        obtain rfl := Option.some.inj h
        exact sx_iret dX6_image_35 rfl rfl k3.1 k3.2
    · have h := if_n c3 h
      exact sx_sub [0] rfl (tX6_image_j9 h0 h k3)
set_option maxRecDepth 100000 in
set_option maxHeartbeats 4000000 in
theorem tX6_from_j9 {l : Launch} {E : Ev} {r : Option Value} {L' L : HL} {a0 : Nat} {z : Int32 × HL} (h0 : isX6 E a0) (h : fX6_from_j9 a0 L = some z) (k3 : r = some (.int z.1) ∧ L' = z.2) : Sx l E yX6_from cX6_from 2 (some .int) (5) r L' 9 [(0, .ref a0)] [] L := by
  unfold fX6_from_j9 at h
  refine sx_aload_n (i := 0) (j := 0) dX6_from_9 rfl rfl ?_
  refine sx_bipush (v := (-2 : Int32)) dX6_from_10 (by decide) ?_
  refine sx_bipush (v := (-2 : Int32)) dX6_from_12 (by decide) ?_
  obtain ⟨z2, ez2, h⟩ := bd_e h
  refine sx_callV (avs := [.int (-2 : Int32), .int (-2 : Int32)]) (rest := []) (st1 := [.int z2.1]) dX6_from_14 (mX6_refused h0 ez2) ciX6_refused (Or.inl wd_404) (X6_k h0) rfl rfl rfl rfl (rm_m rfl) rfl (Nat.le_of_ble_eq_true rfl) rfl ?_
  obtain rfl := Option.some.inj h
  exact sx_iret dX6_from_17 rfl rfl k3.1 k3.2
set_option maxRecDepth 100000 in
set_option maxHeartbeats 4000000 in
theorem mX6_from {l : Launch} {E : Ev} {L : HL} {a0 : Nat} {v1 : Int32} {z : Int32 × HL} (h0 : isX6 E a0) (h : fX6_from a0 v1 L = some z) : Mt l E yX6_from cX6_from 2 (some .int) (5) [.ref a0, .int v1] L (some (.int z.1)) (z.2) := by
  obtain ⟨r, hr⟩ : ∃ r : Option Value, r = some (.int z.1) := ⟨_, rfl⟩
  obtain ⟨L', hL'⟩ : ∃ L' : HL, L' = z.2 := ⟨_, rfl⟩
  have k3 : r = some (.int z.1) ∧ L' = z.2 := ⟨hr, hL'⟩
  refine mt_eq hr hL' ?_
  refine Mt.of (plainFor_of_name (by decide)) (Nat.le_of_ble_eq_true rfl) ?_
  refine sx_sub (lv' := [(0, .ref a0), (1, .int v1)]) [0, 1] rfl ?_
  unfold fX6_from at h
  refine sx_iload_n (i := 1) (j := 1) dX6_from_0 rfl rfl ?_
  refine sx_if_lt (tgt := 9) dX6_from_1 rfl (fun c1 => ?_) (fun c1 => ?_)
  · have h := if_e c1 h
    exact sx_sub [0] rfl (tX6_from_j9 h0 h k3)
  · have h := if_n c1 h
    refine sx_iload_n (i := 1) (j := 1) dX6_from_4 rfl rfl ?_
    refine sx_iconst (v := (1 : Int32)) dX6_from_5 (by decide) ?_
    refine sx_icmp_le (tgt := 18) dX6_from_6 rfl (fun c3 => ?_) (fun c3 => ?_)
    · have h := if_e c3 h
      refine sx_aload_n (i := 0) (j := 0) dX6_from_18 rfl rfl ?_
      refine sx_iload_n (i := 1) (j := 1) dX6_from_19 rfl rfl ?_
      by_cases c5 : v1 = 0
      · have h := if_e c5 h
        refine sx_callV (avs := [.int v1]) (rest := []) (st1 := [.ref (a0 + 50)]) dX6_from_20 (mX6_imageAt_0 h0 c5) ciX6_imageAt (Or.inl wd_894) (X6_k h0) rfl rfl rfl rfl (rm_m rfl) rfl (Nat.le_of_ble_eq_true rfl) rfl ?_
        refine sx_get (k := 0) (v := .int (L.1 (a0 + 50) 0)) dX6_from_23 (X0_k (X6_o3 h0)) cf_0 (Or.inr ⟨_, nw_249⟩) (by decide : 0 < 3) rfl ?_
        refine sx_if_ne (tgt := 38) dX6_from_26 rfl (fun c6 => ?_) (fun c6 => ?_)
        · have h := if_e c6 h
          refine sx_aload_n (i := 0) (j := 0) dX6_from_29 rfl rfl ?_
          refine sx_bipush (v := (-3 : Int32)) dX6_from_30 (by decide) ?_
          refine sx_bipush (v := (-3 : Int32)) dX6_from_32 (by decide) ?_
          obtain ⟨z7, ez7, h⟩ := bd_e h
          refine sx_callV (avs := [.int (-3 : Int32), .int (-3 : Int32)]) (rest := []) (st1 := [.int z7.1]) dX6_from_34 (mX6_refused h0 ez7) ciX6_refused (Or.inl wd_404) (X6_k h0) rfl rfl rfl rfl (rm_m rfl) rfl (Nat.le_of_ble_eq_true rfl) rfl ?_
          obtain rfl := Option.some.inj h
          exact sx_iret dX6_from_37 rfl rfl k3.1 k3.2
        · have h := if_n c6 h
          refine sx_aload_n (i := 0) (j := 0) dX6_from_38 rfl rfl ?_
          refine sx_iload_n (i := 1) (j := 1) dX6_from_39 rfl rfl ?_
          by_cases c9 : v1 = 0
          · have h := if_e c9 h
            refine sx_callV (avs := [.int v1]) (rest := []) (st1 := [.ref (a0 + 50)]) dX6_from_40 (mX6_imageAt_0 h0 c9) ciX6_imageAt (Or.inl wd_894) (X6_k h0) rfl rfl rfl rfl (rm_m rfl) rfl (Nat.le_of_ble_eq_true rfl) rfl ?_
            refine sx_aload_n (i := 0) (j := 0) dX6_from_43 rfl rfl ?_
            refine sx_get (k := 0) (v := .ref (a0 + 1)) dX6_from_44 (X6_k h0) cf_6 (Or.inl wd_340) (by decide : 0 < 13) (congrArg Value.ref (X6_r0 h0)) ?_
            refine sx_aload_n (i := 0) (j := 0) dX6_from_47 rfl rfl ?_
            refine sx_get (k := 2) (v := .ref (a0 + 29)) dX6_from_48 (X6_k h0) cf_6 (Or.inl wd_342) (by decide : 2 < 13) (congrArg Value.ref (X6_r2 h0)) ?_
            obtain ⟨z10, ez10, h⟩ := bd_e h
            refine sx_callV (avs := [.ref (a0 + 1), .ref (a0 + 29)]) (rest := []) (st1 := []) dX6_from_51 (mX0_giveBack (X6_o3 h0) (X6_o0 h0) (X6_o2 h0) ez10) ciX0_giveBack (Or.inr ⟨_, nw_911⟩) (X0_k (X6_o3 h0)) rfl rfl rfl rfl (rm_m rfl) rfl (Nat.le_of_ble_eq_true rfl) rfl ?_
            refine sx_iconst (v := (1 : Int32)) dX6_from_54 (by decide) ?_
            obtain rfl := Option.some.inj h
            exact sx_iret dX6_from_55 rfl rfl k3.1 k3.2
          · have h := if_n c9 h
            refine sx_callV (avs := [.int v1]) (rest := []) (st1 := [.ref (a0 + 86)]) dX6_from_40 (mX6_imageAt_1 h0 c9) ciX6_imageAt (Or.inl wd_894) (X6_k h0) rfl rfl rfl rfl (rm_m rfl) rfl (Nat.le_of_ble_eq_true rfl) rfl ?_
            refine sx_aload_n (i := 0) (j := 0) dX6_from_43 rfl rfl ?_
            refine sx_get (k := 0) (v := .ref (a0 + 1)) dX6_from_44 (X6_k h0) cf_6 (Or.inl wd_340) (by decide : 0 < 13) (congrArg Value.ref (X6_r0 h0)) ?_
            refine sx_aload_n (i := 0) (j := 0) dX6_from_47 rfl rfl ?_
            refine sx_get (k := 2) (v := .ref (a0 + 29)) dX6_from_48 (X6_k h0) cf_6 (Or.inl wd_342) (by decide : 2 < 13) (congrArg Value.ref (X6_r2 h0)) ?_
            obtain ⟨z11, ez11, h⟩ := bd_e h
            refine sx_callV (avs := [.ref (a0 + 1), .ref (a0 + 29)]) (rest := []) (st1 := []) dX6_from_51 (mX0_giveBack (X6_o4 h0) (X6_o0 h0) (X6_o2 h0) ez11) ciX0_giveBack (Or.inr ⟨_, nw_911⟩) (X0_k (X6_o4 h0)) rfl rfl rfl rfl (rm_m rfl) rfl (Nat.le_of_ble_eq_true rfl) rfl ?_
            refine sx_iconst (v := (1 : Int32)) dX6_from_54 (by decide) ?_
            obtain rfl := Option.some.inj h
            exact sx_iret dX6_from_55 rfl rfl k3.1 k3.2
      · have h := if_n c5 h
        refine sx_callV (avs := [.int v1]) (rest := []) (st1 := [.ref (a0 + 86)]) dX6_from_20 (mX6_imageAt_1 h0 c5) ciX6_imageAt (Or.inl wd_894) (X6_k h0) rfl rfl rfl rfl (rm_m rfl) rfl (Nat.le_of_ble_eq_true rfl) rfl ?_
        refine sx_get (k := 0) (v := .int (L.1 (a0 + 86) 0)) dX6_from_23 (X0_k (X6_o4 h0)) cf_0 (Or.inr ⟨_, nw_249⟩) (by decide : 0 < 3) rfl ?_
        refine sx_if_ne (tgt := 38) dX6_from_26 rfl (fun c12 => ?_) (fun c12 => ?_)
        · have h := if_e c12 h
          refine sx_aload_n (i := 0) (j := 0) dX6_from_29 rfl rfl ?_
          refine sx_bipush (v := (-3 : Int32)) dX6_from_30 (by decide) ?_
          refine sx_bipush (v := (-3 : Int32)) dX6_from_32 (by decide) ?_
          obtain ⟨z13, ez13, h⟩ := bd_e h
          refine sx_callV (avs := [.int (-3 : Int32), .int (-3 : Int32)]) (rest := []) (st1 := [.int z13.1]) dX6_from_34 (mX6_refused h0 ez13) ciX6_refused (Or.inl wd_404) (X6_k h0) rfl rfl rfl rfl (rm_m rfl) rfl (Nat.le_of_ble_eq_true rfl) rfl ?_
          obtain rfl := Option.some.inj h
          exact sx_iret dX6_from_37 rfl rfl k3.1 k3.2
        · have h := if_n c12 h
          refine sx_aload_n (i := 0) (j := 0) dX6_from_38 rfl rfl ?_
          refine sx_iload_n (i := 1) (j := 1) dX6_from_39 rfl rfl ?_
          by_cases c15 : v1 = 0
          · have h := if_e c15 h
            refine sx_callV (avs := [.int v1]) (rest := []) (st1 := [.ref (a0 + 50)]) dX6_from_40 (mX6_imageAt_0 h0 c15) ciX6_imageAt (Or.inl wd_894) (X6_k h0) rfl rfl rfl rfl (rm_m rfl) rfl (Nat.le_of_ble_eq_true rfl) rfl ?_
            refine sx_aload_n (i := 0) (j := 0) dX6_from_43 rfl rfl ?_
            refine sx_get (k := 0) (v := .ref (a0 + 1)) dX6_from_44 (X6_k h0) cf_6 (Or.inl wd_340) (by decide : 0 < 13) (congrArg Value.ref (X6_r0 h0)) ?_
            refine sx_aload_n (i := 0) (j := 0) dX6_from_47 rfl rfl ?_
            refine sx_get (k := 2) (v := .ref (a0 + 29)) dX6_from_48 (X6_k h0) cf_6 (Or.inl wd_342) (by decide : 2 < 13) (congrArg Value.ref (X6_r2 h0)) ?_
            obtain ⟨z16, ez16, h⟩ := bd_e h
            refine sx_callV (avs := [.ref (a0 + 1), .ref (a0 + 29)]) (rest := []) (st1 := []) dX6_from_51 (mX0_giveBack (X6_o3 h0) (X6_o0 h0) (X6_o2 h0) ez16) ciX0_giveBack (Or.inr ⟨_, nw_911⟩) (X0_k (X6_o3 h0)) rfl rfl rfl rfl (rm_m rfl) rfl (Nat.le_of_ble_eq_true rfl) rfl ?_
            refine sx_iconst (v := (1 : Int32)) dX6_from_54 (by decide) ?_
            obtain rfl := Option.some.inj h
            exact sx_iret dX6_from_55 rfl rfl k3.1 k3.2
          · have h := if_n c15 h
            refine sx_callV (avs := [.int v1]) (rest := []) (st1 := [.ref (a0 + 86)]) dX6_from_40 (mX6_imageAt_1 h0 c15) ciX6_imageAt (Or.inl wd_894) (X6_k h0) rfl rfl rfl rfl (rm_m rfl) rfl (Nat.le_of_ble_eq_true rfl) rfl ?_
            refine sx_aload_n (i := 0) (j := 0) dX6_from_43 rfl rfl ?_
            refine sx_get (k := 0) (v := .ref (a0 + 1)) dX6_from_44 (X6_k h0) cf_6 (Or.inl wd_340) (by decide : 0 < 13) (congrArg Value.ref (X6_r0 h0)) ?_
            refine sx_aload_n (i := 0) (j := 0) dX6_from_47 rfl rfl ?_
            refine sx_get (k := 2) (v := .ref (a0 + 29)) dX6_from_48 (X6_k h0) cf_6 (Or.inl wd_342) (by decide : 2 < 13) (congrArg Value.ref (X6_r2 h0)) ?_
            obtain ⟨z17, ez17, h⟩ := bd_e h
            refine sx_callV (avs := [.ref (a0 + 1), .ref (a0 + 29)]) (rest := []) (st1 := []) dX6_from_51 (mX0_giveBack (X6_o4 h0) (X6_o0 h0) (X6_o2 h0) ez17) ciX0_giveBack (Or.inr ⟨_, nw_911⟩) (X0_k (X6_o4 h0)) rfl rfl rfl rfl (rm_m rfl) rfl (Nat.le_of_ble_eq_true rfl) rfl ?_
            refine sx_iconst (v := (1 : Int32)) dX6_from_54 (by decide) ?_
            obtain rfl := Option.some.inj h
            exact sx_iret dX6_from_55 rfl rfl k3.1 k3.2
    · have h := if_n c3 h
      exact sx_sub [0] rfl (tX6_from_j9 h0 h k3)
set_option maxRecDepth 100000 in
set_option maxHeartbeats 4000000 in
theorem mX6_status {l : Launch} {E : Ev} {L : HL} {a0 : Nat} {v1 : Int32} {z : Int32 × HL} (h0 : isX6 E a0) (h : fX6_status a0 v1 L = some z) : Mt l E yX6_status cX6_status 2 (some .int) (2) [.ref a0, .int v1] L (some (.int z.1)) (z.2) := by
  obtain ⟨r, hr⟩ : ∃ r : Option Value, r = some (.int z.1) := ⟨_, rfl⟩
  obtain ⟨L', hL'⟩ : ∃ L' : HL, L' = z.2 := ⟨_, rfl⟩
  have k3 : r = some (.int z.1) ∧ L' = z.2 := ⟨hr, hL'⟩
  refine mt_eq hr hL' ?_
  refine Mt.of (plainFor_of_name (by decide)) (Nat.le_of_ble_eq_true rfl) ?_
  refine sx_sub (lv' := [(0, .ref a0), (1, .int v1)]) [0, 1] rfl ?_
  unfold fX6_status at h
  refine sx_iload_n (i := 1) (j := 1) dX6_status_0 rfl rfl ?_
  by_cases c1 : v1 = (0 : Int32)
  · have h := if_e c1 h
    refine sx_swIn (tgt := 28) (0 : Int32) dX6_status_1 c1 (by decide) (by decide) rfl rfl ?_
    refine sx_aload_n (i := 0) (j := 0) dX6_status_28 rfl rfl ?_
    refine sx_get (k := 10) (v := .int (L.1 a0 10)) dX6_status_29 (X6_k h0) cf_6 (Or.inl wd_350) (by decide : 10 < 13) rfl ?_
    obtain rfl := Option.some.inj h
    exact sx_iret dX6_status_32 rfl rfl k3.1 k3.2
  have h := if_n c1 h
  by_cases c2 : v1 = (1 : Int32)
  · have h := if_e c2 h
    refine sx_swIn (tgt := 33) (1 : Int32) dX6_status_1 c2 (by decide) (by decide) rfl rfl ?_
    refine sx_aload_n (i := 0) (j := 0) dX6_status_33 rfl rfl ?_
    refine sx_get (k := 11) (v := .int (L.1 a0 11)) dX6_status_34 (X6_k h0) cf_6 (Or.inl wd_351) (by decide : 11 < 13) rfl ?_
    obtain rfl := Option.some.inj h
    exact sx_iret dX6_status_37 rfl rfl k3.1 k3.2
  have h := if_n c2 h
  by_cases c3 : v1 = (2 : Int32)
  · have h := if_e c3 h
    refine sx_swIn (tgt := 38) (2 : Int32) dX6_status_1 c3 (by decide) (by decide) rfl rfl ?_
    refine sx_aload_n (i := 0) (j := 0) dX6_status_38 rfl rfl ?_
    refine sx_get (k := 12) (v := .int (L.1 a0 12)) dX6_status_39 (X6_k h0) cf_6 (Or.inl wd_352) (by decide : 12 < 13) rfl ?_
    obtain rfl := Option.some.inj h
    exact sx_iret dX6_status_42 rfl rfl k3.1 k3.2
  have h := if_n c3 h
  refine sx_swOut (tgt := 43) dX6_status_1 (sw_out (lo := 0) (k := 3) [0, 1, 2] (by decide +kernel) (List.forall_mem_cons.mpr ⟨c1, List.forall_mem_cons.mpr ⟨c2, List.forall_mem_cons.mpr ⟨c3, fun _ q => absurd q List.not_mem_nil⟩⟩⟩)) rfl ?_
  refine sx_aload_n (i := 0) (j := 0) dX6_status_43 rfl rfl ?_
  refine sx_bipush (v := (-2 : Int32)) dX6_status_44 (by decide) ?_
  refine sx_iconst (v := (-1 : Int32)) dX6_status_46 (by decide) ?_
  obtain ⟨z4, ez4, h⟩ := bd_e h
  refine sx_callV (avs := [.int (-2 : Int32), .int (-1 : Int32)]) (rest := []) (st1 := [.int z4.1]) dX6_status_47 (mX6_refused h0 ez4) ciX6_refused (Or.inl wd_404) (X6_k h0) rfl rfl rfl rfl (rm_m rfl) rfl (Nat.le_of_ble_eq_true rfl) rfl ?_
  obtain rfl := Option.some.inj h
  exact sx_iret dX6_status_50 rfl rfl k3.1 k3.2
set_option maxRecDepth 100000 in
set_option maxHeartbeats 4000000 in
theorem mX6_amount {l : Launch} {E : Ev} {L : HL} {a0 : Nat} {v1 : Int32} {z : Int32} (h0 : isX6 E a0) (h : fX6_amount a0 v1 L = some z) : Mt l E yX6_amount cX6_amount 2 (some .int) (3) [.ref a0, .int v1] L (some (.int z)) L := by
  obtain ⟨r, hr⟩ : ∃ r : Option Value, r = some (.int z) := ⟨_, rfl⟩
  obtain ⟨L', hL'⟩ : ∃ L' : HL, L' = L := ⟨_, rfl⟩
  have k3 : r = some (.int z) ∧ L' = L := ⟨hr, hL'⟩
  refine mt_eq hr hL' ?_
  refine Mt.of (plainFor_of_name (by decide)) (Nat.le_of_ble_eq_true rfl) ?_
  refine sx_sub (lv' := [(0, .ref a0), (1, .int v1)]) [0, 1] rfl ?_
  unfold fX6_amount at h
  refine sx_iload_n (i := 1) (j := 1) dX6_amount_0 rfl rfl ?_
  by_cases c1 : v1 = (0 : Int32)
  · have h := if_e c1 h
    refine sx_swIn (tgt := 52) (0 : Int32) dX6_amount_1 c1 (by decide) (by decide) rfl rfl ?_
    refine sx_aload_n (i := 0) (j := 0) dX6_amount_52 rfl rfl ?_
    refine sx_get (k := 0) (v := .ref (a0 + 1)) dX6_amount_53 (X6_k h0) cf_6 (Or.inl wd_340) (by decide : 0 < 13) (congrArg Value.ref (X6_r0 h0)) ?_
    refine sx_get (k := 0) (v := .int (L.1 (a0 + 1) 0)) dX6_amount_56 (X4_k (X6_o0 h0)) cf_4 (Or.inr ⟨_, nw_134⟩) (by decide : 0 < 17) rfl ?_
    obtain rfl := Option.some.inj h
    exact sx_iret dX6_amount_59 rfl rfl k3.1 k3.2
  have h := if_n c1 h
  by_cases c2 : v1 = (1 : Int32)
  · have h := if_e c2 h
    refine sx_swIn (tgt := 60) (1 : Int32) dX6_amount_1 c2 (by decide) (by decide) rfl rfl ?_
    refine sx_aload_n (i := 0) (j := 0) dX6_amount_60 rfl rfl ?_
    refine sx_get (k := 0) (v := .ref (a0 + 1)) dX6_amount_61 (X6_k h0) cf_6 (Or.inl wd_340) (by decide : 0 < 13) (congrArg Value.ref (X6_r0 h0)) ?_
    refine sx_get (k := 1) (v := .int (L.1 (a0 + 1) 1)) dX6_amount_64 (X4_k (X6_o0 h0)) cf_4 (Or.inr ⟨_, nw_139⟩) (by decide : 1 < 17) rfl ?_
    obtain ⟨z3, ez3, h⟩ := bd_e h
    refine sx_callS (avs := [.int (L.1 (a0 + 1) 1)]) (rest := []) (st1 := [.int z3]) dX6_amount_67 (mJ6_bitCount_0f7a4 ez3) ctJ6_bitCount_0f7a4 (Or.inl wd_672) rfl rfl (rm_m rfl) rfl (Nat.le_of_ble_eq_true rfl) rfl ?_
    obtain rfl := Option.some.inj h
    exact sx_iret dX6_amount_70 rfl rfl k3.1 k3.2
  have h := if_n c2 h
  by_cases c4 : v1 = (2 : Int32)
  · have h := if_e c4 h
    refine sx_swIn (tgt := 71) (2 : Int32) dX6_amount_1 c4 (by decide) (by decide) rfl rfl ?_
    refine sx_aload_n (i := 0) (j := 0) dX6_amount_71 rfl rfl ?_
    refine sx_get (k := 0) (v := .ref (a0 + 1)) dX6_amount_72 (X6_k h0) cf_6 (Or.inl wd_340) (by decide : 0 < 13) (congrArg Value.ref (X6_r0 h0)) ?_
    refine sx_get (k := 2) (v := .int (L.1 (a0 + 1) 2)) dX6_amount_75 (X4_k (X6_o0 h0)) cf_4 (Or.inr ⟨_, nw_142⟩) (by decide : 2 < 17) rfl ?_
    obtain rfl := Option.some.inj h
    exact sx_iret dX6_amount_78 rfl rfl k3.1 k3.2
  have h := if_n c4 h
  by_cases c5 : v1 = (3 : Int32)
  · have h := if_e c5 h
    refine sx_swIn (tgt := 79) (3 : Int32) dX6_amount_1 c5 (by decide) (by decide) rfl rfl ?_
    refine sx_aload_n (i := 0) (j := 0) dX6_amount_79 rfl rfl ?_
    refine sx_get (k := 0) (v := .ref (a0 + 1)) dX6_amount_80 (X6_k h0) cf_6 (Or.inl wd_340) (by decide : 0 < 13) (congrArg Value.ref (X6_r0 h0)) ?_
    refine sx_iconst (v := (-1 : Int32)) dX6_amount_83 (by decide) ?_
    obtain ⟨z6, ez6, h⟩ := bd_e h
    refine sx_callV (avs := [.int (-1 : Int32)]) (rest := []) (st1 := [.int z6]) dX6_amount_84 (mX4_dwellers (X6_o0 h0) ez6) ciX4_dwellers (Or.inr ⟨_, nw_869⟩) (X4_k (X6_o0 h0)) rfl rfl rfl rfl (rm_m rfl) rfl (Nat.le_of_ble_eq_true rfl) rfl ?_
    obtain rfl := Option.some.inj h
    exact sx_iret dX6_amount_87 rfl rfl k3.1 k3.2
  have h := if_n c5 h
  by_cases c7 : v1 = (4 : Int32)
  · have h := if_e c7 h
    refine sx_swIn (tgt := 88) (4 : Int32) dX6_amount_1 c7 (by decide) (by decide) rfl rfl ?_
    refine sx_aload_n (i := 0) (j := 0) dX6_amount_88 rfl rfl ?_
    refine sx_get (k := 0) (v := .ref (a0 + 1)) dX6_amount_89 (X6_k h0) cf_6 (Or.inl wd_340) (by decide : 0 < 13) (congrArg Value.ref (X6_r0 h0)) ?_
    obtain ⟨z8, ez8, h⟩ := bd_e h
    refine sx_callV (avs := []) (rest := []) (st1 := [.int z8]) dX6_amount_92 (mX4_wallsInAll (X6_o0 h0) ez8) ciX4_wallsInAll (Or.inr ⟨_, nw_927⟩) (X4_k (X6_o0 h0)) rfl rfl rfl rfl (rm_m rfl) rfl (Nat.le_of_ble_eq_true rfl) rfl ?_
    obtain rfl := Option.some.inj h
    exact sx_iret dX6_amount_95 rfl rfl k3.1 k3.2
  have h := if_n c7 h
  by_cases c9 : v1 = (5 : Int32)
  · have h := if_e c9 h
    refine sx_swIn (tgt := 96) (5 : Int32) dX6_amount_1 c9 (by decide) (by decide) rfl rfl ?_
    refine sx_aload_n (i := 0) (j := 0) dX6_amount_96 rfl rfl ?_
    refine sx_get (k := 0) (v := .ref (a0 + 1)) dX6_amount_97 (X6_k h0) cf_6 (Or.inl wd_340) (by decide : 0 < 13) (congrArg Value.ref (X6_r0 h0)) ?_
    obtain ⟨z10, ez10, h⟩ := bd_e h
    refine sx_callV (avs := []) (rest := []) (st1 := [.int z10]) dX6_amount_100 (mX4_feudsInAll (X6_o0 h0) ez10) ciX4_feudsInAll (Or.inr ⟨_, nw_931⟩) (X4_k (X6_o0 h0)) rfl rfl rfl rfl (rm_m rfl) rfl (Nat.le_of_ble_eq_true rfl) rfl ?_
    obtain rfl := Option.some.inj h
    exact sx_iret dX6_amount_103 rfl rfl k3.1 k3.2
  have h := if_n c9 h
  by_cases c11 : v1 = (6 : Int32)
  · have h := if_e c11 h
    refine sx_swIn (tgt := 104) (6 : Int32) dX6_amount_1 c11 (by decide) (by decide) rfl rfl ?_
    refine sx_aload_n (i := 0) (j := 0) dX6_amount_104 rfl rfl ?_
    refine sx_get (k := 0) (v := .ref (a0 + 1)) dX6_amount_105 (X6_k h0) cf_6 (Or.inl wd_340) (by decide : 0 < 13) (congrArg Value.ref (X6_r0 h0)) ?_
    refine sx_get (k := 3) (v := .int (L.1 (a0 + 1) 3)) dX6_amount_108 (X4_k (X6_o0 h0)) cf_4 (Or.inr ⟨_, nw_145⟩) (by decide : 3 < 17) rfl ?_
    obtain rfl := Option.some.inj h
    exact sx_iret dX6_amount_111 rfl rfl k3.1 k3.2
  have h := if_n c11 h
  by_cases c12 : v1 = (7 : Int32)
  · have h := if_e c12 h
    refine sx_swIn (tgt := 112) (7 : Int32) dX6_amount_1 c12 (by decide) (by decide) rfl rfl ?_
    refine sx_aload_n (i := 0) (j := 0) dX6_amount_112 rfl rfl ?_
    refine sx_get (k := 2) (v := .ref (a0 + 29)) dX6_amount_113 (X6_k h0) cf_6 (Or.inl wd_342) (by decide : 2 < 13) (congrArg Value.ref (X6_r2 h0)) ?_
    refine sx_get (k := 0) (v := .int (L.1 (a0 + 29) 0)) dX6_amount_116 (X3_k (X6_o2 h0)) cf_3 (Or.inr ⟨_, nw_219⟩) (by decide : 0 < 6) rfl ?_
    obtain rfl := Option.some.inj h
    exact sx_iret dX6_amount_119 rfl rfl k3.1 k3.2
  have h := if_n c12 h
  by_cases c13 : v1 = (8 : Int32)
  · have h := if_e c13 h
    refine sx_swIn (tgt := 120) (8 : Int32) dX6_amount_1 c13 (by decide) (by decide) rfl rfl ?_
    refine sx_aload_n (i := 0) (j := 0) dX6_amount_120 rfl rfl ?_
    refine sx_get (k := 5) (v := .ref (a0 + 122)) dX6_amount_121 (X6_k h0) cf_6 (Or.inl wd_345) (by decide : 5 < 13) (congrArg Value.ref (X6_r5 h0)) ?_
    refine sx_get (k := 1) (v := .int (L.1 (a0 + 122) 1)) dX6_amount_124 (X5_k (X6_o5 h0)) cf_5 (Or.inr ⟨_, nw_268⟩) (by decide : 1 < 8) rfl ?_
    obtain rfl := Option.some.inj h
    exact sx_iret dX6_amount_127 rfl rfl k3.1 k3.2
  have h := if_n c13 h
  refine sx_swOut (tgt := 128) dX6_amount_1 (sw_out (lo := 0) (k := 9) [0, 1, 2, 3, 4, 5, 6, 7, 8] (by decide +kernel) (List.forall_mem_cons.mpr ⟨c1, List.forall_mem_cons.mpr ⟨c2, List.forall_mem_cons.mpr ⟨c4, List.forall_mem_cons.mpr ⟨c5, List.forall_mem_cons.mpr ⟨c7, List.forall_mem_cons.mpr ⟨c9, List.forall_mem_cons.mpr ⟨c11, List.forall_mem_cons.mpr ⟨c12, List.forall_mem_cons.mpr ⟨c13, fun _ q => absurd q List.not_mem_nil⟩⟩⟩⟩⟩⟩⟩⟩⟩)) rfl ?_
  refine sx_iconst (v := (0 : Int32)) dX6_amount_128 (by decide) ?_
  obtain rfl := Option.some.inj h
  exact sx_iret dX6_amount_129 rfl rfl k3.1 k3.2
set_option maxRecDepth 100000 in
set_option maxHeartbeats 4000000 in
theorem tX6_count_j10 {l : Launch} {E : Ev} {r : Option Value} {L' L : HL} {a0 : Nat} {z : Int32 × HL} (h0 : isX6 E a0) (h : fX6_count_j10 a0 L = some z) (k3 : r = some (.int z.1) ∧ L' = z.2) : Sx l E yX6_count cX6_count 2 (some .int) (4) r L' 10 [(0, .ref a0)] [] L := by
  unfold fX6_count_j10 at h
  refine sx_aload_n (i := 0) (j := 0) dX6_count_10 rfl rfl ?_
  refine sx_bipush (v := (-2 : Int32)) dX6_count_11 (by decide) ?_
  refine sx_bipush (v := (-2 : Int32)) dX6_count_13 (by decide) ?_
  obtain ⟨z2, ez2, h⟩ := bd_e h
  refine sx_callV (avs := [.int (-2 : Int32), .int (-2 : Int32)]) (rest := []) (st1 := [.int z2.1]) dX6_count_15 (mX6_refused h0 ez2) ciX6_refused (Or.inl wd_404) (X6_k h0) rfl rfl rfl rfl (rm_m rfl) rfl (Nat.le_of_ble_eq_true rfl) rfl ?_
  obtain rfl := Option.some.inj h
  exact sx_iret dX6_count_18 rfl rfl k3.1 k3.2
set_option maxRecDepth 100000 in
set_option maxHeartbeats 4000000 in
theorem mX6_count {l : Launch} {E : Ev} {L : HL} {a0 : Nat} {v1 : Int32} {z : Int32 × HL} (h0 : isX6 E a0) (h : fX6_count a0 v1 L = some z) : Mt l E yX6_count cX6_count 2 (some .int) (4) [.ref a0, .int v1] L (some (.int z.1)) (z.2) := by
  obtain ⟨r, hr⟩ : ∃ r : Option Value, r = some (.int z.1) := ⟨_, rfl⟩
  obtain ⟨L', hL'⟩ : ∃ L' : HL, L' = z.2 := ⟨_, rfl⟩
  have k3 : r = some (.int z.1) ∧ L' = z.2 := ⟨hr, hL'⟩
  refine mt_eq hr hL' ?_
  refine Mt.of (plainFor_of_name (by decide)) (Nat.le_of_ble_eq_true rfl) ?_
  refine sx_sub (lv' := [(0, .ref a0), (1, .int v1)]) [0, 1] rfl ?_
  unfold fX6_count at h
  refine sx_iload_n (i := 1) (j := 1) dX6_count_0 rfl rfl ?_
  refine sx_if_lt (tgt := 10) dX6_count_1 rfl (fun c1 => ?_) (fun c1 => ?_)
  · have h := if_e c1 h
    exact sx_sub [0] rfl (tX6_count_j10 h0 h k3)
  · have h := if_n c1 h
    refine sx_iload_n (i := 1) (j := 1) dX6_count_4 rfl rfl ?_
    refine sx_bipush (v := (8 : Int32)) dX6_count_5 (by decide) ?_
    refine sx_icmp_le (tgt := 19) dX6_count_7 rfl (fun c3 => ?_) (fun c3 => ?_)
    · have h := if_e c3 h
      refine sx_aload_n (i := 0) (j := 0) dX6_count_19 rfl rfl ?_
      refine sx_iload_n (i := 1) (j := 1) dX6_count_20 rfl rfl ?_
      obtain ⟨z4, ez4, h⟩ := bd_e h
      refine sx_callV (avs := [.int v1]) (rest := []) (st1 := [.int z4]) dX6_count_21 (mX6_amount h0 ez4) ciX6_amount (Or.inl wd_923) (X6_k h0) rfl rfl rfl rfl (rm_m rfl) rfl (Nat.le_of_ble_eq_true rfl) rfl ?_
      obtain rfl := Option.some.inj h
      exact sx_iret dX6_count_24 rfl rfl k3.1 k3.2
    · have h := if_n c3 h
      exact sx_sub [0] rfl (tX6_count_j10 h0 h k3)
set_option maxRecDepth 100000 in
set_option maxHeartbeats 4000000 in
theorem tX6_digest_b6 {l : Launch} {E : Ev} {r : Option Value} {L' L : HL} {a0 : Nat} {v1 : Int64} {v3 : Int32} {z : Tn (Int64 × Int32) (Int64)} (h0 : isX6 E a0) (h : fX6_digest_b6 a0 v1 v3 L = some z) (k1 : ∀ s, z = .inl s → Sx l E yX6_digest cX6_digest 4 (some .long) (4) r L' 6 [(0, .ref a0), (1, .long s.1), (3, .int s.2)] [] L) (k2 : ∀ s, z = .inr (.inl s) → Sx l E yX6_digest cX6_digest 4 (some .long) (4) r L' 31 [(0, .ref a0), (1, .long s.1)] [] L) (k3 : ∀ v, z = .inr (.inr v) → r = some (.long v) ∧ L' = L) : Sx l E yX6_digest cX6_digest 4 (some .long) (4) r L' 6 [(0, .ref a0), (1, .long v1), (3, .int v3)] [] L := by
  unfold fX6_digest_b6 at h
  refine sx_iload_n (i := 3) (j := 2) dX6_digest_6 rfl rfl ?_
  refine sx_bipush (v := (8 : Int32)) dX6_digest_7 (by decide) ?_
  refine sx_icmp_gt (tgt := 31) dX6_digest_9 rfl (fun c1 => ?_) (fun c1 => ?_)
  · have h := if_e c1 h
    obtain rfl := Option.some.inj h
    exact sx_sub [0, 1] rfl (k2 _ rfl)
  · have h := if_n c1 h
    refine sx_ldc2 (v := (31 : Int64)) dX6_digest_12 wd_940 ?_
    refine sx_lload_n (i := 1) (j := 1) dX6_digest_15 rfl rfl ?_
    refine sx_lmul dX6_digest_16 ?_
    refine sx_aload_n (i := 0) (j := 0) dX6_digest_17 rfl rfl ?_
    refine sx_iload_n (i := 3) (j := 2) dX6_digest_18 rfl rfl ?_
    obtain ⟨z2, ez2, h⟩ := bd_e h
    refine sx_callV (avs := [.int v3]) (rest := [.long ((31 : Int64) * v1)]) (st1 := [.int z2, .long ((31 : Int64) * v1)]) dX6_digest_19 (mX6_amount h0 ez2) ciX6_amount (Or.inl wd_923) (X6_k h0) rfl rfl rfl rfl (rm_m rfl) rfl (Nat.le_of_ble_eq_true rfl) rfl ?_
    refine sx_i2l dX6_digest_22 ?_
    refine sx_ladd dX6_digest_23 ?_
    refine sx_topl (fun w3 ew3 => ?_)
    have h := lt_e ew3 h
    refine sx_lstore_n (i := 1) (lv' := [(0, .ref a0), (1, .long w3), (3, .int v3)]) dX6_digest_24 rfl (by decide) rfl ?_
    obtain ⟨w4, ew4⟩ : ∃ w : Int32, w = v3 + (1 : Int32) := ⟨_, rfl⟩
    have h := lt_e ew4 h
    refine sx_iinc (j := 2) (v := w4) (lv' := [(0, .ref a0), (1, .long w3), (3, .int w4)]) dX6_digest_25 rfl (ii_1 ew4) (by decide) rfl ?_
    refine sx_goto (tgt := 6) dX6_digest_28 rfl ?_
    obtain rfl := Option.some.inj h
    exact sx_sub [0, 1, 2] rfl (k1 _ rfl)
set_option maxRecDepth 100000 in
set_option maxHeartbeats 4000000 in
theorem mX6_digest {l : Launch} {E : Ev} {L : HL} {a0 : Nat} {z : Int64} (h0 : isX6 E a0) (h : fX6_digest a0 L = some z) : Mt l E yX6_digest cX6_digest 4 (some .long) (4) [.ref a0] L (some (.long z)) L := by
  obtain ⟨r, hr⟩ : ∃ r : Option Value, r = some (.long z) := ⟨_, rfl⟩
  obtain ⟨L', hL'⟩ : ∃ L' : HL, L' = L := ⟨_, rfl⟩
  have k3 : r = some (.long z) ∧ L' = L := ⟨hr, hL'⟩
  refine mt_eq hr hL' ?_
  refine Mt.of (plainFor_of_name (by decide)) (Nat.le_of_ble_eq_true rfl) ?_
  refine sx_sub (lv' := [(0, .ref a0)]) [0] rfl ?_
  unfold fX6_digest at h
  refine sx_ldc2 (v := (967 : Int64)) dX6_digest_0 wd_939 ?_
  refine sx_lstore_n (i := 1) (lv' := [(0, .ref a0), (1, .long (967 : Int64))]) dX6_digest_3 rfl (by decide) rfl ?_
  refine sx_iconst (v := (0 : Int32)) dX6_digest_4 (by decide) ?_
  refine sx_istore_n (i := 3) (lv' := [(0, .ref a0), (1, .long (967 : Int64)), (3, .int (0 : Int32))]) dX6_digest_5 rfl (by decide) rfl ?_
  obtain ⟨x8, hx, q1, q2⟩ := lx_e h
  refine sx_sub (lv' := [(0, .ref a0), (1, .long (967 : Int64)), (3, .int (0 : Int32))]) [0, 1, 2] rfl ?_
  refine lp_go (fun s5 => Sx l E yX6_digest cX6_digest 4 (some .long) (4) r L' 6 [(0, .ref a0), (1, .long s5.1), (3, .int s5.2)] [] L) x8 (fun s5 z2 hz c1 c2 => ?_) FU _ hx
  refine tX6_digest_b6 h0 hz (fun s2 e => c1 s2 e) (fun s5 e => ?_) (fun v e => ?_)
  · have h := q1 _ (c2 _ e).symm
    refine sx_aload_n (i := 0) (j := 0) dX6_digest_31 rfl rfl ?_
    refine sx_get (k := 0) (v := .ref (a0 + 1)) dX6_digest_32 (X6_k h0) cf_6 (Or.inl wd_340) (by decide : 0 < 13) (congrArg Value.ref (X6_r0 h0)) ?_
    refine sx_lload_n (i := 1) (j := 1) dX6_digest_35 rfl rfl ?_
    obtain ⟨z6, ez6, h⟩ := bd_e h
    refine sx_callV (avs := [.long s5.1]) (rest := []) (st1 := [.long z6]) dX6_digest_36 (mX4_addTo (X6_o0 h0) ez6) ciX4_addTo (Or.inr ⟨_, nw_941⟩) (X4_k (X6_o0 h0)) rfl rfl rfl rfl (rm_m rfl) rfl (Nat.le_of_ble_eq_true rfl) rfl ?_
    refine sx_lstore_n (i := 1) (lv' := [(0, .ref a0), (1, .long z6)]) dX6_digest_39 rfl (by decide) rfl ?_
    refine sx_ldc2 (v := (31 : Int64)) dX6_digest_40 wd_940 ?_
    refine sx_lload_n (i := 1) (j := 1) dX6_digest_43 rfl rfl ?_
    refine sx_lmul dX6_digest_44 ?_
    refine sx_aload_n (i := 0) (j := 0) dX6_digest_45 rfl rfl ?_
    refine sx_get (k := 8) (v := .long (L.2 a0 8)) dX6_digest_46 (X6_k h0) cf_6 (Or.inl wd_348) (by decide : 8 < 13) rfl ?_
    refine sx_ladd dX6_digest_49 ?_
    refine sx_topl (fun w7 ew7 => ?_)
    have h := lt_e ew7 h
    refine sx_lstore_n (i := 1) (lv' := [(0, .ref a0), (1, .long w7)]) dX6_digest_50 rfl (by decide) rfl ?_
    refine sx_ldc2 (v := (31 : Int64)) dX6_digest_51 wd_940 ?_
    refine sx_lload_n (i := 1) (j := 1) dX6_digest_54 rfl rfl ?_
    refine sx_lmul dX6_digest_55 ?_
    refine sx_aload_n (i := 0) (j := 0) dX6_digest_56 rfl rfl ?_
    refine sx_get (k := 9) (v := .long (L.2 a0 9)) dX6_digest_57 (X6_k h0) cf_6 (Or.inl wd_349) (by decide : 9 < 13) rfl ?_
    refine sx_ladd dX6_digest_60 ?_
    obtain rfl := Option.some.inj h
    exact sx_lret dX6_digest_61 rfl k3.1 k3.2
  · have e2 := Option.some.inj (q2 _ (c2 _ e).symm)
    subst e2
    exact k3
