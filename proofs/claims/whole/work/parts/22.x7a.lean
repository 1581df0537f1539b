set_option maxRecDepth 100000 in
set_option maxHeartbeats 4000000 in
theorem mX7_in {l : Launch} {E : Ev} {L : HL} {v0 : Int64} {v2 : Int64} {v4 : Int64} {z : Int32} (h : fX7_in v0 v2 v4 = some z) : Mt l E yX7_in cX7_in 6 (some .boolean) (1) [.long v0, .long v2, .long v4] L (some (.int z)) L := by
  obtain ⟨r, hr⟩ : ∃ r : Option Value, r = some (.int z) := ⟨_, rfl⟩
  obtain ⟨L', hL'⟩ : ∃ L' : HL, L' = L := ⟨_, rfl⟩
  have k3 : r = some (.int z) ∧ L' = L := ⟨hr, hL'⟩
  refine mt_eq hr hL' ?_
  refine Mt.of (plainFor_of_name (by decide)) (Nat.le_of_ble_eq_true rfl) ?_
  refine sx_sub (lv' := [(0, .long v0), (2, .long v2), (4, .long v4)]) [0, 1, 2] rfl ?_
  unfold fX7_in at h
  refine sx_lload_n (i := 0) (j := 0) dX7_in_0 rfl rfl ?_
  refine sx_lload_n (i := 2) (j := 1) dX7_in_1 rfl rfl ?_
  refine sx_lcmp dX7_in_2 ?_
  refine sx_if_lt (tgt := 17) dX7_in_3 rfl (fun c1 => ?_) (fun c1 => ?_)
  · have h := if_e c1 h
    refine sx_iconst (v := (0 : Int32)) dX7_in_17 (by decide) ?_
    obtain rfl := Option.some.inj h
    exact sx_iret dX7_in_18 rfl (by decide) k3.1 k3.2
  · have h := if_n c1 h
    refine sx_lload_n (i := 0) (j := 0) dX7_in_6 rfl rfl ?_
    refine sx_lload (j := 2) dX7_in_7 rfl ?_
    refine sx_lcmp dX7_in_9 ?_
    refine sx_if_gt (tgt := 17) dX7_in_10 rfl (fun c2 => ?_) (fun c2 => ?_)
    · have h := if_e c2 h
      refine sx_iconst (v := (0 : Int32)) dX7_in_17 (by decide) ?_
      obtain rfl := Option.some.inj h
      exact sx_iret dX7_in_18 rfl (by decide) k3.1 k3.2
    · have h := if_n c2 h
      refine sx_iconst (v := (1 : Int32)) dX7_in_13 (by decide) ?_
      refine sx_goto (tgt := 18) dX7_in_14 rfl ?_
      obtain rfl := Option.some.inj h
      exact sx_iret dX7_in_18 rfl (by decide) k3.1 k3.2
set_option maxRecDepth 100000 in
set_option maxHeartbeats 4000000 in
theorem mX7_isTwo {l : Launch} {E : Ev} {L : HL} {v0 : Int32} {z : Int32} (h : fX7_isTwo v0 = some z) : Mt l E yX7_isTwo cX7_isTwo 1 (some .boolean) (2) [.int v0] L (some (.int z)) L := by
  obtain ⟨r, hr⟩ : ∃ r : Option Value, r = some (.int z) := ⟨_, rfl⟩
  obtain ⟨L', hL'⟩ : ∃ L' : HL, L' = L := ⟨_, rfl⟩
  have k3 : r = some (.int z) ∧ L' = L := ⟨hr, hL'⟩
  refine mt_eq hr hL' ?_
  refine Mt.of (plainFor_of_name (by decide)) (Nat.le_of_ble_eq_true rfl) ?_
  refine sx_sub (lv' := [(0, .int v0)]) [0] rfl ?_
  unfold fX7_isTwo at h
  refine sx_iload_n (i := 0) (j := 0) dX7_isTwo_0 rfl rfl ?_
  refine sx_i2l dX7_isTwo_1 ?_
  refine sx_lconst (v := (0 : Int64)) dX7_isTwo_2 (by decide) ?_
  refine sx_lconst (v := (1 : Int64)) dX7_isTwo_3 (by decide) ?_
  obtain ⟨z1, ez1, h⟩ := bd_e h
  refine sx_callS (avs := [.long v0.toInt64, .long (0 : Int64), .long (1 : Int64)]) (rest := []) (st1 := [.int z1]) dX7_isTwo_4 (mX7_in ez1) ctX7_in (Or.inl wd_1031) rfl rfl (rm_m rfl) rfl (Nat.le_of_ble_eq_true rfl) rfl ?_
  obtain ⟨c2, h⟩ := gd_e h
  obtain rfl := Option.some.inj h
  exact sx_iret dX7_isTwo_7 rfl (nb_of c2) k3.1 k3.2
set_option maxRecDepth 100000 in
set_option maxHeartbeats 4000000 in
theorem tX7_tell_j12 {l : Launch} {E : Ev} {r : Option Value} {L' L : HL} {a0 : Nat} {v1 : Int32} {z : Int32 × HL} (h0 : isX7 E a0) (h : fX7_tell_j12 a0 v1 L = some z) (k3 : r = some (.int z.1) ∧ L' = z.2) : Sx l E yX7_tell cX7_tell 2 (some .int) (1) r L' 12 [(0, .ref a0), (1, .int v1)] [] L := by
  unfold fX7_tell_j12 at h
  refine sx_aload_n (i := 0) (j := 0) dX7_tell_12 rfl rfl ?_
  refine sx_get (k := 7) (v := .ref (a0 + 5)) dX7_tell_13 (X7_k h0) cf_7 (Or.inl wd_963) (by decide : 7 < 20) (congrArg Value.ref (X7_r7 h0)) ?_
  refine sx_iconst (v := (0 : Int32)) dX7_tell_16 (by decide) ?_
  refine sx_dup2 dX7_tell_17 rfl rfl ?_
  refine sx_iald dX7_tell_18 (X7_a7 h0) (show vin (0 : Int32) 3 from by decide) ?_
  refine sx_iconst (v := (1 : Int32)) dX7_tell_19 (by decide) ?_
  refine sx_iadd dX7_tell_20 ?_
  refine sx_iast dX7_tell_21 (X7_a7 h0) (show vin (0 : Int32) 3 from by decide) (fun L2 eL2 => ?_)
  have h := lt_e eL2 h
  refine sx_goto (tgt := 63) dX7_tell_22 rfl ?_
  refine sx_iload_n (i := 1) (j := 1) dX7_tell_63 rfl rfl ?_
  obtain rfl := Option.some.inj h
  exact sx_iret dX7_tell_64 rfl rfl k3.1 k3.2
set_option maxRecDepth 100000 in
set_option maxHeartbeats 4000000 in
theorem tX7_tell_j58 {l : Launch} {E : Ev} {r : Option Value} {L' L : HL} {a0 : Nat} {v1 : Int32} {s1 : Int32} {z : Int32 × HL} (h0 : isX7 E a0) (h : fX7_tell_j58 a0 v1 s1 L = some z) (k3 : r = some (.int z.1) ∧ L' = z.2) : Sx l E yX7_tell cX7_tell 2 (some .int) (1) r L' 58 [(1, .int v1)] [.int s1, .ref (a0 + 5)] L := by
  unfold fX7_tell_j58 at h
  refine sx_dup2 dX7_tell_58 rfl rfl ?_
  obtain ⟨c6, h⟩ := gd_e h
  refine sx_iald dX7_tell_59 (X7_a7 h0) c6 ?_
  refine sx_iconst (v := (1 : Int32)) dX7_tell_60 (by decide) ?_
  refine sx_iadd dX7_tell_61 ?_
  obtain ⟨c7, h⟩ := gd_e h
  refine sx_iast dX7_tell_62 (X7_a7 h0) c7 (fun L8 eL8 => ?_)
  have h := lt_e eL8 h
  refine sx_iload_n (i := 1) (j := 0) dX7_tell_63 rfl rfl ?_
  obtain rfl := Option.some.inj h
  exact sx_iret dX7_tell_64 rfl rfl k3.1 k3.2
set_option maxRecDepth 100000 in
set_option maxHeartbeats 4000000 in
theorem tX7_tell_j43 {l : Launch} {E : Ev} {r : Option Value} {L' L : HL} {a0 : Nat} {v1 : Int32} {z : Int32 × HL} (h0 : isX7 E a0) (h : fX7_tell_j43 a0 v1 L = some z) (k3 : r = some (.int z.1) ∧ L' = z.2) : Sx l E yX7_tell cX7_tell 2 (some .int) (1) r L' 43 [(0, .ref a0), (1, .int v1)] [] L := by
  unfold fX7_tell_j43 at h
  refine sx_aload_n (i := 0) (j := 0) dX7_tell_43 rfl rfl ?_
  refine sx_get (k := 7) (v := .ref (a0 + 5)) dX7_tell_44 (X7_k h0) cf_7 (Or.inl wd_963) (by decide : 7 < 20) (congrArg Value.ref (X7_r7 h0)) ?_
  refine sx_iload_n (i := 1) (j := 1) dX7_tell_47 rfl rfl ?_
  refine sx_bipush (v := (-4 : Int32)) dX7_tell_48 (by decide) ?_
  refine sx_icmp_ne (tgt := 57) dX7_tell_50 rfl (fun c5 => ?_) (fun c5 => ?_)
  · have h := if_e c5 h
    refine sx_iconst (v := (2 : Int32)) dX7_tell_53 (by decide) ?_
    refine sx_goto (tgt := 58) dX7_tell_54 rfl ?_
    exact sx_sub [1] rfl (tX7_tell_j58 h0 h k3)
  · have h := if_n c5 h
    refine sx_iconst (v := (1 : Int32)) dX7_tell_57 (by decide) ?_
    exact sx_sub [1] rfl (tX7_tell_j58 h0 h k3)
set_option maxRecDepth 100000 in
set_option maxHeartbeats 4000000 in
theorem mX7_tell {l : Launch} {E : Ev} {L : HL} {a0 : Nat} {v1 : Int32} {z : Int32 × HL} (h0 : isX7 E a0) (h : fX7_tell a0 v1 L = some z) : Mt l E yX7_tell cX7_tell 2 (some .int) (1) [.ref a0, .int v1] L (some (.int z.1)) (z.2) := by
  obtain ⟨r, hr⟩ : ∃ r : Option Value, r = some (.int z.1) := ⟨_, rfl⟩
  obtain ⟨L', hL'⟩ : ∃ L' : HL, L' = z.2 := ⟨_, rfl⟩
  have k3 : r = some (.int z.1) ∧ L' = z.2 := ⟨hr, hL'⟩
  refine mt_eq hr hL' ?_
  refine Mt.of (plainFor_of_name (by decide)) (Nat.le_of_ble_eq_true rfl) ?_
  refine sx_sub (lv' := [(0, .ref a0), (1, .int v1)]) [0, 1] rfl ?_
  unfold fX7_tell at h
  refine sx_iload_n (i := 1) (j := 1) dX7_tell_0 rfl rfl ?_
  refine sx_bipush (v := (-2 : Int32)) dX7_tell_1 (by decide) ?_
  refine sx_icmp_eq (tgt := 12) dX7_tell_3 rfl (fun c1 => ?_) (fun c1 => ?_)
  · have h := if_e c1 h
    exact sx_sub [0, 1] rfl (tX7_tell_j12 h0 h k3)
  · have h := if_n c1 h
    refine sx_iload_n (i := 1) (j := 1) dX7_tell_6 rfl rfl ?_
    refine sx_bipush (v := (-10 : Int32)) dX7_tell_7 (by decide) ?_
    refine sx_icmp_ne (tgt := 25) dX7_tell_9 rfl (fun c3 => ?_) (fun c3 => ?_)
    · have h := if_e c3 h
      exact sx_sub [0, 1] rfl (tX7_tell_j12 h0 h k3)
    · have h := if_n c3 h
      refine sx_iload_n (i := 1) (j := 1) dX7_tell_25 rfl rfl ?_
      refine sx_bipush (v := (-3 : Int32)) dX7_tell_26 (by decide) ?_
      refine sx_icmp_eq (tgt := 43) dX7_tell_28 rfl (fun c4 => ?_) (fun c4 => ?_)
      · have h := if_e c4 h
        exact sx_sub [0, 1] rfl (tX7_tell_j43 h0 h k3)
      · have h := if_n c4 h
        refine sx_iload_n (i := 1) (j := 1) dX7_tell_31 rfl rfl ?_
        refine sx_bipush (v := (-20 : Int32)) dX7_tell_32 (by decide) ?_
        refine sx_icmp_eq (tgt := 43) dX7_tell_34 rfl (fun c9 => ?_) (fun c9 => ?_)
        · have h := if_e c9 h
          exact sx_sub [0, 1] rfl (tX7_tell_j43 h0 h k3)
        · have h := if_n c9 h
          refine sx_iload_n (i := 1) (j := 1) dX7_tell_37 rfl rfl ?_
          refine sx_bipush (v := (-4 : Int32)) dX7_tell_38 (by decide) ?_
          refine sx_icmp_ne (tgt := 63) dX7_tell_40 rfl (fun c10 => ?_) (fun c10 => ?_)
          · have h := if_e c10 h
            exact sx_sub [0, 1] rfl (tX7_tell_j43 h0 h k3)
          · have h := if_n c10 h
            refine sx_iload_n (i := 1) (j := 1) dX7_tell_63 rfl rfl ?_
            obtain rfl := Option.some.inj h
            exact sx_iret dX7_tell_64 rfl rfl k3.1 k3.2
set_option maxRecDepth 100000 in
set_option maxHeartbeats 4000000 in
theorem mX7_bad {l : Launch} {E : Ev} {L : HL} {a0 : Nat} {v1 : Int32} {z : Int32 × HL} (h0 : isX7 E a0) (h : fX7_bad a0 v1 L = some z) : Mt l E yX7_bad cX7_bad 2 (some .int) (1) [.ref a0, .int v1] L (some (.int z.1)) (z.2) := by
  obtain ⟨r, hr⟩ : ∃ r : Option Value, r = some (.int z.1) := ⟨_, rfl⟩
  obtain ⟨L', hL'⟩ : ∃ L' : HL, L' = z.2 := ⟨_, rfl⟩
  have k3 : r = some (.int z.1) ∧ L' = z.2 := ⟨hr, hL'⟩
  refine mt_eq hr hL' ?_
  refine Mt.of (plainFor_of_name (by decide)) (Nat.le_of_ble_eq_true rfl) ?_
  refine sx_sub (lv' := [(0, .ref a0), (1, .int v1)]) [0, 1] rfl ?_
  unfold fX7_bad at h
  refine sx_aload_n (i := 0) (j := 0) dX7_bad_0 rfl rfl ?_
  refine sx_get (k := 7) (v := .ref (a0 + 5)) dX7_bad_1 (X7_k h0) cf_7 (Or.inl wd_963) (by decide : 7 < 20) (congrArg Value.ref (X7_r7 h0)) ?_
  refine sx_iconst (v := (0 : Int32)) dX7_bad_4 (by decide) ?_
  refine sx_dup2 dX7_bad_5 rfl rfl ?_
  refine sx_iald dX7_bad_6 (X7_a7 h0) (show vin (0 : Int32) 3 from by decide) ?_
  refine sx_iconst (v := (1 : Int32)) dX7_bad_7 (by decide) ?_
  refine sx_iadd dX7_bad_8 ?_
  refine sx_iast dX7_bad_9 (X7_a7 h0) (show vin (0 : Int32) 3 from by decide) (fun L1 eL1 => ?_)
  have h := lt_e eL1 h
  refine sx_iload_n (i := 1) (j := 1) dX7_bad_10 rfl rfl ?_
  obtain rfl := Option.some.inj h
  exact sx_iret dX7_bad_11 rfl rfl k3.1 k3.2
set_option maxRecDepth 100000 in
set_option maxHeartbeats 4000000 in
theorem mX7_no {l : Launch} {E : Ev} {L : HL} {a0 : Nat} {v1 : Int32} {z : Int32 × HL} (h0 : isX7 E a0) (h : fX7_no a0 v1 L = some z) : Mt l E yX7_no cX7_no 2 (some .int) (1) [.ref a0, .int v1] L (some (.int z.1)) (z.2) := by
  obtain ⟨r, hr⟩ : ∃ r : Option Value, r = some (.int z.1) := ⟨_, rfl⟩
  obtain ⟨L', hL'⟩ : ∃ L' : HL, L' = z.2 := ⟨_, rfl⟩
  have k3 : r = some (.int z.1) ∧ L' = z.2 := ⟨hr, hL'⟩
  refine mt_eq hr hL' ?_
  refine Mt.of (plainFor_of_name (by decide)) (Nat.le_of_ble_eq_true rfl) ?_
  refine sx_sub (lv' := [(0, .ref a0), (1, .int v1)]) [0, 1] rfl ?_
  unfold fX7_no at h
  refine sx_aload_n (i := 0) (j := 0) dX7_no_0 rfl rfl ?_
  refine sx_get (k := 7) (v := .ref (a0 + 5)) dX7_no_1 (X7_k h0) cf_7 (Or.inl wd_963) (by decide : 7 < 20) (congrArg Value.ref (X7_r7 h0)) ?_
  refine sx_iconst (v := (1 : Int32)) dX7_no_4 (by decide) ?_
  refine sx_dup2 dX7_no_5 rfl rfl ?_
  refine sx_iald dX7_no_6 (X7_a7 h0) (show vin (1 : Int32) 3 from by decide) ?_
  refine sx_iconst (v := (1 : Int32)) dX7_no_7 (by decide) ?_
  refine sx_iadd dX7_no_8 ?_
  refine sx_iast dX7_no_9 (X7_a7 h0) (show vin (1 : Int32) 3 from by decide) (fun L1 eL1 => ?_)
  have h := lt_e eL1 h
  refine sx_iload_n (i := 1) (j := 1) dX7_no_10 rfl rfl ?_
  obtain rfl := Option.some.inj h
  exact sx_iret dX7_no_11 rfl rfl k3.1 k3.2
set_option maxRecDepth 100000 in
set_option maxHeartbeats 4000000 in
theorem tX7_bits_b4 {l : Launch} {E : Ev} {r : Option Value} {L' L : HL} {v1 : Int32} {v2 : Int32} {z : Tn (Int32 × Int32) (Int32)} (h : fX7_bits_b4 v1 v2 = some z) (k1 : ∀ s, z = .inl s → Sx l E yX7_bits cX7_bits 3 (some .int) (1) r L' 4 [(1, .int s.1), (2, .int s.2)] [] L) (k2 : ∀ s, z = .inr (.inl s) → Sx l E yX7_bits cX7_bits 3 (some .int) (1) r L' 20 [(1, .int s.1)] [] L) (k3 : ∀ v, z = .inr (.inr v) → r = some (.int v) ∧ L' = L) : Sx l E yX7_bits cX7_bits 3 (some .int) (1) r L' 4 [(1, .int v1), (2, .int v2)] [] L := by
  unfold fX7_bits_b4 at h
  refine sx_iload_n (i := 2) (j := 1) dX7_bits_4 rfl rfl ?_
  refine sx_if_eq (tgt := 20) dX7_bits_5 rfl (fun c1 => ?_) (fun c1 => ?_)
  · have h := if_e c1 h
    obtain rfl := Option.some.inj h
    exact sx_sub [0] rfl (k2 _ rfl)
  · have h := if_n c1 h
    obtain ⟨w2, ew2⟩ : ∃ w : Int32, w = v1 + (1 : Int32) := ⟨_, rfl⟩
    have h := lt_e ew2 h
    refine sx_iinc (j := 0) (v := w2) (lv' := [(1, .int w2), (2, .int v2)]) dX7_bits_8 rfl (ii_1 ew2) (by decide) rfl ?_
    refine sx_iload_n (i := 2) (j := 1) dX7_bits_11 rfl rfl ?_
    refine sx_iload_n (i := 2) (j := 1) dX7_bits_12 rfl rfl ?_
    refine sx_iconst (v := (1 : Int32)) dX7_bits_13 (by decide) ?_
    refine sx_isub dX7_bits_14 ?_
    refine sx_iand dX7_bits_15 ?_
    refine sx_topi (fun w3 ew3 => ?_)
    have h := lt_e ew3 h
    refine sx_istore_n (i := 2) (lv' := [(1, .int w2), (2, .int w3)]) dX7_bits_16 rfl (by decide) rfl ?_
    refine sx_goto (tgt := 4) dX7_bits_17 rfl ?_
    obtain rfl := Option.some.inj h
    exact sx_sub [0, 1] rfl (k1 _ rfl)
set_option maxRecDepth 100000 in
set_option maxHeartbeats 4000000 in
theorem mX7_bits {l : Launch} {E : Ev} {L : HL} {v0 : Int32} {z : Int32} (h : fX7_bits v0 = some z) : Mt l E yX7_bits cX7_bits 3 (some .int) (1) [.int v0] L (some (.int z)) L := by
  obtain ⟨r, hr⟩ : ∃ r : Option Value, r = some (.int z) := ⟨_, rfl⟩
  obtain ⟨L', hL'⟩ : ∃ L' : HL, L' = L := ⟨_, rfl⟩
  have k3 : r = some (.int z) ∧ L' = L := ⟨hr, hL'⟩
  refine mt_eq hr hL' ?_
  refine Mt.of (plainFor_of_name (by decide)) (Nat.le_of_ble_eq_true rfl) ?_
  refine sx_sub (lv' := [(0, .int v0)]) [0] rfl ?_
  unfold fX7_bits at h
  refine sx_iconst (v := (0 : Int32)) dX7_bits_0 (by decide) ?_
  refine sx_istore_n (i := 1) (lv' := [(0, .int v0), (1, .int (0 : Int32))]) dX7_bits_1 rfl (by decide) rfl ?_
  refine sx_iload_n (i := 0) (j := 0) dX7_bits_2 rfl rfl ?_
  refine sx_istore_n (i := 2) (lv' := [(0, .int v0), (1, .int (0 : Int32)), (2, .int v0)]) dX7_bits_3 rfl (by decide) rfl ?_
  obtain ⟨x5, hx, q1, q2⟩ := lx_e h
  refine sx_sub (lv' := [(1, .int (0 : Int32)), (2, .int v0)]) [1, 2] rfl ?_
  refine lp_go (fun s4 => Sx l E yX7_bits cX7_bits 3 (some .int) (1) r L' 4 [(1, .int s4.1), (2, .int s4.2)] [] L) x5 (fun s4 z2 hz c1 c2 => ?_) FU _ hx
  refine tX7_bits_b4 hz (fun s2 e => c1 s2 e) (fun s4 e => ?_) (fun v e => ?_)
  · have h := q1 _ (c2 _ e).symm
    refine sx_iload_n (i := 1) (j := 0) dX7_bits_20 rfl rfl ?_
    obtain rfl := Option.some.inj h
    exact sx_iret dX7_bits_21 rfl rfl k3.1 k3.2
  · have e2 := Option.some.inj (q2 _ (c2 _ e).symm)
    subst e2
    exact k3
set_option maxRecDepth 100000 in
set_option maxHeartbeats 4000000 in
theorem mX7_holds {l : Launch} {E : Ev} {L : HL} {v0 : Int32} {v1 : Int32} {z : Int32} (h : fX7_holds v0 v1 = some z) : Mt l E yX7_holds cX7_holds 2 (some .boolean) (1) [.int v0, .int v1] L (some (.int z)) L := by
  obtain ⟨r, hr⟩ : ∃ r : Option Value, r = some (.int z) := ⟨_, rfl⟩
  obtain ⟨L', hL'⟩ : ∃ L' : HL, L' = L := ⟨_, rfl⟩
  have k3 : r = some (.int z) ∧ L' = L := ⟨hr, hL'⟩
  refine mt_eq hr hL' ?_
  refine Mt.of (plainFor_of_name (by decide)) (Nat.le_of_ble_eq_true rfl) ?_
  refine sx_sub (lv' := [(0, .int v0), (1, .int v1)]) [0, 1] rfl ?_
  unfold fX7_holds at h
  refine sx_iload_n (i := 0) (j := 0) dX7_holds_0 rfl rfl ?_
  refine sx_iload_n (i := 1) (j := 1) dX7_holds_1 rfl rfl ?_
  refine sx_ishr dX7_holds_2 ?_
  refine sx_iconst (v := (1 : Int32)) dX7_holds_3 (by decide) ?_
  refine sx_iand dX7_holds_4 ?_
  refine sx_iconst (v := (1 : Int32)) dX7_holds_5 (by decide) ?_
  refine sx_icmp_ne (tgt := 13) dX7_holds_6 rfl (fun c1 => ?_) (fun c1 => ?_)
  · have h := if_e c1 h
    refine sx_iconst (v := (1 : Int32)) dX7_holds_9 (by decide) ?_
    refine sx_goto (tgt := 14) dX7_holds_10 rfl ?_
    obtain rfl := Option.some.inj h
    exact sx_iret dX7_holds_14 rfl (by decide) k3.1 k3.2
  · have h := if_n c1 h
    refine sx_iconst (v := (0 : Int32)) dX7_holds_13 (by decide) ?_
    obtain rfl := Option.some.inj h
    exact sx_iret dX7_holds_14 rfl (by decide) k3.1 k3.2
set_option maxRecDepth 100000 in
set_option maxHeartbeats 4000000 in
theorem tX7_copies_b3 {l : Launch} {E : Ev} {r : Option Value} {L' L : HL} {a0 : Nat} {n0 : Nat} {a2 : Nat} {n2 : Nat} {v1 : Int32} {v3 : Int32} {v4 : Int32} {v5 : Int32} {z : Tn (Int32 × HL) (HL)} (h0 : eK E a0 = some (.inr (0, n0))) (h2 : eK E a2 = some (.inr (0, n2))) (h : fX7_copies_b3 a0 n0 a2 n2 v1 v3 v4 v5 L = some z) (k1 : ∀ s, z = .inl s → Sx l E yX7_copies cX7_copies 6 (none) (1) r L' 3 [(0, .ref a0), (1, .int v1), (2, .ref a2), (3, .int v3), (4, .int v4), (5, .int s.1)] [] s.2) (k2 : ∀ s, z = .inr (.inl s) → Sx l E yX7_copies cX7_copies 6 (none) (1) r L' 28 [] [] s.2) (k3 : ∀ v, z = .inr (.inr v) → r = none ∧ L' = v) : Sx l E yX7_copies cX7_copies 6 (none) (1) r L' 3 [(0, .ref a0), (1, .int v1), (2, .ref a2), (3, .int v3), (4, .int v4), (5, .int v5)] [] L := by
  unfold fX7_copies_b3 at h
  refine sx_iload (j := 5) dX7_copies_3 rfl ?_
  refine sx_iload (j := 4) dX7_copies_5 rfl ?_
  refine sx_icmp_ge (tgt := 28) dX7_copies_7 rfl (fun c1 => ?_) (fun c1 => ?_)
  · have h := if_e c1 h
    obtain rfl := Option.some.inj h
    exact sx_sub [] rfl (k2 _ rfl)
  · have h := if_n c1 h
    refine sx_aload_n (i := 2) (j := 2) dX7_copies_10 rfl rfl ?_
    refine sx_iload_n (i := 3) (j := 3) dX7_copies_11 rfl rfl ?_
    refine sx_iload (j := 5) dX7_copies_12 rfl ?_
    refine sx_iadd dX7_copies_14 ?_
    refine sx_aload_n (i := 0) (j := 0) dX7_copies_15 rfl rfl ?_
    refine sx_iload_n (i := 1) (j := 1) dX7_copies_16 rfl rfl ?_
    refine sx_iload (j := 5) dX7_copies_17 rfl ?_
    refine sx_iadd dX7_copies_19 ?_
    obtain ⟨c2, h⟩ := gd_e h
    refine sx_iald dX7_copies_20 h0 c2 ?_
    obtain ⟨c3, h⟩ := gd_e h
    refine sx_iast dX7_copies_21 h2 c3 (fun L4 eL4 => ?_)
    have h := lt_e eL4 h
    obtain ⟨w5, ew5⟩ : ∃ w : Int32, w = v5 + (1 : Int32) := ⟨_, rfl⟩
    have h := lt_e ew5 h
    refine sx_iinc (j := 5) (v := w5) (lv' := [(0, .ref a0), (1, .int v1), (2, .ref a2), (3, .int v3), (4, .int v4), (5, .int w5)]) dX7_copies_22 rfl (ii_1 ew5) (by decide) rfl ?_
    refine sx_goto (tgt := 3) dX7_copies_25 rfl ?_
    obtain rfl := Option.some.inj h
    exact sx_sub [0, 1, 2, 3, 4, 5] rfl (k1 _ rfl)
set_option maxRecDepth 100000 in
set_option maxHeartbeats 4000000 in
theorem mX7_copies {l : Launch} {E : Ev} {L : HL} {a0 : Nat} {n0 : Nat} {v1 : Int32} {a2 : Nat} {n2 : Nat} {v3 : Int32} {v4 : Int32} {z : HL} (h0 : eK E a0 = some (.inr (0, n0))) (h2 : eK E a2 = some (.inr (0, n2))) (h : fX7_copies a0 n0 v1 a2 n2 v3 v4 L = some z) : Mt l E yX7_copies cX7_copies 6 (none) (1) [.ref a0, .int v1, .ref a2, .int v3, .int v4] L (none) z := by
  obtain ⟨r, hr⟩ : ∃ r : Option Value, r = none := ⟨_, rfl⟩
  obtain ⟨L', hL'⟩ : ∃ L' : HL, L' = z := ⟨_, rfl⟩
  have k3 : r = none ∧ L' = z := ⟨hr, hL'⟩
  refine mt_eq hr hL' ?_
  refine Mt.of (plainFor_of_name (by decide)) (Nat.le_of_ble_eq_true rfl) ?_
  refine sx_sub (lv' := [(0, .ref a0), (1, .int v1), (2, .ref a2), (3, .int v3), (4, .int v4)]) [0, 1, 2, 3, 4] rfl ?_
  unfold fX7_copies at h
  refine sx_iconst (v := (0 : Int32)) dX7_copies_0 (by decide) ?_
  refine sx_istore (lv' := [(0, .ref a0), (1, .int v1), (2, .ref a2), (3, .int v3), (4, .int v4), (5, .int (0 : Int32))]) dX7_copies_1 (by decide) rfl ?_
  obtain ⟨x7, hx, q1, q2⟩ := lx_e h
  refine sx_sub (lv' := [(0, .ref a0), (1, .int v1), (2, .ref a2), (3, .int v3), (4, .int v4), (5, .int (0 : Int32))]) [0, 1, 2, 3, 4, 5] rfl ?_
  refine lp_go (fun s6 => Sx l E yX7_copies cX7_copies 6 (none) (1) r L' 3 [(0, .ref a0), (1, .int v1), (2, .ref a2), (3, .int v3), (4, .int v4), (5, .int s6.1)] [] s6.2) x7 (fun s6 z2 hz c1 c2 => ?_) FU _ hx
  refine tX7_copies_b3 h0 h2 hz (fun s2 e => c1 s2 e) (fun s6 e => ?_) (fun v e => ?_)
  · have h := q1 _ (c2 _ e).symm
    obtain rfl := Option.some.inj h
    exact sx_vret dX7_copies_28 rfl k3.1 k3.2
  · have e2 := Option.some.inj (q2 _ (c2 _ e).symm)
    subst e2
    exact k3
set_option maxRecDepth 100000 in
set_option maxHeartbeats 4000000 in
theorem mX7_isHouse {l : Launch} {E : Ev} {L : HL} {a0 : Nat} {v1 : Int32} {z : Int32} (h0 : isX7 E a0) (h : fX7_isHouse a0 v1 L = some z) : Mt l E yX7_isHouse cX7_isHouse 2 (some .boolean) (2) [.ref a0, .int v1] L (some (.int z)) L := by
  obtain ⟨r, hr⟩ : ∃ r : Option Value, r = some (.int z) := ⟨_, rfl⟩
  obtain ⟨L', hL'⟩ : ∃ L' : HL, L' = L := ⟨_, rfl⟩
  have k3 : r = some (.int z) ∧ L' = L := ⟨hr, hL'⟩
  refine mt_eq hr hL' ?_
  refine Mt.of (plainFor_of_name (by decide)) (Nat.le_of_ble_eq_true rfl) ?_
  refine sx_sub (lv' := [(0, .ref a0), (1, .int v1)]) [0, 1] rfl ?_
  unfold fX7_isHouse at h
  refine sx_iload_n (i := 1) (j := 1) dX7_isHouse_0 rfl rfl ?_
  refine sx_i2l dX7_isHouse_1 ?_
  refine sx_lconst (v := (0 : Int64)) dX7_isHouse_2 (by decide) ?_
  refine sx_aload_n (i := 0) (j := 0) dX7_isHouse_3 rfl rfl ?_
  refine sx_get (k := 0) (v := .ref (a0 + 1)) dX7_isHouse_4 (X7_k h0) cf_7 (Or.inl wd_956) (by decide : 0 < 20) (congrArg Value.ref (X7_r0 h0)) ?_
  refine sx_iconst (v := (0 : Int32)) dX7_isHouse_7 (by decide) ?_
  refine sx_iald dX7_isHouse_8 (X7_a0 h0) (show vin (0 : Int32) 228 from by decide) ?_
  refine sx_iconst (v := (1 : Int32)) dX7_isHouse_9 (by decide) ?_
  refine sx_isub dX7_isHouse_10 ?_
  refine sx_i2l dX7_isHouse_11 ?_
  obtain ⟨z1, ez1, h⟩ := bd_e h
  refine sx_callS (avs := [.long v1.toInt64, .long (0 : Int64), .long ((L.1 (a0 + 1) (0 : Int32).toNatClampNeg) - (1 : Int32)).toInt64]) (rest := []) (st1 := [.int z1]) dX7_isHouse_12 (mX7_in ez1) ctX7_in (Or.inl wd_1031) rfl rfl (rm_m rfl) rfl (Nat.le_of_ble_eq_true rfl) rfl ?_
  obtain ⟨c2, h⟩ := gd_e h
  obtain rfl := Option.some.inj h
  exact sx_iret dX7_isHouse_15 rfl (nb_of c2) k3.1 k3.2
set_option maxRecDepth 100000 in
set_option maxHeartbeats 4000000 in
theorem mX7_isOne {l : Launch} {E : Ev} {L : HL} {a0 : Nat} {v1 : Int32} {z : Int32} (h0 : isX7 E a0) (h : fX7_isOne a0 v1 L = some z) : Mt l E yX7_isOne cX7_isOne 2 (some .boolean) (2) [.ref a0, .int v1] L (some (.int z)) L := by
  obtain ⟨r, hr⟩ : ∃ r : Option Value, r = some (.int z) := ⟨_, rfl⟩
  obtain ⟨L', hL'⟩ : ∃ L' : HL, L' = L := ⟨_, rfl⟩
  have k3 : r = some (.int z) ∧ L' = L := ⟨hr, hL'⟩
  refine mt_eq hr hL' ?_
  refine Mt.of (plainFor_of_name (by decide)) (Nat.le_of_ble_eq_true rfl) ?_
  refine sx_sub (lv' := [(0, .ref a0), (1, .int v1)]) [0, 1] rfl ?_
  unfold fX7_isOne at h
  refine sx_iload_n (i := 1) (j := 1) dX7_isOne_0 rfl rfl ?_
  refine sx_i2l dX7_isOne_1 ?_
  refine sx_lconst (v := (0 : Int64)) dX7_isOne_2 (by decide) ?_
  refine sx_aload_n (i := 0) (j := 0) dX7_isOne_3 rfl rfl ?_
  refine sx_get (k := 0) (v := .ref (a0 + 1)) dX7_isOne_4 (X7_k h0) cf_7 (Or.inl wd_956) (by decide : 0 < 20) (congrArg Value.ref (X7_r0 h0)) ?_
  refine sx_iconst (v := (1 : Int32)) dX7_isOne_7 (by decide) ?_
  refine sx_iald dX7_isOne_8 (X7_a0 h0) (show vin (1 : Int32) 228 from by decide) ?_
  refine sx_iconst (v := (1 : Int32)) dX7_isOne_9 (by decide) ?_
  refine sx_isub dX7_isOne_10 ?_
  refine sx_i2l dX7_isOne_11 ?_
  obtain ⟨z1, ez1, h⟩ := bd_e h
  refine sx_callS (avs := [.long v1.toInt64, .long (0 : Int64), .long ((L.1 (a0 + 1) (1 : Int32).toNatClampNeg) - (1 : Int32)).toInt64]) (rest := []) (st1 := [.int z1]) dX7_isOne_12 (mX7_in ez1) ctX7_in (Or.inl wd_1031) rfl rfl (rm_m rfl) rfl (Nat.le_of_ble_eq_true rfl) rfl ?_
  obtain ⟨c2, h⟩ := gd_e h
  obtain rfl := Option.some.inj h
  exact sx_iret dX7_isOne_15 rfl (nb_of c2) k3.1 k3.2
set_option maxRecDepth 100000 in
set_option maxHeartbeats 4000000 in
theorem mX7_isFamily {l : Launch} {E : Ev} {L : HL} {v0 : Int32} {z : Int32} (h : fX7_isFamily v0 = some z) : Mt l E yX7_isFamily cX7_isFamily 1 (some .boolean) (2) [.int v0] L (some (.int z)) L := by
  obtain ⟨r, hr⟩ : ∃ r : Option Value, r = some (.int z) := ⟨_, rfl⟩
  obtain ⟨L', hL'⟩ : ∃ L' : HL, L' = L := ⟨_, rfl⟩
  have k3 : r = some (.int z) ∧ L' = L := ⟨hr, hL'⟩
  refine mt_eq hr hL' ?_
  refine Mt.of (plainFor_of_name (by decide)) (Nat.le_of_ble_eq_true rfl) ?_
  refine sx_sub (lv' := [(0, .int v0)]) [0] rfl ?_
  unfold fX7_isFamily at h
  refine sx_iload_n (i := 0) (j := 0) dX7_isFamily_0 rfl rfl ?_
  refine sx_i2l dX7_isFamily_1 ?_
  refine sx_lconst (v := (0 : Int64)) dX7_isFamily_2 (by decide) ?_
  refine sx_ldc2 (v := (3 : Int64)) dX7_isFamily_3 wd_1080 ?_
  obtain ⟨z1, ez1, h⟩ := bd_e h
  refine sx_callS (avs := [.long v0.toInt64, .long (0 : Int64), .long (3 : Int64)]) (rest := []) (st1 := [.int z1]) dX7_isFamily_6 (mX7_in ez1) ctX7_in (Or.inl wd_1031) rfl rfl (rm_m rfl) rfl (Nat.le_of_ble_eq_true rfl) rfl ?_
  obtain ⟨c2, h⟩ := gd_e h
  obtain rfl := Option.some.inj h
  exact sx_iret dX7_isFamily_9 rfl (nb_of c2) k3.1 k3.2
set_option maxRecDepth 100000 in
set_option maxHeartbeats 4000000 in
theorem mX7_doHouse {l : Launch} {E : Ev} {L : HL} {a0 : Nat} {v1 : Int32} {v2 : Int32} {v3 : Int32} {z : Int32 × HL} (h0 : isX7 E a0) (h : fX7_doHouse a0 v1 v2 v3 L = some z) : Mt l E yX7_doHouse cX7_doHouse 5 (some .int) (2) [.ref a0, .int v1, .int v2, .int v3] L (some (.int z.1)) (z.2) := by
  obtain ⟨r, hr⟩ : ∃ r : Option Value, r = some (.int z.1) := ⟨_, rfl⟩
  obtain ⟨L', hL'⟩ : ∃ L' : HL, L' = z.2 := ⟨_, rfl⟩
  have k3 : r = some (.int z.1) ∧ L' = z.2 := ⟨hr, hL'⟩
  refine mt_eq hr hL' ?_
  refine Mt.of (plainFor_of_name (by decide)) (Nat.le_of_ble_eq_true rfl) ?_
  refine sx_sub (lv' := [(0, .ref a0), (1, .int v1), (2, .int v2), (3, .int v3)]) [0, 1, 2, 3] rfl ?_
  unfold fX7_doHouse at h
  refine sx_iload_n (i := 1) (j := 1) dX7_doHouse_0 rfl rfl ?_
  refine sx_i2l dX7_doHouse_1 ?_
  refine sx_lconst (v := (1 : Int64)) dX7_doHouse_2 (by decide) ?_
  refine sx_ldc2 (v := (9 : Int64)) dX7_doHouse_3 wd_1030 ?_
  obtain ⟨z1, ez1, h⟩ := bd_e h
  refine sx_callS (avs := [.long v1.toInt64, .long (1 : Int64), .long (9 : Int64)]) (rest := []) (st1 := [.int z1]) dX7_doHouse_6 (mX7_in ez1) ctX7_in (Or.inl wd_1031) rfl rfl (rm_m rfl) rfl (Nat.le_of_ble_eq_true rfl) rfl ?_
  refine sx_if_eq (tgt := 36) dX7_doHouse_9 rfl (fun c2 => ?_) (fun c2 => ?_)
  · have h := if_e c2 h
    refine sx_bipush (v := (-2 : Int32)) dX7_doHouse_36 (by decide) ?_
    obtain rfl := Option.some.inj h
    exact sx_iret dX7_doHouse_38 rfl rfl k3.1 k3.2
  · have h := if_n c2 h
    refine sx_iload_n (i := 2) (j := 2) dX7_doHouse_12 rfl rfl ?_
    refine sx_i2l dX7_doHouse_13 ?_
    refine sx_lconst (v := (0 : Int64)) dX7_doHouse_14 (by decide) ?_
    refine sx_ldc2 (v := (99 : Int64)) dX7_doHouse_15 wd_1034 ?_
    obtain ⟨z3, ez3, h⟩ := bd_e h
    refine sx_callS (avs := [.long v2.toInt64, .long (0 : Int64), .long (99 : Int64)]) (rest := []) (st1 := [.int z3]) dX7_doHouse_18 (mX7_in ez3) ctX7_in (Or.inl wd_1031) rfl rfl (rm_m rfl) rfl (Nat.le_of_ble_eq_true rfl) rfl ?_
    refine sx_if_eq (tgt := 36) dX7_doHouse_21 rfl (fun c4 => ?_) (fun c4 => ?_)
    · have h := if_e c4 h
      refine sx_bipush (v := (-2 : Int32)) dX7_doHouse_36 (by decide) ?_
      obtain rfl := Option.some.inj h
      exact sx_iret dX7_doHouse_38 rfl rfl k3.1 k3.2
    · have h := if_n c4 h
      refine sx_iload_n (i := 3) (j := 3) dX7_doHouse_24 rfl rfl ?_
      refine sx_i2l dX7_doHouse_25 ?_
      refine sx_lconst (v := (0 : Int64)) dX7_doHouse_26 (by decide) ?_
      refine sx_ldc2 (v := (99 : Int64)) dX7_doHouse_27 wd_1034 ?_
      obtain ⟨z5, ez5, h⟩ := bd_e h
      refine sx_callS (avs := [.long v3.toInt64, .long (0 : Int64), .long (99 : Int64)]) (rest := []) (st1 := [.int z5]) dX7_doHouse_30 (mX7_in ez5) ctX7_in (Or.inl wd_1031) rfl rfl (rm_m rfl) rfl (Nat.le_of_ble_eq_true rfl) rfl ?_
      refine sx_if_ne (tgt := 39) dX7_doHouse_33 rfl (fun c6 => ?_) (fun c6 => ?_)
      · have h := if_e c6 h
        refine sx_bipush (v := (-2 : Int32)) dX7_doHouse_36 (by decide) ?_
        obtain rfl := Option.some.inj h
        exact sx_iret dX7_doHouse_38 rfl rfl k3.1 k3.2
      · have h := if_n c6 h
        refine sx_aload_n (i := 0) (j := 0) dX7_doHouse_39 rfl rfl ?_
        refine sx_get (k := 0) (v := .ref (a0 + 1)) dX7_doHouse_40 (X7_k h0) cf_7 (Or.inl wd_956) (by decide : 0 < 20) (congrArg Value.ref (X7_r0 h0)) ?_
        refine sx_iconst (v := (0 : Int32)) dX7_doHouse_43 (by decide) ?_
        refine sx_iald dX7_doHouse_44 (X7_a0 h0) (show vin (0 : Int32) 228 from by decide) ?_
        refine sx_topi (fun w7 ew7 => ?_)
        have h := lt_e ew7 h
        refine sx_istore (lv' := [(0, .ref a0), (1, .int v1), (2, .int v2), (3, .int v3), (4, .int w7)]) dX7_doHouse_45 (by decide) rfl ?_
        refine sx_iload (j := 4) dX7_doHouse_47 rfl ?_
        refine sx_iconst (v := (5 : Int32)) dX7_doHouse_49 (by decide) ?_
        refine sx_icmp_ne (tgt := 56) dX7_doHouse_50 rfl (fun c8 => ?_) (fun c8 => ?_)
        · have h := if_e c8 h
          refine sx_bipush (v := (-4 : Int32)) dX7_doHouse_53 (by decide) ?_
          obtain rfl := Option.some.inj h
          exact sx_iret dX7_doHouse_55 rfl rfl k3.1 k3.2
        · have h := if_n c8 h
          refine sx_aload_n (i := 0) (j := 0) dX7_doHouse_56 rfl rfl ?_
          refine sx_get (k := 0) (v := .ref (a0 + 1)) dX7_doHouse_57 (X7_k h0) cf_7 (Or.inl wd_956) (by decide : 0 < 20) (congrArg Value.ref (X7_r0 h0)) ?_
          refine sx_iconst (v := (4 : Int32)) dX7_doHouse_60 (by decide) ?_
          refine sx_iload (j := 4) dX7_doHouse_61 rfl ?_
          refine sx_iadd dX7_doHouse_63 ?_
          refine sx_iload_n (i := 1) (j := 1) dX7_doHouse_64 rfl rfl ?_
          obtain ⟨c9, h⟩ := gd_e h
          refine sx_iast dX7_doHouse_65 (X7_a0 h0) c9 (fun L10 eL10 => ?_)
          have h := lt_e eL10 h
          refine sx_aload_n (i := 0) (j := 0) dX7_doHouse_66 rfl rfl ?_
          refine sx_get (k := 0) (v := .ref (a0 + 1)) dX7_doHouse_67 (X7_k h0) cf_7 (Or.inl wd_956) (by decide : 0 < 20) (congrArg Value.ref (X7_r0 h0)) ?_
          refine sx_bipush (v := (9 : Int32)) dX7_doHouse_70 (by decide) ?_
          refine sx_iload (j := 4) dX7_doHouse_72 rfl ?_
          refine sx_iadd dX7_doHouse_74 ?_
          refine sx_iload_n (i := 2) (j := 2) dX7_doHouse_75 rfl rfl ?_
          obtain ⟨c11, h⟩ := gd_e h
          refine sx_iast dX7_doHouse_76 (X7_a0 h0) c11 (fun L12 eL12 => ?_)
          have h := lt_e eL12 h
          refine sx_aload_n (i := 0) (j := 0) dX7_doHouse_77 rfl rfl ?_
          refine sx_get (k := 0) (v := .ref (a0 + 1)) dX7_doHouse_78 (X7_k h0) cf_7 (Or.inl wd_956) (by decide : 0 < 20) (congrArg Value.ref (X7_r0 h0)) ?_
          refine sx_bipush (v := (14 : Int32)) dX7_doHouse_81 (by decide) ?_
          refine sx_iload (j := 4) dX7_doHouse_83 rfl ?_
          refine sx_iadd dX7_doHouse_85 ?_
          refine sx_iload_n (i := 3) (j := 3) dX7_doHouse_86 rfl rfl ?_
          obtain ⟨c13, h⟩ := gd_e h
          refine sx_iast dX7_doHouse_87 (X7_a0 h0) c13 (fun L14 eL14 => ?_)
          have h := lt_e eL14 h
          refine sx_aload_n (i := 0) (j := 0) dX7_doHouse_88 rfl rfl ?_
          refine sx_get (k := 0) (v := .ref (a0 + 1)) dX7_doHouse_89 (X7_k h0) cf_7 (Or.inl wd_956) (by decide : 0 < 20) (congrArg Value.ref (X7_r0 h0)) ?_
          refine sx_bipush (v := (19 : Int32)) dX7_doHouse_92 (by decide) ?_
          refine sx_iload (j := 4) dX7_doHouse_94 rfl ?_
          refine sx_iadd dX7_doHouse_96 ?_
          refine sx_iconst (v := (-1 : Int32)) dX7_doHouse_97 (by decide) ?_
          obtain ⟨c15, h⟩ := gd_e h
          refine sx_iast dX7_doHouse_98 (X7_a0 h0) c15 (fun L16 eL16 => ?_)
          have h := lt_e eL16 h
          refine sx_aload_n (i := 0) (j := 0) dX7_doHouse_99 rfl rfl ?_
          refine sx_get (k := 0) (v := .ref (a0 + 1)) dX7_doHouse_100 (X7_k h0) cf_7 (Or.inl wd_956) (by decide : 0 < 20) (congrArg Value.ref (X7_r0 h0)) ?_
          refine sx_bipush (v := (24 : Int32)) dX7_doHouse_103 (by decide) ?_
          refine sx_iload (j := 4) dX7_doHouse_105 rfl ?_
          refine sx_iadd dX7_doHouse_107 ?_
          refine sx_iconst (v := (0 : Int32)) dX7_doHouse_108 (by decide) ?_
          obtain ⟨c17, h⟩ := gd_e h
          refine sx_iast dX7_doHouse_109 (X7_a0 h0) c17 (fun L18 eL18 => ?_)
          have h := lt_e eL18 h
          refine sx_aload_n (i := 0) (j := 0) dX7_doHouse_110 rfl rfl ?_
          refine sx_get (k := 0) (v := .ref (a0 + 1)) dX7_doHouse_111 (X7_k h0) cf_7 (Or.inl wd_956) (by decide : 0 < 20) (congrArg Value.ref (X7_r0 h0)) ?_
          refine sx_bipush (v := (29 : Int32)) dX7_doHouse_114 (by decide) ?_
          refine sx_iload (j := 4) dX7_doHouse_116 rfl ?_
          refine sx_iadd dX7_doHouse_118 ?_
          refine sx_iconst (v := (1 : Int32)) dX7_doHouse_119 (by decide) ?_
          obtain ⟨c19, h⟩ := gd_e h
          refine sx_iast dX7_doHouse_120 (X7_a0 h0) c19 (fun L20 eL20 => ?_)
          have h := lt_e eL20 h
          refine sx_aload_n (i := 0) (j := 0) dX7_doHouse_121 rfl rfl ?_
          refine sx_get (k := 0) (v := .ref (a0 + 1)) dX7_doHouse_122 (X7_k h0) cf_7 (Or.inl wd_956) (by decide : 0 < 20) (congrArg Value.ref (X7_r0 h0)) ?_
          refine sx_bipush (v := (34 : Int32)) dX7_doHouse_125 (by decide) ?_
          refine sx_iload (j := 4) dX7_doHouse_127 rfl ?_
          refine sx_iadd dX7_doHouse_129 ?_
          refine sx_iconst (v := (0 : Int32)) dX7_doHouse_130 (by decide) ?_
          obtain ⟨c21, h⟩ := gd_e h
          refine sx_iast dX7_doHouse_131 (X7_a0 h0) c21 (fun L22 eL22 => ?_)
          have h := lt_e eL22 h
          refine sx_aload_n (i := 0) (j := 0) dX7_doHouse_132 rfl rfl ?_
          refine sx_get (k := 0) (v := .ref (a0 + 1)) dX7_doHouse_133 (X7_k h0) cf_7 (Or.inl wd_956) (by decide : 0 < 20) (congrArg Value.ref (X7_r0 h0)) ?_
          refine sx_iconst (v := (0 : Int32)) dX7_doHouse_136 (by decide) ?_
          refine sx_dup2 dX7_doHouse_137 rfl rfl ?_
          refine sx_iald dX7_doHouse_138 (X7_a0 h0) (show vin (0 : Int32) 228 from by decide) ?_
          refine sx_iconst (v := (1 : Int32)) dX7_doHouse_139 (by decide) ?_
          refine sx_iadd dX7_doHouse_140 ?_
          refine sx_iast dX7_doHouse_141 (X7_a0 h0) (show vin (0 : Int32) 228 from by decide) (fun L23 eL23 => ?_)
          have h := lt_e eL23 h
          refine sx_aload_n (i := 0) (j := 0) dX7_doHouse_142 rfl rfl ?_
          refine sx_get (k := 0) (v := .ref (a0 + 1)) dX7_doHouse_143 (X7_k h0) cf_7 (Or.inl wd_956) (by decide : 0 < 20) (congrArg Value.ref (X7_r0 h0)) ?_
          refine sx_iconst (v := (3 : Int32)) dX7_doHouse_146 (by decide) ?_
          refine sx_iconst (v := (0 : Int32)) dX7_doHouse_147 (by decide) ?_
          refine sx_iast dX7_doHouse_148 (X7_a0 h0) (show vin (3 : Int32) 228 from by decide) (fun L24 eL24 => ?_)
          have h := lt_e eL24 h
          refine sx_iload (j := 4) dX7_doHouse_149 rfl ?_
          obtain rfl := Option.some.inj h
          exact sx_iret dX7_doHouse_151 rfl rfl k3.1 k3.2
set_option maxRecDepth 100000 in
set_option maxHeartbeats 4000000 in
theorem mX7_doFrom {l : Launch} {E : Ev} {L : HL} {a0 : Nat} {v1 : Int32} {v2 : Int32} {z : Int32 × HL} (h0 : isX7 E a0) (h : fX7_doFrom a0 v1 v2 L = some z) : Mt l E yX7_doFrom cX7_doFrom 4 (some .int) (3) [.ref a0, .int v1, .int v2] L (some (.int z.1)) (z.2) := by
  obtain ⟨r, hr⟩ : ∃ r : Option Value, r = some (.int z.1) := ⟨_, rfl⟩
  obtain ⟨L', hL'⟩ : ∃ L' : HL, L' = z.2 := ⟨_, rfl⟩
  have k3 : r = some (.int z.1) ∧ L' = z.2 := ⟨hr, hL'⟩
  refine mt_eq hr hL' ?_
  refine Mt.of (plainFor_of_name (by decide)) (Nat.le_of_ble_eq_true rfl) ?_
  refine sx_sub (lv' := [(0, .ref a0), (1, .int v1), (2, .int v2)]) [0, 1, 2] rfl ?_
  unfold fX7_doFrom at h
  refine sx_aload_n (i := 0) (j := 0) dX7_doFrom_0 rfl rfl ?_
  refine sx_iload_n (i := 1) (j := 1) dX7_doFrom_1 rfl rfl ?_
  obtain ⟨z1, ez1, h⟩ := bd_e h
  refine sx_callV (avs := [.int v1]) (rest := []) (st1 := [.int z1]) dX7_doFrom_2 (mX7_isHouse h0 ez1) ciX7_isHouse (Or.inl wd_1047) (X7_k h0) rfl rfl rfl rfl (rm_m rfl) rfl (Nat.le_of_ble_eq_true rfl) rfl ?_
  refine sx_if_eq (tgt := 23) dX7_doFrom_5 rfl (fun c2 => ?_) (fun c2 => ?_)
  · have h := if_e c2 h
    refine sx_bipush (v := (-10 : Int32)) dX7_doFrom_23 (by decide) ?_
    obtain rfl := Option.some.inj h
    exact sx_iret dX7_doFrom_25 rfl rfl k3.1 k3.2
  · have h := if_n c2 h
    refine sx_iload_n (i := 2) (j := 2) dX7_doFrom_8 rfl rfl ?_
    refine sx_i2l dX7_doFrom_9 ?_
    refine sx_ldc2 (v := (-1 : Int64)) dX7_doFrom_10 wd_1051 ?_
    refine sx_iload_n (i := 1) (j := 1) dX7_doFrom_13 rfl rfl ?_
    refine sx_iconst (v := (1 : Int32)) dX7_doFrom_14 (by decide) ?_
    refine sx_isub dX7_doFrom_15 ?_
    refine sx_i2l dX7_doFrom_16 ?_
    obtain ⟨z3, ez3, h⟩ := bd_e h
    refine sx_callS (avs := [.long v2.toInt64, .long (-1 : Int64), .long (v1 - (1 : Int32)).toInt64]) (rest := []) (st1 := [.int z3]) dX7_doFrom_17 (mX7_in ez3) ctX7_in (Or.inl wd_1031) rfl rfl (rm_m rfl) rfl (Nat.le_of_ble_eq_true rfl) rfl ?_
    refine sx_if_ne (tgt := 26) dX7_doFrom_20 rfl (fun c4 => ?_) (fun c4 => ?_)
    · have h := if_e c4 h
      refine sx_bipush (v := (-10 : Int32)) dX7_doFrom_23 (by decide) ?_
      obtain rfl := Option.some.inj h
      exact sx_iret dX7_doFrom_25 rfl rfl k3.1 k3.2
    · have h := if_n c4 h
      refine sx_aload_n (i := 0) (j := 0) dX7_doFrom_26 rfl rfl ?_
      refine sx_get (k := 0) (v := .ref (a0 + 1)) dX7_doFrom_27 (X7_k h0) cf_7 (Or.inl wd_956) (by decide : 0 < 20) (congrArg Value.ref (X7_r0 h0)) ?_
      refine sx_bipush (v := (19 : Int32)) dX7_doFrom_30 (by decide) ?_
      refine sx_iload_n (i := 1) (j := 1) dX7_doFrom_32 rfl rfl ?_
      refine sx_iadd dX7_doFrom_33 ?_
      obtain ⟨c5, h⟩ := gd_e h
      refine sx_iald dX7_doFrom_34 (X7_a0 h0) c5 ?_
      refine sx_topi (fun w6 ew6 => ?_)
      have h := lt_e ew6 h
      refine sx_istore_n (i := 3) (lv' := [(0, .ref a0), (1, .int v1), (2, .int v2), (3, .int w6)]) dX7_doFrom_35 rfl (by decide) rfl ?_
      refine sx_aload_n (i := 0) (j := 0) dX7_doFrom_36 rfl rfl ?_
      refine sx_get (k := 0) (v := .ref (a0 + 1)) dX7_doFrom_37 (X7_k h0) cf_7 (Or.inl wd_956) (by decide : 0 < 20) (congrArg Value.ref (X7_r0 h0)) ?_
      refine sx_bipush (v := (19 : Int32)) dX7_doFrom_40 (by decide) ?_
      refine sx_iload_n (i := 1) (j := 1) dX7_doFrom_42 rfl rfl ?_
      refine sx_iadd dX7_doFrom_43 ?_
      refine sx_iload_n (i := 2) (j := 2) dX7_doFrom_44 rfl rfl ?_
      obtain ⟨c7, h⟩ := gd_e h
      refine sx_iast dX7_doFrom_45 (X7_a0 h0) c7 (fun L8 eL8 => ?_)
      have h := lt_e eL8 h
      refine sx_aload_n (i := 0) (j := 0) dX7_doFrom_46 rfl rfl ?_
      refine sx_get (k := 0) (v := .ref (a0 + 1)) dX7_doFrom_47 (X7_k h0) cf_7 (Or.inl wd_956) (by decide : 0 < 20) (congrArg Value.ref (X7_r0 h0)) ?_
      refine sx_iconst (v := (3 : Int32)) dX7_doFrom_50 (by decide) ?_
      refine sx_iconst (v := (0 : Int32)) dX7_doFrom_51 (by decide) ?_
      refine sx_iast dX7_doFrom_52 (X7_a0 h0) (show vin (3 : Int32) 228 from by decide) (fun L9 eL9 => ?_)
      have h := lt_e eL9 h
      refine sx_iload_n (i := 3) (j := 3) dX7_doFrom_53 rfl rfl ?_
      obtain rfl := Option.some.inj h
      exact sx_iret dX7_doFrom_54 rfl rfl k3.1 k3.2
set_option maxRecDepth 100000 in
set_option maxHeartbeats 4000000 in
theorem mX7_doWill {l : Launch} {E : Ev} {L : HL} {a0 : Nat} {v1 : Int32} {v2 : Int32} {z : Int32 × HL} (h0 : isX7 E a0) (h : fX7_doWill a0 v1 v2 L = some z) : Mt l E yX7_doWill cX7_doWill 4 (some .int) (3) [.ref a0, .int v1, .int v2] L (some (.int z.1)) (z.2) := by
  obtain ⟨r, hr⟩ : ∃ r : Option Value, r = some (.int z.1) := ⟨_, rfl⟩
  obtain ⟨L', hL'⟩ : ∃ L' : HL, L' = z.2 := ⟨_, rfl⟩
  have k3 : r = some (.int z.1) ∧ L' = z.2 := ⟨hr, hL'⟩
  refine mt_eq hr hL' ?_
  refine Mt.of (plainFor_of_name (by decide)) (Nat.le_of_ble_eq_true rfl) ?_
  refine sx_sub (lv' := [(0, .ref a0), (1, .int v1), (2, .int v2)]) [0, 1, 2] rfl ?_
  unfold fX7_doWill at h
  refine sx_aload_n (i := 0) (j := 0) dX7_doWill_0 rfl rfl ?_
  refine sx_iload_n (i := 1) (j := 1) dX7_doWill_1 rfl rfl ?_
  obtain ⟨z1, ez1, h⟩ := bd_e h
  refine sx_callV (avs := [.int v1]) (rest := []) (st1 := [.int z1]) dX7_doWill_2 (mX7_isHouse h0 ez1) ciX7_isHouse (Or.inl wd_1047) (X7_k h0) rfl rfl rfl rfl (rm_m rfl) rfl (Nat.le_of_ble_eq_true rfl) rfl ?_
  refine sx_if_eq (tgt := 20) dX7_doWill_5 rfl (fun c2 => ?_) (fun c2 => ?_)
  · have h := if_e c2 h
    refine sx_bipush (v := (-2 : Int32)) dX7_doWill_20 (by decide) ?_
    obtain rfl := Option.some.inj h
    exact sx_iret dX7_doWill_22 rfl rfl k3.1 k3.2
  · have h := if_n c2 h
    refine sx_iload_n (i := 2) (j := 2) dX7_doWill_8 rfl rfl ?_
    refine sx_i2l dX7_doWill_9 ?_
    refine sx_lconst (v := (0 : Int64)) dX7_doWill_10 (by decide) ?_
    refine sx_ldc2 (v := (5 : Int64)) dX7_doWill_11 wd_1060 ?_
    obtain ⟨z3, ez3, h⟩ := bd_e h
    refine sx_callS (avs := [.long v2.toInt64, .long (0 : Int64), .long (5 : Int64)]) (rest := []) (st1 := [.int z3]) dX7_doWill_14 (mX7_in ez3) ctX7_in (Or.inl wd_1031) rfl rfl (rm_m rfl) rfl (Nat.le_of_ble_eq_true rfl) rfl ?_
    refine sx_if_ne (tgt := 23) dX7_doWill_17 rfl (fun c4 => ?_) (fun c4 => ?_)
    · have h := if_e c4 h
      refine sx_bipush (v := (-2 : Int32)) dX7_doWill_20 (by decide) ?_
      obtain rfl := Option.some.inj h
      exact sx_iret dX7_doWill_22 rfl rfl k3.1 k3.2
    · have h := if_n c4 h
      refine sx_aload_n (i := 0) (j := 0) dX7_doWill_23 rfl rfl ?_
      refine sx_get (k := 0) (v := .ref (a0 + 1)) dX7_doWill_24 (X7_k h0) cf_7 (Or.inl wd_956) (by decide : 0 < 20) (congrArg Value.ref (X7_r0 h0)) ?_
      refine sx_bipush (v := (24 : Int32)) dX7_doWill_27 (by decide) ?_
      refine sx_iload_n (i := 1) (j := 1) dX7_doWill_29 rfl rfl ?_
      refine sx_iadd dX7_doWill_30 ?_
      obtain ⟨c5, h⟩ := gd_e h
      refine sx_iald dX7_doWill_31 (X7_a0 h0) c5 ?_
      refine sx_topi (fun w6 ew6 => ?_)
      have h := lt_e ew6 h
      refine sx_istore_n (i := 3) (lv' := [(0, .ref a0), (1, .int v1), (2, .int v2), (3, .int w6)]) dX7_doWill_32 rfl (by decide) rfl ?_
      refine sx_aload_n (i := 0) (j := 0) dX7_doWill_33 rfl rfl ?_
      refine sx_get (k := 0) (v := .ref (a0 + 1)) dX7_doWill_34 (X7_k h0) cf_7 (Or.inl wd_956) (by decide : 0 < 20) (congrArg Value.ref (X7_r0 h0)) ?_
      refine sx_bipush (v := (24 : Int32)) dX7_doWill_37 (by decide) ?_
      refine sx_iload_n (i := 1) (j := 1) dX7_doWill_39 rfl rfl ?_
      refine sx_iadd dX7_doWill_40 ?_
      refine sx_iload_n (i := 2) (j := 2) dX7_doWill_41 rfl rfl ?_
      obtain ⟨c7, h⟩ := gd_e h
      refine sx_iast dX7_doWill_42 (X7_a0 h0) c7 (fun L8 eL8 => ?_)
      have h := lt_e eL8 h
      refine sx_aload_n (i := 0) (j := 0) dX7_doWill_43 rfl rfl ?_
      refine sx_get (k := 0) (v := .ref (a0 + 1)) dX7_doWill_44 (X7_k h0) cf_7 (Or.inl wd_956) (by decide : 0 < 20) (congrArg Value.ref (X7_r0 h0)) ?_
      refine sx_iconst (v := (3 : Int32)) dX7_doWill_47 (by decide) ?_
      refine sx_iconst (v := (0 : Int32)) dX7_doWill_48 (by decide) ?_
      refine sx_iast dX7_doWill_49 (X7_a0 h0) (show vin (3 : Int32) 228 from by decide) (fun L9 eL9 => ?_)
      have h := lt_e eL9 h
      refine sx_iload_n (i := 3) (j := 3) dX7_doWill_50 rfl rfl ?_
      obtain rfl := Option.some.inj h
      exact sx_iret dX7_doWill_51 rfl rfl k3.1 k3.2
set_option maxRecDepth 100000 in
set_option maxHeartbeats 4000000 in
theorem tX7_doWall_j96 {l : Launch} {E : Ev} {r : Option Value} {L' L : HL} {a0 : Nat} {s1 : Int32} {s2 : Int32} {z : Int32 × HL} (h0 : isX7 E a0) (h : fX7_doWall_j96 a0 s1 s2 L = some z) (k3 : r = some (.int z.1) ∧ L' = z.2) : Sx l E yX7_doWall cX7_doWall 4 (some .int) (3) r L' 96 [(0, .ref a0)] [.int s2, .int s1, .ref (a0 + 1)] L := by
  unfold fX7_doWall_j96 at h
  obtain ⟨c13, h⟩ := gd_e h
  refine sx_iast dX7_doWall_96 (X7_a0 h0) c13 (fun L14 eL14 => ?_)
  have h := lt_e eL14 h
  refine sx_aload_n (i := 0) (j := 0) dX7_doWall_97 rfl rfl ?_
  refine sx_get (k := 0) (v := .ref (a0 + 1)) dX7_doWall_98 (X7_k h0) cf_7 (Or.inl wd_956) (by decide : 0 < 20) (congrArg Value.ref (X7_r0 h0)) ?_
  refine sx_iconst (v := (3 : Int32)) dX7_doWall_101 (by decide) ?_
  refine sx_iconst (v := (0 : Int32)) dX7_doWall_102 (by decide) ?_
  refine sx_iast dX7_doWall_103 (X7_a0 h0) (show vin (3 : Int32) 228 from by decide) (fun L15 eL15 => ?_)
  have h := lt_e eL15 h
  refine sx_iconst (v := (1 : Int32)) dX7_doWall_104 (by decide) ?_
  obtain rfl := Option.some.inj h
  exact sx_iret dX7_doWall_105 rfl rfl k3.1 k3.2
set_option maxRecDepth 100000 in
set_option maxHeartbeats 4000000 in
theorem tX7_doWall_j74 {l : Launch} {E : Ev} {r : Option Value} {L' L : HL} {a0 : Nat} {v1 : Int32} {v2 : Int32} {v3 : Int32} {s1 : Int32} {s2 : Int32} {z : Int32 × HL} (h0 : isX7 E a0) (h : fX7_doWall_j74 a0 v1 v2 v3 s1 s2 L = some z) (k3 : r = some (.int z.1) ∧ L' = z.2) : Sx l E yX7_doWall cX7_doWall 4 (some .int) (3) r L' 74 [(0, .ref a0), (1, .int v1), (2, .int v2), (3, .int v3)] [.int s2, .int s1, .ref (a0 + 1)] L := by
  unfold fX7_doWall_j74 at h
  obtain ⟨c10, h⟩ := gd_e h
  refine sx_iast dX7_doWall_74 (X7_a0 h0) c10 (fun L11 eL11 => ?_)
  have h := lt_e eL11 h
  refine sx_aload_n (i := 0) (j := 0) dX7_doWall_75 rfl rfl ?_
  refine sx_get (k := 0) (v := .ref (a0 + 1)) dX7_doWall_76 (X7_k h0) cf_7 (Or.inl wd_956) (by decide : 0 < 20) (congrArg Value.ref (X7_r0 h0)) ?_
  refine sx_bipush (v := (39 : Int32)) dX7_doWall_79 (by decide) ?_
  refine sx_iconst (v := (5 : Int32)) dX7_doWall_81 (by decide) ?_
  refine sx_iload_n (i := 2) (j := 2) dX7_doWall_82 rfl rfl ?_
  refine sx_imul dX7_doWall_83 ?_
  refine sx_iadd dX7_doWall_84 ?_
  refine sx_iload_n (i := 1) (j := 1) dX7_doWall_85 rfl rfl ?_
  refine sx_iadd dX7_doWall_86 ?_
  refine sx_iload_n (i := 3) (j := 3) dX7_doWall_87 rfl rfl ?_
  refine sx_if_eq (tgt := 95) dX7_doWall_88 rfl (fun c12 => ?_) (fun c12 => ?_)
  · have h := if_e c12 h
    refine sx_iconst (v := (0 : Int32)) dX7_doWall_95 (by decide) ?_
    exact sx_sub [0] rfl (tX7_doWall_j96 h0 h k3)
  · have h := if_n c12 h
    refine sx_iconst (v := (1 : Int32)) dX7_doWall_91 (by decide) ?_
    refine sx_goto (tgt := 96) dX7_doWall_92 rfl ?_
    exact sx_sub [0] rfl (tX7_doWall_j96 h0 h k3)
set_option maxRecDepth 100000 in
set_option maxHeartbeats 4000000 in
theorem tX7_doWall_j46 {l : Launch} {E : Ev} {r : Option Value} {L' L : HL} {a0 : Nat} {v1 : Int32} {v2 : Int32} {v3 : Int32} {s0 : Int32} {z : Int32 × HL} (h0 : isX7 E a0) (h : fX7_doWall_j46 a0 v1 v2 v3 s0 L = some z) (k3 : r = some (.int z.1) ∧ L' = z.2) : Sx l E yX7_doWall cX7_doWall 4 (some .int) (3) r L' 46 [(0, .ref a0), (1, .int v1), (2, .int v2), (3, .int v3)] [.int s0] L := by
  unfold fX7_doWall_j46 at h
  refine sx_iload_n (i := 3) (j := 3) dX7_doWall_46 rfl rfl ?_
  refine sx_icmp_ne (tgt := 53) dX7_doWall_47 rfl (fun c8 => ?_) (fun c8 => ?_)
  · have h := if_e c8 h
    refine sx_bipush (v := (-3 : Int32)) dX7_doWall_50 (by decide) ?_
    obtain rfl := Option.some.inj h
    exact sx_iret dX7_doWall_52 rfl rfl k3.1 k3.2
  · have h := if_n c8 h
    refine sx_aload_n (i := 0) (j := 0) dX7_doWall_53 rfl rfl ?_
    refine sx_get (k := 0) (v := .ref (a0 + 1)) dX7_doWall_54 (X7_k h0) cf_7 (Or.inl wd_956) (by decide : 0 < 20) (congrArg Value.ref (X7_r0 h0)) ?_
    refine sx_bipush (v := (39 : Int32)) dX7_doWall_57 (by decide) ?_
    refine sx_iconst (v := (5 : Int32)) dX7_doWall_59 (by decide) ?_
    refine sx_iload_n (i := 1) (j := 1) dX7_doWall_60 rfl rfl ?_
    refine sx_imul dX7_doWall_61 ?_
    refine sx_iadd dX7_doWall_62 ?_
    refine sx_iload_n (i := 2) (j := 2) dX7_doWall_63 rfl rfl ?_
    refine sx_iadd dX7_doWall_64 ?_
    refine sx_iload_n (i := 3) (j := 3) dX7_doWall_65 rfl rfl ?_
    refine sx_if_eq (tgt := 73) dX7_doWall_66 rfl (fun c9 => ?_) (fun c9 => ?_)
    · have h := if_e c9 h
      refine sx_iconst (v := (0 : Int32)) dX7_doWall_73 (by decide) ?_
      exact sx_sub [0, 1, 2, 3] rfl (tX7_doWall_j74 h0 h k3)
    · have h := if_n c9 h
      refine sx_iconst (v := (1 : Int32)) dX7_doWall_69 (by decide) ?_
      refine sx_goto (tgt := 74) dX7_doWall_70 rfl ?_
      exact sx_sub [0, 1, 2, 3] rfl (tX7_doWall_j74 h0 h k3)
set_option maxRecDepth 100000 in
set_option maxHeartbeats 4000000 in
theorem mX7_doWall {l : Launch} {E : Ev} {L : HL} {a0 : Nat} {v1 : Int32} {v2 : Int32} {v3 : Int32} {z : Int32 × HL} (h0 : isX7 E a0) (h : fX7_doWall a0 v1 v2 v3 L = some z) : Mt l E yX7_doWall cX7_doWall 4 (some .int) (3) [.ref a0, .int v1, .int v2, .int v3] L (some (.int z.1)) (z.2) := by
  obtain ⟨r, hr⟩ : ∃ r : Option Value, r = some (.int z.1) := ⟨_, rfl⟩
  obtain ⟨L', hL'⟩ : ∃ L' : HL, L' = z.2 := ⟨_, rfl⟩
  have k3 : r = some (.int z.1) ∧ L' = z.2 := ⟨hr, hL'⟩
  refine mt_eq hr hL' ?_
  refine Mt.of (plainFor_of_name (by decide)) (Nat.le_of_ble_eq_true rfl) ?_
  refine sx_sub (lv' := [(0, .ref a0), (1, .int v1), (2, .int v2), (3, .int v3)]) [0, 1, 2, 3] rfl ?_
  unfold fX7_doWall at h
  refine sx_aload_n (i := 0) (j := 0) dX7_doWall_0 rfl rfl ?_
  refine sx_iload_n (i := 1) (j := 1) dX7_doWall_1 rfl rfl ?_
  obtain ⟨z1, ez1, h⟩ := bd_e h
  refine sx_callV (avs := [.int v1]) (rest := []) (st1 := [.int z1]) dX7_doWall_2 (mX7_isHouse h0 ez1) ciX7_isHouse (Or.inl wd_1047) (X7_k h0) rfl rfl rfl rfl (rm_m rfl) rfl (Nat.le_of_ble_eq_true rfl) rfl ?_
  refine sx_if_eq (tgt := 21) dX7_doWall_5 rfl (fun c2 => ?_) (fun c2 => ?_)
  · have h := if_e c2 h
    refine sx_bipush (v := (-2 : Int32)) dX7_doWall_21 (by decide) ?_
    obtain rfl := Option.some.inj h
    exact sx_iret dX7_doWall_23 rfl rfl k3.1 k3.2
  · have h := if_n c2 h
    refine sx_aload_n (i := 0) (j := 0) dX7_doWall_8 rfl rfl ?_
    refine sx_iload_n (i := 2) (j := 2) dX7_doWall_9 rfl rfl ?_
    obtain ⟨z3, ez3, h⟩ := bd_e h
    refine sx_callV (avs := [.int v2]) (rest := []) (st1 := [.int z3]) dX7_doWall_10 (mX7_isHouse h0 ez3) ciX7_isHouse (Or.inl wd_1047) (X7_k h0) rfl rfl rfl rfl (rm_m rfl) rfl (Nat.le_of_ble_eq_true rfl) rfl ?_
    refine sx_if_eq (tgt := 21) dX7_doWall_13 rfl (fun c4 => ?_) (fun c4 => ?_)
    · have h := if_e c4 h
      refine sx_bipush (v := (-2 : Int32)) dX7_doWall_21 (by decide) ?_
      obtain rfl := Option.some.inj h
      exact sx_iret dX7_doWall_23 rfl rfl k3.1 k3.2
    · have h := if_n c4 h
      refine sx_iload_n (i := 1) (j := 1) dX7_doWall_16 rfl rfl ?_
      refine sx_iload_n (i := 2) (j := 2) dX7_doWall_17 rfl rfl ?_
      refine sx_icmp_ne (tgt := 24) dX7_doWall_18 rfl (fun c5 => ?_) (fun c5 => ?_)
      · have h := if_e c5 h
        refine sx_bipush (v := (-2 : Int32)) dX7_doWall_21 (by decide) ?_
        obtain rfl := Option.some.inj h
        exact sx_iret dX7_doWall_23 rfl rfl k3.1 k3.2
      · have h := if_n c5 h
        refine sx_aload_n (i := 0) (j := 0) dX7_doWall_24 rfl rfl ?_
        refine sx_get (k := 0) (v := .ref (a0 + 1)) dX7_doWall_25 (X7_k h0) cf_7 (Or.inl wd_956) (by decide : 0 < 20) (congrArg Value.ref (X7_r0 h0)) ?_
        refine sx_bipush (v := (39 : Int32)) dX7_doWall_28 (by decide) ?_
        refine sx_iconst (v := (5 : Int32)) dX7_doWall_30 (by decide) ?_
        refine sx_iload_n (i := 1) (j := 1) dX7_doWall_31 rfl rfl ?_
        refine sx_imul dX7_doWall_32 ?_
        refine sx_iadd dX7_doWall_33 ?_
        refine sx_iload_n (i := 2) (j := 2) dX7_doWall_34 rfl rfl ?_
        refine sx_iadd dX7_doWall_35 ?_
        obtain ⟨c6, h⟩ := gd_e h
        refine sx_iald dX7_doWall_36 (X7_a0 h0) c6 ?_
        refine sx_iconst (v := (1 : Int32)) dX7_doWall_37 (by decide) ?_
        refine sx_icmp_ne (tgt := 45) dX7_doWall_38 rfl (fun c7 => ?_) (fun c7 => ?_)
        · have h := if_e c7 h
          refine sx_iconst (v := (1 : Int32)) dX7_doWall_41 (by decide) ?_
          refine sx_goto (tgt := 46) dX7_doWall_42 rfl ?_
          exact sx_sub [0, 1, 2, 3] rfl (tX7_doWall_j46 h0 h k3)
        · have h := if_n c7 h
          refine sx_iconst (v := (0 : Int32)) dX7_doWall_45 (by decide) ?_
          exact sx_sub [0, 1, 2, 3] rfl (tX7_doWall_j46 h0 h k3)
set_option maxRecDepth 100000 in
set_option maxHeartbeats 4000000 in
theorem tX7_doOne_j43 {l : Launch} {E : Ev} {r : Option Value} {L' L : HL} {a0 : Nat} {v1 : Int32} {v2 : Int32} {z : Int32 × HL} (h0 : isX7 E a0) (h : fX7_doOne_j43 a0 v1 v2 L = some z) (k3 : r = some (.int z.1) ∧ L' = z.2) : Sx l E yX7_doOne cX7_doOne 4 (some .int) (3) r L' 43 [(0, .ref a0), (1, .int v1), (2, .int v2)] [] L := by
  unfold fX7_doOne_j43 at h
  refine sx_aload_n (i := 0) (j := 0) dX7_doOne_43 rfl rfl ?_
  refine sx_get (k := 0) (v := .ref (a0 + 1)) dX7_doOne_44 (X7_k h0) cf_7 (Or.inl wd_956) (by decide : 0 < 20) (congrArg Value.ref (X7_r0 h0)) ?_
  refine sx_iconst (v := (1 : Int32)) dX7_doOne_47 (by decide) ?_
  refine sx_iald dX7_doOne_48 (X7_a0 h0) (show vin (1 : Int32) 228 from by decide) ?_
  refine sx_topi (fun w5 ew5 => ?_)
  have h := lt_e ew5 h
  refine sx_istore_n (i := 3) (lv' := [(0, .ref a0), (1, .int v1), (2, .int v2), (3, .int w5)]) dX7_doOne_49 rfl (by decide) rfl ?_
  refine sx_iload_n (i := 3) (j := 3) dX7_doOne_50 rfl rfl ?_
  refine sx_bipush (v := (6 : Int32)) dX7_doOne_51 (by decide) ?_
  refine sx_icmp_ne (tgt := 59) dX7_doOne_53 rfl (fun c6 => ?_) (fun c6 => ?_)
  · have h := if_e c6 h
    refine sx_bipush (v := (-4 : Int32)) dX7_doOne_56 (by decide) ?_
    obtain rfl := Option.some.inj h
    exact sx_iret dX7_doOne_58 rfl rfl k3.1 k3.2
  · have h := if_n c6 h
    refine sx_aload_n (i := 0) (j := 0) dX7_doOne_59 rfl rfl ?_
    refine sx_get (k := 0) (v := .ref (a0 + 1)) dX7_doOne_60 (X7_k h0) cf_7 (Or.inl wd_956) (by decide : 0 < 20) (congrArg Value.ref (X7_r0 h0)) ?_
    refine sx_bipush (v := (64 : Int32)) dX7_doOne_63 (by decide) ?_
    refine sx_iload_n (i := 3) (j := 3) dX7_doOne_65 rfl rfl ?_
    refine sx_iadd dX7_doOne_66 ?_
    refine sx_iload_n (i := 1) (j := 1) dX7_doOne_67 rfl rfl ?_
    obtain ⟨c7, h⟩ := gd_e h
    refine sx_iast dX7_doOne_68 (X7_a0 h0) c7 (fun L8 eL8 => ?_)
    have h := lt_e eL8 h
    refine sx_aload_n (i := 0) (j := 0) dX7_doOne_69 rfl rfl ?_
    refine sx_get (k := 0) (v := .ref (a0 + 1)) dX7_doOne_70 (X7_k h0) cf_7 (Or.inl wd_956) (by decide : 0 < 20) (congrArg Value.ref (X7_r0 h0)) ?_
    refine sx_bipush (v := (70 : Int32)) dX7_doOne_73 (by decide) ?_
    refine sx_iload_n (i := 3) (j := 3) dX7_doOne_75 rfl rfl ?_
    refine sx_iadd dX7_doOne_76 ?_
    refine sx_iload_n (i := 2) (j := 2) dX7_doOne_77 rfl rfl ?_
    obtain ⟨c9, h⟩ := gd_e h
    refine sx_iast dX7_doOne_78 (X7_a0 h0) c9 (fun L10 eL10 => ?_)
    have h := lt_e eL10 h
    refine sx_aload_n (i := 0) (j := 0) dX7_doOne_79 rfl rfl ?_
    refine sx_get (k := 0) (v := .ref (a0 + 1)) dX7_doOne_80 (X7_k h0) cf_7 (Or.inl wd_956) (by decide : 0 < 20) (congrArg Value.ref (X7_r0 h0)) ?_
    refine sx_iconst (v := (1 : Int32)) dX7_doOne_83 (by decide) ?_
    refine sx_dup2 dX7_doOne_84 rfl rfl ?_
    refine sx_iald dX7_doOne_85 (X7_a0 h0) (show vin (1 : Int32) 228 from by decide) ?_
    refine sx_iconst (v := (1 : Int32)) dX7_doOne_86 (by decide) ?_
    refine sx_iadd dX7_doOne_87 ?_
    refine sx_iast dX7_doOne_88 (X7_a0 h0) (show vin (1 : Int32) 228 from by decide) (fun L11 eL11 => ?_)
    have h := lt_e eL11 h
    refine sx_aload_n (i := 0) (j := 0) dX7_doOne_89 rfl rfl ?_
    refine sx_get (k := 0) (v := .ref (a0 + 1)) dX7_doOne_90 (X7_k h0) cf_7 (Or.inl wd_956) (by decide : 0 < 20) (congrArg Value.ref (X7_r0 h0)) ?_
    refine sx_iconst (v := (3 : Int32)) dX7_doOne_93 (by decide) ?_
    refine sx_iconst (v := (0 : Int32)) dX7_doOne_94 (by decide) ?_
    refine sx_iast dX7_doOne_95 (X7_a0 h0) (show vin (3 : Int32) 228 from by decide) (fun L12 eL12 => ?_)
    have h := lt_e eL12 h
    refine sx_iload_n (i := 3) (j := 3) dX7_doOne_96 rfl rfl ?_
    obtain rfl := Option.some.inj h
    exact sx_iret dX7_doOne_97 rfl rfl k3.1 k3.2
set_option maxRecDepth 100000 in
set_option maxHeartbeats 4000000 in
theorem tX7_doOne_j23 {l : Launch} {E : Ev} {r : Option Value} {L' L : HL} {a0 : Nat} {v1 : Int32} {v2 : Int32} {z : Int32 × HL} (h0 : isX7 E a0) (h : fX7_doOne_j23 a0 v1 v2 L = some z) (k3 : r = some (.int z.1) ∧ L' = z.2) : Sx l E yX7_doOne cX7_doOne 4 (some .int) (3) r L' 23 [(0, .ref a0), (1, .int v1), (2, .int v2)] [] L := by
  unfold fX7_doOne_j23 at h
  refine sx_iload_n (i := 2) (j := 2) dX7_doOne_23 rfl rfl ?_
  refine sx_iconst (v := (-1 : Int32)) dX7_doOne_24 (by decide) ?_
  refine sx_icmp_eq (tgt := 43) dX7_doOne_25 rfl (fun c4 => ?_) (fun c4 => ?_)
  · have h := if_e c4 h
    exact sx_sub [0, 1, 2] rfl (tX7_doOne_j43 h0 h k3)
  · have h := if_n c4 h
    refine sx_aload_n (i := 0) (j := 0) dX7_doOne_28 rfl rfl ?_
    refine sx_get (k := 0) (v := .ref (a0 + 1)) dX7_doOne_29 (X7_k h0) cf_7 (Or.inl wd_956) (by decide : 0 < 20) (congrArg Value.ref (X7_r0 h0)) ?_
    refine sx_bipush (v := (29 : Int32)) dX7_doOne_32 (by decide) ?_
    refine sx_iload_n (i := 2) (j := 2) dX7_doOne_34 rfl rfl ?_
    refine sx_iadd dX7_doOne_35 ?_
    obtain ⟨c13, h⟩ := gd_e h
    refine sx_iald dX7_doOne_36 (X7_a0 h0) c13 ?_
    refine sx_if_ne (tgt := 43) dX7_doOne_37 rfl (fun c14 => ?_) (fun c14 => ?_)
    · have h := if_e c14 h
      refine sx_bipush (v := (-3 : Int32)) dX7_doOne_40 (by decide) ?_
      obtain rfl := Option.some.inj h
      exact sx_iret dX7_doOne_42 rfl rfl k3.1 k3.2
    · have h := if_n c14 h
      exact sx_sub [0, 1, 2] rfl (tX7_doOne_j43 h0 h k3)
set_option maxRecDepth 100000 in
set_option maxHeartbeats 4000000 in
theorem mX7_doOne {l : Launch} {E : Ev} {L : HL} {a0 : Nat} {v1 : Int32} {v2 : Int32} {z : Int32 × HL} (h0 : isX7 E a0) (h : fX7_doOne a0 v1 v2 L = some z) : Mt l E yX7_doOne cX7_doOne 4 (some .int) (3) [.ref a0, .int v1, .int v2] L (some (.int z.1)) (z.2) := by
  obtain ⟨r, hr⟩ : ∃ r : Option Value, r = some (.int z.1) := ⟨_, rfl⟩
  obtain ⟨L', hL'⟩ : ∃ L' : HL, L' = z.2 := ⟨_, rfl⟩
  have k3 : r = some (.int z.1) ∧ L' = z.2 := ⟨hr, hL'⟩
  refine mt_eq hr hL' ?_
  refine Mt.of (plainFor_of_name (by decide)) (Nat.le_of_ble_eq_true rfl) ?_
  refine sx_sub (lv' := [(0, .ref a0), (1, .int v1), (2, .int v2)]) [0, 1, 2] rfl ?_
  unfold fX7_doOne at h
  refine sx_iload_n (i := 1) (j := 1) dX7_doOne_0 rfl rfl ?_
  obtain ⟨z1, ez1, h⟩ := bd_e h
  refine sx_callS (avs := [.int v1]) (rest := []) (st1 := [.int z1]) dX7_doOne_1 (mX7_isFamily ez1) ctX7_isFamily (Or.inl wd_1077) rfl rfl (rm_m rfl) rfl (Nat.le_of_ble_eq_true rfl) rfl ?_
  refine sx_if_eq (tgt := 20) dX7_doOne_4 rfl (fun c2 => ?_) (fun c2 => ?_)
  · have h := if_e c2 h
    refine sx_bipush (v := (-2 : Int32)) dX7_doOne_20 (by decide) ?_
    obtain rfl := Option.some.inj h
    exact sx_iret dX7_doOne_22 rfl rfl k3.1 k3.2
  · have h := if_n c2 h
    refine sx_iload_n (i := 2) (j := 2) dX7_doOne_7 rfl rfl ?_
    refine sx_iconst (v := (-1 : Int32)) dX7_doOne_8 (by decide) ?_
    refine sx_icmp_eq (tgt := 23) dX7_doOne_9 rfl (fun c3 => ?_) (fun c3 => ?_)
    · have h := if_e c3 h
      exact sx_sub [0, 1, 2] rfl (tX7_doOne_j23 h0 h k3)
    · have h := if_n c3 h
      refine sx_aload_n (i := 0) (j := 0) dX7_doOne_12 rfl rfl ?_
      refine sx_iload_n (i := 2) (j := 2) dX7_doOne_13 rfl rfl ?_
      obtain ⟨z15, ez15, h⟩ := bd_e h
      refine sx_callV (avs := [.int v2]) (rest := []) (st1 := [.int z15]) dX7_doOne_14 (mX7_isHouse h0 ez15) ciX7_isHouse (Or.inl wd_1047) (X7_k h0) rfl rfl rfl rfl (rm_m rfl) rfl (Nat.le_of_ble_eq_true rfl) rfl ?_
      refine sx_if_ne (tgt := 23) dX7_doOne_17 rfl (fun c16 => ?_) (fun c16 => ?_)
      · have h := if_e c16 h
        refine sx_bipush (v := (-2 : Int32)) dX7_doOne_20 (by decide) ?_
        obtain rfl := Option.some.inj h
        exact sx_iret dX7_doOne_22 rfl rfl k3.1 k3.2
      · have h := if_n c16 h
        exact sx_sub [0, 1, 2] rfl (tX7_doOne_j23 h0 h k3)
set_option maxRecDepth 100000 in
set_option maxHeartbeats 4000000 in
theorem tX7_doFeud_j94 {l : Launch} {E : Ev} {r : Option Value} {L' L : HL} {a0 : Nat} {s1 : Int32} {s2 : Int32} {z : Int32 × HL} (h0 : isX7 E a0) (h : fX7_doFeud_j94 a0 s1 s2 L = some z) (k3 : r = some (.int z.1) ∧ L' = z.2) : Sx l E yX7_doFeud cX7_doFeud 4 (some .int) (3) r L' 94 [(0, .ref a0)] [.int s2, .int s1, .ref (a0 + 1)] L := by
  unfold fX7_doFeud_j94 at h
  obtain ⟨c13, h⟩ := gd_e h
  refine sx_iast dX7_doFeud_94 (X7_a0 h0) c13 (fun L14 eL14 => ?_)
  have h := lt_e eL14 h
  refine sx_aload_n (i := 0) (j := 0) dX7_doFeud_95 rfl rfl ?_
  refine sx_get (k := 0) (v := .ref (a0 + 1)) dX7_doFeud_96 (X7_k h0) cf_7 (Or.inl wd_956) (by decide : 0 < 20) (congrArg Value.ref (X7_r0 h0)) ?_
  refine sx_iconst (v := (3 : Int32)) dX7_doFeud_99 (by decide) ?_
  refine sx_iconst (v := (0 : Int32)) dX7_doFeud_100 (by decide) ?_
  refine sx_iast dX7_doFeud_101 (X7_a0 h0) (show vin (3 : Int32) 228 from by decide) (fun L15 eL15 => ?_)
  have h := lt_e eL15 h
  refine sx_iconst (v := (1 : Int32)) dX7_doFeud_102 (by decide) ?_
  obtain rfl := Option.some.inj h
  exact sx_iret dX7_doFeud_103 rfl rfl k3.1 k3.2
set_option maxRecDepth 100000 in
set_option maxHeartbeats 4000000 in
theorem tX7_doFeud_j72 {l : Launch} {E : Ev} {r : Option Value} {L' L : HL} {a0 : Nat} {v1 : Int32} {v2 : Int32} {v3 : Int32} {s1 : Int32} {s2 : Int32} {z : Int32 × HL} (h0 : isX7 E a0) (h : fX7_doFeud_j72 a0 v1 v2 v3 s1 s2 L = some z) (k3 : r = some (.int z.1) ∧ L' = z.2) : Sx l E yX7_doFeud cX7_doFeud 4 (some .int) (3) r L' 72 [(0, .ref a0), (1, .int v1), (2, .int v2), (3, .int v3)] [.int s2, .int s1, .ref (a0 + 1)] L := by
  unfold fX7_doFeud_j72 at h
  obtain ⟨c10, h⟩ := gd_e h
  refine sx_iast dX7_doFeud_72 (X7_a0 h0) c10 (fun L11 eL11 => ?_)
  have h := lt_e eL11 h
  refine sx_aload_n (i := 0) (j := 0) dX7_doFeud_73 rfl rfl ?_
  refine sx_get (k := 0) (v := .ref (a0 + 1)) dX7_doFeud_74 (X7_k h0) cf_7 (Or.inl wd_956) (by decide : 0 < 20) (congrArg Value.ref (X7_r0 h0)) ?_
  refine sx_bipush (v := (76 : Int32)) dX7_doFeud_77 (by decide) ?_
  refine sx_iconst (v := (4 : Int32)) dX7_doFeud_79 (by decide) ?_
  refine sx_iload_n (i := 2) (j := 2) dX7_doFeud_80 rfl rfl ?_
  refine sx_imul dX7_doFeud_81 ?_
  refine sx_iadd dX7_doFeud_82 ?_
  refine sx_iload_n (i := 1) (j := 1) dX7_doFeud_83 rfl rfl ?_
  refine sx_iadd dX7_doFeud_84 ?_
  refine sx_iload_n (i := 3) (j := 3) dX7_doFeud_85 rfl rfl ?_
  refine sx_if_eq (tgt := 93) dX7_doFeud_86 rfl (fun c12 => ?_) (fun c12 => ?_)
  · have h := if_e c12 h
    refine sx_iconst (v := (0 : Int32)) dX7_doFeud_93 (by decide) ?_
    exact sx_sub [0] rfl (tX7_doFeud_j94 h0 h k3)
  · have h := if_n c12 h
    refine sx_iconst (v := (1 : Int32)) dX7_doFeud_89 (by decide) ?_
    refine sx_goto (tgt := 94) dX7_doFeud_90 rfl ?_
    exact sx_sub [0] rfl (tX7_doFeud_j94 h0 h k3)
set_option maxRecDepth 100000 in
set_option maxHeartbeats 4000000 in
theorem tX7_doFeud_j44 {l : Launch} {E : Ev} {r : Option Value} {L' L : HL} {a0 : Nat} {v1 : Int32} {v2 : Int32} {v3 : Int32} {s0 : Int32} {z : Int32 × HL} (h0 : isX7 E a0) (h : fX7_doFeud_j44 a0 v1 v2 v3 s0 L = some z) (k3 : r = some (.int z.1) ∧ L' = z.2) : Sx l E yX7_doFeud cX7_doFeud 4 (some .int) (3) r L' 44 [(0, .ref a0), (1, .int v1), (2, .int v2), (3, .int v3)] [.int s0] L := by
  unfold fX7_doFeud_j44 at h
  refine sx_iload_n (i := 3) (j := 3) dX7_doFeud_44 rfl rfl ?_
  refine sx_icmp_ne (tgt := 51) dX7_doFeud_45 rfl (fun c8 => ?_) (fun c8 => ?_)
  · have h := if_e c8 h
    refine sx_bipush (v := (-3 : Int32)) dX7_doFeud_48 (by decide) ?_
    obtain rfl := Option.some.inj h
    exact sx_iret dX7_doFeud_50 rfl rfl k3.1 k3.2
  · have h := if_n c8 h
    refine sx_aload_n (i := 0) (j := 0) dX7_doFeud_51 rfl rfl ?_
    refine sx_get (k := 0) (v := .ref (a0 + 1)) dX7_doFeud_52 (X7_k h0) cf_7 (Or.inl wd_956) (by decide : 0 < 20) (congrArg Value.ref (X7_r0 h0)) ?_
    refine sx_bipush (v := (76 : Int32)) dX7_doFeud_55 (by decide) ?_
    refine sx_iconst (v := (4 : Int32)) dX7_doFeud_57 (by decide) ?_
    refine sx_iload_n (i := 1) (j := 1) dX7_doFeud_58 rfl rfl ?_
    refine sx_imul dX7_doFeud_59 ?_
    refine sx_iadd dX7_doFeud_60 ?_
    refine sx_iload_n (i := 2) (j := 2) dX7_doFeud_61 rfl rfl ?_
    refine sx_iadd dX7_doFeud_62 ?_
    refine sx_iload_n (i := 3) (j := 3) dX7_doFeud_63 rfl rfl ?_
    refine sx_if_eq (tgt := 71) dX7_doFeud_64 rfl (fun c9 => ?_) (fun c9 => ?_)
    · have h := if_e c9 h
      refine sx_iconst (v := (0 : Int32)) dX7_doFeud_71 (by decide) ?_
      exact sx_sub [0, 1, 2, 3] rfl (tX7_doFeud_j72 h0 h k3)
    · have h := if_n c9 h
      refine sx_iconst (v := (1 : Int32)) dX7_doFeud_67 (by decide) ?_
      refine sx_goto (tgt := 72) dX7_doFeud_68 rfl ?_
      exact sx_sub [0, 1, 2, 3] rfl (tX7_doFeud_j72 h0 h k3)
set_option maxRecDepth 100000 in
set_option maxHeartbeats 4000000 in
theorem mX7_doFeud {l : Launch} {E : Ev} {L : HL} {a0 : Nat} {v1 : Int32} {v2 : Int32} {v3 : Int32} {z : Int32 × HL} (h0 : isX7 E a0) (h : fX7_doFeud a0 v1 v2 v3 L = some z) : Mt l E yX7_doFeud cX7_doFeud 4 (some .int) (3) [.ref a0, .int v1, .int v2, .int v3] L (some (.int z.1)) (z.2) := by
  obtain ⟨r, hr⟩ : ∃ r : Option Value, r = some (.int z.1) := ⟨_, rfl⟩
  obtain ⟨L', hL'⟩ : ∃ L' : HL, L' = z.2 := ⟨_, rfl⟩
  have k3 : r = some (.int z.1) ∧ L' = z.2 := ⟨hr, hL'⟩
  refine mt_eq hr hL' ?_
  refine Mt.of (plainFor_of_name (by decide)) (Nat.le_of_ble_eq_true rfl) ?_
  refine sx_sub (lv' := [(0, .ref a0), (1, .int v1), (2, .int v2), (3, .int v3)]) [0, 1, 2, 3] rfl ?_
  unfold fX7_doFeud at h
  refine sx_iload_n (i := 1) (j := 1) dX7_doFeud_0 rfl rfl ?_
  obtain ⟨z1, ez1, h⟩ := bd_e h
  refine sx_callS (avs := [.int v1]) (rest := []) (st1 := [.int z1]) dX7_doFeud_1 (mX7_isFamily ez1) ctX7_isFamily (Or.inl wd_1077) rfl rfl (rm_m rfl) rfl (Nat.le_of_ble_eq_true rfl) rfl ?_
  refine sx_if_eq (tgt := 19) dX7_doFeud_4 rfl (fun c2 => ?_) (fun c2 => ?_)
  · have h := if_e c2 h
    refine sx_bipush (v := (-2 : Int32)) dX7_doFeud_19 (by decide) ?_
    obtain rfl := Option.some.inj h
    exact sx_iret dX7_doFeud_21 rfl rfl k3.1 k3.2
  · have h := if_n c2 h
    refine sx_iload_n (i := 2) (j := 2) dX7_doFeud_7 rfl rfl ?_
    obtain ⟨z3, ez3, h⟩ := bd_e h
    refine sx_callS (avs := [.int v2]) (rest := []) (st1 := [.int z3]) dX7_doFeud_8 (mX7_isFamily ez3) ctX7_isFamily (Or.inl wd_1077) rfl rfl (rm_m rfl) rfl (Nat.le_of_ble_eq_true rfl) rfl ?_
    refine sx_if_eq (tgt := 19) dX7_doFeud_11 rfl (fun c4 => ?_) (fun c4 => ?_)
    · have h := if_e c4 h
      refine sx_bipush (v := (-2 : Int32)) dX7_doFeud_19 (by decide) ?_
      obtain rfl := Option.some.inj h
      exact sx_iret dX7_doFeud_21 rfl rfl k3.1 k3.2
    · have h := if_n c4 h
      refine sx_iload_n (i := 1) (j := 1) dX7_doFeud_14 rfl rfl ?_
      refine sx_iload_n (i := 2) (j := 2) dX7_doFeud_15 rfl rfl ?_
      refine sx_icmp_ne (tgt := 22) dX7_doFeud_16 rfl (fun c5 => ?_) (fun c5 => ?_)
      · have h := if_e c5 h
        refine sx_bipush (v := (-2 : Int32)) dX7_doFeud_19 (by decide) ?_
        obtain rfl := Option.some.inj h
        exact sx_iret dX7_doFeud_21 rfl rfl k3.1 k3.2
      · have h := if_n c5 h
        refine sx_aload_n (i := 0) (j := 0) dX7_doFeud_22 rfl rfl ?_
        refine sx_get (k := 0) (v := .ref (a0 + 1)) dX7_doFeud_23 (X7_k h0) cf_7 (Or.inl wd_956) (by decide : 0 < 20) (congrArg Value.ref (X7_r0 h0)) ?_
        refine sx_bipush (v := (76 : Int32)) dX7_doFeud_26 (by decide) ?_
        refine sx_iconst (v := (4 : Int32)) dX7_doFeud_28 (by decide) ?_
        refine sx_iload_n (i := 1) (j := 1) dX7_doFeud_29 rfl rfl ?_
        refine sx_imul dX7_doFeud_30 ?_
        refine sx_iadd dX7_doFeud_31 ?_
        refine sx_iload_n (i := 2) (j := 2) dX7_doFeud_32 rfl rfl ?_
        refine sx_iadd dX7_doFeud_33 ?_
        obtain ⟨c6, h⟩ := gd_e h
        refine sx_iald dX7_doFeud_34 (X7_a0 h0) c6 ?_
        refine sx_iconst (v := (1 : Int32)) dX7_doFeud_35 (by decide) ?_
        refine sx_icmp_ne (tgt := 43) dX7_doFeud_36 rfl (fun c7 => ?_) (fun c7 => ?_)
        · have h := if_e c7 h
          refine sx_iconst (v := (1 : Int32)) dX7_doFeud_39 (by decide) ?_
          refine sx_goto (tgt := 44) dX7_doFeud_40 rfl ?_
          exact sx_sub [0, 1, 2, 3] rfl (tX7_doFeud_j44 h0 h k3)
        · have h := if_n c7 h
          refine sx_iconst (v := (0 : Int32)) dX7_doFeud_43 (by decide) ?_
          exact sx_sub [0, 1, 2, 3] rfl (tX7_doFeud_j44 h0 h k3)
set_option maxRecDepth 100000 in
set_option maxHeartbeats 4000000 in
theorem mX7_street {l : Launch} {E : Ev} {L : HL} {a0 : Nat} {z : Int32 × HL} (h0 : isX7 E a0) (h : fX7_street a0 L = some z) : Mt l E yX7_street cX7_street 2 (some .int) (2) [.ref a0] L (some (.int z.1)) (z.2) := by
  obtain ⟨r, hr⟩ : ∃ r : Option Value, r = some (.int z.1) := ⟨_, rfl⟩
  obtain ⟨L', hL'⟩ : ∃ L' : HL, L' = z.2 := ⟨_, rfl⟩
  have k3 : r = some (.int z.1) ∧ L' = z.2 := ⟨hr, hL'⟩
  refine mt_eq hr hL' ?_
  refine Mt.of (plainFor_of_name (by decide)) (Nat.le_of_ble_eq_true rfl) ?_
  refine sx_sub (lv' := [(0, .ref a0)]) [0] rfl ?_
  unfold fX7_street at h
  refine sx_aload_n (i := 0) (j := 0) dX7_street_0 rfl rfl ?_
  refine sx_get (k := 0) (v := .ref (a0 + 1)) dX7_street_1 (X7_k h0) cf_7 (Or.inl wd_956) (by decide : 0 < 20) (congrArg Value.ref (X7_r0 h0)) ?_
  refine sx_iconst (v := (0 : Int32)) dX7_street_4 (by decide) ?_
  refine sx_iald dX7_street_5 (X7_a0 h0) (show vin (0 : Int32) 228 from by decide) ?_
  refine sx_topi (fun w1 ew1 => ?_)
  have h := lt_e ew1 h
  refine sx_istore_n (i := 1) (lv' := [(0, .ref a0), (1, .int w1)]) dX7_street_6 rfl (by decide) rfl ?_
  refine sx_aload_n (i := 0) (j := 0) dX7_street_7 rfl rfl ?_
  obtain ⟨z2, ez2, h⟩ := bd_e h
  refine sx_callV (avs := []) (rest := []) (st1 := []) dX7_street_8 (mX7_clean h0 ez2) ciX7_clean (Or.inl wd_952) (X7_k h0) rfl rfl rfl rfl (rm_m rfl) rfl (Nat.le_of_ble_eq_true rfl) rfl ?_
  refine sx_iload_n (i := 1) (j := 1) dX7_street_11 rfl rfl ?_
  obtain rfl := Option.some.inj h
  exact sx_iret dX7_street_12 rfl rfl k3.1 k3.2
set_option maxRecDepth 100000 in
set_option maxHeartbeats 4000000 in
theorem mX7_house {l : Launch} {E : Ev} {L : HL} {a0 : Nat} {v1 : Int32} {v2 : Int32} {v3 : Int32} {z : Int32 × HL} (h0 : isX7 E a0) (h : fX7_house a0 v1 v2 v3 L = some z) : Mt l E yX7_house cX7_house 4 (some .int) (3) [.ref a0, .int v1, .int v2, .int v3] L (some (.int z.1)) (z.2) := by
  obtain ⟨r, hr⟩ : ∃ r : Option Value, r = some (.int z.1) := ⟨_, rfl⟩
  obtain ⟨L', hL'⟩ : ∃ L' : HL, L' = z.2 := ⟨_, rfl⟩
  have k3 : r = some (.int z.1) ∧ L' = z.2 := ⟨hr, hL'⟩
  refine mt_eq hr hL' ?_
  refine Mt.of (plainFor_of_name (by decide)) (Nat.le_of_ble_eq_true rfl) ?_
  refine sx_sub (lv' := [(0, .ref a0), (1, .int v1), (2, .int v2), (3, .int v3)]) [0, 1, 2, 3] rfl ?_
  unfold fX7_house at h
  refine sx_aload_n (i := 0) (j := 0) dX7_house_0 rfl rfl ?_
  refine sx_aload_n (i := 0) (j := 0) dX7_house_1 rfl rfl ?_
  refine sx_iload_n (i := 1) (j := 1) dX7_house_2 rfl rfl ?_
  refine sx_iload_n (i := 2) (j := 2) dX7_house_3 rfl rfl ?_
  refine sx_iload_n (i := 3) (j := 3) dX7_house_4 rfl rfl ?_
  obtain ⟨z1, ez1, h⟩ := bd_e h
  refine sx_callV (avs := [.int v1, .int v2, .int v3]) (rest := [.ref a0]) (st1 := [.int z1.1, .ref a0]) dX7_house_5 (mX7_doHouse h0 ez1) ciX7_doHouse (Or.inl wd_1026) (X7_k h0) rfl rfl rfl rfl (rm_m rfl) rfl (Nat.le_of_ble_eq_true rfl) rfl ?_
  obtain ⟨z2, ez2, h⟩ := bd_e h
  refine sx_callV (avs := [.int z1.1]) (rest := []) (st1 := [.int z2.1]) dX7_house_8 (mX7_tell h0 ez2) ciX7_tell (Or.inl wd_1035) (X7_k h0) rfl rfl rfl rfl (rm_m rfl) rfl (Nat.le_of_ble_eq_true rfl) rfl ?_
  obtain rfl := Option.some.inj h
  exact sx_iret dX7_house_11 rfl rfl k3.1 k3.2
set_option maxRecDepth 100000 in
set_option maxHeartbeats 4000000 in
theorem mX7_builtFrom {l : Launch} {E : Ev} {L : HL} {a0 : Nat} {v1 : Int32} {v2 : Int32} {z : Int32 × HL} (h0 : isX7 E a0) (h : fX7_builtFrom a0 v1 v2 L = some z) : Mt l E yX7_builtFrom cX7_builtFrom 3 (some .int) (4) [.ref a0, .int v1, .int v2] L (some (.int z.1)) (z.2) := by
  obtain ⟨r, hr⟩ : ∃ r : Option Value, r = some (.int z.1) := ⟨_, rfl⟩
  obtain ⟨L', hL'⟩ : ∃ L' : HL, L' = z.2 := ⟨_, rfl⟩
  have k3 : r = some (.int z.1) ∧ L' = z.2 := ⟨hr, hL'⟩
  refine mt_eq hr hL' ?_
  refine Mt.of (plainFor_of_name (by decide)) (Nat.le_of_ble_eq_true rfl) ?_
  refine sx_sub (lv' := [(0, .ref a0), (1, .int v1), (2, .int v2)]) [0, 1, 2] rfl ?_
  unfold fX7_builtFrom at h
  refine sx_aload_n (i := 0) (j := 0) dX7_builtFrom_0 rfl rfl ?_
  refine sx_aload_n (i := 0) (j := 0) dX7_builtFrom_1 rfl rfl ?_
  refine sx_iload_n (i := 1) (j := 1) dX7_builtFrom_2 rfl rfl ?_
  refine sx_iload_n (i := 2) (j := 2) dX7_builtFrom_3 rfl rfl ?_
  obtain ⟨z1, ez1, h⟩ := bd_e h
  refine sx_callV (avs := [.int v1, .int v2]) (rest := [.ref a0]) (st1 := [.int z1.1, .ref a0]) dX7_builtFrom_4 (mX7_doFrom h0 ez1) ciX7_doFrom (Or.inl wd_1043) (X7_k h0) rfl rfl rfl rfl (rm_m rfl) rfl (Nat.le_of_ble_eq_true rfl) rfl ?_
  obtain ⟨z2, ez2, h⟩ := bd_e h
  refine sx_callV (avs := [.int z1.1]) (rest := []) (st1 := [.int z2.1]) dX7_builtFrom_7 (mX7_tell h0 ez2) ciX7_tell (Or.inl wd_1035) (X7_k h0) rfl rfl rfl rfl (rm_m rfl) rfl (Nat.le_of_ble_eq_true rfl) rfl ?_
  obtain rfl := Option.some.inj h
  exact sx_iret dX7_builtFrom_10 rfl rfl k3.1 k3.2
set_option maxRecDepth 100000 in
set_option maxHeartbeats 4000000 in
theorem mX7_will {l : Launch} {E : Ev} {L : HL} {a0 : Nat} {v1 : Int32} {v2 : Int32} {z : Int32 × HL} (h0 : isX7 E a0) (h : fX7_will a0 v1 v2 L = some z) : Mt l E yX7_will cX7_will 3 (some .int) (4) [.ref a0, .int v1, .int v2] L (some (.int z.1)) (z.2) := by
  obtain ⟨r, hr⟩ : ∃ r : Option Value, r = some (.int z.1) := ⟨_, rfl⟩
  obtain ⟨L', hL'⟩ : ∃ L' : HL, L' = z.2 := ⟨_, rfl⟩
  have k3 : r = some (.int z.1) ∧ L' = z.2 := ⟨hr, hL'⟩
  refine mt_eq hr hL' ?_
  refine Mt.of (plainFor_of_name (by decide)) (Nat.le_of_ble_eq_true rfl) ?_
  refine sx_sub (lv' := [(0, .ref a0), (1, .int v1), (2, .int v2)]) [0, 1, 2] rfl ?_
  unfold fX7_will at h
  refine sx_aload_n (i := 0) (j := 0) dX7_will_0 rfl rfl ?_
  refine sx_aload_n (i := 0) (j := 0) dX7_will_1 rfl rfl ?_
  refine sx_iload_n (i := 1) (j := 1) dX7_will_2 rfl rfl ?_
  refine sx_iload_n (i := 2) (j := 2) dX7_will_3 rfl rfl ?_
  obtain ⟨z1, ez1, h⟩ := bd_e h
  refine sx_callV (avs := [.int v1, .int v2]) (rest := [.ref a0]) (st1 := [.int z1.1, .ref a0]) dX7_will_4 (mX7_doWill h0 ez1) ciX7_doWill (Or.inl wd_1056) (X7_k h0) rfl rfl rfl rfl (rm_m rfl) rfl (Nat.le_of_ble_eq_true rfl) rfl ?_
  obtain ⟨z2, ez2, h⟩ := bd_e h
  refine sx_callV (avs := [.int z1.1]) (rest := []) (st1 := [.int z2.1]) dX7_will_7 (mX7_tell h0 ez2) ciX7_tell (Or.inl wd_1035) (X7_k h0) rfl rfl rfl rfl (rm_m rfl) rfl (Nat.le_of_ble_eq_true rfl) rfl ?_
  obtain rfl := Option.some.inj h
  exact sx_iret dX7_will_10 rfl rfl k3.1 k3.2
set_option maxRecDepth 100000 in
set_option maxHeartbeats 4000000 in
theorem mX7_wall {l : Launch} {E : Ev} {L : HL} {a0 : Nat} {v1 : Int32} {v2 : Int32} {v3 : Int32} {z : Int32 × HL} (h0 : isX7 E a0) (h : fX7_wall a0 v1 v2 v3 L = some z) : Mt l E yX7_wall cX7_wall 4 (some .int) (4) [.ref a0, .int v1, .int v2, .int v3] L (some (.int z.1)) (z.2) := by
  obtain ⟨r, hr⟩ : ∃ r : Option Value, r = some (.int z.1) := ⟨_, rfl⟩
  obtain ⟨L', hL'⟩ : ∃ L' : HL, L' = z.2 := ⟨_, rfl⟩
  have k3 : r = some (.int z.1) ∧ L' = z.2 := ⟨hr, hL'⟩
  refine mt_eq hr hL' ?_
  refine Mt.of (plainFor_of_name (by decide)) (Nat.le_of_ble_eq_true rfl) ?_
  refine sx_sub (lv' := [(0, .ref a0), (1, .int v1), (2, .int v2), (3, .int v3)]) [0, 1, 2, 3] rfl ?_
  unfold fX7_wall at h
  refine sx_aload_n (i := 0) (j := 0) dX7_wall_0 rfl rfl ?_
  refine sx_aload_n (i := 0) (j := 0) dX7_wall_1 rfl rfl ?_
  refine sx_iload_n (i := 1) (j := 1) dX7_wall_2 rfl rfl ?_
  refine sx_iload_n (i := 2) (j := 2) dX7_wall_3 rfl rfl ?_
  refine sx_iload_n (i := 3) (j := 3) dX7_wall_4 rfl rfl ?_
  obtain ⟨z1, ez1, h⟩ := bd_e h
  refine sx_callV (avs := [.int v1, .int v2, .int v3]) (rest := [.ref a0]) (st1 := [.int z1.1, .ref a0]) dX7_wall_5 (mX7_doWall h0 ez1) ciX7_doWall (Or.inl wd_1065) (X7_k h0) rfl rfl rfl rfl (rm_m rfl) rfl (Nat.le_of_ble_eq_true rfl) rfl ?_
  obtain ⟨z2, ez2, h⟩ := bd_e h
  refine sx_callV (avs := [.int z1.1]) (rest := []) (st1 := [.int z2.1]) dX7_wall_8 (mX7_tell h0 ez2) ciX7_tell (Or.inl wd_1035) (X7_k h0) rfl rfl rfl rfl (rm_m rfl) rfl (Nat.le_of_ble_eq_true rfl) rfl ?_
  obtain rfl := Option.some.inj h
  exact sx_iret dX7_wall_11 rfl rfl k3.1 k3.2
set_option maxRecDepth 100000 in
set_option maxHeartbeats 4000000 in
theorem mX7_one {l : Launch} {E : Ev} {L : HL} {a0 : Nat} {v1 : Int32} {v2 : Int32} {z : Int32 × HL} (h0 : isX7 E a0) (h : fX7_one a0 v1 v2 L = some z) : Mt l E yX7_one cX7_one 3 (some .int) (4) [.ref a0, .int v1, .int v2] L (some (.int z.1)) (z.2) := by
  obtain ⟨r, hr⟩ : ∃ r : Option Value, r = some (.int z.1) := ⟨_, rfl⟩
  obtain ⟨L', hL'⟩ : ∃ L' : HL, L' = z.2 := ⟨_, rfl⟩
  have k3 : r = some (.int z.1) ∧ L' = z.2 := ⟨hr, hL'⟩
  refine mt_eq hr hL' ?_
  refine Mt.of (plainFor_of_name (by decide)) (Nat.le_of_ble_eq_true rfl) ?_
  refine sx_sub (lv' := [(0, .ref a0), (1, .int v1), (2, .int v2)]) [0, 1, 2] rfl ?_
  unfold fX7_one at h
  refine sx_aload_n (i := 0) (j := 0) dX7_one_0 rfl rfl ?_
  refine sx_aload_n (i := 0) (j := 0) dX7_one_1 rfl rfl ?_
  refine sx_iload_n (i := 1) (j := 1) dX7_one_2 rfl rfl ?_
  refine sx_iload_n (i := 2) (j := 2) dX7_one_3 rfl rfl ?_
  obtain ⟨z1, ez1, h⟩ := bd_e h
  refine sx_callV (avs := [.int v1, .int v2]) (rest := [.ref a0]) (st1 := [.int z1.1, .ref a0]) dX7_one_4 (mX7_doOne h0 ez1) ciX7_doOne (Or.inl wd_1073) (X7_k h0) rfl rfl rfl rfl (rm_m rfl) rfl (Nat.le_of_ble_eq_true rfl) rfl ?_
  obtain ⟨z2, ez2, h⟩ := bd_e h
  refine sx_callV (avs := [.int z1.1]) (rest := []) (st1 := [.int z2.1]) dX7_one_7 (mX7_tell h0 ez2) ciX7_tell (Or.inl wd_1035) (X7_k h0) rfl rfl rfl rfl (rm_m rfl) rfl (Nat.le_of_ble_eq_true rfl) rfl ?_
  obtain rfl := Option.some.inj h
  exact sx_iret dX7_one_10 rfl rfl k3.1 k3.2
set_option maxRecDepth 100000 in
set_option maxHeartbeats 4000000 in
theorem mX7_feud {l : Launch} {E : Ev} {L : HL} {a0 : Nat} {v1 : Int32} {v2 : Int32} {v3 : Int32} {z : Int32 × HL} (h0 : isX7 E a0) (h : fX7_feud a0 v1 v2 v3 L = some z) : Mt l E yX7_feud cX7_feud 4 (some .int) (4) [.ref a0, .int v1, .int v2, .int v3] L (some (.int z.1)) (z.2) := by
  obtain ⟨r, hr⟩ : ∃ r : Option Value, r = some (.int z.1) := ⟨_, rfl⟩
  obtain ⟨L', hL'⟩ : ∃ L' : HL, L' = z.2 := ⟨_, rfl⟩
  have k3 : r = some (.int z.1) ∧ L' = z.2 := ⟨hr, hL'⟩
  refine mt_eq hr hL' ?_
  refine Mt.of (plainFor_of_name (by decide)) (Nat.le_of_ble_eq_true rfl) ?_
  refine sx_sub (lv' := [(0, .ref a0), (1, .int v1), (2, .int v2), (3, .int v3)]) [0, 1, 2, 3] rfl ?_
  unfold fX7_feud at h
  refine sx_aload_n (i := 0) (j := 0) dX7_feud_0 rfl rfl ?_
  refine sx_aload_n (i := 0) (j := 0) dX7_feud_1 rfl rfl ?_
  refine sx_iload_n (i := 1) (j := 1) dX7_feud_2 rfl rfl ?_
  refine sx_iload_n (i := 2) (j := 2) dX7_feud_3 rfl rfl ?_
  refine sx_iload_n (i := 3) (j := 3) dX7_feud_4 rfl rfl ?_
  obtain ⟨z1, ez1, h⟩ := bd_e h
  refine sx_callV (avs := [.int v1, .int v2, .int v3]) (rest := [.ref a0]) (st1 := [.int z1.1, .ref a0]) dX7_feud_5 (mX7_doFeud h0 ez1) ciX7_doFeud (Or.inl wd_1085) (X7_k h0) rfl rfl rfl rfl (rm_m rfl) rfl (Nat.le_of_ble_eq_true rfl) rfl ?_
  obtain ⟨z2, ez2, h⟩ := bd_e h
  refine sx_callV (avs := [.int z1.1]) (rest := []) (st1 := [.int z2.1]) dX7_feud_8 (mX7_tell h0 ez2) ciX7_tell (Or.inl wd_1035) (X7_k h0) rfl rfl rfl rfl (rm_m rfl) rfl (Nat.le_of_ble_eq_true rfl) rfl ?_
  obtain rfl := Option.some.inj h
  exact sx_iret dX7_feud_11 rfl rfl k3.1 k3.2
set_option maxRecDepth 100000 in
set_option maxHeartbeats 4000000 in
theorem tX7_mark_j20 {l : Launch} {E : Ev} {r : Option Value} {L' L : HL} {a0 : Nat} {z : Int32 × HL} (h0 : isX7 E a0) (h : fX7_mark_j20 a0 L = some z) (k3 : r = some (.int z.1) ∧ L' = z.2) : Sx l E yX7_mark cX7_mark 4 (some .int) (3) r L' 20 [(0, .ref a0)] [] L := by
  unfold fX7_mark_j20 at h
  refine sx_aload_n (i := 0) (j := 0) dX7_mark_20 rfl rfl ?_
  refine sx_bipush (v := (-2 : Int32)) dX7_mark_21 (by decide) ?_
  obtain ⟨z3, ez3, h⟩ := bd_e h
  refine sx_callV (avs := [.int (-2 : Int32)]) (rest := []) (st1 := [.int z3.1]) dX7_mark_23 (mX7_bad h0 ez3) ciX7_bad (Or.inl wd_1094) (X7_k h0) rfl rfl rfl rfl (rm_m rfl) rfl (Nat.le_of_ble_eq_true rfl) rfl ?_
  obtain rfl := Option.some.inj h
  exact sx_iret dX7_mark_26 rfl rfl k3.1 k3.2
set_option maxRecDepth 100000 in
set_option maxHeartbeats 4000000 in
theorem mX7_mark {l : Launch} {E : Ev} {L : HL} {a0 : Nat} {v1 : Int32} {v2 : Int32} {z : Int32 × HL} (h0 : isX7 E a0) (h : fX7_mark a0 v1 v2 L = some z) : Mt l E yX7_mark cX7_mark 4 (some .int) (3) [.ref a0, .int v1, .int v2] L (some (.int z.1)) (z.2) := by
  obtain ⟨r, hr⟩ : ∃ r : Option Value, r = some (.int z.1) := ⟨_, rfl⟩
  obtain ⟨L', hL'⟩ : ∃ L' : HL, L' = z.2 := ⟨_, rfl⟩
  have k3 : r = some (.int z.1) ∧ L' = z.2 := ⟨hr, hL'⟩
  refine mt_eq hr hL' ?_
  refine Mt.of (plainFor_of_name (by decide)) (Nat.le_of_ble_eq_true rfl) ?_
  refine sx_sub (lv' := [(0, .ref a0), (1, .int v1), (2, .int v2)]) [0, 1, 2] rfl ?_
  unfold fX7_mark at h
  refine sx_aload_n (i := 0) (j := 0) dX7_mark_0 rfl rfl ?_
  refine sx_iload_n (i := 1) (j := 1) dX7_mark_1 rfl rfl ?_
  obtain ⟨z1, ez1, h⟩ := bd_e h
  refine sx_callV (avs := [.int v1]) (rest := []) (st1 := [.int z1]) dX7_mark_2 (mX7_isHouse h0 ez1) ciX7_isHouse (Or.inl wd_1047) (X7_k h0) rfl rfl rfl rfl (rm_m rfl) rfl (Nat.le_of_ble_eq_true rfl) rfl ?_
  refine sx_if_eq (tgt := 20) dX7_mark_5 rfl (fun c2 => ?_) (fun c2 => ?_)
  · have h := if_e c2 h
    exact sx_sub [0] rfl (tX7_mark_j20 h0 h k3)
  · have h := if_n c2 h
    refine sx_iload_n (i := 2) (j := 2) dX7_mark_8 rfl rfl ?_
    refine sx_i2l dX7_mark_9 ?_
    refine sx_lconst (v := (0 : Int64)) dX7_mark_10 (by decide) ?_
    refine sx_ldc2 (v := (255 : Int64)) dX7_mark_11 wd_1093 ?_
    obtain ⟨z4, ez4, h⟩ := bd_e h
    refine sx_callS (avs := [.long v2.toInt64, .long (0 : Int64), .long (255 : Int64)]) (rest := []) (st1 := [.int z4]) dX7_mark_14 (mX7_in ez4) ctX7_in (Or.inl wd_1031) rfl rfl (rm_m rfl) rfl (Nat.le_of_ble_eq_true rfl) rfl ?_
    refine sx_if_ne (tgt := 27) dX7_mark_17 rfl (fun c5 => ?_) (fun c5 => ?_)
    · have h := if_e c5 h
      exact sx_sub [0] rfl (tX7_mark_j20 h0 h k3)
    · have h := if_n c5 h
      refine sx_aload_n (i := 0) (j := 0) dX7_mark_27 rfl rfl ?_
      refine sx_get (k := 0) (v := .ref (a0 + 1)) dX7_mark_28 (X7_k h0) cf_7 (Or.inl wd_956) (by decide : 0 < 20) (congrArg Value.ref (X7_r0 h0)) ?_
      refine sx_bipush (v := (34 : Int32)) dX7_mark_31 (by decide) ?_
      refine sx_iload_n (i := 1) (j := 1) dX7_mark_33 rfl rfl ?_
      refine sx_iadd dX7_mark_34 ?_
      obtain ⟨c6, h⟩ := gd_e h
      refine sx_iald dX7_mark_35 (X7_a0 h0) c6 ?_
      refine sx_topi (fun w7 ew7 => ?_)
      have h := lt_e ew7 h
      refine sx_istore_n (i := 3) (lv' := [(0, .ref a0), (1, .int v1), (2, .int v2), (3, .int w7)]) dX7_mark_36 rfl (by decide) rfl ?_
      refine sx_aload_n (i := 0) (j := 0) dX7_mark_37 rfl rfl ?_
      refine sx_get (k := 0) (v := .ref (a0 + 1)) dX7_mark_38 (X7_k h0) cf_7 (Or.inl wd_956) (by decide : 0 < 20) (congrArg Value.ref (X7_r0 h0)) ?_
      refine sx_bipush (v := (34 : Int32)) dX7_mark_41 (by decide) ?_
      refine sx_iload_n (i := 1) (j := 1) dX7_mark_43 rfl rfl ?_
      refine sx_iadd dX7_mark_44 ?_
      refine sx_iload_n (i := 2) (j := 2) dX7_mark_45 rfl rfl ?_
      obtain ⟨c8, h⟩ := gd_e h
      refine sx_iast dX7_mark_46 (X7_a0 h0) c8 (fun L9 eL9 => ?_)
      have h := lt_e eL9 h
      refine sx_aload_n (i := 0) (j := 0) dX7_mark_47 rfl rfl ?_
      refine sx_get (k := 0) (v := .ref (a0 + 1)) dX7_mark_48 (X7_k h0) cf_7 (Or.inl wd_956) (by decide : 0 < 20) (congrArg Value.ref (X7_r0 h0)) ?_
      refine sx_iconst (v := (3 : Int32)) dX7_mark_51 (by decide) ?_
      refine sx_iconst (v := (0 : Int32)) dX7_mark_52 (by decide) ?_
      refine sx_iast dX7_mark_53 (X7_a0 h0) (show vin (3 : Int32) 228 from by decide) (fun L10 eL10 => ?_)
      have h := lt_e eL10 h
      refine sx_iload_n (i := 3) (j := 3) dX7_mark_54 rfl rfl ?_
      obtain rfl := Option.some.inj h
      exact sx_iret dX7_mark_55 rfl rfl k3.1 k3.2
set_option maxRecDepth 100000 in
set_option maxHeartbeats 4000000 in
theorem mX7_type {l : Launch} {E : Ev} {L : HL} {a0 : Nat} {v1 : Int32} {z : Int32 × HL} (h0 : isX7 E a0) (h : fX7_type a0 v1 L = some z) : Mt l E yX7_type cX7_type 2 (some .int) (2) [.ref a0, .int v1] L (some (.int z.1)) (z.2) := by
  obtain ⟨r, hr⟩ : ∃ r : Option Value, r = some (.int z.1) := ⟨_, rfl⟩
  obtain ⟨L', hL'⟩ : ∃ L' : HL, L' = z.2 := ⟨_, rfl⟩
  have k3 : r = some (.int z.1) ∧ L' = z.2 := ⟨hr, hL'⟩
  refine mt_eq hr hL' ?_
  refine Mt.of (plainFor_of_name (by decide)) (Nat.le_of_ble_eq_true rfl) ?_
  refine sx_sub (lv' := [(0, .ref a0), (1, .int v1)]) [0, 1] rfl ?_
  unfold fX7_type at h
  refine sx_iload_n (i := 1) (j := 1) dX7_type_0 rfl rfl ?_
  refine sx_i2l dX7_type_1 ?_
  refine sx_lconst (v := (0 : Int64)) dX7_type_2 (by decide) ?_
  refine sx_ldc2 (v := (127 : Int64)) dX7_type_3 wd_1102 ?_
  obtain ⟨z1, ez1, h⟩ := bd_e h
  refine sx_callS (avs := [.long v1.toInt64, .long (0 : Int64), .long (127 : Int64)]) (rest := []) (st1 := [.int z1]) dX7_type_6 (mX7_in ez1) ctX7_in (Or.inl wd_1031) rfl rfl (rm_m rfl) rfl (Nat.le_of_ble_eq_true rfl) rfl ?_
  refine sx_if_ne (tgt := 19) dX7_type_9 rfl (fun c2 => ?_) (fun c2 => ?_)
  · have h := if_e c2 h
    refine sx_aload_n (i := 0) (j := 0) dX7_type_12 rfl rfl ?_
    refine sx_bipush (v := (-2 : Int32)) dX7_type_13 (by decide) ?_
    obtain ⟨z3, ez3, h⟩ := bd_e h
    refine sx_callV (avs := [.int (-2 : Int32)]) (rest := []) (st1 := [.int z3.1]) dX7_type_15 (mX7_bad h0 ez3) ciX7_bad (Or.inl wd_1094) (X7_k h0) rfl rfl rfl rfl (rm_m rfl) rfl (Nat.le_of_ble_eq_true rfl) rfl ?_
    obtain rfl := Option.some.inj h
    exact sx_iret dX7_type_18 rfl rfl k3.1 k3.2
  · have h := if_n c2 h
    refine sx_aload_n (i := 0) (j := 0) dX7_type_19 rfl rfl ?_
    refine sx_get (k := 4) (v := .int (L.1 a0 4)) dX7_type_20 (X7_k h0) cf_7 (Or.inl wd_960) (by decide : 4 < 20) rfl ?_
    refine sx_sipush (v := (150 : Int32)) dX7_type_23 (by decide) ?_
    refine sx_icmp_ne (tgt := 36) dX7_type_26 rfl (fun c4 => ?_) (fun c4 => ?_)
    · have h := if_e c4 h
      refine sx_aload_n (i := 0) (j := 0) dX7_type_29 rfl rfl ?_
      refine sx_bipush (v := (-4 : Int32)) dX7_type_30 (by decide) ?_
      obtain ⟨z5, ez5, h⟩ := bd_e h
      refine sx_callV (avs := [.int (-4 : Int32)]) (rest := []) (st1 := [.int z5.1]) dX7_type_32 (mX7_tell h0 ez5) ciX7_tell (Or.inl wd_1035) (X7_k h0) rfl rfl rfl rfl (rm_m rfl) rfl (Nat.le_of_ble_eq_true rfl) rfl ?_
      obtain rfl := Option.some.inj h
      exact sx_iret dX7_type_35 rfl rfl k3.1 k3.2
    · have h := if_n c4 h
      refine sx_aload_n (i := 0) (j := 0) dX7_type_36 rfl rfl ?_
      refine sx_get (k := 3) (v := .ref (a0 + 4)) dX7_type_37 (X7_k h0) cf_7 (Or.inl wd_959) (by decide : 3 < 20) (congrArg Value.ref (X7_r3 h0)) ?_
      refine sx_aload_n (i := 0) (j := 0) dX7_type_40 rfl rfl ?_
      refine sx_get (k := 4) (v := .int (L.1 a0 4)) dX7_type_41 (X7_k h0) cf_7 (Or.inl wd_960) (by decide : 4 < 20) rfl ?_
      refine sx_iload_n (i := 1) (j := 1) dX7_type_44 rfl rfl ?_
      obtain ⟨c6, h⟩ := gd_e h
      refine sx_iast dX7_type_45 (X7_a3 h0) c6 (fun L7 eL7 => ?_)
      have h := lt_e eL7 h
      refine sx_aload_n (i := 0) (j := 0) dX7_type_46 rfl rfl ?_
      refine sx_dup dX7_type_47 rfl ?_
      refine sx_get (k := 4) (v := .int (L7.1 a0 4)) dX7_type_48 (X7_k h0) cf_7 (Or.inl wd_960) (by decide : 4 < 20) rfl ?_
      refine sx_iconst (v := (1 : Int32)) dX7_type_51 (by decide) ?_
      refine sx_iadd dX7_type_52 ?_
      refine sx_putI (k := 4) dX7_type_53 (X7_k h0) cf_7 (Or.inl wd_960) (by decide : 4 < 20) rfl rfl rfl rfl (fun L8 eL8 => ?_)
      have h := lt_e eL8 h
      refine sx_aload_n (i := 0) (j := 0) dX7_type_56 rfl rfl ?_
      refine sx_get (k := 4) (v := .int (L8.1 a0 4)) dX7_type_57 (X7_k h0) cf_7 (Or.inl wd_960) (by decide : 4 < 20) rfl ?_
      obtain rfl := Option.some.inj h
      exact sx_iret dX7_type_60 rfl rfl k3.1 k3.2
set_option maxRecDepth 100000 in
set_option maxHeartbeats 4000000 in
theorem mX7_clear {l : Launch} {E : Ev} {L : HL} {a0 : Nat} {z : Int32 × HL} (h0 : isX7 E a0) (h : fX7_clear a0 L = some z) : Mt l E yX7_clear cX7_clear 2 (some .int) (1) [.ref a0] L (some (.int z.1)) (z.2) := by
  obtain ⟨r, hr⟩ : ∃ r : Option Value, r = some (.int z.1) := ⟨_, rfl⟩
  obtain ⟨L', hL'⟩ : ∃ L' : HL, L' = z.2 := ⟨_, rfl⟩
  have k3 : r = some (.int z.1) ∧ L' = z.2 := ⟨hr, hL'⟩
  refine mt_eq hr hL' ?_
  refine Mt.of (plainFor_of_name (by decide)) (Nat.le_of_ble_eq_true rfl) ?_
  refine sx_sub (lv' := [(0, .ref a0)]) [0] rfl ?_
  unfold fX7_clear at h
  refine sx_aload_n (i := 0) (j := 0) dX7_clear_0 rfl rfl ?_
  refine sx_get (k := 4) (v := .int (L.1 a0 4)) dX7_clear_1 (X7_k h0) cf_7 (Or.inl wd_960) (by decide : 4 < 20) rfl ?_
  refine sx_topi (fun w1 ew1 => ?_)
  have h := lt_e ew1 h
  refine sx_istore_n (i := 1) (lv' := [(0, .ref a0), (1, .int w1)]) dX7_clear_4 rfl (by decide) rfl ?_
  refine sx_aload_n (i := 0) (j := 0) dX7_clear_5 rfl rfl ?_
  refine sx_iconst (v := (0 : Int32)) dX7_clear_6 (by decide) ?_
  refine sx_putI (k := 4) dX7_clear_7 (X7_k h0) cf_7 (Or.inl wd_960) (by decide : 4 < 20) rfl rfl rfl rfl (fun L2 eL2 => ?_)
  have h := lt_e eL2 h
  refine sx_iload_n (i := 1) (j := 1) dX7_clear_10 rfl rfl ?_
  obtain rfl := Option.some.inj h
  exact sx_iret dX7_clear_11 rfl rfl k3.1 k3.2
set_option maxRecDepth 100000 in
set_option maxHeartbeats 4000000 in
theorem tX7_next_b0 {l : Launch} {E : Ev} {r : Option Value} {L' L : HL} {a0 : Nat} {z : Tn (HL) (HL)} (h0 : isX7 E a0) (h : fX7_next_b0 a0 L = some z) (k1 : ∀ s, z = .inl s → Sx l E yX7_next cX7_next 2 (none) (2) r L' 0 [(0, .ref a0)] [] s) (k2 : ∀ s, z = .inr (.inl s) → Sx l E yX7_next cX7_next 2 (none) (2) r L' 38 [(0, .ref a0)] [] s) (k3 : ∀ v, z = .inr (.inr v) → r = none ∧ L' = v) : Sx l E yX7_next cX7_next 2 (none) (2) r L' 0 [(0, .ref a0)] [] L := by
  unfold fX7_next_b0 at h
  refine sx_aload_n (i := 0) (j := 0) dX7_next_0 rfl rfl ?_
  refine sx_get (k := 8) (v := .int (L.1 a0 8)) dX7_next_1 (X7_k h0) cf_7 (Or.inl wd_964) (by decide : 8 < 20) rfl ?_
  refine sx_aload_n (i := 0) (j := 0) dX7_next_4 rfl rfl ?_
  refine sx_get (k := 4) (v := .int (L.1 a0 4)) dX7_next_5 (X7_k h0) cf_7 (Or.inl wd_960) (by decide : 4 < 20) rfl ?_
  refine sx_icmp_ge (tgt := 38) dX7_next_8 rfl (fun c1 => ?_) (fun c1 => ?_)
  · have h := if_e c1 h
    obtain rfl := Option.some.inj h
    exact sx_sub [0] rfl (k2 _ rfl)
  · have h := if_n c1 h
    refine sx_aload_n (i := 0) (j := 0) dX7_next_11 rfl rfl ?_
    refine sx_get (k := 3) (v := .ref (a0 + 4)) dX7_next_12 (X7_k h0) cf_7 (Or.inl wd_959) (by decide : 3 < 20) (congrArg Value.ref (X7_r3 h0)) ?_
    refine sx_aload_n (i := 0) (j := 0) dX7_next_15 rfl rfl ?_
    refine sx_get (k := 8) (v := .int (L.1 a0 8)) dX7_next_16 (X7_k h0) cf_7 (Or.inl wd_964) (by decide : 8 < 20) rfl ?_
    obtain ⟨c2, h⟩ := gd_e h
    refine sx_iald dX7_next_19 (X7_a3 h0) c2 ?_
    refine sx_bipush (v := (32 : Int32)) dX7_next_20 (by decide) ?_
    refine sx_icmp_ne (tgt := 38) dX7_next_22 rfl (fun c3 => ?_) (fun c3 => ?_)
    · have h := if_e c3 h
      refine sx_aload_n (i := 0) (j := 0) dX7_next_25 rfl rfl ?_
      refine sx_dup dX7_next_26 rfl ?_
      refine sx_get (k := 8) (v := .int (L.1 a0 8)) dX7_next_27 (X7_k h0) cf_7 (Or.inl wd_964) (by decide : 8 < 20) rfl ?_
      refine sx_iconst (v := (1 : Int32)) dX7_next_30 (by decide) ?_
      refine sx_iadd dX7_next_31 ?_
      refine sx_putI (k := 8) dX7_next_32 (X7_k h0) cf_7 (Or.inl wd_964) (by decide : 8 < 20) rfl rfl rfl rfl (fun L4 eL4 => ?_)
      have h := lt_e eL4 h
      refine sx_goto (tgt := 0) dX7_next_35 rfl ?_
      obtain rfl := Option.some.inj h
      exact sx_sub [0] rfl (k1 _ rfl)
    · have h := if_n c3 h
      obtain rfl := Option.some.inj h
      exact sx_sub [0] rfl (k2 _ rfl)
set_option maxRecDepth 100000 in
set_option maxHeartbeats 4000000 in
theorem tX7_next_j243 {l : Launch} {E : Ev} {r : Option Value} {L' L : HL} {a0 : Nat} {s1 : Int64} {z : Tn (HL) (HL)} (h0 : isX7 E a0) (h : fX7_next_j243 a0 s1 L = some z) (k1 : ∀ s, z = .inl s → Sx l E yX7_next cX7_next 2 (none) (2) r L' 162 [(0, .ref a0)] [] s) (k2 : ∀ s, z = .inr (.inl s) → Sx l E yX7_next cX7_next 2 (none) (2) r L' 259 [(0, .ref a0)] [] s) (k3 : ∀ v, z = .inr (.inr v) → r = none ∧ L' = v) : Sx l E yX7_next cX7_next 2 (none) (2) r L' 243 [(0, .ref a0)] [.long s1, .ref a0] L := by
  unfold fX7_next_j243 at h
  refine sx_putJ (k := 12) dX7_next_243 (X7_k h0) cf_7 (Or.inl wd_968) (by decide : 12 < 20) rfl rfl rfl rfl (fun L25 eL25 => ?_)
  have h := lt_e eL25 h
  refine sx_aload_n (i := 0) (j := 0) dX7_next_246 rfl rfl ?_
  refine sx_dup dX7_next_247 rfl ?_
  refine sx_get (k := 8) (v := .int (L25.1 a0 8)) dX7_next_248 (X7_k h0) cf_7 (Or.inl wd_964) (by decide : 8 < 20) rfl ?_
  refine sx_iconst (v := (1 : Int32)) dX7_next_251 (by decide) ?_
  refine sx_iadd dX7_next_252 ?_
  refine sx_putI (k := 8) dX7_next_253 (X7_k h0) cf_7 (Or.inl wd_964) (by decide : 8 < 20) rfl rfl rfl rfl (fun L26 eL26 => ?_)
  have h := lt_e eL26 h
  refine sx_goto (tgt := 162) dX7_next_256 rfl ?_
  obtain rfl := Option.some.inj h
  exact sx_sub [0] rfl (k1 _ rfl)
set_option maxRecDepth 100000 in
set_option maxHeartbeats 4000000 in
theorem tX7_next_b162 {l : Launch} {E : Ev} {r : Option Value} {L' L : HL} {a0 : Nat} {z : Tn (HL) (HL)} (h0 : isX7 E a0) (h : fX7_next_b162 a0 L = some z) (k1 : ∀ s, z = .inl s → Sx l E yX7_next cX7_next 2 (none) (2) r L' 162 [(0, .ref a0)] [] s) (k2 : ∀ s, z = .inr (.inl s) → Sx l E yX7_next cX7_next 2 (none) (2) r L' 259 [(0, .ref a0)] [] s) (k3 : ∀ v, z = .inr (.inr v) → r = none ∧ L' = v) : Sx l E yX7_next cX7_next 2 (none) (2) r L' 162 [(0, .ref a0)] [] L := by
  unfold fX7_next_b162 at h
  refine sx_aload_n (i := 0) (j := 0) dX7_next_162 rfl rfl ?_
  refine sx_get (k := 10) (v := .int (L.1 a0 10)) dX7_next_163 (X7_k h0) cf_7 (Or.inl wd_966) (by decide : 10 < 20) rfl ?_
  refine sx_iconst (v := (1 : Int32)) dX7_next_166 (by decide) ?_
  refine sx_icmp_ne (tgt := 259) dX7_next_167 rfl (fun c19 => ?_) (fun c19 => ?_)
  · have h := if_e c19 h
    refine sx_aload_n (i := 0) (j := 0) dX7_next_170 rfl rfl ?_
    refine sx_get (k := 8) (v := .int (L.1 a0 8)) dX7_next_171 (X7_k h0) cf_7 (Or.inl wd_964) (by decide : 8 < 20) rfl ?_
    refine sx_aload_n (i := 0) (j := 0) dX7_next_174 rfl rfl ?_
    refine sx_get (k := 4) (v := .int (L.1 a0 4)) dX7_next_175 (X7_k h0) cf_7 (Or.inl wd_960) (by decide : 4 < 20) rfl ?_
    refine sx_icmp_ge (tgt := 259) dX7_next_178 rfl (fun c20 => ?_) (fun c20 => ?_)
    · have h := if_e c20 h
      obtain rfl := Option.some.inj h
      exact sx_sub [0] rfl (k2 _ rfl)
    · have h := if_n c20 h
      refine sx_aload_n (i := 0) (j := 0) dX7_next_181 rfl rfl ?_
      refine sx_get (k := 3) (v := .ref (a0 + 4)) dX7_next_182 (X7_k h0) cf_7 (Or.inl wd_959) (by decide : 3 < 20) (congrArg Value.ref (X7_r3 h0)) ?_
      refine sx_aload_n (i := 0) (j := 0) dX7_next_185 rfl rfl ?_
      refine sx_get (k := 8) (v := .int (L.1 a0 8)) dX7_next_186 (X7_k h0) cf_7 (Or.inl wd_964) (by decide : 8 < 20) rfl ?_
      obtain ⟨c21, h⟩ := gd_e h
      refine sx_iald dX7_next_189 (X7_a3 h0) c21 ?_
      refine sx_i2l dX7_next_190 ?_
      refine sx_ldc2 (v := (97 : Int64)) dX7_next_191 wd_1119 ?_
      refine sx_ldc2 (v := (122 : Int64)) dX7_next_194 wd_1120 ?_
      obtain ⟨z22, ez22, h⟩ := bd_e h
      refine sx_callS (avs := [.long (L.1 (a0 + 4) (L.1 a0 8).toNatClampNeg).toInt64, .long (97 : Int64), .long (122 : Int64)]) (rest := []) (st1 := [.int z22]) dX7_next_197 (mX7_in ez22) ctX7_in (Or.inl wd_1031) rfl rfl (rm_m rfl) rfl (Nat.le_of_ble_eq_true rfl) rfl ?_
      refine sx_if_eq (tgt := 259) dX7_next_200 rfl (fun c23 => ?_) (fun c23 => ?_)
      · have h := if_e c23 h
        obtain rfl := Option.some.inj h
        exact sx_sub [0] rfl (k2 _ rfl)
      · have h := if_n c23 h
        refine sx_aload_n (i := 0) (j := 0) dX7_next_203 rfl rfl ?_
        refine sx_aload_n (i := 0) (j := 0) dX7_next_204 rfl rfl ?_
        refine sx_get (k := 8) (v := .int (L.1 a0 8)) dX7_next_205 (X7_k h0) cf_7 (Or.inl wd_964) (by decide : 8 < 20) rfl ?_
        refine sx_aload_n (i := 0) (j := 0) dX7_next_208 rfl rfl ?_
        refine sx_get (k := 9) (v := .int (L.1 a0 9)) dX7_next_209 (X7_k h0) cf_7 (Or.inl wd_965) (by decide : 9 < 20) rfl ?_
        refine sx_isub dX7_next_212 ?_
        refine sx_bipush (v := (7 : Int32)) dX7_next_213 (by decide) ?_
        refine sx_icmp_ge (tgt := 240) dX7_next_215 rfl (fun c24 => ?_) (fun c24 => ?_)
        · have h := if_e c24 h
          refine sx_ldc2 (v := (-1 : Int64)) dX7_next_240 wd_1051 ?_
          exact sx_sub [0] rfl (tX7_next_j243 h0 h k1 k2 k3)
        · have h := if_n c24 h
          refine sx_aload_n (i := 0) (j := 0) dX7_next_218 rfl rfl ?_
          refine sx_get (k := 12) (v := .long (L.2 a0 12)) dX7_next_219 (X7_k h0) cf_7 (Or.inl wd_968) (by decide : 12 < 20) rfl ?_
          refine sx_ldc2 (v := (256 : Int64)) dX7_next_222 wd_1123 ?_
          refine sx_lmul dX7_next_225 ?_
          refine sx_aload_n (i := 0) (j := 0) dX7_next_226 rfl rfl ?_
          refine sx_get (k := 3) (v := .ref (a0 + 4)) dX7_next_227 (X7_k h0) cf_7 (Or.inl wd_959) (by decide : 3 < 20) (congrArg Value.ref (X7_r3 h0)) ?_
          refine sx_aload_n (i := 0) (j := 0) dX7_next_230 rfl rfl ?_
          refine sx_get (k := 8) (v := .int (L.1 a0 8)) dX7_next_231 (X7_k h0) cf_7 (Or.inl wd_964) (by decide : 8 < 20) rfl ?_
          obtain ⟨c27, h⟩ := gd_e h
          refine sx_iald dX7_next_234 (X7_a3 h0) c27 ?_
          refine sx_i2l dX7_next_235 ?_
          refine sx_ladd dX7_next_236 ?_
          refine sx_goto (tgt := 243) dX7_next_237 rfl ?_
          exact sx_sub [0] rfl (tX7_next_j243 h0 h k1 k2 k3)
  · have h := if_n c19 h
    obtain rfl := Option.some.inj h
    exact sx_sub [0] rfl (k2 _ rfl)
set_option maxRecDepth 100000 in
set_option maxHeartbeats 4000000 in
theorem tX7_next_j341 {l : Launch} {E : Ev} {r : Option Value} {L' L : HL} {a0 : Nat} {s1 : Int32} {z : Tn (HL) (HL)} (h0 : isX7 E a0) (h : fX7_next_j341 a0 s1 L = some z) (k1 : ∀ s, z = .inl s → Sx l E yX7_next cX7_next 2 (none) (2) r L' 259 [(0, .ref a0)] [] s) (k2 : ∀ s, z = .inr (.inl s) → Sx l E yX7_next cX7_next 2 (none) (2) r L' 357 [(0, .ref a0)] [] s) (k3 : ∀ v, z = .inr (.inr v) → r = none ∧ L' = v) : Sx l E yX7_next cX7_next 2 (none) (2) r L' 341 [(0, .ref a0)] [.int s1, .ref a0] L := by
  unfold fX7_next_j341 at h
  refine sx_putI (k := 11) dX7_next_341 (X7_k h0) cf_7 (Or.inl wd_967) (by decide : 11 < 20) rfl rfl rfl rfl (fun L35 eL35 => ?_)
  have h := lt_e eL35 h
  refine sx_aload_n (i := 0) (j := 0) dX7_next_344 rfl rfl ?_
  refine sx_dup dX7_next_345 rfl ?_
  refine sx_get (k := 8) (v := .int (L35.1 a0 8)) dX7_next_346 (X7_k h0) cf_7 (Or.inl wd_964) (by decide : 8 < 20) rfl ?_
  refine sx_iconst (v := (1 : Int32)) dX7_next_349 (by decide) ?_
  refine sx_iadd dX7_next_350 ?_
  refine sx_putI (k := 8) dX7_next_351 (X7_k h0) cf_7 (Or.inl wd_964) (by decide : 8 < 20) rfl rfl rfl rfl (fun L36 eL36 => ?_)
  have h := lt_e eL36 h
  refine sx_goto (tgt := 259) dX7_next_354 rfl ?_
  obtain rfl := Option.some.inj h
  exact sx_sub [0] rfl (k1 _ rfl)
set_option maxRecDepth 100000 in
set_option maxHeartbeats 4000000 in
theorem tX7_next_b259 {l : Launch} {E : Ev} {r : Option Value} {L' L : HL} {a0 : Nat} {z : Tn (HL) (HL)} (h0 : isX7 E a0) (h : fX7_next_b259 a0 L = some z) (k1 : ∀ s, z = .inl s → Sx l E yX7_next cX7_next 2 (none) (2) r L' 259 [(0, .ref a0)] [] s) (k2 : ∀ s, z = .inr (.inl s) → Sx l E yX7_next cX7_next 2 (none) (2) r L' 357 [(0, .ref a0)] [] s) (k3 : ∀ v, z = .inr (.inr v) → r = none ∧ L' = v) : Sx l E yX7_next cX7_next 2 (none) (2) r L' 259 [(0, .ref a0)] [] L := by
  unfold fX7_next_b259 at h
  refine sx_aload_n (i := 0) (j := 0) dX7_next_259 rfl rfl ?_
  refine sx_get (k := 10) (v := .int (L.1 a0 10)) dX7_next_260 (X7_k h0) cf_7 (Or.inl wd_966) (by decide : 10 < 20) rfl ?_
  refine sx_iconst (v := (2 : Int32)) dX7_next_263 (by decide) ?_
  refine sx_icmp_ne (tgt := 357) dX7_next_264 rfl (fun c29 => ?_) (fun c29 => ?_)
  · have h := if_e c29 h
    refine sx_aload_n (i := 0) (j := 0) dX7_next_267 rfl rfl ?_
    refine sx_get (k := 8) (v := .int (L.1 a0 8)) dX7_next_268 (X7_k h0) cf_7 (Or.inl wd_964) (by decide : 8 < 20) rfl ?_
    refine sx_aload_n (i := 0) (j := 0) dX7_next_271 rfl rfl ?_
    refine sx_get (k := 4) (v := .int (L.1 a0 4)) dX7_next_272 (X7_k h0) cf_7 (Or.inl wd_960) (by decide : 4 < 20) rfl ?_
    refine sx_icmp_ge (tgt := 357) dX7_next_275 rfl (fun c30 => ?_) (fun c30 => ?_)
    · have h := if_e c30 h
      obtain rfl := Option.some.inj h
      exact sx_sub [0] rfl (k2 _ rfl)
    · have h := if_n c30 h
      refine sx_aload_n (i := 0) (j := 0) dX7_next_278 rfl rfl ?_
      refine sx_get (k := 3) (v := .ref (a0 + 4)) dX7_next_279 (X7_k h0) cf_7 (Or.inl wd_959) (by decide : 3 < 20) (congrArg Value.ref (X7_r3 h0)) ?_
      refine sx_aload_n (i := 0) (j := 0) dX7_next_282 rfl rfl ?_
      refine sx_get (k := 8) (v := .int (L.1 a0 8)) dX7_next_283 (X7_k h0) cf_7 (Or.inl wd_964) (by decide : 8 < 20) rfl ?_
      obtain ⟨c31, h⟩ := gd_e h
      refine sx_iald dX7_next_286 (X7_a3 h0) c31 ?_
      refine sx_i2l dX7_next_287 ?_
      refine sx_ldc2 (v := (48 : Int64)) dX7_next_288 wd_1121 ?_
      refine sx_ldc2 (v := (57 : Int64)) dX7_next_291 wd_1122 ?_
      obtain ⟨z32, ez32, h⟩ := bd_e h
      refine sx_callS (avs := [.long (L.1 (a0 + 4) (L.1 a0 8).toNatClampNeg).toInt64, .long (48 : Int64), .long (57 : Int64)]) (rest := []) (st1 := [.int z32]) dX7_next_294 (mX7_in ez32) ctX7_in (Or.inl wd_1031) rfl rfl (rm_m rfl) rfl (Nat.le_of_ble_eq_true rfl) rfl ?_
      refine sx_if_eq (tgt := 357) dX7_next_297 rfl (fun c33 => ?_) (fun c33 => ?_)
      · have h := if_e c33 h
        obtain rfl := Option.some.inj h
        exact sx_sub [0] rfl (k2 _ rfl)
      · have h := if_n c33 h
        refine sx_aload_n (i := 0) (j := 0) dX7_next_300 rfl rfl ?_
        refine sx_aload_n (i := 0) (j := 0) dX7_next_301 rfl rfl ?_
        refine sx_get (k := 8) (v := .int (L.1 a0 8)) dX7_next_302 (X7_k h0) cf_7 (Or.inl wd_964) (by decide : 8 < 20) rfl ?_
        refine sx_aload_n (i := 0) (j := 0) dX7_next_305 rfl rfl ?_
        refine sx_get (k := 9) (v := .int (L.1 a0 9)) dX7_next_306 (X7_k h0) cf_7 (Or.inl wd_965) (by decide : 9 < 20) rfl ?_
        refine sx_isub dX7_next_309 ?_
        refine sx_iconst (v := (2 : Int32)) dX7_next_310 (by decide) ?_
        refine sx_icmp_ge (tgt := 337) dX7_next_311 rfl (fun c34 => ?_) (fun c34 => ?_)
        · have h := if_e c34 h
          refine sx_aload_n (i := 0) (j := 0) dX7_next_337 rfl rfl ?_
          refine sx_get (k := 11) (v := .int (L.1 a0 11)) dX7_next_338 (X7_k h0) cf_7 (Or.inl wd_967) (by decide : 11 < 20) rfl ?_
          exact sx_sub [0] rfl (tX7_next_j341 h0 h k1 k2 k3)
        · have h := if_n c34 h
          refine sx_bipush (v := (10 : Int32)) dX7_next_314 (by decide) ?_
          refine sx_aload_n (i := 0) (j := 0) dX7_next_316 rfl rfl ?_
          refine sx_get (k := 11) (v := .int (L.1 a0 11)) dX7_next_317 (X7_k h0) cf_7 (Or.inl wd_967) (by decide : 11 < 20) rfl ?_
          refine sx_imul dX7_next_320 ?_
          refine sx_aload_n (i := 0) (j := 0) dX7_next_321 rfl rfl ?_
          refine sx_get (k := 3) (v := .ref (a0 + 4)) dX7_next_322 (X7_k h0) cf_7 (Or.inl wd_959) (by decide : 3 < 20) (congrArg Value.ref (X7_r3 h0)) ?_
          refine sx_aload_n (i := 0) (j := 0) dX7_next_325 rfl rfl ?_
          refine sx_get (k := 8) (v := .int (L.1 a0 8)) dX7_next_326 (X7_k h0) cf_7 (Or.inl wd_964) (by decide : 8 < 20) rfl ?_
          obtain ⟨c37, h⟩ := gd_e h
          refine sx_iald dX7_next_329 (X7_a3 h0) c37 ?_
          refine sx_iadd dX7_next_330 ?_
          refine sx_bipush (v := (48 : Int32)) dX7_next_331 (by decide) ?_
          refine sx_isub dX7_next_333 ?_
          refine sx_goto (tgt := 341) dX7_next_334 rfl ?_
          exact sx_sub [0] rfl (tX7_next_j341 h0 h k1 k2 k3)
  · have h := if_n c29 h
    obtain rfl := Option.some.inj h
    exact sx_sub [0] rfl (k2 _ rfl)
set_option maxRecDepth 100000 in
set_option maxHeartbeats 4000000 in
theorem tX7_next_j387 {l : Launch} {E : Ev} {r : Option Value} {L' L : HL} {a0 : Nat} {s1 : Int32} {z : HL} (h0 : isX7 E a0) (h : fX7_next_j387 a0 s1 L = some z) (k3 : r = none ∧ L' = z) : Sx l E yX7_next cX7_next 2 (none) (2) r L' 387 [] [.int s1, .ref a0] L := by
  unfold fX7_next_j387 at h
  refine sx_putI (k := 10) dX7_next_387 (X7_k h0) cf_7 (Or.inl wd_966) (by decide : 10 < 20) rfl rfl rfl rfl (fun L41 eL41 => ?_)
  have h := lt_e eL41 h
  obtain rfl := Option.some.inj h
  exact sx_vret dX7_next_390 rfl k3.1 k3.2
set_option maxRecDepth 100000 in
set_option maxHeartbeats 4000000 in
theorem tX7_next_j383 {l : Launch} {E : Ev} {r : Option Value} {L' L : HL} {a0 : Nat} {z : HL} (h0 : isX7 E a0) (h : fX7_next_j383 a0 L = some z) (k3 : r = none ∧ L' = z) : Sx l E yX7_next cX7_next 2 (none) (2) r L' 383 [(0, .ref a0)] [.ref a0] L := by
  unfold fX7_next_j383 at h
  refine sx_aload_n (i := 0) (j := 0) dX7_next_383 rfl rfl ?_
  refine sx_get (k := 10) (v := .int (L.1 a0 10)) dX7_next_384 (X7_k h0) cf_7 (Or.inl wd_966) (by decide : 10 < 20) rfl ?_
  exact sx_sub [] rfl (tX7_next_j387 h0 h k3)
set_option maxRecDepth 100000 in
set_option maxHeartbeats 4000000 in
theorem tX7_next_j158 {l : Launch} {E : Ev} {r : Option Value} {L' L : HL} {a0 : Nat} {s1 : Int32} {s2 : Int32} {z : HL} (h0 : isX7 E a0) (h : fX7_next_j158 a0 s1 s2 L = some z) (k3 : r = none ∧ L' = z) : Sx l E yX7_next cX7_next 2 (none) (2) r L' 158 [(0, .ref a0)] [.int s2, .int s1, .ref a0] L := by
  unfold fX7_next_j158 at h
  refine sx_iadd dX7_next_158 ?_
  refine sx_putI (k := 8) dX7_next_159 (X7_k h0) cf_7 (Or.inl wd_964) (by decide : 8 < 20) rfl rfl rfl rfl (fun L18 eL18 => ?_)
  have h := lt_e eL18 h
  obtain ⟨x43, hx, q1, q2⟩ := lx_e h
  refine sx_sub (lv' := [(0, .ref a0)]) [0] rfl ?_
  refine lp_go (fun s28 => Sx l E yX7_next cX7_next 2 (none) (2) r L' 162 [(0, .ref a0)] [] s28) x43 (fun s28 z2 hz c1 c2 => ?_) FU _ hx
  refine tX7_next_b162 h0 hz (fun s2 e => c1 s2 e) (fun s28 e => ?_) (fun v e => ?_)
  · have h := q1 _ (c2 _ e).symm
    obtain ⟨x42, hx, q1, q2⟩ := lx_e h
    refine sx_sub (lv' := [(0, .ref a0)]) [0] rfl ?_
    refine lp_go (fun s38 => Sx l E yX7_next cX7_next 2 (none) (2) r L' 259 [(0, .ref a0)] [] s38) x42 (fun s38 z2 hz c1 c2 => ?_) FU _ hx
    refine tX7_next_b259 h0 hz (fun s2 e => c1 s2 e) (fun s38 e => ?_) (fun v e => ?_)
    · have h := q1 _ (c2 _ e).symm
      refine sx_aload_n (i := 0) (j := 0) dX7_next_357 rfl rfl ?_
      refine sx_aload_n (i := 0) (j := 0) dX7_next_358 rfl rfl ?_
      refine sx_get (k := 10) (v := .int (s38.1 a0 10)) dX7_next_359 (X7_k h0) cf_7 (Or.inl wd_966) (by decide : 10 < 20) rfl ?_
      refine sx_iconst (v := (2 : Int32)) dX7_next_362 (by decide) ?_
      refine sx_icmp_ne (tgt := 383) dX7_next_363 rfl (fun c39 => ?_) (fun c39 => ?_)
      · have h := if_e c39 h
        refine sx_aload_n (i := 0) (j := 0) dX7_next_366 rfl rfl ?_
        refine sx_get (k := 8) (v := .int (s38.1 a0 8)) dX7_next_367 (X7_k h0) cf_7 (Or.inl wd_964) (by decide : 8 < 20) rfl ?_
        refine sx_aload_n (i := 0) (j := 0) dX7_next_370 rfl rfl ?_
        refine sx_get (k := 9) (v := .int (s38.1 a0 9)) dX7_next_371 (X7_k h0) cf_7 (Or.inl wd_965) (by decide : 9 < 20) rfl ?_
        refine sx_isub dX7_next_374 ?_
        refine sx_iconst (v := (2 : Int32)) dX7_next_375 (by decide) ?_
        refine sx_icmp_le (tgt := 383) dX7_next_376 rfl (fun c40 => ?_) (fun c40 => ?_)
        · have h := if_e c40 h
          exact sx_sub [0] rfl (tX7_next_j383 h0 h k3)
        · have h := if_n c40 h
          refine sx_iconst (v := (4 : Int32)) dX7_next_379 (by decide) ?_
          refine sx_goto (tgt := 387) dX7_next_380 rfl ?_
          exact sx_sub [] rfl (tX7_next_j387 h0 h k3)
      · have h := if_n c39 h
        exact sx_sub [0] rfl (tX7_next_j383 h0 h k3)
    · have e2 := Option.some.inj (q2 _ (c2 _ e).symm)
      subst e2
      exact k3
  · have e2 := Option.some.inj (q2 _ (c2 _ e).symm)
    subst e2
    exact k3
set_option maxRecDepth 100000 in
set_option maxHeartbeats 4000000 in
theorem tX7_next_j127 {l : Launch} {E : Ev} {r : Option Value} {L' L : HL} {a0 : Nat} {s1 : Int32} {z : HL} (h0 : isX7 E a0) (h : fX7_next_j127 a0 s1 L = some z) (k3 : r = none ∧ L' = z) : Sx l E yX7_next cX7_next 2 (none) (2) r L' 127 [(0, .ref a0)] [.int s1, .ref a0] L := by
  unfold fX7_next_j127 at h
  refine sx_putI (k := 10) dX7_next_127 (X7_k h0) cf_7 (Or.inl wd_966) (by decide : 10 < 20) rfl rfl rfl rfl (fun L14 eL14 => ?_)
  have h := lt_e eL14 h
  refine sx_aload_n (i := 0) (j := 0) dX7_next_130 rfl rfl ?_
  refine sx_iconst (v := (0 : Int32)) dX7_next_131 (by decide) ?_
  refine sx_putI (k := 11) dX7_next_132 (X7_k h0) cf_7 (Or.inl wd_967) (by decide : 11 < 20) rfl rfl rfl rfl (fun L15 eL15 => ?_)
  have h := lt_e eL15 h
  refine sx_aload_n (i := 0) (j := 0) dX7_next_135 rfl rfl ?_
  refine sx_lconst (v := (0 : Int64)) dX7_next_136 (by decide) ?_
  refine sx_putJ (k := 12) dX7_next_137 (X7_k h0) cf_7 (Or.inl wd_968) (by decide : 12 < 20) rfl rfl rfl rfl (fun L16 eL16 => ?_)
  have h := lt_e eL16 h
  refine sx_aload_n (i := 0) (j := 0) dX7_next_140 rfl rfl ?_
  refine sx_dup dX7_next_141 rfl ?_
  refine sx_get (k := 8) (v := .int (L16.1 a0 8)) dX7_next_142 (X7_k h0) cf_7 (Or.inl wd_964) (by decide : 8 < 20) rfl ?_
  refine sx_aload_n (i := 0) (j := 0) dX7_next_145 rfl rfl ?_
  refine sx_get (k := 10) (v := .int (L16.1 a0 10)) dX7_next_146 (X7_k h0) cf_7 (Or.inl wd_966) (by decide : 10 < 20) rfl ?_
  refine sx_iconst (v := (2 : Int32)) dX7_next_149 (by decide) ?_
  refine sx_icmp_le (tgt := 157) dX7_next_150 rfl (fun c17 => ?_) (fun c17 => ?_)
  · have h := if_e c17 h
    refine sx_iconst (v := (0 : Int32)) dX7_next_157 (by decide) ?_
    exact sx_sub [0] rfl (tX7_next_j158 h0 h k3)
  · have h := if_n c17 h
    refine sx_iconst (v := (1 : Int32)) dX7_next_153 (by decide) ?_
    refine sx_goto (tgt := 158) dX7_next_154 rfl ?_
    exact sx_sub [0] rfl (tX7_next_j158 h0 h k3)
set_option maxRecDepth 100000 in
set_option maxHeartbeats 4000000 in
theorem tX7_next_j70 {l : Launch} {E : Ev} {r : Option Value} {L' L : HL} {a0 : Nat} {s0 : Int32} {z : HL} (h0 : isX7 E a0) (h : fX7_next_j70 a0 s0 L = some z) (k3 : r = none ∧ L' = z) : Sx l E yX7_next cX7_next 2 (none) (2) r L' 70 [(0, .ref a0)] [.int s0] L := by
  unfold fX7_next_j70 at h
  refine sx_istore_n (i := 1) (lv' := [(0, .ref a0), (1, .int s0)]) dX7_next_70 rfl (by decide) rfl ?_
  refine sx_aload_n (i := 0) (j := 0) dX7_next_71 rfl rfl ?_
  refine sx_iload_n (i := 1) (j := 1) dX7_next_72 rfl rfl ?_
  refine sx_if_ge (tgt := 80) dX7_next_73 rfl (fun c8 => ?_) (fun c8 => ?_)
  · have h := if_e c8 h
    refine sx_iload_n (i := 1) (j := 1) dX7_next_80 rfl rfl ?_
    refine sx_i2l dX7_next_81 ?_
    refine sx_ldc2 (v := (97 : Int64)) dX7_next_82 wd_1119 ?_
    refine sx_ldc2 (v := (122 : Int64)) dX7_next_85 wd_1120 ?_
    obtain ⟨z9, ez9, h⟩ := bd_e h
    refine sx_callS (avs := [.long s0.toInt64, .long (97 : Int64), .long (122 : Int64)]) (rest := [.ref a0]) (st1 := [.int z9, .ref a0]) dX7_next_88 (mX7_in ez9) ctX7_in (Or.inl wd_1031) rfl rfl (rm_m rfl) rfl (Nat.le_of_ble_eq_true rfl) rfl ?_
    refine sx_if_eq (tgt := 98) dX7_next_91 rfl (fun c10 => ?_) (fun c10 => ?_)
    · have h := if_e c10 h
      refine sx_iload_n (i := 1) (j := 1) dX7_next_98 rfl rfl ?_
      refine sx_i2l dX7_next_99 ?_
      refine sx_ldc2 (v := (48 : Int64)) dX7_next_100 wd_1121 ?_
      refine sx_ldc2 (v := (57 : Int64)) dX7_next_103 wd_1122 ?_
      obtain ⟨z11, ez11, h⟩ := bd_e h
      refine sx_callS (avs := [.long s0.toInt64, .long (48 : Int64), .long (57 : Int64)]) (rest := [.ref a0]) (st1 := [.int z11, .ref a0]) dX7_next_106 (mX7_in ez11) ctX7_in (Or.inl wd_1031) rfl rfl (rm_m rfl) rfl (Nat.le_of_ble_eq_true rfl) rfl ?_
      refine sx_if_eq (tgt := 116) dX7_next_109 rfl (fun c12 => ?_) (fun c12 => ?_)
      · have h := if_e c12 h
        refine sx_iload_n (i := 1) (j := 1) dX7_next_116 rfl rfl ?_
        refine sx_bipush (v := (59 : Int32)) dX7_next_117 (by decide) ?_
        refine sx_icmp_ne (tgt := 126) dX7_next_119 rfl (fun c13 => ?_) (fun c13 => ?_)
        · have h := if_e c13 h
          refine sx_iconst (v := (3 : Int32)) dX7_next_122 (by decide) ?_
          refine sx_goto (tgt := 127) dX7_next_123 rfl ?_
          exact sx_sub [0] rfl (tX7_next_j127 h0 h k3)
        · have h := if_n c13 h
          refine sx_iconst (v := (4 : Int32)) dX7_next_126 (by decide) ?_
          exact sx_sub [0] rfl (tX7_next_j127 h0 h k3)
      · have h := if_n c12 h
        refine sx_iconst (v := (2 : Int32)) dX7_next_112 (by decide) ?_
        refine sx_goto (tgt := 127) dX7_next_113 rfl ?_
        exact sx_sub [0] rfl (tX7_next_j127 h0 h k3)
    · have h := if_n c10 h
      refine sx_iconst (v := (1 : Int32)) dX7_next_94 (by decide) ?_
      refine sx_goto (tgt := 127) dX7_next_95 rfl ?_
      exact sx_sub [0] rfl (tX7_next_j127 h0 h k3)
  · have h := if_n c8 h
    refine sx_iconst (v := (0 : Int32)) dX7_next_76 (by decide) ?_
    refine sx_goto (tgt := 127) dX7_next_77 rfl ?_
    exact sx_sub [0] rfl (tX7_next_j127 h0 h k3)
set_option maxRecDepth 100000 in
set_option maxHeartbeats 4000000 in
theorem mX7_next {l : Launch} {E : Ev} {L : HL} {a0 : Nat} {z : HL} (h0 : isX7 E a0) (h : fX7_next a0 L = some z) : Mt l E yX7_next cX7_next 2 (none) (2) [.ref a0] L (none) z := by
  obtain ⟨r, hr⟩ : ∃ r : Option Value, r = none := ⟨_, rfl⟩
  obtain ⟨L', hL'⟩ : ∃ L' : HL, L' = z := ⟨_, rfl⟩
  have k3 : r = none ∧ L' = z := ⟨hr, hL'⟩
  refine mt_eq hr hL' ?_
  refine Mt.of (plainFor_of_name (by decide)) (Nat.le_of_ble_eq_true rfl) ?_
  refine sx_sub (lv' := [(0, .ref a0)]) [0] rfl ?_
  unfold fX7_next at h
  obtain ⟨x45, hx, q1, q2⟩ := lx_e h
  refine sx_sub (lv' := [(0, .ref a0)]) [0] rfl ?_
  refine lp_go (fun s5 => Sx l E yX7_next cX7_next 2 (none) (2) r L' 0 [(0, .ref a0)] [] s5) x45 (fun s5 z2 hz c1 c2 => ?_) FU _ hx
  refine tX7_next_b0 h0 hz (fun s2 e => c1 s2 e) (fun s5 e => ?_) (fun v e => ?_)
  · have h := q1 _ (c2 _ e).symm
    refine sx_aload_n (i := 0) (j := 0) dX7_next_38 rfl rfl ?_
    refine sx_aload_n (i := 0) (j := 0) dX7_next_39 rfl rfl ?_
    refine sx_get (k := 8) (v := .int (s5.1 a0 8)) dX7_next_40 (X7_k h0) cf_7 (Or.inl wd_964) (by decide : 8 < 20) rfl ?_
    refine sx_putI (k := 9) dX7_next_43 (X7_k h0) cf_7 (Or.inl wd_965) (by decide : 9 < 20) rfl rfl rfl rfl (fun L6 eL6 => ?_)
    have h := lt_e eL6 h
    refine sx_aload_n (i := 0) (j := 0) dX7_next_46 rfl rfl ?_
    refine sx_get (k := 8) (v := .int (L6.1 a0 8)) dX7_next_47 (X7_k h0) cf_7 (Or.inl wd_964) (by decide : 8 < 20) rfl ?_
    refine sx_aload_n (i := 0) (j := 0) dX7_next_50 rfl rfl ?_
    refine sx_get (k := 4) (v := .int (L6.1 a0 4)) dX7_next_51 (X7_k h0) cf_7 (Or.inl wd_960) (by decide : 4 < 20) rfl ?_
    refine sx_icmp_ge (tgt := 69) dX7_next_54 rfl (fun c7 => ?_) (fun c7 => ?_)
    · have h := if_e c7 h
      refine sx_iconst (v := (-1 : Int32)) dX7_next_69 (by decide) ?_
      exact sx_sub [0] rfl (tX7_next_j70 h0 h k3)
    · have h := if_n c7 h
      refine sx_aload_n (i := 0) (j := 0) dX7_next_57 rfl rfl ?_
      refine sx_get (k := 3) (v := .ref (a0 + 4)) dX7_next_58 (X7_k h0) cf_7 (Or.inl wd_959) (by decide : 3 < 20) (congrArg Value.ref (X7_r3 h0)) ?_
      refine sx_aload_n (i := 0) (j := 0) dX7_next_61 rfl rfl ?_
      refine sx_get (k := 8) (v := .int (L6.1 a0 8)) dX7_next_62 (X7_k h0) cf_7 (Or.inl wd_964) (by decide : 8 < 20) rfl ?_
      obtain ⟨c44, h⟩ := gd_e h
      refine sx_iald dX7_next_65 (X7_a3 h0) c44 ?_
      refine sx_goto (tgt := 70) dX7_next_66 rfl ?_
      exact sx_sub [0] rfl (tX7_next_j70 h0 h k3)
  · have e2 := Option.some.inj (q2 _ (c2 _ e).symm)
    subst e2
    exact k3
set_option maxRecDepth 100000 in
set_option maxHeartbeats 4000000 in
theorem mX7_itemOf {l : Launch} {E : Ev} {L : HL} {v0 : Int64} {z : Int32} (h : fX7_itemOf v0 = some z) : Mt l E yX7_itemOf cX7_itemOf 2 (some .int) (1) [.long v0] L (some (.int z)) L := by
  obtain ⟨r, hr⟩ : ∃ r : Option Value, r = some (.int z) := ⟨_, rfl⟩
  obtain ⟨L', hL'⟩ : ∃ L' : HL, L' = L := ⟨_, rfl⟩
  have k3 : r = some (.int z) ∧ L' = L := ⟨hr, hL'⟩
  refine mt_eq hr hL' ?_
  refine Mt.of (plainFor_of_name (by decide)) (Nat.le_of_ble_eq_true rfl) ?_
  refine sx_sub (lv' := [(0, .long v0)]) [0] rfl ?_
  unfold fX7_itemOf at h
  refine sx_lload_n (i := 0) (j := 0) dX7_itemOf_0 rfl rfl ?_
  refine sx_ldc2 (v := (126943972648308 : Int64)) dX7_itemOf_1 wd_1127 ?_
  refine sx_lcmp dX7_itemOf_4 ?_
  refine sx_if_ne (tgt := 10) dX7_itemOf_5 rfl (fun c1 => ?_) (fun c1 => ?_)
  · have h := if_e c1 h
    refine sx_iconst (v := (0 : Int32)) dX7_itemOf_8 (by decide) ?_
    obtain rfl := Option.some.inj h
    exact sx_iret dX7_itemOf_9 rfl rfl k3.1 k3.2
  · have h := if_n c1 h
    refine sx_lload_n (i := 0) (j := 0) dX7_itemOf_10 rfl rfl ?_
    refine sx_ldc2 (v := (448546567013 : Int64)) dX7_itemOf_11 wd_1128 ?_
    refine sx_lcmp dX7_itemOf_14 ?_
    refine sx_if_ne (tgt := 21) dX7_itemOf_15 rfl (fun c2 => ?_) (fun c2 => ?_)
    · have h := if_e c2 h
      refine sx_bipush (v := (13 : Int32)) dX7_itemOf_18 (by decide) ?_
      obtain rfl := Option.some.inj h
      exact sx_iret dX7_itemOf_20 rfl rfl k3.1 k3.2
    · have h := if_n c2 h
      refine sx_lload_n (i := 0) (j := 0) dX7_itemOf_21 rfl rfl ?_
      refine sx_ldc2 (v := (1718775661 : Int64)) dX7_itemOf_22 wd_1129 ?_
      refine sx_lcmp dX7_itemOf_25 ?_
      refine sx_if_ne (tgt := 32) dX7_itemOf_26 rfl (fun c3 => ?_) (fun c3 => ?_)
      · have h := if_e c3 h
        refine sx_bipush (v := (22 : Int32)) dX7_itemOf_29 (by decide) ?_
        obtain rfl := Option.some.inj h
        exact sx_iret dX7_itemOf_31 rfl rfl k3.1 k3.2
      · have h := if_n c3 h
        refine sx_lload_n (i := 0) (j := 0) dX7_itemOf_32 rfl rfl ?_
        refine sx_ldc2 (v := (2003397740 : Int64)) dX7_itemOf_33 wd_1130 ?_
        refine sx_lcmp dX7_itemOf_36 ?_
        refine sx_if_ne (tgt := 43) dX7_itemOf_37 rfl (fun c4 => ?_) (fun c4 => ?_)
        · have h := if_e c4 h
          refine sx_bipush (v := (32 : Int32)) dX7_itemOf_40 (by decide) ?_
          obtain rfl := Option.some.inj h
          exact sx_iret dX7_itemOf_42 rfl rfl k3.1 k3.2
        · have h := if_n c4 h
          refine sx_lload_n (i := 0) (j := 0) dX7_itemOf_43 rfl rfl ?_
          refine sx_ldc2 (v := (2002873452 : Int64)) dX7_itemOf_44 wd_1131 ?_
          refine sx_lcmp dX7_itemOf_47 ?_
          refine sx_if_ne (tgt := 54) dX7_itemOf_48 rfl (fun c5 => ?_) (fun c5 => ?_)
          · have h := if_e c5 h
            refine sx_bipush (v := (42 : Int32)) dX7_itemOf_51 (by decide) ?_
            obtain rfl := Option.some.inj h
            exact sx_iret dX7_itemOf_53 rfl rfl k3.1 k3.2
          · have h := if_n c5 h
            refine sx_lload_n (i := 0) (j := 0) dX7_itemOf_54 rfl rfl ?_
            refine sx_ldc2 (v := (7302757 : Int64)) dX7_itemOf_55 wd_1132 ?_
            refine sx_lcmp dX7_itemOf_58 ?_
            refine sx_if_ne (tgt := 65) dX7_itemOf_59 rfl (fun c6 => ?_) (fun c6 => ?_)
            · have h := if_e c6 h
              refine sx_bipush (v := (52 : Int32)) dX7_itemOf_62 (by decide) ?_
              obtain rfl := Option.some.inj h
              exact sx_iret dX7_itemOf_64 rfl rfl k3.1 k3.2
            · have h := if_n c6 h
              refine sx_lload_n (i := 0) (j := 0) dX7_itemOf_65 rfl rfl ?_
              refine sx_ldc2 (v := (1717925220 : Int64)) dX7_itemOf_66 wd_1133 ?_
              refine sx_lcmp dX7_itemOf_69 ?_
              refine sx_if_ne (tgt := 78) dX7_itemOf_70 rfl (fun c7 => ?_) (fun c7 => ?_)
              · have h := if_e c7 h
                refine sx_bipush (v := (62 : Int32)) dX7_itemOf_73 (by decide) ?_
                refine sx_goto (tgt := 79) dX7_itemOf_75 rfl ?_
                obtain rfl := Option.some.inj h
                exact sx_iret dX7_itemOf_79 rfl rfl k3.1 k3.2
              · have h := if_n c7 h
                refine sx_iconst (v := (-1 : Int32)) dX7_itemOf_78 (by decide) ?_
                obtain rfl := Option.some.inj h
                exact sx_iret dX7_itemOf_79 rfl rfl k3.1 k3.2
set_option maxRecDepth 100000 in
set_option maxHeartbeats 4000000 in
theorem tX7_reads_b98 {l : Launch} {E : Ev} {r : Option Value} {L' L : HL} {a0 : Nat} {v1 : Int32} {v2 : Int32} {z : Tn (Int32 × HL) (Int32 × HL)} (h0 : isX7 E a0) (h : fX7_reads_b98 a0 v1 v2 L = some z) (k1 : ∀ s, z = .inl s → Sx l E yX7_reads cX7_reads 3 (some .int) (3) r L' 98 [(0, .ref a0), (1, .int v1), (2, .int s.1)] [] s.2) (k2 : ∀ s, z = .inr (.inl s) → Sx l E yX7_reads cX7_reads 3 (some .int) (3) r L' 148 [(0, .ref a0)] [] s.2) (k3 : ∀ v, z = .inr (.inr v) → r = some (.int v.1) ∧ L' = v.2) : Sx l E yX7_reads cX7_reads 3 (some .int) (3) r L' 98 [(0, .ref a0), (1, .int v1), (2, .int v2)] [] L := by
  unfold fX7_reads_b98 at h
  refine sx_iload_n (i := 2) (j := 2) dX7_reads_98 rfl rfl ?_
  refine sx_iload_n (i := 1) (j := 1) dX7_reads_99 rfl rfl ?_
  refine sx_bipush (v := (10 : Int32)) dX7_reads_100 (by decide) ?_
  refine sx_irem dX7_reads_102 (by decide) ?_
  refine sx_icmp_ge (tgt := 148) dX7_reads_103 rfl (fun c14 => ?_) (fun c14 => ?_)
  · have h := if_e c14 h
    obtain rfl := Option.some.inj h
    exact sx_sub [0] rfl (k2 _ rfl)
  · have h := if_n c14 h
    refine sx_aload_n (i := 0) (j := 0) dX7_reads_106 rfl rfl ?_
    obtain ⟨z15, ez15, h⟩ := bd_e h
    refine sx_callV (avs := []) (rest := []) (st1 := []) dX7_reads_107 (mX7_next h0 ez15) ciX7_next (Or.inl wd_1115) (X7_k h0) rfl rfl rfl rfl (rm_m rfl) rfl (Nat.le_of_ble_eq_true rfl) rfl ?_
    refine sx_aload_n (i := 0) (j := 0) dX7_reads_110 rfl rfl ?_
    refine sx_get (k := 10) (v := .int (z15.1 a0 10)) dX7_reads_111 (X7_k h0) cf_7 (Or.inl wd_966) (by decide : 10 < 20) rfl ?_
    refine sx_iconst (v := (2 : Int32)) dX7_reads_114 (by decide) ?_
    refine sx_icmp_eq (tgt := 123) dX7_reads_115 rfl (fun c16 => ?_) (fun c16 => ?_)
    · have h := if_e c16 h
      refine sx_aload_n (i := 0) (j := 0) dX7_reads_123 rfl rfl ?_
      refine sx_get (k := 13) (v := .ref (a0 + 6)) dX7_reads_124 (X7_k h0) cf_7 (Or.inl wd_969) (by decide : 13 < 20) (congrArg Value.ref (X7_r13 h0)) ?_
      refine sx_iconst (v := (4 : Int32)) dX7_reads_127 (by decide) ?_
      refine sx_aload_n (i := 0) (j := 0) dX7_reads_128 rfl rfl ?_
      refine sx_get (k := 14) (v := .int (z15.1 a0 14)) dX7_reads_129 (X7_k h0) cf_7 (Or.inl wd_970) (by decide : 14 < 20) rfl ?_
      refine sx_imul dX7_reads_132 ?_
      refine sx_iconst (v := (1 : Int32)) dX7_reads_133 (by decide) ?_
      refine sx_iadd dX7_reads_134 ?_
      refine sx_iload_n (i := 2) (j := 2) dX7_reads_135 rfl rfl ?_
      refine sx_iadd dX7_reads_136 ?_
      refine sx_aload_n (i := 0) (j := 0) dX7_reads_137 rfl rfl ?_
      refine sx_get (k := 11) (v := .int (z15.1 a0 11)) dX7_reads_138 (X7_k h0) cf_7 (Or.inl wd_967) (by decide : 11 < 20) rfl ?_
      obtain ⟨c17, h⟩ := gd_e h
      refine sx_iast dX7_reads_141 (X7_a13 h0) c17 (fun L18 eL18 => ?_)
      have h := lt_e eL18 h
      obtain ⟨w19, ew19⟩ : ∃ w : Int32, w = v2 + (1 : Int32) := ⟨_, rfl⟩
      have h := lt_e ew19 h
      refine sx_iinc (j := 2) (v := w19) (lv' := [(0, .ref a0), (1, .int v1), (2, .int w19)]) dX7_reads_142 rfl (ii_1 ew19) (by decide) rfl ?_
      refine sx_goto (tgt := 98) dX7_reads_145 rfl ?_
      obtain rfl := Option.some.inj h
      exact sx_sub [0, 1, 2] rfl (k1 _ rfl)
    · have h := if_n c16 h
      refine sx_aload_n (i := 0) (j := 0) dX7_reads_118 rfl rfl ?_
      refine sx_get (k := 9) (v := .int (z15.1 a0 9)) dX7_reads_119 (X7_k h0) cf_7 (Or.inl wd_965) (by decide : 9 < 20) rfl ?_
      obtain rfl := Option.some.inj h
      exact sx_iret dX7_reads_122 rfl rfl (k3 _ rfl).1 (k3 _ rfl).2
set_option maxRecDepth 100000 in
set_option maxHeartbeats 4000000 in
theorem tX7_reads_j73 {l : Launch} {E : Ev} {r : Option Value} {L' L : HL} {a0 : Nat} {v1 : Int32} {s0 : Int32} {s1 : Int32} {z : Tn (HL) (Int32 × HL)} (h0 : isX7 E a0) (h : fX7_reads_j73 a0 v1 s0 s1 L = some z) (k1 : ∀ s, z = .inl s → Sx l E yX7_reads cX7_reads 3 (some .int) (3) r L' 14 [(0, .ref a0)] [] s) (k2 : ∀ s, z = .inr (.inl s) → Sx l E yX7_reads cX7_reads 3 (some .int) (3) r L' 182 [] [] s) (k3 : ∀ v, z = .inr (.inr v) → r = some (.int v.1) ∧ L' = v.2) : Sx l E yX7_reads cX7_reads 3 (some .int) (3) r L' 73 [(0, .ref a0), (1, .int v1)] [.int s1, .int s0] L := by
  unfold fX7_reads_j73 at h
  refine sx_icmp_eq (tgt := 81) dX7_reads_73 rfl (fun c11 => ?_) (fun c11 => ?_)
  · have h := if_e c11 h
    refine sx_aload_n (i := 0) (j := 0) dX7_reads_81 rfl rfl ?_
    refine sx_get (k := 13) (v := .ref (a0 + 6)) dX7_reads_82 (X7_k h0) cf_7 (Or.inl wd_969) (by decide : 13 < 20) (congrArg Value.ref (X7_r13 h0)) ?_
    refine sx_iconst (v := (4 : Int32)) dX7_reads_85 (by decide) ?_
    refine sx_aload_n (i := 0) (j := 0) dX7_reads_86 rfl rfl ?_
    refine sx_get (k := 14) (v := .int (L.1 a0 14)) dX7_reads_87 (X7_k h0) cf_7 (Or.inl wd_970) (by decide : 14 < 20) rfl ?_
    refine sx_imul dX7_reads_90 ?_
    refine sx_iload_n (i := 1) (j := 1) dX7_reads_91 rfl rfl ?_
    refine sx_bipush (v := (10 : Int32)) dX7_reads_92 (by decide) ?_
    refine sx_idiv dX7_reads_94 (by decide) ?_
    obtain ⟨c12, h⟩ := gd_e h
    refine sx_iast dX7_reads_95 (X7_a13 h0) c12 (fun L13 eL13 => ?_)
    have h := lt_e eL13 h
    refine sx_iconst (v := (0 : Int32)) dX7_reads_96 (by decide) ?_
    refine sx_istore_n (i := 2) (lv' := [(0, .ref a0), (1, .int v1), (2, .int (0 : Int32))]) dX7_reads_97 rfl (by decide) rfl ?_
    obtain ⟨x25, hx, q1, q2⟩ := lx_e h
    refine sx_sub (lv' := [(0, .ref a0), (1, .int v1), (2, .int (0 : Int32))]) [0, 1, 2] rfl ?_
    refine lp_go (fun s20 => Sx l E yX7_reads cX7_reads 3 (some .int) (3) r L' 98 [(0, .ref a0), (1, .int v1), (2, .int s20.1)] [] s20.2) x25 (fun s20 z2 hz c1 c2 => ?_) FU _ hx
    refine tX7_reads_b98 h0 hz (fun s2 e => c1 s2 e) (fun s20 e => ?_) (fun v e => ?_)
    · have h := q1 _ (c2 _ e).symm
      refine sx_aload_n (i := 0) (j := 0) dX7_reads_148 rfl rfl ?_
      obtain ⟨z21, ez21, h⟩ := bd_e h
      refine sx_callV (avs := []) (rest := []) (st1 := []) dX7_reads_149 (mX7_next h0 ez21) ciX7_next (Or.inl wd_1115) (X7_k h0) rfl rfl rfl rfl (rm_m rfl) rfl (Nat.le_of_ble_eq_true rfl) rfl ?_
      refine sx_aload_n (i := 0) (j := 0) dX7_reads_152 rfl rfl ?_
      refine sx_get (k := 10) (v := .int (z21.1 a0 10)) dX7_reads_153 (X7_k h0) cf_7 (Or.inl wd_966) (by decide : 10 < 20) rfl ?_
      refine sx_iconst (v := (3 : Int32)) dX7_reads_156 (by decide) ?_
      refine sx_icmp_eq (tgt := 165) dX7_reads_157 rfl (fun c22 => ?_) (fun c22 => ?_)
      · have h := if_e c22 h
        refine sx_aload_n (i := 0) (j := 0) dX7_reads_165 rfl rfl ?_
        refine sx_dup dX7_reads_166 rfl ?_
        refine sx_get (k := 14) (v := .int (z21.1 a0 14)) dX7_reads_167 (X7_k h0) cf_7 (Or.inl wd_970) (by decide : 14 < 20) rfl ?_
        refine sx_iconst (v := (1 : Int32)) dX7_reads_170 (by decide) ?_
        refine sx_iadd dX7_reads_171 ?_
        refine sx_putI (k := 14) dX7_reads_172 (X7_k h0) cf_7 (Or.inl wd_970) (by decide : 14 < 20) rfl rfl rfl rfl (fun L23 eL23 => ?_)
        have h := lt_e eL23 h
        refine sx_aload_n (i := 0) (j := 0) dX7_reads_175 rfl rfl ?_
        obtain ⟨z24, ez24, h⟩ := bd_e h
        refine sx_callV (avs := []) (rest := []) (st1 := []) dX7_reads_176 (mX7_next h0 ez24) ciX7_next (Or.inl wd_1115) (X7_k h0) rfl rfl rfl rfl (rm_m rfl) rfl (Nat.le_of_ble_eq_true rfl) rfl ?_
        refine sx_goto (tgt := 14) dX7_reads_179 rfl ?_
        obtain rfl := Option.some.inj h
        exact sx_sub [0] rfl (k1 _ rfl)
      · have h := if_n c22 h
        refine sx_aload_n (i := 0) (j := 0) dX7_reads_160 rfl rfl ?_
        refine sx_get (k := 9) (v := .int (z21.1 a0 9)) dX7_reads_161 (X7_k h0) cf_7 (Or.inl wd_965) (by decide : 9 < 20) rfl ?_
        obtain rfl := Option.some.inj h
        exact sx_iret dX7_reads_164 rfl rfl (k3 _ rfl).1 (k3 _ rfl).2
    · exact k3 _ (Option.some.inj (q2 _ (c2 _ e).symm)).symm
  · have h := if_n c11 h
    refine sx_aload_n (i := 0) (j := 0) dX7_reads_76 rfl rfl ?_
    refine sx_get (k := 9) (v := .int (L.1 a0 9)) dX7_reads_77 (X7_k h0) cf_7 (Or.inl wd_965) (by decide : 9 < 20) rfl ?_
    obtain rfl := Option.some.inj h
    exact sx_iret dX7_reads_80 rfl rfl (k3 _ rfl).1 (k3 _ rfl).2
set_option maxRecDepth 100000 in
set_option maxHeartbeats 4000000 in
theorem tX7_reads_j61 {l : Launch} {E : Ev} {r : Option Value} {L' L : HL} {a0 : Nat} {v1 : Int32} {s0 : Int32} {z : Tn (HL) (Int32 × HL)} (h0 : isX7 E a0) (h : fX7_reads_j61 a0 v1 s0 L = some z) (k1 : ∀ s, z = .inl s → Sx l E yX7_reads cX7_reads 3 (some .int) (3) r L' 14 [(0, .ref a0)] [] s) (k2 : ∀ s, z = .inr (.inl s) → Sx l E yX7_reads cX7_reads 3 (some .int) (3) r L' 182 [] [] s) (k3 : ∀ v, z = .inr (.inr v) → r = some (.int v.1) ∧ L' = v.2) : Sx l E yX7_reads cX7_reads 3 (some .int) (3) r L' 61 [(0, .ref a0), (1, .int v1)] [.int s0] L := by
  unfold fX7_reads_j61 at h
  refine sx_aload_n (i := 0) (j := 0) dX7_reads_61 rfl rfl ?_
  refine sx_get (k := 14) (v := .int (L.1 a0 14)) dX7_reads_62 (X7_k h0) cf_7 (Or.inl wd_970) (by decide : 14 < 20) rfl ?_
  refine sx_if_ne (tgt := 72) dX7_reads_65 rfl (fun c10 => ?_) (fun c10 => ?_)
  · have h := if_e c10 h
    refine sx_iconst (v := (1 : Int32)) dX7_reads_68 (by decide) ?_
    refine sx_goto (tgt := 73) dX7_reads_69 rfl ?_
    exact sx_sub [0, 1] rfl (tX7_reads_j73 h0 h k1 k2 k3)
  · have h := if_n c10 h
    refine sx_iconst (v := (0 : Int32)) dX7_reads_72 (by decide) ?_
    exact sx_sub [0, 1] rfl (tX7_reads_j73 h0 h k1 k2 k3)
set_option maxRecDepth 100000 in
set_option maxHeartbeats 4000000 in
theorem tX7_reads_j47 {l : Launch} {E : Ev} {r : Option Value} {L' L : HL} {a0 : Nat} {s0 : Int32} {z : Tn (HL) (Int32 × HL)} (h0 : isX7 E a0) (h : fX7_reads_j47 a0 s0 L = some z) (k1 : ∀ s, z = .inl s → Sx l E yX7_reads cX7_reads 3 (some .int) (3) r L' 14 [(0, .ref a0)] [] s) (k2 : ∀ s, z = .inr (.inl s) → Sx l E yX7_reads cX7_reads 3 (some .int) (3) r L' 182 [] [] s) (k3 : ∀ v, z = .inr (.inr v) → r = some (.int v.1) ∧ L' = v.2) : Sx l E yX7_reads cX7_reads 3 (some .int) (3) r L' 47 [(0, .ref a0)] [.int s0] L := by
  unfold fX7_reads_j47 at h
  refine sx_istore_n (i := 1) (lv' := [(0, .ref a0), (1, .int s0)]) dX7_reads_47 rfl (by decide) rfl ?_
  refine sx_iload_n (i := 1) (j := 1) dX7_reads_48 rfl rfl ?_
  refine sx_if_lt (tgt := 76) dX7_reads_49 rfl (fun c8 => ?_) (fun c8 => ?_)
  · have h := if_e c8 h
    refine sx_aload_n (i := 0) (j := 0) dX7_reads_76 rfl rfl ?_
    refine sx_get (k := 9) (v := .int (L.1 a0 9)) dX7_reads_77 (X7_k h0) cf_7 (Or.inl wd_965) (by decide : 9 < 20) rfl ?_
    obtain rfl := Option.some.inj h
    exact sx_iret dX7_reads_80 rfl rfl (k3 _ rfl).1 (k3 _ rfl).2
  · have h := if_n c8 h
    refine sx_iload_n (i := 1) (j := 1) dX7_reads_52 rfl rfl ?_
    refine sx_if_ne (tgt := 60) dX7_reads_53 rfl (fun c9 => ?_) (fun c9 => ?_)
    · have h := if_e c9 h
      refine sx_iconst (v := (1 : Int32)) dX7_reads_56 (by decide) ?_
      refine sx_goto (tgt := 61) dX7_reads_57 rfl ?_
      exact sx_sub [0, 1] rfl (tX7_reads_j61 h0 h k1 k2 k3)
    · have h := if_n c9 h
      refine sx_iconst (v := (0 : Int32)) dX7_reads_60 (by decide) ?_
      exact sx_sub [0, 1] rfl (tX7_reads_j61 h0 h k1 k2 k3)
set_option maxRecDepth 100000 in
set_option maxHeartbeats 4000000 in
theorem tX7_reads_j28 {l : Launch} {E : Ev} {r : Option Value} {L' L : HL} {a0 : Nat} {z : Tn (HL) (Int32 × HL)} (h0 : isX7 E a0) (h : fX7_reads_j28 a0 L = some z) (k1 : ∀ s, z = .inl s → Sx l E yX7_reads cX7_reads 3 (some .int) (3) r L' 14 [(0, .ref a0)] [] s) (k2 : ∀ s, z = .inr (.inl s) → Sx l E yX7_reads cX7_reads 3 (some .int) (3) r L' 182 [] [] s) (k3 : ∀ v, z = .inr (.inr v) → r = some (.int v.1) ∧ L' = v.2) : Sx l E yX7_reads cX7_reads 3 (some .int) (3) r L' 28 [(0, .ref a0)] [] L := by
  unfold fX7_reads_j28 at h
  refine sx_aload_n (i := 0) (j := 0) dX7_reads_28 rfl rfl ?_
  refine sx_get (k := 10) (v := .int (L.1 a0 10)) dX7_reads_29 (X7_k h0) cf_7 (Or.inl wd_966) (by decide : 10 < 20) rfl ?_
  refine sx_iconst (v := (1 : Int32)) dX7_reads_32 (by decide) ?_
  refine sx_icmp_ne (tgt := 46) dX7_reads_33 rfl (fun c6 => ?_) (fun c6 => ?_)
  · have h := if_e c6 h
    refine sx_aload_n (i := 0) (j := 0) dX7_reads_36 rfl rfl ?_
    refine sx_get (k := 12) (v := .long (L.2 a0 12)) dX7_reads_37 (X7_k h0) cf_7 (Or.inl wd_968) (by decide : 12 < 20) rfl ?_
    obtain ⟨z7, ez7, h⟩ := bd_e h
    refine sx_callS (avs := [.long (L.2 a0 12)]) (rest := []) (st1 := [.int z7]) dX7_reads_40 (mX7_itemOf ez7) ctX7_itemOf (Or.inl wd_1124) rfl rfl (rm_m rfl) rfl (Nat.le_of_ble_eq_true rfl) rfl ?_
    refine sx_goto (tgt := 47) dX7_reads_43 rfl ?_
    exact sx_sub [0] rfl (tX7_reads_j47 h0 h k1 k2 k3)
  · have h := if_n c6 h
    refine sx_iconst (v := (-1 : Int32)) dX7_reads_46 (by decide) ?_
    exact sx_sub [0] rfl (tX7_reads_j47 h0 h k1 k2 k3)
set_option maxRecDepth 100000 in
set_option maxHeartbeats 4000000 in
theorem tX7_reads_b14 {l : Launch} {E : Ev} {r : Option Value} {L' L : HL} {a0 : Nat} {z : Tn (HL) (Int32 × HL)} (h0 : isX7 E a0) (h : fX7_reads_b14 a0 L = some z) (k1 : ∀ s, z = .inl s → Sx l E yX7_reads cX7_reads 3 (some .int) (3) r L' 14 [(0, .ref a0)] [] s) (k2 : ∀ s, z = .inr (.inl s) → Sx l E yX7_reads cX7_reads 3 (some .int) (3) r L' 182 [] [] s) (k3 : ∀ v, z = .inr (.inr v) → r = some (.int v.1) ∧ L' = v.2) : Sx l E yX7_reads cX7_reads 3 (some .int) (3) r L' 14 [(0, .ref a0)] [] L := by
  unfold fX7_reads_b14 at h
  refine sx_aload_n (i := 0) (j := 0) dX7_reads_14 rfl rfl ?_
  refine sx_get (k := 10) (v := .int (L.1 a0 10)) dX7_reads_15 (X7_k h0) cf_7 (Or.inl wd_966) (by decide : 10 < 20) rfl ?_
  refine sx_if_ne (tgt := 28) dX7_reads_18 rfl (fun c4 => ?_) (fun c4 => ?_)
  · have h := if_e c4 h
    refine sx_aload_n (i := 0) (j := 0) dX7_reads_21 rfl rfl ?_
    refine sx_get (k := 14) (v := .int (L.1 a0 14)) dX7_reads_22 (X7_k h0) cf_7 (Or.inl wd_970) (by decide : 14 < 20) rfl ?_
    refine sx_if_ne (tgt := 182) dX7_reads_25 rfl (fun c5 => ?_) (fun c5 => ?_)
    · have h := if_e c5 h
      exact sx_sub [0] rfl (tX7_reads_j28 h0 h k1 k2 k3)
    · have h := if_n c5 h
      obtain rfl := Option.some.inj h
      exact sx_sub [] rfl (k2 _ rfl)
  · have h := if_n c4 h
    exact sx_sub [0] rfl (tX7_reads_j28 h0 h k1 k2 k3)
set_option maxRecDepth 100000 in
set_option maxHeartbeats 4000000 in
theorem mX7_reads {l : Launch} {E : Ev} {L : HL} {a0 : Nat} {z : Int32 × HL} (h0 : isX7 E a0) (h : fX7_reads a0 L = some z) : Mt l E yX7_reads cX7_reads 3 (some .int) (3) [.ref a0] L (some (.int z.1)) (z.2) := by
  obtain ⟨r, hr⟩ : ∃ r : Option Value, r = some (.int z.1) := ⟨_, rfl⟩
  obtain ⟨L', hL'⟩ : ∃ L' : HL, L' = z.2 := ⟨_, rfl⟩
  have k3 : r = some (.int z.1) ∧ L' = z.2 := ⟨hr, hL'⟩
  refine mt_eq hr hL' ?_
  refine Mt.of (plainFor_of_name (by decide)) (Nat.le_of_ble_eq_true rfl) ?_
  refine sx_sub (lv' := [(0, .ref a0)]) [0] rfl ?_
  unfold fX7_reads at h
  refine sx_aload_n (i := 0) (j := 0) dX7_reads_0 rfl rfl ?_
  refine sx_iconst (v := (0 : Int32)) dX7_reads_1 (by decide) ?_
  refine sx_putI (k := 8) dX7_reads_2 (X7_k h0) cf_7 (Or.inl wd_964) (by decide : 8 < 20) rfl rfl rfl rfl (fun L1 eL1 => ?_)
  have h := lt_e eL1 h
  refine sx_aload_n (i := 0) (j := 0) dX7_reads_5 rfl rfl ?_
  refine sx_iconst (v := (0 : Int32)) dX7_reads_6 (by decide) ?_
  refine sx_putI (k := 14) dX7_reads_7 (X7_k h0) cf_7 (Or.inl wd_970) (by decide : 14 < 20) rfl rfl rfl rfl (fun L2 eL2 => ?_)
  have h := lt_e eL2 h
  refine sx_aload_n (i := 0) (j := 0) dX7_reads_10 rfl rfl ?_
  obtain ⟨z3, ez3, h⟩ := bd_e h
  refine sx_callV (avs := []) (rest := []) (st1 := []) dX7_reads_11 (mX7_next h0 ez3) ciX7_next (Or.inl wd_1115) (X7_k h0) rfl rfl rfl rfl (rm_m rfl) rfl (Nat.le_of_ble_eq_true rfl) rfl ?_
  obtain ⟨x27, hx, q1, q2⟩ := lx_e h
  refine sx_sub (lv' := [(0, .ref a0)]) [0] rfl ?_
  refine lp_go (fun s26 => Sx l E yX7_reads cX7_reads 3 (some .int) (3) r L' 14 [(0, .ref a0)] [] s26) x27 (fun s26 z2 hz c1 c2 => ?_) FU _ hx
  refine tX7_reads_b14 h0 hz (fun s2 e => c1 s2 e) (fun s26 e => ?_) (fun v e => ?_)
  · have h := q1 _ (c2 _ e).symm
    refine sx_iconst (v := (-1 : Int32)) dX7_reads_182 (by decide) ?_
    obtain rfl := Option.some.inj h
    exact sx_iret dX7_reads_183 rfl rfl k3.1 k3.2
  · have e2 := Option.some.inj (q2 _ (c2 _ e).symm)
    subst e2
    exact k3
set_option maxRecDepth 100000 in
set_option maxHeartbeats 4000000 in
theorem mX7_doItem {l : Launch} {E : Ev} {L : HL} {a0 : Nat} {v1 : Int32} {z : Int32 × HL} (h0 : isX7 E a0) (h : fX7_doItem a0 v1 L = some z) : Mt l E yX7_doItem cX7_doItem 4 (some .int) (4) [.ref a0, .int v1] L (some (.int z.1)) (z.2) := by
  obtain ⟨r, hr⟩ : ∃ r : Option Value, r = some (.int z.1) := ⟨_, rfl⟩
  obtain ⟨L', hL'⟩ : ∃ L' : HL, L' = z.2 := ⟨_, rfl⟩
  have k3 : r = some (.int z.1) ∧ L' = z.2 := ⟨hr, hL'⟩
  refine mt_eq hr hL' ?_
  refine Mt.of (plainFor_of_name (by decide)) (Nat.le_of_ble_eq_true rfl) ?_
  refine sx_sub (lv' := [(0, .ref a0), (1, .int v1)]) [0, 1] rfl ?_
  unfold fX7_doItem at h
  refine sx_aload_n (i := 0) (j := 0) dX7_doItem_0 rfl rfl ?_
  refine sx_get (k := 13) (v := .ref (a0 + 6)) dX7_doItem_1 (X7_k h0) cf_7 (Or.inl wd_969) (by decide : 13 < 20) (congrArg Value.ref (X7_r13 h0)) ?_
  refine sx_iconst (v := (4 : Int32)) dX7_doItem_4 (by decide) ?_
  refine sx_iload_n (i := 1) (j := 1) dX7_doItem_5 rfl rfl ?_
  refine sx_imul dX7_doItem_6 ?_
  refine sx_iconst (v := (1 : Int32)) dX7_doItem_7 (by decide) ?_
  refine sx_iadd dX7_doItem_8 ?_
  obtain ⟨c1, h⟩ := gd_e h
  refine sx_iald dX7_doItem_9 (X7_a13 h0) c1 ?_
  refine sx_topi (fun w2 ew2 => ?_)
  have h := lt_e ew2 h
  refine sx_istore_n (i := 2) (lv' := [(0, .ref a0), (1, .int v1), (2, .int w2)]) dX7_doItem_10 rfl (by decide) rfl ?_
  refine sx_aload_n (i := 0) (j := 0) dX7_doItem_11 rfl rfl ?_
  refine sx_get (k := 13) (v := .ref (a0 + 6)) dX7_doItem_12 (X7_k h0) cf_7 (Or.inl wd_969) (by decide : 13 < 20) (congrArg Value.ref (X7_r13 h0)) ?_
  refine sx_iconst (v := (4 : Int32)) dX7_doItem_15 (by decide) ?_
  refine sx_iload_n (i := 1) (j := 1) dX7_doItem_16 rfl rfl ?_
  refine sx_imul dX7_doItem_17 ?_
  refine sx_iconst (v := (2 : Int32)) dX7_doItem_18 (by decide) ?_
  refine sx_iadd dX7_doItem_19 ?_
  obtain ⟨c3, h⟩ := gd_e h
  refine sx_iald dX7_doItem_20 (X7_a13 h0) c3 ?_
  refine sx_topi (fun w4 ew4 => ?_)
  have h := lt_e ew4 h
  refine sx_istore_n (i := 3) (lv' := [(0, .ref a0), (1, .int v1), (2, .int w2), (3, .int w4)]) dX7_doItem_21 rfl (by decide) rfl ?_
  refine sx_aload_n (i := 0) (j := 0) dX7_doItem_22 rfl rfl ?_
  refine sx_get (k := 13) (v := .ref (a0 + 6)) dX7_doItem_23 (X7_k h0) cf_7 (Or.inl wd_969) (by decide : 13 < 20) (congrArg Value.ref (X7_r13 h0)) ?_
  refine sx_iconst (v := (4 : Int32)) dX7_doItem_26 (by decide) ?_
  refine sx_iload_n (i := 1) (j := 1) dX7_doItem_27 rfl rfl ?_
  refine sx_imul dX7_doItem_28 ?_
  obtain ⟨c5, h⟩ := gd_e h
  refine sx_iald dX7_doItem_29 (X7_a13 h0) c5 ?_
  by_cases c6 : (L.1 (a0 + 6) ((4 : Int32) * v1).toNatClampNeg) = (0 : Int32)
  · have h := if_e c6 h
    refine sx_swIn (tgt := 68) (0 : Int32) dX7_doItem_30 c6 (by decide) (by decide) rfl rfl ?_
    refine sx_aload_n (i := 0) (j := 0) dX7_doItem_68 rfl rfl ?_
    obtain ⟨z7, ez7, h⟩ := bd_e h
    refine sx_callV (avs := []) (rest := []) (st1 := []) dX7_doItem_69 (mX7_clean h0 ez7) ciX7_clean (Or.inl wd_952) (X7_k h0) rfl rfl rfl rfl (rm_m rfl) rfl (Nat.le_of_ble_eq_true rfl) rfl ?_
    refine sx_iconst (v := (0 : Int32)) dX7_doItem_72 (by decide) ?_
    obtain rfl := Option.some.inj h
    exact sx_iret dX7_doItem_73 rfl rfl k3.1 k3.2
  have h := if_n c6 h
  by_cases c8 : (L.1 (a0 + 6) ((4 : Int32) * v1).toNatClampNeg) = (1 : Int32)
  · have h := if_e c8 h
    refine sx_swIn (tgt := 74) (1 : Int32) dX7_doItem_30 c8 (by decide) (by decide) rfl rfl ?_
    refine sx_aload_n (i := 0) (j := 0) dX7_doItem_74 rfl rfl ?_
    refine sx_iload_n (i := 2) (j := 2) dX7_doItem_75 rfl rfl ?_
    refine sx_iload_n (i := 3) (j := 3) dX7_doItem_76 rfl rfl ?_
    refine sx_aload_n (i := 0) (j := 0) dX7_doItem_77 rfl rfl ?_
    refine sx_get (k := 13) (v := .ref (a0 + 6)) dX7_doItem_78 (X7_k h0) cf_7 (Or.inl wd_969) (by decide : 13 < 20) (congrArg Value.ref (X7_r13 h0)) ?_
    refine sx_iconst (v := (4 : Int32)) dX7_doItem_81 (by decide) ?_
    refine sx_iload_n (i := 1) (j := 1) dX7_doItem_82 rfl rfl ?_
    refine sx_imul dX7_doItem_83 ?_
    refine sx_iconst (v := (3 : Int32)) dX7_doItem_84 (by decide) ?_
    refine sx_iadd dX7_doItem_85 ?_
    obtain ⟨c9, h⟩ := gd_e h
    refine sx_iald dX7_doItem_86 (X7_a13 h0) c9 ?_
    obtain ⟨z10, ez10, h⟩ := bd_e h
    refine sx_callV (avs := [.int w2, .int w4, .int (L.1 (a0 + 6) (((4 : Int32) * v1) + (3 : Int32)).toNatClampNeg)]) (rest := []) (st1 := [.int z10.1]) dX7_doItem_87 (mX7_doHouse h0 ez10) ciX7_doHouse (Or.inl wd_1026) (X7_k h0) rfl rfl rfl rfl (rm_m rfl) rfl (Nat.le_of_ble_eq_true rfl) rfl ?_
    obtain rfl := Option.some.inj h
    exact sx_iret dX7_doItem_90 rfl rfl k3.1 k3.2
  have h := if_n c8 h
  by_cases c11 : (L.1 (a0 + 6) ((4 : Int32) * v1).toNatClampNeg) = (2 : Int32)
  · have h := if_e c11 h
    refine sx_swIn (tgt := 91) (2 : Int32) dX7_doItem_30 c11 (by decide) (by decide) rfl rfl ?_
    refine sx_aload_n (i := 0) (j := 0) dX7_doItem_91 rfl rfl ?_
    refine sx_iload_n (i := 2) (j := 2) dX7_doItem_92 rfl rfl ?_
    refine sx_iload_n (i := 3) (j := 3) dX7_doItem_93 rfl rfl ?_
    obtain ⟨z12, ez12, h⟩ := bd_e h
    refine sx_callV (avs := [.int w2, .int w4]) (rest := []) (st1 := [.int z12.1]) dX7_doItem_94 (mX7_doFrom h0 ez12) ciX7_doFrom (Or.inl wd_1043) (X7_k h0) rfl rfl rfl rfl (rm_m rfl) rfl (Nat.le_of_ble_eq_true rfl) rfl ?_
    obtain rfl := Option.some.inj h
    exact sx_iret dX7_doItem_97 rfl rfl k3.1 k3.2
  have h := if_n c11 h
  by_cases c13 : (L.1 (a0 + 6) ((4 : Int32) * v1).toNatClampNeg) = (3 : Int32)
  · have h := if_e c13 h
    refine sx_swIn (tgt := 98) (3 : Int32) dX7_doItem_30 c13 (by decide) (by decide) rfl rfl ?_
    refine sx_aload_n (i := 0) (j := 0) dX7_doItem_98 rfl rfl ?_
    refine sx_iload_n (i := 2) (j := 2) dX7_doItem_99 rfl rfl ?_
    refine sx_iload_n (i := 3) (j := 3) dX7_doItem_100 rfl rfl ?_
    obtain ⟨z14, ez14, h⟩ := bd_e h
    refine sx_callV (avs := [.int w2, .int w4]) (rest := []) (st1 := [.int z14.1]) dX7_doItem_101 (mX7_doWill h0 ez14) ciX7_doWill (Or.inl wd_1056) (X7_k h0) rfl rfl rfl rfl (rm_m rfl) rfl (Nat.le_of_ble_eq_true rfl) rfl ?_
    obtain rfl := Option.some.inj h
    exact sx_iret dX7_doItem_104 rfl rfl k3.1 k3.2
  have h := if_n c13 h
  by_cases c15 : (L.1 (a0 + 6) ((4 : Int32) * v1).toNatClampNeg) = (4 : Int32)
  · have h := if_e c15 h
    refine sx_swIn (tgt := 105) (4 : Int32) dX7_doItem_30 c15 (by decide) (by decide) rfl rfl ?_
    refine sx_aload_n (i := 0) (j := 0) dX7_doItem_105 rfl rfl ?_
    refine sx_iload_n (i := 2) (j := 2) dX7_doItem_106 rfl rfl ?_
    refine sx_iload_n (i := 3) (j := 3) dX7_doItem_107 rfl rfl ?_
    refine sx_iconst (v := (1 : Int32)) dX7_doItem_108 (by decide) ?_
    obtain ⟨z16, ez16, h⟩ := bd_e h
    refine sx_callV (avs := [.int w2, .int w4, .int (1 : Int32)]) (rest := []) (st1 := [.int z16.1]) dX7_doItem_109 (mX7_doWall h0 ez16) ciX7_doWall (Or.inl wd_1065) (X7_k h0) rfl rfl rfl rfl (rm_m rfl) rfl (Nat.le_of_ble_eq_true rfl) rfl ?_
    obtain rfl := Option.some.inj h
    exact sx_iret dX7_doItem_112 rfl rfl k3.1 k3.2
  have h := if_n c15 h
  by_cases c17 : (L.1 (a0 + 6) ((4 : Int32) * v1).toNatClampNeg) = (5 : Int32)
  · have h := if_e c17 h
    refine sx_swIn (tgt := 113) (5 : Int32) dX7_doItem_30 c17 (by decide) (by decide) rfl rfl ?_
    refine sx_aload_n (i := 0) (j := 0) dX7_doItem_113 rfl rfl ?_
    refine sx_iload_n (i := 2) (j := 2) dX7_doItem_114 rfl rfl ?_
    refine sx_iload_n (i := 3) (j := 3) dX7_doItem_115 rfl rfl ?_
    obtain ⟨z18, ez18, h⟩ := bd_e h
    refine sx_callV (avs := [.int w2, .int w4]) (rest := []) (st1 := [.int z18.1]) dX7_doItem_116 (mX7_doOne h0 ez18) ciX7_doOne (Or.inl wd_1073) (X7_k h0) rfl rfl rfl rfl (rm_m rfl) rfl (Nat.le_of_ble_eq_true rfl) rfl ?_
    obtain rfl := Option.some.inj h
    exact sx_iret dX7_doItem_119 rfl rfl k3.1 k3.2
  have h := if_n c17 h
  refine sx_swOut (tgt := 120) dX7_doItem_30 (sw_out (lo := 0) (k := 6) [0, 1, 2, 3, 4, 5] (by decide +kernel) (List.forall_mem_cons.mpr ⟨c6, List.forall_mem_cons.mpr ⟨c8, List.forall_mem_cons.mpr ⟨c11, List.forall_mem_cons.mpr ⟨c13, List.forall_mem_cons.mpr ⟨c15, List.forall_mem_cons.mpr ⟨c17, fun _ q => absurd q List.not_mem_nil⟩⟩⟩⟩⟩⟩)) rfl ?_
  refine sx_aload_n (i := 0) (j := 0) dX7_doItem_120 rfl rfl ?_
  refine sx_iload_n (i := 2) (j := 2) dX7_doItem_121 rfl rfl ?_
  refine sx_iload_n (i := 3) (j := 3) dX7_doItem_122 rfl rfl ?_
  refine sx_iconst (v := (1 : Int32)) dX7_doItem_123 (by decide) ?_
  obtain ⟨z19, ez19, h⟩ := bd_e h
  refine sx_callV (avs := [.int w2, .int w4, .int (1 : Int32)]) (rest := []) (st1 := [.int z19.1]) dX7_doItem_124 (mX7_doFeud h0 ez19) ciX7_doFeud (Or.inl wd_1085) (X7_k h0) rfl rfl rfl rfl (rm_m rfl) rfl (Nat.le_of_ble_eq_true rfl) rfl ?_
  obtain rfl := Option.some.inj h
  exact sx_iret dX7_doItem_127 rfl rfl k3.1 k3.2
set_option maxRecDepth 100000 in
set_option maxHeartbeats 4000000 in
theorem tX7_read_b33 {l : Launch} {E : Ev} {r : Option Value} {L' L : HL} {a0 : Nat} {v2 : Int32} {z : Tn (Int32 × HL) (Int32 × HL)} (h0 : isX7 E a0) (h : fX7_read_b33 a0 v2 L = some z) (k1 : ∀ s, z = .inl s → Sx l E yX7_read cX7_read 3 (some .int) (5) r L' 33 [(0, .ref a0), (2, .int s.1)] [] s.2) (k2 : ∀ s, z = .inr (.inl s) → Sx l E yX7_read cX7_read 3 (some .int) (5) r L' 78 [(0, .ref a0)] [] s.2) (k3 : ∀ v, z = .inr (.inr v) → r = some (.int v.1) ∧ L' = v.2) : Sx l E yX7_read cX7_read 3 (some .int) (5) r L' 33 [(0, .ref a0), (2, .int v2)] [] L := by
  unfold fX7_read_b33 at h
  refine sx_iload_n (i := 2) (j := 1) dX7_read_33 rfl rfl ?_
  refine sx_aload_n (i := 0) (j := 0) dX7_read_34 rfl rfl ?_
  refine sx_get (k := 14) (v := .int (L.1 a0 14)) dX7_read_35 (X7_k h0) cf_7 (Or.inl wd_970) (by decide : 14 < 20) rfl ?_
  refine sx_icmp_ge (tgt := 78) dX7_read_38 rfl (fun c4 => ?_) (fun c4 => ?_)
  · have h := if_e c4 h
    obtain rfl := Option.some.inj h
    exact sx_sub [0] rfl (k2 _ rfl)
  · have h := if_n c4 h
    refine sx_aload_n (i := 0) (j := 0) dX7_read_41 rfl rfl ?_
    refine sx_iload_n (i := 2) (j := 1) dX7_read_42 rfl rfl ?_
    obtain ⟨z5, ez5, h⟩ := bd_e h
    refine sx_callV (avs := [.int v2]) (rest := []) (st1 := [.int z5.1]) dX7_read_43 (mX7_doItem h0 ez5) ciX7_doItem (Or.inl wd_1137) (X7_k h0) rfl rfl rfl rfl (rm_m rfl) rfl (Nat.le_of_ble_eq_true rfl) rfl ?_
    refine sx_iconst (v := (-1 : Int32)) dX7_read_46 (by decide) ?_
    refine sx_icmp_ge (tgt := 72) dX7_read_47 rfl (fun c6 => ?_) (fun c6 => ?_)
    · have h := if_e c6 h
      obtain ⟨w7, ew7⟩ : ∃ w : Int32, w = v2 + (1 : Int32) := ⟨_, rfl⟩
      have h := lt_e ew7 h
      refine sx_iinc (j := 1) (v := w7) (lv' := [(0, .ref a0), (2, .int w7)]) dX7_read_72 rfl (ii_1 ew7) (by decide) rfl ?_
      refine sx_goto (tgt := 33) dX7_read_75 rfl ?_
      obtain rfl := Option.some.inj h
      exact sx_sub [0, 1] rfl (k1 _ rfl)
    · have h := if_n c6 h
      refine sx_aload_n (i := 0) (j := 0) dX7_read_50 rfl rfl ?_
      refine sx_get (k := 15) (v := .ref (a0 + 7)) dX7_read_51 (X7_k h0) cf_7 (Or.inl wd_971) (by decide : 15 < 20) (congrArg Value.ref (X7_r15 h0)) ?_
      refine sx_iconst (v := (0 : Int32)) dX7_read_54 (by decide) ?_
      refine sx_aload_n (i := 0) (j := 0) dX7_read_55 rfl rfl ?_
      refine sx_get (k := 0) (v := .ref (a0 + 1)) dX7_read_56 (X7_k h0) cf_7 (Or.inl wd_956) (by decide : 0 < 20) (congrArg Value.ref (X7_r0 h0)) ?_
      refine sx_iconst (v := (0 : Int32)) dX7_read_59 (by decide) ?_
      refine sx_sipush (v := (228 : Int32)) dX7_read_60 (by decide) ?_
      obtain ⟨z8, ez8, h⟩ := bd_e h
      refine sx_callS (avs := [.ref (a0 + 7), .int (0 : Int32), .ref (a0 + 1), .int (0 : Int32), .int (228 : Int32)]) (rest := []) (st1 := []) dX7_read_63 (mX7_copies (X7_a15 h0) (X7_a0 h0) ez8) ctX7_copies (Or.inl wd_1134) rfl rfl (rm_m rfl) rfl (Nat.le_of_ble_eq_true rfl) rfl ?_
      refine sx_sipush (v := (-1000 : Int32)) dX7_read_66 (by decide) ?_
      refine sx_iload_n (i := 2) (j := 1) dX7_read_69 rfl rfl ?_
      refine sx_isub dX7_read_70 ?_
      obtain rfl := Option.some.inj h
      exact sx_iret dX7_read_71 rfl rfl (k3 _ rfl).1 (k3 _ rfl).2
set_option maxRecDepth 100000 in
set_option maxHeartbeats 4000000 in
theorem mX7_read {l : Launch} {E : Ev} {L : HL} {a0 : Nat} {z : Int32 × HL} (h0 : isX7 E a0) (h : fX7_read a0 L = some z) : Mt l E yX7_read cX7_read 3 (some .int) (5) [.ref a0] L (some (.int z.1)) (z.2) := by
  obtain ⟨r, hr⟩ : ∃ r : Option Value, r = some (.int z.1) := ⟨_, rfl⟩
  obtain ⟨L', hL'⟩ : ∃ L' : HL, L' = z.2 := ⟨_, rfl⟩
  have k3 : r = some (.int z.1) ∧ L' = z.2 := ⟨hr, hL'⟩
  refine mt_eq hr hL' ?_
  refine Mt.of (plainFor_of_name (by decide)) (Nat.le_of_ble_eq_true rfl) ?_
  refine sx_sub (lv' := [(0, .ref a0)]) [0] rfl ?_
  unfold fX7_read at h
  refine sx_aload_n (i := 0) (j := 0) dX7_read_0 rfl rfl ?_
  obtain ⟨z1, ez1, h⟩ := bd_e h
  refine sx_callV (avs := []) (rest := []) (st1 := [.int z1.1]) dX7_read_1 (mX7_reads h0 ez1) ciX7_reads (Or.inl wd_1111) (X7_k h0) rfl rfl rfl rfl (rm_m rfl) rfl (Nat.le_of_ble_eq_true rfl) rfl ?_
  refine sx_istore_n (i := 1) (lv' := [(0, .ref a0), (1, .int z1.1)]) dX7_read_4 rfl (by decide) rfl ?_
  refine sx_iload_n (i := 1) (j := 1) dX7_read_5 rfl rfl ?_
  refine sx_iconst (v := (-1 : Int32)) dX7_read_6 (by decide) ?_
  refine sx_icmp_eq (tgt := 15) dX7_read_7 rfl (fun c2 => ?_) (fun c2 => ?_)
  · have h := if_e c2 h
    refine sx_aload_n (i := 0) (j := 0) dX7_read_15 rfl rfl ?_
    refine sx_get (k := 0) (v := .ref (a0 + 1)) dX7_read_16 (X7_k h0) cf_7 (Or.inl wd_956) (by decide : 0 < 20) (congrArg Value.ref (X7_r0 h0)) ?_
    refine sx_iconst (v := (0 : Int32)) dX7_read_19 (by decide) ?_
    refine sx_aload_n (i := 0) (j := 0) dX7_read_20 rfl rfl ?_
    refine sx_get (k := 15) (v := .ref (a0 + 7)) dX7_read_21 (X7_k h0) cf_7 (Or.inl wd_971) (by decide : 15 < 20) (congrArg Value.ref (X7_r15 h0)) ?_
    refine sx_iconst (v := (0 : Int32)) dX7_read_24 (by decide) ?_
    refine sx_sipush (v := (228 : Int32)) dX7_read_25 (by decide) ?_
    obtain ⟨z3, ez3, h⟩ := bd_e h
    refine sx_callS (avs := [.ref (a0 + 1), .int (0 : Int32), .ref (a0 + 7), .int (0 : Int32), .int (228 : Int32)]) (rest := []) (st1 := []) dX7_read_28 (mX7_copies (X7_a0 h0) (X7_a15 h0) ez3) ctX7_copies (Or.inl wd_1134) rfl rfl (rm_m rfl) rfl (Nat.le_of_ble_eq_true rfl) rfl ?_
    refine sx_iconst (v := (0 : Int32)) dX7_read_31 (by decide) ?_
    refine sx_istore_n (i := 2) (lv' := [(0, .ref a0), (1, .int z1.1), (2, .int (0 : Int32))]) dX7_read_32 rfl (by decide) rfl ?_
    obtain ⟨x10, hx, q1, q2⟩ := lx_e h
    refine sx_sub (lv' := [(0, .ref a0), (2, .int (0 : Int32))]) [0, 2] rfl ?_
    refine lp_go (fun s9 => Sx l E yX7_read cX7_read 3 (some .int) (5) r L' 33 [(0, .ref a0), (2, .int s9.1)] [] s9.2) x10 (fun s9 z2 hz c1 c2 => ?_) FU _ hx
    refine tX7_read_b33 h0 hz (fun s2 e => c1 s2 e) (fun s9 e => ?_) (fun v e => ?_)
    · have h := q1 _ (c2 _ e).symm
      refine sx_aload_n (i := 0) (j := 0) dX7_read_78 rfl rfl ?_
      refine sx_get (k := 14) (v := .int (s9.2.1 a0 14)) dX7_read_79 (X7_k h0) cf_7 (Or.inl wd_970) (by decide : 14 < 20) rfl ?_
      obtain rfl := Option.some.inj h
      exact sx_iret dX7_read_82 rfl rfl k3.1 k3.2
    · have e2 := Option.some.inj (q2 _ (c2 _ e).symm)
      subst e2
      exact k3
  · have h := if_n c2 h
    refine sx_bipush (v := (-10 : Int32)) dX7_read_10 (by decide) ?_
    refine sx_iload_n (i := 1) (j := 1) dX7_read_12 rfl rfl ?_
    refine sx_isub dX7_read_13 ?_
    obtain rfl := Option.some.inj h
    exact sx_iret dX7_read_14 rfl rfl k3.1 k3.2
set_option maxRecDepth 100000 in
set_option maxHeartbeats 4000000 in
theorem tX7_isKin_j64 {l : Launch} {E : Ev} {r : Option Value} {L' L : HL} {a0 : Nat} {n0 : Nat} {z : Int32} (h0 : eK E a0 = some (.inr (0, n0))) (h : fX7_isKin_j64 a0 n0 L = some z) (k3 : r = some (.int z) ∧ L' = L) : Sx l E yX7_isKin cX7_isKin 4 (some .boolean) (1) r L' 64 [] [] L := by
  unfold fX7_isKin_j64 at h
  refine sx_iconst (v := (1 : Int32)) dX7_isKin_64 (by decide) ?_
  refine sx_goto (tgt := 69) dX7_isKin_65 rfl ?_
  obtain rfl := Option.some.inj h
  exact sx_iret dX7_isKin_69 rfl (by decide) k3.1 k3.2
set_option maxRecDepth 100000 in
set_option maxHeartbeats 4000000 in
theorem tX7_isKin_j39 {l : Launch} {E : Ev} {r : Option Value} {L' L : HL} {a0 : Nat} {n0 : Nat} {v1 : Int32} {v2 : Int32} {s0 : Int32} {z : Int32} (h0 : eK E a0 = some (.inr (0, n0))) (h : fX7_isKin_j39 a0 n0 v1 v2 s0 L = some z) (k3 : r = some (.int z) ∧ L' = L) : Sx l E yX7_isKin cX7_isKin 4 (some .boolean) (1) r L' 39 [(0, .ref a0), (1, .int v1), (2, .int v2)] [.int s0] L := by
  unfold fX7_isKin_j39 at h
  refine sx_istore_n (i := 3) (lv' := [(0, .ref a0), (1, .int v1), (2, .int v2), (3, .int s0)]) dX7_isKin_39 rfl (by decide) rfl ?_
  refine sx_iload_n (i := 3) (j := 3) dX7_isKin_40 rfl rfl ?_
  refine sx_if_ne (tgt := 64) dX7_isKin_41 rfl (fun c7 => ?_) (fun c7 => ?_)
  · have h := if_e c7 h
    refine sx_aload_n (i := 0) (j := 0) dX7_isKin_44 rfl rfl ?_
    refine sx_bipush (v := (19 : Int32)) dX7_isKin_45 (by decide) ?_
    refine sx_iload_n (i := 1) (j := 1) dX7_isKin_47 rfl rfl ?_
    refine sx_iadd dX7_isKin_48 ?_
    obtain ⟨c8, h⟩ := gd_e h
    refine sx_iald dX7_isKin_49 h0 c8 ?_
    refine sx_iload_n (i := 2) (j := 2) dX7_isKin_50 rfl rfl ?_
    refine sx_icmp_eq (tgt := 64) dX7_isKin_51 rfl (fun c9 => ?_) (fun c9 => ?_)
    · have h := if_e c9 h
      exact sx_sub [] rfl (tX7_isKin_j64 h0 h k3)
    · have h := if_n c9 h
      refine sx_aload_n (i := 0) (j := 0) dX7_isKin_54 rfl rfl ?_
      refine sx_bipush (v := (19 : Int32)) dX7_isKin_55 (by decide) ?_
      refine sx_iload_n (i := 2) (j := 2) dX7_isKin_57 rfl rfl ?_
      refine sx_iadd dX7_isKin_58 ?_
      obtain ⟨c10, h⟩ := gd_e h
      refine sx_iald dX7_isKin_59 h0 c10 ?_
      refine sx_iload_n (i := 1) (j := 1) dX7_isKin_60 rfl rfl ?_
      refine sx_icmp_ne (tgt := 68) dX7_isKin_61 rfl (fun c11 => ?_) (fun c11 => ?_)
      · have h := if_e c11 h
        exact sx_sub [] rfl (tX7_isKin_j64 h0 h k3)
      · have h := if_n c11 h
        refine sx_iconst (v := (0 : Int32)) dX7_isKin_68 (by decide) ?_
        obtain rfl := Option.some.inj h
        exact sx_iret dX7_isKin_69 rfl (by decide) k3.1 k3.2
  · have h := if_n c7 h
    exact sx_sub [] rfl (tX7_isKin_j64 h0 h k3)
set_option maxRecDepth 100000 in
set_option maxHeartbeats 4000000 in
theorem tX7_isKin_j38 {l : Launch} {E : Ev} {r : Option Value} {L' L : HL} {a0 : Nat} {n0 : Nat} {v1 : Int32} {v2 : Int32} {z : Int32} (h0 : eK E a0 = some (.inr (0, n0))) (h : fX7_isKin_j38 a0 n0 v1 v2 L = some z) (k3 : r = some (.int z) ∧ L' = L) : Sx l E yX7_isKin cX7_isKin 4 (some .boolean) (1) r L' 38 [(0, .ref a0), (1, .int v1), (2, .int v2)] [] L := by
  unfold fX7_isKin_j38 at h
  refine sx_iconst (v := (0 : Int32)) dX7_isKin_38 (by decide) ?_
  exact sx_sub [0, 1, 2] rfl (tX7_isKin_j39 h0 h k3)
set_option maxRecDepth 100000 in
set_option maxHeartbeats 4000000 in
theorem mX7_isKin {l : Launch} {E : Ev} {L : HL} {a0 : Nat} {n0 : Nat} {v1 : Int32} {v2 : Int32} {z : Int32} (h0 : eK E a0 = some (.inr (0, n0))) (h : fX7_isKin a0 n0 v1 v2 L = some z) : Mt l E yX7_isKin cX7_isKin 4 (some .boolean) (1) [.ref a0, .int v1, .int v2] L (some (.int z)) L := by
  obtain ⟨r, hr⟩ : ∃ r : Option Value, r = some (.int z) := ⟨_, rfl⟩
  obtain ⟨L', hL'⟩ : ∃ L' : HL, L' = L := ⟨_, rfl⟩
  have k3 : r = some (.int z) ∧ L' = L := ⟨hr, hL'⟩
  refine mt_eq hr hL' ?_
  refine Mt.of (plainFor_of_name (by decide)) (Nat.le_of_ble_eq_true rfl) ?_
  refine sx_sub (lv' := [(0, .ref a0), (1, .int v1), (2, .int v2)]) [0, 1, 2] rfl ?_
  unfold fX7_isKin at h
  refine sx_aload_n (i := 0) (j := 0) dX7_isKin_0 rfl rfl ?_
  refine sx_bipush (v := (39 : Int32)) dX7_isKin_1 (by decide) ?_
  refine sx_iconst (v := (5 : Int32)) dX7_isKin_3 (by decide) ?_
  refine sx_iload_n (i := 1) (j := 1) dX7_isKin_4 rfl rfl ?_
  refine sx_imul dX7_isKin_5 ?_
  refine sx_iadd dX7_isKin_6 ?_
  refine sx_iload_n (i := 2) (j := 2) dX7_isKin_7 rfl rfl ?_
  refine sx_iadd dX7_isKin_8 ?_
  obtain ⟨c1, h⟩ := gd_e h
  refine sx_iald dX7_isKin_9 h0 c1 ?_
  refine sx_iconst (v := (1 : Int32)) dX7_isKin_10 (by decide) ?_
  refine sx_icmp_ne (tgt := 38) dX7_isKin_11 rfl (fun c2 => ?_) (fun c2 => ?_)
  · have h := if_e c2 h
    refine sx_aload_n (i := 0) (j := 0) dX7_isKin_14 rfl rfl ?_
    refine sx_bipush (v := (29 : Int32)) dX7_isKin_15 (by decide) ?_
    refine sx_iload_n (i := 1) (j := 1) dX7_isKin_17 rfl rfl ?_
    refine sx_iadd dX7_isKin_18 ?_
    obtain ⟨c3, h⟩ := gd_e h
    refine sx_iald dX7_isKin_19 h0 c3 ?_
    refine sx_iconst (v := (1 : Int32)) dX7_isKin_20 (by decide) ?_
    refine sx_icmp_ne (tgt := 38) dX7_isKin_21 rfl (fun c4 => ?_) (fun c4 => ?_)
    · have h := if_e c4 h
      refine sx_aload_n (i := 0) (j := 0) dX7_isKin_24 rfl rfl ?_
      refine sx_bipush (v := (29 : Int32)) dX7_isKin_25 (by decide) ?_
      refine sx_iload_n (i := 2) (j := 2) dX7_isKin_27 rfl rfl ?_
      refine sx_iadd dX7_isKin_28 ?_
      obtain ⟨c5, h⟩ := gd_e h
      refine sx_iald dX7_isKin_29 h0 c5 ?_
      refine sx_iconst (v := (1 : Int32)) dX7_isKin_30 (by decide) ?_
      refine sx_icmp_ne (tgt := 38) dX7_isKin_31 rfl (fun c6 => ?_) (fun c6 => ?_)
      · have h := if_e c6 h
        refine sx_iconst (v := (1 : Int32)) dX7_isKin_34 (by decide) ?_
        refine sx_goto (tgt := 39) dX7_isKin_35 rfl ?_
        exact sx_sub [0, 1, 2] rfl (tX7_isKin_j39 h0 h k3)
      · have h := if_n c6 h
        exact sx_sub [0, 1, 2] rfl (tX7_isKin_j38 h0 h k3)
    · have h := if_n c4 h
      exact sx_sub [0, 1, 2] rfl (tX7_isKin_j38 h0 h k3)
  · have h := if_n c2 h
    exact sx_sub [0, 1, 2] rfl (tX7_isKin_j38 h0 h k3)
set_option maxRecDepth 100000 in
set_option maxHeartbeats 4000000 in
theorem tX7_degreeOn_j27 {l : Launch} {E : Ev} {r : Option Value} {L' L : HL} {a0 : Nat} {a1 : Nat} {n1 : Nat} {v2 : Int32} {v3 : Int32} {v4 : Int32} {s1 : Int32} {s2 : Int32} {z : Tn (Int32 × HL) (Int32 × HL)} (h0 : isX7 E a0) (h1 : eK E a1 = some (.inr (0, n1))) (h : fX7_degreeOn_j27 a0 a1 n1 v2 v3 v4 s1 s2 L = some z) (k1 : ∀ s, z = .inl s → Sx l E yX7_degreeOn cX7_degreeOn 7 (some .int) (2) r L' 3 [(0, .ref a0), (1, .ref a1), (2, .int v2), (3, .int v3), (4, .int s.1)] [] s.2) (k2 : ∀ s, z = .inr (.inl s) → Sx l E yX7_degreeOn cX7_degreeOn 7 (some .int) (2) r L' 34 [(0, .ref a0), (1, .ref a1), (3, .int v3)] [] s.2) (k3 : ∀ v, z = .inr (.inr v) → r = some (.int v.1) ∧ L' = v.2) : Sx l E yX7_degreeOn cX7_degreeOn 7 (some .int) (2) r L' 27 [(0, .ref a0), (1, .ref a1), (2, .int v2), (3, .int v3), (4, .int v4)] [.int s2, .int s1, .ref (a0 + 8)] L := by
  unfold fX7_degreeOn_j27 at h
  obtain ⟨c3, h⟩ := gd_e h
  refine sx_iast dX7_degreeOn_27 (X7_a16 h0) c3 (fun L4 eL4 => ?_)
  have h := lt_e eL4 h
  obtain ⟨w5, ew5⟩ : ∃ w : Int32, w = v4 + (1 : Int32) := ⟨_, rfl⟩
  have h := lt_e ew5 h
  refine sx_iinc (j := 4) (v := w5) (lv' := [(0, .ref a0), (1, .ref a1), (2, .int v2), (3, .int v3), (4, .int w5)]) dX7_degreeOn_28 rfl (ii_1 ew5) (by decide) rfl ?_
  refine sx_goto (tgt := 3) dX7_degreeOn_31 rfl ?_
  obtain rfl := Option.some.inj h
  exact sx_sub [0, 1, 2, 3, 4] rfl (k1 _ rfl)
set_option maxRecDepth 100000 in
set_option maxHeartbeats 4000000 in
theorem tX7_degreeOn_b3 {l : Launch} {E : Ev} {r : Option Value} {L' L : HL} {a0 : Nat} {a1 : Nat} {n1 : Nat} {v2 : Int32} {v3 : Int32} {v4 : Int32} {z : Tn (Int32 × HL) (Int32 × HL)} (h0 : isX7 E a0) (h1 : eK E a1 = some (.inr (0, n1))) (h : fX7_degreeOn_b3 a0 a1 n1 v2 v3 v4 L = some z) (k1 : ∀ s, z = .inl s → Sx l E yX7_degreeOn cX7_degreeOn 7 (some .int) (2) r L' 3 [(0, .ref a0), (1, .ref a1), (2, .int v2), (3, .int v3), (4, .int s.1)] [] s.2) (k2 : ∀ s, z = .inr (.inl s) → Sx l E yX7_degreeOn cX7_degreeOn 7 (some .int) (2) r L' 34 [(0, .ref a0), (1, .ref a1), (3, .int v3)] [] s.2) (k3 : ∀ v, z = .inr (.inr v) → r = some (.int v.1) ∧ L' = v.2) : Sx l E yX7_degreeOn cX7_degreeOn 7 (some .int) (2) r L' 3 [(0, .ref a0), (1, .ref a1), (2, .int v2), (3, .int v3), (4, .int v4)] [] L := by
  unfold fX7_degreeOn_b3 at h
  refine sx_iload (j := 4) dX7_degreeOn_3 rfl ?_
  refine sx_iconst (v := (5 : Int32)) dX7_degreeOn_5 (by decide) ?_
  refine sx_icmp_ge (tgt := 34) dX7_degreeOn_6 rfl (fun c1 => ?_) (fun c1 => ?_)
  · have h := if_e c1 h
    obtain rfl := Option.some.inj h
    exact sx_sub [0, 1, 3] rfl (k2 _ rfl)
  · have h := if_n c1 h
    refine sx_aload_n (i := 0) (j := 0) dX7_degreeOn_9 rfl rfl ?_
    refine sx_get (k := 16) (v := .ref (a0 + 8)) dX7_degreeOn_10 (X7_k h0) cf_7 (Or.inl wd_972) (by decide : 16 < 20) (congrArg Value.ref (X7_r16 h0)) ?_
    refine sx_iload (j := 4) dX7_degreeOn_13 rfl ?_
    refine sx_iload (j := 4) dX7_degreeOn_15 rfl ?_
    refine sx_iload_n (i := 2) (j := 2) dX7_degreeOn_17 rfl rfl ?_
    refine sx_icmp_ne (tgt := 25) dX7_degreeOn_18 rfl (fun c2 => ?_) (fun c2 => ?_)
    · have h := if_e c2 h
      refine sx_iconst (v := (0 : Int32)) dX7_degreeOn_21 (by decide) ?_
      refine sx_goto (tgt := 27) dX7_degreeOn_22 rfl ?_
      exact sx_sub [0, 1, 2, 3, 4] rfl (tX7_degreeOn_j27 h0 h1 h k1 k2 k3)
    · have h := if_n c2 h
      refine sx_ldc (v := (1000000 : Int32)) dX7_degreeOn_25 wd_1169 ?_
      exact sx_sub [0, 1, 2, 3, 4] rfl (tX7_degreeOn_j27 h0 h1 h k1 k2 k3)
set_option maxRecDepth 100000 in
set_option maxHeartbeats 4000000 in
theorem tX7_degreeOn_j127 {l : Launch} {E : Ev} {r : Option Value} {L' L : HL} {a0 : Nat} {a1 : Nat} {n1 : Nat} {v3 : Int32} {v4 : Int32} {v5 : Int32} {v6 : Int32} {s1 : Int32} {s2 : Int32} {z : Tn (Int32 × HL) (Int32 × HL)} (h0 : isX7 E a0) (h1 : eK E a1 = some (.inr (0, n1))) (h : fX7_degreeOn_j127 a0 a1 n1 v3 v4 v5 v6 s1 s2 L = some z) (k1 : ∀ s, z = .inl s → Sx l E yX7_degreeOn cX7_degreeOn 7 (some .int) (2) r L' 57 [(0, .ref a0), (1, .ref a1), (3, .int v3), (4, .int v4), (5, .int v5), (6, .int s.1)] [] s.2) (k2 : ∀ s, z = .inr (.inl s) → Sx l E yX7_degreeOn cX7_degreeOn 7 (some .int) (2) r L' 134 [(0, .ref a0), (1, .ref a1), (3, .int v3), (4, .int v4), (5, .int v5)] [] s.2) (k3 : ∀ v, z = .inr (.inr v) → r = some (.int v.1) ∧ L' = v.2) : Sx l E yX7_degreeOn cX7_degreeOn 7 (some .int) (2) r L' 127 [(0, .ref a0), (1, .ref a1), (3, .int v3), (4, .int v4), (5, .int v5), (6, .int v6)] [.int s2, .int s1, .ref (a0 + 8)] L := by
  unfold fX7_degreeOn_j127 at h
  obtain ⟨c14, h⟩ := gd_e h
  refine sx_iast dX7_degreeOn_127 (X7_a16 h0) c14 (fun L15 eL15 => ?_)
  have h := lt_e eL15 h
  obtain ⟨w16, ew16⟩ : ∃ w : Int32, w = v6 + (1 : Int32) := ⟨_, rfl⟩
  have h := lt_e ew16 h
  refine sx_iinc (j := 5) (v := w16) (lv' := [(0, .ref a0), (1, .ref a1), (3, .int v3), (4, .int v4), (5, .int v5), (6, .int w16)]) dX7_degreeOn_128 rfl (ii_1 ew16) (by decide) rfl ?_
  refine sx_goto (tgt := 57) dX7_degreeOn_131 rfl ?_
  obtain rfl := Option.some.inj h
  exact sx_sub [0, 1, 2, 3, 4, 5] rfl (k1 _ rfl)
set_option maxRecDepth 100000 in
set_option maxHeartbeats 4000000 in
theorem tX7_degreeOn_j120 {l : Launch} {E : Ev} {r : Option Value} {L' L : HL} {a0 : Nat} {a1 : Nat} {n1 : Nat} {v3 : Int32} {v4 : Int32} {v5 : Int32} {v6 : Int32} {s1 : Int32} {z : Tn (Int32 × HL) (Int32 × HL)} (h0 : isX7 E a0) (h1 : eK E a1 = some (.inr (0, n1))) (h : fX7_degreeOn_j120 a0 a1 n1 v3 v4 v5 v6 s1 L = some z) (k1 : ∀ s, z = .inl s → Sx l E yX7_degreeOn cX7_degreeOn 7 (some .int) (2) r L' 57 [(0, .ref a0), (1, .ref a1), (3, .int v3), (4, .int v4), (5, .int v5), (6, .int s.1)] [] s.2) (k2 : ∀ s, z = .inr (.inl s) → Sx l E yX7_degreeOn cX7_degreeOn 7 (some .int) (2) r L' 134 [(0, .ref a0), (1, .ref a1), (3, .int v3), (4, .int v4), (5, .int v5)] [] s.2) (k3 : ∀ v, z = .inr (.inr v) → r = some (.int v.1) ∧ L' = v.2) : Sx l E yX7_degreeOn cX7_degreeOn 7 (some .int) (2) r L' 120 [(0, .ref a0), (1, .ref a1), (3, .int v3), (4, .int v4), (5, .int v5), (6, .int v6)] [.int s1, .ref (a0 + 8)] L := by
  unfold fX7_degreeOn_j120 at h
  refine sx_aload_n (i := 0) (j := 0) dX7_degreeOn_120 rfl rfl ?_
  refine sx_get (k := 16) (v := .ref (a0 + 8)) dX7_degreeOn_121 (X7_k h0) cf_7 (Or.inl wd_972) (by decide : 16 < 20) (congrArg Value.ref (X7_r16 h0)) ?_
  refine sx_iload (j := 5) dX7_degreeOn_124 rfl ?_
  obtain ⟨c13, h⟩ := gd_e h
  refine sx_iald dX7_degreeOn_126 (X7_a16 h0) c13 ?_
  exact sx_sub [0, 1, 2, 3, 4, 5] rfl (tX7_degreeOn_j127 h0 h1 h k1 k2 k3)
set_option maxRecDepth 100000 in
set_option maxHeartbeats 4000000 in
theorem tX7_degreeOn_b57 {l : Launch} {E : Ev} {r : Option Value} {L' L : HL} {a0 : Nat} {a1 : Nat} {n1 : Nat} {v3 : Int32} {v4 : Int32} {v5 : Int32} {v6 : Int32} {z : Tn (Int32 × HL) (Int32 × HL)} (h0 : isX7 E a0) (h1 : eK E a1 = some (.inr (0, n1))) (h : fX7_degreeOn_b57 a0 a1 n1 v3 v4 v5 v6 L = some z) (k1 : ∀ s, z = .inl s → Sx l E yX7_degreeOn cX7_degreeOn 7 (some .int) (2) r L' 57 [(0, .ref a0), (1, .ref a1), (3, .int v3), (4, .int v4), (5, .int v5), (6, .int s.1)] [] s.2) (k2 : ∀ s, z = .inr (.inl s) → Sx l E yX7_degreeOn cX7_degreeOn 7 (some .int) (2) r L' 134 [(0, .ref a0), (1, .ref a1), (3, .int v3), (4, .int v4), (5, .int v5)] [] s.2) (k3 : ∀ v, z = .inr (.inr v) → r = some (.int v.1) ∧ L' = v.2) : Sx l E yX7_degreeOn cX7_degreeOn 7 (some .int) (2) r L' 57 [(0, .ref a0), (1, .ref a1), (3, .int v3), (4, .int v4), (5, .int v5), (6, .int v6)] [] L := by
  unfold fX7_degreeOn_b57 at h
  refine sx_iload (j := 5) dX7_degreeOn_57 rfl ?_
  refine sx_aload_n (i := 1) (j := 1) dX7_degreeOn_59 rfl rfl ?_
  refine sx_iconst (v := (0 : Int32)) dX7_degreeOn_60 (by decide) ?_
  obtain ⟨c10, h⟩ := gd_e h
  refine sx_iald dX7_degreeOn_61 h1 c10 ?_
  refine sx_icmp_ge (tgt := 134) dX7_degreeOn_62 rfl (fun c11 => ?_) (fun c11 => ?_)
  · have h := if_e c11 h
    obtain rfl := Option.some.inj h
    exact sx_sub [0, 1, 2, 3, 4] rfl (k2 _ rfl)
  · have h := if_n c11 h
    refine sx_aload_n (i := 0) (j := 0) dX7_degreeOn_65 rfl rfl ?_
    refine sx_get (k := 16) (v := .ref (a0 + 8)) dX7_degreeOn_66 (X7_k h0) cf_7 (Or.inl wd_972) (by decide : 16 < 20) (congrArg Value.ref (X7_r16 h0)) ?_
    refine sx_iload (j := 5) dX7_degreeOn_69 rfl ?_
    refine sx_iload (j := 4) dX7_degreeOn_71 rfl ?_
    refine sx_iload (j := 5) dX7_degreeOn_73 rfl ?_
    refine sx_icmp_eq (tgt := 120) dX7_degreeOn_75 rfl (fun c12 => ?_) (fun c12 => ?_)
    · have h := if_e c12 h
      exact sx_sub [0, 1, 2, 3, 4, 5] rfl (tX7_degreeOn_j120 h0 h1 h k1 k2 k3)
    · have h := if_n c12 h
      refine sx_aload_n (i := 1) (j := 1) dX7_degreeOn_78 rfl rfl ?_
      refine sx_iload (j := 4) dX7_degreeOn_79 rfl ?_
      refine sx_iload (j := 5) dX7_degreeOn_81 rfl ?_
      obtain ⟨z17, ez17, h⟩ := bd_e h
      refine sx_callS (avs := [.ref a1, .int v5, .int v6]) (rest := [.int v6, .ref (a0 + 8)]) (st1 := [.int z17, .int v6, .ref (a0 + 8)]) dX7_degreeOn_83 (mX7_isKin h1 ez17) ctX7_isKin (Or.inl wd_1170) rfl rfl (rm_m rfl) rfl (Nat.le_of_ble_eq_true rfl) rfl ?_
      refine sx_if_eq (tgt := 120) dX7_degreeOn_86 rfl (fun c18 => ?_) (fun c18 => ?_)
      · have h := if_e c18 h
        exact sx_sub [0, 1, 2, 3, 4, 5] rfl (tX7_degreeOn_j120 h0 h1 h k1 k2 k3)
      · have h := if_n c18 h
        refine sx_aload_n (i := 0) (j := 0) dX7_degreeOn_89 rfl rfl ?_
        refine sx_get (k := 16) (v := .ref (a0 + 8)) dX7_degreeOn_90 (X7_k h0) cf_7 (Or.inl wd_972) (by decide : 16 < 20) (congrArg Value.ref (X7_r16 h0)) ?_
        refine sx_iload (j := 4) dX7_degreeOn_93 rfl ?_
        obtain ⟨c19, h⟩ := gd_e h
        refine sx_iald dX7_degreeOn_95 (X7_a16 h0) c19 ?_
        refine sx_iconst (v := (1 : Int32)) dX7_degreeOn_96 (by decide) ?_
        refine sx_iadd dX7_degreeOn_97 ?_
        refine sx_aload_n (i := 0) (j := 0) dX7_degreeOn_98 rfl rfl ?_
        refine sx_get (k := 16) (v := .ref (a0 + 8)) dX7_degreeOn_99 (X7_k h0) cf_7 (Or.inl wd_972) (by decide : 16 < 20) (congrArg Value.ref (X7_r16 h0)) ?_
        refine sx_iload (j := 5) dX7_degreeOn_102 rfl ?_
        obtain ⟨c20, h⟩ := gd_e h
        refine sx_iald dX7_degreeOn_104 (X7_a16 h0) c20 ?_
        refine sx_icmp_ge (tgt := 120) dX7_degreeOn_105 rfl (fun c21 => ?_) (fun c21 => ?_)
        · have h := if_e c21 h
          exact sx_sub [0, 1, 2, 3, 4, 5] rfl (tX7_degreeOn_j120 h0 h1 h k1 k2 k3)
        · have h := if_n c21 h
          refine sx_aload_n (i := 0) (j := 0) dX7_degreeOn_108 rfl rfl ?_
          refine sx_get (k := 16) (v := .ref (a0 + 8)) dX7_degreeOn_109 (X7_k h0) cf_7 (Or.inl wd_972) (by decide : 16 < 20) (congrArg Value.ref (X7_r16 h0)) ?_
          refine sx_iload (j := 4) dX7_degreeOn_112 rfl ?_
          obtain ⟨c22, h⟩ := gd_e h
          refine sx_iald dX7_degreeOn_114 (X7_a16 h0) c22 ?_
          refine sx_iconst (v := (1 : Int32)) dX7_degreeOn_115 (by decide) ?_
          refine sx_iadd dX7_degreeOn_116 ?_
          refine sx_goto (tgt := 127) dX7_degreeOn_117 rfl ?_
          exact sx_sub [0, 1, 2, 3, 4, 5] rfl (tX7_degreeOn_j127 h0 h1 h k1 k2 k3)
set_option maxRecDepth 100000 in
set_option maxHeartbeats 4000000 in
theorem tX7_degreeOn_b46 {l : Launch} {E : Ev} {r : Option Value} {L' L : HL} {a0 : Nat} {a1 : Nat} {n1 : Nat} {v3 : Int32} {v4 : Int32} {v5 : Int32} {z : Tn (Int32 × HL) (Int32 × HL)} (h0 : isX7 E a0) (h1 : eK E a1 = some (.inr (0, n1))) (h : fX7_degreeOn_b46 a0 a1 n1 v3 v4 v5 L = some z) (k1 : ∀ s, z = .inl s → Sx l E yX7_degreeOn cX7_degreeOn 7 (some .int) (2) r L' 46 [(0, .ref a0), (1, .ref a1), (3, .int v3), (4, .int v4), (5, .int s.1)] [] s.2) (k2 : ∀ s, z = .inr (.inl s) → Sx l E yX7_degreeOn cX7_degreeOn 7 (some .int) (2) r L' 140 [(0, .ref a0), (1, .ref a1), (3, .int v3), (4, .int v4)] [] s.2) (k3 : ∀ v, z = .inr (.inr v) → r = some (.int v.1) ∧ L' = v.2) : Sx l E yX7_degreeOn cX7_degreeOn 7 (some .int) (2) r L' 46 [(0, .ref a0), (1, .ref a1), (3, .int v3), (4, .int v4), (5, .int v5)] [] L := by
  unfold fX7_degreeOn_b46 at h
  refine sx_iload (j := 4) dX7_degreeOn_46 rfl ?_
  refine sx_aload_n (i := 1) (j := 1) dX7_degreeOn_48 rfl rfl ?_
  refine sx_iconst (v := (0 : Int32)) dX7_degreeOn_49 (by decide) ?_
  obtain ⟨c8, h⟩ := gd_e h
  refine sx_iald dX7_degreeOn_50 h1 c8 ?_
  refine sx_icmp_ge (tgt := 140) dX7_degreeOn_51 rfl (fun c9 => ?_) (fun c9 => ?_)
  · have h := if_e c9 h
    obtain rfl := Option.some.inj h
    exact sx_sub [0, 1, 2, 3] rfl (k2 _ rfl)
  · have h := if_n c9 h
    refine sx_iconst (v := (0 : Int32)) dX7_degreeOn_54 (by decide) ?_
    refine sx_istore (lv' := [(0, .ref a0), (1, .ref a1), (3, .int v3), (4, .int v4), (5, .int v5), (6, .int (0 : Int32))]) dX7_degreeOn_55 (by decide) rfl ?_
    obtain ⟨x25, hx, q1, q2⟩ := lx_e h
    refine sx_sub (lv' := [(0, .ref a0), (1, .ref a1), (3, .int v3), (4, .int v4), (5, .int v5), (6, .int (0 : Int32))]) [0, 1, 2, 3, 4, 5] rfl ?_
    refine lp_go (fun s23 => Sx l E yX7_degreeOn cX7_degreeOn 7 (some .int) (2) r L' 57 [(0, .ref a0), (1, .ref a1), (3, .int v3), (4, .int v4), (5, .int v5), (6, .int s23.1)] [] s23.2) x25 (fun s23 z2 hz c1 c2 => ?_) FU _ hx
    refine tX7_degreeOn_b57 h0 h1 hz (fun s2 e => c1 s2 e) (fun s23 e => ?_) (fun v e => ?_)
    · have h := q1 _ (c2 _ e).symm
      obtain ⟨w24, ew24⟩ : ∃ w : Int32, w = v5 + (1 : Int32) := ⟨_, rfl⟩
      have h := lt_e ew24 h
      refine sx_iinc (j := 4) (v := w24) (lv' := [(0, .ref a0), (1, .ref a1), (3, .int v3), (4, .int v4), (5, .int w24)]) dX7_degreeOn_134 rfl (ii_1 ew24) (by decide) rfl ?_
      refine sx_goto (tgt := 46) dX7_degreeOn_137 rfl ?_
      obtain rfl := Option.some.inj h
      exact sx_sub [0, 1, 2, 3, 4] rfl (k1 _ rfl)
    · exact k3 _ (Option.some.inj (q2 _ (c2 _ e).symm)).symm
set_option maxRecDepth 100000 in
set_option maxHeartbeats 4000000 in
theorem tX7_degreeOn_b37 {l : Launch} {E : Ev} {r : Option Value} {L' L : HL} {a0 : Nat} {a1 : Nat} {n1 : Nat} {v3 : Int32} {v4 : Int32} {z : Tn (Int32 × HL) (Int32 × HL)} (h0 : isX7 E a0) (h1 : eK E a1 = some (.inr (0, n1))) (h : fX7_degreeOn_b37 a0 a1 n1 v3 v4 L = some z) (k1 : ∀ s, z = .inl s → Sx l E yX7_degreeOn cX7_degreeOn 7 (some .int) (2) r L' 37 [(0, .ref a0), (1, .ref a1), (3, .int v3), (4, .int s.1)] [] s.2) (k2 : ∀ s, z = .inr (.inl s) → Sx l E yX7_degreeOn cX7_degreeOn 7 (some .int) (2) r L' 146 [(0, .ref a0), (3, .int v3)] [] s.2) (k3 : ∀ v, z = .inr (.inr v) → r = some (.int v.1) ∧ L' = v.2) : Sx l E yX7_degreeOn cX7_degreeOn 7 (some .int) (2) r L' 37 [(0, .ref a0), (1, .ref a1), (3, .int v3), (4, .int v4)] [] L := by
  unfold fX7_degreeOn_b37 at h
  refine sx_iload (j := 3) dX7_degreeOn_37 rfl ?_
  refine sx_iconst (v := (5 : Int32)) dX7_degreeOn_39 (by decide) ?_
  refine sx_icmp_ge (tgt := 146) dX7_degreeOn_40 rfl (fun c7 => ?_) (fun c7 => ?_)
  · have h := if_e c7 h
    obtain rfl := Option.some.inj h
    exact sx_sub [0, 2] rfl (k2 _ rfl)
  · have h := if_n c7 h
    refine sx_iconst (v := (0 : Int32)) dX7_degreeOn_43 (by decide) ?_
    refine sx_istore (lv' := [(0, .ref a0), (1, .ref a1), (3, .int v3), (4, .int v4), (5, .int (0 : Int32))]) dX7_degreeOn_44 (by decide) rfl ?_
    obtain ⟨x28, hx, q1, q2⟩ := lx_e h
    refine sx_sub (lv' := [(0, .ref a0), (1, .ref a1), (3, .int v3), (4, .int v4), (5, .int (0 : Int32))]) [0, 1, 2, 3, 4] rfl ?_
    refine lp_go (fun s26 => Sx l E yX7_degreeOn cX7_degreeOn 7 (some .int) (2) r L' 46 [(0, .ref a0), (1, .ref a1), (3, .int v3), (4, .int v4), (5, .int s26.1)] [] s26.2) x28 (fun s26 z2 hz c1 c2 => ?_) FU _ hx
    refine tX7_degreeOn_b46 h0 h1 hz (fun s2 e => c1 s2 e) (fun s26 e => ?_) (fun v e => ?_)
    · have h := q1 _ (c2 _ e).symm
      obtain ⟨w27, ew27⟩ : ∃ w : Int32, w = v4 + (1 : Int32) := ⟨_, rfl⟩
      have h := lt_e ew27 h
      refine sx_iinc (j := 3) (v := w27) (lv' := [(0, .ref a0), (1, .ref a1), (3, .int v3), (4, .int w27)]) dX7_degreeOn_140 rfl (ii_1 ew27) (by decide) rfl ?_
      refine sx_goto (tgt := 37) dX7_degreeOn_143 rfl ?_
      obtain rfl := Option.some.inj h
      exact sx_sub [0, 1, 2, 3] rfl (k1 _ rfl)
    · exact k3 _ (Option.some.inj (q2 _ (c2 _ e).symm)).symm
set_option maxRecDepth 100000 in
set_option maxHeartbeats 4000000 in
theorem mX7_degreeOn {l : Launch} {E : Ev} {L : HL} {a0 : Nat} {a1 : Nat} {n1 : Nat} {v2 : Int32} {v3 : Int32} {z : Int32 × HL} (h0 : isX7 E a0) (h1 : eK E a1 = some (.inr (0, n1))) (h : fX7_degreeOn a0 a1 n1 v2 v3 L = some z) : Mt l E yX7_degreeOn cX7_degreeOn 7 (some .int) (2) [.ref a0, .ref a1, .int v2, .int v3] L (some (.int z.1)) (z.2) := by
  obtain ⟨r, hr⟩ : ∃ r : Option Value, r = some (.int z.1) := ⟨_, rfl⟩
  obtain ⟨L', hL'⟩ : ∃ L' : HL, L' = z.2 := ⟨_, rfl⟩
  have k3 : r = some (.int z.1) ∧ L' = z.2 := ⟨hr, hL'⟩
  refine mt_eq hr hL' ?_
  refine Mt.of (plainFor_of_name (by decide)) (Nat.le_of_ble_eq_true rfl) ?_
  refine sx_sub (lv' := [(0, .ref a0), (1, .ref a1), (2, .int v2), (3, .int v3)]) [0, 1, 2, 3] rfl ?_
  unfold fX7_degreeOn at h
  refine sx_iconst (v := (0 : Int32)) dX7_degreeOn_0 (by decide) ?_
  refine sx_istore (lv' := [(0, .ref a0), (1, .ref a1), (2, .int v2), (3, .int v3), (4, .int (0 : Int32))]) dX7_degreeOn_1 (by decide) rfl ?_
  obtain ⟨x34, hx, q1, q2⟩ := lx_e h
  refine sx_sub (lv' := [(0, .ref a0), (1, .ref a1), (2, .int v2), (3, .int v3), (4, .int (0 : Int32))]) [0, 1, 2, 3, 4] rfl ?_
  refine lp_go (fun s6 => Sx l E yX7_degreeOn cX7_degreeOn 7 (some .int) (2) r L' 3 [(0, .ref a0), (1, .ref a1), (2, .int v2), (3, .int v3), (4, .int s6.1)] [] s6.2) x34 (fun s6 z2 hz c1 c2 => ?_) FU _ hx
  refine tX7_degreeOn_b3 h0 h1 hz (fun s2 e => c1 s2 e) (fun s6 e => ?_) (fun v e => ?_)
  · have h := q1 _ (c2 _ e).symm
    refine sx_iconst (v := (0 : Int32)) dX7_degreeOn_34 (by decide) ?_
    refine sx_istore (lv' := [(0, .ref a0), (1, .ref a1), (3, .int v3), (4, .int (0 : Int32))]) dX7_degreeOn_35 (by decide) rfl ?_
    obtain ⟨x33, hx, q1, q2⟩ := lx_e h
    refine sx_sub (lv' := [(0, .ref a0), (1, .ref a1), (3, .int v3), (4, .int (0 : Int32))]) [0, 1, 2, 3] rfl ?_
    refine lp_go (fun s29 => Sx l E yX7_degreeOn cX7_degreeOn 7 (some .int) (2) r L' 37 [(0, .ref a0), (1, .ref a1), (3, .int v3), (4, .int s29.1)] [] s29.2) x33 (fun s29 z2 hz c1 c2 => ?_) FU _ hx
    refine tX7_degreeOn_b37 h0 h1 hz (fun s2 e => c1 s2 e) (fun s29 e => ?_) (fun v e => ?_)
    · have h := q1 _ (c2 _ e).symm
      refine sx_aload_n (i := 0) (j := 0) dX7_degreeOn_146 rfl rfl ?_
      refine sx_get (k := 16) (v := .ref (a0 + 8)) dX7_degreeOn_147 (X7_k h0) cf_7 (Or.inl wd_972) (by decide : 16 < 20) (congrArg Value.ref (X7_r16 h0)) ?_
      refine sx_iload_n (i := 3) (j := 1) dX7_degreeOn_150 rfl rfl ?_
      obtain ⟨c30, h⟩ := gd_e h
      refine sx_iald dX7_degreeOn_151 (X7_a16 h0) c30 ?_
      refine sx_ldc (v := (1000000 : Int32)) dX7_degreeOn_152 wd_1169 ?_
      refine sx_icmp_ge (tgt := 166) dX7_degreeOn_154 rfl (fun c31 => ?_) (fun c31 => ?_)
      · have h := if_e c31 h
        refine sx_iconst (v := (-1 : Int32)) dX7_degreeOn_166 (by decide) ?_
        obtain rfl := Option.some.inj h
        exact sx_iret dX7_degreeOn_167 rfl rfl k3.1 k3.2
      · have h := if_n c31 h
        refine sx_aload_n (i := 0) (j := 0) dX7_degreeOn_157 rfl rfl ?_
        refine sx_get (k := 16) (v := .ref (a0 + 8)) dX7_degreeOn_158 (X7_k h0) cf_7 (Or.inl wd_972) (by decide : 16 < 20) (congrArg Value.ref (X7_r16 h0)) ?_
        refine sx_iload_n (i := 3) (j := 1) dX7_degreeOn_161 rfl rfl ?_
        obtain ⟨c32, h⟩ := gd_e h
        refine sx_iald dX7_degreeOn_162 (X7_a16 h0) c32 ?_
        refine sx_goto (tgt := 167) dX7_degreeOn_163 rfl ?_
        obtain rfl := Option.some.inj h
        exact sx_iret dX7_degreeOn_167 rfl rfl k3.1 k3.2
    · have e2 := Option.some.inj (q2 _ (c2 _ e).symm)
      subst e2
      exact k3
  · have e2 := Option.some.inj (q2 _ (c2 _ e).symm)
    subst e2
    exact k3
set_option maxRecDepth 100000 in
set_option maxHeartbeats 4000000 in
theorem tX7_livingIn_b4 {l : Launch} {E : Ev} {r : Option Value} {L' L : HL} {a0 : Nat} {n0 : Nat} {v1 : Int32} {v2 : Int32} {v3 : Int32} {z : Tn (Int32 × Int32) (Int32)} (h0 : eK E a0 = some (.inr (0, n0))) (h : fX7_livingIn_b4 a0 n0 v1 v2 v3 L = some z) (k1 : ∀ s, z = .inl s → Sx l E yX7_livingIn cX7_livingIn 4 (some .int) (1) r L' 4 [(0, .ref a0), (1, .int v1), (2, .int s.1), (3, .int s.2)] [] L) (k2 : ∀ s, z = .inr (.inl s) → Sx l E yX7_livingIn cX7_livingIn 4 (some .int) (1) r L' 37 [(2, .int s.1)] [] L) (k3 : ∀ v, z = .inr (.inr v) → r = some (.int v) ∧ L' = L) : Sx l E yX7_livingIn cX7_livingIn 4 (some .int) (1) r L' 4 [(0, .ref a0), (1, .int v1), (2, .int v2), (3, .int v3)] [] L := by
  unfold fX7_livingIn_b4 at h
  refine sx_iload_n (i := 3) (j := 3) dX7_livingIn_4 rfl rfl ?_
  refine sx_aload_n (i := 0) (j := 0) dX7_livingIn_5 rfl rfl ?_
  refine sx_iconst (v := (1 : Int32)) dX7_livingIn_6 (by decide) ?_
  obtain ⟨c1, h⟩ := gd_e h
  refine sx_iald dX7_livingIn_7 h0 c1 ?_
  refine sx_icmp_ge (tgt := 37) dX7_livingIn_8 rfl (fun c2 => ?_) (fun c2 => ?_)
  · have h := if_e c2 h
    obtain rfl := Option.some.inj h
    exact sx_sub [2] rfl (k2 _ rfl)
  · have h := if_n c2 h
    refine sx_iload_n (i := 2) (j := 2) dX7_livingIn_11 rfl rfl ?_
    refine sx_aload_n (i := 0) (j := 0) dX7_livingIn_12 rfl rfl ?_
    refine sx_bipush (v := (70 : Int32)) dX7_livingIn_13 (by decide) ?_
    refine sx_iload_n (i := 3) (j := 3) dX7_livingIn_15 rfl rfl ?_
    refine sx_iadd dX7_livingIn_16 ?_
    obtain ⟨c3, h⟩ := gd_e h
    refine sx_iald dX7_livingIn_17 h0 c3 ?_
    refine sx_iload_n (i := 1) (j := 1) dX7_livingIn_18 rfl rfl ?_
    refine sx_icmp_ne (tgt := 28) dX7_livingIn_19 rfl (fun c4 => ?_) (fun c4 => ?_)
    · have h := if_e c4 h
      refine sx_iconst (v := (1 : Int32)) dX7_livingIn_22 (by decide) ?_
      refine sx_iload_n (i := 3) (j := 3) dX7_livingIn_23 rfl rfl ?_
      refine sx_ishl dX7_livingIn_24 ?_
      refine sx_goto (tgt := 29) dX7_livingIn_25 rfl ?_
      refine sx_ior dX7_livingIn_29 ?_
      refine sx_topi (fun w5 ew5 => ?_)
      have h := lt_e ew5 h
      refine sx_istore_n (i := 2) (lv' := [(0, .ref a0), (1, .int v1), (2, .int w5), (3, .int v3)]) dX7_livingIn_30 rfl (by decide) rfl ?_
      obtain ⟨w6, ew6⟩ : ∃ w : Int32, w = v3 + (1 : Int32) := ⟨_, rfl⟩
      have h := lt_e ew6 h
      refine sx_iinc (j := 3) (v := w6) (lv' := [(0, .ref a0), (1, .int v1), (2, .int w5), (3, .int w6)]) dX7_livingIn_31 rfl (ii_1 ew6) (by decide) rfl ?_
      refine sx_goto (tgt := 4) dX7_livingIn_34 rfl ?_
      obtain rfl := Option.some.inj h
      exact sx_sub [0, 1, 2, 3] rfl (k1 _ rfl)
    · have h := if_n c4 h
      refine sx_iconst (v := (0 : Int32)) dX7_livingIn_28 (by decide) ?_
      refine sx_ior dX7_livingIn_29 ?_
      refine sx_topi (fun w7 ew7 => ?_)
      have h := lt_e ew7 h
      refine sx_istore_n (i := 2) (lv' := [(0, .ref a0), (1, .int v1), (2, .int w7), (3, .int v3)]) dX7_livingIn_30 rfl (by decide) rfl ?_
      obtain ⟨w8, ew8⟩ : ∃ w : Int32, w = v3 + (1 : Int32) := ⟨_, rfl⟩
      have h := lt_e ew8 h
      refine sx_iinc (j := 3) (v := w8) (lv' := [(0, .ref a0), (1, .int v1), (2, .int w7), (3, .int w8)]) dX7_livingIn_31 rfl (ii_1 ew8) (by decide) rfl ?_
      refine sx_goto (tgt := 4) dX7_livingIn_34 rfl ?_
      obtain rfl := Option.some.inj h
      exact sx_sub [0, 1, 2, 3] rfl (k1 _ rfl)
set_option maxRecDepth 100000 in
set_option maxHeartbeats 4000000 in
theorem mX7_livingIn {l : Launch} {E : Ev} {L : HL} {a0 : Nat} {n0 : Nat} {v1 : Int32} {z : Int32} (h0 : eK E a0 = some (.inr (0, n0))) (h : fX7_livingIn a0 n0 v1 L = some z) : Mt l E yX7_livingIn cX7_livingIn 4 (some .int) (1) [.ref a0, .int v1] L (some (.int z)) L := by
  obtain ⟨r, hr⟩ : ∃ r : Option Value, r = some (.int z) := ⟨_, rfl⟩
  obtain ⟨L', hL'⟩ : ∃ L' : HL, L' = L := ⟨_, rfl⟩
  have k3 : r = some (.int z) ∧ L' = L := ⟨hr, hL'⟩
  refine mt_eq hr hL' ?_
  refine Mt.of (plainFor_of_name (by decide)) (Nat.le_of_ble_eq_true rfl) ?_
  refine sx_sub (lv' := [(0, .ref a0), (1, .int v1)]) [0, 1] rfl ?_
  unfold fX7_livingIn at h
  refine sx_iconst (v := (0 : Int32)) dX7_livingIn_0 (by decide) ?_
  refine sx_istore_n (i := 2) (lv' := [(0, .ref a0), (1, .int v1), (2, .int (0 : Int32))]) dX7_livingIn_1 rfl (by decide) rfl ?_
  refine sx_iconst (v := (0 : Int32)) dX7_livingIn_2 (by decide) ?_
  refine sx_istore_n (i := 3) (lv' := [(0, .ref a0), (1, .int v1), (2, .int (0 : Int32)), (3, .int (0 : Int32))]) dX7_livingIn_3 rfl (by decide) rfl ?_
  obtain ⟨x10, hx, q1, q2⟩ := lx_e h
  refine sx_sub (lv' := [(0, .ref a0), (1, .int v1), (2, .int (0 : Int32)), (3, .int (0 : Int32))]) [0, 1, 2, 3] rfl ?_
  refine lp_go (fun s9 => Sx l E yX7_livingIn cX7_livingIn 4 (some .int) (1) r L' 4 [(0, .ref a0), (1, .int v1), (2, .int s9.1), (3, .int s9.2)] [] L) x10 (fun s9 z2 hz c1 c2 => ?_) FU _ hx
  refine tX7_livingIn_b4 h0 hz (fun s2 e => c1 s2 e) (fun s9 e => ?_) (fun v e => ?_)
  · have h := q1 _ (c2 _ e).symm
    refine sx_iload_n (i := 2) (j := 0) dX7_livingIn_37 rfl rfl ?_
    obtain rfl := Option.some.inj h
    exact sx_iret dX7_livingIn_38 rfl rfl k3.1 k3.2
  · have e2 := Option.some.inj (q2 _ (c2 _ e).symm)
    subst e2
    exact k3
set_option maxRecDepth 100000 in
set_option maxHeartbeats 4000000 in
theorem tX7_isFeud_j72 {l : Launch} {E : Ev} {r : Option Value} {L' L : HL} {a0 : Nat} {n0 : Nat} {v1 : Int32} {v2 : Int32} {v3 : Int32} {v4 : Int32} {v5 : Int32} {z : Tn (Int32 × Int32) (Int32)} (h0 : eK E a0 = some (.inr (0, n0))) (h : fX7_isFeud_j72 a0 n0 v1 v2 v3 v4 v5 L = some z) (k1 : ∀ s, z = .inl s → Sx l E yX7_isFeud cX7_isFeud 6 (some .boolean) (2) r L' 16 [(0, .ref a0), (1, .int v1), (2, .int v2), (3, .int s.1), (4, .int v4), (5, .int s.2)] [] L) (k2 : ∀ s, z = .inr (.inl s) → Sx l E yX7_isFeud cX7_isFeud 6 (some .boolean) (2) r L' 84 [(0, .ref a0), (1, .int v1), (2, .int v2), (3, .int s.1), (4, .int v4)] [] L) (k3 : ∀ v, z = .inr (.inr v) → r = some (.int v) ∧ L' = L) : Sx l E yX7_isFeud cX7_isFeud 6 (some .boolean) (2) r L' 72 [(0, .ref a0), (1, .int v1), (2, .int v2), (4, .int v4), (5, .int v5)] [] L := by
  unfold fX7_isFeud_j72 at h
  refine sx_iconst (v := (1 : Int32)) dX7_isFeud_72 (by decide) ?_
  refine sx_goto (tgt := 77) dX7_isFeud_73 rfl ?_
  refine sx_istore_n (i := 3) (lv' := [(0, .ref a0), (1, .int v1), (2, .int v2), (3, .int (1 : Int32)), (4, .int v4), (5, .int v5)]) dX7_isFeud_77 rfl (by decide) rfl ?_
  obtain ⟨w16, ew16⟩ : ∃ w : Int32, w = v5 + (1 : Int32) := ⟨_, rfl⟩
  have h := lt_e ew16 h
  refine sx_iinc (j := 5) (v := w16) (lv' := [(0, .ref a0), (1, .int v1), (2, .int v2), (3, .int (1 : Int32)), (4, .int v4), (5, .int w16)]) dX7_isFeud_78 rfl (ii_1 ew16) (by decide) rfl ?_
  refine sx_goto (tgt := 16) dX7_isFeud_81 rfl ?_
  obtain rfl := Option.some.inj h
  exact sx_sub [0, 1, 2, 3, 4, 5] rfl (k1 _ rfl)
set_option maxRecDepth 100000 in
set_option maxHeartbeats 4000000 in
theorem tX7_isFeud_b16 {l : Launch} {E : Ev} {r : Option Value} {L' L : HL} {a0 : Nat} {n0 : Nat} {v1 : Int32} {v2 : Int32} {v3 : Int32} {v4 : Int32} {v5 : Int32} {z : Tn (Int32 × Int32) (Int32)} (h0 : eK E a0 = some (.inr (0, n0))) (h : fX7_isFeud_b16 a0 n0 v1 v2 v3 v4 v5 L = some z) (k1 : ∀ s, z = .inl s → Sx l E yX7_isFeud cX7_isFeud 6 (some .boolean) (2) r L' 16 [(0, .ref a0), (1, .int v1), (2, .int v2), (3, .int s.1), (4, .int v4), (5, .int s.2)] [] L) (k2 : ∀ s, z = .inr (.inl s) → Sx l E yX7_isFeud cX7_isFeud 6 (some .boolean) (2) r L' 84 [(0, .ref a0), (1, .int v1), (2, .int v2), (3, .int s.1), (4, .int v4)] [] L) (k3 : ∀ v, z = .inr (.inr v) → r = some (.int v) ∧ L' = L) : Sx l E yX7_isFeud cX7_isFeud 6 (some .boolean) (2) r L' 16 [(0, .ref a0), (1, .int v1), (2, .int v2), (3, .int v3), (4, .int v4), (5, .int v5)] [] L := by
  unfold fX7_isFeud_b16 at h
  refine sx_iload (j := 5) dX7_isFeud_16 rfl ?_
  refine sx_aload_n (i := 0) (j := 0) dX7_isFeud_18 rfl rfl ?_
  refine sx_iconst (v := (1 : Int32)) dX7_isFeud_19 (by decide) ?_
  obtain ⟨c3, h⟩ := gd_e h
  refine sx_iald dX7_isFeud_20 h0 c3 ?_
  refine sx_icmp_ge (tgt := 84) dX7_isFeud_21 rfl (fun c4 => ?_) (fun c4 => ?_)
  · have h := if_e c4 h
    obtain rfl := Option.some.inj h
    exact sx_sub [0, 1, 2, 3, 4] rfl (k2 _ rfl)
  · have h := if_n c4 h
    refine sx_iload_n (i := 3) (j := 3) dX7_isFeud_24 rfl rfl ?_
    refine sx_if_ne (tgt := 72) dX7_isFeud_25 rfl (fun c5 => ?_) (fun c5 => ?_)
    · have h := if_e c5 h
      refine sx_iload_n (i := 1) (j := 1) dX7_isFeud_28 rfl rfl ?_
      refine sx_iload (j := 4) dX7_isFeud_29 rfl ?_
      obtain ⟨z6, ez6, h⟩ := bd_e h
      refine sx_callS (avs := [.int v1, .int v4]) (rest := []) (st1 := [.int z6]) dX7_isFeud_31 (mX7_holds ez6) ctX7_holds (Or.inl wd_1182) rfl rfl (rm_m rfl) rfl (Nat.le_of_ble_eq_true rfl) rfl ?_
      refine sx_if_eq (tgt := 76) dX7_isFeud_34 rfl (fun c7 => ?_) (fun c7 => ?_)
      · have h := if_e c7 h
        refine sx_iconst (v := (0 : Int32)) dX7_isFeud_76 (by decide) ?_
        refine sx_istore_n (i := 3) (lv' := [(0, .ref a0), (1, .int v1), (2, .int v2), (3, .int (0 : Int32)), (4, .int v4), (5, .int v5)]) dX7_isFeud_77 rfl (by decide) rfl ?_
        obtain ⟨w8, ew8⟩ : ∃ w : Int32, w = v5 + (1 : Int32) := ⟨_, rfl⟩
        have h := lt_e ew8 h
        refine sx_iinc (j := 5) (v := w8) (lv' := [(0, .ref a0), (1, .int v1), (2, .int v2), (3, .int (0 : Int32)), (4, .int v4), (5, .int w8)]) dX7_isFeud_78 rfl (ii_1 ew8) (by decide) rfl ?_
        refine sx_goto (tgt := 16) dX7_isFeud_81 rfl ?_
        obtain rfl := Option.some.inj h
        exact sx_sub [0, 1, 2, 3, 4, 5] rfl (k1 _ rfl)
      · have h := if_n c7 h
        refine sx_iload_n (i := 2) (j := 2) dX7_isFeud_37 rfl rfl ?_
        refine sx_iload (j := 5) dX7_isFeud_38 rfl ?_
        obtain ⟨z9, ez9, h⟩ := bd_e h
        refine sx_callS (avs := [.int v2, .int v5]) (rest := []) (st1 := [.int z9]) dX7_isFeud_40 (mX7_holds ez9) ctX7_holds (Or.inl wd_1182) rfl rfl (rm_m rfl) rfl (Nat.le_of_ble_eq_true rfl) rfl ?_
        refine sx_if_eq (tgt := 76) dX7_isFeud_43 rfl (fun c10 => ?_) (fun c10 => ?_)
        · have h := if_e c10 h
          refine sx_iconst (v := (0 : Int32)) dX7_isFeud_76 (by decide) ?_
          refine sx_istore_n (i := 3) (lv' := [(0, .ref a0), (1, .int v1), (2, .int v2), (3, .int (0 : Int32)), (4, .int v4), (5, .int v5)]) dX7_isFeud_77 rfl (by decide) rfl ?_
          obtain ⟨w11, ew11⟩ : ∃ w : Int32, w = v5 + (1 : Int32) := ⟨_, rfl⟩
          have h := lt_e ew11 h
          refine sx_iinc (j := 5) (v := w11) (lv' := [(0, .ref a0), (1, .int v1), (2, .int v2), (3, .int (0 : Int32)), (4, .int v4), (5, .int w11)]) dX7_isFeud_78 rfl (ii_1 ew11) (by decide) rfl ?_
          refine sx_goto (tgt := 16) dX7_isFeud_81 rfl ?_
          obtain rfl := Option.some.inj h
          exact sx_sub [0, 1, 2, 3, 4, 5] rfl (k1 _ rfl)
        · have h := if_n c10 h
          refine sx_aload_n (i := 0) (j := 0) dX7_isFeud_46 rfl rfl ?_
          refine sx_bipush (v := (76 : Int32)) dX7_isFeud_47 (by decide) ?_
          refine sx_iconst (v := (4 : Int32)) dX7_isFeud_49 (by decide) ?_
          refine sx_aload_n (i := 0) (j := 0) dX7_isFeud_50 rfl rfl ?_
          refine sx_bipush (v := (64 : Int32)) dX7_isFeud_51 (by decide) ?_
          refine sx_iload (j := 4) dX7_isFeud_53 rfl ?_
          refine sx_iadd dX7_isFeud_55 ?_
          obtain ⟨c12, h⟩ := gd_e h
          refine sx_iald dX7_isFeud_56 h0 c12 ?_
          refine sx_imul dX7_isFeud_57 ?_
          refine sx_iadd dX7_isFeud_58 ?_
          refine sx_aload_n (i := 0) (j := 0) dX7_isFeud_59 rfl rfl ?_
          refine sx_bipush (v := (64 : Int32)) dX7_isFeud_60 (by decide) ?_
          refine sx_iload (j := 5) dX7_isFeud_62 rfl ?_
          refine sx_iadd dX7_isFeud_64 ?_
          obtain ⟨c13, h⟩ := gd_e h
          refine sx_iald dX7_isFeud_65 h0 c13 ?_
          refine sx_iadd dX7_isFeud_66 ?_
          obtain ⟨c14, h⟩ := gd_e h
          refine sx_iald dX7_isFeud_67 h0 c14 ?_
          refine sx_iconst (v := (1 : Int32)) dX7_isFeud_68 (by decide) ?_
          refine sx_icmp_ne (tgt := 76) dX7_isFeud_69 rfl (fun c15 => ?_) (fun c15 => ?_)
          · have h := if_e c15 h
            exact sx_sub [0, 1, 2, 4, 5] rfl (tX7_isFeud_j72 h0 h k1 k2 k3)
          · have h := if_n c15 h
            refine sx_iconst (v := (0 : Int32)) dX7_isFeud_76 (by decide) ?_
            refine sx_istore_n (i := 3) (lv' := [(0, .ref a0), (1, .int v1), (2, .int v2), (3, .int (0 : Int32)), (4, .int v4), (5, .int v5)]) dX7_isFeud_77 rfl (by decide) rfl ?_
            obtain ⟨w17, ew17⟩ : ∃ w : Int32, w = v5 + (1 : Int32) := ⟨_, rfl⟩
            have h := lt_e ew17 h
            refine sx_iinc (j := 5) (v := w17) (lv' := [(0, .ref a0), (1, .int v1), (2, .int v2), (3, .int (0 : Int32)), (4, .int v4), (5, .int w17)]) dX7_isFeud_78 rfl (ii_1 ew17) (by decide) rfl ?_
            refine sx_goto (tgt := 16) dX7_isFeud_81 rfl ?_
            obtain rfl := Option.some.inj h
            exact sx_sub [0, 1, 2, 3, 4, 5] rfl (k1 _ rfl)
    · have h := if_n c5 h
      exact sx_sub [0, 1, 2, 4, 5] rfl (tX7_isFeud_j72 h0 h k1 k2 k3)
set_option maxRecDepth 100000 in
set_option maxHeartbeats 4000000 in
theorem tX7_isFeud_b5 {l : Launch} {E : Ev} {r : Option Value} {L' L : HL} {a0 : Nat} {n0 : Nat} {v1 : Int32} {v2 : Int32} {v3 : Int32} {v4 : Int32} {z : Tn (Int32 × Int32) (Int32)} (h0 : eK E a0 = some (.inr (0, n0))) (h : fX7_isFeud_b5 a0 n0 v1 v2 v3 v4 L = some z) (k1 : ∀ s, z = .inl s → Sx l E yX7_isFeud cX7_isFeud 6 (some .boolean) (2) r L' 5 [(0, .ref a0), (1, .int v1), (2, .int v2), (3, .int s.1), (4, .int s.2)] [] L) (k2 : ∀ s, z = .inr (.inl s) → Sx l E yX7_isFeud cX7_isFeud 6 (some .boolean) (2) r L' 90 [(3, .int s.1)] [] L) (k3 : ∀ v, z = .inr (.inr v) → r = some (.int v) ∧ L' = L) : Sx l E yX7_isFeud cX7_isFeud 6 (some .boolean) (2) r L' 5 [(0, .ref a0), (1, .int v1), (2, .int v2), (3, .int v3), (4, .int v4)] [] L := by
  unfold fX7_isFeud_b5 at h
  refine sx_iload (j := 4) dX7_isFeud_5 rfl ?_
  refine sx_aload_n (i := 0) (j := 0) dX7_isFeud_7 rfl rfl ?_
  refine sx_iconst (v := (1 : Int32)) dX7_isFeud_8 (by decide) ?_
  obtain ⟨c1, h⟩ := gd_e h
  refine sx_iald dX7_isFeud_9 h0 c1 ?_
  refine sx_icmp_ge (tgt := 90) dX7_isFeud_10 rfl (fun c2 => ?_) (fun c2 => ?_)
  · have h := if_e c2 h
    obtain rfl := Option.some.inj h
    exact sx_sub [3] rfl (k2 _ rfl)
  · have h := if_n c2 h
    refine sx_iconst (v := (0 : Int32)) dX7_isFeud_13 (by decide) ?_
    refine sx_istore (lv' := [(0, .ref a0), (1, .int v1), (2, .int v2), (3, .int v3), (4, .int v4), (5, .int (0 : Int32))]) dX7_isFeud_14 (by decide) rfl ?_
    obtain ⟨x20, hx, q1, q2⟩ := lx_e h
    refine sx_sub (lv' := [(0, .ref a0), (1, .int v1), (2, .int v2), (3, .int v3), (4, .int v4), (5, .int (0 : Int32))]) [0, 1, 2, 3, 4, 5] rfl ?_
    refine lp_go (fun s18 => Sx l E yX7_isFeud cX7_isFeud 6 (some .boolean) (2) r L' 16 [(0, .ref a0), (1, .int v1), (2, .int v2), (3, .int s18.1), (4, .int v4), (5, .int s18.2)] [] L) x20 (fun s18 z2 hz c1 c2 => ?_) FU _ hx
    refine tX7_isFeud_b16 h0 hz (fun s2 e => c1 s2 e) (fun s18 e => ?_) (fun v e => ?_)
    · have h := q1 _ (c2 _ e).symm
      obtain ⟨w19, ew19⟩ : ∃ w : Int32, w = v4 + (1 : Int32) := ⟨_, rfl⟩
      have h := lt_e ew19 h
      refine sx_iinc (j := 4) (v := w19) (lv' := [(0, .ref a0), (1, .int v1), (2, .int v2), (3, .int s18.1), (4, .int w19)]) dX7_isFeud_84 rfl (ii_1 ew19) (by decide) rfl ?_
      refine sx_goto (tgt := 5) dX7_isFeud_87 rfl ?_
      obtain rfl := Option.some.inj h
      exact sx_sub [0, 1, 2, 3, 4] rfl (k1 _ rfl)
    · exact k3 _ (Option.some.inj (q2 _ (c2 _ e).symm)).symm
set_option maxRecDepth 100000 in
set_option maxHeartbeats 4000000 in
theorem mX7_isFeud {l : Launch} {E : Ev} {L : HL} {a0 : Nat} {n0 : Nat} {v1 : Int32} {v2 : Int32} {z : Int32} (h0 : eK E a0 = some (.inr (0, n0))) (h : fX7_isFeud a0 n0 v1 v2 L = some z) : Mt l E yX7_isFeud cX7_isFeud 6 (some .boolean) (2) [.ref a0, .int v1, .int v2] L (some (.int z)) L := by
  obtain ⟨r, hr⟩ : ∃ r : Option Value, r = some (.int z) := ⟨_, rfl⟩
  obtain ⟨L', hL'⟩ : ∃ L' : HL, L' = L := ⟨_, rfl⟩
  have k3 : r = some (.int z) ∧ L' = L := ⟨hr, hL'⟩
  refine mt_eq hr hL' ?_
  refine Mt.of (plainFor_of_name (by decide)) (Nat.le_of_ble_eq_true rfl) ?_
  refine sx_sub (lv' := [(0, .ref a0), (1, .int v1), (2, .int v2)]) [0, 1, 2] rfl ?_
  unfold fX7_isFeud at h
  refine sx_iconst (v := (0 : Int32)) dX7_isFeud_0 (by decide) ?_
  refine sx_istore_n (i := 3) (lv' := [(0, .ref a0), (1, .int v1), (2, .int v2), (3, .int (0 : Int32))]) dX7_isFeud_1 rfl (by decide) rfl ?_
  refine sx_iconst (v := (0 : Int32)) dX7_isFeud_2 (by decide) ?_
  refine sx_istore (lv' := [(0, .ref a0), (1, .int v1), (2, .int v2), (3, .int (0 : Int32)), (4, .int (0 : Int32))]) dX7_isFeud_3 (by decide) rfl ?_
  obtain ⟨x23, hx, q1, q2⟩ := lx_e h
  refine sx_sub (lv' := [(0, .ref a0), (1, .int v1), (2, .int v2), (3, .int (0 : Int32)), (4, .int (0 : Int32))]) [0, 1, 2, 3, 4] rfl ?_
  refine lp_go (fun s21 => Sx l E yX7_isFeud cX7_isFeud 6 (some .boolean) (2) r L' 5 [(0, .ref a0), (1, .int v1), (2, .int v2), (3, .int s21.1), (4, .int s21.2)] [] L) x23 (fun s21 z2 hz c1 c2 => ?_) FU _ hx
  refine tX7_isFeud_b5 h0 hz (fun s2 e => c1 s2 e) (fun s21 e => ?_) (fun v e => ?_)
  · have h := q1 _ (c2 _ e).symm
    refine sx_iload_n (i := 3) (j := 0) dX7_isFeud_90 rfl rfl ?_
    obtain ⟨c22, h⟩ := gd_e h
    obtain rfl := Option.some.inj h
    exact sx_iret dX7_isFeud_91 rfl (nb_of c22) k3.1 k3.2
  · have e2 := Option.some.inj (q2 _ (c2 _ e).symm)
    subst e2
    exact k3
set_option maxRecDepth 100000 in
set_option maxHeartbeats 4000000 in
theorem tX7_rankOn_j215 {l : Launch} {E : Ev} {r : Option Value} {L' L : HL} {a0 : Nat} {a1 : Nat} {n1 : Nat} {v5 : Int32} {s0 : Int32} {z : Int32 × HL} (h0 : isX7 E a0) (h1 : eK E a1 = some (.inr (0, n1))) (h : fX7_rankOn_j215 a0 a1 n1 v5 s0 L = some z) (k3 : r = some (.int z.1) ∧ L' = z.2) : Sx l E yX7_rankOn cX7_rankOn 9 (some .int) (3) r L' 215 [(5, .int v5)] [.int s0] L := by
  unfold fX7_rankOn_j215 at h
  refine sx_istore (lv' := [(5, .int v5), (8, .int s0)]) dX7_rankOn_215 (by decide) rfl ?_
  refine sx_iload (j := 1) dX7_rankOn_217 rfl ?_
  refine sx_if_eq (tgt := 228) dX7_rankOn_219 rfl (fun c12 => ?_) (fun c12 => ?_)
  · have h := if_e c12 h
    refine sx_iload (j := 0) dX7_rankOn_228 rfl ?_
    obtain rfl := Option.some.inj h
    exact sx_iret dX7_rankOn_230 rfl rfl k3.1 k3.2
  · have h := if_n c12 h
    refine sx_sipush (v := (1000 : Int32)) dX7_rankOn_222 (by decide) ?_
    refine sx_goto (tgt := 230) dX7_rankOn_225 rfl ?_
    obtain rfl := Option.some.inj h
    exact sx_iret dX7_rankOn_230 rfl rfl k3.1 k3.2
set_option maxRecDepth 100000 in
set_option maxHeartbeats 4000000 in
theorem tX7_rankOn_j210 {l : Launch} {E : Ev} {r : Option Value} {L' L : HL} {a0 : Nat} {a1 : Nat} {n1 : Nat} {v5 : Int32} {z : Int32 × HL} (h0 : isX7 E a0) (h1 : eK E a1 = some (.inr (0, n1))) (h : fX7_rankOn_j210 a0 a1 n1 v5 L = some z) (k3 : r = some (.int z.1) ∧ L' = z.2) : Sx l E yX7_rankOn cX7_rankOn 9 (some .int) (3) r L' 210 [(5, .int v5)] [] L := by
  unfold fX7_rankOn_j210 at h
  refine sx_iconst (v := (1 : Int32)) dX7_rankOn_210 (by decide) ?_
  refine sx_goto (tgt := 215) dX7_rankOn_211 rfl ?_
  exact sx_sub [0] rfl (tX7_rankOn_j215 h0 h1 h k3)
set_option maxRecDepth 100000 in
set_option maxHeartbeats 4000000 in
theorem tX7_rankOn_j214 {l : Launch} {E : Ev} {r : Option Value} {L' L : HL} {a0 : Nat} {a1 : Nat} {n1 : Nat} {v5 : Int32} {z : Int32 × HL} (h0 : isX7 E a0) (h1 : eK E a1 = some (.inr (0, n1))) (h : fX7_rankOn_j214 a0 a1 n1 v5 L = some z) (k3 : r = some (.int z.1) ∧ L' = z.2) : Sx l E yX7_rankOn cX7_rankOn 9 (some .int) (3) r L' 214 [(5, .int v5)] [] L := by
  unfold fX7_rankOn_j214 at h
  refine sx_iconst (v := (0 : Int32)) dX7_rankOn_214 (by decide) ?_
  exact sx_sub [0] rfl (tX7_rankOn_j215 h0 h1 h k3)
set_option maxRecDepth 100000 in
set_option maxHeartbeats 4000000 in
theorem tX7_rankOn_j115 {l : Launch} {E : Ev} {r : Option Value} {L' L : HL} {a0 : Nat} {a1 : Nat} {n1 : Nat} {v7 : Int32} {s0 : Int32} {z : Int32 × HL} (h0 : isX7 E a0) (h1 : eK E a1 = some (.inr (0, n1))) (h : fX7_rankOn_j115 a0 a1 n1 v7 s0 L = some z) (k3 : r = some (.int z.1) ∧ L' = z.2) : Sx l E yX7_rankOn cX7_rankOn 9 (some .int) (3) r L' 115 [(7, .int v7)] [.int s0] L := by
  unfold fX7_rankOn_j115 at h
  refine sx_iconst (v := (2 : Int32)) dX7_rankOn_115 (by decide) ?_
  refine sx_iload (j := 0) dX7_rankOn_116 rfl ?_
  obtain ⟨z36, ez36, h⟩ := bd_e h
  refine sx_callS (avs := [.int v7]) (rest := [.int (2 : Int32), .int s0]) (st1 := [.int z36, .int (2 : Int32), .int s0]) dX7_rankOn_118 (mX7_bits ez36) ctX7_bits (Or.inl wd_1176) rfl rfl (rm_m rfl) rfl (Nat.le_of_ble_eq_true rfl) rfl ?_
  refine sx_imul dX7_rankOn_121 ?_
  refine sx_isub dX7_rankOn_122 ?_
  obtain rfl := Option.some.inj h
  exact sx_iret dX7_rankOn_123 rfl rfl k3.1 k3.2
set_option maxRecDepth 100000 in
set_option maxHeartbeats 4000000 in
theorem mX7_rankOn {l : Launch} {E : Ev} {L : HL} {a0 : Nat} {a1 : Nat} {n1 : Nat} {v2 : Int32} {v3 : Int32} {v4 : Int32} {z : Int32 × HL} (h0 : isX7 E a0) (h1 : eK E a1 = some (.inr (0, n1))) (h : fX7_rankOn a0 a1 n1 v2 v3 v4 L = some z) : Mt l E yX7_rankOn cX7_rankOn 9 (some .int) (3) [.ref a0, .ref a1, .int v2, .int v3, .int v4] L (some (.int z.1)) (z.2) := by
  obtain ⟨r, hr⟩ : ∃ r : Option Value, r = some (.int z.1) := ⟨_, rfl⟩
  obtain ⟨L', hL'⟩ : ∃ L' : HL, L' = z.2 := ⟨_, rfl⟩
  have k3 : r = some (.int z.1) ∧ L' = z.2 := ⟨hr, hL'⟩
  refine mt_eq hr hL' ?_
  refine Mt.of (plainFor_of_name (by decide)) (Nat.le_of_ble_eq_true rfl) ?_
  refine sx_sub (lv' := [(0, .ref a0), (1, .ref a1), (2, .int v2), (3, .int v3), (4, .int v4)]) [0, 1, 2, 3, 4] rfl ?_
  unfold fX7_rankOn at h
  refine sx_aload_n (i := 1) (j := 1) dX7_rankOn_0 rfl rfl ?_
  refine sx_bipush (v := (29 : Int32)) dX7_rankOn_1 (by decide) ?_
  refine sx_iload_n (i := 3) (j := 3) dX7_rankOn_3 rfl rfl ?_
  refine sx_iadd dX7_rankOn_4 ?_
  obtain ⟨c1, h⟩ := gd_e h
  refine sx_iald dX7_rankOn_5 h1 c1 ?_
  refine sx_if_eq (tgt := 19) dX7_rankOn_6 rfl (fun c2 => ?_) (fun c2 => ?_)
  · have h := if_e c2 h
    refine sx_sipush (v := (1000 : Int32)) dX7_rankOn_19 (by decide) ?_
    obtain rfl := Option.some.inj h
    exact sx_iret dX7_rankOn_22 rfl rfl k3.1 k3.2
  · have h := if_n c2 h
    refine sx_aload_n (i := 1) (j := 1) dX7_rankOn_9 rfl rfl ?_
    refine sx_bipush (v := (29 : Int32)) dX7_rankOn_10 (by decide) ?_
    refine sx_iload (j := 4) dX7_rankOn_12 rfl ?_
    refine sx_iadd dX7_rankOn_14 ?_
    obtain ⟨c3, h⟩ := gd_e h
    refine sx_iald dX7_rankOn_15 h1 c3 ?_
    refine sx_if_ne (tgt := 23) dX7_rankOn_16 rfl (fun c4 => ?_) (fun c4 => ?_)
    · have h := if_e c4 h
      refine sx_sipush (v := (1000 : Int32)) dX7_rankOn_19 (by decide) ?_
      obtain rfl := Option.some.inj h
      exact sx_iret dX7_rankOn_22 rfl rfl k3.1 k3.2
    · have h := if_n c4 h
      refine sx_aload_n (i := 0) (j := 0) dX7_rankOn_23 rfl rfl ?_
      refine sx_aload_n (i := 1) (j := 1) dX7_rankOn_24 rfl rfl ?_
      refine sx_iload_n (i := 3) (j := 3) dX7_rankOn_25 rfl rfl ?_
      refine sx_iload (j := 4) dX7_rankOn_26 rfl ?_
      obtain ⟨z5, ez5, h⟩ := bd_e h
      refine sx_callV (avs := [.ref a1, .int v3, .int v4]) (rest := []) (st1 := [.int z5.1]) dX7_rankOn_28 (mX7_degreeOn h0 h1 ez5) ciX7_degreeOn (Or.inl wd_1165) (X7_k h0) rfl rfl rfl rfl (rm_m rfl) rfl (Nat.le_of_ble_eq_true rfl) rfl ?_
      refine sx_istore (lv' := [(0, .ref a0), (1, .ref a1), (2, .int v2), (3, .int v3), (4, .int v4), (5, .int z5.1)]) dX7_rankOn_31 (by decide) rfl ?_
      refine sx_aload_n (i := 1) (j := 1) dX7_rankOn_33 rfl rfl ?_
      refine sx_iload_n (i := 3) (j := 3) dX7_rankOn_34 rfl rfl ?_
      obtain ⟨z6, ez6, h⟩ := bd_e h
      refine sx_callS (avs := [.ref a1, .int v3]) (rest := []) (st1 := [.int z6]) dX7_rankOn_35 (mX7_livingIn h1 ez6) ctX7_livingIn (Or.inl wd_1173) rfl rfl (rm_m rfl) rfl (Nat.le_of_ble_eq_true rfl) rfl ?_
      refine sx_istore (lv' := [(0, .ref a0), (1, .ref a1), (2, .int v2), (3, .int v3), (4, .int v4), (5, .int z5.1), (6, .int z6)]) dX7_rankOn_38 (by decide) rfl ?_
      refine sx_aload_n (i := 1) (j := 1) dX7_rankOn_40 rfl rfl ?_
      refine sx_iload (j := 4) dX7_rankOn_41 rfl ?_
      obtain ⟨z7, ez7, h⟩ := bd_e h
      refine sx_callS (avs := [.ref a1, .int v4]) (rest := []) (st1 := [.int z7]) dX7_rankOn_43 (mX7_livingIn h1 ez7) ctX7_livingIn (Or.inl wd_1173) rfl rfl (rm_m rfl) rfl (Nat.le_of_ble_eq_true rfl) rfl ?_
      refine sx_istore (lv' := [(0, .ref a0), (1, .ref a1), (2, .int v2), (3, .int v3), (4, .int v4), (5, .int z5.1), (6, .int z6), (7, .int z7)]) dX7_rankOn_46 (by decide) rfl ?_
      refine sx_iload_n (i := 2) (j := 2) dX7_rankOn_48 rfl rfl ?_
      by_cases c8 : v2 = (0 : Int32)
      · have h := if_e c8 h
        refine sx_swIn (tgt := 153) (0 : Int32) dX7_rankOn_49 c8 (by decide) (by decide) rfl rfl ?_
        refine sx_iload (j := 5) dX7_rankOn_153 rfl ?_
        refine sx_iconst (v := (-1 : Int32)) dX7_rankOn_155 (by decide) ?_
        refine sx_icmp_ne (tgt := 165) dX7_rankOn_156 rfl (fun c9 => ?_) (fun c9 => ?_)
        · have h := if_e c9 h
          refine sx_sipush (v := (1000 : Int32)) dX7_rankOn_159 (by decide) ?_
          refine sx_goto (tgt := 167) dX7_rankOn_162 rfl ?_
          obtain rfl := Option.some.inj h
          exact sx_iret dX7_rankOn_167 rfl rfl k3.1 k3.2
        · have h := if_n c9 h
          refine sx_iload (j := 5) dX7_rankOn_165 rfl ?_
          obtain rfl := Option.some.inj h
          exact sx_iret dX7_rankOn_167 rfl rfl k3.1 k3.2
      have h := if_n c8 h
      by_cases c10 : v2 = (1 : Int32)
      · have h := if_e c10 h
        refine sx_swIn (tgt := 168) (1 : Int32) dX7_rankOn_49 c10 (by decide) (by decide) rfl rfl ?_
        refine sx_iload (j := 5) dX7_rankOn_168 rfl ?_
        refine sx_iconst (v := (-1 : Int32)) dX7_rankOn_170 (by decide) ?_
        refine sx_icmp_eq (tgt := 210) dX7_rankOn_171 rfl (fun c11 => ?_) (fun c11 => ?_)
        · have h := if_e c11 h
          exact sx_sub [5] rfl (tX7_rankOn_j210 h0 h1 h k3)
        · have h := if_n c11 h
          refine sx_aload_n (i := 1) (j := 1) dX7_rankOn_174 rfl rfl ?_
          refine sx_iconst (v := (4 : Int32)) dX7_rankOn_175 (by decide) ?_
          refine sx_iload (j := 4) dX7_rankOn_176 rfl ?_
          refine sx_iadd dX7_rankOn_178 ?_
          obtain ⟨c13, h⟩ := gd_e h
          refine sx_iald dX7_rankOn_179 h1 c13 ?_
          refine sx_iload (j := 7) dX7_rankOn_180 rfl ?_
          obtain ⟨z14, ez14, h⟩ := bd_e h
          refine sx_callS (avs := [.int z7]) (rest := [.int (z5.2.1 a1 ((4 : Int32) + v4).toNatClampNeg)]) (st1 := [.int z14, .int (z5.2.1 a1 ((4 : Int32) + v4).toNatClampNeg)]) dX7_rankOn_182 (mX7_bits ez14) ctX7_bits (Or.inl wd_1176) rfl rfl (rm_m rfl) rfl (Nat.le_of_ble_eq_true rfl) rfl ?_
          refine sx_isub dX7_rankOn_185 ?_
          refine sx_iload (j := 6) dX7_rankOn_186 rfl ?_
          obtain ⟨z15, ez15, h⟩ := bd_e h
          refine sx_callS (avs := [.int z6]) (rest := [.int ((z5.2.1 a1 ((4 : Int32) + v4).toNatClampNeg) - z14)]) (st1 := [.int z15, .int ((z5.2.1 a1 ((4 : Int32) + v4).toNatClampNeg) - z14)]) dX7_rankOn_188 (mX7_bits ez15) ctX7_bits (Or.inl wd_1176) rfl rfl (rm_m rfl) rfl (Nat.le_of_ble_eq_true rfl) rfl ?_
          refine sx_icmp_lt (tgt := 210) dX7_rankOn_191 rfl (fun c16 => ?_) (fun c16 => ?_)
          · have h := if_e c16 h
            exact sx_sub [5] rfl (tX7_rankOn_j210 h0 h1 h k3)
          · have h := if_n c16 h
            refine sx_iload_n (i := 2) (j := 2) dX7_rankOn_194 rfl rfl ?_
            refine sx_iconst (v := (3 : Int32)) dX7_rankOn_195 (by decide) ?_
            refine sx_icmp_ne (tgt := 214) dX7_rankOn_196 rfl (fun c17 => ?_) (fun c17 => ?_)
            · have h := if_e c17 h
              refine sx_aload_n (i := 1) (j := 1) dX7_rankOn_199 rfl rfl ?_
              refine sx_iload (j := 6) dX7_rankOn_200 rfl ?_
              refine sx_iload (j := 7) dX7_rankOn_202 rfl ?_
              obtain ⟨z18, ez18, h⟩ := bd_e h
              refine sx_callS (avs := [.ref a1, .int z6, .int z7]) (rest := []) (st1 := [.int z18]) dX7_rankOn_204 (mX7_isFeud h1 ez18) ctX7_isFeud (Or.inl wd_1179) rfl rfl (rm_m rfl) rfl (Nat.le_of_ble_eq_true rfl) rfl ?_
              refine sx_if_eq (tgt := 214) dX7_rankOn_207 rfl (fun c19 => ?_) (fun c19 => ?_)
              · have h := if_e c19 h
                exact sx_sub [5] rfl (tX7_rankOn_j214 h0 h1 h k3)
              · have h := if_n c19 h
                exact sx_sub [5] rfl (tX7_rankOn_j210 h0 h1 h k3)
            · have h := if_n c17 h
              exact sx_sub [5] rfl (tX7_rankOn_j214 h0 h1 h k3)
      have h := if_n c10 h
      by_cases c20 : v2 = (2 : Int32)
      · have h := if_e c20 h
        refine sx_swIn (tgt := 124) (2 : Int32) dX7_rankOn_49 c20 (by decide) (by decide) rfl rfl ?_
        refine sx_iload (j := 5) dX7_rankOn_124 rfl ?_
        refine sx_iconst (v := (-1 : Int32)) dX7_rankOn_126 (by decide) ?_
        refine sx_icmp_ne (tgt := 136) dX7_rankOn_127 rfl (fun c21 => ?_) (fun c21 => ?_)
        · have h := if_e c21 h
          refine sx_sipush (v := (1000 : Int32)) dX7_rankOn_130 (by decide) ?_
          refine sx_goto (tgt := 152) dX7_rankOn_133 rfl ?_
          obtain rfl := Option.some.inj h
          exact sx_iret dX7_rankOn_152 rfl rfl k3.1 k3.2
        · have h := if_n c21 h
          refine sx_bipush (v := (10 : Int32)) dX7_rankOn_136 (by decide) ?_
          refine sx_iload (j := 5) dX7_rankOn_138 rfl ?_
          refine sx_imul dX7_rankOn_140 ?_
          refine sx_aload_n (i := 1) (j := 1) dX7_rankOn_141 rfl rfl ?_
          refine sx_bipush (v := (9 : Int32)) dX7_rankOn_142 (by decide) ?_
          refine sx_iload (j := 4) dX7_rankOn_144 rfl ?_
          refine sx_iadd dX7_rankOn_146 ?_
          obtain ⟨c22, h⟩ := gd_e h
          refine sx_iald dX7_rankOn_147 h1 c22 ?_
          refine sx_bipush (v := (10 : Int32)) dX7_rankOn_148 (by decide) ?_
          refine sx_idiv dX7_rankOn_150 (by decide) ?_
          refine sx_isub dX7_rankOn_151 ?_
          obtain rfl := Option.some.inj h
          exact sx_iret dX7_rankOn_152 rfl rfl k3.1 k3.2
      have h := if_n c20 h
      by_cases c23 : v2 = (3 : Int32)
      · have h := if_e c23 h
        refine sx_swIn (tgt := 168) (3 : Int32) dX7_rankOn_49 c23 (by decide) (by decide) rfl rfl ?_
        refine sx_iload (j := 5) dX7_rankOn_168 rfl ?_
        refine sx_iconst (v := (-1 : Int32)) dX7_rankOn_170 (by decide) ?_
        refine sx_icmp_eq (tgt := 210) dX7_rankOn_171 rfl (fun c24 => ?_) (fun c24 => ?_)
        · have h := if_e c24 h
          exact sx_sub [5] rfl (tX7_rankOn_j210 h0 h1 h k3)
        · have h := if_n c24 h
          refine sx_aload_n (i := 1) (j := 1) dX7_rankOn_174 rfl rfl ?_
          refine sx_iconst (v := (4 : Int32)) dX7_rankOn_175 (by decide) ?_
          refine sx_iload (j := 4) dX7_rankOn_176 rfl ?_
          refine sx_iadd dX7_rankOn_178 ?_
          obtain ⟨c25, h⟩ := gd_e h
          refine sx_iald dX7_rankOn_179 h1 c25 ?_
          refine sx_iload (j := 7) dX7_rankOn_180 rfl ?_
          obtain ⟨z26, ez26, h⟩ := bd_e h
          refine sx_callS (avs := [.int z7]) (rest := [.int (z5.2.1 a1 ((4 : Int32) + v4).toNatClampNeg)]) (st1 := [.int z26, .int (z5.2.1 a1 ((4 : Int32) + v4).toNatClampNeg)]) dX7_rankOn_182 (mX7_bits ez26) ctX7_bits (Or.inl wd_1176) rfl rfl (rm_m rfl) rfl (Nat.le_of_ble_eq_true rfl) rfl ?_
          refine sx_isub dX7_rankOn_185 ?_
          refine sx_iload (j := 6) dX7_rankOn_186 rfl ?_
          obtain ⟨z27, ez27, h⟩ := bd_e h
          refine sx_callS (avs := [.int z6]) (rest := [.int ((z5.2.1 a1 ((4 : Int32) + v4).toNatClampNeg) - z26)]) (st1 := [.int z27, .int ((z5.2.1 a1 ((4 : Int32) + v4).toNatClampNeg) - z26)]) dX7_rankOn_188 (mX7_bits ez27) ctX7_bits (Or.inl wd_1176) rfl rfl (rm_m rfl) rfl (Nat.le_of_ble_eq_true rfl) rfl ?_
          refine sx_icmp_lt (tgt := 210) dX7_rankOn_191 rfl (fun c28 => ?_) (fun c28 => ?_)
          · have h := if_e c28 h
            exact sx_sub [5] rfl (tX7_rankOn_j210 h0 h1 h k3)
          · have h := if_n c28 h
            refine sx_iload_n (i := 2) (j := 2) dX7_rankOn_194 rfl rfl ?_
            refine sx_iconst (v := (3 : Int32)) dX7_rankOn_195 (by decide) ?_
            refine sx_icmp_ne (tgt := 214) dX7_rankOn_196 rfl (fun c29 => ?_) (fun c29 => ?_)
            · have h := if_e c29 h
              refine sx_aload_n (i := 1) (j := 1) dX7_rankOn_199 rfl rfl ?_
              refine sx_iload (j := 6) dX7_rankOn_200 rfl ?_
              refine sx_iload (j := 7) dX7_rankOn_202 rfl ?_
              obtain ⟨z30, ez30, h⟩ := bd_e h
              refine sx_callS (avs := [.ref a1, .int z6, .int z7]) (rest := []) (st1 := [.int z30]) dX7_rankOn_204 (mX7_isFeud h1 ez30) ctX7_isFeud (Or.inl wd_1179) rfl rfl (rm_m rfl) rfl (Nat.le_of_ble_eq_true rfl) rfl ?_
              refine sx_if_eq (tgt := 214) dX7_rankOn_207 rfl (fun c31 => ?_) (fun c31 => ?_)
              · have h := if_e c31 h
                exact sx_sub [5] rfl (tX7_rankOn_j214 h0 h1 h k3)
              · have h := if_n c31 h
                exact sx_sub [5] rfl (tX7_rankOn_j210 h0 h1 h k3)
            · have h := if_n c29 h
              exact sx_sub [5] rfl (tX7_rankOn_j214 h0 h1 h k3)
      have h := if_n c23 h
      by_cases c32 : v2 = (4 : Int32)
      · have h := if_e c32 h
        refine sx_swIn (tgt := 88) (4 : Int32) dX7_rankOn_49 c32 (by decide) (by decide) rfl rfl ?_
        refine sx_iload (j := 5) dX7_rankOn_88 rfl ?_
        refine sx_iconst (v := (-1 : Int32)) dX7_rankOn_90 (by decide) ?_
        refine sx_icmp_ne (tgt := 99) dX7_rankOn_91 rfl (fun c33 => ?_) (fun c33 => ?_)
        · have h := if_e c33 h
          refine sx_bipush (v := (9 : Int32)) dX7_rankOn_94 (by decide) ?_
          refine sx_goto (tgt := 101) dX7_rankOn_96 rfl ?_
          obtain rfl := Option.some.inj h
          exact sx_iret dX7_rankOn_101 rfl rfl k3.1 k3.2
        · have h := if_n c33 h
          refine sx_iload (j := 5) dX7_rankOn_99 rfl ?_
          obtain rfl := Option.some.inj h
          exact sx_iret dX7_rankOn_101 rfl rfl k3.1 k3.2
      have h := if_n c32 h
      by_cases c34 : v2 = (5 : Int32)
      · have h := if_e c34 h
        refine sx_swIn (tgt := 102) (5 : Int32) dX7_rankOn_49 c34 (by decide) (by decide) rfl rfl ?_
        refine sx_iload (j := 5) dX7_rankOn_102 rfl ?_
        refine sx_iconst (v := (-1 : Int32)) dX7_rankOn_104 (by decide) ?_
        refine sx_icmp_ne (tgt := 113) dX7_rankOn_105 rfl (fun c35 => ?_) (fun c35 => ?_)
        · have h := if_e c35 h
          refine sx_bipush (v := (9 : Int32)) dX7_rankOn_108 (by decide) ?_
          refine sx_goto (tgt := 115) dX7_rankOn_110 rfl ?_
          exact sx_sub [7] rfl (tX7_rankOn_j115 h0 h1 h k3)
        · have h := if_n c35 h
          refine sx_iload (j := 5) dX7_rankOn_113 rfl ?_
          exact sx_sub [7] rfl (tX7_rankOn_j115 h0 h1 h k3)
      have h := if_n c34 h
      refine sx_swOut (tgt := 168) dX7_rankOn_49 (sw_out (lo := 0) (k := 6) [0, 1, 2, 3, 4, 5] (by decide +kernel) (List.forall_mem_cons.mpr ⟨c8, List.forall_mem_cons.mpr ⟨c10, List.forall_mem_cons.mpr ⟨c20, List.forall_mem_cons.mpr ⟨c23, List.forall_mem_cons.mpr ⟨c32, List.forall_mem_cons.mpr ⟨c34, fun _ q => absurd q List.not_mem_nil⟩⟩⟩⟩⟩⟩)) rfl ?_
      refine sx_iload (j := 5) dX7_rankOn_168 rfl ?_
      refine sx_iconst (v := (-1 : Int32)) dX7_rankOn_170 (by decide) ?_
      refine sx_icmp_eq (tgt := 210) dX7_rankOn_171 rfl (fun c37 => ?_) (fun c37 => ?_)
      · have h := if_e c37 h
        exact sx_sub [5] rfl (tX7_rankOn_j210 h0 h1 h k3)
      · have h := if_n c37 h
        refine sx_aload_n (i := 1) (j := 1) dX7_rankOn_174 rfl rfl ?_
        refine sx_iconst (v := (4 : Int32)) dX7_rankOn_175 (by decide) ?_
        refine sx_iload (j := 4) dX7_rankOn_176 rfl ?_
        refine sx_iadd dX7_rankOn_178 ?_
        obtain ⟨c38, h⟩ := gd_e h
        refine sx_iald dX7_rankOn_179 h1 c38 ?_
        refine sx_iload (j := 7) dX7_rankOn_180 rfl ?_
        obtain ⟨z39, ez39, h⟩ := bd_e h
        refine sx_callS (avs := [.int z7]) (rest := [.int (z5.2.1 a1 ((4 : Int32) + v4).toNatClampNeg)]) (st1 := [.int z39, .int (z5.2.1 a1 ((4 : Int32) + v4).toNatClampNeg)]) dX7_rankOn_182 (mX7_bits ez39) ctX7_bits (Or.inl wd_1176) rfl rfl (rm_m rfl) rfl (Nat.le_of_ble_eq_true rfl) rfl ?_
        refine sx_isub dX7_rankOn_185 ?_
        refine sx_iload (j := 6) dX7_rankOn_186 rfl ?_
        obtain ⟨z40, ez40, h⟩ := bd_e h
        refine sx_callS (avs := [.int z6]) (rest := [.int ((z5.2.1 a1 ((4 : Int32) + v4).toNatClampNeg) - z39)]) (st1 := [.int z40, .int ((z5.2.1 a1 ((4 : Int32) + v4).toNatClampNeg) - z39)]) dX7_rankOn_188 (mX7_bits ez40) ctX7_bits (Or.inl wd_1176) rfl rfl (rm_m rfl) rfl (Nat.le_of_ble_eq_true rfl) rfl ?_
        refine sx_icmp_lt (tgt := 210) dX7_rankOn_191 rfl (fun c41 => ?_) (fun c41 => ?_)
        · have h := if_e c41 h
          exact sx_sub [5] rfl (tX7_rankOn_j210 h0 h1 h k3)
        · have h := if_n c41 h
          refine sx_iload_n (i := 2) (j := 2) dX7_rankOn_194 rfl rfl ?_
          refine sx_iconst (v := (3 : Int32)) dX7_rankOn_195 (by decide) ?_
          refine sx_icmp_ne (tgt := 214) dX7_rankOn_196 rfl (fun c42 => ?_) (fun c42 => ?_)
          · have h := if_e c42 h
            refine sx_aload_n (i := 1) (j := 1) dX7_rankOn_199 rfl rfl ?_
            refine sx_iload (j := 6) dX7_rankOn_200 rfl ?_
            refine sx_iload (j := 7) dX7_rankOn_202 rfl ?_
            obtain ⟨z43, ez43, h⟩ := bd_e h
            refine sx_callS (avs := [.ref a1, .int z6, .int z7]) (rest := []) (st1 := [.int z43]) dX7_rankOn_204 (mX7_isFeud h1 ez43) ctX7_isFeud (Or.inl wd_1179) rfl rfl (rm_m rfl) rfl (Nat.le_of_ble_eq_true rfl) rfl ?_
            refine sx_if_eq (tgt := 214) dX7_rankOn_207 rfl (fun c44 => ?_) (fun c44 => ?_)
            · have h := if_e c44 h
              exact sx_sub [5] rfl (tX7_rankOn_j214 h0 h1 h k3)
            · have h := if_n c44 h
              exact sx_sub [5] rfl (tX7_rankOn_j210 h0 h1 h k3)
          · have h := if_n c42 h
            exact sx_sub [5] rfl (tX7_rankOn_j214 h0 h1 h k3)
set_option maxRecDepth 100000 in
set_option maxHeartbeats 4000000 in
theorem tX7_heirOn_j56 {l : Launch} {E : Ev} {r : Option Value} {L' L : HL} {a0 : Nat} {a1 : Nat} {n1 : Nat} {v2 : Int32} {v3 : Int32} {v4 : Int32} {v5 : Int32} {v6 : Int32} {v7 : Int32} {s0 : Int32} {z : Tn (Int32 × Int32 × Int32 × HL) (Int32 × HL)} (h0 : isX7 E a0) (h1 : eK E a1 = some (.inr (0, n1))) (h : fX7_heirOn_j56 a0 a1 n1 v2 v3 v4 v5 v6 v7 s0 L = some z) (k1 : ∀ s, z = .inl s → Sx l E yX7_heirOn cX7_heirOn 8 (some .int) (4) r L' 11 [(0, .ref a0), (1, .ref a1), (2, .int v2), (3, .int v3), (4, .int s.1), (5, .int s.2.1), (6, .int s.2.2.1)] [] s.2.2.2) (k2 : ∀ s, z = .inr (.inl s) → Sx l E yX7_heirOn cX7_heirOn 8 (some .int) (4) r L' 80 [(4, .int s.1)] [] s.2.2.2) (k3 : ∀ v, z = .inr (.inr v) → r = some (.int v.1) ∧ L' = v.2) : Sx l E yX7_heirOn cX7_heirOn 8 (some .int) (4) r L' 56 [(0, .ref a0), (1, .ref a1), (2, .int v2), (3, .int v3), (5, .int v5), (6, .int v6), (7, .int v7)] [.int s0] L := by
  unfold fX7_heirOn_j56 at h
  refine sx_istore (lv' := [(0, .ref a0), (1, .ref a1), (2, .int v2), (3, .int v3), (4, .int s0), (5, .int v5), (6, .int v6), (7, .int v7)]) dX7_heirOn_56 (by decide) rfl ?_
  refine sx_iload (j := 7) dX7_heirOn_58 rfl ?_
  refine sx_iload (j := 5) dX7_heirOn_60 rfl ?_
  refine sx_icmp_ge (tgt := 70) dX7_heirOn_62 rfl (fun c5 => ?_) (fun c5 => ?_)
  · have h := if_e c5 h
    refine sx_iload (j := 5) dX7_heirOn_70 rfl ?_
    refine sx_istore (lv' := [(0, .ref a0), (1, .ref a1), (2, .int v2), (3, .int v3), (4, .int s0), (5, .int v5), (6, .int v6), (7, .int v7)]) dX7_heirOn_72 (by decide) rfl ?_
    obtain ⟨w6, ew6⟩ : ∃ w : Int32, w = v6 + (1 : Int32) := ⟨_, rfl⟩
    have h := lt_e ew6 h
    refine sx_iinc (j := 6) (v := w6) (lv' := [(0, .ref a0), (1, .ref a1), (2, .int v2), (3, .int v3), (4, .int s0), (5, .int v5), (6, .int w6), (7, .int v7)]) dX7_heirOn_74 rfl (ii_1 ew6) (by decide) rfl ?_
    refine sx_goto (tgt := 11) dX7_heirOn_77 rfl ?_
    obtain rfl := Option.some.inj h
    exact sx_sub [0, 1, 2, 3, 4, 5, 6] rfl (k1 _ rfl)
  · have h := if_n c5 h
    refine sx_iload (j := 7) dX7_heirOn_65 rfl ?_
    refine sx_goto (tgt := 72) dX7_heirOn_67 rfl ?_
    refine sx_istore (lv' := [(0, .ref a0), (1, .ref a1), (2, .int v2), (3, .int v3), (4, .int s0), (5, .int v7), (6, .int v6), (7, .int v7)]) dX7_heirOn_72 (by decide) rfl ?_
    obtain ⟨w7, ew7⟩ : ∃ w : Int32, w = v6 + (1 : Int32) := ⟨_, rfl⟩
    have h := lt_e ew7 h
    refine sx_iinc (j := 6) (v := w7) (lv' := [(0, .ref a0), (1, .ref a1), (2, .int v2), (3, .int v3), (4, .int s0), (5, .int v7), (6, .int w7), (7, .int v7)]) dX7_heirOn_74 rfl (ii_1 ew7) (by decide) rfl ?_
    refine sx_goto (tgt := 11) dX7_heirOn_77 rfl ?_
    obtain rfl := Option.some.inj h
    exact sx_sub [0, 1, 2, 3, 4, 5, 6] rfl (k1 _ rfl)
set_option maxRecDepth 100000 in
set_option maxHeartbeats 4000000 in
theorem tX7_heirOn_j40 {l : Launch} {E : Ev} {r : Option Value} {L' L : HL} {a0 : Nat} {a1 : Nat} {n1 : Nat} {v2 : Int32} {v3 : Int32} {v4 : Int32} {v5 : Int32} {v6 : Int32} {s0 : Int32} {z : Tn (Int32 × Int32 × Int32 × HL) (Int32 × HL)} (h0 : isX7 E a0) (h1 : eK E a1 = some (.inr (0, n1))) (h : fX7_heirOn_j40 a0 a1 n1 v2 v3 v4 v5 v6 s0 L = some z) (k1 : ∀ s, z = .inl s → Sx l E yX7_heirOn cX7_heirOn 8 (some .int) (4) r L' 11 [(0, .ref a0), (1, .ref a1), (2, .int v2), (3, .int v3), (4, .int s.1), (5, .int s.2.1), (6, .int s.2.2.1)] [] s.2.2.2) (k2 : ∀ s, z = .inr (.inl s) → Sx l E yX7_heirOn cX7_heirOn 8 (some .int) (4) r L' 80 [(4, .int s.1)] [] s.2.2.2) (k3 : ∀ v, z = .inr (.inr v) → r = some (.int v.1) ∧ L' = v.2) : Sx l E yX7_heirOn cX7_heirOn 8 (some .int) (4) r L' 40 [(0, .ref a0), (1, .ref a1), (2, .int v2), (3, .int v3), (4, .int v4), (5, .int v5), (6, .int v6)] [.int s0] L := by
  unfold fX7_heirOn_j40 at h
  refine sx_istore (lv' := [(0, .ref a0), (1, .ref a1), (2, .int v2), (3, .int v3), (4, .int v4), (5, .int v5), (6, .int v6), (7, .int s0)]) dX7_heirOn_40 (by decide) rfl ?_
  refine sx_iload (j := 7) dX7_heirOn_42 rfl ?_
  refine sx_iload (j := 5) dX7_heirOn_44 rfl ?_
  refine sx_icmp_ge (tgt := 54) dX7_heirOn_46 rfl (fun c4 => ?_) (fun c4 => ?_)
  · have h := if_e c4 h
    refine sx_iload (j := 4) dX7_heirOn_54 rfl ?_
    exact sx_sub [0, 1, 2, 3, 5, 6, 7] rfl (tX7_heirOn_j56 h0 h1 h k1 k2 k3)
  · have h := if_n c4 h
    refine sx_iload (j := 6) dX7_heirOn_49 rfl ?_
    refine sx_goto (tgt := 56) dX7_heirOn_51 rfl ?_
    exact sx_sub [0, 1, 2, 3, 5, 6, 7] rfl (tX7_heirOn_j56 h0 h1 h k1 k2 k3)
set_option maxRecDepth 100000 in
set_option maxHeartbeats 4000000 in
theorem tX7_heirOn_b11 {l : Launch} {E : Ev} {r : Option Value} {L' L : HL} {a0 : Nat} {a1 : Nat} {n1 : Nat} {v2 : Int32} {v3 : Int32} {v4 : Int32} {v5 : Int32} {v6 : Int32} {z : Tn (Int32 × Int32 × Int32 × HL) (Int32 × HL)} (h0 : isX7 E a0) (h1 : eK E a1 = some (.inr (0, n1))) (h : fX7_heirOn_b11 a0 a1 n1 v2 v3 v4 v5 v6 L = some z) (k1 : ∀ s, z = .inl s → Sx l E yX7_heirOn cX7_heirOn 8 (some .int) (4) r L' 11 [(0, .ref a0), (1, .ref a1), (2, .int v2), (3, .int v3), (4, .int s.1), (5, .int s.2.1), (6, .int s.2.2.1)] [] s.2.2.2) (k2 : ∀ s, z = .inr (.inl s) → Sx l E yX7_heirOn cX7_heirOn 8 (some .int) (4) r L' 80 [(4, .int s.1)] [] s.2.2.2) (k3 : ∀ v, z = .inr (.inr v) → r = some (.int v.1) ∧ L' = v.2) : Sx l E yX7_heirOn cX7_heirOn 8 (some .int) (4) r L' 11 [(0, .ref a0), (1, .ref a1), (2, .int v2), (3, .int v3), (4, .int v4), (5, .int v5), (6, .int v6)] [] L := by
  unfold fX7_heirOn_b11 at h
  refine sx_iload (j := 6) dX7_heirOn_11 rfl ?_
  refine sx_aload_n (i := 1) (j := 1) dX7_heirOn_13 rfl rfl ?_
  refine sx_iconst (v := (0 : Int32)) dX7_heirOn_14 (by decide) ?_
  obtain ⟨c1, h⟩ := gd_e h
  refine sx_iald dX7_heirOn_15 h1 c1 ?_
  refine sx_icmp_ge (tgt := 80) dX7_heirOn_16 rfl (fun c2 => ?_) (fun c2 => ?_)
  · have h := if_e c2 h
    obtain rfl := Option.some.inj h
    exact sx_sub [4] rfl (k2 _ rfl)
  · have h := if_n c2 h
    refine sx_iload (j := 6) dX7_heirOn_19 rfl ?_
    refine sx_iload_n (i := 3) (j := 3) dX7_heirOn_21 rfl rfl ?_
    refine sx_icmp_ne (tgt := 31) dX7_heirOn_22 rfl (fun c3 => ?_) (fun c3 => ?_)
    · have h := if_e c3 h
      refine sx_sipush (v := (1000 : Int32)) dX7_heirOn_25 (by decide) ?_
      refine sx_goto (tgt := 40) dX7_heirOn_28 rfl ?_
      exact sx_sub [0, 1, 2, 3, 4, 5, 6] rfl (tX7_heirOn_j40 h0 h1 h k1 k2 k3)
    · have h := if_n c3 h
      refine sx_aload_n (i := 0) (j := 0) dX7_heirOn_31 rfl rfl ?_
      refine sx_aload_n (i := 1) (j := 1) dX7_heirOn_32 rfl rfl ?_
      refine sx_iload_n (i := 2) (j := 2) dX7_heirOn_33 rfl rfl ?_
      refine sx_iload_n (i := 3) (j := 3) dX7_heirOn_34 rfl rfl ?_
      refine sx_iload (j := 6) dX7_heirOn_35 rfl ?_
      obtain ⟨z8, ez8, h⟩ := bd_e h
      refine sx_callV (avs := [.ref a1, .int v2, .int v3, .int v6]) (rest := []) (st1 := [.int z8.1]) dX7_heirOn_37 (mX7_rankOn h0 h1 ez8) ciX7_rankOn (Or.inl wd_1161) (X7_k h0) rfl rfl rfl rfl (rm_m rfl) rfl (Nat.le_of_ble_eq_true rfl) rfl ?_
      exact sx_sub [0, 1, 2, 3, 4, 5, 6] rfl (tX7_heirOn_j40 h0 h1 h k1 k2 k3)
set_option maxRecDepth 100000 in
set_option maxHeartbeats 4000000 in
theorem mX7_heirOn {l : Launch} {E : Ev} {L : HL} {a0 : Nat} {a1 : Nat} {n1 : Nat} {v2 : Int32} {v3 : Int32} {z : Int32 × HL} (h0 : isX7 E a0) (h1 : eK E a1 = some (.inr (0, n1))) (h : fX7_heirOn a0 a1 n1 v2 v3 L = some z) : Mt l E yX7_heirOn cX7_heirOn 8 (some .int) (4) [.ref a0, .ref a1, .int v2, .int v3] L (some (.int z.1)) (z.2) := by
  obtain ⟨r, hr⟩ : ∃ r : Option Value, r = some (.int z.1) := ⟨_, rfl⟩
  obtain ⟨L', hL'⟩ : ∃ L' : HL, L' = z.2 := ⟨_, rfl⟩
  have k3 : r = some (.int z.1) ∧ L' = z.2 := ⟨hr, hL'⟩
  refine mt_eq hr hL' ?_
  refine Mt.of (plainFor_of_name (by decide)) (Nat.le_of_ble_eq_true rfl) ?_
  refine sx_sub (lv' := [(0, .ref a0), (1, .ref a1), (2, .int v2), (3, .int v3)]) [0, 1, 2, 3] rfl ?_
  unfold fX7_heirOn at h
  refine sx_iconst (v := (-1 : Int32)) dX7_heirOn_0 (by decide) ?_
  refine sx_istore (lv' := [(0, .ref a0), (1, .ref a1), (2, .int v2), (3, .int v3), (4, .int (-1 : Int32))]) dX7_heirOn_1 (by decide) rfl ?_
  refine sx_sipush (v := (1000 : Int32)) dX7_heirOn_3 (by decide) ?_
  refine sx_istore (lv' := [(0, .ref a0), (1, .ref a1), (2, .int v2), (3, .int v3), (4, .int (-1 : Int32)), (5, .int (1000 : Int32))]) dX7_heirOn_6 (by decide) rfl ?_
  refine sx_iconst (v := (0 : Int32)) dX7_heirOn_8 (by decide) ?_
  refine sx_istore (lv' := [(0, .ref a0), (1, .ref a1), (2, .int v2), (3, .int v3), (4, .int (-1 : Int32)), (5, .int (1000 : Int32)), (6, .int (0 : Int32))]) dX7_heirOn_9 (by decide) rfl ?_
  obtain ⟨x10, hx, q1, q2⟩ := lx_e h
  refine sx_sub (lv' := [(0, .ref a0), (1, .ref a1), (2, .int v2), (3, .int v3), (4, .int (-1 : Int32)), (5, .int (1000 : Int32)), (6, .int (0 : Int32))]) [0, 1, 2, 3, 4, 5, 6] rfl ?_
  refine lp_go (fun s9 => Sx l E yX7_heirOn cX7_heirOn 8 (some .int) (4) r L' 11 [(0, .ref a0), (1, .ref a1), (2, .int v2), (3, .int v3), (4, .int s9.1), (5, .int s9.2.1), (6, .int s9.2.2.1)] [] s9.2.2.2) x10 (fun s9 z2 hz c1 c2 => ?_) FU _ hx
  refine tX7_heirOn_b11 h0 h1 hz (fun s2 e => c1 s2 e) (fun s9 e => ?_) (fun v e => ?_)
  · have h := q1 _ (c2 _ e).symm
    refine sx_iload (j := 0) dX7_heirOn_80 rfl ?_
    obtain rfl := Option.some.inj h
    exact sx_iret dX7_heirOn_82 rfl rfl k3.1 k3.2
  · have e2 := Option.some.inj (q2 _ (c2 _ e).symm)
    subst e2
    exact k3
set_option maxRecDepth 100000 in
set_option maxHeartbeats 4000000 in
theorem tX7_falls_j52 {l : Launch} {E : Ev} {r : Option Value} {L' L : HL} {a0 : Nat} {a1 : Nat} {n1 : Nat} {v2 : Int32} {v3 : Int32} {v4 : Int32} {s1 : Int32} {s2 : Int32} {z : Tn (Int32 × HL) (Int32 × HL)} (h0 : isX7 E a0) (h1 : eK E a1 = some (.inr (0, n1))) (h : fX7_falls_j52 a0 a1 n1 v2 v3 v4 s1 s2 L = some z) (k1 : ∀ s, z = .inl s → Sx l E yX7_falls cX7_falls 5 (some .int) (5) r L' 16 [(1, .ref a1), (2, .int v2), (3, .int v3), (4, .int s.1)] [] s.2) (k2 : ∀ s, z = .inr (.inl s) → Sx l E yX7_falls cX7_falls 5 (some .int) (5) r L' 59 [(1, .ref a1), (2, .int v2), (3, .int v3)] [] s.2) (k3 : ∀ v, z = .inr (.inr v) → r = some (.int v.1) ∧ L' = v.2) : Sx l E yX7_falls cX7_falls 5 (some .int) (5) r L' 52 [(1, .ref a1), (2, .int v2), (3, .int v3), (4, .int v4)] [.int s2, .int s1, .ref a1] L := by
  unfold fX7_falls_j52 at h
  obtain ⟨c7, h⟩ := gd_e h
  refine sx_iast dX7_falls_52 h1 c7 (fun L8 eL8 => ?_)
  have h := lt_e eL8 h
  obtain ⟨w9, ew9⟩ : ∃ w : Int32, w = v4 + (1 : Int32) := ⟨_, rfl⟩
  have h := lt_e ew9 h
  refine sx_iinc (j := 3) (v := w9) (lv' := [(1, .ref a1), (2, .int v2), (3, .int v3), (4, .int w9)]) dX7_falls_53 rfl (ii_1 ew9) (by decide) rfl ?_
  refine sx_goto (tgt := 16) dX7_falls_56 rfl ?_
  obtain rfl := Option.some.inj h
  exact sx_sub [0, 1, 2, 3] rfl (k1 _ rfl)
set_option maxRecDepth 100000 in
set_option maxHeartbeats 4000000 in
theorem tX7_falls_b16 {l : Launch} {E : Ev} {r : Option Value} {L' L : HL} {a0 : Nat} {a1 : Nat} {n1 : Nat} {v2 : Int32} {v3 : Int32} {v4 : Int32} {z : Tn (Int32 × HL) (Int32 × HL)} (h0 : isX7 E a0) (h1 : eK E a1 = some (.inr (0, n1))) (h : fX7_falls_b16 a0 a1 n1 v2 v3 v4 L = some z) (k1 : ∀ s, z = .inl s → Sx l E yX7_falls cX7_falls 5 (some .int) (5) r L' 16 [(1, .ref a1), (2, .int v2), (3, .int v3), (4, .int s.1)] [] s.2) (k2 : ∀ s, z = .inr (.inl s) → Sx l E yX7_falls cX7_falls 5 (some .int) (5) r L' 59 [(1, .ref a1), (2, .int v2), (3, .int v3)] [] s.2) (k3 : ∀ v, z = .inr (.inr v) → r = some (.int v.1) ∧ L' = v.2) : Sx l E yX7_falls cX7_falls 5 (some .int) (5) r L' 16 [(1, .ref a1), (2, .int v2), (3, .int v3), (4, .int v4)] [] L := by
  unfold fX7_falls_b16 at h
  refine sx_iload (j := 3) dX7_falls_16 rfl ?_
  refine sx_aload_n (i := 1) (j := 0) dX7_falls_18 rfl rfl ?_
  refine sx_iconst (v := (1 : Int32)) dX7_falls_19 (by decide) ?_
  obtain ⟨c3, h⟩ := gd_e h
  refine sx_iald dX7_falls_20 h1 c3 ?_
  refine sx_icmp_ge (tgt := 59) dX7_falls_21 rfl (fun c4 => ?_) (fun c4 => ?_)
  · have h := if_e c4 h
    obtain rfl := Option.some.inj h
    exact sx_sub [0, 1, 2] rfl (k2 _ rfl)
  · have h := if_n c4 h
    refine sx_aload_n (i := 1) (j := 0) dX7_falls_24 rfl rfl ?_
    refine sx_bipush (v := (70 : Int32)) dX7_falls_25 (by decide) ?_
    refine sx_iload (j := 3) dX7_falls_27 rfl ?_
    refine sx_iadd dX7_falls_29 ?_
    refine sx_aload_n (i := 1) (j := 0) dX7_falls_30 rfl rfl ?_
    refine sx_bipush (v := (70 : Int32)) dX7_falls_31 (by decide) ?_
    refine sx_iload (j := 3) dX7_falls_33 rfl ?_
    refine sx_iadd dX7_falls_35 ?_
    obtain ⟨c5, h⟩ := gd_e h
    refine sx_iald dX7_falls_36 h1 c5 ?_
    refine sx_iload_n (i := 2) (j := 1) dX7_falls_37 rfl rfl ?_
    refine sx_icmp_ne (tgt := 45) dX7_falls_38 rfl (fun c6 => ?_) (fun c6 => ?_)
    · have h := if_e c6 h
      refine sx_iload_n (i := 3) (j := 2) dX7_falls_41 rfl rfl ?_
      refine sx_goto (tgt := 52) dX7_falls_42 rfl ?_
      exact sx_sub [0, 1, 2, 3] rfl (tX7_falls_j52 h0 h1 h k1 k2 k3)
    · have h := if_n c6 h
      refine sx_aload_n (i := 1) (j := 0) dX7_falls_45 rfl rfl ?_
      refine sx_bipush (v := (70 : Int32)) dX7_falls_46 (by decide) ?_
      refine sx_iload (j := 3) dX7_falls_48 rfl ?_
      refine sx_iadd dX7_falls_50 ?_
      obtain ⟨c10, h⟩ := gd_e h
      refine sx_iald dX7_falls_51 h1 c10 ?_
      exact sx_sub [0, 1, 2, 3] rfl (tX7_falls_j52 h0 h1 h k1 k2 k3)
set_option maxRecDepth 100000 in
set_option maxHeartbeats 4000000 in
theorem mX7_falls {l : Launch} {E : Ev} {L : HL} {a0 : Nat} {a1 : Nat} {n1 : Nat} {v2 : Int32} {z : Int32 × HL} (h0 : isX7 E a0) (h1 : eK E a1 = some (.inr (0, n1))) (h : fX7_falls a0 a1 n1 v2 L = some z) : Mt l E yX7_falls cX7_falls 5 (some .int) (5) [.ref a0, .ref a1, .int v2] L (some (.int z.1)) (z.2) := by
  obtain ⟨r, hr⟩ : ∃ r : Option Value, r = some (.int z.1) := ⟨_, rfl⟩
  obtain ⟨L', hL'⟩ : ∃ L' : HL, L' = z.2 := ⟨_, rfl⟩
  have k3 : r = some (.int z.1) ∧ L' = z.2 := ⟨hr, hL'⟩
  refine mt_eq hr hL' ?_
  refine Mt.of (plainFor_of_name (by decide)) (Nat.le_of_ble_eq_true rfl) ?_
  refine sx_sub (lv' := [(0, .ref a0), (1, .ref a1), (2, .int v2)]) [0, 1, 2] rfl ?_
  unfold fX7_falls at h
  refine sx_aload_n (i := 0) (j := 0) dX7_falls_0 rfl rfl ?_
  refine sx_aload_n (i := 1) (j := 1) dX7_falls_1 rfl rfl ?_
  refine sx_aload_n (i := 1) (j := 1) dX7_falls_2 rfl rfl ?_
  refine sx_bipush (v := (24 : Int32)) dX7_falls_3 (by decide) ?_
  refine sx_iload_n (i := 2) (j := 2) dX7_falls_5 rfl rfl ?_
  refine sx_iadd dX7_falls_6 ?_
  obtain ⟨c1, h⟩ := gd_e h
  refine sx_iald dX7_falls_7 h1 c1 ?_
  refine sx_iload_n (i := 2) (j := 2) dX7_falls_8 rfl rfl ?_
  obtain ⟨z2, ez2, h⟩ := bd_e h
  refine sx_callV (avs := [.ref a1, .int (L.1 a1 ((24 : Int32) + v2).toNatClampNeg), .int v2]) (rest := []) (st1 := [.int z2.1]) dX7_falls_9 (mX7_heirOn h0 h1 ez2) ciX7_heirOn (Or.inl wd_1157) (X7_k h0) rfl rfl rfl rfl (rm_m rfl) rfl (Nat.le_of_ble_eq_true rfl) rfl ?_
  refine sx_istore_n (i := 3) (lv' := [(0, .ref a0), (1, .ref a1), (2, .int v2), (3, .int z2.1)]) dX7_falls_12 rfl (by decide) rfl ?_
  refine sx_iconst (v := (0 : Int32)) dX7_falls_13 (by decide) ?_
  refine sx_istore (lv' := [(0, .ref a0), (1, .ref a1), (2, .int v2), (3, .int z2.1), (4, .int (0 : Int32))]) dX7_falls_14 (by decide) rfl ?_
  obtain ⟨x14, hx, q1, q2⟩ := lx_e h
  refine sx_sub (lv' := [(1, .ref a1), (2, .int v2), (3, .int z2.1), (4, .int (0 : Int32))]) [1, 2, 3, 4] rfl ?_
  refine lp_go (fun s11 => Sx l E yX7_falls cX7_falls 5 (some .int) (5) r L' 16 [(1, .ref a1), (2, .int v2), (3, .int z2.1), (4, .int s11.1)] [] s11.2) x14 (fun s11 z2 hz c1 c2 => ?_) FU _ hx
  refine tX7_falls_b16 h0 h1 hz (fun s2 e => c1 s2 e) (fun s11 e => ?_) (fun v e => ?_)
  · have h := q1 _ (c2 _ e).symm
    refine sx_aload_n (i := 1) (j := 0) dX7_falls_59 rfl rfl ?_
    refine sx_bipush (v := (29 : Int32)) dX7_falls_60 (by decide) ?_
    refine sx_iload_n (i := 2) (j := 1) dX7_falls_62 rfl rfl ?_
    refine sx_iadd dX7_falls_63 ?_
    refine sx_iconst (v := (0 : Int32)) dX7_falls_64 (by decide) ?_
    obtain ⟨c12, h⟩ := gd_e h
    refine sx_iast dX7_falls_65 h1 c12 (fun L13 eL13 => ?_)
    have h := lt_e eL13 h
    refine sx_iload_n (i := 3) (j := 2) dX7_falls_66 rfl rfl ?_
    obtain rfl := Option.some.inj h
    exact sx_iret dX7_falls_67 rfl rfl k3.1 k3.2
  · have e2 := Option.some.inj (q2 _ (c2 _ e).symm)
    subst e2
    exact k3
set_option maxRecDepth 100000 in
set_option maxHeartbeats 4000000 in
theorem mX7_isOverfull {l : Launch} {E : Ev} {L : HL} {a0 : Nat} {n0 : Nat} {v1 : Int32} {z : Int32} (h0 : eK E a0 = some (.inr (0, n0))) (h : fX7_isOverfull a0 n0 v1 L = some z) : Mt l E yX7_isOverfull cX7_isOverfull 2 (some .boolean) (2) [.ref a0, .int v1] L (some (.int z)) L := by
  obtain ⟨r, hr⟩ : ∃ r : Option Value, r = some (.int z) := ⟨_, rfl⟩
  obtain ⟨L', hL'⟩ : ∃ L' : HL, L' = L := ⟨_, rfl⟩
  have k3 : r = some (.int z) ∧ L' = L := ⟨hr, hL'⟩
  refine mt_eq hr hL' ?_
  refine Mt.of (plainFor_of_name (by decide)) (Nat.le_of_ble_eq_true rfl) ?_
  refine sx_sub (lv' := [(0, .ref a0), (1, .int v1)]) [0, 1] rfl ?_
  unfold fX7_isOverfull at h
  refine sx_aload_n (i := 0) (j := 0) dX7_isOverfull_0 rfl rfl ?_
  refine sx_iload_n (i := 1) (j := 1) dX7_isOverfull_1 rfl rfl ?_
  obtain ⟨z1, ez1, h⟩ := bd_e h
  refine sx_callS (avs := [.ref a0, .int v1]) (rest := []) (st1 := [.int z1]) dX7_isOverfull_2 (mX7_livingIn h0 ez1) ctX7_livingIn (Or.inl wd_1173) rfl rfl (rm_m rfl) rfl (Nat.le_of_ble_eq_true rfl) rfl ?_
  obtain ⟨z2, ez2, h⟩ := bd_e h
  refine sx_callS (avs := [.int z1]) (rest := []) (st1 := [.int z2]) dX7_isOverfull_5 (mX7_bits ez2) ctX7_bits (Or.inl wd_1176) rfl rfl (rm_m rfl) rfl (Nat.le_of_ble_eq_true rfl) rfl ?_
  refine sx_aload_n (i := 0) (j := 0) dX7_isOverfull_8 rfl rfl ?_
  refine sx_iconst (v := (4 : Int32)) dX7_isOverfull_9 (by decide) ?_
  refine sx_iload_n (i := 1) (j := 1) dX7_isOverfull_10 rfl rfl ?_
  refine sx_iadd dX7_isOverfull_11 ?_
  obtain ⟨c3, h⟩ := gd_e h
  refine sx_iald dX7_isOverfull_12 h0 c3 ?_
  refine sx_icmp_le (tgt := 20) dX7_isOverfull_13 rfl (fun c4 => ?_) (fun c4 => ?_)
  · have h := if_e c4 h
    refine sx_iconst (v := (0 : Int32)) dX7_isOverfull_20 (by decide) ?_
    obtain rfl := Option.some.inj h
    exact sx_iret dX7_isOverfull_21 rfl (by decide) k3.1 k3.2
  · have h := if_n c4 h
    refine sx_iconst (v := (1 : Int32)) dX7_isOverfull_16 (by decide) ?_
    refine sx_goto (tgt := 21) dX7_isOverfull_17 rfl ?_
    obtain rfl := Option.some.inj h
    exact sx_iret dX7_isOverfull_21 rfl (by decide) k3.1 k3.2
set_option maxRecDepth 100000 in
set_option maxHeartbeats 4000000 in
theorem tX7_yearGoes_j42 {l : Launch} {E : Ev} {r : Option Value} {L' L : HL} {a0 : Nat} {a1 : Nat} {n1 : Nat} {v2 : Int32} {s1 : Int32} {s2 : Int32} {s3 : Int32} {z : Tn (Int32 × HL) (HL)} (h0 : isX7 E a0) (h1 : eK E a1 = some (.inr (0, n1))) (h : fX7_yearGoes_j42 a0 a1 n1 v2 s1 s2 s3 L = some z) (k1 : ∀ s, z = .inl s → Sx l E yX7_yearGoes cX7_yearGoes 3 (none) (6) r L' 2 [(0, .ref a0), (1, .ref a1), (2, .int s.1)] [] s.2) (k2 : ∀ s, z = .inr (.inl s) → Sx l E yX7_yearGoes cX7_yearGoes 3 (none) (6) r L' 50 [(0, .ref a0), (1, .ref a1)] [] s.2) (k3 : ∀ v, z = .inr (.inr v) → r = none ∧ L' = v) : Sx l E yX7_yearGoes cX7_yearGoes 3 (none) (6) r L' 42 [(0, .ref a0), (1, .ref a1), (2, .int v2)] [.int s3, .int s2, .int s1, .ref a1] L := by
  unfold fX7_yearGoes_j42 at h
  refine sx_iadd dX7_yearGoes_42 ?_
  obtain ⟨c6, h⟩ := gd_e h
  refine sx_iast dX7_yearGoes_43 h1 c6 (fun L7 eL7 => ?_)
  have h := lt_e eL7 h
  obtain ⟨w8, ew8⟩ : ∃ w : Int32, w = v2 + (1 : Int32) := ⟨_, rfl⟩
  have h := lt_e ew8 h
  refine sx_iinc (j := 2) (v := w8) (lv' := [(0, .ref a0), (1, .ref a1), (2, .int w8)]) dX7_yearGoes_44 rfl (ii_1 ew8) (by decide) rfl ?_
  refine sx_goto (tgt := 2) dX7_yearGoes_47 rfl ?_
  obtain rfl := Option.some.inj h
  exact sx_sub [0, 1, 2] rfl (k1 _ rfl)
set_option maxRecDepth 100000 in
set_option maxHeartbeats 4000000 in
theorem tX7_yearGoes_b2 {l : Launch} {E : Ev} {r : Option Value} {L' L : HL} {a0 : Nat} {a1 : Nat} {n1 : Nat} {v2 : Int32} {z : Tn (Int32 × HL) (HL)} (h0 : isX7 E a0) (h1 : eK E a1 = some (.inr (0, n1))) (h : fX7_yearGoes_b2 a0 a1 n1 v2 L = some z) (k1 : ∀ s, z = .inl s → Sx l E yX7_yearGoes cX7_yearGoes 3 (none) (6) r L' 2 [(0, .ref a0), (1, .ref a1), (2, .int s.1)] [] s.2) (k2 : ∀ s, z = .inr (.inl s) → Sx l E yX7_yearGoes cX7_yearGoes 3 (none) (6) r L' 50 [(0, .ref a0), (1, .ref a1)] [] s.2) (k3 : ∀ v, z = .inr (.inr v) → r = none ∧ L' = v) : Sx l E yX7_yearGoes cX7_yearGoes 3 (none) (6) r L' 2 [(0, .ref a0), (1, .ref a1), (2, .int v2)] [] L := by
  unfold fX7_yearGoes_b2 at h
  refine sx_iload_n (i := 2) (j := 2) dX7_yearGoes_2 rfl rfl ?_
  refine sx_aload_n (i := 1) (j := 1) dX7_yearGoes_3 rfl rfl ?_
  refine sx_iconst (v := (0 : Int32)) dX7_yearGoes_4 (by decide) ?_
  obtain ⟨c1, h⟩ := gd_e h
  refine sx_iald dX7_yearGoes_5 h1 c1 ?_
  refine sx_icmp_ge (tgt := 50) dX7_yearGoes_6 rfl (fun c2 => ?_) (fun c2 => ?_)
  · have h := if_e c2 h
    obtain rfl := Option.some.inj h
    exact sx_sub [0, 1] rfl (k2 _ rfl)
  · have h := if_n c2 h
    refine sx_aload_n (i := 1) (j := 1) dX7_yearGoes_9 rfl rfl ?_
    refine sx_bipush (v := (14 : Int32)) dX7_yearGoes_10 (by decide) ?_
    refine sx_iload_n (i := 2) (j := 2) dX7_yearGoes_12 rfl rfl ?_
    refine sx_iadd dX7_yearGoes_13 ?_
    refine sx_dup2 dX7_yearGoes_14 rfl rfl ?_
    obtain ⟨c3, h⟩ := gd_e h
    refine sx_iald dX7_yearGoes_15 h1 c3 ?_
    refine sx_aload_n (i := 1) (j := 1) dX7_yearGoes_16 rfl rfl ?_
    refine sx_bipush (v := (29 : Int32)) dX7_yearGoes_17 (by decide) ?_
    refine sx_iload_n (i := 2) (j := 2) dX7_yearGoes_19 rfl rfl ?_
    refine sx_iadd dX7_yearGoes_20 ?_
    obtain ⟨c4, h⟩ := gd_e h
    refine sx_iald dX7_yearGoes_21 h1 c4 ?_
    refine sx_if_ne (tgt := 29) dX7_yearGoes_22 rfl (fun c5 => ?_) (fun c5 => ?_)
    · have h := if_e c5 h
      refine sx_iconst (v := (0 : Int32)) dX7_yearGoes_25 (by decide) ?_
      refine sx_goto (tgt := 42) dX7_yearGoes_26 rfl ?_
      exact sx_sub [0, 1, 2] rfl (tX7_yearGoes_j42 h0 h1 h k1 k2 k3)
    · have h := if_n c5 h
      refine sx_aload_n (i := 1) (j := 1) dX7_yearGoes_29 rfl rfl ?_
      refine sx_iload_n (i := 2) (j := 2) dX7_yearGoes_30 rfl rfl ?_
      obtain ⟨z9, ez9, h⟩ := bd_e h
      refine sx_callS (avs := [.ref a1, .int v2]) (rest := [.int (L.1 a1 ((14 : Int32) + v2).toNatClampNeg), .int ((14 : Int32) + v2), .ref a1]) (st1 := [.int z9, .int (L.1 a1 ((14 : Int32) + v2).toNatClampNeg), .int ((14 : Int32) + v2), .ref a1]) dX7_yearGoes_31 (mX7_isOverfull h1 ez9) ctX7_isOverfull (Or.inl wd_1194) rfl rfl (rm_m rfl) rfl (Nat.le_of_ble_eq_true rfl) rfl ?_
      refine sx_if_eq (tgt := 41) dX7_yearGoes_34 rfl (fun c10 => ?_) (fun c10 => ?_)
      · have h := if_e c10 h
        refine sx_iconst (v := (1 : Int32)) dX7_yearGoes_41 (by decide) ?_
        exact sx_sub [0, 1, 2] rfl (tX7_yearGoes_j42 h0 h1 h k1 k2 k3)
      · have h := if_n c10 h
        refine sx_iconst (v := (2 : Int32)) dX7_yearGoes_37 (by decide) ?_
        refine sx_goto (tgt := 42) dX7_yearGoes_38 rfl ?_
        exact sx_sub [0, 1, 2] rfl (tX7_yearGoes_j42 h0 h1 h k1 k2 k3)
set_option maxRecDepth 100000 in
set_option maxHeartbeats 4000000 in
theorem tX7_yearGoes_b52 {l : Launch} {E : Ev} {r : Option Value} {L' L : HL} {a0 : Nat} {a1 : Nat} {n1 : Nat} {v2 : Int32} {z : Tn (Int32 × HL) (HL)} (h0 : isX7 E a0) (h1 : eK E a1 = some (.inr (0, n1))) (h : fX7_yearGoes_b52 a0 a1 n1 v2 L = some z) (k1 : ∀ s, z = .inl s → Sx l E yX7_yearGoes cX7_yearGoes 3 (none) (6) r L' 52 [(0, .ref a0), (1, .ref a1), (2, .int s.1)] [] s.2) (k2 : ∀ s, z = .inr (.inl s) → Sx l E yX7_yearGoes cX7_yearGoes 3 (none) (6) r L' 93 [(1, .ref a1)] [] s.2) (k3 : ∀ v, z = .inr (.inr v) → r = none ∧ L' = v) : Sx l E yX7_yearGoes cX7_yearGoes 3 (none) (6) r L' 52 [(0, .ref a0), (1, .ref a1), (2, .int v2)] [] L := by
  unfold fX7_yearGoes_b52 at h
  refine sx_iload_n (i := 2) (j := 2) dX7_yearGoes_52 rfl rfl ?_
  refine sx_aload_n (i := 1) (j := 1) dX7_yearGoes_53 rfl rfl ?_
  refine sx_iconst (v := (0 : Int32)) dX7_yearGoes_54 (by decide) ?_
  obtain ⟨c12, h⟩ := gd_e h
  refine sx_iald dX7_yearGoes_55 h1 c12 ?_
  refine sx_icmp_ge (tgt := 93) dX7_yearGoes_56 rfl (fun c13 => ?_) (fun c13 => ?_)
  · have h := if_e c13 h
    obtain rfl := Option.some.inj h
    exact sx_sub [1] rfl (k2 _ rfl)
  · have h := if_n c13 h
    refine sx_aload_n (i := 1) (j := 1) dX7_yearGoes_59 rfl rfl ?_
    refine sx_bipush (v := (29 : Int32)) dX7_yearGoes_60 (by decide) ?_
    refine sx_iload_n (i := 2) (j := 2) dX7_yearGoes_62 rfl rfl ?_
    refine sx_iadd dX7_yearGoes_63 ?_
    obtain ⟨c14, h⟩ := gd_e h
    refine sx_iald dX7_yearGoes_64 h1 c14 ?_
    refine sx_iconst (v := (1 : Int32)) dX7_yearGoes_65 (by decide) ?_
    refine sx_icmp_ne (tgt := 87) dX7_yearGoes_66 rfl (fun c15 => ?_) (fun c15 => ?_)
    · have h := if_e c15 h
      refine sx_aload_n (i := 1) (j := 1) dX7_yearGoes_69 rfl rfl ?_
      refine sx_bipush (v := (14 : Int32)) dX7_yearGoes_70 (by decide) ?_
      refine sx_iload_n (i := 2) (j := 2) dX7_yearGoes_72 rfl rfl ?_
      refine sx_iadd dX7_yearGoes_73 ?_
      obtain ⟨c16, h⟩ := gd_e h
      refine sx_iald dX7_yearGoes_74 h1 c16 ?_
      refine sx_bipush (v := (100 : Int32)) dX7_yearGoes_75 (by decide) ?_
      refine sx_icmp_lt (tgt := 87) dX7_yearGoes_77 rfl (fun c17 => ?_) (fun c17 => ?_)
      · have h := if_e c17 h
        obtain ⟨w18, ew18⟩ : ∃ w : Int32, w = v2 + (1 : Int32) := ⟨_, rfl⟩
        have h := lt_e ew18 h
        refine sx_iinc (j := 2) (v := w18) (lv' := [(0, .ref a0), (1, .ref a1), (2, .int w18)]) dX7_yearGoes_87 rfl (ii_1 ew18) (by decide) rfl ?_
        refine sx_goto (tgt := 52) dX7_yearGoes_90 rfl ?_
        obtain rfl := Option.some.inj h
        exact sx_sub [0, 1, 2] rfl (k1 _ rfl)
      · have h := if_n c17 h
        refine sx_aload_n (i := 0) (j := 0) dX7_yearGoes_80 rfl rfl ?_
        refine sx_aload_n (i := 1) (j := 1) dX7_yearGoes_81 rfl rfl ?_
        refine sx_iload_n (i := 2) (j := 2) dX7_yearGoes_82 rfl rfl ?_
        obtain ⟨z19, ez19, h⟩ := bd_e h
        refine sx_callV (avs := [.ref a1, .int v2]) (rest := []) (st1 := [.int z19.1]) dX7_yearGoes_83 (mX7_falls h0 h1 ez19) ciX7_falls (Or.inl wd_1153) (X7_k h0) rfl rfl rfl rfl (rm_m rfl) rfl (Nat.le_of_ble_eq_true rfl) rfl ?_
        refine sx_pop dX7_yearGoes_86 rfl ?_
        obtain ⟨w20, ew20⟩ : ∃ w : Int32, w = v2 + (1 : Int32) := ⟨_, rfl⟩
        have h := lt_e ew20 h
        refine sx_iinc (j := 2) (v := w20) (lv' := [(0, .ref a0), (1, .ref a1), (2, .int w20)]) dX7_yearGoes_87 rfl (ii_1 ew20) (by decide) rfl ?_
        refine sx_goto (tgt := 52) dX7_yearGoes_90 rfl ?_
        obtain rfl := Option.some.inj h
        exact sx_sub [0, 1, 2] rfl (k1 _ rfl)
    · have h := if_n c15 h
      obtain ⟨w21, ew21⟩ : ∃ w : Int32, w = v2 + (1 : Int32) := ⟨_, rfl⟩
      have h := lt_e ew21 h
      refine sx_iinc (j := 2) (v := w21) (lv' := [(0, .ref a0), (1, .ref a1), (2, .int w21)]) dX7_yearGoes_87 rfl (ii_1 ew21) (by decide) rfl ?_
      refine sx_goto (tgt := 52) dX7_yearGoes_90 rfl ?_
      obtain rfl := Option.some.inj h
      exact sx_sub [0, 1, 2] rfl (k1 _ rfl)
set_option maxRecDepth 100000 in
set_option maxHeartbeats 4000000 in
theorem mX7_yearGoes {l : Launch} {E : Ev} {L : HL} {a0 : Nat} {a1 : Nat} {n1 : Nat} {z : HL} (h0 : isX7 E a0) (h1 : eK E a1 = some (.inr (0, n1))) (h : fX7_yearGoes a0 a1 n1 L = some z) : Mt l E yX7_yearGoes cX7_yearGoes 3 (none) (6) [.ref a0, .ref a1] L (none) z := by
  obtain ⟨r, hr⟩ : ∃ r : Option Value, r = none := ⟨_, rfl⟩
  obtain ⟨L', hL'⟩ : ∃ L' : HL, L' = z := ⟨_, rfl⟩
  have k3 : r = none ∧ L' = z := ⟨hr, hL'⟩
  refine mt_eq hr hL' ?_
  refine Mt.of (plainFor_of_name (by decide)) (Nat.le_of_ble_eq_true rfl) ?_
  refine sx_sub (lv' := [(0, .ref a0), (1, .ref a1)]) [0, 1] rfl ?_
  unfold fX7_yearGoes at h
  refine sx_iconst (v := (0 : Int32)) dX7_yearGoes_0 (by decide) ?_
  refine sx_istore_n (i := 2) (lv' := [(0, .ref a0), (1, .ref a1), (2, .int (0 : Int32))]) dX7_yearGoes_1 rfl (by decide) rfl ?_
  obtain ⟨x27, hx, q1, q2⟩ := lx_e h
  refine sx_sub (lv' := [(0, .ref a0), (1, .ref a1), (2, .int (0 : Int32))]) [0, 1, 2] rfl ?_
  refine lp_go (fun s11 => Sx l E yX7_yearGoes cX7_yearGoes 3 (none) (6) r L' 2 [(0, .ref a0), (1, .ref a1), (2, .int s11.1)] [] s11.2) x27 (fun s11 z2 hz c1 c2 => ?_) FU _ hx
  refine tX7_yearGoes_b2 h0 h1 hz (fun s2 e => c1 s2 e) (fun s11 e => ?_) (fun v e => ?_)
  · have h := q1 _ (c2 _ e).symm
    refine sx_iconst (v := (0 : Int32)) dX7_yearGoes_50 (by decide) ?_
    refine sx_istore_n (i := 2) (lv' := [(0, .ref a0), (1, .ref a1), (2, .int (0 : Int32))]) dX7_yearGoes_51 rfl (by decide) rfl ?_
    obtain ⟨x26, hx, q1, q2⟩ := lx_e h
    refine sx_sub (lv' := [(0, .ref a0), (1, .ref a1), (2, .int (0 : Int32))]) [0, 1, 2] rfl ?_
    refine lp_go (fun s22 => Sx l E yX7_yearGoes cX7_yearGoes 3 (none) (6) r L' 52 [(0, .ref a0), (1, .ref a1), (2, .int s22.1)] [] s22.2) x26 (fun s22 z2 hz c1 c2 => ?_) FU _ hx
    refine tX7_yearGoes_b52 h0 h1 hz (fun s2 e => c1 s2 e) (fun s22 e => ?_) (fun v e => ?_)
    · have h := q1 _ (c2 _ e).symm
      refine sx_aload_n (i := 1) (j := 0) dX7_yearGoes_93 rfl rfl ?_
      refine sx_iconst (v := (2 : Int32)) dX7_yearGoes_94 (by decide) ?_
      refine sx_dup2 dX7_yearGoes_95 rfl rfl ?_
      obtain ⟨c23, h⟩ := gd_e h
      refine sx_iald dX7_yearGoes_96 h1 c23 ?_
      refine sx_iconst (v := (1 : Int32)) dX7_yearGoes_97 (by decide) ?_
      refine sx_iadd dX7_yearGoes_98 ?_
      obtain ⟨c24, h⟩ := gd_e h
      refine sx_iast dX7_yearGoes_99 h1 c24 (fun L25 eL25 => ?_)
      have h := lt_e eL25 h
      obtain rfl := Option.some.inj h
      exact sx_vret dX7_yearGoes_100 rfl k3.1 k3.2
    · have e2 := Option.some.inj (q2 _ (c2 _ e).symm)
      subst e2
      exact k3
  · have e2 := Option.some.inj (q2 _ (c2 _ e).symm)
    subst e2
    exact k3
set_option maxRecDepth 100000 in
set_option maxHeartbeats 4000000 in
theorem tX7_standing_b4 {l : Launch} {E : Ev} {r : Option Value} {L' L : HL} {a0 : Nat} {n0 : Nat} {v1 : Int32} {v2 : Int32} {z : Tn (Int32 × Int32) (Int32)} (h0 : eK E a0 = some (.inr (0, n0))) (h : fX7_standing_b4 a0 n0 v1 v2 L = some z) (k1 : ∀ s, z = .inl s → Sx l E yX7_standing cX7_standing 3 (some .int) (1) r L' 4 [(0, .ref a0), (1, .int s.1), (2, .int s.2)] [] L) (k2 : ∀ s, z = .inr (.inl s) → Sx l E yX7_standing cX7_standing 3 (some .int) (1) r L' 28 [(1, .int s.1)] [] L) (k3 : ∀ v, z = .inr (.inr v) → r = some (.int v) ∧ L' = L) : Sx l E yX7_standing cX7_standing 3 (some .int) (1) r L' 4 [(0, .ref a0), (1, .int v1), (2, .int v2)] [] L := by
  unfold fX7_standing_b4 at h
  refine sx_iload_n (i := 2) (j := 2) dX7_standing_4 rfl rfl ?_
  refine sx_aload_n (i := 0) (j := 0) dX7_standing_5 rfl rfl ?_
  refine sx_iconst (v := (0 : Int32)) dX7_standing_6 (by decide) ?_
  obtain ⟨c1, h⟩ := gd_e h
  refine sx_iald dX7_standing_7 h0 c1 ?_
  refine sx_icmp_ge (tgt := 28) dX7_standing_8 rfl (fun c2 => ?_) (fun c2 => ?_)
  · have h := if_e c2 h
    obtain rfl := Option.some.inj h
    exact sx_sub [1] rfl (k2 _ rfl)
  · have h := if_n c2 h
    refine sx_iload_n (i := 1) (j := 1) dX7_standing_11 rfl rfl ?_
    refine sx_aload_n (i := 0) (j := 0) dX7_standing_12 rfl rfl ?_
    refine sx_bipush (v := (29 : Int32)) dX7_standing_13 (by decide) ?_
    refine sx_iload_n (i := 2) (j := 2) dX7_standing_15 rfl rfl ?_
    refine sx_iadd dX7_standing_16 ?_
    obtain ⟨c3, h⟩ := gd_e h
    refine sx_iald dX7_standing_17 h0 c3 ?_
    refine sx_iload_n (i := 2) (j := 2) dX7_standing_18 rfl rfl ?_
    refine sx_ishl dX7_standing_19 ?_
    refine sx_ior dX7_standing_20 ?_
    refine sx_topi (fun w4 ew4 => ?_)
    have h := lt_e ew4 h
    refine sx_istore_n (i := 1) (lv' := [(0, .ref a0), (1, .int w4), (2, .int v2)]) dX7_standing_21 rfl (by decide) rfl ?_
    obtain ⟨w5, ew5⟩ : ∃ w : Int32, w = v2 + (1 : Int32) := ⟨_, rfl⟩
    have h := lt_e ew5 h
    refine sx_iinc (j := 2) (v := w5) (lv' := [(0, .ref a0), (1, .int w4), (2, .int w5)]) dX7_standing_22 rfl (ii_1 ew5) (by decide) rfl ?_
    refine sx_goto (tgt := 4) dX7_standing_25 rfl ?_
    obtain rfl := Option.some.inj h
    exact sx_sub [0, 1, 2] rfl (k1 _ rfl)
set_option maxRecDepth 100000 in
set_option maxHeartbeats 4000000 in
theorem mX7_standing {l : Launch} {E : Ev} {L : HL} {a0 : Nat} {n0 : Nat} {z : Int32} (h0 : eK E a0 = some (.inr (0, n0))) (h : fX7_standing a0 n0 L = some z) : Mt l E yX7_standing cX7_standing 3 (some .int) (1) [.ref a0] L (some (.int z)) L := by
  obtain ⟨r, hr⟩ : ∃ r : Option Value, r = some (.int z) := ⟨_, rfl⟩
  obtain ⟨L', hL'⟩ : ∃ L' : HL, L' = L := ⟨_, rfl⟩
  have k3 : r = some (.int z) ∧ L' = L := ⟨hr, hL'⟩
  refine mt_eq hr hL' ?_
  refine Mt.of (plainFor_of_name (by decide)) (Nat.le_of_ble_eq_true rfl) ?_
  refine sx_sub (lv' := [(0, .ref a0)]) [0] rfl ?_
  unfold fX7_standing at h
  refine sx_iconst (v := (0 : Int32)) dX7_standing_0 (by decide) ?_
  refine sx_istore_n (i := 1) (lv' := [(0, .ref a0), (1, .int (0 : Int32))]) dX7_standing_1 rfl (by decide) rfl ?_
  refine sx_iconst (v := (0 : Int32)) dX7_standing_2 (by decide) ?_
  refine sx_istore_n (i := 2) (lv' := [(0, .ref a0), (1, .int (0 : Int32)), (2, .int (0 : Int32))]) dX7_standing_3 rfl (by decide) rfl ?_
  obtain ⟨x7, hx, q1, q2⟩ := lx_e h
  refine sx_sub (lv' := [(0, .ref a0), (1, .int (0 : Int32)), (2, .int (0 : Int32))]) [0, 1, 2] rfl ?_
  refine lp_go (fun s6 => Sx l E yX7_standing cX7_standing 3 (some .int) (1) r L' 4 [(0, .ref a0), (1, .int s6.1), (2, .int s6.2)] [] L) x7 (fun s6 z2 hz c1 c2 => ?_) FU _ hx
  refine tX7_standing_b4 h0 hz (fun s2 e => c1 s2 e) (fun s6 e => ?_) (fun v e => ?_)
  · have h := q1 _ (c2 _ e).symm
    refine sx_iload_n (i := 1) (j := 0) dX7_standing_28 rfl rfl ?_
    obtain rfl := Option.some.inj h
    exact sx_iret dX7_standing_29 rfl rfl k3.1 k3.2
  · have e2 := Option.some.inj (q2 _ (c2 _ e).symm)
    subst e2
    exact k3
set_option maxRecDepth 100000 in
set_option maxHeartbeats 4000000 in
theorem tX7_remember_b13 {l : Launch} {E : Ev} {r : Option Value} {L' L : HL} {a0 : Nat} {v1 : Int32} {z : Tn (Int32 × HL) (HL)} (h0 : isX7 E a0) (h : fX7_remember_b13 a0 v1 L = some z) (k1 : ∀ s, z = .inl s → Sx l E yX7_remember cX7_remember 2 (none) (2) r L' 13 [(0, .ref a0), (1, .int s.1)] [] s.2) (k2 : ∀ s, z = .inr (.inl s) → Sx l E yX7_remember cX7_remember 2 (none) (2) r L' 46 [(0, .ref a0)] [] s.2) (k3 : ∀ v, z = .inr (.inr v) → r = none ∧ L' = v) : Sx l E yX7_remember cX7_remember 2 (none) (2) r L' 13 [(0, .ref a0), (1, .int v1)] [] L := by
  unfold fX7_remember_b13 at h
  refine sx_iload_n (i := 1) (j := 1) dX7_remember_13 rfl rfl ?_
  refine sx_bipush (v := (119 : Int32)) dX7_remember_14 (by decide) ?_
  refine sx_icmp_ge (tgt := 46) dX7_remember_16 rfl (fun c2 => ?_) (fun c2 => ?_)
  · have h := if_e c2 h
    obtain rfl := Option.some.inj h
    exact sx_sub [0] rfl (k2 _ rfl)
  · have h := if_n c2 h
    refine sx_aload_n (i := 0) (j := 0) dX7_remember_19 rfl rfl ?_
    refine sx_get (k := 0) (v := .ref (a0 + 1)) dX7_remember_20 (X7_k h0) cf_7 (Or.inl wd_956) (by decide : 0 < 20) (congrArg Value.ref (X7_r0 h0)) ?_
    refine sx_bipush (v := (92 : Int32)) dX7_remember_23 (by decide) ?_
    refine sx_iload_n (i := 1) (j := 1) dX7_remember_25 rfl rfl ?_
    refine sx_iadd dX7_remember_26 ?_
    refine sx_aload_n (i := 0) (j := 0) dX7_remember_27 rfl rfl ?_
    refine sx_get (k := 0) (v := .ref (a0 + 1)) dX7_remember_28 (X7_k h0) cf_7 (Or.inl wd_956) (by decide : 0 < 20) (congrArg Value.ref (X7_r0 h0)) ?_
    refine sx_bipush (v := (92 : Int32)) dX7_remember_31 (by decide) ?_
    refine sx_iload_n (i := 1) (j := 1) dX7_remember_33 rfl rfl ?_
    refine sx_iadd dX7_remember_34 ?_
    refine sx_bipush (v := (17 : Int32)) dX7_remember_35 (by decide) ?_
    refine sx_iadd dX7_remember_37 ?_
    obtain ⟨c3, h⟩ := gd_e h
    refine sx_iald dX7_remember_38 (X7_a0 h0) c3 ?_
    obtain ⟨c4, h⟩ := gd_e h
    refine sx_iast dX7_remember_39 (X7_a0 h0) c4 (fun L5 eL5 => ?_)
    have h := lt_e eL5 h
    obtain ⟨w6, ew6⟩ : ∃ w : Int32, w = v1 + (1 : Int32) := ⟨_, rfl⟩
    have h := lt_e ew6 h
    refine sx_iinc (j := 1) (v := w6) (lv' := [(0, .ref a0), (1, .int w6)]) dX7_remember_40 rfl (ii_1 ew6) (by decide) rfl ?_
    refine sx_goto (tgt := 13) dX7_remember_43 rfl ?_
    obtain rfl := Option.some.inj h
    exact sx_sub [0, 1] rfl (k1 _ rfl)
set_option maxRecDepth 100000 in
set_option maxHeartbeats 4000000 in
theorem tX7_remember_j56 {l : Launch} {E : Ev} {r : Option Value} {L' L : HL} {a0 : Nat} {z : HL} (h0 : isX7 E a0) (h : fX7_remember_j56 a0 L = some z) (k3 : r = none ∧ L' = z) : Sx l E yX7_remember cX7_remember 2 (none) (2) r L' 56 [(0, .ref a0)] [] L := by
  unfold fX7_remember_j56 at h
  refine sx_bipush (v := (92 : Int32)) dX7_remember_56 (by decide) ?_
  refine sx_bipush (v := (17 : Int32)) dX7_remember_58 (by decide) ?_
  refine sx_aload_n (i := 0) (j := 0) dX7_remember_60 rfl rfl ?_
  refine sx_get (k := 0) (v := .ref (a0 + 1)) dX7_remember_61 (X7_k h0) cf_7 (Or.inl wd_956) (by decide : 0 < 20) (congrArg Value.ref (X7_r0 h0)) ?_
  refine sx_iconst (v := (3 : Int32)) dX7_remember_64 (by decide) ?_
  refine sx_iald dX7_remember_65 (X7_a0 h0) (show vin (3 : Int32) 228 from by decide) ?_
  refine sx_imul dX7_remember_66 ?_
  refine sx_iadd dX7_remember_67 ?_
  refine sx_topi (fun w9 ew9 => ?_)
  have h := lt_e ew9 h
  refine sx_istore_n (i := 1) (lv' := [(0, .ref a0), (1, .int w9)]) dX7_remember_68 rfl (by decide) rfl ?_
  refine sx_aload_n (i := 0) (j := 0) dX7_remember_69 rfl rfl ?_
  refine sx_get (k := 0) (v := .ref (a0 + 1)) dX7_remember_70 (X7_k h0) cf_7 (Or.inl wd_956) (by decide : 0 < 20) (congrArg Value.ref (X7_r0 h0)) ?_
  refine sx_bipush (v := (29 : Int32)) dX7_remember_73 (by decide) ?_
  refine sx_aload_n (i := 0) (j := 0) dX7_remember_75 rfl rfl ?_
  refine sx_get (k := 0) (v := .ref (a0 + 1)) dX7_remember_76 (X7_k h0) cf_7 (Or.inl wd_956) (by decide : 0 < 20) (congrArg Value.ref (X7_r0 h0)) ?_
  refine sx_iload_n (i := 1) (j := 1) dX7_remember_79 rfl rfl ?_
  refine sx_iconst (v := (5 : Int32)) dX7_remember_80 (by decide) ?_
  obtain ⟨z10, ez10, h⟩ := bd_e h
  refine sx_callS (avs := [.ref (a0 + 1), .int (29 : Int32), .ref (a0 + 1), .int w9, .int (5 : Int32)]) (rest := []) (st1 := []) dX7_remember_81 (mX7_copies (X7_a0 h0) (X7_a0 h0) ez10) ctX7_copies (Or.inl wd_1134) rfl rfl (rm_m rfl) rfl (Nat.le_of_ble_eq_true rfl) rfl ?_
  refine sx_aload_n (i := 0) (j := 0) dX7_remember_84 rfl rfl ?_
  refine sx_get (k := 0) (v := .ref (a0 + 1)) dX7_remember_85 (X7_k h0) cf_7 (Or.inl wd_956) (by decide : 0 < 20) (congrArg Value.ref (X7_r0 h0)) ?_
  refine sx_bipush (v := (14 : Int32)) dX7_remember_88 (by decide) ?_
  refine sx_aload_n (i := 0) (j := 0) dX7_remember_90 rfl rfl ?_
  refine sx_get (k := 0) (v := .ref (a0 + 1)) dX7_remember_91 (X7_k h0) cf_7 (Or.inl wd_956) (by decide : 0 < 20) (congrArg Value.ref (X7_r0 h0)) ?_
  refine sx_iload_n (i := 1) (j := 1) dX7_remember_94 rfl rfl ?_
  refine sx_iconst (v := (5 : Int32)) dX7_remember_95 (by decide) ?_
  refine sx_iadd dX7_remember_96 ?_
  refine sx_iconst (v := (5 : Int32)) dX7_remember_97 (by decide) ?_
  obtain ⟨z11, ez11, h⟩ := bd_e h
  refine sx_callS (avs := [.ref (a0 + 1), .int (14 : Int32), .ref (a0 + 1), .int (w9 + (5 : Int32)), .int (5 : Int32)]) (rest := []) (st1 := []) dX7_remember_98 (mX7_copies (X7_a0 h0) (X7_a0 h0) ez11) ctX7_copies (Or.inl wd_1134) rfl rfl (rm_m rfl) rfl (Nat.le_of_ble_eq_true rfl) rfl ?_
  refine sx_aload_n (i := 0) (j := 0) dX7_remember_101 rfl rfl ?_
  refine sx_get (k := 0) (v := .ref (a0 + 1)) dX7_remember_102 (X7_k h0) cf_7 (Or.inl wd_956) (by decide : 0 < 20) (congrArg Value.ref (X7_r0 h0)) ?_
  refine sx_bipush (v := (70 : Int32)) dX7_remember_105 (by decide) ?_
  refine sx_aload_n (i := 0) (j := 0) dX7_remember_107 rfl rfl ?_
  refine sx_get (k := 0) (v := .ref (a0 + 1)) dX7_remember_108 (X7_k h0) cf_7 (Or.inl wd_956) (by decide : 0 < 20) (congrArg Value.ref (X7_r0 h0)) ?_
  refine sx_iload_n (i := 1) (j := 1) dX7_remember_111 rfl rfl ?_
  refine sx_bipush (v := (10 : Int32)) dX7_remember_112 (by decide) ?_
  refine sx_iadd dX7_remember_114 ?_
  refine sx_bipush (v := (6 : Int32)) dX7_remember_115 (by decide) ?_
  obtain ⟨z12, ez12, h⟩ := bd_e h
  refine sx_callS (avs := [.ref (a0 + 1), .int (70 : Int32), .ref (a0 + 1), .int (w9 + (10 : Int32)), .int (6 : Int32)]) (rest := []) (st1 := []) dX7_remember_117 (mX7_copies (X7_a0 h0) (X7_a0 h0) ez12) ctX7_copies (Or.inl wd_1134) rfl rfl (rm_m rfl) rfl (Nat.le_of_ble_eq_true rfl) rfl ?_
  refine sx_aload_n (i := 0) (j := 0) dX7_remember_120 rfl rfl ?_
  refine sx_get (k := 0) (v := .ref (a0 + 1)) dX7_remember_121 (X7_k h0) cf_7 (Or.inl wd_956) (by decide : 0 < 20) (congrArg Value.ref (X7_r0 h0)) ?_
  refine sx_iload_n (i := 1) (j := 1) dX7_remember_124 rfl rfl ?_
  refine sx_bipush (v := (16 : Int32)) dX7_remember_125 (by decide) ?_
  refine sx_iadd dX7_remember_127 ?_
  refine sx_aload_n (i := 0) (j := 0) dX7_remember_128 rfl rfl ?_
  refine sx_get (k := 0) (v := .ref (a0 + 1)) dX7_remember_129 (X7_k h0) cf_7 (Or.inl wd_956) (by decide : 0 < 20) (congrArg Value.ref (X7_r0 h0)) ?_
  refine sx_iconst (v := (2 : Int32)) dX7_remember_132 (by decide) ?_
  refine sx_iald dX7_remember_133 (X7_a0 h0) (show vin (2 : Int32) 228 from by decide) ?_
  obtain ⟨c13, h⟩ := gd_e h
  refine sx_iast dX7_remember_134 (X7_a0 h0) c13 (fun L14 eL14 => ?_)
  have h := lt_e eL14 h
  refine sx_aload_n (i := 0) (j := 0) dX7_remember_135 rfl rfl ?_
  refine sx_get (k := 0) (v := .ref (a0 + 1)) dX7_remember_136 (X7_k h0) cf_7 (Or.inl wd_956) (by decide : 0 < 20) (congrArg Value.ref (X7_r0 h0)) ?_
  refine sx_iconst (v := (3 : Int32)) dX7_remember_139 (by decide) ?_
  refine sx_dup2 dX7_remember_140 rfl rfl ?_
  refine sx_iald dX7_remember_141 (X7_a0 h0) (show vin (3 : Int32) 228 from by decide) ?_
  refine sx_iconst (v := (1 : Int32)) dX7_remember_142 (by decide) ?_
  refine sx_iadd dX7_remember_143 ?_
  refine sx_iast dX7_remember_144 (X7_a0 h0) (show vin (3 : Int32) 228 from by decide) (fun L15 eL15 => ?_)
  have h := lt_e eL15 h
  obtain rfl := Option.some.inj h
  exact sx_vret dX7_remember_145 rfl k3.1 k3.2
set_option maxRecDepth 100000 in
set_option maxHeartbeats 4000000 in
theorem mX7_remember {l : Launch} {E : Ev} {L : HL} {a0 : Nat} {z : HL} (h0 : isX7 E a0) (h : fX7_remember a0 L = some z) : Mt l E yX7_remember cX7_remember 2 (none) (2) [.ref a0] L (none) z := by
  obtain ⟨r, hr⟩ : ∃ r : Option Value, r = none := ⟨_, rfl⟩
  obtain ⟨L', hL'⟩ : ∃ L' : HL, L' = z := ⟨_, rfl⟩
  have k3 : r = none ∧ L' = z := ⟨hr, hL'⟩
  refine mt_eq hr hL' ?_
  refine Mt.of (plainFor_of_name (by decide)) (Nat.le_of_ble_eq_true rfl) ?_
  refine sx_sub (lv' := [(0, .ref a0)]) [0] rfl ?_
  unfold fX7_remember at h
  refine sx_aload_n (i := 0) (j := 0) dX7_remember_0 rfl rfl ?_
  refine sx_get (k := 0) (v := .ref (a0 + 1)) dX7_remember_1 (X7_k h0) cf_7 (Or.inl wd_956) (by decide : 0 < 20) (congrArg Value.ref (X7_r0 h0)) ?_
  refine sx_iconst (v := (3 : Int32)) dX7_remember_4 (by decide) ?_
  refine sx_iald dX7_remember_5 (X7_a0 h0) (show vin (3 : Int32) 228 from by decide) ?_
  refine sx_bipush (v := (8 : Int32)) dX7_remember_6 (by decide) ?_
  refine sx_icmp_ne (tgt := 56) dX7_remember_8 rfl (fun c1 => ?_) (fun c1 => ?_)
  · have h := if_e c1 h
    refine sx_iconst (v := (0 : Int32)) dX7_remember_11 (by decide) ?_
    refine sx_istore_n (i := 1) (lv' := [(0, .ref a0), (1, .int (0 : Int32))]) dX7_remember_12 rfl (by decide) rfl ?_
    obtain ⟨x16, hx, q1, q2⟩ := lx_e h
    refine sx_sub (lv' := [(0, .ref a0), (1, .int (0 : Int32))]) [0, 1] rfl ?_
    refine lp_go (fun s7 => Sx l E yX7_remember cX7_remember 2 (none) (2) r L' 13 [(0, .ref a0), (1, .int s7.1)] [] s7.2) x16 (fun s7 z2 hz c1 c2 => ?_) FU _ hx
    refine tX7_remember_b13 h0 hz (fun s2 e => c1 s2 e) (fun s7 e => ?_) (fun v e => ?_)
    · have h := q1 _ (c2 _ e).symm
      refine sx_aload_n (i := 0) (j := 0) dX7_remember_46 rfl rfl ?_
      refine sx_get (k := 0) (v := .ref (a0 + 1)) dX7_remember_47 (X7_k h0) cf_7 (Or.inl wd_956) (by decide : 0 < 20) (congrArg Value.ref (X7_r0 h0)) ?_
      refine sx_iconst (v := (3 : Int32)) dX7_remember_50 (by decide) ?_
      refine sx_dup2 dX7_remember_51 rfl rfl ?_
      refine sx_iald dX7_remember_52 (X7_a0 h0) (show vin (3 : Int32) 228 from by decide) ?_
      refine sx_iconst (v := (1 : Int32)) dX7_remember_53 (by decide) ?_
      refine sx_isub dX7_remember_54 ?_
      refine sx_iast dX7_remember_55 (X7_a0 h0) (show vin (3 : Int32) 228 from by decide) (fun L8 eL8 => ?_)
      have h := lt_e eL8 h
      exact sx_sub [0] rfl (tX7_remember_j56 h0 h k3)
    · have e2 := Option.some.inj (q2 _ (c2 _ e).symm)
      subst e2
      exact k3
  · have h := if_n c1 h
    exact sx_sub [0] rfl (tX7_remember_j56 h0 h k3)
set_option maxRecDepth 100000 in
set_option maxHeartbeats 4000000 in
theorem mX7_fall {l : Launch} {E : Ev} {L : HL} {a0 : Nat} {v1 : Int32} {z : Int32 × HL} (h0 : isX7 E a0) (h : fX7_fall a0 v1 L = some z) : Mt l E yX7_fall cX7_fall 2 (some .int) (6) [.ref a0, .int v1] L (some (.int z.1)) (z.2) := by
  obtain ⟨r, hr⟩ : ∃ r : Option Value, r = some (.int z.1) := ⟨_, rfl⟩
  obtain ⟨L', hL'⟩ : ∃ L' : HL, L' = z.2 := ⟨_, rfl⟩
  have k3 : r = some (.int z.1) ∧ L' = z.2 := ⟨hr, hL'⟩
  refine mt_eq hr hL' ?_
  refine Mt.of (plainFor_of_name (by decide)) (Nat.le_of_ble_eq_true rfl) ?_
  refine sx_sub (lv' := [(0, .ref a0), (1, .int v1)]) [0, 1] rfl ?_
  unfold fX7_fall at h
  refine sx_aload_n (i := 0) (j := 0) dX7_fall_0 rfl rfl ?_
  refine sx_iload_n (i := 1) (j := 1) dX7_fall_1 rfl rfl ?_
  obtain ⟨z1, ez1, h⟩ := bd_e h
  refine sx_callV (avs := [.int v1]) (rest := []) (st1 := [.int z1]) dX7_fall_2 (mX7_isHouse h0 ez1) ciX7_isHouse (Or.inl wd_1047) (X7_k h0) rfl rfl rfl rfl (rm_m rfl) rfl (Nat.le_of_ble_eq_true rfl) rfl ?_
  refine sx_if_ne (tgt := 15) dX7_fall_5 rfl (fun c2 => ?_) (fun c2 => ?_)
  · have h := if_e c2 h
    refine sx_aload_n (i := 0) (j := 0) dX7_fall_8 rfl rfl ?_
    refine sx_bipush (v := (-10 : Int32)) dX7_fall_9 (by decide) ?_
    obtain ⟨z3, ez3, h⟩ := bd_e h
    refine sx_callV (avs := [.int (-10 : Int32)]) (rest := []) (st1 := [.int z3.1]) dX7_fall_11 (mX7_bad h0 ez3) ciX7_bad (Or.inl wd_1094) (X7_k h0) rfl rfl rfl rfl (rm_m rfl) rfl (Nat.le_of_ble_eq_true rfl) rfl ?_
    obtain rfl := Option.some.inj h
    exact sx_iret dX7_fall_14 rfl rfl k3.1 k3.2
  · have h := if_n c2 h
    refine sx_aload_n (i := 0) (j := 0) dX7_fall_15 rfl rfl ?_
    refine sx_get (k := 0) (v := .ref (a0 + 1)) dX7_fall_16 (X7_k h0) cf_7 (Or.inl wd_956) (by decide : 0 < 20) (congrArg Value.ref (X7_r0 h0)) ?_
    refine sx_bipush (v := (29 : Int32)) dX7_fall_19 (by decide) ?_
    refine sx_iload_n (i := 1) (j := 1) dX7_fall_21 rfl rfl ?_
    refine sx_iadd dX7_fall_22 ?_
    obtain ⟨c4, h⟩ := gd_e h
    refine sx_iald dX7_fall_23 (X7_a0 h0) c4 ?_
    refine sx_if_ne (tgt := 34) dX7_fall_24 rfl (fun c5 => ?_) (fun c5 => ?_)
    · have h := if_e c5 h
      refine sx_aload_n (i := 0) (j := 0) dX7_fall_27 rfl rfl ?_
      refine sx_bipush (v := (-20 : Int32)) dX7_fall_28 (by decide) ?_
      obtain ⟨z6, ez6, h⟩ := bd_e h
      refine sx_callV (avs := [.int (-20 : Int32)]) (rest := []) (st1 := [.int z6.1]) dX7_fall_30 (mX7_no h0 ez6) ciX7_no (Or.inl wd_1145) (X7_k h0) rfl rfl rfl rfl (rm_m rfl) rfl (Nat.le_of_ble_eq_true rfl) rfl ?_
      obtain rfl := Option.some.inj h
      exact sx_iret dX7_fall_33 rfl rfl k3.1 k3.2
    · have h := if_n c5 h
      refine sx_aload_n (i := 0) (j := 0) dX7_fall_34 rfl rfl ?_
      obtain ⟨z7, ez7, h⟩ := bd_e h
      refine sx_callV (avs := []) (rest := []) (st1 := []) dX7_fall_35 (mX7_remember h0 ez7) ciX7_remember (Or.inl wd_1149) (X7_k h0) rfl rfl rfl rfl (rm_m rfl) rfl (Nat.le_of_ble_eq_true rfl) rfl ?_
      refine sx_aload_n (i := 0) (j := 0) dX7_fall_38 rfl rfl ?_
      refine sx_aload_n (i := 0) (j := 0) dX7_fall_39 rfl rfl ?_
      refine sx_get (k := 0) (v := .ref (a0 + 1)) dX7_fall_40 (X7_k h0) cf_7 (Or.inl wd_956) (by decide : 0 < 20) (congrArg Value.ref (X7_r0 h0)) ?_
      refine sx_iload_n (i := 1) (j := 1) dX7_fall_43 rfl rfl ?_
      obtain ⟨z8, ez8, h⟩ := bd_e h
      refine sx_callV (avs := [.ref (a0 + 1), .int v1]) (rest := []) (st1 := [.int z8.1]) dX7_fall_44 (mX7_falls h0 (X7_a0 h0) ez8) ciX7_falls (Or.inl wd_1153) (X7_k h0) rfl rfl rfl rfl (rm_m rfl) rfl (Nat.le_of_ble_eq_true rfl) rfl ?_
      obtain rfl := Option.some.inj h
      exact sx_iret dX7_fall_47 rfl rfl k3.1 k3.2
set_option maxRecDepth 100000 in
set_option maxHeartbeats 4000000 in
theorem tX7_year_b21 {l : Launch} {E : Ev} {r : Option Value} {L' L : HL} {a0 : Nat} {v1 : Int32} {v2 : Int32} {z : Tn (Int32 × HL) (Int32 × HL)} (h0 : isX7 E a0) (h : fX7_year_b21 a0 v1 v2 L = some z) (k1 : ∀ s, z = .inl s → Sx l E yX7_year cX7_year 3 (some .int) (7) r L' 21 [(0, .ref a0), (1, .int v1), (2, .int s.1)] [] s.2) (k2 : ∀ s, z = .inr (.inl s) → Sx l E yX7_year cX7_year 3 (some .int) (7) r L' 44 [(0, .ref a0)] [] s.2) (k3 : ∀ v, z = .inr (.inr v) → r = some (.int v.1) ∧ L' = v.2) : Sx l E yX7_year cX7_year 3 (some .int) (7) r L' 21 [(0, .ref a0), (1, .int v1), (2, .int v2)] [] L := by
  unfold fX7_year_b21 at h
  refine sx_iload_n (i := 2) (j := 2) dX7_year_21 rfl rfl ?_
  refine sx_iload_n (i := 1) (j := 1) dX7_year_22 rfl rfl ?_
  refine sx_icmp_ge (tgt := 44) dX7_year_23 rfl (fun c4 => ?_) (fun c4 => ?_)
  · have h := if_e c4 h
    obtain rfl := Option.some.inj h
    exact sx_sub [0] rfl (k2 _ rfl)
  · have h := if_n c4 h
    refine sx_aload_n (i := 0) (j := 0) dX7_year_26 rfl rfl ?_
    obtain ⟨z5, ez5, h⟩ := bd_e h
    refine sx_callV (avs := []) (rest := []) (st1 := []) dX7_year_27 (mX7_remember h0 ez5) ciX7_remember (Or.inl wd_1149) (X7_k h0) rfl rfl rfl rfl (rm_m rfl) rfl (Nat.le_of_ble_eq_true rfl) rfl ?_
    refine sx_aload_n (i := 0) (j := 0) dX7_year_30 rfl rfl ?_
    refine sx_aload_n (i := 0) (j := 0) dX7_year_31 rfl rfl ?_
    refine sx_get (k := 0) (v := .ref (a0 + 1)) dX7_year_32 (X7_k h0) cf_7 (Or.inl wd_956) (by decide : 0 < 20) (congrArg Value.ref (X7_r0 h0)) ?_
    obtain ⟨z6, ez6, h⟩ := bd_e h
    refine sx_callV (avs := [.ref (a0 + 1)]) (rest := []) (st1 := []) dX7_year_35 (mX7_yearGoes h0 (X7_a0 h0) ez6) ciX7_yearGoes (Or.inl wd_1190) (X7_k h0) rfl rfl rfl rfl (rm_m rfl) rfl (Nat.le_of_ble_eq_true rfl) rfl ?_
    obtain ⟨w7, ew7⟩ : ∃ w : Int32, w = v2 + (1 : Int32) := ⟨_, rfl⟩
    have h := lt_e ew7 h
    refine sx_iinc (j := 2) (v := w7) (lv' := [(0, .ref a0), (1, .int v1), (2, .int w7)]) dX7_year_38 rfl (ii_1 ew7) (by decide) rfl ?_
    refine sx_goto (tgt := 21) dX7_year_41 rfl ?_
    obtain rfl := Option.some.inj h
    exact sx_sub [0, 1, 2] rfl (k1 _ rfl)
set_option maxRecDepth 100000 in
set_option maxHeartbeats 4000000 in
theorem mX7_year {l : Launch} {E : Ev} {L : HL} {a0 : Nat} {v1 : Int32} {z : Int32 × HL} (h0 : isX7 E a0) (h : fX7_year a0 v1 L = some z) : Mt l E yX7_year cX7_year 3 (some .int) (7) [.ref a0, .int v1] L (some (.int z.1)) (z.2) := by
  obtain ⟨r, hr⟩ : ∃ r : Option Value, r = some (.int z.1) := ⟨_, rfl⟩
  obtain ⟨L', hL'⟩ : ∃ L' : HL, L' = z.2 := ⟨_, rfl⟩
  have k3 : r = some (.int z.1) ∧ L' = z.2 := ⟨hr, hL'⟩
  refine mt_eq hr hL' ?_
  refine Mt.of (plainFor_of_name (by decide)) (Nat.le_of_ble_eq_true rfl) ?_
  refine sx_sub (lv' := [(0, .ref a0), (1, .int v1)]) [0, 1] rfl ?_
  unfold fX7_year at h
  refine sx_iload_n (i := 1) (j := 1) dX7_year_0 rfl rfl ?_
  refine sx_i2l dX7_year_1 ?_
  refine sx_lconst (v := (1 : Int64)) dX7_year_2 (by decide) ?_
  refine sx_ldc2 (v := (20 : Int64)) dX7_year_3 wd_1189 ?_
  obtain ⟨z1, ez1, h⟩ := bd_e h
  refine sx_callS (avs := [.long v1.toInt64, .long (1 : Int64), .long (20 : Int64)]) (rest := []) (st1 := [.int z1]) dX7_year_6 (mX7_in ez1) ctX7_in (Or.inl wd_1031) rfl rfl (rm_m rfl) rfl (Nat.le_of_ble_eq_true rfl) rfl ?_
  refine sx_if_ne (tgt := 19) dX7_year_9 rfl (fun c2 => ?_) (fun c2 => ?_)
  · have h := if_e c2 h
    refine sx_aload_n (i := 0) (j := 0) dX7_year_12 rfl rfl ?_
    refine sx_bipush (v := (-2 : Int32)) dX7_year_13 (by decide) ?_
    obtain ⟨z3, ez3, h⟩ := bd_e h
    refine sx_callV (avs := [.int (-2 : Int32)]) (rest := []) (st1 := [.int z3.1]) dX7_year_15 (mX7_bad h0 ez3) ciX7_bad (Or.inl wd_1094) (X7_k h0) rfl rfl rfl rfl (rm_m rfl) rfl (Nat.le_of_ble_eq_true rfl) rfl ?_
    obtain rfl := Option.some.inj h
    exact sx_iret dX7_year_18 rfl rfl k3.1 k3.2
  · have h := if_n c2 h
    refine sx_iconst (v := (0 : Int32)) dX7_year_19 (by decide) ?_
    refine sx_istore_n (i := 2) (lv' := [(0, .ref a0), (1, .int v1), (2, .int (0 : Int32))]) dX7_year_20 rfl (by decide) rfl ?_
    obtain ⟨x11, hx, q1, q2⟩ := lx_e h
    refine sx_sub (lv' := [(0, .ref a0), (1, .int v1), (2, .int (0 : Int32))]) [0, 1, 2] rfl ?_
    refine lp_go (fun s8 => Sx l E yX7_year cX7_year 3 (some .int) (7) r L' 21 [(0, .ref a0), (1, .int v1), (2, .int s8.1)] [] s8.2) x11 (fun s8 z2 hz c1 c2 => ?_) FU _ hx
    refine tX7_year_b21 h0 hz (fun s2 e => c1 s2 e) (fun s8 e => ?_) (fun v e => ?_)
    · have h := q1 _ (c2 _ e).symm
      refine sx_aload_n (i := 0) (j := 0) dX7_year_44 rfl rfl ?_
      refine sx_get (k := 0) (v := .ref (a0 + 1)) dX7_year_45 (X7_k h0) cf_7 (Or.inl wd_956) (by decide : 0 < 20) (congrArg Value.ref (X7_r0 h0)) ?_
      obtain ⟨z9, ez9, h⟩ := bd_e h
      refine sx_callS (avs := [.ref (a0 + 1)]) (rest := []) (st1 := [.int z9]) dX7_year_48 (mX7_standing (X7_a0 h0) ez9) ctX7_standing (Or.inl wd_1197) rfl rfl (rm_m rfl) rfl (Nat.le_of_ble_eq_true rfl) rfl ?_
      obtain ⟨z10, ez10, h⟩ := bd_e h
      refine sx_callS (avs := [.int z9]) (rest := []) (st1 := [.int z10]) dX7_year_51 (mX7_bits ez10) ctX7_bits (Or.inl wd_1176) rfl rfl (rm_m rfl) rfl (Nat.le_of_ble_eq_true rfl) rfl ?_
      obtain rfl := Option.some.inj h
      exact sx_iret dX7_year_54 rfl rfl k3.1 k3.2
    · have e2 := Option.some.inj (q2 _ (c2 _ e).symm)
      subst e2
      exact k3
set_option maxRecDepth 100000 in
set_option maxHeartbeats 4000000 in
theorem tX7_move_j21 {l : Launch} {E : Ev} {r : Option Value} {L' L : HL} {a0 : Nat} {z : Int32 × HL} (h0 : isX7 E a0) (h : fX7_move_j21 a0 L = some z) (k3 : r = some (.int z.1) ∧ L' = z.2) : Sx l E yX7_move cX7_move 4 (some .int) (3) r L' 21 [(0, .ref a0)] [] L := by
  unfold fX7_move_j21 at h
  refine sx_aload_n (i := 0) (j := 0) dX7_move_21 rfl rfl ?_
  refine sx_bipush (v := (-10 : Int32)) dX7_move_22 (by decide) ?_
  obtain ⟨z3, ez3, h⟩ := bd_e h
  refine sx_callV (avs := [.int (-10 : Int32)]) (rest := []) (st1 := [.int z3.1]) dX7_move_24 (mX7_bad h0 ez3) ciX7_bad (Or.inl wd_1094) (X7_k h0) rfl rfl rfl rfl (rm_m rfl) rfl (Nat.le_of_ble_eq_true rfl) rfl ?_
  obtain rfl := Option.some.inj h
  exact sx_iret dX7_move_27 rfl rfl k3.1 k3.2
set_option maxRecDepth 100000 in
set_option maxHeartbeats 4000000 in
theorem tX7_move_j58 {l : Launch} {E : Ev} {r : Option Value} {L' L : HL} {a0 : Nat} {z : Int32 × HL} (h0 : isX7 E a0) (h : fX7_move_j58 a0 L = some z) (k3 : r = some (.int z.1) ∧ L' = z.2) : Sx l E yX7_move cX7_move 4 (some .int) (3) r L' 58 [(0, .ref a0)] [] L := by
  unfold fX7_move_j58 at h
  refine sx_aload_n (i := 0) (j := 0) dX7_move_58 rfl rfl ?_
  refine sx_bipush (v := (-20 : Int32)) dX7_move_59 (by decide) ?_
  obtain ⟨z8, ez8, h⟩ := bd_e h
  refine sx_callV (avs := [.int (-20 : Int32)]) (rest := []) (st1 := [.int z8.1]) dX7_move_61 (mX7_no h0 ez8) ciX7_no (Or.inl wd_1145) (X7_k h0) rfl rfl rfl rfl (rm_m rfl) rfl (Nat.le_of_ble_eq_true rfl) rfl ?_
  obtain rfl := Option.some.inj h
  exact sx_iret dX7_move_64 rfl rfl k3.1 k3.2
set_option maxRecDepth 100000 in
set_option maxHeartbeats 4000000 in
theorem tX7_move_j45 {l : Launch} {E : Ev} {r : Option Value} {L' L : HL} {a0 : Nat} {v1 : Int32} {v2 : Int32} {z : Int32 × HL} (h0 : isX7 E a0) (h : fX7_move_j45 a0 v1 v2 L = some z) (k3 : r = some (.int z.1) ∧ L' = z.2) : Sx l E yX7_move cX7_move 4 (some .int) (3) r L' 45 [(0, .ref a0), (1, .int v1), (2, .int v2)] [] L := by
  unfold fX7_move_j45 at h
  refine sx_aload_n (i := 0) (j := 0) dX7_move_45 rfl rfl ?_
  refine sx_get (k := 0) (v := .ref (a0 + 1)) dX7_move_46 (X7_k h0) cf_7 (Or.inl wd_956) (by decide : 0 < 20) (congrArg Value.ref (X7_r0 h0)) ?_
  refine sx_bipush (v := (70 : Int32)) dX7_move_49 (by decide) ?_
  refine sx_iload_n (i := 1) (j := 1) dX7_move_51 rfl rfl ?_
  refine sx_iadd dX7_move_52 ?_
  obtain ⟨c6, h⟩ := gd_e h
  refine sx_iald dX7_move_53 (X7_a0 h0) c6 ?_
  refine sx_iload_n (i := 2) (j := 2) dX7_move_54 rfl rfl ?_
  refine sx_icmp_ne (tgt := 65) dX7_move_55 rfl (fun c7 => ?_) (fun c7 => ?_)
  · have h := if_e c7 h
    exact sx_sub [0] rfl (tX7_move_j58 h0 h k3)
  · have h := if_n c7 h
    refine sx_aload_n (i := 0) (j := 0) dX7_move_65 rfl rfl ?_
    obtain ⟨z9, ez9, h⟩ := bd_e h
    refine sx_callV (avs := []) (rest := []) (st1 := []) dX7_move_66 (mX7_remember h0 ez9) ciX7_remember (Or.inl wd_1149) (X7_k h0) rfl rfl rfl rfl (rm_m rfl) rfl (Nat.le_of_ble_eq_true rfl) rfl ?_
    refine sx_aload_n (i := 0) (j := 0) dX7_move_69 rfl rfl ?_
    refine sx_get (k := 0) (v := .ref (a0 + 1)) dX7_move_70 (X7_k h0) cf_7 (Or.inl wd_956) (by decide : 0 < 20) (congrArg Value.ref (X7_r0 h0)) ?_
    refine sx_bipush (v := (70 : Int32)) dX7_move_73 (by decide) ?_
    refine sx_iload_n (i := 1) (j := 1) dX7_move_75 rfl rfl ?_
    refine sx_iadd dX7_move_76 ?_
    obtain ⟨c10, h⟩ := gd_e h
    refine sx_iald dX7_move_77 (X7_a0 h0) c10 ?_
    refine sx_topi (fun w11 ew11 => ?_)
    have h := lt_e ew11 h
    refine sx_istore_n (i := 3) (lv' := [(0, .ref a0), (1, .int v1), (2, .int v2), (3, .int w11)]) dX7_move_78 rfl (by decide) rfl ?_
    refine sx_aload_n (i := 0) (j := 0) dX7_move_79 rfl rfl ?_
    refine sx_get (k := 0) (v := .ref (a0 + 1)) dX7_move_80 (X7_k h0) cf_7 (Or.inl wd_956) (by decide : 0 < 20) (congrArg Value.ref (X7_r0 h0)) ?_
    refine sx_bipush (v := (70 : Int32)) dX7_move_83 (by decide) ?_
    refine sx_iload_n (i := 1) (j := 1) dX7_move_85 rfl rfl ?_
    refine sx_iadd dX7_move_86 ?_
    refine sx_iload_n (i := 2) (j := 2) dX7_move_87 rfl rfl ?_
    obtain ⟨c12, h⟩ := gd_e h
    refine sx_iast dX7_move_88 (X7_a0 h0) c12 (fun L13 eL13 => ?_)
    have h := lt_e eL13 h
    refine sx_iload_n (i := 3) (j := 3) dX7_move_89 rfl rfl ?_
    obtain rfl := Option.some.inj h
    exact sx_iret dX7_move_90 rfl rfl k3.1 k3.2
set_option maxRecDepth 100000 in
set_option maxHeartbeats 4000000 in
theorem tX7_move_j28 {l : Launch} {E : Ev} {r : Option Value} {L' L : HL} {a0 : Nat} {v1 : Int32} {v2 : Int32} {z : Int32 × HL} (h0 : isX7 E a0) (h : fX7_move_j28 a0 v1 v2 L = some z) (k3 : r = some (.int z.1) ∧ L' = z.2) : Sx l E yX7_move cX7_move 4 (some .int) (3) r L' 28 [(0, .ref a0), (1, .int v1), (2, .int v2)] [] L := by
  unfold fX7_move_j28 at h
  refine sx_iload_n (i := 2) (j := 2) dX7_move_28 rfl rfl ?_
  refine sx_iconst (v := (-1 : Int32)) dX7_move_29 (by decide) ?_
  refine sx_icmp_eq (tgt := 45) dX7_move_30 rfl (fun c5 => ?_) (fun c5 => ?_)
  · have h := if_e c5 h
    exact sx_sub [0, 1, 2] rfl (tX7_move_j45 h0 h k3)
  · have h := if_n c5 h
    refine sx_aload_n (i := 0) (j := 0) dX7_move_33 rfl rfl ?_
    refine sx_get (k := 0) (v := .ref (a0 + 1)) dX7_move_34 (X7_k h0) cf_7 (Or.inl wd_956) (by decide : 0 < 20) (congrArg Value.ref (X7_r0 h0)) ?_
    refine sx_bipush (v := (29 : Int32)) dX7_move_37 (by decide) ?_
    refine sx_iload_n (i := 2) (j := 2) dX7_move_39 rfl rfl ?_
    refine sx_iadd dX7_move_40 ?_
    obtain ⟨c14, h⟩ := gd_e h
    refine sx_iald dX7_move_41 (X7_a0 h0) c14 ?_
    refine sx_if_eq (tgt := 58) dX7_move_42 rfl (fun c15 => ?_) (fun c15 => ?_)
    · have h := if_e c15 h
      exact sx_sub [0] rfl (tX7_move_j58 h0 h k3)
    · have h := if_n c15 h
      exact sx_sub [0, 1, 2] rfl (tX7_move_j45 h0 h k3)
set_option maxRecDepth 100000 in
set_option maxHeartbeats 4000000 in
theorem mX7_move {l : Launch} {E : Ev} {L : HL} {a0 : Nat} {v1 : Int32} {v2 : Int32} {z : Int32 × HL} (h0 : isX7 E a0) (h : fX7_move a0 v1 v2 L = some z) : Mt l E yX7_move cX7_move 4 (some .int) (3) [.ref a0, .int v1, .int v2] L (some (.int z.1)) (z.2) := by
  obtain ⟨r, hr⟩ : ∃ r : Option Value, r = some (.int z.1) := ⟨_, rfl⟩
  obtain ⟨L', hL'⟩ : ∃ L' : HL, L' = z.2 := ⟨_, rfl⟩
  have k3 : r = some (.int z.1) ∧ L' = z.2 := ⟨hr, hL'⟩
  refine mt_eq hr hL' ?_
  refine Mt.of (plainFor_of_name (by decide)) (Nat.le_of_ble_eq_true rfl) ?_
  refine sx_sub (lv' := [(0, .ref a0), (1, .int v1), (2, .int v2)]) [0, 1, 2] rfl ?_
  unfold fX7_move at h
  refine sx_aload_n (i := 0) (j := 0) dX7_move_0 rfl rfl ?_
  refine sx_iload_n (i := 1) (j := 1) dX7_move_1 rfl rfl ?_
  obtain ⟨z1, ez1, h⟩ := bd_e h
  refine sx_callV (avs := [.int v1]) (rest := []) (st1 := [.int z1]) dX7_move_2 (mX7_isOne h0 ez1) ciX7_isOne (Or.inl wd_1204) (X7_k h0) rfl rfl rfl rfl (rm_m rfl) rfl (Nat.le_of_ble_eq_true rfl) rfl ?_
  refine sx_if_eq (tgt := 21) dX7_move_5 rfl (fun c2 => ?_) (fun c2 => ?_)
  · have h := if_e c2 h
    exact sx_sub [0] rfl (tX7_move_j21 h0 h k3)
  · have h := if_n c2 h
    refine sx_iload_n (i := 2) (j := 2) dX7_move_8 rfl rfl ?_
    refine sx_iconst (v := (-1 : Int32)) dX7_move_9 (by decide) ?_
    refine sx_icmp_eq (tgt := 28) dX7_move_10 rfl (fun c4 => ?_) (fun c4 => ?_)
    · have h := if_e c4 h
      exact sx_sub [0, 1, 2] rfl (tX7_move_j28 h0 h k3)
    · have h := if_n c4 h
      refine sx_aload_n (i := 0) (j := 0) dX7_move_13 rfl rfl ?_
      refine sx_iload_n (i := 2) (j := 2) dX7_move_14 rfl rfl ?_
      obtain ⟨z16, ez16, h⟩ := bd_e h
      refine sx_callV (avs := [.int v2]) (rest := []) (st1 := [.int z16]) dX7_move_15 (mX7_isHouse h0 ez16) ciX7_isHouse (Or.inl wd_1047) (X7_k h0) rfl rfl rfl rfl (rm_m rfl) rfl (Nat.le_of_ble_eq_true rfl) rfl ?_
      refine sx_if_ne (tgt := 28) dX7_move_18 rfl (fun c17 => ?_) (fun c17 => ?_)
      · have h := if_e c17 h
        exact sx_sub [0] rfl (tX7_move_j21 h0 h k3)
      · have h := if_n c17 h
        exact sx_sub [0, 1, 2] rfl (tX7_move_j28 h0 h k3)
set_option maxRecDepth 100000 in
set_option maxHeartbeats 4000000 in
theorem mX7_undo {l : Launch} {E : Ev} {L : HL} {a0 : Nat} {z : Int32 × HL} (h0 : isX7 E a0) (h : fX7_undo a0 L = some z) : Mt l E yX7_undo cX7_undo 2 (some .int) (2) [.ref a0] L (some (.int z.1)) (z.2) := by
  obtain ⟨r, hr⟩ : ∃ r : Option Value, r = some (.int z.1) := ⟨_, rfl⟩
  obtain ⟨L', hL'⟩ : ∃ L' : HL, L' = z.2 := ⟨_, rfl⟩
  have k3 : r = some (.int z.1) ∧ L' = z.2 := ⟨hr, hL'⟩
  refine mt_eq hr hL' ?_
  refine Mt.of (plainFor_of_name (by decide)) (Nat.le_of_ble_eq_true rfl) ?_
  refine sx_sub (lv' := [(0, .ref a0)]) [0] rfl ?_
  unfold fX7_undo at h
  refine sx_aload_n (i := 0) (j := 0) dX7_undo_0 rfl rfl ?_
  refine sx_get (k := 0) (v := .ref (a0 + 1)) dX7_undo_1 (X7_k h0) cf_7 (Or.inl wd_956) (by decide : 0 < 20) (congrArg Value.ref (X7_r0 h0)) ?_
  refine sx_iconst (v := (3 : Int32)) dX7_undo_4 (by decide) ?_
  refine sx_iald dX7_undo_5 (X7_a0 h0) (show vin (3 : Int32) 228 from by decide) ?_
  refine sx_if_ne (tgt := 16) dX7_undo_6 rfl (fun c1 => ?_) (fun c1 => ?_)
  · have h := if_e c1 h
    refine sx_aload_n (i := 0) (j := 0) dX7_undo_9 rfl rfl ?_
    refine sx_bipush (v := (-3 : Int32)) dX7_undo_10 (by decide) ?_
    obtain ⟨z2, ez2, h⟩ := bd_e h
    refine sx_callV (avs := [.int (-3 : Int32)]) (rest := []) (st1 := [.int z2.1]) dX7_undo_12 (mX7_no h0 ez2) ciX7_no (Or.inl wd_1145) (X7_k h0) rfl rfl rfl rfl (rm_m rfl) rfl (Nat.le_of_ble_eq_true rfl) rfl ?_
    obtain rfl := Option.some.inj h
    exact sx_iret dX7_undo_15 rfl rfl k3.1 k3.2
  · have h := if_n c1 h
    refine sx_aload_n (i := 0) (j := 0) dX7_undo_16 rfl rfl ?_
    refine sx_get (k := 0) (v := .ref (a0 + 1)) dX7_undo_17 (X7_k h0) cf_7 (Or.inl wd_956) (by decide : 0 < 20) (congrArg Value.ref (X7_r0 h0)) ?_
    refine sx_iconst (v := (3 : Int32)) dX7_undo_20 (by decide) ?_
    refine sx_dup2 dX7_undo_21 rfl rfl ?_
    refine sx_iald dX7_undo_22 (X7_a0 h0) (show vin (3 : Int32) 228 from by decide) ?_
    refine sx_iconst (v := (1 : Int32)) dX7_undo_23 (by decide) ?_
    refine sx_isub dX7_undo_24 ?_
    refine sx_iast dX7_undo_25 (X7_a0 h0) (show vin (3 : Int32) 228 from by decide) (fun L3 eL3 => ?_)
    have h := lt_e eL3 h
    refine sx_bipush (v := (92 : Int32)) dX7_undo_26 (by decide) ?_
    refine sx_bipush (v := (17 : Int32)) dX7_undo_28 (by decide) ?_
    refine sx_aload_n (i := 0) (j := 0) dX7_undo_30 rfl rfl ?_
    refine sx_get (k := 0) (v := .ref (a0 + 1)) dX7_undo_31 (X7_k h0) cf_7 (Or.inl wd_956) (by decide : 0 < 20) (congrArg Value.ref (X7_r0 h0)) ?_
    refine sx_iconst (v := (3 : Int32)) dX7_undo_34 (by decide) ?_
    refine sx_iald dX7_undo_35 (X7_a0 h0) (show vin (3 : Int32) 228 from by decide) ?_
    refine sx_imul dX7_undo_36 ?_
    refine sx_iadd dX7_undo_37 ?_
    refine sx_topi (fun w4 ew4 => ?_)
    have h := lt_e ew4 h
    refine sx_istore_n (i := 1) (lv' := [(0, .ref a0), (1, .int w4)]) dX7_undo_38 rfl (by decide) rfl ?_
    refine sx_aload_n (i := 0) (j := 0) dX7_undo_39 rfl rfl ?_
    refine sx_get (k := 0) (v := .ref (a0 + 1)) dX7_undo_40 (X7_k h0) cf_7 (Or.inl wd_956) (by decide : 0 < 20) (congrArg Value.ref (X7_r0 h0)) ?_
    refine sx_iload_n (i := 1) (j := 1) dX7_undo_43 rfl rfl ?_
    refine sx_aload_n (i := 0) (j := 0) dX7_undo_44 rfl rfl ?_
    refine sx_get (k := 0) (v := .ref (a0 + 1)) dX7_undo_45 (X7_k h0) cf_7 (Or.inl wd_956) (by decide : 0 < 20) (congrArg Value.ref (X7_r0 h0)) ?_
    refine sx_bipush (v := (29 : Int32)) dX7_undo_48 (by decide) ?_
    refine sx_iconst (v := (5 : Int32)) dX7_undo_50 (by decide) ?_
    obtain ⟨z5, ez5, h⟩ := bd_e h
    refine sx_callS (avs := [.ref (a0 + 1), .int w4, .ref (a0 + 1), .int (29 : Int32), .int (5 : Int32)]) (rest := []) (st1 := []) dX7_undo_51 (mX7_copies (X7_a0 h0) (X7_a0 h0) ez5) ctX7_copies (Or.inl wd_1134) rfl rfl (rm_m rfl) rfl (Nat.le_of_ble_eq_true rfl) rfl ?_
    refine sx_aload_n (i := 0) (j := 0) dX7_undo_54 rfl rfl ?_
    refine sx_get (k := 0) (v := .ref (a0 + 1)) dX7_undo_55 (X7_k h0) cf_7 (Or.inl wd_956) (by decide : 0 < 20) (congrArg Value.ref (X7_r0 h0)) ?_
    refine sx_iload_n (i := 1) (j := 1) dX7_undo_58 rfl rfl ?_
    refine sx_iconst (v := (5 : Int32)) dX7_undo_59 (by decide) ?_
    refine sx_iadd dX7_undo_60 ?_
    refine sx_aload_n (i := 0) (j := 0) dX7_undo_61 rfl rfl ?_
    refine sx_get (k := 0) (v := .ref (a0 + 1)) dX7_undo_62 (X7_k h0) cf_7 (Or.inl wd_956) (by decide : 0 < 20) (congrArg Value.ref (X7_r0 h0)) ?_
    refine sx_bipush (v := (14 : Int32)) dX7_undo_65 (by decide) ?_
    refine sx_iconst (v := (5 : Int32)) dX7_undo_67 (by decide) ?_
    obtain ⟨z6, ez6, h⟩ := bd_e h
    refine sx_callS (avs := [.ref (a0 + 1), .int (w4 + (5 : Int32)), .ref (a0 + 1), .int (14 : Int32), .int (5 : Int32)]) (rest := []) (st1 := []) dX7_undo_68 (mX7_copies (X7_a0 h0) (X7_a0 h0) ez6) ctX7_copies (Or.inl wd_1134) rfl rfl (rm_m rfl) rfl (Nat.le_of_ble_eq_true rfl) rfl ?_
    refine sx_aload_n (i := 0) (j := 0) dX7_undo_71 rfl rfl ?_
    refine sx_get (k := 0) (v := .ref (a0 + 1)) dX7_undo_72 (X7_k h0) cf_7 (Or.inl wd_956) (by decide : 0 < 20) (congrArg Value.ref (X7_r0 h0)) ?_
    refine sx_iload_n (i := 1) (j := 1) dX7_undo_75 rfl rfl ?_
    refine sx_bipush (v := (10 : Int32)) dX7_undo_76 (by decide) ?_
    refine sx_iadd dX7_undo_78 ?_
    refine sx_aload_n (i := 0) (j := 0) dX7_undo_79 rfl rfl ?_
    refine sx_get (k := 0) (v := .ref (a0 + 1)) dX7_undo_80 (X7_k h0) cf_7 (Or.inl wd_956) (by decide : 0 < 20) (congrArg Value.ref (X7_r0 h0)) ?_
    refine sx_bipush (v := (70 : Int32)) dX7_undo_83 (by decide) ?_
    refine sx_bipush (v := (6 : Int32)) dX7_undo_85 (by decide) ?_
    obtain ⟨z7, ez7, h⟩ := bd_e h
    refine sx_callS (avs := [.ref (a0 + 1), .int (w4 + (10 : Int32)), .ref (a0 + 1), .int (70 : Int32), .int (6 : Int32)]) (rest := []) (st1 := []) dX7_undo_87 (mX7_copies (X7_a0 h0) (X7_a0 h0) ez7) ctX7_copies (Or.inl wd_1134) rfl rfl (rm_m rfl) rfl (Nat.le_of_ble_eq_true rfl) rfl ?_
    refine sx_aload_n (i := 0) (j := 0) dX7_undo_90 rfl rfl ?_
    refine sx_get (k := 0) (v := .ref (a0 + 1)) dX7_undo_91 (X7_k h0) cf_7 (Or.inl wd_956) (by decide : 0 < 20) (congrArg Value.ref (X7_r0 h0)) ?_
    refine sx_iconst (v := (2 : Int32)) dX7_undo_94 (by decide) ?_
    refine sx_aload_n (i := 0) (j := 0) dX7_undo_95 rfl rfl ?_
    refine sx_get (k := 0) (v := .ref (a0 + 1)) dX7_undo_96 (X7_k h0) cf_7 (Or.inl wd_956) (by decide : 0 < 20) (congrArg Value.ref (X7_r0 h0)) ?_
    refine sx_iload_n (i := 1) (j := 1) dX7_undo_99 rfl rfl ?_
    refine sx_bipush (v := (16 : Int32)) dX7_undo_100 (by decide) ?_
    refine sx_iadd dX7_undo_102 ?_
    obtain ⟨c8, h⟩ := gd_e h
    refine sx_iald dX7_undo_103 (X7_a0 h0) c8 ?_
    refine sx_iast dX7_undo_104 (X7_a0 h0) (show vin (2 : Int32) 228 from by decide) (fun L9 eL9 => ?_)
    have h := lt_e eL9 h
    refine sx_iconst (v := (1 : Int32)) dX7_undo_105 (by decide) ?_
    obtain rfl := Option.some.inj h
    exact sx_iret dX7_undo_106 rfl rfl k3.1 k3.2
set_option maxRecDepth 100000 in
set_option maxHeartbeats 4000000 in
theorem tX7_of_j20 {l : Launch} {E : Ev} {r : Option Value} {L' L : HL} {a0 : Nat} {z : Int32 × HL} (h0 : isX7 E a0) (h : fX7_of_j20 a0 L = some z) (k3 : r = some (.int z.1) ∧ L' = z.2) : Sx l E yX7_of cX7_of 3 (some .int) (3) r L' 20 [(0, .ref a0)] [] L := by
  unfold fX7_of_j20 at h
  refine sx_aload_n (i := 0) (j := 0) dX7_of_20 rfl rfl ?_
  refine sx_bipush (v := (-10 : Int32)) dX7_of_21 (by decide) ?_
  obtain ⟨z3, ez3, h⟩ := bd_e h
  refine sx_callV (avs := [.int (-10 : Int32)]) (rest := []) (st1 := [.int z3.1]) dX7_of_23 (mX7_bad h0 ez3) ciX7_bad (Or.inl wd_1094) (X7_k h0) rfl rfl rfl rfl (rm_m rfl) rfl (Nat.le_of_ble_eq_true rfl) rfl ?_
  obtain rfl := Option.some.inj h
  exact sx_iret dX7_of_26 rfl rfl k3.1 k3.2
set_option maxRecDepth 100000 in
set_option maxHeartbeats 4000000 in
theorem tX7_of_j62 {l : Launch} {E : Ev} {r : Option Value} {L' L : HL} {a0 : Nat} {v1 : Int32} {s1 : Int32} {s2 : Int32} {s3 : Int32} {z : Int32 × HL} (h0 : isX7 E a0) (h : fX7_of_j62 a0 v1 s1 s2 s3 L = some z) (k3 : r = some (.int z.1) ∧ L' = z.2) : Sx l E yX7_of cX7_of 3 (some .int) (3) r L' 62 [(1, .int v1)] [.int s3, .int s2, .int s1, .ref (a0 + 1)] L := by
  unfold fX7_of_j62 at h
  refine sx_imul dX7_of_62 ?_
  refine sx_iadd dX7_of_63 ?_
  refine sx_iload_n (i := 1) (j := 0) dX7_of_64 rfl rfl ?_
  refine sx_iadd dX7_of_65 ?_
  obtain ⟨c9, h⟩ := gd_e h
  refine sx_iald dX7_of_66 (X7_a0 h0) c9 ?_
  obtain rfl := Option.some.inj h
  exact sx_iret dX7_of_67 rfl rfl k3.1 k3.2
set_option maxRecDepth 100000 in
set_option maxHeartbeats 4000000 in
theorem mX7_of {l : Launch} {E : Ev} {L : HL} {a0 : Nat} {v1 : Int32} {v2 : Int32} {z : Int32 × HL} (h0 : isX7 E a0) (h : fX7_of a0 v1 v2 L = some z) : Mt l E yX7_of cX7_of 3 (some .int) (3) [.ref a0, .int v1, .int v2] L (some (.int z.1)) (z.2) := by
  obtain ⟨r, hr⟩ : ∃ r : Option Value, r = some (.int z.1) := ⟨_, rfl⟩
  obtain ⟨L', hL'⟩ : ∃ L' : HL, L' = z.2 := ⟨_, rfl⟩
  have k3 : r = some (.int z.1) ∧ L' = z.2 := ⟨hr, hL'⟩
  refine mt_eq hr hL' ?_
  refine Mt.of (plainFor_of_name (by decide)) (Nat.le_of_ble_eq_true rfl) ?_
  refine sx_sub (lv' := [(0, .ref a0), (1, .int v1), (2, .int v2)]) [0, 1, 2] rfl ?_
  unfold fX7_of at h
  refine sx_aload_n (i := 0) (j := 0) dX7_of_0 rfl rfl ?_
  refine sx_iload_n (i := 1) (j := 1) dX7_of_1 rfl rfl ?_
  obtain ⟨z1, ez1, h⟩ := bd_e h
  refine sx_callV (avs := [.int v1]) (rest := []) (st1 := [.int z1]) dX7_of_2 (mX7_isHouse h0 ez1) ciX7_isHouse (Or.inl wd_1047) (X7_k h0) rfl rfl rfl rfl (rm_m rfl) rfl (Nat.le_of_ble_eq_true rfl) rfl ?_
  refine sx_if_eq (tgt := 20) dX7_of_5 rfl (fun c2 => ?_) (fun c2 => ?_)
  · have h := if_e c2 h
    exact sx_sub [0] rfl (tX7_of_j20 h0 h k3)
  · have h := if_n c2 h
    refine sx_iload_n (i := 2) (j := 2) dX7_of_8 rfl rfl ?_
    refine sx_i2l dX7_of_9 ?_
    refine sx_lconst (v := (0 : Int64)) dX7_of_10 (by decide) ?_
    refine sx_ldc2 (v := (7 : Int64)) dX7_of_11 wd_1216 ?_
    obtain ⟨z4, ez4, h⟩ := bd_e h
    refine sx_callS (avs := [.long v2.toInt64, .long (0 : Int64), .long (7 : Int64)]) (rest := []) (st1 := [.int z4]) dX7_of_14 (mX7_in ez4) ctX7_in (Or.inl wd_1031) rfl rfl (rm_m rfl) rfl (Nat.le_of_ble_eq_true rfl) rfl ?_
    refine sx_if_ne (tgt := 27) dX7_of_17 rfl (fun c5 => ?_) (fun c5 => ?_)
    · have h := if_e c5 h
      exact sx_sub [0] rfl (tX7_of_j20 h0 h k3)
    · have h := if_n c5 h
      refine sx_iload_n (i := 2) (j := 2) dX7_of_27 rfl rfl ?_
      refine sx_bipush (v := (6 : Int32)) dX7_of_28 (by decide) ?_
      refine sx_icmp_ne (tgt := 44) dX7_of_30 rfl (fun c6 => ?_) (fun c6 => ?_)
      · have h := if_e c6 h
        refine sx_aload_n (i := 0) (j := 0) dX7_of_33 rfl rfl ?_
        refine sx_get (k := 0) (v := .ref (a0 + 1)) dX7_of_34 (X7_k h0) cf_7 (Or.inl wd_956) (by decide : 0 < 20) (congrArg Value.ref (X7_r0 h0)) ?_
        refine sx_iload_n (i := 1) (j := 1) dX7_of_37 rfl rfl ?_
        obtain ⟨z7, ez7, h⟩ := bd_e h
        refine sx_callS (avs := [.ref (a0 + 1), .int v1]) (rest := []) (st1 := [.int z7]) dX7_of_38 (mX7_livingIn (X7_a0 h0) ez7) ctX7_livingIn (Or.inl wd_1173) rfl rfl (rm_m rfl) rfl (Nat.le_of_ble_eq_true rfl) rfl ?_
        refine sx_goto (tgt := 67) dX7_of_41 rfl ?_
        obtain rfl := Option.some.inj h
        exact sx_iret dX7_of_67 rfl rfl k3.1 k3.2
      · have h := if_n c6 h
        refine sx_aload_n (i := 0) (j := 0) dX7_of_44 rfl rfl ?_
        refine sx_get (k := 0) (v := .ref (a0 + 1)) dX7_of_45 (X7_k h0) cf_7 (Or.inl wd_956) (by decide : 0 < 20) (congrArg Value.ref (X7_r0 h0)) ?_
        refine sx_iconst (v := (4 : Int32)) dX7_of_48 (by decide) ?_
        refine sx_iconst (v := (5 : Int32)) dX7_of_49 (by decide) ?_
        refine sx_iload_n (i := 2) (j := 2) dX7_of_50 rfl rfl ?_
        refine sx_bipush (v := (7 : Int32)) dX7_of_51 (by decide) ?_
        refine sx_icmp_ne (tgt := 61) dX7_of_53 rfl (fun c8 => ?_) (fun c8 => ?_)
        · have h := if_e c8 h
          refine sx_bipush (v := (6 : Int32)) dX7_of_56 (by decide) ?_
          refine sx_goto (tgt := 62) dX7_of_58 rfl ?_
          exact sx_sub [1] rfl (tX7_of_j62 h0 h k3)
        · have h := if_n c8 h
          refine sx_iload_n (i := 2) (j := 2) dX7_of_61 rfl rfl ?_
          exact sx_sub [1] rfl (tX7_of_j62 h0 h k3)
set_option maxRecDepth 100000 in
set_option maxHeartbeats 4000000 in
theorem tX7_who_j15 {l : Launch} {E : Ev} {r : Option Value} {L' L : HL} {a0 : Nat} {z : Int32 × HL} (h0 : isX7 E a0) (h : fX7_who_j15 a0 L = some z) (k3 : r = some (.int z.1) ∧ L' = z.2) : Sx l E yX7_who cX7_who 3 (some .int) (3) r L' 15 [(0, .ref a0)] [] L := by
  unfold fX7_who_j15 at h
  refine sx_aload_n (i := 0) (j := 0) dX7_who_15 rfl rfl ?_
  refine sx_bipush (v := (-10 : Int32)) dX7_who_16 (by decide) ?_
  obtain ⟨z3, ez3, h⟩ := bd_e h
  refine sx_callV (avs := [.int (-10 : Int32)]) (rest := []) (st1 := [.int z3.1]) dX7_who_18 (mX7_bad h0 ez3) ciX7_bad (Or.inl wd_1094) (X7_k h0) rfl rfl rfl rfl (rm_m rfl) rfl (Nat.le_of_ble_eq_true rfl) rfl ?_
  obtain rfl := Option.some.inj h
  exact sx_iret dX7_who_21 rfl rfl k3.1 k3.2
set_option maxRecDepth 100000 in
set_option maxHeartbeats 4000000 in
theorem mX7_who {l : Launch} {E : Ev} {L : HL} {a0 : Nat} {v1 : Int32} {v2 : Int32} {z : Int32 × HL} (h0 : isX7 E a0) (h : fX7_who a0 v1 v2 L = some z) : Mt l E yX7_who cX7_who 3 (some .int) (3) [.ref a0, .int v1, .int v2] L (some (.int z.1)) (z.2) := by
  obtain ⟨r, hr⟩ : ∃ r : Option Value, r = some (.int z.1) := ⟨_, rfl⟩
  obtain ⟨L', hL'⟩ : ∃ L' : HL, L' = z.2 := ⟨_, rfl⟩
  have k3 : r = some (.int z.1) ∧ L' = z.2 := ⟨hr, hL'⟩
  refine mt_eq hr hL' ?_
  refine Mt.of (plainFor_of_name (by decide)) (Nat.le_of_ble_eq_true rfl) ?_
  refine sx_sub (lv' := [(0, .ref a0), (1, .int v1), (2, .int v2)]) [0, 1, 2] rfl ?_
  unfold fX7_who at h
  refine sx_aload_n (i := 0) (j := 0) dX7_who_0 rfl rfl ?_
  refine sx_iload_n (i := 1) (j := 1) dX7_who_1 rfl rfl ?_
  obtain ⟨z1, ez1, h⟩ := bd_e h
  refine sx_callV (avs := [.int v1]) (rest := []) (st1 := [.int z1]) dX7_who_2 (mX7_isOne h0 ez1) ciX7_isOne (Or.inl wd_1204) (X7_k h0) rfl rfl rfl rfl (rm_m rfl) rfl (Nat.le_of_ble_eq_true rfl) rfl ?_
  refine sx_if_eq (tgt := 15) dX7_who_5 rfl (fun c2 => ?_) (fun c2 => ?_)
  · have h := if_e c2 h
    exact sx_sub [0] rfl (tX7_who_j15 h0 h k3)
  · have h := if_n c2 h
    refine sx_iload_n (i := 2) (j := 2) dX7_who_8 rfl rfl ?_
    obtain ⟨z4, ez4, h⟩ := bd_e h
    refine sx_callS (avs := [.int v2]) (rest := []) (st1 := [.int z4]) dX7_who_9 (mX7_isTwo ez4) ctX7_isTwo (Or.inl wd_1221) rfl rfl (rm_m rfl) rfl (Nat.le_of_ble_eq_true rfl) rfl ?_
    refine sx_if_ne (tgt := 22) dX7_who_12 rfl (fun c5 => ?_) (fun c5 => ?_)
    · have h := if_e c5 h
      exact sx_sub [0] rfl (tX7_who_j15 h0 h k3)
    · have h := if_n c5 h
      refine sx_aload_n (i := 0) (j := 0) dX7_who_22 rfl rfl ?_
      refine sx_get (k := 0) (v := .ref (a0 + 1)) dX7_who_23 (X7_k h0) cf_7 (Or.inl wd_956) (by decide : 0 < 20) (congrArg Value.ref (X7_r0 h0)) ?_
      refine sx_bipush (v := (64 : Int32)) dX7_who_26 (by decide) ?_
      refine sx_bipush (v := (6 : Int32)) dX7_who_28 (by decide) ?_
      refine sx_iload_n (i := 2) (j := 2) dX7_who_30 rfl rfl ?_
      refine sx_imul dX7_who_31 ?_
      refine sx_iadd dX7_who_32 ?_
      refine sx_iload_n (i := 1) (j := 1) dX7_who_33 rfl rfl ?_
      refine sx_iadd dX7_who_34 ?_
      obtain ⟨c6, h⟩ := gd_e h
      refine sx_iald dX7_who_35 (X7_a0 h0) c6 ?_
      obtain rfl := Option.some.inj h
      exact sx_iret dX7_who_36 rfl rfl k3.1 k3.2
set_option maxRecDepth 100000 in
set_option maxHeartbeats 4000000 in
theorem tX7_degree_j29 {l : Launch} {E : Ev} {r : Option Value} {L' L : HL} {a0 : Nat} {z : Int32 × HL} (h0 : isX7 E a0) (h : fX7_degree_j29 a0 L = some z) (k3 : r = some (.int z.1) ∧ L' = z.2) : Sx l E yX7_degree cX7_degree 3 (some .int) (3) r L' 29 [(0, .ref a0)] [] L := by
  unfold fX7_degree_j29 at h
  refine sx_aload_n (i := 0) (j := 0) dX7_degree_29 rfl rfl ?_
  refine sx_bipush (v := (-2 : Int32)) dX7_degree_30 (by decide) ?_
  obtain ⟨z3, ez3, h⟩ := bd_e h
  refine sx_callV (avs := [.int (-2 : Int32)]) (rest := []) (st1 := [.int z3.1]) dX7_degree_32 (mX7_bad h0 ez3) ciX7_bad (Or.inl wd_1094) (X7_k h0) rfl rfl rfl rfl (rm_m rfl) rfl (Nat.le_of_ble_eq_true rfl) rfl ?_
  obtain rfl := Option.some.inj h
  exact sx_iret dX7_degree_35 rfl rfl k3.1 k3.2
set_option maxRecDepth 100000 in
set_option maxHeartbeats 4000000 in
theorem mX7_degree {l : Launch} {E : Ev} {L : HL} {a0 : Nat} {v1 : Int32} {v2 : Int32} {z : Int32 × HL} (h0 : isX7 E a0) (h : fX7_degree a0 v1 v2 L = some z) : Mt l E yX7_degree cX7_degree 3 (some .int) (3) [.ref a0, .int v1, .int v2] L (some (.int z.1)) (z.2) := by
  obtain ⟨r, hr⟩ : ∃ r : Option Value, r = some (.int z.1) := ⟨_, rfl⟩
  obtain ⟨L', hL'⟩ : ∃ L' : HL, L' = z.2 := ⟨_, rfl⟩
  have k3 : r = some (.int z.1) ∧ L' = z.2 := ⟨hr, hL'⟩
  refine mt_eq hr hL' ?_
  refine Mt.of (plainFor_of_name (by decide)) (Nat.le_of_ble_eq_true rfl) ?_
  refine sx_sub (lv' := [(0, .ref a0), (1, .int v1), (2, .int v2)]) [0, 1, 2] rfl ?_
  unfold fX7_degree at h
  refine sx_aload_n (i := 0) (j := 0) dX7_degree_0 rfl rfl ?_
  refine sx_iload_n (i := 1) (j := 1) dX7_degree_1 rfl rfl ?_
  obtain ⟨z1, ez1, h⟩ := bd_e h
  refine sx_callV (avs := [.int v1]) (rest := []) (st1 := [.int z1]) dX7_degree_2 (mX7_isHouse h0 ez1) ciX7_isHouse (Or.inl wd_1047) (X7_k h0) rfl rfl rfl rfl (rm_m rfl) rfl (Nat.le_of_ble_eq_true rfl) rfl ?_
  refine sx_if_eq (tgt := 29) dX7_degree_5 rfl (fun c2 => ?_) (fun c2 => ?_)
  · have h := if_e c2 h
    exact sx_sub [0] rfl (tX7_degree_j29 h0 h k3)
  · have h := if_n c2 h
    refine sx_aload_n (i := 0) (j := 0) dX7_degree_8 rfl rfl ?_
    refine sx_iload_n (i := 2) (j := 2) dX7_degree_9 rfl rfl ?_
    obtain ⟨z4, ez4, h⟩ := bd_e h
    refine sx_callV (avs := [.int v2]) (rest := []) (st1 := [.int z4]) dX7_degree_10 (mX7_isHouse h0 ez4) ciX7_isHouse (Or.inl wd_1047) (X7_k h0) rfl rfl rfl rfl (rm_m rfl) rfl (Nat.le_of_ble_eq_true rfl) rfl ?_
    refine sx_if_eq (tgt := 29) dX7_degree_13 rfl (fun c5 => ?_) (fun c5 => ?_)
    · have h := if_e c5 h
      exact sx_sub [0] rfl (tX7_degree_j29 h0 h k3)
    · have h := if_n c5 h
      refine sx_aload_n (i := 0) (j := 0) dX7_degree_16 rfl rfl ?_
      refine sx_aload_n (i := 0) (j := 0) dX7_degree_17 rfl rfl ?_
      refine sx_get (k := 0) (v := .ref (a0 + 1)) dX7_degree_18 (X7_k h0) cf_7 (Or.inl wd_956) (by decide : 0 < 20) (congrArg Value.ref (X7_r0 h0)) ?_
      refine sx_iload_n (i := 1) (j := 1) dX7_degree_21 rfl rfl ?_
      refine sx_iload_n (i := 2) (j := 2) dX7_degree_22 rfl rfl ?_
      obtain ⟨z6, ez6, h⟩ := bd_e h
      refine sx_callV (avs := [.ref (a0 + 1), .int v1, .int v2]) (rest := []) (st1 := [.int z6.1]) dX7_degree_23 (mX7_degreeOn h0 (X7_a0 h0) ez6) ciX7_degreeOn (Or.inl wd_1165) (X7_k h0) rfl rfl rfl rfl (rm_m rfl) rfl (Nat.le_of_ble_eq_true rfl) rfl ?_
      refine sx_goto (tgt := 35) dX7_degree_26 rfl ?_
      obtain rfl := Option.some.inj h
      exact sx_iret dX7_degree_35 rfl rfl k3.1 k3.2
set_option maxRecDepth 100000 in
set_option maxHeartbeats 4000000 in
theorem tX7_rank_j21 {l : Launch} {E : Ev} {r : Option Value} {L' L : HL} {a0 : Nat} {z : Int32 × HL} (h0 : isX7 E a0) (h : fX7_rank_j21 a0 L = some z) (k3 : r = some (.int z.1) ∧ L' = z.2) : Sx l E yX7_rank cX7_rank 3 (some .int) (4) r L' 21 [(0, .ref a0)] [] L := by
  unfold fX7_rank_j21 at h
  refine sx_aload_n (i := 0) (j := 0) dX7_rank_21 rfl rfl ?_
  refine sx_sipush (v := (-1000 : Int32)) dX7_rank_22 (by decide) ?_
  obtain ⟨z3, ez3, h⟩ := bd_e h
  refine sx_callV (avs := [.int (-1000 : Int32)]) (rest := []) (st1 := [.int z3.1]) dX7_rank_25 (mX7_bad h0 ez3) ciX7_bad (Or.inl wd_1094) (X7_k h0) rfl rfl rfl rfl (rm_m rfl) rfl (Nat.le_of_ble_eq_true rfl) rfl ?_
  obtain rfl := Option.some.inj h
  exact sx_iret dX7_rank_28 rfl rfl k3.1 k3.2
set_option maxRecDepth 100000 in
set_option maxHeartbeats 4000000 in
theorem mX7_rank {l : Launch} {E : Ev} {L : HL} {a0 : Nat} {v1 : Int32} {v2 : Int32} {z : Int32 × HL} (h0 : isX7 E a0) (h : fX7_rank a0 v1 v2 L = some z) : Mt l E yX7_rank cX7_rank 3 (some .int) (4) [.ref a0, .int v1, .int v2] L (some (.int z.1)) (z.2) := by
  obtain ⟨r, hr⟩ : ∃ r : Option Value, r = some (.int z.1) := ⟨_, rfl⟩
  obtain ⟨L', hL'⟩ : ∃ L' : HL, L' = z.2 := ⟨_, rfl⟩
  have k3 : r = some (.int z.1) ∧ L' = z.2 := ⟨hr, hL'⟩
  refine mt_eq hr hL' ?_
  refine Mt.of (plainFor_of_name (by decide)) (Nat.le_of_ble_eq_true rfl) ?_
  refine sx_sub (lv' := [(0, .ref a0), (1, .int v1), (2, .int v2)]) [0, 1, 2] rfl ?_
  unfold fX7_rank at h
  refine sx_aload_n (i := 0) (j := 0) dX7_rank_0 rfl rfl ?_
  refine sx_iload_n (i := 1) (j := 1) dX7_rank_1 rfl rfl ?_
  obtain ⟨z1, ez1, h⟩ := bd_e h
  refine sx_callV (avs := [.int v1]) (rest := []) (st1 := [.int z1]) dX7_rank_2 (mX7_isHouse h0 ez1) ciX7_isHouse (Or.inl wd_1047) (X7_k h0) rfl rfl rfl rfl (rm_m rfl) rfl (Nat.le_of_ble_eq_true rfl) rfl ?_
  refine sx_if_eq (tgt := 21) dX7_rank_5 rfl (fun c2 => ?_) (fun c2 => ?_)
  · have h := if_e c2 h
    exact sx_sub [0] rfl (tX7_rank_j21 h0 h k3)
  · have h := if_n c2 h
    refine sx_aload_n (i := 0) (j := 0) dX7_rank_8 rfl rfl ?_
    refine sx_iload_n (i := 2) (j := 2) dX7_rank_9 rfl rfl ?_
    obtain ⟨z4, ez4, h⟩ := bd_e h
    refine sx_callV (avs := [.int v2]) (rest := []) (st1 := [.int z4]) dX7_rank_10 (mX7_isHouse h0 ez4) ciX7_isHouse (Or.inl wd_1047) (X7_k h0) rfl rfl rfl rfl (rm_m rfl) rfl (Nat.le_of_ble_eq_true rfl) rfl ?_
    refine sx_if_eq (tgt := 21) dX7_rank_13 rfl (fun c5 => ?_) (fun c5 => ?_)
    · have h := if_e c5 h
      exact sx_sub [0] rfl (tX7_rank_j21 h0 h k3)
    · have h := if_n c5 h
      refine sx_iload_n (i := 1) (j := 1) dX7_rank_16 rfl rfl ?_
      refine sx_iload_n (i := 2) (j := 2) dX7_rank_17 rfl rfl ?_
      refine sx_icmp_ne (tgt := 29) dX7_rank_18 rfl (fun c6 => ?_) (fun c6 => ?_)
      · have h := if_e c6 h
        exact sx_sub [0] rfl (tX7_rank_j21 h0 h k3)
      · have h := if_n c6 h
        refine sx_aload_n (i := 0) (j := 0) dX7_rank_29 rfl rfl ?_
        refine sx_aload_n (i := 0) (j := 0) dX7_rank_30 rfl rfl ?_
        refine sx_get (k := 0) (v := .ref (a0 + 1)) dX7_rank_31 (X7_k h0) cf_7 (Or.inl wd_956) (by decide : 0 < 20) (congrArg Value.ref (X7_r0 h0)) ?_
        refine sx_aload_n (i := 0) (j := 0) dX7_rank_34 rfl rfl ?_
        refine sx_get (k := 0) (v := .ref (a0 + 1)) dX7_rank_35 (X7_k h0) cf_7 (Or.inl wd_956) (by decide : 0 < 20) (congrArg Value.ref (X7_r0 h0)) ?_
        refine sx_bipush (v := (24 : Int32)) dX7_rank_38 (by decide) ?_
        refine sx_iload_n (i := 1) (j := 1) dX7_rank_40 rfl rfl ?_
        refine sx_iadd dX7_rank_41 ?_
        obtain ⟨c7, h⟩ := gd_e h
        refine sx_iald dX7_rank_42 (X7_a0 h0) c7 ?_
        refine sx_iload_n (i := 1) (j := 1) dX7_rank_43 rfl rfl ?_
        refine sx_iload_n (i := 2) (j := 2) dX7_rank_44 rfl rfl ?_
        obtain ⟨z8, ez8, h⟩ := bd_e h
        refine sx_callV (avs := [.ref (a0 + 1), .int (L.1 (a0 + 1) ((24 : Int32) + v1).toNatClampNeg), .int v1, .int v2]) (rest := []) (st1 := [.int z8.1]) dX7_rank_45 (mX7_rankOn h0 (X7_a0 h0) ez8) ciX7_rankOn (Or.inl wd_1161) (X7_k h0) rfl rfl rfl rfl (rm_m rfl) rfl (Nat.le_of_ble_eq_true rfl) rfl ?_
        obtain rfl := Option.some.inj h
        exact sx_iret dX7_rank_48 rfl rfl k3.1 k3.2
set_option maxRecDepth 100000 in
set_option maxHeartbeats 4000000 in
theorem mX7_heir {l : Launch} {E : Ev} {L : HL} {a0 : Nat} {v1 : Int32} {z : Int32 × HL} (h0 : isX7 E a0) (h : fX7_heir a0 v1 L = some z) : Mt l E yX7_heir cX7_heir 2 (some .int) (5) [.ref a0, .int v1] L (some (.int z.1)) (z.2) := by
  obtain ⟨r, hr⟩ : ∃ r : Option Value, r = some (.int z.1) := ⟨_, rfl⟩
  obtain ⟨L', hL'⟩ : ∃ L' : HL, L' = z.2 := ⟨_, rfl⟩
  have k3 : r = some (.int z.1) ∧ L' = z.2 := ⟨hr, hL'⟩
  refine mt_eq hr hL' ?_
  refine Mt.of (plainFor_of_name (by decide)) (Nat.le_of_ble_eq_true rfl) ?_
  refine sx_sub (lv' := [(0, .ref a0), (1, .int v1)]) [0, 1] rfl ?_
  unfold fX7_heir at h
  refine sx_aload_n (i := 0) (j := 0) dX7_heir_0 rfl rfl ?_
  refine sx_iload_n (i := 1) (j := 1) dX7_heir_1 rfl rfl ?_
  obtain ⟨z1, ez1, h⟩ := bd_e h
  refine sx_callV (avs := [.int v1]) (rest := []) (st1 := [.int z1]) dX7_heir_2 (mX7_isHouse h0 ez1) ciX7_isHouse (Or.inl wd_1047) (X7_k h0) rfl rfl rfl rfl (rm_m rfl) rfl (Nat.le_of_ble_eq_true rfl) rfl ?_
  refine sx_if_eq (tgt := 29) dX7_heir_5 rfl (fun c2 => ?_) (fun c2 => ?_)
  · have h := if_e c2 h
    refine sx_aload_n (i := 0) (j := 0) dX7_heir_29 rfl rfl ?_
    refine sx_bipush (v := (-10 : Int32)) dX7_heir_30 (by decide) ?_
    obtain ⟨z3, ez3, h⟩ := bd_e h
    refine sx_callV (avs := [.int (-10 : Int32)]) (rest := []) (st1 := [.int z3.1]) dX7_heir_32 (mX7_bad h0 ez3) ciX7_bad (Or.inl wd_1094) (X7_k h0) rfl rfl rfl rfl (rm_m rfl) rfl (Nat.le_of_ble_eq_true rfl) rfl ?_
    obtain rfl := Option.some.inj h
    exact sx_iret dX7_heir_35 rfl rfl k3.1 k3.2
  · have h := if_n c2 h
    refine sx_aload_n (i := 0) (j := 0) dX7_heir_8 rfl rfl ?_
    refine sx_aload_n (i := 0) (j := 0) dX7_heir_9 rfl rfl ?_
    refine sx_get (k := 0) (v := .ref (a0 + 1)) dX7_heir_10 (X7_k h0) cf_7 (Or.inl wd_956) (by decide : 0 < 20) (congrArg Value.ref (X7_r0 h0)) ?_
    refine sx_aload_n (i := 0) (j := 0) dX7_heir_13 rfl rfl ?_
    refine sx_get (k := 0) (v := .ref (a0 + 1)) dX7_heir_14 (X7_k h0) cf_7 (Or.inl wd_956) (by decide : 0 < 20) (congrArg Value.ref (X7_r0 h0)) ?_
    refine sx_bipush (v := (24 : Int32)) dX7_heir_17 (by decide) ?_
    refine sx_iload_n (i := 1) (j := 1) dX7_heir_19 rfl rfl ?_
    refine sx_iadd dX7_heir_20 ?_
    obtain ⟨c4, h⟩ := gd_e h
    refine sx_iald dX7_heir_21 (X7_a0 h0) c4 ?_
    refine sx_iload_n (i := 1) (j := 1) dX7_heir_22 rfl rfl ?_
    obtain ⟨z5, ez5, h⟩ := bd_e h
    refine sx_callV (avs := [.ref (a0 + 1), .int (L.1 (a0 + 1) ((24 : Int32) + v1).toNatClampNeg), .int v1]) (rest := []) (st1 := [.int z5.1]) dX7_heir_23 (mX7_heirOn h0 (X7_a0 h0) ez5) ciX7_heirOn (Or.inl wd_1157) (X7_k h0) rfl rfl rfl rfl (rm_m rfl) rfl (Nat.le_of_ble_eq_true rfl) rfl ?_
    refine sx_goto (tgt := 35) dX7_heir_26 rfl ?_
    obtain rfl := Option.some.inj h
    exact sx_iret dX7_heir_35 rfl rfl k3.1 k3.2
set_option maxRecDepth 100000 in
set_option maxHeartbeats 4000000 in
theorem tX7_wills_j21 {l : Launch} {E : Ev} {r : Option Value} {L' L : HL} {a0 : Nat} {z : Int32 × HL} (h0 : isX7 E a0) (h : fX7_wills_j21 a0 L = some z) (k3 : r = some (.int z.1) ∧ L' = z.2) : Sx l E yX7_wills cX7_wills 5 (some .int) (5) r L' 21 [(0, .ref a0)] [] L := by
  unfold fX7_wills_j21 at h
  refine sx_aload_n (i := 0) (j := 0) dX7_wills_21 rfl rfl ?_
  refine sx_bipush (v := (-2 : Int32)) dX7_wills_22 (by decide) ?_
  obtain ⟨z3, ez3, h⟩ := bd_e h
  refine sx_callV (avs := [.int (-2 : Int32)]) (rest := []) (st1 := [.int z3.1]) dX7_wills_24 (mX7_bad h0 ez3) ciX7_bad (Or.inl wd_1094) (X7_k h0) rfl rfl rfl rfl (rm_m rfl) rfl (Nat.le_of_ble_eq_true rfl) rfl ?_
  obtain rfl := Option.some.inj h
  exact sx_iret dX7_wills_27 rfl rfl k3.1 k3.2
set_option maxRecDepth 100000 in
set_option maxHeartbeats 4000000 in
theorem tX7_wills_b33 {l : Launch} {E : Ev} {r : Option Value} {L' L : HL} {a0 : Nat} {v1 : Int32} {v2 : Int32} {v3 : Int32} {v4 : Int32} {z : Tn (Int32 × Int32 × HL) (Int32 × HL)} (h0 : isX7 E a0) (h : fX7_wills_b33 a0 v1 v2 v3 v4 L = some z) (k1 : ∀ s, z = .inl s → Sx l E yX7_wills cX7_wills 5 (some .int) (5) r L' 33 [(0, .ref a0), (1, .int v1), (2, .int v2), (3, .int s.1), (4, .int s.2.1)] [] s.2.2) (k2 : ∀ s, z = .inr (.inl s) → Sx l E yX7_wills cX7_wills 5 (some .int) (5) r L' 71 [(3, .int s.1)] [] s.2.2) (k3 : ∀ v, z = .inr (.inr v) → r = some (.int v.1) ∧ L' = v.2) : Sx l E yX7_wills cX7_wills 5 (some .int) (5) r L' 33 [(0, .ref a0), (1, .int v1), (2, .int v2), (3, .int v3), (4, .int v4)] [] L := by
  unfold fX7_wills_b33 at h
  refine sx_iload (j := 4) dX7_wills_33 rfl ?_
  refine sx_iconst (v := (5 : Int32)) dX7_wills_35 (by decide) ?_
  refine sx_icmp_gt (tgt := 71) dX7_wills_36 rfl (fun c7 => ?_) (fun c7 => ?_)
  · have h := if_e c7 h
    obtain rfl := Option.some.inj h
    exact sx_sub [3] rfl (k2 _ rfl)
  · have h := if_n c7 h
    refine sx_iload_n (i := 3) (j := 3) dX7_wills_39 rfl rfl ?_
    refine sx_aload_n (i := 0) (j := 0) dX7_wills_40 rfl rfl ?_
    refine sx_aload_n (i := 0) (j := 0) dX7_wills_41 rfl rfl ?_
    refine sx_get (k := 0) (v := .ref (a0 + 1)) dX7_wills_42 (X7_k h0) cf_7 (Or.inl wd_956) (by decide : 0 < 20) (congrArg Value.ref (X7_r0 h0)) ?_
    refine sx_iload (j := 4) dX7_wills_45 rfl ?_
    refine sx_iload_n (i := 1) (j := 1) dX7_wills_47 rfl rfl ?_
    obtain ⟨z8, ez8, h⟩ := bd_e h
    refine sx_callV (avs := [.ref (a0 + 1), .int v4, .int v1]) (rest := [.int v3]) (st1 := [.int z8.1, .int v3]) dX7_wills_48 (mX7_heirOn h0 (X7_a0 h0) ez8) ciX7_heirOn (Or.inl wd_1157) (X7_k h0) rfl rfl rfl rfl (rm_m rfl) rfl (Nat.le_of_ble_eq_true rfl) rfl ?_
    refine sx_iload_n (i := 2) (j := 2) dX7_wills_51 rfl rfl ?_
    refine sx_icmp_ne (tgt := 62) dX7_wills_52 rfl (fun c9 => ?_) (fun c9 => ?_)
    · have h := if_e c9 h
      refine sx_iconst (v := (1 : Int32)) dX7_wills_55 (by decide) ?_
      refine sx_iload (j := 4) dX7_wills_56 rfl ?_
      refine sx_ishl dX7_wills_58 ?_
      refine sx_goto (tgt := 63) dX7_wills_59 rfl ?_
      refine sx_ior dX7_wills_63 ?_
      refine sx_topi (fun w10 ew10 => ?_)
      have h := lt_e ew10 h
      refine sx_istore_n (i := 3) (lv' := [(0, .ref a0), (1, .int v1), (2, .int v2), (3, .int w10), (4, .int v4)]) dX7_wills_64 rfl (by decide) rfl ?_
      obtain ⟨w11, ew11⟩ : ∃ w : Int32, w = v4 + (1 : Int32) := ⟨_, rfl⟩
      have h := lt_e ew11 h
      refine sx_iinc (j := 4) (v := w11) (lv' := [(0, .ref a0), (1, .int v1), (2, .int v2), (3, .int w10), (4, .int w11)]) dX7_wills_65 rfl (ii_1 ew11) (by decide) rfl ?_
      refine sx_goto (tgt := 33) dX7_wills_68 rfl ?_
      obtain rfl := Option.some.inj h
      exact sx_sub [0, 1, 2, 3, 4] rfl (k1 _ rfl)
    · have h := if_n c9 h
      refine sx_iconst (v := (0 : Int32)) dX7_wills_62 (by decide) ?_
      refine sx_ior dX7_wills_63 ?_
      refine sx_topi (fun w12 ew12 => ?_)
      have h := lt_e ew12 h
      refine sx_istore_n (i := 3) (lv' := [(0, .ref a0), (1, .int v1), (2, .int v2), (3, .int w12), (4, .int v4)]) dX7_wills_64 rfl (by decide) rfl ?_
      obtain ⟨w13, ew13⟩ : ∃ w : Int32, w = v4 + (1 : Int32) := ⟨_, rfl⟩
      have h := lt_e ew13 h
      refine sx_iinc (j := 4) (v := w13) (lv' := [(0, .ref a0), (1, .int v1), (2, .int v2), (3, .int w12), (4, .int w13)]) dX7_wills_65 rfl (ii_1 ew13) (by decide) rfl ?_
      refine sx_goto (tgt := 33) dX7_wills_68 rfl ?_
      obtain rfl := Option.some.inj h
      exact sx_sub [0, 1, 2, 3, 4] rfl (k1 _ rfl)
set_option maxRecDepth 100000 in
set_option maxHeartbeats 4000000 in
theorem mX7_wills {l : Launch} {E : Ev} {L : HL} {a0 : Nat} {v1 : Int32} {v2 : Int32} {z : Int32 × HL} (h0 : isX7 E a0) (h : fX7_wills a0 v1 v2 L = some z) : Mt l E yX7_wills cX7_wills 5 (some .int) (5) [.ref a0, .int v1, .int v2] L (some (.int z.1)) (z.2) := by
  obtain ⟨r, hr⟩ : ∃ r : Option Value, r = some (.int z.1) := ⟨_, rfl⟩
  obtain ⟨L', hL'⟩ : ∃ L' : HL, L' = z.2 := ⟨_, rfl⟩
  have k3 : r = some (.int z.1) ∧ L' = z.2 := ⟨hr, hL'⟩
  refine mt_eq hr hL' ?_
  refine Mt.of (plainFor_of_name (by decide)) (Nat.le_of_ble_eq_true rfl) ?_
  refine sx_sub (lv' := [(0, .ref a0), (1, .int v1), (2, .int v2)]) [0, 1, 2] rfl ?_
  unfold fX7_wills at h
  refine sx_aload_n (i := 0) (j := 0) dX7_wills_0 rfl rfl ?_
  refine sx_iload_n (i := 1) (j := 1) dX7_wills_1 rfl rfl ?_
  obtain ⟨z1, ez1, h⟩ := bd_e h
  refine sx_callV (avs := [.int v1]) (rest := []) (st1 := [.int z1]) dX7_wills_2 (mX7_isHouse h0 ez1) ciX7_isHouse (Or.inl wd_1047) (X7_k h0) rfl rfl rfl rfl (rm_m rfl) rfl (Nat.le_of_ble_eq_true rfl) rfl ?_
  refine sx_if_eq (tgt := 21) dX7_wills_5 rfl (fun c2 => ?_) (fun c2 => ?_)
  · have h := if_e c2 h
    exact sx_sub [0] rfl (tX7_wills_j21 h0 h k3)
  · have h := if_n c2 h
    refine sx_aload_n (i := 0) (j := 0) dX7_wills_8 rfl rfl ?_
    refine sx_iload_n (i := 2) (j := 2) dX7_wills_9 rfl rfl ?_
    obtain ⟨z4, ez4, h⟩ := bd_e h
    refine sx_callV (avs := [.int v2]) (rest := []) (st1 := [.int z4]) dX7_wills_10 (mX7_isHouse h0 ez4) ciX7_isHouse (Or.inl wd_1047) (X7_k h0) rfl rfl rfl rfl (rm_m rfl) rfl (Nat.le_of_ble_eq_true rfl) rfl ?_
    refine sx_if_eq (tgt := 21) dX7_wills_13 rfl (fun c5 => ?_) (fun c5 => ?_)
    · have h := if_e c5 h
      exact sx_sub [0] rfl (tX7_wills_j21 h0 h k3)
    · have h := if_n c5 h
      refine sx_iload_n (i := 1) (j := 1) dX7_wills_16 rfl rfl ?_
      refine sx_iload_n (i := 2) (j := 2) dX7_wills_17 rfl rfl ?_
      refine sx_icmp_ne (tgt := 28) dX7_wills_18 rfl (fun c6 => ?_) (fun c6 => ?_)
      · have h := if_e c6 h
        exact sx_sub [0] rfl (tX7_wills_j21 h0 h k3)
      · have h := if_n c6 h
        refine sx_iconst (v := (0 : Int32)) dX7_wills_28 (by decide) ?_
        refine sx_istore_n (i := 3) (lv' := [(0, .ref a0), (1, .int v1), (2, .int v2), (3, .int (0 : Int32))]) dX7_wills_29 rfl (by decide) rfl ?_
        refine sx_iconst (v := (0 : Int32)) dX7_wills_30 (by decide) ?_
        refine sx_istore (lv' := [(0, .ref a0), (1, .int v1), (2, .int v2), (3, .int (0 : Int32)), (4, .int (0 : Int32))]) dX7_wills_31 (by decide) rfl ?_
        obtain ⟨x15, hx, q1, q2⟩ := lx_e h
        refine sx_sub (lv' := [(0, .ref a0), (1, .int v1), (2, .int v2), (3, .int (0 : Int32)), (4, .int (0 : Int32))]) [0, 1, 2, 3, 4] rfl ?_
        refine lp_go (fun s14 => Sx l E yX7_wills cX7_wills 5 (some .int) (5) r L' 33 [(0, .ref a0), (1, .int v1), (2, .int v2), (3, .int s14.1), (4, .int s14.2.1)] [] s14.2.2) x15 (fun s14 z2 hz c1 c2 => ?_) FU _ hx
        refine tX7_wills_b33 h0 hz (fun s2 e => c1 s2 e) (fun s14 e => ?_) (fun v e => ?_)
        · have h := q1 _ (c2 _ e).symm
          refine sx_iload_n (i := 3) (j := 0) dX7_wills_71 rfl rfl ?_
          obtain rfl := Option.some.inj h
          exact sx_iret dX7_wills_72 rfl rfl k3.1 k3.2
        · have e2 := Option.some.inj (q2 _ (c2 _ e).symm)
          subst e2
          exact k3
set_option maxRecDepth 100000 in
set_option maxHeartbeats 4000000 in
theorem mX7_layDay {l : Launch} {E : Ev} {L : HL} {a0 : Nat} {z : HL} (h0 : isX7 E a0) (h : fX7_layDay a0 L = some z) : Mt l E yX7_layDay cX7_layDay 1 (none) (2) [.ref a0] L (none) z := by
  obtain ⟨r, hr⟩ : ∃ r : Option Value, r = none := ⟨_, rfl⟩
  obtain ⟨L', hL'⟩ : ∃ L' : HL, L' = z := ⟨_, rfl⟩
  have k3 : r = none ∧ L' = z := ⟨hr, hL'⟩
  refine mt_eq hr hL' ?_
  refine Mt.of (plainFor_of_name (by decide)) (Nat.le_of_ble_eq_true rfl) ?_
  refine sx_sub (lv' := [(0, .ref a0)]) [0] rfl ?_
  unfold fX7_layDay at h
  refine sx_aload_n (i := 0) (j := 0) dX7_layDay_0 rfl rfl ?_
  refine sx_get (k := 0) (v := .ref (a0 + 1)) dX7_layDay_1 (X7_k h0) cf_7 (Or.inl wd_956) (by decide : 0 < 20) (congrArg Value.ref (X7_r0 h0)) ?_
  refine sx_iconst (v := (0 : Int32)) dX7_layDay_4 (by decide) ?_
  refine sx_aload_n (i := 0) (j := 0) dX7_layDay_5 rfl rfl ?_
  refine sx_get (k := 17) (v := .ref (a0 + 9)) dX7_layDay_6 (X7_k h0) cf_7 (Or.inl wd_973) (by decide : 17 < 20) (congrArg Value.ref (X7_r17 h0)) ?_
  refine sx_iconst (v := (0 : Int32)) dX7_layDay_9 (by decide) ?_
  refine sx_bipush (v := (92 : Int32)) dX7_layDay_10 (by decide) ?_
  obtain ⟨z1, ez1, h⟩ := bd_e h
  refine sx_callS (avs := [.ref (a0 + 1), .int (0 : Int32), .ref (a0 + 9), .int (0 : Int32), .int (92 : Int32)]) (rest := []) (st1 := []) dX7_layDay_12 (mX7_copies (X7_a0 h0) (X7_a17 h0) ez1) ctX7_copies (Or.inl wd_1134) rfl rfl (rm_m rfl) rfl (Nat.le_of_ble_eq_true rfl) rfl ?_
  obtain rfl := Option.some.inj h
  exact sx_vret dX7_layDay_15 rfl k3.1 k3.2
set_option maxRecDepth 100000 in
set_option maxHeartbeats 4000000 in
theorem mX7_mayHaveWall {l : Launch} {E : Ev} {L : HL} {a0 : Nat} {v1 : Int32} {v2 : Int32} {z : Int32} (h0 : isX7 E a0) (h : fX7_mayHaveWall a0 v1 v2 L = some z) : Mt l E yX7_mayHaveWall cX7_mayHaveWall 3 (some .boolean) (1) [.ref a0, .int v1, .int v2] L (some (.int z)) L := by
  obtain ⟨r, hr⟩ : ∃ r : Option Value, r = some (.int z) := ⟨_, rfl⟩
  obtain ⟨L', hL'⟩ : ∃ L' : HL, L' = L := ⟨_, rfl⟩
  have k3 : r = some (.int z) ∧ L' = L := ⟨hr, hL'⟩
  refine mt_eq hr hL' ?_
  refine Mt.of (plainFor_of_name (by decide)) (Nat.le_of_ble_eq_true rfl) ?_
  refine sx_sub (lv' := [(0, .ref a0), (1, .int v1), (2, .int v2)]) [0, 1, 2] rfl ?_
  unfold fX7_mayHaveWall at h
  refine sx_aload_n (i := 0) (j := 0) dX7_mayHaveWall_0 rfl rfl ?_
  refine sx_get (k := 0) (v := .ref (a0 + 1)) dX7_mayHaveWall_1 (X7_k h0) cf_7 (Or.inl wd_956) (by decide : 0 < 20) (congrArg Value.ref (X7_r0 h0)) ?_
  refine sx_bipush (v := (29 : Int32)) dX7_mayHaveWall_4 (by decide) ?_
  refine sx_iload_n (i := 1) (j := 1) dX7_mayHaveWall_6 rfl rfl ?_
  refine sx_iadd dX7_mayHaveWall_7 ?_
  obtain ⟨c1, h⟩ := gd_e h
  refine sx_iald dX7_mayHaveWall_8 (X7_a0 h0) c1 ?_
  refine sx_iconst (v := (1 : Int32)) dX7_mayHaveWall_9 (by decide) ?_
  refine sx_icmp_ne (tgt := 46) dX7_mayHaveWall_10 rfl (fun c2 => ?_) (fun c2 => ?_)
  · have h := if_e c2 h
    refine sx_aload_n (i := 0) (j := 0) dX7_mayHaveWall_13 rfl rfl ?_
    refine sx_get (k := 0) (v := .ref (a0 + 1)) dX7_mayHaveWall_14 (X7_k h0) cf_7 (Or.inl wd_956) (by decide : 0 < 20) (congrArg Value.ref (X7_r0 h0)) ?_
    refine sx_bipush (v := (29 : Int32)) dX7_mayHaveWall_17 (by decide) ?_
    refine sx_iload_n (i := 2) (j := 2) dX7_mayHaveWall_19 rfl rfl ?_
    refine sx_iadd dX7_mayHaveWall_20 ?_
    obtain ⟨c3, h⟩ := gd_e h
    refine sx_iald dX7_mayHaveWall_21 (X7_a0 h0) c3 ?_
    refine sx_iconst (v := (1 : Int32)) dX7_mayHaveWall_22 (by decide) ?_
    refine sx_icmp_ne (tgt := 46) dX7_mayHaveWall_23 rfl (fun c4 => ?_) (fun c4 => ?_)
    · have h := if_e c4 h
      refine sx_aload_n (i := 0) (j := 0) dX7_mayHaveWall_26 rfl rfl ?_
      refine sx_get (k := 0) (v := .ref (a0 + 1)) dX7_mayHaveWall_27 (X7_k h0) cf_7 (Or.inl wd_956) (by decide : 0 < 20) (congrArg Value.ref (X7_r0 h0)) ?_
      refine sx_bipush (v := (39 : Int32)) dX7_mayHaveWall_30 (by decide) ?_
      refine sx_iconst (v := (5 : Int32)) dX7_mayHaveWall_32 (by decide) ?_
      refine sx_iload_n (i := 1) (j := 1) dX7_mayHaveWall_33 rfl rfl ?_
      refine sx_imul dX7_mayHaveWall_34 ?_
      refine sx_iadd dX7_mayHaveWall_35 ?_
      refine sx_iload_n (i := 2) (j := 2) dX7_mayHaveWall_36 rfl rfl ?_
      refine sx_iadd dX7_mayHaveWall_37 ?_
      obtain ⟨c5, h⟩ := gd_e h
      refine sx_iald dX7_mayHaveWall_38 (X7_a0 h0) c5 ?_
      refine sx_if_ne (tgt := 46) dX7_mayHaveWall_39 rfl (fun c6 => ?_) (fun c6 => ?_)
      · have h := if_e c6 h
        refine sx_iconst (v := (1 : Int32)) dX7_mayHaveWall_42 (by decide) ?_
        refine sx_goto (tgt := 47) dX7_mayHaveWall_43 rfl ?_
        obtain rfl := Option.some.inj h
        exact sx_iret dX7_mayHaveWall_47 rfl (by decide) k3.1 k3.2
      · have h := if_n c6 h
        refine sx_iconst (v := (0 : Int32)) dX7_mayHaveWall_46 (by decide) ?_
        obtain rfl := Option.some.inj h
        exact sx_iret dX7_mayHaveWall_47 rfl (by decide) k3.1 k3.2
    · have h := if_n c4 h
      refine sx_iconst (v := (0 : Int32)) dX7_mayHaveWall_46 (by decide) ?_
      obtain rfl := Option.some.inj h
      exact sx_iret dX7_mayHaveWall_47 rfl (by decide) k3.1 k3.2
  · have h := if_n c2 h
    refine sx_iconst (v := (0 : Int32)) dX7_mayHaveWall_46 (by decide) ?_
    obtain rfl := Option.some.inj h
    exact sx_iret dX7_mayHaveWall_47 rfl (by decide) k3.1 k3.2
set_option maxRecDepth 100000 in
set_option maxHeartbeats 4000000 in
theorem mX7_layWall {l : Launch} {E : Ev} {L : HL} {a0 : Nat} {v1 : Int32} {v2 : Int32} {z : HL} (h0 : isX7 E a0) (h : fX7_layWall a0 v1 v2 L = some z) : Mt l E yX7_layWall cX7_layWall 3 (none) (3) [.ref a0, .int v1, .int v2] L (none) z := by
  obtain ⟨r, hr⟩ : ∃ r : Option Value, r = none := ⟨_, rfl⟩
  obtain ⟨L', hL'⟩ : ∃ L' : HL, L' = z := ⟨_, rfl⟩
  have k3 : r = none ∧ L' = z := ⟨hr, hL'⟩
  refine mt_eq hr hL' ?_
  refine Mt.of (plainFor_of_name (by decide)) (Nat.le_of_ble_eq_true rfl) ?_
  refine sx_sub (lv' := [(0, .ref a0), (1, .int v1), (2, .int v2)]) [0, 1, 2] rfl ?_
  unfold fX7_layWall at h
  refine sx_aload_n (i := 0) (j := 0) dX7_layWall_0 rfl rfl ?_
  obtain ⟨z1, ez1, h⟩ := bd_e h
  refine sx_callV (avs := []) (rest := []) (st1 := []) dX7_layWall_1 (mX7_layDay h0 ez1) ciX7_layDay (Or.inl wd_1252) (X7_k h0) rfl rfl rfl rfl (rm_m rfl) rfl (Nat.le_of_ble_eq_true rfl) rfl ?_
  refine sx_aload_n (i := 0) (j := 0) dX7_layWall_4 rfl rfl ?_
  refine sx_get (k := 17) (v := .ref (a0 + 9)) dX7_layWall_5 (X7_k h0) cf_7 (Or.inl wd_973) (by decide : 17 < 20) (congrArg Value.ref (X7_r17 h0)) ?_
  refine sx_bipush (v := (39 : Int32)) dX7_layWall_8 (by decide) ?_
  refine sx_iconst (v := (5 : Int32)) dX7_layWall_10 (by decide) ?_
  refine sx_iload_n (i := 1) (j := 1) dX7_layWall_11 rfl rfl ?_
  refine sx_imul dX7_layWall_12 ?_
  refine sx_iadd dX7_layWall_13 ?_
  refine sx_iload_n (i := 2) (j := 2) dX7_layWall_14 rfl rfl ?_
  refine sx_iadd dX7_layWall_15 ?_
  refine sx_iconst (v := (1 : Int32)) dX7_layWall_16 (by decide) ?_
  obtain ⟨c2, h⟩ := gd_e h
  refine sx_iast dX7_layWall_17 (X7_a17 h0) c2 (fun L3 eL3 => ?_)
  have h := lt_e eL3 h
  refine sx_aload_n (i := 0) (j := 0) dX7_layWall_18 rfl rfl ?_
  refine sx_get (k := 17) (v := .ref (a0 + 9)) dX7_layWall_19 (X7_k h0) cf_7 (Or.inl wd_973) (by decide : 17 < 20) (congrArg Value.ref (X7_r17 h0)) ?_
  refine sx_bipush (v := (39 : Int32)) dX7_layWall_22 (by decide) ?_
  refine sx_iconst (v := (5 : Int32)) dX7_layWall_24 (by decide) ?_
  refine sx_iload_n (i := 2) (j := 2) dX7_layWall_25 rfl rfl ?_
  refine sx_imul dX7_layWall_26 ?_
  refine sx_iadd dX7_layWall_27 ?_
  refine sx_iload_n (i := 1) (j := 1) dX7_layWall_28 rfl rfl ?_
  refine sx_iadd dX7_layWall_29 ?_
  refine sx_iconst (v := (1 : Int32)) dX7_layWall_30 (by decide) ?_
  obtain ⟨c4, h⟩ := gd_e h
  refine sx_iast dX7_layWall_31 (X7_a17 h0) c4 (fun L5 eL5 => ?_)
  have h := lt_e eL5 h
  obtain rfl := Option.some.inj h
  exact sx_vret dX7_layWall_32 rfl k3.1 k3.2
set_option maxRecDepth 100000 in
set_option maxHeartbeats 4000000 in
theorem tX7_buildFor_j21 {l : Launch} {E : Ev} {r : Option Value} {L' L : HL} {a0 : Nat} {z : Int32 × HL} (h0 : isX7 E a0) (h : fX7_buildFor_j21 a0 L = some z) (k3 : r = some (.int z.1) ∧ L' = z.2) : Sx l E yX7_buildFor cX7_buildFor 5 (some .int) (5) r L' 21 [(0, .ref a0)] [] L := by
  unfold fX7_buildFor_j21 at h
  refine sx_aload_n (i := 0) (j := 0) dX7_buildFor_21 rfl rfl ?_
  refine sx_bipush (v := (-2 : Int32)) dX7_buildFor_22 (by decide) ?_
  obtain ⟨z3, ez3, h⟩ := bd_e h
  refine sx_callV (avs := [.int (-2 : Int32)]) (rest := []) (st1 := [.int z3.1]) dX7_buildFor_24 (mX7_bad h0 ez3) ciX7_bad (Or.inl wd_1094) (X7_k h0) rfl rfl rfl rfl (rm_m rfl) rfl (Nat.le_of_ble_eq_true rfl) rfl ?_
  obtain rfl := Option.some.inj h
  exact sx_iret dX7_buildFor_27 rfl rfl k3.1 k3.2
set_option maxRecDepth 100000 in
set_option maxHeartbeats 4000000 in
theorem tX7_buildFor_b70 {l : Launch} {E : Ev} {r : Option Value} {L' L : HL} {a0 : Nat} {v1 : Int32} {v2 : Int32} {v3 : Int32} {v4 : Int32} {z : Tn (Int32 × HL) (Int32 × HL)} (h0 : isX7 E a0) (h : fX7_buildFor_b70 a0 v1 v2 v3 v4 L = some z) (k1 : ∀ s, z = .inl s → Sx l E yX7_buildFor cX7_buildFor 5 (some .int) (5) r L' 70 [(0, .ref a0), (1, .int v1), (2, .int v2), (3, .int v3), (4, .int s.1)] [] s.2) (k2 : ∀ s, z = .inr (.inl s) → Sx l E yX7_buildFor cX7_buildFor 5 (some .int) (5) r L' 134 [(0, .ref a0), (1, .int v1), (2, .int v2), (3, .int v3)] [] s.2) (k3 : ∀ v, z = .inr (.inr v) → r = some (.int v.1) ∧ L' = v.2) : Sx l E yX7_buildFor cX7_buildFor 5 (some .int) (5) r L' 70 [(0, .ref a0), (1, .int v1), (2, .int v2), (3, .int v3), (4, .int v4)] [] L := by
  unfold fX7_buildFor_b70 at h
  refine sx_iload (j := 4) dX7_buildFor_70 rfl ?_
  refine sx_aload_n (i := 0) (j := 0) dX7_buildFor_72 rfl rfl ?_
  refine sx_get (k := 0) (v := .ref (a0 + 1)) dX7_buildFor_73 (X7_k h0) cf_7 (Or.inl wd_956) (by decide : 0 < 20) (congrArg Value.ref (X7_r0 h0)) ?_
  refine sx_iconst (v := (0 : Int32)) dX7_buildFor_76 (by decide) ?_
  refine sx_iald dX7_buildFor_77 (X7_a0 h0) (show vin (0 : Int32) 228 from by decide) ?_
  refine sx_icmp_ge (tgt := 134) dX7_buildFor_78 rfl (fun c12 => ?_) (fun c12 => ?_)
  · have h := if_e c12 h
    obtain rfl := Option.some.inj h
    exact sx_sub [0, 1, 2, 3] rfl (k2 _ rfl)
  · have h := if_n c12 h
    refine sx_aload_n (i := 0) (j := 0) dX7_buildFor_81 rfl rfl ?_
    refine sx_iload_n (i := 3) (j := 3) dX7_buildFor_82 rfl rfl ?_
    refine sx_iload (j := 4) dX7_buildFor_83 rfl ?_
    obtain ⟨z13, ez13, h⟩ := bd_e h
    refine sx_callV (avs := [.int v3, .int v4]) (rest := []) (st1 := [.int z13]) dX7_buildFor_85 (mX7_mayHaveWall h0 ez13) ciX7_mayHaveWall (Or.inl wd_1244) (X7_k h0) rfl rfl rfl rfl (rm_m rfl) rfl (Nat.le_of_ble_eq_true rfl) rfl ?_
    refine sx_if_eq (tgt := 128) dX7_buildFor_88 rfl (fun c14 => ?_) (fun c14 => ?_)
    · have h := if_e c14 h
      obtain ⟨w15, ew15⟩ : ∃ w : Int32, w = v4 + (1 : Int32) := ⟨_, rfl⟩
      have h := lt_e ew15 h
      refine sx_iinc (j := 4) (v := w15) (lv' := [(0, .ref a0), (1, .int v1), (2, .int v2), (3, .int v3), (4, .int w15)]) dX7_buildFor_128 rfl (ii_1 ew15) (by decide) rfl ?_
      refine sx_goto (tgt := 70) dX7_buildFor_131 rfl ?_
      obtain rfl := Option.some.inj h
      exact sx_sub [0, 1, 2, 3, 4] rfl (k1 _ rfl)
    · have h := if_n c14 h
      refine sx_aload_n (i := 0) (j := 0) dX7_buildFor_91 rfl rfl ?_
      refine sx_iload_n (i := 3) (j := 3) dX7_buildFor_92 rfl rfl ?_
      refine sx_iload (j := 4) dX7_buildFor_93 rfl ?_
      obtain ⟨z16, ez16, h⟩ := bd_e h
      refine sx_callV (avs := [.int v3, .int v4]) (rest := []) (st1 := []) dX7_buildFor_95 (mX7_layWall h0 ez16) ciX7_layWall (Or.inl wd_1248) (X7_k h0) rfl rfl rfl rfl (rm_m rfl) rfl (Nat.le_of_ble_eq_true rfl) rfl ?_
      refine sx_aload_n (i := 0) (j := 0) dX7_buildFor_98 rfl rfl ?_
      refine sx_aload_n (i := 0) (j := 0) dX7_buildFor_99 rfl rfl ?_
      refine sx_get (k := 17) (v := .ref (a0 + 9)) dX7_buildFor_100 (X7_k h0) cf_7 (Or.inl wd_973) (by decide : 17 < 20) (congrArg Value.ref (X7_r17 h0)) ?_
      refine sx_aload_n (i := 0) (j := 0) dX7_buildFor_103 rfl rfl ?_
      refine sx_get (k := 17) (v := .ref (a0 + 9)) dX7_buildFor_104 (X7_k h0) cf_7 (Or.inl wd_973) (by decide : 17 < 20) (congrArg Value.ref (X7_r17 h0)) ?_
      refine sx_bipush (v := (24 : Int32)) dX7_buildFor_107 (by decide) ?_
      refine sx_iload_n (i := 1) (j := 1) dX7_buildFor_109 rfl rfl ?_
      refine sx_iadd dX7_buildFor_110 ?_
      obtain ⟨c17, h⟩ := gd_e h
      refine sx_iald dX7_buildFor_111 (X7_a17 h0) c17 ?_
      refine sx_iload_n (i := 1) (j := 1) dX7_buildFor_112 rfl rfl ?_
      obtain ⟨z18, ez18, h⟩ := bd_e h
      refine sx_callV (avs := [.ref (a0 + 9), .int (z16.1 (a0 + 9) ((24 : Int32) + v1).toNatClampNeg), .int v1]) (rest := []) (st1 := [.int z18.1]) dX7_buildFor_113 (mX7_heirOn h0 (X7_a17 h0) ez18) ciX7_heirOn (Or.inl wd_1157) (X7_k h0) rfl rfl rfl rfl (rm_m rfl) rfl (Nat.le_of_ble_eq_true rfl) rfl ?_
      refine sx_iload_n (i := 2) (j := 2) dX7_buildFor_116 rfl rfl ?_
      refine sx_icmp_ne (tgt := 128) dX7_buildFor_117 rfl (fun c19 => ?_) (fun c19 => ?_)
      · have h := if_e c19 h
        refine sx_bipush (v := (10 : Int32)) dX7_buildFor_120 (by decide) ?_
        refine sx_iload_n (i := 3) (j := 3) dX7_buildFor_122 rfl rfl ?_
        refine sx_imul dX7_buildFor_123 ?_
        refine sx_iload (j := 4) dX7_buildFor_124 rfl ?_
        refine sx_iadd dX7_buildFor_126 ?_
        obtain rfl := Option.some.inj h
        exact sx_iret dX7_buildFor_127 rfl rfl (k3 _ rfl).1 (k3 _ rfl).2
      · have h := if_n c19 h
        obtain ⟨w20, ew20⟩ : ∃ w : Int32, w = v4 + (1 : Int32) := ⟨_, rfl⟩
        have h := lt_e ew20 h
        refine sx_iinc (j := 4) (v := w20) (lv' := [(0, .ref a0), (1, .int v1), (2, .int v2), (3, .int v3), (4, .int w20)]) dX7_buildFor_128 rfl (ii_1 ew20) (by decide) rfl ?_
        refine sx_goto (tgt := 70) dX7_buildFor_131 rfl ?_
        obtain rfl := Option.some.inj h
        exact sx_sub [0, 1, 2, 3, 4] rfl (k1 _ rfl)
set_option maxRecDepth 100000 in
set_option maxHeartbeats 4000000 in
theorem tX7_buildFor_b55 {l : Launch} {E : Ev} {r : Option Value} {L' L : HL} {a0 : Nat} {v1 : Int32} {v2 : Int32} {v3 : Int32} {z : Tn (Int32 × HL) (Int32 × HL)} (h0 : isX7 E a0) (h : fX7_buildFor_b55 a0 v1 v2 v3 L = some z) (k1 : ∀ s, z = .inl s → Sx l E yX7_buildFor cX7_buildFor 5 (some .int) (5) r L' 55 [(0, .ref a0), (1, .int v1), (2, .int v2), (3, .int s.1)] [] s.2) (k2 : ∀ s, z = .inr (.inl s) → Sx l E yX7_buildFor cX7_buildFor 5 (some .int) (5) r L' 140 [] [] s.2) (k3 : ∀ v, z = .inr (.inr v) → r = some (.int v.1) ∧ L' = v.2) : Sx l E yX7_buildFor cX7_buildFor 5 (some .int) (5) r L' 55 [(0, .ref a0), (1, .int v1), (2, .int v2), (3, .int v3)] [] L := by
  unfold fX7_buildFor_b55 at h
  refine sx_iload_n (i := 3) (j := 3) dX7_buildFor_55 rfl rfl ?_
  refine sx_aload_n (i := 0) (j := 0) dX7_buildFor_56 rfl rfl ?_
  refine sx_get (k := 0) (v := .ref (a0 + 1)) dX7_buildFor_57 (X7_k h0) cf_7 (Or.inl wd_956) (by decide : 0 < 20) (congrArg Value.ref (X7_r0 h0)) ?_
  refine sx_iconst (v := (0 : Int32)) dX7_buildFor_60 (by decide) ?_
  refine sx_iald dX7_buildFor_61 (X7_a0 h0) (show vin (0 : Int32) 228 from by decide) ?_
  refine sx_icmp_ge (tgt := 140) dX7_buildFor_62 rfl (fun c10 => ?_) (fun c10 => ?_)
  · have h := if_e c10 h
    obtain rfl := Option.some.inj h
    exact sx_sub [] rfl (k2 _ rfl)
  · have h := if_n c10 h
    refine sx_iload_n (i := 3) (j := 3) dX7_buildFor_65 rfl rfl ?_
    refine sx_iconst (v := (1 : Int32)) dX7_buildFor_66 (by decide) ?_
    refine sx_iadd dX7_buildFor_67 ?_
    refine sx_topi (fun w11 ew11 => ?_)
    have h := lt_e ew11 h
    refine sx_istore (lv' := [(0, .ref a0), (1, .int v1), (2, .int v2), (3, .int v3), (4, .int w11)]) dX7_buildFor_68 (by decide) rfl ?_
    obtain ⟨x23, hx, q1, q2⟩ := lx_e h
    refine sx_sub (lv' := [(0, .ref a0), (1, .int v1), (2, .int v2), (3, .int v3), (4, .int w11)]) [0, 1, 2, 3, 4] rfl ?_
    refine lp_go (fun s21 => Sx l E yX7_buildFor cX7_buildFor 5 (some .int) (5) r L' 70 [(0, .ref a0), (1, .int v1), (2, .int v2), (3, .int v3), (4, .int s21.1)] [] s21.2) x23 (fun s21 z2 hz c1 c2 => ?_) FU _ hx
    refine tX7_buildFor_b70 h0 hz (fun s2 e => c1 s2 e) (fun s21 e => ?_) (fun v e => ?_)
    · have h := q1 _ (c2 _ e).symm
      obtain ⟨w22, ew22⟩ : ∃ w : Int32, w = v3 + (1 : Int32) := ⟨_, rfl⟩
      have h := lt_e ew22 h
      refine sx_iinc (j := 3) (v := w22) (lv' := [(0, .ref a0), (1, .int v1), (2, .int v2), (3, .int w22)]) dX7_buildFor_134 rfl (ii_1 ew22) (by decide) rfl ?_
      refine sx_goto (tgt := 55) dX7_buildFor_137 rfl ?_
      obtain rfl := Option.some.inj h
      exact sx_sub [0, 1, 2, 3] rfl (k1 _ rfl)
    · exact k3 _ (Option.some.inj (q2 _ (c2 _ e).symm)).symm
set_option maxRecDepth 100000 in
set_option maxHeartbeats 4000000 in
theorem mX7_buildFor {l : Launch} {E : Ev} {L : HL} {a0 : Nat} {v1 : Int32} {v2 : Int32} {z : Int32 × HL} (h0 : isX7 E a0) (h : fX7_buildFor a0 v1 v2 L = some z) : Mt l E yX7_buildFor cX7_buildFor 5 (some .int) (5) [.ref a0, .int v1, .int v2] L (some (.int z.1)) (z.2) := by
  obtain ⟨r, hr⟩ : ∃ r : Option Value, r = some (.int z.1) := ⟨_, rfl⟩
  obtain ⟨L', hL'⟩ : ∃ L' : HL, L' = z.2 := ⟨_, rfl⟩
  have k3 : r = some (.int z.1) ∧ L' = z.2 := ⟨hr, hL'⟩
  refine mt_eq hr hL' ?_
  refine Mt.of (plainFor_of_name (by decide)) (Nat.le_of_ble_eq_true rfl) ?_
  refine sx_sub (lv' := [(0, .ref a0), (1, .int v1), (2, .int v2)]) [0, 1, 2] rfl ?_
  unfold fX7_buildFor at h
  refine sx_aload_n (i := 0) (j := 0) dX7_buildFor_0 rfl rfl ?_
  refine sx_iload_n (i := 1) (j := 1) dX7_buildFor_1 rfl rfl ?_
  obtain ⟨z1, ez1, h⟩ := bd_e h
  refine sx_callV (avs := [.int v1]) (rest := []) (st1 := [.int z1]) dX7_buildFor_2 (mX7_isHouse h0 ez1) ciX7_isHouse (Or.inl wd_1047) (X7_k h0) rfl rfl rfl rfl (rm_m rfl) rfl (Nat.le_of_ble_eq_true rfl) rfl ?_
  refine sx_if_eq (tgt := 21) dX7_buildFor_5 rfl (fun c2 => ?_) (fun c2 => ?_)
  · have h := if_e c2 h
    exact sx_sub [0] rfl (tX7_buildFor_j21 h0 h k3)
  · have h := if_n c2 h
    refine sx_aload_n (i := 0) (j := 0) dX7_buildFor_8 rfl rfl ?_
    refine sx_iload_n (i := 2) (j := 2) dX7_buildFor_9 rfl rfl ?_
    obtain ⟨z4, ez4, h⟩ := bd_e h
    refine sx_callV (avs := [.int v2]) (rest := []) (st1 := [.int z4]) dX7_buildFor_10 (mX7_isHouse h0 ez4) ciX7_isHouse (Or.inl wd_1047) (X7_k h0) rfl rfl rfl rfl (rm_m rfl) rfl (Nat.le_of_ble_eq_true rfl) rfl ?_
    refine sx_if_eq (tgt := 21) dX7_buildFor_13 rfl (fun c5 => ?_) (fun c5 => ?_)
    · have h := if_e c5 h
      exact sx_sub [0] rfl (tX7_buildFor_j21 h0 h k3)
    · have h := if_n c5 h
      refine sx_iload_n (i := 1) (j := 1) dX7_buildFor_16 rfl rfl ?_
      refine sx_iload_n (i := 2) (j := 2) dX7_buildFor_17 rfl rfl ?_
      refine sx_icmp_ne (tgt := 28) dX7_buildFor_18 rfl (fun c6 => ?_) (fun c6 => ?_)
      · have h := if_e c6 h
        exact sx_sub [0] rfl (tX7_buildFor_j21 h0 h k3)
      · have h := if_n c6 h
        refine sx_aload_n (i := 0) (j := 0) dX7_buildFor_28 rfl rfl ?_
        refine sx_aload_n (i := 0) (j := 0) dX7_buildFor_29 rfl rfl ?_
        refine sx_get (k := 0) (v := .ref (a0 + 1)) dX7_buildFor_30 (X7_k h0) cf_7 (Or.inl wd_956) (by decide : 0 < 20) (congrArg Value.ref (X7_r0 h0)) ?_
        refine sx_aload_n (i := 0) (j := 0) dX7_buildFor_33 rfl rfl ?_
        refine sx_get (k := 0) (v := .ref (a0 + 1)) dX7_buildFor_34 (X7_k h0) cf_7 (Or.inl wd_956) (by decide : 0 < 20) (congrArg Value.ref (X7_r0 h0)) ?_
        refine sx_bipush (v := (24 : Int32)) dX7_buildFor_37 (by decide) ?_
        refine sx_iload_n (i := 1) (j := 1) dX7_buildFor_39 rfl rfl ?_
        refine sx_iadd dX7_buildFor_40 ?_
        obtain ⟨c7, h⟩ := gd_e h
        refine sx_iald dX7_buildFor_41 (X7_a0 h0) c7 ?_
        refine sx_iload_n (i := 1) (j := 1) dX7_buildFor_42 rfl rfl ?_
        obtain ⟨z8, ez8, h⟩ := bd_e h
        refine sx_callV (avs := [.ref (a0 + 1), .int (L.1 (a0 + 1) ((24 : Int32) + v1).toNatClampNeg), .int v1]) (rest := []) (st1 := [.int z8.1]) dX7_buildFor_43 (mX7_heirOn h0 (X7_a0 h0) ez8) ciX7_heirOn (Or.inl wd_1157) (X7_k h0) rfl rfl rfl rfl (rm_m rfl) rfl (Nat.le_of_ble_eq_true rfl) rfl ?_
        refine sx_iload_n (i := 2) (j := 2) dX7_buildFor_46 rfl rfl ?_
        refine sx_icmp_ne (tgt := 53) dX7_buildFor_47 rfl (fun c9 => ?_) (fun c9 => ?_)
        · have h := if_e c9 h
          refine sx_bipush (v := (99 : Int32)) dX7_buildFor_50 (by decide) ?_
          obtain rfl := Option.some.inj h
          exact sx_iret dX7_buildFor_52 rfl rfl k3.1 k3.2
        · have h := if_n c9 h
          refine sx_iconst (v := (0 : Int32)) dX7_buildFor_53 (by decide) ?_
          refine sx_istore_n (i := 3) (lv' := [(0, .ref a0), (1, .int v1), (2, .int v2), (3, .int (0 : Int32))]) dX7_buildFor_54 rfl (by decide) rfl ?_
          obtain ⟨x25, hx, q1, q2⟩ := lx_e h
          refine sx_sub (lv' := [(0, .ref a0), (1, .int v1), (2, .int v2), (3, .int (0 : Int32))]) [0, 1, 2, 3] rfl ?_
          refine lp_go (fun s24 => Sx l E yX7_buildFor cX7_buildFor 5 (some .int) (5) r L' 55 [(0, .ref a0), (1, .int v1), (2, .int v2), (3, .int s24.1)] [] s24.2) x25 (fun s24 z2 hz c1 c2 => ?_) FU _ hx
          refine tX7_buildFor_b55 h0 hz (fun s2 e => c1 s2 e) (fun s24 e => ?_) (fun v e => ?_)
          · have h := q1 _ (c2 _ e).symm
            refine sx_iconst (v := (-1 : Int32)) dX7_buildFor_140 (by decide) ?_
            obtain rfl := Option.some.inj h
            exact sx_iret dX7_buildFor_141 rfl rfl k3.1 k3.2
          · have e2 := Option.some.inj (q2 _ (c2 _ e).symm)
            subst e2
            exact k3
set_option maxRecDepth 100000 in
set_option maxHeartbeats 4000000 in
theorem tX7_adopts_j21 {l : Launch} {E : Ev} {r : Option Value} {L' L : HL} {a0 : Nat} {z : Int32 × HL} (h0 : isX7 E a0) (h : fX7_adopts_j21 a0 L = some z) (k3 : r = some (.int z.1) ∧ L' = z.2) : Sx l E yX7_adopts cX7_adopts 5 (some .int) (5) r L' 21 [(0, .ref a0)] [] L := by
  unfold fX7_adopts_j21 at h
  refine sx_aload_n (i := 0) (j := 0) dX7_adopts_21 rfl rfl ?_
  refine sx_bipush (v := (-2 : Int32)) dX7_adopts_22 (by decide) ?_
  obtain ⟨z3, ez3, h⟩ := bd_e h
  refine sx_callV (avs := [.int (-2 : Int32)]) (rest := []) (st1 := [.int z3.1]) dX7_adopts_24 (mX7_bad h0 ez3) ciX7_bad (Or.inl wd_1094) (X7_k h0) rfl rfl rfl rfl (rm_m rfl) rfl (Nat.le_of_ble_eq_true rfl) rfl ?_
  obtain rfl := Option.some.inj h
  exact sx_iret dX7_adopts_27 rfl rfl k3.1 k3.2
set_option maxRecDepth 100000 in
set_option maxHeartbeats 4000000 in
theorem tX7_adopts_b55 {l : Launch} {E : Ev} {r : Option Value} {L' L : HL} {a0 : Nat} {v3 : Int32} {v4 : Int32} {z : Tn (Int32 × Int32 × HL) (Int32 × HL)} (h0 : isX7 E a0) (h : fX7_adopts_b55 a0 v3 v4 L = some z) (k1 : ∀ s, z = .inl s → Sx l E yX7_adopts cX7_adopts 5 (some .int) (5) r L' 55 [(0, .ref a0), (3, .int s.1), (4, .int s.2.1)] [] s.2.2) (k2 : ∀ s, z = .inr (.inl s) → Sx l E yX7_adopts cX7_adopts 5 (some .int) (5) r L' 123 [(3, .int s.1)] [] s.2.2) (k3 : ∀ v, z = .inr (.inr v) → r = some (.int v.1) ∧ L' = v.2) : Sx l E yX7_adopts cX7_adopts 5 (some .int) (5) r L' 55 [(0, .ref a0), (3, .int v3), (4, .int v4)] [] L := by
  unfold fX7_adopts_b55 at h
  refine sx_iload (j := 2) dX7_adopts_55 rfl ?_
  refine sx_aload_n (i := 0) (j := 0) dX7_adopts_57 rfl rfl ?_
  refine sx_get (k := 0) (v := .ref (a0 + 1)) dX7_adopts_58 (X7_k h0) cf_7 (Or.inl wd_956) (by decide : 0 < 20) (congrArg Value.ref (X7_r0 h0)) ?_
  refine sx_iconst (v := (0 : Int32)) dX7_adopts_61 (by decide) ?_
  refine sx_iald dX7_adopts_62 (X7_a0 h0) (show vin (0 : Int32) 228 from by decide) ?_
  refine sx_icmp_ge (tgt := 123) dX7_adopts_63 rfl (fun c11 => ?_) (fun c11 => ?_)
  · have h := if_e c11 h
    obtain rfl := Option.some.inj h
    exact sx_sub [1] rfl (k2 _ rfl)
  · have h := if_n c11 h
    refine sx_iload_n (i := 3) (j := 1) dX7_adopts_66 rfl rfl ?_
    refine sx_aload_n (i := 0) (j := 0) dX7_adopts_67 rfl rfl ?_
    refine sx_aload_n (i := 0) (j := 0) dX7_adopts_68 rfl rfl ?_
    refine sx_get (k := 0) (v := .ref (a0 + 1)) dX7_adopts_69 (X7_k h0) cf_7 (Or.inl wd_956) (by decide : 0 < 20) (congrArg Value.ref (X7_r0 h0)) ?_
    refine sx_aload_n (i := 0) (j := 0) dX7_adopts_72 rfl rfl ?_
    refine sx_get (k := 0) (v := .ref (a0 + 1)) dX7_adopts_73 (X7_k h0) cf_7 (Or.inl wd_956) (by decide : 0 < 20) (congrArg Value.ref (X7_r0 h0)) ?_
    refine sx_bipush (v := (24 : Int32)) dX7_adopts_76 (by decide) ?_
    refine sx_iload (j := 2) dX7_adopts_78 rfl ?_
    refine sx_iadd dX7_adopts_80 ?_
    obtain ⟨c12, h⟩ := gd_e h
    refine sx_iald dX7_adopts_81 (X7_a0 h0) c12 ?_
    refine sx_iload (j := 2) dX7_adopts_82 rfl ?_
    obtain ⟨z13, ez13, h⟩ := bd_e h
    refine sx_callV (avs := [.ref (a0 + 1), .int (L.1 (a0 + 1) ((24 : Int32) + v4).toNatClampNeg), .int v4]) (rest := [.int v3]) (st1 := [.int z13.1, .int v3]) dX7_adopts_84 (mX7_heirOn h0 (X7_a0 h0) ez13) ciX7_heirOn (Or.inl wd_1157) (X7_k h0) rfl rfl rfl rfl (rm_m rfl) rfl (Nat.le_of_ble_eq_true rfl) rfl ?_
    refine sx_aload_n (i := 0) (j := 0) dX7_adopts_87 rfl rfl ?_
    refine sx_aload_n (i := 0) (j := 0) dX7_adopts_88 rfl rfl ?_
    refine sx_get (k := 17) (v := .ref (a0 + 9)) dX7_adopts_89 (X7_k h0) cf_7 (Or.inl wd_973) (by decide : 17 < 20) (congrArg Value.ref (X7_r17 h0)) ?_
    refine sx_aload_n (i := 0) (j := 0) dX7_adopts_92 rfl rfl ?_
    refine sx_get (k := 0) (v := .ref (a0 + 1)) dX7_adopts_93 (X7_k h0) cf_7 (Or.inl wd_956) (by decide : 0 < 20) (congrArg Value.ref (X7_r0 h0)) ?_
    refine sx_bipush (v := (24 : Int32)) dX7_adopts_96 (by decide) ?_
    refine sx_iload (j := 2) dX7_adopts_98 rfl ?_
    refine sx_iadd dX7_adopts_100 ?_
    obtain ⟨c14, h⟩ := gd_e h
    refine sx_iald dX7_adopts_101 (X7_a0 h0) c14 ?_
    refine sx_iload (j := 2) dX7_adopts_102 rfl ?_
    obtain ⟨z15, ez15, h⟩ := bd_e h
    refine sx_callV (avs := [.ref (a0 + 9), .int (z13.2.1 (a0 + 1) ((24 : Int32) + v4).toNatClampNeg), .int v4]) (rest := [.int z13.1, .int v3]) (st1 := [.int z15.1, .int z13.1, .int v3]) dX7_adopts_104 (mX7_heirOn h0 (X7_a17 h0) ez15) ciX7_heirOn (Or.inl wd_1157) (X7_k h0) rfl rfl rfl rfl (rm_m rfl) rfl (Nat.le_of_ble_eq_true rfl) rfl ?_
    refine sx_icmp_eq (tgt := 114) dX7_adopts_107 rfl (fun c16 => ?_) (fun c16 => ?_)
    · have h := if_e c16 h
      refine sx_iconst (v := (0 : Int32)) dX7_adopts_114 (by decide) ?_
      refine sx_iadd dX7_adopts_115 ?_
      refine sx_topi (fun w17 ew17 => ?_)
      have h := lt_e ew17 h
      refine sx_istore_n (i := 3) (lv' := [(0, .ref a0), (3, .int w17), (4, .int v4)]) dX7_adopts_116 rfl (by decide) rfl ?_
      obtain ⟨w18, ew18⟩ : ∃ w : Int32, w = v4 + (1 : Int32) := ⟨_, rfl⟩
      have h := lt_e ew18 h
      refine sx_iinc (j := 2) (v := w18) (lv' := [(0, .ref a0), (3, .int w17), (4, .int w18)]) dX7_adopts_117 rfl (ii_1 ew18) (by decide) rfl ?_
      refine sx_goto (tgt := 55) dX7_adopts_120 rfl ?_
      obtain rfl := Option.some.inj h
      exact sx_sub [0, 1, 2] rfl (k1 _ rfl)
    · have h := if_n c16 h
      refine sx_iconst (v := (1 : Int32)) dX7_adopts_110 (by decide) ?_
      refine sx_goto (tgt := 115) dX7_adopts_111 rfl ?_
      refine sx_iadd dX7_adopts_115 ?_
      refine sx_topi (fun w19 ew19 => ?_)
      have h := lt_e ew19 h
      refine sx_istore_n (i := 3) (lv' := [(0, .ref a0), (3, .int w19), (4, .int v4)]) dX7_adopts_116 rfl (by decide) rfl ?_
      obtain ⟨w20, ew20⟩ : ∃ w : Int32, w = v4 + (1 : Int32) := ⟨_, rfl⟩
      have h := lt_e ew20 h
      refine sx_iinc (j := 2) (v := w20) (lv' := [(0, .ref a0), (3, .int w19), (4, .int w20)]) dX7_adopts_117 rfl (ii_1 ew20) (by decide) rfl ?_
      refine sx_goto (tgt := 55) dX7_adopts_120 rfl ?_
      obtain rfl := Option.some.inj h
      exact sx_sub [0, 1, 2] rfl (k1 _ rfl)
set_option maxRecDepth 100000 in
set_option maxHeartbeats 4000000 in
theorem mX7_adopts {l : Launch} {E : Ev} {L : HL} {a0 : Nat} {v1 : Int32} {v2 : Int32} {z : Int32 × HL} (h0 : isX7 E a0) (h : fX7_adopts a0 v1 v2 L = some z) : Mt l E yX7_adopts cX7_adopts 5 (some .int) (5) [.ref a0, .int v1, .int v2] L (some (.int z.1)) (z.2) := by
  obtain ⟨r, hr⟩ : ∃ r : Option Value, r = some (.int z.1) := ⟨_, rfl⟩
  obtain ⟨L', hL'⟩ : ∃ L' : HL, L' = z.2 := ⟨_, rfl⟩
  have k3 : r = some (.int z.1) ∧ L' = z.2 := ⟨hr, hL'⟩
  refine mt_eq hr hL' ?_
  refine Mt.of (plainFor_of_name (by decide)) (Nat.le_of_ble_eq_true rfl) ?_
  refine sx_sub (lv' := [(0, .ref a0), (1, .int v1), (2, .int v2)]) [0, 1, 2] rfl ?_
  unfold fX7_adopts at h
  refine sx_aload_n (i := 0) (j := 0) dX7_adopts_0 rfl rfl ?_
  refine sx_iload_n (i := 1) (j := 1) dX7_adopts_1 rfl rfl ?_
  obtain ⟨z1, ez1, h⟩ := bd_e h
  refine sx_callV (avs := [.int v1]) (rest := []) (st1 := [.int z1]) dX7_adopts_2 (mX7_isHouse h0 ez1) ciX7_isHouse (Or.inl wd_1047) (X7_k h0) rfl rfl rfl rfl (rm_m rfl) rfl (Nat.le_of_ble_eq_true rfl) rfl ?_
  refine sx_if_eq (tgt := 21) dX7_adopts_5 rfl (fun c2 => ?_) (fun c2 => ?_)
  · have h := if_e c2 h
    exact sx_sub [0] rfl (tX7_adopts_j21 h0 h k3)
  · have h := if_n c2 h
    refine sx_aload_n (i := 0) (j := 0) dX7_adopts_8 rfl rfl ?_
    refine sx_iload_n (i := 2) (j := 2) dX7_adopts_9 rfl rfl ?_
    obtain ⟨z4, ez4, h⟩ := bd_e h
    refine sx_callV (avs := [.int v2]) (rest := []) (st1 := [.int z4]) dX7_adopts_10 (mX7_isHouse h0 ez4) ciX7_isHouse (Or.inl wd_1047) (X7_k h0) rfl rfl rfl rfl (rm_m rfl) rfl (Nat.le_of_ble_eq_true rfl) rfl ?_
    refine sx_if_eq (tgt := 21) dX7_adopts_13 rfl (fun c5 => ?_) (fun c5 => ?_)
    · have h := if_e c5 h
      exact sx_sub [0] rfl (tX7_adopts_j21 h0 h k3)
    · have h := if_n c5 h
      refine sx_iload_n (i := 1) (j := 1) dX7_adopts_16 rfl rfl ?_
      refine sx_iload_n (i := 2) (j := 2) dX7_adopts_17 rfl rfl ?_
      refine sx_icmp_ne (tgt := 28) dX7_adopts_18 rfl (fun c6 => ?_) (fun c6 => ?_)
      · have h := if_e c6 h
        exact sx_sub [0] rfl (tX7_adopts_j21 h0 h k3)
      · have h := if_n c6 h
        refine sx_aload_n (i := 0) (j := 0) dX7_adopts_28 rfl rfl ?_
        refine sx_iload_n (i := 1) (j := 1) dX7_adopts_29 rfl rfl ?_
        refine sx_iload_n (i := 2) (j := 2) dX7_adopts_30 rfl rfl ?_
        obtain ⟨z7, ez7, h⟩ := bd_e h
        refine sx_callV (avs := [.int v1, .int v2]) (rest := []) (st1 := [.int z7]) dX7_adopts_31 (mX7_mayHaveWall h0 ez7) ciX7_mayHaveWall (Or.inl wd_1244) (X7_k h0) rfl rfl rfl rfl (rm_m rfl) rfl (Nat.le_of_ble_eq_true rfl) rfl ?_
        refine sx_if_ne (tgt := 44) dX7_adopts_34 rfl (fun c8 => ?_) (fun c8 => ?_)
        · have h := if_e c8 h
          refine sx_aload_n (i := 0) (j := 0) dX7_adopts_37 rfl rfl ?_
          refine sx_bipush (v := (-3 : Int32)) dX7_adopts_38 (by decide) ?_
          obtain ⟨z9, ez9, h⟩ := bd_e h
          refine sx_callV (avs := [.int (-3 : Int32)]) (rest := []) (st1 := [.int z9.1]) dX7_adopts_40 (mX7_no h0 ez9) ciX7_no (Or.inl wd_1145) (X7_k h0) rfl rfl rfl rfl (rm_m rfl) rfl (Nat.le_of_ble_eq_true rfl) rfl ?_
          obtain rfl := Option.some.inj h
          exact sx_iret dX7_adopts_43 rfl rfl k3.1 k3.2
        · have h := if_n c8 h
          refine sx_aload_n (i := 0) (j := 0) dX7_adopts_44 rfl rfl ?_
          refine sx_iload_n (i := 1) (j := 1) dX7_adopts_45 rfl rfl ?_
          refine sx_iload_n (i := 2) (j := 2) dX7_adopts_46 rfl rfl ?_
          obtain ⟨z10, ez10, h⟩ := bd_e h
          refine sx_callV (avs := [.int v1, .int v2]) (rest := []) (st1 := []) dX7_adopts_47 (mX7_layWall h0 ez10) ciX7_layWall (Or.inl wd_1248) (X7_k h0) rfl rfl rfl rfl (rm_m rfl) rfl (Nat.le_of_ble_eq_true rfl) rfl ?_
          refine sx_iconst (v := (0 : Int32)) dX7_adopts_50 (by decide) ?_
          refine sx_istore_n (i := 3) (lv' := [(0, .ref a0), (1, .int v1), (2, .int v2), (3, .int (0 : Int32))]) dX7_adopts_51 rfl (by decide) rfl ?_
          refine sx_iconst (v := (0 : Int32)) dX7_adopts_52 (by decide) ?_
          refine sx_istore (lv' := [(0, .ref a0), (1, .int v1), (2, .int v2), (3, .int (0 : Int32)), (4, .int (0 : Int32))]) dX7_adopts_53 (by decide) rfl ?_
          obtain ⟨x22, hx, q1, q2⟩ := lx_e h
          refine sx_sub (lv' := [(0, .ref a0), (3, .int (0 : Int32)), (4, .int (0 : Int32))]) [0, 3, 4] rfl ?_
          refine lp_go (fun s21 => Sx l E yX7_adopts cX7_adopts 5 (some .int) (5) r L' 55 [(0, .ref a0), (3, .int s21.1), (4, .int s21.2.1)] [] s21.2.2) x22 (fun s21 z2 hz c1 c2 => ?_) FU _ hx
          refine tX7_adopts_b55 h0 hz (fun s2 e => c1 s2 e) (fun s21 e => ?_) (fun v e => ?_)
          · have h := q1 _ (c2 _ e).symm
            refine sx_iload_n (i := 3) (j := 0) dX7_adopts_123 rfl rfl ?_
            obtain rfl := Option.some.inj h
            exact sx_iret dX7_adopts_124 rfl rfl k3.1 k3.2
          · have e2 := Option.some.inj (q2 _ (c2 _ e).symm)
            subst e2
            exact k3
set_option maxRecDepth 100000 in
set_option maxHeartbeats 4000000 in
theorem tX7_goYears_b6 {l : Launch} {E : Ev} {r : Option Value} {L' L : HL} {a0 : Nat} {v1 : Int32} {v2 : Int32} {z : Tn (Int32 × HL) (HL)} (h0 : isX7 E a0) (h : fX7_goYears_b6 a0 v1 v2 L = some z) (k1 : ∀ s, z = .inl s → Sx l E yX7_goYears cX7_goYears 3 (none) (7) r L' 6 [(0, .ref a0), (1, .int v1), (2, .int s.1)] [] s.2) (k2 : ∀ s, z = .inr (.inl s) → Sx l E yX7_goYears cX7_goYears 3 (none) (7) r L' 25 [] [] s.2) (k3 : ∀ v, z = .inr (.inr v) → r = none ∧ L' = v) : Sx l E yX7_goYears cX7_goYears 3 (none) (7) r L' 6 [(0, .ref a0), (1, .int v1), (2, .int v2)] [] L := by
  unfold fX7_goYears_b6 at h
  refine sx_iload_n (i := 2) (j := 2) dX7_goYears_6 rfl rfl ?_
  refine sx_iload_n (i := 1) (j := 1) dX7_goYears_7 rfl rfl ?_
  refine sx_icmp_ge (tgt := 25) dX7_goYears_8 rfl (fun c2 => ?_) (fun c2 => ?_)
  · have h := if_e c2 h
    obtain rfl := Option.some.inj h
    exact sx_sub [] rfl (k2 _ rfl)
  · have h := if_n c2 h
    refine sx_aload_n (i := 0) (j := 0) dX7_goYears_11 rfl rfl ?_
    refine sx_aload_n (i := 0) (j := 0) dX7_goYears_12 rfl rfl ?_
    refine sx_get (k := 17) (v := .ref (a0 + 9)) dX7_goYears_13 (X7_k h0) cf_7 (Or.inl wd_973) (by decide : 17 < 20) (congrArg Value.ref (X7_r17 h0)) ?_
    obtain ⟨z3, ez3, h⟩ := bd_e h
    refine sx_callV (avs := [.ref (a0 + 9)]) (rest := []) (st1 := []) dX7_goYears_16 (mX7_yearGoes h0 (X7_a17 h0) ez3) ciX7_yearGoes (Or.inl wd_1190) (X7_k h0) rfl rfl rfl rfl (rm_m rfl) rfl (Nat.le_of_ble_eq_true rfl) rfl ?_
    obtain ⟨w4, ew4⟩ : ∃ w : Int32, w = v2 + (1 : Int32) := ⟨_, rfl⟩
    have h := lt_e ew4 h
    refine sx_iinc (j := 2) (v := w4) (lv' := [(0, .ref a0), (1, .int v1), (2, .int w4)]) dX7_goYears_19 rfl (ii_1 ew4) (by decide) rfl ?_
    refine sx_goto (tgt := 6) dX7_goYears_22 rfl ?_
    obtain rfl := Option.some.inj h
    exact sx_sub [0, 1, 2] rfl (k1 _ rfl)
set_option maxRecDepth 100000 in
set_option maxHeartbeats 4000000 in
theorem mX7_goYears {l : Launch} {E : Ev} {L : HL} {a0 : Nat} {v1 : Int32} {z : HL} (h0 : isX7 E a0) (h : fX7_goYears a0 v1 L = some z) : Mt l E yX7_goYears cX7_goYears 3 (none) (7) [.ref a0, .int v1] L (none) z := by
  obtain ⟨r, hr⟩ : ∃ r : Option Value, r = none := ⟨_, rfl⟩
  obtain ⟨L', hL'⟩ : ∃ L' : HL, L' = z := ⟨_, rfl⟩
  have k3 : r = none ∧ L' = z := ⟨hr, hL'⟩
  refine mt_eq hr hL' ?_
  refine Mt.of (plainFor_of_name (by decide)) (Nat.le_of_ble_eq_true rfl) ?_
  refine sx_sub (lv' := [(0, .ref a0), (1, .int v1)]) [0, 1] rfl ?_
  unfold fX7_goYears at h
  refine sx_aload_n (i := 0) (j := 0) dX7_goYears_0 rfl rfl ?_
  obtain ⟨z1, ez1, h⟩ := bd_e h
  refine sx_callV (avs := []) (rest := []) (st1 := []) dX7_goYears_1 (mX7_layDay h0 ez1) ciX7_layDay (Or.inl wd_1252) (X7_k h0) rfl rfl rfl rfl (rm_m rfl) rfl (Nat.le_of_ble_eq_true rfl) rfl ?_
  refine sx_iconst (v := (0 : Int32)) dX7_goYears_4 (by decide) ?_
  refine sx_istore_n (i := 2) (lv' := [(0, .ref a0), (1, .int v1), (2, .int (0 : Int32))]) dX7_goYears_5 rfl (by decide) rfl ?_
  obtain ⟨x6, hx, q1, q2⟩ := lx_e h
  refine sx_sub (lv' := [(0, .ref a0), (1, .int v1), (2, .int (0 : Int32))]) [0, 1, 2] rfl ?_
  refine lp_go (fun s5 => Sx l E yX7_goYears cX7_goYears 3 (none) (7) r L' 6 [(0, .ref a0), (1, .int v1), (2, .int s5.1)] [] s5.2) x6 (fun s5 z2 hz c1 c2 => ?_) FU _ hx
  refine tX7_goYears_b6 h0 hz (fun s2 e => c1 s2 e) (fun s5 e => ?_) (fun v e => ?_)
  · have h := q1 _ (c2 _ e).symm
    obtain rfl := Option.some.inj h
    exact sx_vret dX7_goYears_25 rfl k3.1 k3.2
  · have e2 := Option.some.inj (q2 _ (c2 _ e).symm)
    subst e2
    exact k3
set_option maxRecDepth 100000 in
set_option maxHeartbeats 4000000 in
theorem tX7_lives_j20 {l : Launch} {E : Ev} {r : Option Value} {L' L : HL} {a0 : Nat} {z : Int32 × HL} (h0 : isX7 E a0) (h : fX7_lives_j20 a0 L = some z) (k3 : r = some (.int z.1) ∧ L' = z.2) : Sx l E yX7_lives cX7_lives 3 (some .int) (8) r L' 20 [(0, .ref a0)] [] L := by
  unfold fX7_lives_j20 at h
  refine sx_aload_n (i := 0) (j := 0) dX7_lives_20 rfl rfl ?_
  refine sx_bipush (v := (-10 : Int32)) dX7_lives_21 (by decide) ?_
  obtain ⟨z3, ez3, h⟩ := bd_e h
  refine sx_callV (avs := [.int (-10 : Int32)]) (rest := []) (st1 := [.int z3.1]) dX7_lives_23 (mX7_bad h0 ez3) ciX7_bad (Or.inl wd_1094) (X7_k h0) rfl rfl rfl rfl (rm_m rfl) rfl (Nat.le_of_ble_eq_true rfl) rfl ?_
  obtain rfl := Option.some.inj h
  exact sx_iret dX7_lives_26 rfl rfl k3.1 k3.2
set_option maxRecDepth 100000 in
set_option maxHeartbeats 4000000 in
theorem mX7_lives {l : Launch} {E : Ev} {L : HL} {a0 : Nat} {v1 : Int32} {v2 : Int32} {z : Int32 × HL} (h0 : isX7 E a0) (h : fX7_lives a0 v1 v2 L = some z) : Mt l E yX7_lives cX7_lives 3 (some .int) (8) [.ref a0, .int v1, .int v2] L (some (.int z.1)) (z.2) := by
  obtain ⟨r, hr⟩ : ∃ r : Option Value, r = some (.int z.1) := ⟨_, rfl⟩
  obtain ⟨L', hL'⟩ : ∃ L' : HL, L' = z.2 := ⟨_, rfl⟩
  have k3 : r = some (.int z.1) ∧ L' = z.2 := ⟨hr, hL'⟩
  refine mt_eq hr hL' ?_
  refine Mt.of (plainFor_of_name (by decide)) (Nat.le_of_ble_eq_true rfl) ?_
  refine sx_sub (lv' := [(0, .ref a0), (1, .int v1), (2, .int v2)]) [0, 1, 2] rfl ?_
  unfold fX7_lives at h
  refine sx_aload_n (i := 0) (j := 0) dX7_lives_0 rfl rfl ?_
  refine sx_iload_n (i := 1) (j := 1) dX7_lives_1 rfl rfl ?_
  obtain ⟨z1, ez1, h⟩ := bd_e h
  refine sx_callV (avs := [.int v1]) (rest := []) (st1 := [.int z1]) dX7_lives_2 (mX7_isOne h0 ez1) ciX7_isOne (Or.inl wd_1204) (X7_k h0) rfl rfl rfl rfl (rm_m rfl) rfl (Nat.le_of_ble_eq_true rfl) rfl ?_
  refine sx_if_eq (tgt := 20) dX7_lives_5 rfl (fun c2 => ?_) (fun c2 => ?_)
  · have h := if_e c2 h
    exact sx_sub [0] rfl (tX7_lives_j20 h0 h k3)
  · have h := if_n c2 h
    refine sx_iload_n (i := 2) (j := 2) dX7_lives_8 rfl rfl ?_
    refine sx_i2l dX7_lives_9 ?_
    refine sx_lconst (v := (0 : Int64)) dX7_lives_10 (by decide) ?_
    refine sx_ldc2 (v := (60 : Int64)) dX7_lives_11 wd_1264 ?_
    obtain ⟨z4, ez4, h⟩ := bd_e h
    refine sx_callS (avs := [.long v2.toInt64, .long (0 : Int64), .long (60 : Int64)]) (rest := []) (st1 := [.int z4]) dX7_lives_14 (mX7_in ez4) ctX7_in (Or.inl wd_1031) rfl rfl (rm_m rfl) rfl (Nat.le_of_ble_eq_true rfl) rfl ?_
    refine sx_if_ne (tgt := 27) dX7_lives_17 rfl (fun c5 => ?_) (fun c5 => ?_)
    · have h := if_e c5 h
      exact sx_sub [0] rfl (tX7_lives_j20 h0 h k3)
    · have h := if_n c5 h
      refine sx_aload_n (i := 0) (j := 0) dX7_lives_27 rfl rfl ?_
      refine sx_iload_n (i := 2) (j := 2) dX7_lives_28 rfl rfl ?_
      obtain ⟨z6, ez6, h⟩ := bd_e h
      refine sx_callV (avs := [.int v2]) (rest := []) (st1 := []) dX7_lives_29 (mX7_goYears h0 ez6) ciX7_goYears (Or.inl wd_1265) (X7_k h0) rfl rfl rfl rfl (rm_m rfl) rfl (Nat.le_of_ble_eq_true rfl) rfl ?_
      refine sx_aload_n (i := 0) (j := 0) dX7_lives_32 rfl rfl ?_
      refine sx_get (k := 17) (v := .ref (a0 + 9)) dX7_lives_33 (X7_k h0) cf_7 (Or.inl wd_973) (by decide : 17 < 20) (congrArg Value.ref (X7_r17 h0)) ?_
      refine sx_bipush (v := (70 : Int32)) dX7_lives_36 (by decide) ?_
      refine sx_iload_n (i := 1) (j := 1) dX7_lives_38 rfl rfl ?_
      refine sx_iadd dX7_lives_39 ?_
      obtain ⟨c7, h⟩ := gd_e h
      refine sx_iald dX7_lives_40 (X7_a17 h0) c7 ?_
      obtain rfl := Option.some.inj h
      exact sx_iret dX7_lives_41 rfl rfl k3.1 k3.2
set_option maxRecDepth 100000 in
set_option maxHeartbeats 4000000 in
theorem mX7_stand {l : Launch} {E : Ev} {L : HL} {a0 : Nat} {v1 : Int32} {z : Int32 × HL} (h0 : isX7 E a0) (h : fX7_stand a0 v1 L = some z) : Mt l E yX7_stand cX7_stand 2 (some .int) (8) [.ref a0, .int v1] L (some (.int z.1)) (z.2) := by
  obtain ⟨r, hr⟩ : ∃ r : Option Value, r = some (.int z.1) := ⟨_, rfl⟩
  obtain ⟨L', hL'⟩ : ∃ L' : HL, L' = z.2 := ⟨_, rfl⟩
  have k3 : r = some (.int z.1) ∧ L' = z.2 := ⟨hr, hL'⟩
  refine mt_eq hr hL' ?_
  refine Mt.of (plainFor_of_name (by decide)) (Nat.le_of_ble_eq_true rfl) ?_
  refine sx_sub (lv' := [(0, .ref a0), (1, .int v1)]) [0, 1] rfl ?_
  unfold fX7_stand at h
  refine sx_iload_n (i := 1) (j := 1) dX7_stand_0 rfl rfl ?_
  refine sx_i2l dX7_stand_1 ?_
  refine sx_lconst (v := (0 : Int64)) dX7_stand_2 (by decide) ?_
  refine sx_ldc2 (v := (60 : Int64)) dX7_stand_3 wd_1264 ?_
  obtain ⟨z1, ez1, h⟩ := bd_e h
  refine sx_callS (avs := [.long v1.toInt64, .long (0 : Int64), .long (60 : Int64)]) (rest := []) (st1 := [.int z1]) dX7_stand_6 (mX7_in ez1) ctX7_in (Or.inl wd_1031) rfl rfl (rm_m rfl) rfl (Nat.le_of_ble_eq_true rfl) rfl ?_
  refine sx_if_ne (tgt := 19) dX7_stand_9 rfl (fun c2 => ?_) (fun c2 => ?_)
  · have h := if_e c2 h
    refine sx_aload_n (i := 0) (j := 0) dX7_stand_12 rfl rfl ?_
    refine sx_bipush (v := (-2 : Int32)) dX7_stand_13 (by decide) ?_
    obtain ⟨z3, ez3, h⟩ := bd_e h
    refine sx_callV (avs := [.int (-2 : Int32)]) (rest := []) (st1 := [.int z3.1]) dX7_stand_15 (mX7_bad h0 ez3) ciX7_bad (Or.inl wd_1094) (X7_k h0) rfl rfl rfl rfl (rm_m rfl) rfl (Nat.le_of_ble_eq_true rfl) rfl ?_
    obtain rfl := Option.some.inj h
    exact sx_iret dX7_stand_18 rfl rfl k3.1 k3.2
  · have h := if_n c2 h
    refine sx_aload_n (i := 0) (j := 0) dX7_stand_19 rfl rfl ?_
    refine sx_iload_n (i := 1) (j := 1) dX7_stand_20 rfl rfl ?_
    obtain ⟨z4, ez4, h⟩ := bd_e h
    refine sx_callV (avs := [.int v1]) (rest := []) (st1 := []) dX7_stand_21 (mX7_goYears h0 ez4) ciX7_goYears (Or.inl wd_1265) (X7_k h0) rfl rfl rfl rfl (rm_m rfl) rfl (Nat.le_of_ble_eq_true rfl) rfl ?_
    refine sx_aload_n (i := 0) (j := 0) dX7_stand_24 rfl rfl ?_
    refine sx_get (k := 17) (v := .ref (a0 + 9)) dX7_stand_25 (X7_k h0) cf_7 (Or.inl wd_973) (by decide : 17 < 20) (congrArg Value.ref (X7_r17 h0)) ?_
    obtain ⟨z5, ez5, h⟩ := bd_e h
    refine sx_callS (avs := [.ref (a0 + 9)]) (rest := []) (st1 := [.int z5]) dX7_stand_28 (mX7_standing (X7_a17 h0) ez5) ctX7_standing (Or.inl wd_1197) rfl rfl (rm_m rfl) rfl (Nat.le_of_ble_eq_true rfl) rfl ?_
    obtain rfl := Option.some.inj h
    exact sx_iret dX7_stand_31 rfl rfl k3.1 k3.2
set_option maxRecDepth 100000 in
set_option maxHeartbeats 4000000 in
theorem tX7_overfull_b28 {l : Launch} {E : Ev} {r : Option Value} {L' L : HL} {a0 : Nat} {v1 : Int32} {v2 : Int32} {v3 : Int32} {z : Tn (Int32) (Int32 × HL)} (h0 : isX7 E a0) (h : fX7_overfull_b28 a0 v1 v2 v3 L = some z) (k1 : ∀ s, z = .inl s → Sx l E yX7_overfull cX7_overfull 4 (some .int) (7) r L' 28 [(0, .ref a0), (1, .int v1), (2, .int v2), (3, .int s)] [] L) (k2 : ∀ s, z = .inr (.inl s) → Sx l E yX7_overfull cX7_overfull 4 (some .int) (7) r L' 78 [(0, .ref a0), (1, .int v1), (2, .int v2)] [] L) (k3 : ∀ v, z = .inr (.inr v) → r = some (.int v.1) ∧ L' = v.2) : Sx l E yX7_overfull cX7_overfull 4 (some .int) (7) r L' 28 [(0, .ref a0), (1, .int v1), (2, .int v2), (3, .int v3)] [] L := by
  unfold fX7_overfull_b28 at h
  refine sx_iload_n (i := 3) (j := 3) dX7_overfull_28 rfl rfl ?_
  refine sx_aload_n (i := 0) (j := 0) dX7_overfull_29 rfl rfl ?_
  refine sx_get (k := 17) (v := .ref (a0 + 9)) dX7_overfull_30 (X7_k h0) cf_7 (Or.inl wd_973) (by decide : 17 < 20) (congrArg Value.ref (X7_r17 h0)) ?_
  refine sx_iconst (v := (0 : Int32)) dX7_overfull_33 (by decide) ?_
  refine sx_iald dX7_overfull_34 (X7_a17 h0) (show vin (0 : Int32) 92 from by decide) ?_
  refine sx_icmp_ge (tgt := 78) dX7_overfull_35 rfl (fun c6 => ?_) (fun c6 => ?_)
  · have h := if_e c6 h
    obtain rfl := Option.some.inj h
    exact sx_sub [0, 1, 2] rfl (k2 _ rfl)
  · have h := if_n c6 h
    refine sx_aload_n (i := 0) (j := 0) dX7_overfull_38 rfl rfl ?_
    refine sx_get (k := 17) (v := .ref (a0 + 9)) dX7_overfull_39 (X7_k h0) cf_7 (Or.inl wd_973) (by decide : 17 < 20) (congrArg Value.ref (X7_r17 h0)) ?_
    refine sx_bipush (v := (29 : Int32)) dX7_overfull_42 (by decide) ?_
    refine sx_iload_n (i := 3) (j := 3) dX7_overfull_44 rfl rfl ?_
    refine sx_iadd dX7_overfull_45 ?_
    obtain ⟨c7, h⟩ := gd_e h
    refine sx_iald dX7_overfull_46 (X7_a17 h0) c7 ?_
    refine sx_iconst (v := (1 : Int32)) dX7_overfull_47 (by decide) ?_
    refine sx_icmp_ne (tgt := 72) dX7_overfull_48 rfl (fun c8 => ?_) (fun c8 => ?_)
    · have h := if_e c8 h
      refine sx_aload_n (i := 0) (j := 0) dX7_overfull_51 rfl rfl ?_
      refine sx_get (k := 17) (v := .ref (a0 + 9)) dX7_overfull_52 (X7_k h0) cf_7 (Or.inl wd_973) (by decide : 17 < 20) (congrArg Value.ref (X7_r17 h0)) ?_
      refine sx_iload_n (i := 3) (j := 3) dX7_overfull_55 rfl rfl ?_
      obtain ⟨z9, ez9, h⟩ := bd_e h
      refine sx_callS (avs := [.ref (a0 + 9), .int v3]) (rest := []) (st1 := [.int z9]) dX7_overfull_56 (mX7_isOverfull (X7_a17 h0) ez9) ctX7_isOverfull (Or.inl wd_1194) rfl rfl (rm_m rfl) rfl (Nat.le_of_ble_eq_true rfl) rfl ?_
      refine sx_if_eq (tgt := 72) dX7_overfull_59 rfl (fun c10 => ?_) (fun c10 => ?_)
      · have h := if_e c10 h
        obtain ⟨w11, ew11⟩ : ∃ w : Int32, w = v3 + (1 : Int32) := ⟨_, rfl⟩
        have h := lt_e ew11 h
        refine sx_iinc (j := 3) (v := w11) (lv' := [(0, .ref a0), (1, .int v1), (2, .int v2), (3, .int w11)]) dX7_overfull_72 rfl (ii_1 ew11) (by decide) rfl ?_
        refine sx_goto (tgt := 28) dX7_overfull_75 rfl ?_
        obtain rfl := Option.some.inj h
        exact sx_sub [0, 1, 2, 3] rfl (k1 _ rfl)
      · have h := if_n c10 h
        refine sx_iload_n (i := 1) (j := 1) dX7_overfull_62 rfl rfl ?_
        refine sx_if_ne (tgt := 70) dX7_overfull_63 rfl (fun c12 => ?_) (fun c12 => ?_)
        · have h := if_e c12 h
          refine sx_iload_n (i := 2) (j := 2) dX7_overfull_66 rfl rfl ?_
          refine sx_goto (tgt := 71) dX7_overfull_67 rfl ?_
          obtain rfl := Option.some.inj h
          exact sx_iret dX7_overfull_71 rfl rfl (k3 _ rfl).1 (k3 _ rfl).2
        · have h := if_n c12 h
          refine sx_iload_n (i := 3) (j := 3) dX7_overfull_70 rfl rfl ?_
          obtain rfl := Option.some.inj h
          exact sx_iret dX7_overfull_71 rfl rfl (k3 _ rfl).1 (k3 _ rfl).2
    · have h := if_n c8 h
      obtain ⟨w13, ew13⟩ : ∃ w : Int32, w = v3 + (1 : Int32) := ⟨_, rfl⟩
      have h := lt_e ew13 h
      refine sx_iinc (j := 3) (v := w13) (lv' := [(0, .ref a0), (1, .int v1), (2, .int v2), (3, .int w13)]) dX7_overfull_72 rfl (ii_1 ew13) (by decide) rfl ?_
      refine sx_goto (tgt := 28) dX7_overfull_75 rfl ?_
      obtain rfl := Option.some.inj h
      exact sx_sub [0, 1, 2, 3] rfl (k1 _ rfl)
set_option maxRecDepth 100000 in
set_option maxHeartbeats 4000000 in
theorem tX7_overfull_b20 {l : Launch} {E : Ev} {r : Option Value} {L' L : HL} {a0 : Nat} {v1 : Int32} {v2 : Int32} {z : Tn (Int32 × HL) (Int32 × HL)} (h0 : isX7 E a0) (h : fX7_overfull_b20 a0 v1 v2 L = some z) (k1 : ∀ s, z = .inl s → Sx l E yX7_overfull cX7_overfull 4 (some .int) (7) r L' 20 [(0, .ref a0), (1, .int v1), (2, .int s.1)] [] s.2) (k2 : ∀ s, z = .inr (.inl s) → Sx l E yX7_overfull cX7_overfull 4 (some .int) (7) r L' 92 [] [] s.2) (k3 : ∀ v, z = .inr (.inr v) → r = some (.int v.1) ∧ L' = v.2) : Sx l E yX7_overfull cX7_overfull 4 (some .int) (7) r L' 20 [(0, .ref a0), (1, .int v1), (2, .int v2)] [] L := by
  unfold fX7_overfull_b20 at h
  refine sx_iload_n (i := 2) (j := 2) dX7_overfull_20 rfl rfl ?_
  refine sx_bipush (v := (60 : Int32)) dX7_overfull_21 (by decide) ?_
  refine sx_icmp_gt (tgt := 92) dX7_overfull_23 rfl (fun c5 => ?_) (fun c5 => ?_)
  · have h := if_e c5 h
    obtain rfl := Option.some.inj h
    exact sx_sub [] rfl (k2 _ rfl)
  · have h := if_n c5 h
    refine sx_iconst (v := (0 : Int32)) dX7_overfull_26 (by decide) ?_
    refine sx_istore_n (i := 3) (lv' := [(0, .ref a0), (1, .int v1), (2, .int v2), (3, .int (0 : Int32))]) dX7_overfull_27 rfl (by decide) rfl ?_
    obtain ⟨x17, hx, q1, q2⟩ := lx_e h
    refine sx_sub (lv' := [(0, .ref a0), (1, .int v1), (2, .int v2), (3, .int (0 : Int32))]) [0, 1, 2, 3] rfl ?_
    refine lp_go (fun s14 => Sx l E yX7_overfull cX7_overfull 4 (some .int) (7) r L' 28 [(0, .ref a0), (1, .int v1), (2, .int v2), (3, .int s14)] [] L) x17 (fun s14 z2 hz c1 c2 => ?_) FU _ hx
    refine tX7_overfull_b28 h0 hz (fun s2 e => c1 s2 e) (fun s14 e => ?_) (fun v e => ?_)
    · have h := q1 _ (c2 _ e).symm
      refine sx_aload_n (i := 0) (j := 0) dX7_overfull_78 rfl rfl ?_
      refine sx_aload_n (i := 0) (j := 0) dX7_overfull_79 rfl rfl ?_
      refine sx_get (k := 17) (v := .ref (a0 + 9)) dX7_overfull_80 (X7_k h0) cf_7 (Or.inl wd_973) (by decide : 17 < 20) (congrArg Value.ref (X7_r17 h0)) ?_
      obtain ⟨z15, ez15, h⟩ := bd_e h
      refine sx_callV (avs := [.ref (a0 + 9)]) (rest := []) (st1 := []) dX7_overfull_83 (mX7_yearGoes h0 (X7_a17 h0) ez15) ciX7_yearGoes (Or.inl wd_1190) (X7_k h0) rfl rfl rfl rfl (rm_m rfl) rfl (Nat.le_of_ble_eq_true rfl) rfl ?_
      obtain ⟨w16, ew16⟩ : ∃ w : Int32, w = v2 + (1 : Int32) := ⟨_, rfl⟩
      have h := lt_e ew16 h
      refine sx_iinc (j := 2) (v := w16) (lv' := [(0, .ref a0), (1, .int v1), (2, .int w16)]) dX7_overfull_86 rfl (ii_1 ew16) (by decide) rfl ?_
      refine sx_goto (tgt := 20) dX7_overfull_89 rfl ?_
      obtain rfl := Option.some.inj h
      exact sx_sub [0, 1, 2] rfl (k1 _ rfl)
    · exact k3 _ (Option.some.inj (q2 _ (c2 _ e).symm)).symm
set_option maxRecDepth 100000 in
set_option maxHeartbeats 4000000 in
theorem mX7_overfull {l : Launch} {E : Ev} {L : HL} {a0 : Nat} {v1 : Int32} {z : Int32 × HL} (h0 : isX7 E a0) (h : fX7_overfull a0 v1 L = some z) : Mt l E yX7_overfull cX7_overfull 4 (some .int) (7) [.ref a0, .int v1] L (some (.int z.1)) (z.2) := by
  obtain ⟨r, hr⟩ : ∃ r : Option Value, r = some (.int z.1) := ⟨_, rfl⟩
  obtain ⟨L', hL'⟩ : ∃ L' : HL, L' = z.2 := ⟨_, rfl⟩
  have k3 : r = some (.int z.1) ∧ L' = z.2 := ⟨hr, hL'⟩
  refine mt_eq hr hL' ?_
  refine Mt.of (plainFor_of_name (by decide)) (Nat.le_of_ble_eq_true rfl) ?_
  refine sx_sub (lv' := [(0, .ref a0), (1, .int v1)]) [0, 1] rfl ?_
  unfold fX7_overfull at h
  refine sx_iload_n (i := 1) (j := 1) dX7_overfull_0 rfl rfl ?_
  obtain ⟨z1, ez1, h⟩ := bd_e h
  refine sx_callS (avs := [.int v1]) (rest := []) (st1 := [.int z1]) dX7_overfull_1 (mX7_isTwo ez1) ctX7_isTwo (Or.inl wd_1221) rfl rfl (rm_m rfl) rfl (Nat.le_of_ble_eq_true rfl) rfl ?_
  refine sx_if_ne (tgt := 14) dX7_overfull_4 rfl (fun c2 => ?_) (fun c2 => ?_)
  · have h := if_e c2 h
    refine sx_aload_n (i := 0) (j := 0) dX7_overfull_7 rfl rfl ?_
    refine sx_bipush (v := (-10 : Int32)) dX7_overfull_8 (by decide) ?_
    obtain ⟨z3, ez3, h⟩ := bd_e h
    refine sx_callV (avs := [.int (-10 : Int32)]) (rest := []) (st1 := [.int z3.1]) dX7_overfull_10 (mX7_bad h0 ez3) ciX7_bad (Or.inl wd_1094) (X7_k h0) rfl rfl rfl rfl (rm_m rfl) rfl (Nat.le_of_ble_eq_true rfl) rfl ?_
    obtain rfl := Option.some.inj h
    exact sx_iret dX7_overfull_13 rfl rfl k3.1 k3.2
  · have h := if_n c2 h
    refine sx_aload_n (i := 0) (j := 0) dX7_overfull_14 rfl rfl ?_
    obtain ⟨z4, ez4, h⟩ := bd_e h
    refine sx_callV (avs := []) (rest := []) (st1 := []) dX7_overfull_15 (mX7_layDay h0 ez4) ciX7_layDay (Or.inl wd_1252) (X7_k h0) rfl rfl rfl rfl (rm_m rfl) rfl (Nat.le_of_ble_eq_true rfl) rfl ?_
    refine sx_iconst (v := (0 : Int32)) dX7_overfull_18 (by decide) ?_
    refine sx_istore_n (i := 2) (lv' := [(0, .ref a0), (1, .int v1), (2, .int (0 : Int32))]) dX7_overfull_19 rfl (by decide) rfl ?_
    obtain ⟨x19, hx, q1, q2⟩ := lx_e h
    refine sx_sub (lv' := [(0, .ref a0), (1, .int v1), (2, .int (0 : Int32))]) [0, 1, 2] rfl ?_
    refine lp_go (fun s18 => Sx l E yX7_overfull cX7_overfull 4 (some .int) (7) r L' 20 [(0, .ref a0), (1, .int v1), (2, .int s18.1)] [] s18.2) x19 (fun s18 z2 hz c1 c2 => ?_) FU _ hx
    refine tX7_overfull_b20 h0 hz (fun s2 e => c1 s2 e) (fun s18 e => ?_) (fun v e => ?_)
    · have h := q1 _ (c2 _ e).symm
      refine sx_iconst (v := (-1 : Int32)) dX7_overfull_92 (by decide) ?_
      obtain rfl := Option.some.inj h
      exact sx_iret dX7_overfull_93 rfl rfl k3.1 k3.2
    · have e2 := Option.some.inj (q2 _ (c2 _ e).symm)
      subst e2
      exact k3
set_option maxRecDepth 100000 in
set_option maxHeartbeats 4000000 in
theorem tX7_layOrder_b11 {l : Launch} {E : Ev} {r : Option Value} {L' L : HL} {a0 : Nat} {v3 : Int32} {v4 : Int32} {v5 : Int32} {v6 : Int32} {z : Tn (Int32 × Int32 × Int32 × HL) (Int32 × HL)} (h0 : isX7 E a0) (h : fX7_layOrder_b11 a0 v3 v4 v5 v6 L = some z) (k1 : ∀ s, z = .inl s → Sx l E yX7_layOrder cX7_layOrder 7 (some .boolean) (1) r L' 11 [(0, .ref a0), (3, .int v3), (4, .int s.1), (5, .int s.2.1), (6, .int s.2.2.1)] [] s.2.2.2) (k2 : ∀ s, z = .inr (.inl s) → Sx l E yX7_layOrder cX7_layOrder 7 (some .boolean) (1) r L' 53 [(3, .int v3), (5, .int s.2.1)] [] s.2.2.2) (k3 : ∀ v, z = .inr (.inr v) → r = some (.int v.1) ∧ L' = v.2) : Sx l E yX7_layOrder cX7_layOrder 7 (some .boolean) (1) r L' 11 [(0, .ref a0), (3, .int v3), (4, .int v4), (5, .int v5), (6, .int v6)] [] L := by
  unfold fX7_layOrder_b11 at h
  refine sx_iload (j := 4) dX7_layOrder_11 rfl ?_
  refine sx_if_lt (tgt := 53) dX7_layOrder_13 rfl (fun c2 => ?_) (fun c2 => ?_)
  · have h := if_e c2 h
    obtain rfl := Option.some.inj h
    exact sx_sub [1, 3] rfl (k2 _ rfl)
  · have h := if_n c2 h
    refine sx_aload_n (i := 0) (j := 0) dX7_layOrder_16 rfl rfl ?_
    refine sx_get (k := 18) (v := .ref (a0 + 10)) dX7_layOrder_17 (X7_k h0) cf_7 (Or.inl wd_974) (by decide : 18 < 20) (congrArg Value.ref (X7_r18 h0)) ?_
    refine sx_iload (j := 4) dX7_layOrder_20 rfl ?_
    refine sx_iload (j := 2) dX7_layOrder_22 rfl ?_
    refine sx_iconst (v := (5 : Int32)) dX7_layOrder_24 (by decide) ?_
    refine sx_irem dX7_layOrder_25 (by decide) ?_
    obtain ⟨c3, h⟩ := gd_e h
    refine sx_iast dX7_layOrder_26 (X7_a18 h0) c3 (fun L4 eL4 => ?_)
    have h := lt_e eL4 h
    refine sx_iload (j := 2) dX7_layOrder_27 rfl ?_
    refine sx_iconst (v := (5 : Int32)) dX7_layOrder_29 (by decide) ?_
    refine sx_idiv dX7_layOrder_30 (by decide) ?_
    refine sx_topi (fun w5 ew5 => ?_)
    have h := lt_e ew5 h
    refine sx_istore (lv' := [(0, .ref a0), (3, .int v3), (4, .int w5), (5, .int v5), (6, .int v6)]) dX7_layOrder_31 (by decide) rfl ?_
    refine sx_iload (j := 3) dX7_layOrder_33 rfl ?_
    refine sx_iconst (v := (1 : Int32)) dX7_layOrder_35 (by decide) ?_
    refine sx_aload_n (i := 0) (j := 0) dX7_layOrder_36 rfl rfl ?_
    refine sx_get (k := 18) (v := .ref (a0 + 10)) dX7_layOrder_37 (X7_k h0) cf_7 (Or.inl wd_974) (by decide : 18 < 20) (congrArg Value.ref (X7_r18 h0)) ?_
    refine sx_iload (j := 4) dX7_layOrder_40 rfl ?_
    obtain ⟨c6, h⟩ := gd_e h
    refine sx_iald dX7_layOrder_42 (X7_a18 h0) c6 ?_
    refine sx_ishl dX7_layOrder_43 ?_
    refine sx_ior dX7_layOrder_44 ?_
    refine sx_topi (fun w7 ew7 => ?_)
    have h := lt_e ew7 h
    refine sx_istore (lv' := [(0, .ref a0), (3, .int v3), (4, .int w5), (5, .int w7), (6, .int v6)]) dX7_layOrder_45 (by decide) rfl ?_
    obtain ⟨w8, ew8⟩ : ∃ w : Int32, w = v6 + (-1 : Int32) := ⟨_, rfl⟩
    have h := lt_e ew8 h
    refine sx_iinc (j := 4) (v := w8) (lv' := [(0, .ref a0), (3, .int v3), (4, .int w5), (5, .int w7), (6, .int w8)]) dX7_layOrder_47 rfl (ii_m1 ew8) (by decide) rfl ?_
    refine sx_goto (tgt := 11) dX7_layOrder_50 rfl ?_
    obtain rfl := Option.some.inj h
    exact sx_sub [0, 1, 2, 3, 4] rfl (k1 _ rfl)
set_option maxRecDepth 100000 in
set_option maxHeartbeats 4000000 in
theorem mX7_layOrder {l : Launch} {E : Ev} {L : HL} {a0 : Nat} {v1 : Int32} {v2 : Int32} {v3 : Int32} {z : Int32 × HL} (h0 : isX7 E a0) (h : fX7_layOrder a0 v1 v2 v3 L = some z) : Mt l E yX7_layOrder cX7_layOrder 7 (some .boolean) (1) [.ref a0, .int v1, .int v2, .int v3] L (some (.int z.1)) (z.2) := by
  obtain ⟨r, hr⟩ : ∃ r : Option Value, r = some (.int z.1) := ⟨_, rfl⟩
  obtain ⟨L', hL'⟩ : ∃ L' : HL, L' = z.2 := ⟨_, rfl⟩
  have k3 : r = some (.int z.1) ∧ L' = z.2 := ⟨hr, hL'⟩
  refine mt_eq hr hL' ?_
  refine Mt.of (plainFor_of_name (by decide)) (Nat.le_of_ble_eq_true rfl) ?_
  refine sx_sub (lv' := [(0, .ref a0), (1, .int v1), (2, .int v2), (3, .int v3)]) [0, 1, 2, 3] rfl ?_
  unfold fX7_layOrder at h
  refine sx_iload_n (i := 1) (j := 1) dX7_layOrder_0 rfl rfl ?_
  refine sx_istore (lv' := [(0, .ref a0), (1, .int v1), (2, .int v2), (3, .int v3), (4, .int v1)]) dX7_layOrder_1 (by decide) rfl ?_
  refine sx_iconst (v := (0 : Int32)) dX7_layOrder_3 (by decide) ?_
  refine sx_istore (lv' := [(0, .ref a0), (1, .int v1), (2, .int v2), (3, .int v3), (4, .int v1), (5, .int (0 : Int32))]) dX7_layOrder_4 (by decide) rfl ?_
  refine sx_iload_n (i := 2) (j := 2) dX7_layOrder_6 rfl rfl ?_
  refine sx_iconst (v := (1 : Int32)) dX7_layOrder_7 (by decide) ?_
  refine sx_isub dX7_layOrder_8 ?_
  refine sx_topi (fun w1 ew1 => ?_)
  have h := lt_e ew1 h
  refine sx_istore (lv' := [(0, .ref a0), (1, .int v1), (2, .int v2), (3, .int v3), (4, .int v1), (5, .int (0 : Int32)), (6, .int w1)]) dX7_layOrder_9 (by decide) rfl ?_
  obtain ⟨x11, hx, q1, q2⟩ := lx_e h
  refine sx_sub (lv' := [(0, .ref a0), (3, .int v3), (4, .int v1), (5, .int (0 : Int32)), (6, .int w1)]) [0, 3, 4, 5, 6] rfl ?_
  refine lp_go (fun s9 => Sx l E yX7_layOrder cX7_layOrder 7 (some .boolean) (1) r L' 11 [(0, .ref a0), (3, .int v3), (4, .int s9.1), (5, .int s9.2.1), (6, .int s9.2.2.1)] [] s9.2.2.2) x11 (fun s9 z2 hz c1 c2 => ?_) FU _ hx
  refine tX7_layOrder_b11 h0 hz (fun s2 e => c1 s2 e) (fun s9 e => ?_) (fun v e => ?_)
  · have h := q1 _ (c2 _ e).symm
    refine sx_iload (j := 1) dX7_layOrder_53 rfl ?_
    refine sx_iload_n (i := 3) (j := 0) dX7_layOrder_55 rfl rfl ?_
    refine sx_icmp_ne (tgt := 63) dX7_layOrder_56 rfl (fun c10 => ?_) (fun c10 => ?_)
    · have h := if_e c10 h
      refine sx_iconst (v := (1 : Int32)) dX7_layOrder_59 (by decide) ?_
      refine sx_goto (tgt := 64) dX7_layOrder_60 rfl ?_
      obtain rfl := Option.some.inj h
      exact sx_iret dX7_layOrder_64 rfl (by decide) k3.1 k3.2
    · have h := if_n c10 h
      refine sx_iconst (v := (0 : Int32)) dX7_layOrder_63 (by decide) ?_
      obtain rfl := Option.some.inj h
      exact sx_iret dX7_layOrder_64 rfl (by decide) k3.1 k3.2
  · have e2 := Option.some.inj (q2 _ (c2 _ e).symm)
    subst e2
    exact k3
set_option maxRecDepth 100000 in
set_option maxHeartbeats 4000000 in
theorem tX7_codes_b4 {l : Launch} {E : Ev} {r : Option Value} {L' L : HL} {v0 : Int32} {v1 : Int32} {v2 : Int32} {z : Tn (Int32 × Int32) (Int32)} (h : fX7_codes_b4 v0 v1 v2 = some z) (k1 : ∀ s, z = .inl s → Sx l E yX7_codes cX7_codes 3 (some .int) (1) r L' 4 [(0, .int v0), (1, .int s.1), (2, .int s.2)] [] L) (k2 : ∀ s, z = .inr (.inl s) → Sx l E yX7_codes cX7_codes 3 (some .int) (1) r L' 19 [(1, .int s.1)] [] L) (k3 : ∀ v, z = .inr (.inr v) → r = some (.int v) ∧ L' = L) : Sx l E yX7_codes cX7_codes 3 (some .int) (1) r L' 4 [(0, .int v0), (1, .int v1), (2, .int v2)] [] L := by
  unfold fX7_codes_b4 at h
  refine sx_iload_n (i := 2) (j := 2) dX7_codes_4 rfl rfl ?_
  refine sx_iload_n (i := 0) (j := 0) dX7_codes_5 rfl rfl ?_
  refine sx_icmp_ge (tgt := 19) dX7_codes_6 rfl (fun c1 => ?_) (fun c1 => ?_)
  · have h := if_e c1 h
    obtain rfl := Option.some.inj h
    exact sx_sub [1] rfl (k2 _ rfl)
  · have h := if_n c1 h
    refine sx_iload_n (i := 1) (j := 1) dX7_codes_9 rfl rfl ?_
    refine sx_iconst (v := (5 : Int32)) dX7_codes_10 (by decide) ?_
    refine sx_imul dX7_codes_11 ?_
    refine sx_topi (fun w2 ew2 => ?_)
    have h := lt_e ew2 h
    refine sx_istore_n (i := 1) (lv' := [(0, .int v0), (1, .int w2), (2, .int v2)]) dX7_codes_12 rfl (by decide) rfl ?_
    obtain ⟨w3, ew3⟩ : ∃ w : Int32, w = v2 + (1 : Int32) := ⟨_, rfl⟩
    have h := lt_e ew3 h
    refine sx_iinc (j := 2) (v := w3) (lv' := [(0, .int v0), (1, .int w2), (2, .int w3)]) dX7_codes_13 rfl (ii_1 ew3) (by decide) rfl ?_
    refine sx_goto (tgt := 4) dX7_codes_16 rfl ?_
    obtain rfl := Option.some.inj h
    exact sx_sub [0, 1, 2] rfl (k1 _ rfl)
set_option maxRecDepth 100000 in
set_option maxHeartbeats 4000000 in
theorem mX7_codes {l : Launch} {E : Ev} {L : HL} {v0 : Int32} {z : Int32} (h : fX7_codes v0 = some z) : Mt l E yX7_codes cX7_codes 3 (some .int) (1) [.int v0] L (some (.int z)) L := by
  obtain ⟨r, hr⟩ : ∃ r : Option Value, r = some (.int z) := ⟨_, rfl⟩
  obtain ⟨L', hL'⟩ : ∃ L' : HL, L' = L := ⟨_, rfl⟩
  have k3 : r = some (.int z) ∧ L' = L := ⟨hr, hL'⟩
  refine mt_eq hr hL' ?_
  refine Mt.of (plainFor_of_name (by decide)) (Nat.le_of_ble_eq_true rfl) ?_
  refine sx_sub (lv' := [(0, .int v0)]) [0] rfl ?_
  unfold fX7_codes at h
  refine sx_iconst (v := (1 : Int32)) dX7_codes_0 (by decide) ?_
  refine sx_istore_n (i := 1) (lv' := [(0, .int v0), (1, .int (1 : Int32))]) dX7_codes_1 rfl (by decide) rfl ?_
  refine sx_iconst (v := (0 : Int32)) dX7_codes_2 (by decide) ?_
  refine sx_istore_n (i := 2) (lv' := [(0, .int v0), (1, .int (1 : Int32)), (2, .int (0 : Int32))]) dX7_codes_3 rfl (by decide) rfl ?_
  obtain ⟨x5, hx, q1, q2⟩ := lx_e h
  refine sx_sub (lv' := [(0, .int v0), (1, .int (1 : Int32)), (2, .int (0 : Int32))]) [0, 1, 2] rfl ?_
  refine lp_go (fun s4 => Sx l E yX7_codes cX7_codes 3 (some .int) (1) r L' 4 [(0, .int v0), (1, .int s4.1), (2, .int s4.2)] [] L) x5 (fun s4 z2 hz c1 c2 => ?_) FU _ hx
  refine tX7_codes_b4 hz (fun s2 e => c1 s2 e) (fun s4 e => ?_) (fun v e => ?_)
  · have h := q1 _ (c2 _ e).symm
    refine sx_iload_n (i := 1) (j := 0) dX7_codes_19 rfl rfl ?_
    obtain rfl := Option.some.inj h
    exact sx_iret dX7_codes_20 rfl rfl k3.1 k3.2
  · have e2 := Option.some.inj (q2 _ (c2 _ e).symm)
    subst e2
    exact k3
set_option maxRecDepth 100000 in
set_option maxHeartbeats 4000000 in
theorem tX7_layFalls_j41 {l : Launch} {E : Ev} {r : Option Value} {L' L : HL} {a0 : Nat} {v1 : Int32} {v2 : Int32} {v3 : Int32} {s1 : Int32} {s2 : Int32} {z : Tn (Int32 × HL) (HL)} (h0 : isX7 E a0) (h : fX7_layFalls_j41 a0 v1 v2 v3 s1 s2 L = some z) (k1 : ∀ s, z = .inl s → Sx l E yX7_layFalls cX7_layFalls 4 (none) (6) r L' 6 [(0, .ref a0), (1, .int v1), (2, .int v2), (3, .int s.1)] [] s.2) (k2 : ∀ s, z = .inr (.inl s) → Sx l E yX7_layFalls cX7_layFalls 4 (none) (6) r L' 48 [(0, .ref a0), (1, .int v1)] [] s.2) (k3 : ∀ v, z = .inr (.inr v) → r = none ∧ L' = v) : Sx l E yX7_layFalls cX7_layFalls 4 (none) (6) r L' 41 [(0, .ref a0), (1, .int v1), (2, .int v2), (3, .int v3)] [.int s2, .int s1, .ref (a0 + 9)] L := by
  unfold fX7_layFalls_j41 at h
  obtain ⟨c4, h⟩ := gd_e h
  refine sx_iast dX7_layFalls_41 (X7_a17 h0) c4 (fun L5 eL5 => ?_)
  have h := lt_e eL5 h
  obtain ⟨w6, ew6⟩ : ∃ w : Int32, w = v3 + (1 : Int32) := ⟨_, rfl⟩
  have h := lt_e ew6 h
  refine sx_iinc (j := 3) (v := w6) (lv' := [(0, .ref a0), (1, .int v1), (2, .int v2), (3, .int w6)]) dX7_layFalls_42 rfl (ii_1 ew6) (by decide) rfl ?_
  refine sx_goto (tgt := 6) dX7_layFalls_45 rfl ?_
  obtain rfl := Option.some.inj h
  exact sx_sub [0, 1, 2, 3] rfl (k1 _ rfl)
set_option maxRecDepth 100000 in
set_option maxHeartbeats 4000000 in
theorem tX7_layFalls_b6 {l : Launch} {E : Ev} {r : Option Value} {L' L : HL} {a0 : Nat} {v1 : Int32} {v2 : Int32} {v3 : Int32} {z : Tn (Int32 × HL) (HL)} (h0 : isX7 E a0) (h : fX7_layFalls_b6 a0 v1 v2 v3 L = some z) (k1 : ∀ s, z = .inl s → Sx l E yX7_layFalls cX7_layFalls 4 (none) (6) r L' 6 [(0, .ref a0), (1, .int v1), (2, .int v2), (3, .int s.1)] [] s.2) (k2 : ∀ s, z = .inr (.inl s) → Sx l E yX7_layFalls cX7_layFalls 4 (none) (6) r L' 48 [(0, .ref a0), (1, .int v1)] [] s.2) (k3 : ∀ v, z = .inr (.inr v) → r = none ∧ L' = v) : Sx l E yX7_layFalls cX7_layFalls 4 (none) (6) r L' 6 [(0, .ref a0), (1, .int v1), (2, .int v2), (3, .int v3)] [] L := by
  unfold fX7_layFalls_b6 at h
  refine sx_iload_n (i := 3) (j := 3) dX7_layFalls_6 rfl rfl ?_
  refine sx_aload_n (i := 0) (j := 0) dX7_layFalls_7 rfl rfl ?_
  refine sx_get (k := 17) (v := .ref (a0 + 9)) dX7_layFalls_8 (X7_k h0) cf_7 (Or.inl wd_973) (by decide : 17 < 20) (congrArg Value.ref (X7_r17 h0)) ?_
  refine sx_iconst (v := (0 : Int32)) dX7_layFalls_11 (by decide) ?_
  refine sx_iald dX7_layFalls_12 (X7_a17 h0) (show vin (0 : Int32) 92 from by decide) ?_
  refine sx_icmp_ge (tgt := 48) dX7_layFalls_13 rfl (fun c2 => ?_) (fun c2 => ?_)
  · have h := if_e c2 h
    obtain rfl := Option.some.inj h
    exact sx_sub [0, 1] rfl (k2 _ rfl)
  · have h := if_n c2 h
    refine sx_aload_n (i := 0) (j := 0) dX7_layFalls_16 rfl rfl ?_
    refine sx_get (k := 17) (v := .ref (a0 + 9)) dX7_layFalls_17 (X7_k h0) cf_7 (Or.inl wd_973) (by decide : 17 < 20) (congrArg Value.ref (X7_r17 h0)) ?_
    refine sx_bipush (v := (24 : Int32)) dX7_layFalls_20 (by decide) ?_
    refine sx_iload_n (i := 3) (j := 3) dX7_layFalls_22 rfl rfl ?_
    refine sx_iadd dX7_layFalls_23 ?_
    refine sx_iload_n (i := 2) (j := 2) dX7_layFalls_24 rfl rfl ?_
    refine sx_if_ge (tgt := 40) dX7_layFalls_25 rfl (fun c3 => ?_) (fun c3 => ?_)
    · have h := if_e c3 h
      refine sx_iload_n (i := 2) (j := 2) dX7_layFalls_40 rfl rfl ?_
      exact sx_sub [0, 1, 2, 3] rfl (tX7_layFalls_j41 h0 h k1 k2 k3)
    · have h := if_n c3 h
      refine sx_aload_n (i := 0) (j := 0) dX7_layFalls_28 rfl rfl ?_
      refine sx_get (k := 17) (v := .ref (a0 + 9)) dX7_layFalls_29 (X7_k h0) cf_7 (Or.inl wd_973) (by decide : 17 < 20) (congrArg Value.ref (X7_r17 h0)) ?_
      refine sx_bipush (v := (24 : Int32)) dX7_layFalls_32 (by decide) ?_
      refine sx_iload_n (i := 3) (j := 3) dX7_layFalls_34 rfl rfl ?_
      refine sx_iadd dX7_layFalls_35 ?_
      obtain ⟨c7, h⟩ := gd_e h
      refine sx_iald dX7_layFalls_36 (X7_a17 h0) c7 ?_
      refine sx_goto (tgt := 41) dX7_layFalls_37 rfl ?_
      exact sx_sub [0, 1, 2, 3] rfl (tX7_layFalls_j41 h0 h k1 k2 k3)
set_option maxRecDepth 100000 in
set_option maxHeartbeats 4000000 in
theorem tX7_layFalls_b50 {l : Launch} {E : Ev} {r : Option Value} {L' L : HL} {a0 : Nat} {v1 : Int32} {v3 : Int32} {z : Tn (Int32 × HL) (HL)} (h0 : isX7 E a0) (h : fX7_layFalls_b50 a0 v1 v3 L = some z) (k1 : ∀ s, z = .inl s → Sx l E yX7_layFalls cX7_layFalls 4 (none) (6) r L' 50 [(0, .ref a0), (1, .int v1), (3, .int s.1)] [] s.2) (k2 : ∀ s, z = .inr (.inl s) → Sx l E yX7_layFalls cX7_layFalls 4 (none) (6) r L' 76 [] [] s.2) (k3 : ∀ v, z = .inr (.inr v) → r = none ∧ L' = v) : Sx l E yX7_layFalls cX7_layFalls 4 (none) (6) r L' 50 [(0, .ref a0), (1, .int v1), (3, .int v3)] [] L := by
  unfold fX7_layFalls_b50 at h
  refine sx_iload_n (i := 3) (j := 2) dX7_layFalls_50 rfl rfl ?_
  refine sx_iload_n (i := 1) (j := 1) dX7_layFalls_51 rfl rfl ?_
  refine sx_icmp_ge (tgt := 76) dX7_layFalls_52 rfl (fun c9 => ?_) (fun c9 => ?_)
  · have h := if_e c9 h
    obtain rfl := Option.some.inj h
    exact sx_sub [] rfl (k2 _ rfl)
  · have h := if_n c9 h
    refine sx_aload_n (i := 0) (j := 0) dX7_layFalls_55 rfl rfl ?_
    refine sx_aload_n (i := 0) (j := 0) dX7_layFalls_56 rfl rfl ?_
    refine sx_get (k := 17) (v := .ref (a0 + 9)) dX7_layFalls_57 (X7_k h0) cf_7 (Or.inl wd_973) (by decide : 17 < 20) (congrArg Value.ref (X7_r17 h0)) ?_
    refine sx_aload_n (i := 0) (j := 0) dX7_layFalls_60 rfl rfl ?_
    refine sx_get (k := 18) (v := .ref (a0 + 10)) dX7_layFalls_61 (X7_k h0) cf_7 (Or.inl wd_974) (by decide : 18 < 20) (congrArg Value.ref (X7_r18 h0)) ?_
    refine sx_iload_n (i := 3) (j := 2) dX7_layFalls_64 rfl rfl ?_
    obtain ⟨c10, h⟩ := gd_e h
    refine sx_iald dX7_layFalls_65 (X7_a18 h0) c10 ?_
    obtain ⟨z11, ez11, h⟩ := bd_e h
    refine sx_callV (avs := [.ref (a0 + 9), .int (L.1 (a0 + 10) v3.toNatClampNeg)]) (rest := []) (st1 := [.int z11.1]) dX7_layFalls_66 (mX7_falls h0 (X7_a17 h0) ez11) ciX7_falls (Or.inl wd_1153) (X7_k h0) rfl rfl rfl rfl (rm_m rfl) rfl (Nat.le_of_ble_eq_true rfl) rfl ?_
    refine sx_pop dX7_layFalls_69 rfl ?_
    obtain ⟨w12, ew12⟩ : ∃ w : Int32, w = v3 + (1 : Int32) := ⟨_, rfl⟩
    have h := lt_e ew12 h
    refine sx_iinc (j := 2) (v := w12) (lv' := [(0, .ref a0), (1, .int v1), (3, .int w12)]) dX7_layFalls_70 rfl (ii_1 ew12) (by decide) rfl ?_
    refine sx_goto (tgt := 50) dX7_layFalls_73 rfl ?_
    obtain rfl := Option.some.inj h
    exact sx_sub [0, 1, 2] rfl (k1 _ rfl)
set_option maxRecDepth 100000 in
set_option maxHeartbeats 4000000 in
theorem mX7_layFalls {l : Launch} {E : Ev} {L : HL} {a0 : Nat} {v1 : Int32} {v2 : Int32} {z : HL} (h0 : isX7 E a0) (h : fX7_layFalls a0 v1 v2 L = some z) : Mt l E yX7_layFalls cX7_layFalls 4 (none) (6) [.ref a0, .int v1, .int v2] L (none) z := by
  obtain ⟨r, hr⟩ : ∃ r : Option Value, r = none := ⟨_, rfl⟩
  obtain ⟨L', hL'⟩ : ∃ L' : HL, L' = z := ⟨_, rfl⟩
  have k3 : r = none ∧ L' = z := ⟨hr, hL'⟩
  refine mt_eq hr hL' ?_
  refine Mt.of (plainFor_of_name (by decide)) (Nat.le_of_ble_eq_true rfl) ?_
  refine sx_sub (lv' := [(0, .ref a0), (1, .int v1), (2, .int v2)]) [0, 1, 2] rfl ?_
  unfold fX7_layFalls at h
  refine sx_aload_n (i := 0) (j := 0) dX7_layFalls_0 rfl rfl ?_
  obtain ⟨z1, ez1, h⟩ := bd_e h
  refine sx_callV (avs := []) (rest := []) (st1 := []) dX7_layFalls_1 (mX7_layDay h0 ez1) ciX7_layDay (Or.inl wd_1252) (X7_k h0) rfl rfl rfl rfl (rm_m rfl) rfl (Nat.le_of_ble_eq_true rfl) rfl ?_
  refine sx_iconst (v := (0 : Int32)) dX7_layFalls_4 (by decide) ?_
  refine sx_istore_n (i := 3) (lv' := [(0, .ref a0), (1, .int v1), (2, .int v2), (3, .int (0 : Int32))]) dX7_layFalls_5 rfl (by decide) rfl ?_
  obtain ⟨x15, hx, q1, q2⟩ := lx_e h
  refine sx_sub (lv' := [(0, .ref a0), (1, .int v1), (2, .int v2), (3, .int (0 : Int32))]) [0, 1, 2, 3] rfl ?_
  refine lp_go (fun s8 => Sx l E yX7_layFalls cX7_layFalls 4 (none) (6) r L' 6 [(0, .ref a0), (1, .int v1), (2, .int v2), (3, .int s8.1)] [] s8.2) x15 (fun s8 z2 hz c1 c2 => ?_) FU _ hx
  refine tX7_layFalls_b6 h0 hz (fun s2 e => c1 s2 e) (fun s8 e => ?_) (fun v e => ?_)
  · have h := q1 _ (c2 _ e).symm
    refine sx_iconst (v := (0 : Int32)) dX7_layFalls_48 (by decide) ?_
    refine sx_istore_n (i := 3) (lv' := [(0, .ref a0), (1, .int v1), (3, .int (0 : Int32))]) dX7_layFalls_49 rfl (by decide) rfl ?_
    obtain ⟨x14, hx, q1, q2⟩ := lx_e h
    refine sx_sub (lv' := [(0, .ref a0), (1, .int v1), (3, .int (0 : Int32))]) [0, 1, 2] rfl ?_
    refine lp_go (fun s13 => Sx l E yX7_layFalls cX7_layFalls 4 (none) (6) r L' 50 [(0, .ref a0), (1, .int v1), (3, .int s13.1)] [] s13.2) x14 (fun s13 z2 hz c1 c2 => ?_) FU _ hx
    refine tX7_layFalls_b50 h0 hz (fun s2 e => c1 s2 e) (fun s13 e => ?_) (fun v e => ?_)
    · have h := q1 _ (c2 _ e).symm
      obtain rfl := Option.some.inj h
      exact sx_vret dX7_layFalls_76 rfl k3.1 k3.2
    · have e2 := Option.some.inj (q2 _ (c2 _ e).symm)
      subst e2
      exact k3
  · have e2 := Option.some.inj (q2 _ (c2 _ e).symm)
    subst e2
    exact k3
set_option maxRecDepth 100000 in
set_option maxHeartbeats 4000000 in
theorem tX7_orders_j73 {l : Launch} {E : Ev} {r : Option Value} {L' L : HL} {a0 : Nat} {z : Int32 × HL} (h0 : isX7 E a0) (h : fX7_orders_j73 a0 L = some z) (k3 : r = some (.int z.1) ∧ L' = z.2) : Sx l E yX7_orders cX7_orders 11 (some .int) (7) r L' 73 [(0, .ref a0)] [] L := by
  unfold fX7_orders_j73 at h
  refine sx_aload_n (i := 0) (j := 0) dX7_orders_73 rfl rfl ?_
  refine sx_bipush (v := (-10 : Int32)) dX7_orders_74 (by decide) ?_
  obtain ⟨z4, ez4, h⟩ := bd_e h
  refine sx_callV (avs := [.int (-10 : Int32)]) (rest := []) (st1 := [.int z4.1]) dX7_orders_76 (mX7_bad h0 ez4) ciX7_bad (Or.inl wd_1094) (X7_k h0) rfl rfl rfl rfl (rm_m rfl) rfl (Nat.le_of_ble_eq_true rfl) rfl ?_
  obtain rfl := Option.some.inj h
  exact sx_iret dX7_orders_79 rfl rfl k3.1 k3.2
set_option maxRecDepth 100000 in
set_option maxHeartbeats 4000000 in
theorem tX7_orders_j157 {l : Launch} {E : Ev} {r : Option Value} {L' L : HL} {a0 : Nat} {v1 : Int32} {v2 : Int32} {v3 : Int32} {v4 : Int32} {v6 : Int32} {v7 : Int32} {v8 : Int32} {v9 : Int32} {v10 : Int32} {s0 : Int32} {s1 : Int32} {z : Tn (Int32 × Int32 × Int32 × HL) (Int32 × HL)} (h0 : isX7 E a0) (h : fX7_orders_j157 a0 v1 v2 v3 v4 v6 v7 v8 v9 v10 s0 s1 L = some z) (k1 : ∀ s, z = .inl s → Sx l E yX7_orders cX7_orders 11 (some .int) (7) r L' 101 [(0, .ref a0), (1, .int v1), (2, .int v2), (3, .int v3), (4, .int v4), (6, .int v6), (7, .int s.1), (8, .int s.2.1), (9, .int s.2.2.1)] [] s.2.2.2) (k2 : ∀ s, z = .inr (.inl s) → Sx l E yX7_orders cX7_orders 11 (some .int) (7) r L' 180 [(0, .ref a0), (1, .int v1), (4, .int v4), (6, .int v6), (7, .int s.1), (8, .int s.2.1)] [] s.2.2.2) (k3 : ∀ v, z = .inr (.inr v) → r = some (.int v.1) ∧ L' = v.2) : Sx l E yX7_orders cX7_orders 11 (some .int) (7) r L' 157 [(0, .ref a0), (1, .int v1), (2, .int v2), (3, .int v3), (4, .int v4), (6, .int v6), (8, .int v8), (9, .int v9), (10, .int v10)] [.int s1, .int s0] L := by
  unfold fX7_orders_j157 at h
  refine sx_iadd dX7_orders_157 ?_
  refine sx_topi (fun w20 ew20 => ?_)
  have h := lt_e ew20 h
  refine sx_istore (lv' := [(0, .ref a0), (1, .int v1), (2, .int v2), (3, .int v3), (4, .int v4), (6, .int v6), (7, .int w20), (8, .int v8), (9, .int v9), (10, .int v10)]) dX7_orders_158 (by decide) rfl ?_
  refine sx_iload (j := 9) dX7_orders_160 rfl ?_
  refine sx_if_eq (tgt := 170) dX7_orders_162 rfl (fun c21 => ?_) (fun c21 => ?_)
  · have h := if_e c21 h
    refine sx_iload (j := 7) dX7_orders_170 rfl ?_
    refine sx_istore (lv' := [(0, .ref a0), (1, .int v1), (2, .int v2), (3, .int v3), (4, .int v4), (6, .int v6), (7, .int w20), (8, .int v8), (9, .int v9), (10, .int v10)]) dX7_orders_172 (by decide) rfl ?_
    obtain ⟨w22, ew22⟩ : ∃ w : Int32, w = v9 + (-1 : Int32) := ⟨_, rfl⟩
    have h := lt_e ew22 h
    refine sx_iinc (j := 8) (v := w22) (lv' := [(0, .ref a0), (1, .int v1), (2, .int v2), (3, .int v3), (4, .int v4), (6, .int v6), (7, .int w20), (8, .int v8), (9, .int w22), (10, .int v10)]) dX7_orders_174 rfl (ii_m1 ew22) (by decide) rfl ?_
    refine sx_goto (tgt := 101) dX7_orders_177 rfl ?_
    obtain rfl := Option.some.inj h
    exact sx_sub [0, 1, 2, 3, 4, 5, 6, 7, 8] rfl (k1 _ rfl)
  · have h := if_n c21 h
    refine sx_iload (j := 8) dX7_orders_165 rfl ?_
    refine sx_goto (tgt := 172) dX7_orders_167 rfl ?_
    refine sx_istore (lv' := [(0, .ref a0), (1, .int v1), (2, .int v2), (3, .int v3), (4, .int v4), (6, .int v6), (7, .int w20), (8, .int v9), (9, .int v9), (10, .int v10)]) dX7_orders_172 (by decide) rfl ?_
    obtain ⟨w23, ew23⟩ : ∃ w : Int32, w = v9 + (-1 : Int32) := ⟨_, rfl⟩
    have h := lt_e ew23 h
    refine sx_iinc (j := 8) (v := w23) (lv' := [(0, .ref a0), (1, .int v1), (2, .int v2), (3, .int v3), (4, .int v4), (6, .int v6), (7, .int w20), (8, .int v9), (9, .int w23), (10, .int v10)]) dX7_orders_174 rfl (ii_m1 ew23) (by decide) rfl ?_
    refine sx_goto (tgt := 101) dX7_orders_177 rfl ?_
    obtain rfl := Option.some.inj h
    exact sx_sub [0, 1, 2, 3, 4, 5, 6, 7, 8] rfl (k1 _ rfl)
set_option maxRecDepth 100000 in
set_option maxHeartbeats 4000000 in
theorem tX7_orders_j143 {l : Launch} {E : Ev} {r : Option Value} {L' L : HL} {a0 : Nat} {v1 : Int32} {v2 : Int32} {v3 : Int32} {v4 : Int32} {v6 : Int32} {v7 : Int32} {v8 : Int32} {v9 : Int32} {s0 : Int32} {z : Tn (Int32 × Int32 × Int32 × HL) (Int32 × HL)} (h0 : isX7 E a0) (h : fX7_orders_j143 a0 v1 v2 v3 v4 v6 v7 v8 v9 s0 L = some z) (k1 : ∀ s, z = .inl s → Sx l E yX7_orders cX7_orders 11 (some .int) (7) r L' 101 [(0, .ref a0), (1, .int v1), (2, .int v2), (3, .int v3), (4, .int v4), (6, .int v6), (7, .int s.1), (8, .int s.2.1), (9, .int s.2.2.1)] [] s.2.2.2) (k2 : ∀ s, z = .inr (.inl s) → Sx l E yX7_orders cX7_orders 11 (some .int) (7) r L' 180 [(0, .ref a0), (1, .int v1), (4, .int v4), (6, .int v6), (7, .int s.1), (8, .int s.2.1)] [] s.2.2.2) (k3 : ∀ v, z = .inr (.inr v) → r = some (.int v.1) ∧ L' = v.2) : Sx l E yX7_orders cX7_orders 11 (some .int) (7) r L' 143 [(0, .ref a0), (1, .int v1), (2, .int v2), (3, .int v3), (4, .int v4), (6, .int v6), (7, .int v7), (8, .int v8), (9, .int v9)] [.int s0] L := by
  unfold fX7_orders_j143 at h
  refine sx_istore (lv' := [(0, .ref a0), (1, .int v1), (2, .int v2), (3, .int v3), (4, .int v4), (6, .int v6), (7, .int v7), (8, .int v8), (9, .int v9), (10, .int s0)]) dX7_orders_143 (by decide) rfl ?_
  refine sx_iload (j := 6) dX7_orders_145 rfl ?_
  refine sx_iload (j := 9) dX7_orders_147 rfl ?_
  refine sx_if_eq (tgt := 156) dX7_orders_149 rfl (fun c19 => ?_) (fun c19 => ?_)
  · have h := if_e c19 h
    refine sx_iconst (v := (0 : Int32)) dX7_orders_156 (by decide) ?_
    exact sx_sub [0, 1, 2, 3, 4, 5, 7, 8, 9] rfl (tX7_orders_j157 h0 h k1 k2 k3)
  · have h := if_n c19 h
    refine sx_iconst (v := (1 : Int32)) dX7_orders_152 (by decide) ?_
    refine sx_goto (tgt := 157) dX7_orders_153 rfl ?_
    exact sx_sub [0, 1, 2, 3, 4, 5, 7, 8, 9] rfl (tX7_orders_j157 h0 h k1 k2 k3)
set_option maxRecDepth 100000 in
set_option maxHeartbeats 4000000 in
theorem tX7_orders_b101 {l : Launch} {E : Ev} {r : Option Value} {L' L : HL} {a0 : Nat} {v1 : Int32} {v2 : Int32} {v3 : Int32} {v4 : Int32} {v6 : Int32} {v7 : Int32} {v8 : Int32} {v9 : Int32} {z : Tn (Int32 × Int32 × Int32 × HL) (Int32 × HL)} (h0 : isX7 E a0) (h : fX7_orders_b101 a0 v1 v2 v3 v4 v6 v7 v8 v9 L = some z) (k1 : ∀ s, z = .inl s → Sx l E yX7_orders cX7_orders 11 (some .int) (7) r L' 101 [(0, .ref a0), (1, .int v1), (2, .int v2), (3, .int v3), (4, .int v4), (6, .int v6), (7, .int s.1), (8, .int s.2.1), (9, .int s.2.2.1)] [] s.2.2.2) (k2 : ∀ s, z = .inr (.inl s) → Sx l E yX7_orders cX7_orders 11 (some .int) (7) r L' 180 [(0, .ref a0), (1, .int v1), (4, .int v4), (6, .int v6), (7, .int s.1), (8, .int s.2.1)] [] s.2.2.2) (k3 : ∀ v, z = .inr (.inr v) → r = some (.int v.1) ∧ L' = v.2) : Sx l E yX7_orders cX7_orders 11 (some .int) (7) r L' 101 [(0, .ref a0), (1, .int v1), (2, .int v2), (3, .int v3), (4, .int v4), (6, .int v6), (7, .int v7), (8, .int v8), (9, .int v9)] [] L := by
  unfold fX7_orders_b101 at h
  refine sx_iload (j := 8) dX7_orders_101 rfl ?_
  refine sx_if_lt (tgt := 180) dX7_orders_103 rfl (fun c12 => ?_) (fun c12 => ?_)
  · have h := if_e c12 h
    obtain rfl := Option.some.inj h
    exact sx_sub [0, 1, 4, 5, 6, 7] rfl (k2 _ rfl)
  · have h := if_n c12 h
    refine sx_aload_n (i := 0) (j := 0) dX7_orders_106 rfl rfl ?_
    refine sx_iload (j := 8) dX7_orders_107 rfl ?_
    refine sx_iload (j := 5) dX7_orders_109 rfl ?_
    refine sx_iload_n (i := 1) (j := 1) dX7_orders_111 rfl rfl ?_
    obtain ⟨z13, ez13, h⟩ := bd_e h
    refine sx_callV (avs := [.int v9, .int v6, .int v1]) (rest := []) (st1 := [.int z13.1]) dX7_orders_112 (mX7_layOrder h0 ez13) ciX7_layOrder (Or.inl wd_1284) (X7_k h0) rfl rfl rfl rfl (rm_m rfl) rfl (Nat.le_of_ble_eq_true rfl) rfl ?_
    refine sx_if_eq (tgt := 174) dX7_orders_115 rfl (fun c14 => ?_) (fun c14 => ?_)
    · have h := if_e c14 h
      obtain ⟨w15, ew15⟩ : ∃ w : Int32, w = v9 + (-1 : Int32) := ⟨_, rfl⟩
      have h := lt_e ew15 h
      refine sx_iinc (j := 8) (v := w15) (lv' := [(0, .ref a0), (1, .int v1), (2, .int v2), (3, .int v3), (4, .int v4), (6, .int v6), (7, .int v7), (8, .int v8), (9, .int w15)]) dX7_orders_174 rfl (ii_m1 ew15) (by decide) rfl ?_
      refine sx_goto (tgt := 101) dX7_orders_177 rfl ?_
      obtain rfl := Option.some.inj h
      exact sx_sub [0, 1, 2, 3, 4, 5, 6, 7, 8] rfl (k1 _ rfl)
    · have h := if_n c14 h
      refine sx_aload_n (i := 0) (j := 0) dX7_orders_118 rfl rfl ?_
      refine sx_iload (j := 5) dX7_orders_119 rfl ?_
      refine sx_iconst (v := (-1 : Int32)) dX7_orders_121 (by decide) ?_
      obtain ⟨z16, ez16, h⟩ := bd_e h
      refine sx_callV (avs := [.int v6, .int (-1 : Int32)]) (rest := []) (st1 := []) dX7_orders_122 (mX7_layFalls h0 ez16) ciX7_layFalls (Or.inl wd_1288) (X7_k h0) rfl rfl rfl rfl (rm_m rfl) rfl (Nat.le_of_ble_eq_true rfl) rfl ?_
      refine sx_aload_n (i := 0) (j := 0) dX7_orders_125 rfl rfl ?_
      refine sx_get (k := 17) (v := .ref (a0 + 9)) dX7_orders_126 (X7_k h0) cf_7 (Or.inl wd_973) (by decide : 17 < 20) (congrArg Value.ref (X7_r17 h0)) ?_
      refine sx_bipush (v := (70 : Int32)) dX7_orders_129 (by decide) ?_
      refine sx_iload_n (i := 2) (j := 2) dX7_orders_131 rfl rfl ?_
      refine sx_iadd dX7_orders_132 ?_
      obtain ⟨c17, h⟩ := gd_e h
      refine sx_iald dX7_orders_133 (X7_a17 h0) c17 ?_
      refine sx_iload_n (i := 3) (j := 3) dX7_orders_134 rfl rfl ?_
      refine sx_icmp_ne (tgt := 142) dX7_orders_135 rfl (fun c18 => ?_) (fun c18 => ?_)
      · have h := if_e c18 h
        refine sx_iconst (v := (1 : Int32)) dX7_orders_138 (by decide) ?_
        refine sx_goto (tgt := 143) dX7_orders_139 rfl ?_
        exact sx_sub [0, 1, 2, 3, 4, 5, 6, 7, 8] rfl (tX7_orders_j143 h0 h k1 k2 k3)
      · have h := if_n c18 h
        refine sx_iconst (v := (0 : Int32)) dX7_orders_142 (by decide) ?_
        exact sx_sub [0, 1, 2, 3, 4, 5, 6, 7, 8] rfl (tX7_orders_j143 h0 h k1 k2 k3)
set_option maxRecDepth 100000 in
set_option maxHeartbeats 4000000 in
theorem tX7_orders_j67 {l : Launch} {E : Ev} {r : Option Value} {L' L : HL} {a0 : Nat} {v1 : Int32} {v2 : Int32} {v3 : Int32} {v4 : Int32} {z : Int32 × HL} (h0 : isX7 E a0) (h : fX7_orders_j67 a0 v1 v2 v3 v4 L = some z) (k3 : r = some (.int z.1) ∧ L' = z.2) : Sx l E yX7_orders cX7_orders 11 (some .int) (7) r L' 67 [(0, .ref a0), (1, .int v1), (2, .int v2), (3, .int v3), (4, .int v4)] [] L := by
  unfold fX7_orders_j67 at h
  refine sx_iload (j := 4) dX7_orders_67 rfl ?_
  refine sx_iconst (v := (-1 : Int32)) dX7_orders_69 (by decide) ?_
  refine sx_icmp_ge (tgt := 80) dX7_orders_70 rfl (fun c8 => ?_) (fun c8 => ?_)
  · have h := if_e c8 h
    refine sx_iload_n (i := 1) (j := 1) dX7_orders_80 rfl rfl ?_
    obtain ⟨z9, ez9, h⟩ := bd_e h
    refine sx_callS (avs := [.int v1]) (rest := []) (st1 := [.int z9]) dX7_orders_81 (mX7_bits ez9) ctX7_bits (Or.inl wd_1176) rfl rfl (rm_m rfl) rfl (Nat.le_of_ble_eq_true rfl) rfl ?_
    refine sx_istore (lv' := [(0, .ref a0), (1, .int v1), (2, .int v2), (3, .int v3), (4, .int v4), (6, .int z9)]) dX7_orders_84 (by decide) rfl ?_
    refine sx_iconst (v := (0 : Int32)) dX7_orders_86 (by decide) ?_
    refine sx_istore (lv' := [(0, .ref a0), (1, .int v1), (2, .int v2), (3, .int v3), (4, .int v4), (6, .int z9), (7, .int (0 : Int32))]) dX7_orders_87 (by decide) rfl ?_
    refine sx_iconst (v := (-1 : Int32)) dX7_orders_89 (by decide) ?_
    refine sx_istore (lv' := [(0, .ref a0), (1, .int v1), (2, .int v2), (3, .int v3), (4, .int v4), (6, .int z9), (7, .int (0 : Int32)), (8, .int (-1 : Int32))]) dX7_orders_90 (by decide) rfl ?_
    refine sx_iload (j := 5) dX7_orders_92 rfl ?_
    obtain ⟨z10, ez10, h⟩ := bd_e h
    refine sx_callS (avs := [.int z9]) (rest := []) (st1 := [.int z10]) dX7_orders_94 (mX7_codes ez10) ctX7_codes (Or.inl wd_1281) rfl rfl (rm_m rfl) rfl (Nat.le_of_ble_eq_true rfl) rfl ?_
    refine sx_iconst (v := (1 : Int32)) dX7_orders_97 (by decide) ?_
    refine sx_isub dX7_orders_98 ?_
    refine sx_topi (fun w11 ew11 => ?_)
    have h := lt_e ew11 h
    refine sx_istore (lv' := [(0, .ref a0), (1, .int v1), (2, .int v2), (3, .int v3), (4, .int v4), (6, .int z9), (7, .int (0 : Int32)), (8, .int (-1 : Int32)), (9, .int w11)]) dX7_orders_99 (by decide) rfl ?_
    obtain ⟨x31, hx, q1, q2⟩ := lx_e h
    refine sx_sub (lv' := [(0, .ref a0), (1, .int v1), (2, .int v2), (3, .int v3), (4, .int v4), (6, .int z9), (7, .int (0 : Int32)), (8, .int (-1 : Int32)), (9, .int w11)]) [0, 1, 2, 3, 4, 5, 6, 7, 8] rfl ?_
    refine lp_go (fun s24 => Sx l E yX7_orders cX7_orders 11 (some .int) (7) r L' 101 [(0, .ref a0), (1, .int v1), (2, .int v2), (3, .int v3), (4, .int v4), (6, .int z9), (7, .int s24.1), (8, .int s24.2.1), (9, .int s24.2.2.1)] [] s24.2.2.2) x31 (fun s24 z2 hz c1 c2 => ?_) FU _ hx
    refine tX7_orders_b101 h0 hz (fun s2 e => c1 s2 e) (fun s24 e => ?_) (fun v e => ?_)
    · have h := q1 _ (c2 _ e).symm
      refine sx_iload (j := 2) dX7_orders_180 rfl ?_
      refine sx_iconst (v := (-1 : Int32)) dX7_orders_182 (by decide) ?_
      refine sx_icmp_ne (tgt := 189) dX7_orders_183 rfl (fun c25 => ?_) (fun c25 => ?_)
      · have h := if_e c25 h
        refine sx_iload (j := 4) dX7_orders_186 rfl ?_
        obtain rfl := Option.some.inj h
        exact sx_iret dX7_orders_188 rfl rfl k3.1 k3.2
      · have h := if_n c25 h
        refine sx_iload (j := 4) dX7_orders_189 rfl ?_
        refine sx_if_ne (tgt := 196) dX7_orders_191 rfl (fun c26 => ?_) (fun c26 => ?_)
        · have h := if_e c26 h
          refine sx_iconst (v := (-1 : Int32)) dX7_orders_194 (by decide) ?_
          obtain rfl := Option.some.inj h
          exact sx_iret dX7_orders_195 rfl rfl k3.1 k3.2
        · have h := if_n c26 h
          refine sx_aload_n (i := 0) (j := 0) dX7_orders_196 rfl rfl ?_
          refine sx_iload (j := 5) dX7_orders_197 rfl ?_
          refine sx_iload (j := 3) dX7_orders_199 rfl ?_
          refine sx_iload_n (i := 1) (j := 1) dX7_orders_201 rfl rfl ?_
          obtain ⟨z27, ez27, h⟩ := bd_e h
          refine sx_callV (avs := [.int s24.2.1, .int z9, .int v1]) (rest := []) (st1 := [.int z27.1]) dX7_orders_202 (mX7_layOrder h0 ez27) ciX7_layOrder (Or.inl wd_1284) (X7_k h0) rfl rfl rfl rfl (rm_m rfl) rfl (Nat.le_of_ble_eq_true rfl) rfl ?_
          refine sx_istore (lv' := [(0, .ref a0), (1, .int v1), (4, .int v4), (6, .int z9), (7, .int s24.1), (8, .int s24.2.1), (9, .int z27.1)]) dX7_orders_205 (by decide) rfl ?_
          refine sx_iload (j := 6) dX7_orders_207 rfl ?_
          refine sx_if_eq (tgt := 229) dX7_orders_209 rfl (fun c28 => ?_) (fun c28 => ?_)
          · have h := if_e c28 h
            refine sx_bipush (v := (-5 : Int32)) dX7_orders_229 (by decide) ?_
            obtain rfl := Option.some.inj h
            exact sx_iret dX7_orders_231 rfl rfl k3.1 k3.2
          · have h := if_n c28 h
            refine sx_iload (j := 2) dX7_orders_212 rfl ?_
            refine sx_iload (j := 3) dX7_orders_214 rfl ?_
            refine sx_icmp_ge (tgt := 229) dX7_orders_216 rfl (fun c29 => ?_) (fun c29 => ?_)
            · have h := if_e c29 h
              refine sx_bipush (v := (-5 : Int32)) dX7_orders_229 (by decide) ?_
              obtain rfl := Option.some.inj h
              exact sx_iret dX7_orders_231 rfl rfl k3.1 k3.2
            · have h := if_n c29 h
              refine sx_aload_n (i := 0) (j := 0) dX7_orders_219 rfl rfl ?_
              refine sx_get (k := 18) (v := .ref (a0 + 10)) dX7_orders_220 (X7_k h0) cf_7 (Or.inl wd_974) (by decide : 18 < 20) (congrArg Value.ref (X7_r18 h0)) ?_
              refine sx_iload (j := 2) dX7_orders_223 rfl ?_
              obtain ⟨c30, h⟩ := gd_e h
              refine sx_iald dX7_orders_225 (X7_a18 h0) c30 ?_
              refine sx_goto (tgt := 231) dX7_orders_226 rfl ?_
              obtain rfl := Option.some.inj h
              exact sx_iret dX7_orders_231 rfl rfl k3.1 k3.2
    · have e2 := Option.some.inj (q2 _ (c2 _ e).symm)
      subst e2
      exact k3
  · have h := if_n c8 h
    exact sx_sub [0] rfl (tX7_orders_j73 h0 h k3)
set_option maxRecDepth 100000 in
set_option maxHeartbeats 4000000 in
theorem tX7_orders_j39 {l : Launch} {E : Ev} {r : Option Value} {L' L : HL} {a0 : Nat} {v1 : Int32} {v2 : Int32} {v3 : Int32} {v4 : Int32} {s0 : Int32} {z : Int32 × HL} (h0 : isX7 E a0) (h : fX7_orders_j39 a0 v1 v2 v3 v4 s0 L = some z) (k3 : r = some (.int z.1) ∧ L' = z.2) : Sx l E yX7_orders cX7_orders 11 (some .int) (7) r L' 39 [(0, .ref a0), (1, .int v1), (2, .int v2), (3, .int v3), (4, .int v4)] [.int s0] L := by
  unfold fX7_orders_j39 at h
  refine sx_istore (lv' := [(0, .ref a0), (1, .int v1), (2, .int v2), (3, .int v3), (4, .int v4), (5, .int s0)]) dX7_orders_39 (by decide) rfl ?_
  refine sx_iload (j := 5) dX7_orders_41 rfl ?_
  refine sx_if_eq (tgt := 73) dX7_orders_43 rfl (fun c3 => ?_) (fun c3 => ?_)
  · have h := if_e c3 h
    exact sx_sub [0] rfl (tX7_orders_j73 h0 h k3)
  · have h := if_n c3 h
    refine sx_aload_n (i := 0) (j := 0) dX7_orders_46 rfl rfl ?_
    refine sx_iload_n (i := 2) (j := 2) dX7_orders_47 rfl rfl ?_
    obtain ⟨z5, ez5, h⟩ := bd_e h
    refine sx_callV (avs := [.int v2]) (rest := []) (st1 := [.int z5]) dX7_orders_48 (mX7_isOne h0 ez5) ciX7_isOne (Or.inl wd_1204) (X7_k h0) rfl rfl rfl rfl (rm_m rfl) rfl (Nat.le_of_ble_eq_true rfl) rfl ?_
    refine sx_if_eq (tgt := 73) dX7_orders_51 rfl (fun c6 => ?_) (fun c6 => ?_)
    · have h := if_e c6 h
      exact sx_sub [0] rfl (tX7_orders_j73 h0 h k3)
    · have h := if_n c6 h
      refine sx_iload_n (i := 3) (j := 3) dX7_orders_54 rfl rfl ?_
      refine sx_iconst (v := (-1 : Int32)) dX7_orders_55 (by decide) ?_
      refine sx_icmp_eq (tgt := 67) dX7_orders_56 rfl (fun c7 => ?_) (fun c7 => ?_)
      · have h := if_e c7 h
        exact sx_sub [0, 1, 2, 3, 4] rfl (tX7_orders_j67 h0 h k3)
      · have h := if_n c7 h
        refine sx_aload_n (i := 0) (j := 0) dX7_orders_59 rfl rfl ?_
        refine sx_iload_n (i := 3) (j := 3) dX7_orders_60 rfl rfl ?_
        obtain ⟨z32, ez32, h⟩ := bd_e h
        refine sx_callV (avs := [.int v3]) (rest := []) (st1 := [.int z32]) dX7_orders_61 (mX7_isHouse h0 ez32) ciX7_isHouse (Or.inl wd_1047) (X7_k h0) rfl rfl rfl rfl (rm_m rfl) rfl (Nat.le_of_ble_eq_true rfl) rfl ?_
        refine sx_if_eq (tgt := 73) dX7_orders_64 rfl (fun c33 => ?_) (fun c33 => ?_)
        · have h := if_e c33 h
          exact sx_sub [0] rfl (tX7_orders_j73 h0 h k3)
        · have h := if_n c33 h
          exact sx_sub [0, 1, 2, 3, 4] rfl (tX7_orders_j67 h0 h k3)
set_option maxRecDepth 100000 in
set_option maxHeartbeats 4000000 in
theorem tX7_orders_j38 {l : Launch} {E : Ev} {r : Option Value} {L' L : HL} {a0 : Nat} {v1 : Int32} {v2 : Int32} {v3 : Int32} {v4 : Int32} {z : Int32 × HL} (h0 : isX7 E a0) (h : fX7_orders_j38 a0 v1 v2 v3 v4 L = some z) (k3 : r = some (.int z.1) ∧ L' = z.2) : Sx l E yX7_orders cX7_orders 11 (some .int) (7) r L' 38 [(0, .ref a0), (1, .int v1), (2, .int v2), (3, .int v3), (4, .int v4)] [] L := by
  unfold fX7_orders_j38 at h
  refine sx_iconst (v := (0 : Int32)) dX7_orders_38 (by decide) ?_
  exact sx_sub [0, 1, 2, 3, 4] rfl (tX7_orders_j39 h0 h k3)
set_option maxRecDepth 100000 in
set_option maxHeartbeats 4000000 in
theorem mX7_orders {l : Launch} {E : Ev} {L : HL} {a0 : Nat} {v1 : Int32} {v2 : Int32} {v3 : Int32} {v4 : Int32} {z : Int32 × HL} (h0 : isX7 E a0) (h : fX7_orders a0 v1 v2 v3 v4 L = some z) : Mt l E yX7_orders cX7_orders 11 (some .int) (7) [.ref a0, .int v1, .int v2, .int v3, .int v4] L (some (.int z.1)) (z.2) := by
  obtain ⟨r, hr⟩ : ∃ r : Option Value, r = some (.int z.1) := ⟨_, rfl⟩
  obtain ⟨L', hL'⟩ : ∃ L' : HL, L' = z.2 := ⟨_, rfl⟩
  have k3 : r = some (.int z.1) ∧ L' = z.2 := ⟨hr, hL'⟩
  refine mt_eq hr hL' ?_
  refine Mt.of (plainFor_of_name (by decide)) (Nat.le_of_ble_eq_true rfl) ?_
  refine sx_sub (lv' := [(0, .ref a0), (1, .int v1), (2, .int v2), (3, .int v3), (4, .int v4)]) [0, 1, 2, 3, 4] rfl ?_
  unfold fX7_orders at h
  refine sx_iload_n (i := 1) (j := 1) dX7_orders_0 rfl rfl ?_
  refine sx_i2l dX7_orders_1 ?_
  refine sx_lconst (v := (0 : Int64)) dX7_orders_2 (by decide) ?_
  refine sx_iconst (v := (1 : Int32)) dX7_orders_3 (by decide) ?_
  refine sx_aload_n (i := 0) (j := 0) dX7_orders_4 rfl rfl ?_
  refine sx_get (k := 0) (v := .ref (a0 + 1)) dX7_orders_5 (X7_k h0) cf_7 (Or.inl wd_956) (by decide : 0 < 20) (congrArg Value.ref (X7_r0 h0)) ?_
  refine sx_iconst (v := (0 : Int32)) dX7_orders_8 (by decide) ?_
  refine sx_iald dX7_orders_9 (X7_a0 h0) (show vin (0 : Int32) 228 from by decide) ?_
  refine sx_ishl dX7_orders_10 ?_
  refine sx_iconst (v := (1 : Int32)) dX7_orders_11 (by decide) ?_
  refine sx_isub dX7_orders_12 ?_
  refine sx_i2l dX7_orders_13 ?_
  obtain ⟨z1, ez1, h⟩ := bd_e h
  refine sx_callS (avs := [.long v1.toInt64, .long (0 : Int64), .long (((1 : Int32) <<< ((L.1 (a0 + 1) (0 : Int32).toNatClampNeg) &&& 31)) - (1 : Int32)).toInt64]) (rest := []) (st1 := [.int z1]) dX7_orders_14 (mX7_in ez1) ctX7_in (Or.inl wd_1031) rfl rfl (rm_m rfl) rfl (Nat.le_of_ble_eq_true rfl) rfl ?_
  refine sx_if_eq (tgt := 38) dX7_orders_17 rfl (fun c2 => ?_) (fun c2 => ?_)
  · have h := if_e c2 h
    exact sx_sub [0, 1, 2, 3, 4] rfl (tX7_orders_j38 h0 h k3)
  · have h := if_n c2 h
    refine sx_iload_n (i := 1) (j := 1) dX7_orders_20 rfl rfl ?_
    refine sx_aload_n (i := 0) (j := 0) dX7_orders_21 rfl rfl ?_
    refine sx_get (k := 0) (v := .ref (a0 + 1)) dX7_orders_22 (X7_k h0) cf_7 (Or.inl wd_956) (by decide : 0 < 20) (congrArg Value.ref (X7_r0 h0)) ?_
    obtain ⟨z34, ez34, h⟩ := bd_e h
    refine sx_callS (avs := [.ref (a0 + 1)]) (rest := [.int v1]) (st1 := [.int z34, .int v1]) dX7_orders_25 (mX7_standing (X7_a0 h0) ez34) ctX7_standing (Or.inl wd_1197) rfl rfl (rm_m rfl) rfl (Nat.le_of_ble_eq_true rfl) rfl ?_
    refine sx_iconst (v := (-1 : Int32)) dX7_orders_28 (by decide) ?_
    refine sx_ixor dX7_orders_29 ?_
    refine sx_iand dX7_orders_30 ?_
    refine sx_if_ne (tgt := 38) dX7_orders_31 rfl (fun c35 => ?_) (fun c35 => ?_)
    · have h := if_e c35 h
      refine sx_iconst (v := (1 : Int32)) dX7_orders_34 (by decide) ?_
      refine sx_goto (tgt := 39) dX7_orders_35 rfl ?_
      exact sx_sub [0, 1, 2, 3, 4] rfl (tX7_orders_j39 h0 h k3)
    · have h := if_n c35 h
      exact sx_sub [0, 1, 2, 3, 4] rfl (tX7_orders_j38 h0 h k3)
set_option maxRecDepth 100000 in
set_option maxHeartbeats 4000000 in
theorem tX7_isSafe_b20 {l : Launch} {E : Ev} {r : Option Value} {L' L : HL} {a0 : Nat} {v1 : Int32} {v2 : Int32} {v3 : Int32} {v4 : Int32} {v5 : Int32} {v6 : Int32} {z : Tn (Int32 × Int32 × HL) (Int32 × HL)} (h0 : isX7 E a0) (h : fX7_isSafe_b20 a0 v1 v2 v3 v4 v5 v6 L = some z) (k1 : ∀ s, z = .inl s → Sx l E yX7_isSafe cX7_isSafe 7 (some .boolean) (7) r L' 20 [(0, .ref a0), (1, .int v1), (2, .int v2), (3, .int v3), (4, .int v4), (5, .int s.1), (6, .int s.2.1)] [] s.2.2) (k2 : ∀ s, z = .inr (.inl s) → Sx l E yX7_isSafe cX7_isSafe 7 (some .boolean) (7) r L' 82 [(5, .int s.1)] [] s.2.2) (k3 : ∀ v, z = .inr (.inr v) → r = some (.int v.1) ∧ L' = v.2) : Sx l E yX7_isSafe cX7_isSafe 7 (some .boolean) (7) r L' 20 [(0, .ref a0), (1, .int v1), (2, .int v2), (3, .int v3), (4, .int v4), (5, .int v5), (6, .int v6)] [] L := by
  unfold fX7_isSafe_b20 at h
  refine sx_iload (j := 6) dX7_isSafe_20 rfl ?_
  refine sx_iload (j := 4) dX7_isSafe_22 rfl ?_
  obtain ⟨z3, ez3, h⟩ := bd_e h
  refine sx_callS (avs := [.int v4]) (rest := [.int v6]) (st1 := [.int z3, .int v6]) dX7_isSafe_24 (mX7_codes ez3) ctX7_codes (Or.inl wd_1281) rfl rfl (rm_m rfl) rfl (Nat.le_of_ble_eq_true rfl) rfl ?_
  refine sx_icmp_ge (tgt := 82) dX7_isSafe_27 rfl (fun c4 => ?_) (fun c4 => ?_)
  · have h := if_e c4 h
    obtain rfl := Option.some.inj h
    exact sx_sub [5] rfl (k2 _ rfl)
  · have h := if_n c4 h
    refine sx_iload (j := 5) dX7_isSafe_30 rfl ?_
    refine sx_if_eq (tgt := 82) dX7_isSafe_32 rfl (fun c5 => ?_) (fun c5 => ?_)
    · have h := if_e c5 h
      obtain rfl := Option.some.inj h
      exact sx_sub [5] rfl (k2 _ rfl)
    · have h := if_n c5 h
      refine sx_aload_n (i := 0) (j := 0) dX7_isSafe_35 rfl rfl ?_
      refine sx_iload (j := 6) dX7_isSafe_36 rfl ?_
      refine sx_iload (j := 4) dX7_isSafe_38 rfl ?_
      refine sx_iload_n (i := 3) (j := 3) dX7_isSafe_40 rfl rfl ?_
      obtain ⟨z6, ez6, h⟩ := bd_e h
      refine sx_callV (avs := [.int v6, .int v4, .int v3]) (rest := []) (st1 := [.int z6.1]) dX7_isSafe_41 (mX7_layOrder h0 ez6) ciX7_layOrder (Or.inl wd_1284) (X7_k h0) rfl rfl rfl rfl (rm_m rfl) rfl (Nat.le_of_ble_eq_true rfl) rfl ?_
      refine sx_if_eq (tgt := 76) dX7_isSafe_44 rfl (fun c7 => ?_) (fun c7 => ?_)
      · have h := if_e c7 h
        obtain ⟨w8, ew8⟩ : ∃ w : Int32, w = v6 + (1 : Int32) := ⟨_, rfl⟩
        have h := lt_e ew8 h
        refine sx_iinc (j := 6) (v := w8) (lv' := [(0, .ref a0), (1, .int v1), (2, .int v2), (3, .int v3), (4, .int v4), (5, .int v5), (6, .int w8)]) dX7_isSafe_76 rfl (ii_1 ew8) (by decide) rfl ?_
        refine sx_goto (tgt := 20) dX7_isSafe_79 rfl ?_
        obtain rfl := Option.some.inj h
        exact sx_sub [0, 1, 2, 3, 4, 5, 6] rfl (k1 _ rfl)
      · have h := if_n c7 h
        refine sx_aload_n (i := 0) (j := 0) dX7_isSafe_47 rfl rfl ?_
        refine sx_iload (j := 4) dX7_isSafe_48 rfl ?_
        refine sx_iconst (v := (1 : Int32)) dX7_isSafe_50 (by decide) ?_
        refine sx_isub dX7_isSafe_51 ?_
        refine sx_iload_n (i := 2) (j := 2) dX7_isSafe_52 rfl rfl ?_
        obtain ⟨z9, ez9, h⟩ := bd_e h
        refine sx_callV (avs := [.int (v4 - (1 : Int32)), .int v2]) (rest := []) (st1 := []) dX7_isSafe_53 (mX7_layFalls h0 ez9) ciX7_layFalls (Or.inl wd_1288) (X7_k h0) rfl rfl rfl rfl (rm_m rfl) rfl (Nat.le_of_ble_eq_true rfl) rfl ?_
        refine sx_aload_n (i := 0) (j := 0) dX7_isSafe_56 rfl rfl ?_
        refine sx_get (k := 17) (v := .ref (a0 + 9)) dX7_isSafe_57 (X7_k h0) cf_7 (Or.inl wd_973) (by decide : 17 < 20) (congrArg Value.ref (X7_r17 h0)) ?_
        refine sx_bipush (v := (70 : Int32)) dX7_isSafe_60 (by decide) ?_
        refine sx_iload_n (i := 1) (j := 1) dX7_isSafe_62 rfl rfl ?_
        refine sx_iadd dX7_isSafe_63 ?_
        obtain ⟨c10, h⟩ := gd_e h
        refine sx_iald dX7_isSafe_64 (X7_a17 h0) c10 ?_
        refine sx_iconst (v := (-1 : Int32)) dX7_isSafe_65 (by decide) ?_
        refine sx_icmp_eq (tgt := 73) dX7_isSafe_66 rfl (fun c11 => ?_) (fun c11 => ?_)
        · have h := if_e c11 h
          refine sx_iconst (v := (0 : Int32)) dX7_isSafe_73 (by decide) ?_
          refine sx_istore (lv' := [(0, .ref a0), (1, .int v1), (2, .int v2), (3, .int v3), (4, .int v4), (5, .int (0 : Int32)), (6, .int v6)]) dX7_isSafe_74 (by decide) rfl ?_
          obtain ⟨w12, ew12⟩ : ∃ w : Int32, w = v6 + (1 : Int32) := ⟨_, rfl⟩
          have h := lt_e ew12 h
          refine sx_iinc (j := 6) (v := w12) (lv' := [(0, .ref a0), (1, .int v1), (2, .int v2), (3, .int v3), (4, .int v4), (5, .int (0 : Int32)), (6, .int w12)]) dX7_isSafe_76 rfl (ii_1 ew12) (by decide) rfl ?_
          refine sx_goto (tgt := 20) dX7_isSafe_79 rfl ?_
          obtain rfl := Option.some.inj h
          exact sx_sub [0, 1, 2, 3, 4, 5, 6] rfl (k1 _ rfl)
        · have h := if_n c11 h
          refine sx_iconst (v := (1 : Int32)) dX7_isSafe_69 (by decide) ?_
          refine sx_goto (tgt := 74) dX7_isSafe_70 rfl ?_
          refine sx_istore (lv' := [(0, .ref a0), (1, .int v1), (2, .int v2), (3, .int v3), (4, .int v4), (5, .int (1 : Int32)), (6, .int v6)]) dX7_isSafe_74 (by decide) rfl ?_
          obtain ⟨w13, ew13⟩ : ∃ w : Int32, w = v6 + (1 : Int32) := ⟨_, rfl⟩
          have h := lt_e ew13 h
          refine sx_iinc (j := 6) (v := w13) (lv' := [(0, .ref a0), (1, .int v1), (2, .int v2), (3, .int v3), (4, .int v4), (5, .int (1 : Int32)), (6, .int w13)]) dX7_isSafe_76 rfl (ii_1 ew13) (by decide) rfl ?_
          refine sx_goto (tgt := 20) dX7_isSafe_79 rfl ?_
          obtain rfl := Option.some.inj h
          exact sx_sub [0, 1, 2, 3, 4, 5, 6] rfl (k1 _ rfl)
set_option maxRecDepth 100000 in
set_option maxHeartbeats 4000000 in
theorem mX7_isSafe {l : Launch} {E : Ev} {L : HL} {a0 : Nat} {v1 : Int32} {v2 : Int32} {z : Int32 × HL} (h0 : isX7 E a0) (h : fX7_isSafe a0 v1 v2 L = some z) : Mt l E yX7_isSafe cX7_isSafe 7 (some .boolean) (7) [.ref a0, .int v1, .int v2] L (some (.int z.1)) (z.2) := by
  obtain ⟨r, hr⟩ : ∃ r : Option Value, r = some (.int z.1) := ⟨_, rfl⟩
  obtain ⟨L', hL'⟩ : ∃ L' : HL, L' = z.2 := ⟨_, rfl⟩
  have k3 : r = some (.int z.1) ∧ L' = z.2 := ⟨hr, hL'⟩
  refine mt_eq hr hL' ?_
  refine Mt.of (plainFor_of_name (by decide)) (Nat.le_of_ble_eq_true rfl) ?_
  refine sx_sub (lv' := [(0, .ref a0), (1, .int v1), (2, .int v2)]) [0, 1, 2] rfl ?_
  unfold fX7_isSafe at h
  refine sx_aload_n (i := 0) (j := 0) dX7_isSafe_0 rfl rfl ?_
  refine sx_get (k := 0) (v := .ref (a0 + 1)) dX7_isSafe_1 (X7_k h0) cf_7 (Or.inl wd_956) (by decide : 0 < 20) (congrArg Value.ref (X7_r0 h0)) ?_
  obtain ⟨z1, ez1, h⟩ := bd_e h
  refine sx_callS (avs := [.ref (a0 + 1)]) (rest := []) (st1 := [.int z1]) dX7_isSafe_4 (mX7_standing (X7_a0 h0) ez1) ctX7_standing (Or.inl wd_1197) rfl rfl (rm_m rfl) rfl (Nat.le_of_ble_eq_true rfl) rfl ?_
  refine sx_istore_n (i := 3) (lv' := [(0, .ref a0), (1, .int v1), (2, .int v2), (3, .int z1)]) dX7_isSafe_7 rfl (by decide) rfl ?_
  refine sx_iload_n (i := 3) (j := 3) dX7_isSafe_8 rfl rfl ?_
  obtain ⟨z2, ez2, h⟩ := bd_e h
  refine sx_callS (avs := [.int z1]) (rest := []) (st1 := [.int z2]) dX7_isSafe_9 (mX7_bits ez2) ctX7_bits (Or.inl wd_1176) rfl rfl (rm_m rfl) rfl (Nat.le_of_ble_eq_true rfl) rfl ?_
  refine sx_istore (lv' := [(0, .ref a0), (1, .int v1), (2, .int v2), (3, .int z1), (4, .int z2)]) dX7_isSafe_12 (by decide) rfl ?_
  refine sx_iconst (v := (1 : Int32)) dX7_isSafe_14 (by decide) ?_
  refine sx_istore (lv' := [(0, .ref a0), (1, .int v1), (2, .int v2), (3, .int z1), (4, .int z2), (5, .int (1 : Int32))]) dX7_isSafe_15 (by decide) rfl ?_
  refine sx_iconst (v := (0 : Int32)) dX7_isSafe_17 (by decide) ?_
  refine sx_istore (lv' := [(0, .ref a0), (1, .int v1), (2, .int v2), (3, .int z1), (4, .int z2), (5, .int (1 : Int32)), (6, .int (0 : Int32))]) dX7_isSafe_18 (by decide) rfl ?_
  obtain ⟨x16, hx, q1, q2⟩ := lx_e h
  refine sx_sub (lv' := [(0, .ref a0), (1, .int v1), (2, .int v2), (3, .int z1), (4, .int z2), (5, .int (1 : Int32)), (6, .int (0 : Int32))]) [0, 1, 2, 3, 4, 5, 6] rfl ?_
  refine lp_go (fun s14 => Sx l E yX7_isSafe cX7_isSafe 7 (some .boolean) (7) r L' 20 [(0, .ref a0), (1, .int v1), (2, .int v2), (3, .int z1), (4, .int z2), (5, .int s14.1), (6, .int s14.2.1)] [] s14.2.2) x16 (fun s14 z2 hz c1 c2 => ?_) FU _ hx
  refine tX7_isSafe_b20 h0 hz (fun s2 e => c1 s2 e) (fun s14 e => ?_) (fun v e => ?_)
  · have h := q1 _ (c2 _ e).symm
    refine sx_iload (j := 0) dX7_isSafe_82 rfl ?_
    obtain ⟨c15, h⟩ := gd_e h
    obtain rfl := Option.some.inj h
    exact sx_iret dX7_isSafe_84 rfl (nb_of c15) k3.1 k3.2
  · have e2 := Option.some.inj (q2 _ (c2 _ e).symm)
    subst e2
    exact k3
set_option maxRecDepth 100000 in
set_option maxHeartbeats 4000000 in
theorem tX7_safe_j44 {l : Launch} {E : Ev} {r : Option Value} {L' L : HL} {a0 : Nat} {v1 : Int32} {v2 : Int32} {v3 : Int32} {s0 : Int32} {z : Tn (Int32 × Int32 × HL) (Int32 × HL)} (h0 : isX7 E a0) (h : fX7_safe_j44 a0 v1 v2 v3 s0 L = some z) (k1 : ∀ s, z = .inl s → Sx l E yX7_safe cX7_safe 4 (some .int) (8) r L' 19 [(0, .ref a0), (1, .int v1), (2, .int s.1), (3, .int s.2.1)] [] s.2.2) (k2 : ∀ s, z = .inr (.inl s) → Sx l E yX7_safe cX7_safe 4 (some .int) (8) r L' 59 [(2, .int s.1)] [] s.2.2) (k3 : ∀ v, z = .inr (.inr v) → r = some (.int v.1) ∧ L' = v.2) : Sx l E yX7_safe cX7_safe 4 (some .int) (8) r L' 44 [(0, .ref a0), (1, .int v1), (3, .int v3)] [.int s0] L := by
  unfold fX7_safe_j44 at h
  refine sx_iconst (v := (1 : Int32)) dX7_safe_44 (by decide) ?_
  refine sx_iload_n (i := 3) (j := 2) dX7_safe_45 rfl rfl ?_
  refine sx_ishl dX7_safe_46 ?_
  refine sx_goto (tgt := 51) dX7_safe_47 rfl ?_
  refine sx_ior dX7_safe_51 ?_
  refine sx_topi (fun w7 ew7 => ?_)
  have h := lt_e ew7 h
  refine sx_istore_n (i := 2) (lv' := [(0, .ref a0), (1, .int v1), (2, .int w7), (3, .int v3)]) dX7_safe_52 rfl (by decide) rfl ?_
  obtain ⟨w8, ew8⟩ : ∃ w : Int32, w = v3 + (1 : Int32) := ⟨_, rfl⟩
  have h := lt_e ew8 h
  refine sx_iinc (j := 3) (v := w8) (lv' := [(0, .ref a0), (1, .int v1), (2, .int w7), (3, .int w8)]) dX7_safe_53 rfl (ii_1 ew8) (by decide) rfl ?_
  refine sx_goto (tgt := 19) dX7_safe_56 rfl ?_
  obtain rfl := Option.some.inj h
  exact sx_sub [0, 1, 2, 3] rfl (k1 _ rfl)
set_option maxRecDepth 100000 in
set_option maxHeartbeats 4000000 in
theorem tX7_safe_b19 {l : Launch} {E : Ev} {r : Option Value} {L' L : HL} {a0 : Nat} {v1 : Int32} {v2 : Int32} {v3 : Int32} {z : Tn (Int32 × Int32 × HL) (Int32 × HL)} (h0 : isX7 E a0) (h : fX7_safe_b19 a0 v1 v2 v3 L = some z) (k1 : ∀ s, z = .inl s → Sx l E yX7_safe cX7_safe 4 (some .int) (8) r L' 19 [(0, .ref a0), (1, .int v1), (2, .int s.1), (3, .int s.2.1)] [] s.2.2) (k2 : ∀ s, z = .inr (.inl s) → Sx l E yX7_safe cX7_safe 4 (some .int) (8) r L' 59 [(2, .int s.1)] [] s.2.2) (k3 : ∀ v, z = .inr (.inr v) → r = some (.int v.1) ∧ L' = v.2) : Sx l E yX7_safe cX7_safe 4 (some .int) (8) r L' 19 [(0, .ref a0), (1, .int v1), (2, .int v2), (3, .int v3)] [] L := by
  unfold fX7_safe_b19 at h
  refine sx_iload_n (i := 3) (j := 3) dX7_safe_19 rfl rfl ?_
  refine sx_iconst (v := (5 : Int32)) dX7_safe_20 (by decide) ?_
  refine sx_icmp_gt (tgt := 59) dX7_safe_21 rfl (fun c4 => ?_) (fun c4 => ?_)
  · have h := if_e c4 h
    obtain rfl := Option.some.inj h
    exact sx_sub [2] rfl (k2 _ rfl)
  · have h := if_n c4 h
    refine sx_iload_n (i := 2) (j := 2) dX7_safe_24 rfl rfl ?_
    refine sx_aload_n (i := 0) (j := 0) dX7_safe_25 rfl rfl ?_
    refine sx_get (k := 0) (v := .ref (a0 + 1)) dX7_safe_26 (X7_k h0) cf_7 (Or.inl wd_956) (by decide : 0 < 20) (congrArg Value.ref (X7_r0 h0)) ?_
    obtain ⟨z5, ez5, h⟩ := bd_e h
    refine sx_callS (avs := [.ref (a0 + 1)]) (rest := [.int v2]) (st1 := [.int z5, .int v2]) dX7_safe_29 (mX7_standing (X7_a0 h0) ez5) ctX7_standing (Or.inl wd_1197) rfl rfl (rm_m rfl) rfl (Nat.le_of_ble_eq_true rfl) rfl ?_
    refine sx_if_eq (tgt := 44) dX7_safe_32 rfl (fun c6 => ?_) (fun c6 => ?_)
    · have h := if_e c6 h
      exact sx_sub [0, 1, 3] rfl (tX7_safe_j44 h0 h k1 k2 k3)
    · have h := if_n c6 h
      refine sx_aload_n (i := 0) (j := 0) dX7_safe_35 rfl rfl ?_
      refine sx_iload_n (i := 1) (j := 1) dX7_safe_36 rfl rfl ?_
      refine sx_iload_n (i := 3) (j := 3) dX7_safe_37 rfl rfl ?_
      obtain ⟨z9, ez9, h⟩ := bd_e h
      refine sx_callV (avs := [.int v1, .int v3]) (rest := [.int v2]) (st1 := [.int z9.1, .int v2]) dX7_safe_38 (mX7_isSafe h0 ez9) ciX7_isSafe (Or.inl wd_1296) (X7_k h0) rfl rfl rfl rfl (rm_m rfl) rfl (Nat.le_of_ble_eq_true rfl) rfl ?_
      refine sx_if_eq (tgt := 50) dX7_safe_41 rfl (fun c10 => ?_) (fun c10 => ?_)
      · have h := if_e c10 h
        refine sx_iconst (v := (0 : Int32)) dX7_safe_50 (by decide) ?_
        refine sx_ior dX7_safe_51 ?_
        refine sx_topi (fun w11 ew11 => ?_)
        have h := lt_e ew11 h
        refine sx_istore_n (i := 2) (lv' := [(0, .ref a0), (1, .int v1), (2, .int w11), (3, .int v3)]) dX7_safe_52 rfl (by decide) rfl ?_
        obtain ⟨w12, ew12⟩ : ∃ w : Int32, w = v3 + (1 : Int32) := ⟨_, rfl⟩
        have h := lt_e ew12 h
        refine sx_iinc (j := 3) (v := w12) (lv' := [(0, .ref a0), (1, .int v1), (2, .int w11), (3, .int w12)]) dX7_safe_53 rfl (ii_1 ew12) (by decide) rfl ?_
        refine sx_goto (tgt := 19) dX7_safe_56 rfl ?_
        obtain rfl := Option.some.inj h
        exact sx_sub [0, 1, 2, 3] rfl (k1 _ rfl)
      · have h := if_n c10 h
        exact sx_sub [0, 1, 3] rfl (tX7_safe_j44 h0 h k1 k2 k3)
set_option maxRecDepth 100000 in
set_option maxHeartbeats 4000000 in
theorem mX7_safe {l : Launch} {E : Ev} {L : HL} {a0 : Nat} {v1 : Int32} {z : Int32 × HL} (h0 : isX7 E a0) (h : fX7_safe a0 v1 L = some z) : Mt l E yX7_safe cX7_safe 4 (some .int) (8) [.ref a0, .int v1] L (some (.int z.1)) (z.2) := by
  obtain ⟨r, hr⟩ : ∃ r : Option Value, r = some (.int z.1) := ⟨_, rfl⟩
  obtain ⟨L', hL'⟩ : ∃ L' : HL, L' = z.2 := ⟨_, rfl⟩
  have k3 : r = some (.int z.1) ∧ L' = z.2 := ⟨hr, hL'⟩
  refine mt_eq hr hL' ?_
  refine Mt.of (plainFor_of_name (by decide)) (Nat.le_of_ble_eq_true rfl) ?_
  refine sx_sub (lv' := [(0, .ref a0), (1, .int v1)]) [0, 1] rfl ?_
  unfold fX7_safe at h
  refine sx_aload_n (i := 0) (j := 0) dX7_safe_0 rfl rfl ?_
  refine sx_iload_n (i := 1) (j := 1) dX7_safe_1 rfl rfl ?_
  obtain ⟨z1, ez1, h⟩ := bd_e h
  refine sx_callV (avs := [.int v1]) (rest := []) (st1 := [.int z1]) dX7_safe_2 (mX7_isOne h0 ez1) ciX7_isOne (Or.inl wd_1204) (X7_k h0) rfl rfl rfl rfl (rm_m rfl) rfl (Nat.le_of_ble_eq_true rfl) rfl ?_
  refine sx_if_ne (tgt := 15) dX7_safe_5 rfl (fun c2 => ?_) (fun c2 => ?_)
  · have h := if_e c2 h
    refine sx_aload_n (i := 0) (j := 0) dX7_safe_8 rfl rfl ?_
    refine sx_bipush (v := (-2 : Int32)) dX7_safe_9 (by decide) ?_
    obtain ⟨z3, ez3, h⟩ := bd_e h
    refine sx_callV (avs := [.int (-2 : Int32)]) (rest := []) (st1 := [.int z3.1]) dX7_safe_11 (mX7_bad h0 ez3) ciX7_bad (Or.inl wd_1094) (X7_k h0) rfl rfl rfl rfl (rm_m rfl) rfl (Nat.le_of_ble_eq_true rfl) rfl ?_
    obtain rfl := Option.some.inj h
    exact sx_iret dX7_safe_14 rfl rfl k3.1 k3.2
  · have h := if_n c2 h
    refine sx_iconst (v := (0 : Int32)) dX7_safe_15 (by decide) ?_
    refine sx_istore_n (i := 2) (lv' := [(0, .ref a0), (1, .int v1), (2, .int (0 : Int32))]) dX7_safe_16 rfl (by decide) rfl ?_
    refine sx_iconst (v := (0 : Int32)) dX7_safe_17 (by decide) ?_
    refine sx_istore_n (i := 3) (lv' := [(0, .ref a0), (1, .int v1), (2, .int (0 : Int32)), (3, .int (0 : Int32))]) dX7_safe_18 rfl (by decide) rfl ?_
    obtain ⟨x14, hx, q1, q2⟩ := lx_e h
    refine sx_sub (lv' := [(0, .ref a0), (1, .int v1), (2, .int (0 : Int32)), (3, .int (0 : Int32))]) [0, 1, 2, 3] rfl ?_
    refine lp_go (fun s13 => Sx l E yX7_safe cX7_safe 4 (some .int) (8) r L' 19 [(0, .ref a0), (1, .int v1), (2, .int s13.1), (3, .int s13.2.1)] [] s13.2.2) x14 (fun s13 z2 hz c1 c2 => ?_) FU _ hx
    refine tX7_safe_b19 h0 hz (fun s2 e => c1 s2 e) (fun s13 e => ?_) (fun v e => ?_)
    · have h := q1 _ (c2 _ e).symm
      refine sx_iload_n (i := 2) (j := 0) dX7_safe_59 rfl rfl ?_
      obtain rfl := Option.some.inj h
      exact sx_iret dX7_safe_60 rfl rfl k3.1 k3.2
    · have e2 := Option.some.inj (q2 _ (c2 _ e).symm)
      subst e2
      exact k3
set_option maxRecDepth 100000 in
set_option maxHeartbeats 4000000 in
theorem tX7_layHomes_b11 {l : Launch} {E : Ev} {r : Option Value} {L' L : HL} {a0 : Nat} {v2 : Int32} {v3 : Int32} {z : Tn (Int32 × Int32 × HL) (HL)} (h0 : isX7 E a0) (h : fX7_layHomes_b11 a0 v2 v3 L = some z) (k1 : ∀ s, z = .inl s → Sx l E yX7_layHomes cX7_layHomes 4 (none) (1) r L' 11 [(0, .ref a0), (2, .int s.1), (3, .int s.2.1)] [] s.2.2) (k2 : ∀ s, z = .inr (.inl s) → Sx l E yX7_layHomes cX7_layHomes 4 (none) (1) r L' 34 [] [] s.2.2) (k3 : ∀ v, z = .inr (.inr v) → r = none ∧ L' = v) : Sx l E yX7_layHomes cX7_layHomes 4 (none) (1) r L' 11 [(0, .ref a0), (2, .int v2), (3, .int v3)] [] L := by
  unfold fX7_layHomes_b11 at h
  refine sx_iload_n (i := 3) (j := 2) dX7_layHomes_11 rfl rfl ?_
  refine sx_if_lt (tgt := 34) dX7_layHomes_12 rfl (fun c2 => ?_) (fun c2 => ?_)
  · have h := if_e c2 h
    obtain rfl := Option.some.inj h
    exact sx_sub [] rfl (k2 _ rfl)
  · have h := if_n c2 h
    refine sx_aload_n (i := 0) (j := 0) dX7_layHomes_15 rfl rfl ?_
    refine sx_get (k := 19) (v := .ref (a0 + 11)) dX7_layHomes_16 (X7_k h0) cf_7 (Or.inl wd_975) (by decide : 19 < 20) (congrArg Value.ref (X7_r19 h0)) ?_
    refine sx_iload_n (i := 3) (j := 2) dX7_layHomes_19 rfl rfl ?_
    refine sx_iload_n (i := 2) (j := 1) dX7_layHomes_20 rfl rfl ?_
    refine sx_iconst (v := (5 : Int32)) dX7_layHomes_21 (by decide) ?_
    refine sx_irem dX7_layHomes_22 (by decide) ?_
    obtain ⟨c3, h⟩ := gd_e h
    refine sx_iast dX7_layHomes_23 (X7_a19 h0) c3 (fun L4 eL4 => ?_)
    have h := lt_e eL4 h
    refine sx_iload_n (i := 2) (j := 1) dX7_layHomes_24 rfl rfl ?_
    refine sx_iconst (v := (5 : Int32)) dX7_layHomes_25 (by decide) ?_
    refine sx_idiv dX7_layHomes_26 (by decide) ?_
    refine sx_topi (fun w5 ew5 => ?_)
    have h := lt_e ew5 h
    refine sx_istore_n (i := 2) (lv' := [(0, .ref a0), (2, .int w5), (3, .int v3)]) dX7_layHomes_27 rfl (by decide) rfl ?_
    obtain ⟨w6, ew6⟩ : ∃ w : Int32, w = v3 + (-1 : Int32) := ⟨_, rfl⟩
    have h := lt_e ew6 h
    refine sx_iinc (j := 2) (v := w6) (lv' := [(0, .ref a0), (2, .int w5), (3, .int w6)]) dX7_layHomes_28 rfl (ii_m1 ew6) (by decide) rfl ?_
    refine sx_goto (tgt := 11) dX7_layHomes_31 rfl ?_
    obtain rfl := Option.some.inj h
    exact sx_sub [0, 1, 2] rfl (k1 _ rfl)
set_option maxRecDepth 100000 in
set_option maxHeartbeats 4000000 in
theorem mX7_layHomes {l : Launch} {E : Ev} {L : HL} {a0 : Nat} {v1 : Int32} {z : HL} (h0 : isX7 E a0) (h : fX7_layHomes a0 v1 L = some z) : Mt l E yX7_layHomes cX7_layHomes 4 (none) (1) [.ref a0, .int v1] L (none) z := by
  obtain ⟨r, hr⟩ : ∃ r : Option Value, r = none := ⟨_, rfl⟩
  obtain ⟨L', hL'⟩ : ∃ L' : HL, L' = z := ⟨_, rfl⟩
  have k3 : r = none ∧ L' = z := ⟨hr, hL'⟩
  refine mt_eq hr hL' ?_
  refine Mt.of (plainFor_of_name (by decide)) (Nat.le_of_ble_eq_true rfl) ?_
  refine sx_sub (lv' := [(0, .ref a0), (1, .int v1)]) [0, 1] rfl ?_
  unfold fX7_layHomes at h
  refine sx_iload_n (i := 1) (j := 1) dX7_layHomes_0 rfl rfl ?_
  refine sx_istore_n (i := 2) (lv' := [(0, .ref a0), (1, .int v1), (2, .int v1)]) dX7_layHomes_1 rfl (by decide) rfl ?_
  refine sx_aload_n (i := 0) (j := 0) dX7_layHomes_2 rfl rfl ?_
  refine sx_get (k := 0) (v := .ref (a0 + 1)) dX7_layHomes_3 (X7_k h0) cf_7 (Or.inl wd_956) (by decide : 0 < 20) (congrArg Value.ref (X7_r0 h0)) ?_
  refine sx_iconst (v := (1 : Int32)) dX7_layHomes_6 (by decide) ?_
  refine sx_iald dX7_layHomes_7 (X7_a0 h0) (show vin (1 : Int32) 228 from by decide) ?_
  refine sx_iconst (v := (1 : Int32)) dX7_layHomes_8 (by decide) ?_
  refine sx_isub dX7_layHomes_9 ?_
  refine sx_topi (fun w1 ew1 => ?_)
  have h := lt_e ew1 h
  refine sx_istore_n (i := 3) (lv' := [(0, .ref a0), (1, .int v1), (2, .int v1), (3, .int w1)]) dX7_layHomes_10 rfl (by decide) rfl ?_
  obtain ⟨x8, hx, q1, q2⟩ := lx_e h
  refine sx_sub (lv' := [(0, .ref a0), (2, .int v1), (3, .int w1)]) [0, 2, 3] rfl ?_
  refine lp_go (fun s7 => Sx l E yX7_layHomes cX7_layHomes 4 (none) (1) r L' 11 [(0, .ref a0), (2, .int s7.1), (3, .int s7.2.1)] [] s7.2.2) x8 (fun s7 z2 hz c1 c2 => ?_) FU _ hx
  refine tX7_layHomes_b11 h0 hz (fun s2 e => c1 s2 e) (fun s7 e => ?_) (fun v e => ?_)
  · have h := q1 _ (c2 _ e).symm
    obtain rfl := Option.some.inj h
    exact sx_vret dX7_layHomes_34 rfl k3.1 k3.2
  · have e2 := Option.some.inj (q2 _ (c2 _ e).symm)
    subst e2
    exact k3
set_option maxRecDepth 100000 in
set_option maxHeartbeats 4000000 in
theorem tX7_moving_j85 {l : Launch} {E : Ev} {r : Option Value} {L' L : HL} {a0 : Nat} {v1 : Int32} {v2 : Int32} {v3 : Int32} {s0 : Int32} {s1 : Int32} {z : Tn (Int32 × Int32 × Int32 × HL) (Int32 × HL)} (h0 : isX7 E a0) (h : fX7_moving_j85 a0 v1 v2 v3 s0 s1 L = some z) (k1 : ∀ s, z = .inl s → Sx l E yX7_moving cX7_moving 5 (some .int) (3) r L' 10 [(0, .ref a0), (1, .int s.1), (2, .int s.2.1), (3, .int s.2.2.1)] [] s.2.2.2) (k2 : ∀ s, z = .inr (.inl s) → Sx l E yX7_moving cX7_moving 5 (some .int) (3) r L' 108 [(0, .ref a0), (1, .int s.1), (2, .int s.2.1)] [] s.2.2.2) (k3 : ∀ v, z = .inr (.inr v) → r = some (.int v.1) ∧ L' = v.2) : Sx l E yX7_moving cX7_moving 5 (some .int) (3) r L' 85 [(0, .ref a0), (2, .int v2), (3, .int v3)] [.int s1, .int s0] L := by
  unfold fX7_moving_j85 at h
  refine sx_iadd dX7_moving_85 ?_
  refine sx_topi (fun w7 ew7 => ?_)
  have h := lt_e ew7 h
  refine sx_istore_n (i := 1) (lv' := [(0, .ref a0), (1, .int w7), (2, .int v2), (3, .int v3)]) dX7_moving_86 rfl (by decide) rfl ?_
  refine sx_aload_n (i := 0) (j := 0) dX7_moving_87 rfl rfl ?_
  refine sx_get (k := 17) (v := .ref (a0 + 9)) dX7_moving_88 (X7_k h0) cf_7 (Or.inl wd_973) (by decide : 17 < 20) (congrArg Value.ref (X7_r17 h0)) ?_
  refine sx_bipush (v := (70 : Int32)) dX7_moving_91 (by decide) ?_
  refine sx_iload_n (i := 3) (j := 3) dX7_moving_93 rfl rfl ?_
  refine sx_iadd dX7_moving_94 ?_
  refine sx_aload_n (i := 0) (j := 0) dX7_moving_95 rfl rfl ?_
  refine sx_get (k := 19) (v := .ref (a0 + 11)) dX7_moving_96 (X7_k h0) cf_7 (Or.inl wd_975) (by decide : 19 < 20) (congrArg Value.ref (X7_r19 h0)) ?_
  refine sx_iload_n (i := 3) (j := 3) dX7_moving_99 rfl rfl ?_
  obtain ⟨c8, h⟩ := gd_e h
  refine sx_iald dX7_moving_100 (X7_a19 h0) c8 ?_
  obtain ⟨c9, h⟩ := gd_e h
  refine sx_iast dX7_moving_101 (X7_a17 h0) c9 (fun L10 eL10 => ?_)
  have h := lt_e eL10 h
  obtain ⟨w11, ew11⟩ : ∃ w : Int32, w = v3 + (1 : Int32) := ⟨_, rfl⟩
  have h := lt_e ew11 h
  refine sx_iinc (j := 3) (v := w11) (lv' := [(0, .ref a0), (1, .int w7), (2, .int v2), (3, .int w11)]) dX7_moving_102 rfl (ii_1 ew11) (by decide) rfl ?_
  refine sx_goto (tgt := 10) dX7_moving_105 rfl ?_
  obtain rfl := Option.some.inj h
  exact sx_sub [0, 1, 2, 3] rfl (k1 _ rfl)
set_option maxRecDepth 100000 in
set_option maxHeartbeats 4000000 in
theorem tX7_moving_j60 {l : Launch} {E : Ev} {r : Option Value} {L' L : HL} {a0 : Nat} {v1 : Int32} {v2 : Int32} {v3 : Int32} {s0 : Int32} {z : Tn (Int32 × Int32 × Int32 × HL) (Int32 × HL)} (h0 : isX7 E a0) (h : fX7_moving_j60 a0 v1 v2 v3 s0 L = some z) (k1 : ∀ s, z = .inl s → Sx l E yX7_moving cX7_moving 5 (some .int) (3) r L' 10 [(0, .ref a0), (1, .int s.1), (2, .int s.2.1), (3, .int s.2.2.1)] [] s.2.2.2) (k2 : ∀ s, z = .inr (.inl s) → Sx l E yX7_moving cX7_moving 5 (some .int) (3) r L' 108 [(0, .ref a0), (1, .int s.1), (2, .int s.2.1)] [] s.2.2.2) (k3 : ∀ v, z = .inr (.inr v) → r = some (.int v.1) ∧ L' = v.2) : Sx l E yX7_moving cX7_moving 5 (some .int) (3) r L' 60 [(0, .ref a0), (1, .int v1), (3, .int v3)] [.int s0] L := by
  unfold fX7_moving_j60 at h
  refine sx_istore_n (i := 2) (lv' := [(0, .ref a0), (1, .int v1), (2, .int s0), (3, .int v3)]) dX7_moving_60 rfl (by decide) rfl ?_
  refine sx_iload_n (i := 1) (j := 1) dX7_moving_61 rfl rfl ?_
  refine sx_aload_n (i := 0) (j := 0) dX7_moving_62 rfl rfl ?_
  refine sx_get (k := 0) (v := .ref (a0 + 1)) dX7_moving_63 (X7_k h0) cf_7 (Or.inl wd_956) (by decide : 0 < 20) (congrArg Value.ref (X7_r0 h0)) ?_
  refine sx_bipush (v := (70 : Int32)) dX7_moving_66 (by decide) ?_
  refine sx_iload_n (i := 3) (j := 3) dX7_moving_68 rfl rfl ?_
  refine sx_iadd dX7_moving_69 ?_
  obtain ⟨c4, h⟩ := gd_e h
  refine sx_iald dX7_moving_70 (X7_a0 h0) c4 ?_
  refine sx_aload_n (i := 0) (j := 0) dX7_moving_71 rfl rfl ?_
  refine sx_get (k := 19) (v := .ref (a0 + 11)) dX7_moving_72 (X7_k h0) cf_7 (Or.inl wd_975) (by decide : 19 < 20) (congrArg Value.ref (X7_r19 h0)) ?_
  refine sx_iload_n (i := 3) (j := 3) dX7_moving_75 rfl rfl ?_
  obtain ⟨c5, h⟩ := gd_e h
  refine sx_iald dX7_moving_76 (X7_a19 h0) c5 ?_
  refine sx_icmp_ne (tgt := 84) dX7_moving_77 rfl (fun c6 => ?_) (fun c6 => ?_)
  · have h := if_e c6 h
    refine sx_iconst (v := (0 : Int32)) dX7_moving_80 (by decide) ?_
    refine sx_goto (tgt := 85) dX7_moving_81 rfl ?_
    exact sx_sub [0, 2, 3] rfl (tX7_moving_j85 h0 h k1 k2 k3)
  · have h := if_n c6 h
    refine sx_iconst (v := (1 : Int32)) dX7_moving_84 (by decide) ?_
    exact sx_sub [0, 2, 3] rfl (tX7_moving_j85 h0 h k1 k2 k3)
set_option maxRecDepth 100000 in
set_option maxHeartbeats 4000000 in
theorem tX7_moving_j59 {l : Launch} {E : Ev} {r : Option Value} {L' L : HL} {a0 : Nat} {v1 : Int32} {v2 : Int32} {v3 : Int32} {z : Tn (Int32 × Int32 × Int32 × HL) (Int32 × HL)} (h0 : isX7 E a0) (h : fX7_moving_j59 a0 v1 v2 v3 L = some z) (k1 : ∀ s, z = .inl s → Sx l E yX7_moving cX7_moving 5 (some .int) (3) r L' 10 [(0, .ref a0), (1, .int s.1), (2, .int s.2.1), (3, .int s.2.2.1)] [] s.2.2.2) (k2 : ∀ s, z = .inr (.inl s) → Sx l E yX7_moving cX7_moving 5 (some .int) (3) r L' 108 [(0, .ref a0), (1, .int s.1), (2, .int s.2.1)] [] s.2.2.2) (k3 : ∀ v, z = .inr (.inr v) → r = some (.int v.1) ∧ L' = v.2) : Sx l E yX7_moving cX7_moving 5 (some .int) (3) r L' 59 [(0, .ref a0), (1, .int v1), (3, .int v3)] [] L := by
  unfold fX7_moving_j59 at h
  refine sx_iconst (v := (0 : Int32)) dX7_moving_59 (by decide) ?_
  exact sx_sub [0, 1, 2] rfl (tX7_moving_j60 h0 h k1 k2 k3)
set_option maxRecDepth 100000 in
set_option maxHeartbeats 4000000 in
theorem tX7_moving_b10 {l : Launch} {E : Ev} {r : Option Value} {L' L : HL} {a0 : Nat} {v1 : Int32} {v2 : Int32} {v3 : Int32} {z : Tn (Int32 × Int32 × Int32 × HL) (Int32 × HL)} (h0 : isX7 E a0) (h : fX7_moving_b10 a0 v1 v2 v3 L = some z) (k1 : ∀ s, z = .inl s → Sx l E yX7_moving cX7_moving 5 (some .int) (3) r L' 10 [(0, .ref a0), (1, .int s.1), (2, .int s.2.1), (3, .int s.2.2.1)] [] s.2.2.2) (k2 : ∀ s, z = .inr (.inl s) → Sx l E yX7_moving cX7_moving 5 (some .int) (3) r L' 108 [(0, .ref a0), (1, .int s.1), (2, .int s.2.1)] [] s.2.2.2) (k3 : ∀ v, z = .inr (.inr v) → r = some (.int v.1) ∧ L' = v.2) : Sx l E yX7_moving cX7_moving 5 (some .int) (3) r L' 10 [(0, .ref a0), (1, .int v1), (2, .int v2), (3, .int v3)] [] L := by
  unfold fX7_moving_b10 at h
  refine sx_iload_n (i := 3) (j := 3) dX7_moving_10 rfl rfl ?_
  refine sx_aload_n (i := 0) (j := 0) dX7_moving_11 rfl rfl ?_
  refine sx_get (k := 0) (v := .ref (a0 + 1)) dX7_moving_12 (X7_k h0) cf_7 (Or.inl wd_956) (by decide : 0 < 20) (congrArg Value.ref (X7_r0 h0)) ?_
  refine sx_iconst (v := (1 : Int32)) dX7_moving_15 (by decide) ?_
  refine sx_iald dX7_moving_16 (X7_a0 h0) (show vin (1 : Int32) 228 from by decide) ?_
  refine sx_icmp_ge (tgt := 108) dX7_moving_17 rfl (fun c2 => ?_) (fun c2 => ?_)
  · have h := if_e c2 h
    obtain rfl := Option.some.inj h
    exact sx_sub [0, 1, 2] rfl (k2 _ rfl)
  · have h := if_n c2 h
    refine sx_iload_n (i := 2) (j := 2) dX7_moving_20 rfl rfl ?_
    refine sx_if_eq (tgt := 59) dX7_moving_21 rfl (fun c3 => ?_) (fun c3 => ?_)
    · have h := if_e c3 h
      exact sx_sub [0, 1, 3] rfl (tX7_moving_j59 h0 h k1 k2 k3)
    · have h := if_n c3 h
      refine sx_aload_n (i := 0) (j := 0) dX7_moving_24 rfl rfl ?_
      refine sx_aload_n (i := 0) (j := 0) dX7_moving_25 rfl rfl ?_
      refine sx_get (k := 19) (v := .ref (a0 + 11)) dX7_moving_26 (X7_k h0) cf_7 (Or.inl wd_975) (by decide : 19 < 20) (congrArg Value.ref (X7_r19 h0)) ?_
      refine sx_iload_n (i := 3) (j := 3) dX7_moving_29 rfl rfl ?_
      obtain ⟨c12, h⟩ := gd_e h
      refine sx_iald dX7_moving_30 (X7_a19 h0) c12 ?_
      obtain ⟨z13, ez13, h⟩ := bd_e h
      refine sx_callV (avs := [.int (L.1 (a0 + 11) v3.toNatClampNeg)]) (rest := []) (st1 := [.int z13]) dX7_moving_31 (mX7_isHouse h0 ez13) ciX7_isHouse (Or.inl wd_1047) (X7_k h0) rfl rfl rfl rfl (rm_m rfl) rfl (Nat.le_of_ble_eq_true rfl) rfl ?_
      refine sx_if_eq (tgt := 59) dX7_moving_34 rfl (fun c14 => ?_) (fun c14 => ?_)
      · have h := if_e c14 h
        exact sx_sub [0, 1, 3] rfl (tX7_moving_j59 h0 h k1 k2 k3)
      · have h := if_n c14 h
        refine sx_aload_n (i := 0) (j := 0) dX7_moving_37 rfl rfl ?_
        refine sx_get (k := 0) (v := .ref (a0 + 1)) dX7_moving_38 (X7_k h0) cf_7 (Or.inl wd_956) (by decide : 0 < 20) (congrArg Value.ref (X7_r0 h0)) ?_
        refine sx_bipush (v := (29 : Int32)) dX7_moving_41 (by decide) ?_
        refine sx_aload_n (i := 0) (j := 0) dX7_moving_43 rfl rfl ?_
        refine sx_get (k := 19) (v := .ref (a0 + 11)) dX7_moving_44 (X7_k h0) cf_7 (Or.inl wd_975) (by decide : 19 < 20) (congrArg Value.ref (X7_r19 h0)) ?_
        refine sx_iload_n (i := 3) (j := 3) dX7_moving_47 rfl rfl ?_
        obtain ⟨c15, h⟩ := gd_e h
        refine sx_iald dX7_moving_48 (X7_a19 h0) c15 ?_
        refine sx_iadd dX7_moving_49 ?_
        obtain ⟨c16, h⟩ := gd_e h
        refine sx_iald dX7_moving_50 (X7_a0 h0) c16 ?_
        refine sx_iconst (v := (1 : Int32)) dX7_moving_51 (by decide) ?_
        refine sx_icmp_ne (tgt := 59) dX7_moving_52 rfl (fun c17 => ?_) (fun c17 => ?_)
        · have h := if_e c17 h
          refine sx_iconst (v := (1 : Int32)) dX7_moving_55 (by decide) ?_
          refine sx_goto (tgt := 60) dX7_moving_56 rfl ?_
          exact sx_sub [0, 1, 3] rfl (tX7_moving_j60 h0 h k1 k2 k3)
        · have h := if_n c17 h
          exact sx_sub [0, 1, 3] rfl (tX7_moving_j59 h0 h k1 k2 k3)
set_option maxRecDepth 100000 in
set_option maxHeartbeats 4000000 in
theorem tX7_moving_b110 {l : Launch} {E : Ev} {r : Option Value} {L' L : HL} {a0 : Nat} {v1 : Int32} {v2 : Int32} {v3 : Int32} {z : Tn (Int32 × Int32) (Int32 × HL)} (h0 : isX7 E a0) (h : fX7_moving_b110 a0 v1 v2 v3 L = some z) (k1 : ∀ s, z = .inl s → Sx l E yX7_moving cX7_moving 5 (some .int) (3) r L' 110 [(0, .ref a0), (1, .int v1), (2, .int s.1), (3, .int s.2)] [] L) (k2 : ∀ s, z = .inr (.inl s) → Sx l E yX7_moving cX7_moving 5 (some .int) (3) r L' 176 [(1, .int v1), (2, .int s.1)] [] L) (k3 : ∀ v, z = .inr (.inr v) → r = some (.int v.1) ∧ L' = v.2) : Sx l E yX7_moving cX7_moving 5 (some .int) (3) r L' 110 [(0, .ref a0), (1, .int v1), (2, .int v2), (3, .int v3)] [] L := by
  unfold fX7_moving_b110 at h
  refine sx_iload_n (i := 3) (j := 3) dX7_moving_110 rfl rfl ?_
  refine sx_aload_n (i := 0) (j := 0) dX7_moving_111 rfl rfl ?_
  refine sx_get (k := 0) (v := .ref (a0 + 1)) dX7_moving_112 (X7_k h0) cf_7 (Or.inl wd_956) (by decide : 0 < 20) (congrArg Value.ref (X7_r0 h0)) ?_
  refine sx_iconst (v := (0 : Int32)) dX7_moving_115 (by decide) ?_
  refine sx_iald dX7_moving_116 (X7_a0 h0) (show vin (0 : Int32) 228 from by decide) ?_
  refine sx_icmp_ge (tgt := 176) dX7_moving_117 rfl (fun c19 => ?_) (fun c19 => ?_)
  · have h := if_e c19 h
    obtain rfl := Option.some.inj h
    exact sx_sub [1, 2] rfl (k2 _ rfl)
  · have h := if_n c19 h
    refine sx_iload_n (i := 2) (j := 2) dX7_moving_120 rfl rfl ?_
    refine sx_if_eq (tgt := 176) dX7_moving_121 rfl (fun c20 => ?_) (fun c20 => ?_)
    · have h := if_e c20 h
      obtain rfl := Option.some.inj h
      exact sx_sub [1, 2] rfl (k2 _ rfl)
    · have h := if_n c20 h
      refine sx_aload_n (i := 0) (j := 0) dX7_moving_124 rfl rfl ?_
      refine sx_get (k := 17) (v := .ref (a0 + 9)) dX7_moving_125 (X7_k h0) cf_7 (Or.inl wd_973) (by decide : 17 < 20) (congrArg Value.ref (X7_r17 h0)) ?_
      refine sx_iload_n (i := 3) (j := 3) dX7_moving_128 rfl rfl ?_
      obtain ⟨z21, ez21, h⟩ := bd_e h
      refine sx_callS (avs := [.ref (a0 + 9), .int v3]) (rest := []) (st1 := [.int z21]) dX7_moving_129 (mX7_livingIn (X7_a17 h0) ez21) ctX7_livingIn (Or.inl wd_1173) rfl rfl (rm_m rfl) rfl (Nat.le_of_ble_eq_true rfl) rfl ?_
      refine sx_istore (lv' := [(0, .ref a0), (1, .int v1), (2, .int v2), (3, .int v3), (4, .int z21)]) dX7_moving_132 (by decide) rfl ?_
      refine sx_iload (j := 4) dX7_moving_134 rfl ?_
      obtain ⟨z22, ez22, h⟩ := bd_e h
      refine sx_callS (avs := [.int z21]) (rest := []) (st1 := [.int z22]) dX7_moving_136 (mX7_bits ez22) ctX7_bits (Or.inl wd_1176) rfl rfl (rm_m rfl) rfl (Nat.le_of_ble_eq_true rfl) rfl ?_
      refine sx_aload_n (i := 0) (j := 0) dX7_moving_139 rfl rfl ?_
      refine sx_get (k := 17) (v := .ref (a0 + 9)) dX7_moving_140 (X7_k h0) cf_7 (Or.inl wd_973) (by decide : 17 < 20) (congrArg Value.ref (X7_r17 h0)) ?_
      refine sx_iconst (v := (4 : Int32)) dX7_moving_143 (by decide) ?_
      refine sx_iload_n (i := 3) (j := 3) dX7_moving_144 rfl rfl ?_
      refine sx_iadd dX7_moving_145 ?_
      obtain ⟨c23, h⟩ := gd_e h
      refine sx_iald dX7_moving_146 (X7_a17 h0) c23 ?_
      refine sx_icmp_gt (tgt := 168) dX7_moving_147 rfl (fun c24 => ?_) (fun c24 => ?_)
      · have h := if_e c24 h
        refine sx_iconst (v := (0 : Int32)) dX7_moving_168 (by decide) ?_
        refine sx_istore_n (i := 2) (lv' := [(0, .ref a0), (1, .int v1), (2, .int (0 : Int32)), (3, .int v3), (4, .int z21)]) dX7_moving_169 rfl (by decide) rfl ?_
        obtain ⟨w25, ew25⟩ : ∃ w : Int32, w = v3 + (1 : Int32) := ⟨_, rfl⟩
        have h := lt_e ew25 h
        refine sx_iinc (j := 3) (v := w25) (lv' := [(0, .ref a0), (1, .int v1), (2, .int (0 : Int32)), (3, .int w25), (4, .int z21)]) dX7_moving_170 rfl (ii_1 ew25) (by decide) rfl ?_
        refine sx_goto (tgt := 110) dX7_moving_173 rfl ?_
        obtain rfl := Option.some.inj h
        exact sx_sub [0, 1, 2, 3] rfl (k1 _ rfl)
      · have h := if_n c24 h
        refine sx_aload_n (i := 0) (j := 0) dX7_moving_150 rfl rfl ?_
        refine sx_get (k := 17) (v := .ref (a0 + 9)) dX7_moving_151 (X7_k h0) cf_7 (Or.inl wd_973) (by decide : 17 < 20) (congrArg Value.ref (X7_r17 h0)) ?_
        refine sx_iload (j := 4) dX7_moving_154 rfl ?_
        refine sx_iload (j := 4) dX7_moving_156 rfl ?_
        obtain ⟨z26, ez26, h⟩ := bd_e h
        refine sx_callS (avs := [.ref (a0 + 9), .int z21, .int z21]) (rest := []) (st1 := [.int z26]) dX7_moving_158 (mX7_isFeud (X7_a17 h0) ez26) ctX7_isFeud (Or.inl wd_1179) rfl rfl (rm_m rfl) rfl (Nat.le_of_ble_eq_true rfl) rfl ?_
        refine sx_if_ne (tgt := 168) dX7_moving_161 rfl (fun c27 => ?_) (fun c27 => ?_)
        · have h := if_e c27 h
          refine sx_iconst (v := (1 : Int32)) dX7_moving_164 (by decide) ?_
          refine sx_goto (tgt := 169) dX7_moving_165 rfl ?_
          refine sx_istore_n (i := 2) (lv' := [(0, .ref a0), (1, .int v1), (2, .int (1 : Int32)), (3, .int v3), (4, .int z21)]) dX7_moving_169 rfl (by decide) rfl ?_
          obtain ⟨w28, ew28⟩ : ∃ w : Int32, w = v3 + (1 : Int32) := ⟨_, rfl⟩
          have h := lt_e ew28 h
          refine sx_iinc (j := 3) (v := w28) (lv' := [(0, .ref a0), (1, .int v1), (2, .int (1 : Int32)), (3, .int w28), (4, .int z21)]) dX7_moving_170 rfl (ii_1 ew28) (by decide) rfl ?_
          refine sx_goto (tgt := 110) dX7_moving_173 rfl ?_
          obtain rfl := Option.some.inj h
          exact sx_sub [0, 1, 2, 3] rfl (k1 _ rfl)
        · have h := if_n c27 h
          refine sx_iconst (v := (0 : Int32)) dX7_moving_168 (by decide) ?_
          refine sx_istore_n (i := 2) (lv' := [(0, .ref a0), (1, .int v1), (2, .int (0 : Int32)), (3, .int v3), (4, .int z21)]) dX7_moving_169 rfl (by decide) rfl ?_
          obtain ⟨w29, ew29⟩ : ∃ w : Int32, w = v3 + (1 : Int32) := ⟨_, rfl⟩
          have h := lt_e ew29 h
          refine sx_iinc (j := 3) (v := w29) (lv' := [(0, .ref a0), (1, .int v1), (2, .int (0 : Int32)), (3, .int w29), (4, .int z21)]) dX7_moving_170 rfl (ii_1 ew29) (by decide) rfl ?_
          refine sx_goto (tgt := 110) dX7_moving_173 rfl ?_
          obtain rfl := Option.some.inj h
          exact sx_sub [0, 1, 2, 3] rfl (k1 _ rfl)
set_option maxRecDepth 100000 in
set_option maxHeartbeats 4000000 in
theorem mX7_moving {l : Launch} {E : Ev} {L : HL} {a0 : Nat} {z : Int32 × HL} (h0 : isX7 E a0) (h : fX7_moving a0 L = some z) : Mt l E yX7_moving cX7_moving 5 (some .int) (3) [.ref a0] L (some (.int z.1)) (z.2) := by
  obtain ⟨r, hr⟩ : ∃ r : Option Value, r = some (.int z.1) := ⟨_, rfl⟩
  obtain ⟨L', hL'⟩ : ∃ L' : HL, L' = z.2 := ⟨_, rfl⟩
  have k3 : r = some (.int z.1) ∧ L' = z.2 := ⟨hr, hL'⟩
  refine mt_eq hr hL' ?_
  refine Mt.of (plainFor_of_name (by decide)) (Nat.le_of_ble_eq_true rfl) ?_
  refine sx_sub (lv' := [(0, .ref a0)]) [0] rfl ?_
  unfold fX7_moving at h
  refine sx_aload_n (i := 0) (j := 0) dX7_moving_0 rfl rfl ?_
  obtain ⟨z1, ez1, h⟩ := bd_e h
  refine sx_callV (avs := []) (rest := []) (st1 := []) dX7_moving_1 (mX7_layDay h0 ez1) ciX7_layDay (Or.inl wd_1252) (X7_k h0) rfl rfl rfl rfl (rm_m rfl) rfl (Nat.le_of_ble_eq_true rfl) rfl ?_
  refine sx_iconst (v := (0 : Int32)) dX7_moving_4 (by decide) ?_
  refine sx_istore_n (i := 1) (lv' := [(0, .ref a0), (1, .int (0 : Int32))]) dX7_moving_5 rfl (by decide) rfl ?_
  refine sx_iconst (v := (1 : Int32)) dX7_moving_6 (by decide) ?_
  refine sx_istore_n (i := 2) (lv' := [(0, .ref a0), (1, .int (0 : Int32)), (2, .int (1 : Int32))]) dX7_moving_7 rfl (by decide) rfl ?_
  refine sx_iconst (v := (0 : Int32)) dX7_moving_8 (by decide) ?_
  refine sx_istore_n (i := 3) (lv' := [(0, .ref a0), (1, .int (0 : Int32)), (2, .int (1 : Int32)), (3, .int (0 : Int32))]) dX7_moving_9 rfl (by decide) rfl ?_
  obtain ⟨x33, hx, q1, q2⟩ := lx_e h
  refine sx_sub (lv' := [(0, .ref a0), (1, .int (0 : Int32)), (2, .int (1 : Int32)), (3, .int (0 : Int32))]) [0, 1, 2, 3] rfl ?_
  refine lp_go (fun s18 => Sx l E yX7_moving cX7_moving 5 (some .int) (3) r L' 10 [(0, .ref a0), (1, .int s18.1), (2, .int s18.2.1), (3, .int s18.2.2.1)] [] s18.2.2.2) x33 (fun s18 z2 hz c1 c2 => ?_) FU _ hx
  refine tX7_moving_b10 h0 hz (fun s2 e => c1 s2 e) (fun s18 e => ?_) (fun v e => ?_)
  · have h := q1 _ (c2 _ e).symm
    refine sx_iconst (v := (0 : Int32)) dX7_moving_108 (by decide) ?_
    refine sx_istore_n (i := 3) (lv' := [(0, .ref a0), (1, .int s18.1), (2, .int s18.2.1), (3, .int (0 : Int32))]) dX7_moving_109 rfl (by decide) rfl ?_
    obtain ⟨x32, hx, q1, q2⟩ := lx_e h
    refine sx_sub (lv' := [(0, .ref a0), (1, .int s18.1), (2, .int s18.2.1), (3, .int (0 : Int32))]) [0, 1, 2, 3] rfl ?_
    refine lp_go (fun s30 => Sx l E yX7_moving cX7_moving 5 (some .int) (3) r L' 110 [(0, .ref a0), (1, .int s18.1), (2, .int s30.1), (3, .int s30.2)] [] s18.2.2.2) x32 (fun s30 z2 hz c1 c2 => ?_) FU _ hx
    refine tX7_moving_b110 h0 hz (fun s2 e => c1 s2 e) (fun s30 e => ?_) (fun v e => ?_)
    · have h := q1 _ (c2 _ e).symm
      refine sx_iload_n (i := 2) (j := 1) dX7_moving_176 rfl rfl ?_
      refine sx_if_eq (tgt := 184) dX7_moving_177 rfl (fun c31 => ?_) (fun c31 => ?_)
      · have h := if_e c31 h
        refine sx_ldc (v := (1000000 : Int32)) dX7_moving_184 wd_1169 ?_
        obtain rfl := Option.some.inj h
        exact sx_iret dX7_moving_186 rfl rfl k3.1 k3.2
      · have h := if_n c31 h
        refine sx_iload_n (i := 1) (j := 0) dX7_moving_180 rfl rfl ?_
        refine sx_goto (tgt := 186) dX7_moving_181 rfl ?_
        obtain rfl := Option.some.inj h
        exact sx_iret dX7_moving_186 rfl rfl k3.1 k3.2
    · have e2 := Option.some.inj (q2 _ (c2 _ e).symm)
      subst e2
      exact k3
  · have e2 := Option.some.inj (q2 _ (c2 _ e).symm)
    subst e2
    exact k3
set_option maxRecDepth 100000 in
set_option maxHeartbeats 4000000 in
theorem tX7_moves_j58 {l : Launch} {E : Ev} {r : Option Value} {L' L : HL} {a0 : Nat} {v1 : Int32} {v2 : Int32} {v3 : Int32} {v4 : Int32} {v5 : Int32} {s0 : Int32} {z : Tn (Int32 × Int32 × Int32 × HL) (Int32 × HL)} (h0 : isX7 E a0) (h : fX7_moves_j58 a0 v1 v2 v3 v4 v5 s0 L = some z) (k1 : ∀ s, z = .inl s → Sx l E yX7_moves cX7_moves 6 (some .int) (4) r L' 20 [(0, .ref a0), (1, .int v1), (2, .int s.1), (3, .int s.2.1), (4, .int s.2.2.1)] [] s.2.2.2) (k2 : ∀ s, z = .inr (.inl s) → Sx l E yX7_moves cX7_moves 6 (some .int) (4) r L' 78 [(0, .ref a0), (1, .int v1), (2, .int s.1), (3, .int s.2.1)] [] s.2.2.2) (k3 : ∀ v, z = .inr (.inr v) → r = some (.int v.1) ∧ L' = v.2) : Sx l E yX7_moves cX7_moves 6 (some .int) (4) r L' 58 [(0, .ref a0), (1, .int v1), (3, .int v3), (4, .int v4), (5, .int v5)] [.int s0] L := by
  unfold fX7_moves_j58 at h
  refine sx_istore_n (i := 2) (lv' := [(0, .ref a0), (1, .int v1), (2, .int s0), (3, .int v3), (4, .int v4), (5, .int v5)]) dX7_moves_58 rfl (by decide) rfl ?_
  refine sx_iload (j := 5) dX7_moves_59 rfl ?_
  refine sx_iload_n (i := 3) (j := 3) dX7_moves_61 rfl rfl ?_
  refine sx_icmp_ge (tgt := 70) dX7_moves_62 rfl (fun c7 => ?_) (fun c7 => ?_)
  · have h := if_e c7 h
    refine sx_iload_n (i := 3) (j := 3) dX7_moves_70 rfl rfl ?_
    refine sx_istore_n (i := 3) (lv' := [(0, .ref a0), (1, .int v1), (2, .int s0), (3, .int v3), (4, .int v4), (5, .int v5)]) dX7_moves_71 rfl (by decide) rfl ?_
    obtain ⟨w8, ew8⟩ : ∃ w : Int32, w = v4 + (1 : Int32) := ⟨_, rfl⟩
    have h := lt_e ew8 h
    refine sx_iinc (j := 4) (v := w8) (lv' := [(0, .ref a0), (1, .int v1), (2, .int s0), (3, .int v3), (4, .int w8), (5, .int v5)]) dX7_moves_72 rfl (ii_1 ew8) (by decide) rfl ?_
    refine sx_goto (tgt := 20) dX7_moves_75 rfl ?_
    obtain rfl := Option.some.inj h
    exact sx_sub [0, 1, 2, 3, 4] rfl (k1 _ rfl)
  · have h := if_n c7 h
    refine sx_iload (j := 5) dX7_moves_65 rfl ?_
    refine sx_goto (tgt := 71) dX7_moves_67 rfl ?_
    refine sx_istore_n (i := 3) (lv' := [(0, .ref a0), (1, .int v1), (2, .int s0), (3, .int v5), (4, .int v4), (5, .int v5)]) dX7_moves_71 rfl (by decide) rfl ?_
    obtain ⟨w9, ew9⟩ : ∃ w : Int32, w = v4 + (1 : Int32) := ⟨_, rfl⟩
    have h := lt_e ew9 h
    refine sx_iinc (j := 4) (v := w9) (lv' := [(0, .ref a0), (1, .int v1), (2, .int s0), (3, .int v5), (4, .int w9), (5, .int v5)]) dX7_moves_72 rfl (ii_1 ew9) (by decide) rfl ?_
    refine sx_goto (tgt := 20) dX7_moves_75 rfl ?_
    obtain rfl := Option.some.inj h
    exact sx_sub [0, 1, 2, 3, 4] rfl (k1 _ rfl)
set_option maxRecDepth 100000 in
set_option maxHeartbeats 4000000 in
theorem tX7_moves_b20 {l : Launch} {E : Ev} {r : Option Value} {L' L : HL} {a0 : Nat} {v1 : Int32} {v2 : Int32} {v3 : Int32} {v4 : Int32} {z : Tn (Int32 × Int32 × Int32 × HL) (Int32 × HL)} (h0 : isX7 E a0) (h : fX7_moves_b20 a0 v1 v2 v3 v4 L = some z) (k1 : ∀ s, z = .inl s → Sx l E yX7_moves cX7_moves 6 (some .int) (4) r L' 20 [(0, .ref a0), (1, .int v1), (2, .int s.1), (3, .int s.2.1), (4, .int s.2.2.1)] [] s.2.2.2) (k2 : ∀ s, z = .inr (.inl s) → Sx l E yX7_moves cX7_moves 6 (some .int) (4) r L' 78 [(0, .ref a0), (1, .int v1), (2, .int s.1), (3, .int s.2.1)] [] s.2.2.2) (k3 : ∀ v, z = .inr (.inr v) → r = some (.int v.1) ∧ L' = v.2) : Sx l E yX7_moves cX7_moves 6 (some .int) (4) r L' 20 [(0, .ref a0), (1, .int v1), (2, .int v2), (3, .int v3), (4, .int v4)] [] L := by
  unfold fX7_moves_b20 at h
  refine sx_iload (j := 4) dX7_moves_20 rfl ?_
  refine sx_aload_n (i := 0) (j := 0) dX7_moves_22 rfl rfl ?_
  refine sx_get (k := 0) (v := .ref (a0 + 1)) dX7_moves_23 (X7_k h0) cf_7 (Or.inl wd_956) (by decide : 0 < 20) (congrArg Value.ref (X7_r0 h0)) ?_
  refine sx_iconst (v := (1 : Int32)) dX7_moves_26 (by decide) ?_
  refine sx_iald dX7_moves_27 (X7_a0 h0) (show vin (1 : Int32) 228 from by decide) ?_
  obtain ⟨z2, ez2, h⟩ := bd_e h
  refine sx_callS (avs := [.int (L.1 (a0 + 1) (1 : Int32).toNatClampNeg)]) (rest := [.int v4]) (st1 := [.int z2, .int v4]) dX7_moves_28 (mX7_codes ez2) ctX7_codes (Or.inl wd_1281) rfl rfl (rm_m rfl) rfl (Nat.le_of_ble_eq_true rfl) rfl ?_
  refine sx_icmp_ge (tgt := 78) dX7_moves_31 rfl (fun c3 => ?_) (fun c3 => ?_)
  · have h := if_e c3 h
    obtain rfl := Option.some.inj h
    exact sx_sub [0, 1, 2, 3] rfl (k2 _ rfl)
  · have h := if_n c3 h
    refine sx_aload_n (i := 0) (j := 0) dX7_moves_34 rfl rfl ?_
    refine sx_iload (j := 4) dX7_moves_35 rfl ?_
    obtain ⟨z4, ez4, h⟩ := bd_e h
    refine sx_callV (avs := [.int v4]) (rest := []) (st1 := []) dX7_moves_37 (mX7_layHomes h0 ez4) ciX7_layHomes (Or.inl wd_1304) (X7_k h0) rfl rfl rfl rfl (rm_m rfl) rfl (Nat.le_of_ble_eq_true rfl) rfl ?_
    refine sx_aload_n (i := 0) (j := 0) dX7_moves_40 rfl rfl ?_
    obtain ⟨z5, ez5, h⟩ := bd_e h
    refine sx_callV (avs := []) (rest := []) (st1 := [.int z5.1]) dX7_moves_41 (mX7_moving h0 ez5) ciX7_moving (Or.inl wd_1308) (X7_k h0) rfl rfl rfl rfl (rm_m rfl) rfl (Nat.le_of_ble_eq_true rfl) rfl ?_
    refine sx_istore (lv' := [(0, .ref a0), (1, .int v1), (2, .int v2), (3, .int v3), (4, .int v4), (5, .int z5.1)]) dX7_moves_44 (by decide) rfl ?_
    refine sx_iload (j := 5) dX7_moves_46 rfl ?_
    refine sx_iload_n (i := 3) (j := 3) dX7_moves_48 rfl rfl ?_
    refine sx_icmp_ge (tgt := 57) dX7_moves_49 rfl (fun c6 => ?_) (fun c6 => ?_)
    · have h := if_e c6 h
      refine sx_iload_n (i := 2) (j := 2) dX7_moves_57 rfl rfl ?_
      exact sx_sub [0, 1, 3, 4, 5] rfl (tX7_moves_j58 h0 h k1 k2 k3)
    · have h := if_n c6 h
      refine sx_iload (j := 4) dX7_moves_52 rfl ?_
      refine sx_goto (tgt := 58) dX7_moves_54 rfl ?_
      exact sx_sub [0, 1, 3, 4, 5] rfl (tX7_moves_j58 h0 h k1 k2 k3)
set_option maxRecDepth 100000 in
set_option maxHeartbeats 4000000 in
theorem mX7_moves {l : Launch} {E : Ev} {L : HL} {a0 : Nat} {v1 : Int32} {z : Int32 × HL} (h0 : isX7 E a0) (h : fX7_moves a0 v1 L = some z) : Mt l E yX7_moves cX7_moves 6 (some .int) (4) [.ref a0, .int v1] L (some (.int z.1)) (z.2) := by
  obtain ⟨r, hr⟩ : ∃ r : Option Value, r = some (.int z.1) := ⟨_, rfl⟩
  obtain ⟨L', hL'⟩ : ∃ L' : HL, L' = z.2 := ⟨_, rfl⟩
  have k3 : r = some (.int z.1) ∧ L' = z.2 := ⟨hr, hL'⟩
  refine mt_eq hr hL' ?_
  refine Mt.of (plainFor_of_name (by decide)) (Nat.le_of_ble_eq_true rfl) ?_
  refine sx_sub (lv' := [(0, .ref a0), (1, .int v1)]) [0, 1] rfl ?_
  unfold fX7_moves at h
  refine sx_iload_n (i := 1) (j := 1) dX7_moves_0 rfl rfl ?_
  refine sx_iconst (v := (-1 : Int32)) dX7_moves_1 (by decide) ?_
  refine sx_icmp_ge (tgt := 12) dX7_moves_2 rfl (fun c1 => ?_) (fun c1 => ?_)
  · have h := if_e c1 h
    refine sx_iconst (v := (-1 : Int32)) dX7_moves_12 (by decide) ?_
    refine sx_istore_n (i := 2) (lv' := [(0, .ref a0), (1, .int v1), (2, .int (-1 : Int32))]) dX7_moves_13 rfl (by decide) rfl ?_
    refine sx_ldc (v := (1000000 : Int32)) dX7_moves_14 wd_1169 ?_
    refine sx_istore_n (i := 3) (lv' := [(0, .ref a0), (1, .int v1), (2, .int (-1 : Int32)), (3, .int (1000000 : Int32))]) dX7_moves_16 rfl (by decide) rfl ?_
    refine sx_iconst (v := (0 : Int32)) dX7_moves_17 (by decide) ?_
    refine sx_istore (lv' := [(0, .ref a0), (1, .int v1), (2, .int (-1 : Int32)), (3, .int (1000000 : Int32)), (4, .int (0 : Int32))]) dX7_moves_18 (by decide) rfl ?_
    obtain ⟨x16, hx, q1, q2⟩ := lx_e h
    refine sx_sub (lv' := [(0, .ref a0), (1, .int v1), (2, .int (-1 : Int32)), (3, .int (1000000 : Int32)), (4, .int (0 : Int32))]) [0, 1, 2, 3, 4] rfl ?_
    refine lp_go (fun s10 => Sx l E yX7_moves cX7_moves 6 (some .int) (4) r L' 20 [(0, .ref a0), (1, .int v1), (2, .int s10.1), (3, .int s10.2.1), (4, .int s10.2.2.1)] [] s10.2.2.2) x16 (fun s10 z2 hz c1 c2 => ?_) FU _ hx
    refine tX7_moves_b20 h0 hz (fun s2 e => c1 s2 e) (fun s10 e => ?_) (fun v e => ?_)
    · have h := q1 _ (c2 _ e).symm
      refine sx_iload_n (i := 2) (j := 2) dX7_moves_78 rfl rfl ?_
      refine sx_iconst (v := (-1 : Int32)) dX7_moves_79 (by decide) ?_
      refine sx_icmp_ne (tgt := 85) dX7_moves_80 rfl (fun c11 => ?_) (fun c11 => ?_)
      · have h := if_e c11 h
        refine sx_iconst (v := (-1 : Int32)) dX7_moves_83 (by decide) ?_
        obtain rfl := Option.some.inj h
        exact sx_iret dX7_moves_84 rfl rfl k3.1 k3.2
      · have h := if_n c11 h
        refine sx_aload_n (i := 0) (j := 0) dX7_moves_85 rfl rfl ?_
        refine sx_iload_n (i := 2) (j := 2) dX7_moves_86 rfl rfl ?_
        obtain ⟨z12, ez12, h⟩ := bd_e h
        refine sx_callV (avs := [.int s10.1]) (rest := []) (st1 := []) dX7_moves_87 (mX7_layHomes h0 ez12) ciX7_layHomes (Or.inl wd_1304) (X7_k h0) rfl rfl rfl rfl (rm_m rfl) rfl (Nat.le_of_ble_eq_true rfl) rfl ?_
        refine sx_iload_n (i := 1) (j := 1) dX7_moves_90 rfl rfl ?_
        refine sx_iconst (v := (-1 : Int32)) dX7_moves_91 (by decide) ?_
        refine sx_icmp_ne (tgt := 99) dX7_moves_92 rfl (fun c13 => ?_) (fun c13 => ?_)
        · have h := if_e c13 h
          refine sx_iload_n (i := 3) (j := 3) dX7_moves_95 rfl rfl ?_
          refine sx_goto (tgt := 120) dX7_moves_96 rfl ?_
          obtain rfl := Option.some.inj h
          exact sx_iret dX7_moves_120 rfl rfl k3.1 k3.2
        · have h := if_n c13 h
          refine sx_iload_n (i := 1) (j := 1) dX7_moves_99 rfl rfl ?_
          refine sx_aload_n (i := 0) (j := 0) dX7_moves_100 rfl rfl ?_
          refine sx_get (k := 0) (v := .ref (a0 + 1)) dX7_moves_101 (X7_k h0) cf_7 (Or.inl wd_956) (by decide : 0 < 20) (congrArg Value.ref (X7_r0 h0)) ?_
          refine sx_iconst (v := (1 : Int32)) dX7_moves_104 (by decide) ?_
          refine sx_iald dX7_moves_105 (X7_a0 h0) (show vin (1 : Int32) 228 from by decide) ?_
          refine sx_icmp_ge (tgt := 118) dX7_moves_106 rfl (fun c14 => ?_) (fun c14 => ?_)
          · have h := if_e c14 h
            refine sx_bipush (v := (-5 : Int32)) dX7_moves_118 (by decide) ?_
            obtain rfl := Option.some.inj h
            exact sx_iret dX7_moves_120 rfl rfl k3.1 k3.2
          · have h := if_n c14 h
            refine sx_aload_n (i := 0) (j := 0) dX7_moves_109 rfl rfl ?_
            refine sx_get (k := 19) (v := .ref (a0 + 11)) dX7_moves_110 (X7_k h0) cf_7 (Or.inl wd_975) (by decide : 19 < 20) (congrArg Value.ref (X7_r19 h0)) ?_
            refine sx_iload_n (i := 1) (j := 1) dX7_moves_113 rfl rfl ?_
            obtain ⟨c15, h⟩ := gd_e h
            refine sx_iald dX7_moves_114 (X7_a19 h0) c15 ?_
            refine sx_goto (tgt := 120) dX7_moves_115 rfl ?_
            obtain rfl := Option.some.inj h
            exact sx_iret dX7_moves_120 rfl rfl k3.1 k3.2
    · have e2 := Option.some.inj (q2 _ (c2 _ e).symm)
      subst e2
      exact k3
  · have h := if_n c1 h
    refine sx_aload_n (i := 0) (j := 0) dX7_moves_5 rfl rfl ?_
    refine sx_bipush (v := (-10 : Int32)) dX7_moves_6 (by decide) ?_
    obtain ⟨z17, ez17, h⟩ := bd_e h
    refine sx_callV (avs := [.int (-10 : Int32)]) (rest := []) (st1 := [.int z17.1]) dX7_moves_8 (mX7_bad h0 ez17) ciX7_bad (Or.inl wd_1094) (X7_k h0) rfl rfl rfl rfl (rm_m rfl) rfl (Nat.le_of_ble_eq_true rfl) rfl ?_
    obtain rfl := Option.some.inj h
    exact sx_iret dX7_moves_11 rfl rfl k3.1 k3.2
set_option maxRecDepth 100000 in
set_option maxHeartbeats 4000000 in
theorem tX7_fraction_b6 {l : Launch} {E : Ev} {r : Option Value} {L' L : HL} {a0 : Nat} {v1 : Int64} {v3 : Int64} {v5 : Int64} {v7 : Int64} {z : Tn (Int64 × Int64) (HL)} (h0 : isX7 E a0) (h : fX7_fraction_b6 a0 v1 v3 v5 v7 L = some z) (k1 : ∀ s, z = .inl s → Sx l E yX7_fraction cX7_fraction 11 (none) (1) r L' 6 [(0, .ref a0), (1, .long v1), (3, .long v3), (5, .long s.1), (7, .long s.2)] [] L) (k2 : ∀ s, z = .inr (.inl s) → Sx l E yX7_fraction cX7_fraction 11 (none) (1) r L' 31 [(0, .ref a0), (1, .long v1), (3, .long v3), (5, .long s.1)] [] L) (k3 : ∀ v, z = .inr (.inr v) → r = none ∧ L' = v) : Sx l E yX7_fraction cX7_fraction 11 (none) (1) r L' 6 [(0, .ref a0), (1, .long v1), (3, .long v3), (5, .long v5), (7, .long v7)] [] L := by
  unfold fX7_fraction_b6 at h
  refine sx_lload (j := 4) dX7_fraction_6 rfl ?_
  refine sx_lconst (v := (0 : Int64)) dX7_fraction_8 (by decide) ?_
  refine sx_lcmp dX7_fraction_9 ?_
  refine sx_if_eq (tgt := 31) dX7_fraction_10 rfl (fun c1 => ?_) (fun c1 => ?_)
  · have h := if_e c1 h
    obtain rfl := Option.some.inj h
    exact sx_sub [0, 1, 2, 3] rfl (k2 _ rfl)
  · have h := if_n c1 h
    refine sx_lload (j := 3) dX7_fraction_13 rfl ?_
    refine sx_lload (j := 4) dX7_fraction_15 rfl ?_
    obtain ⟨c2, h⟩ := gd_e h
    refine sx_lrem dX7_fraction_17 c2 ?_
    refine sx_topl (fun w3 ew3 => ?_)
    have h := lt_e ew3 h
    refine sx_lstore (lv' := [(0, .ref a0), (1, .long v1), (3, .long v3), (5, .long v5), (7, .long v7), (9, .long w3)]) dX7_fraction_18 (by decide) rfl ?_
    refine sx_lload (j := 4) dX7_fraction_20 rfl ?_
    refine sx_lstore (lv' := [(0, .ref a0), (1, .long v1), (3, .long v3), (5, .long v7), (7, .long v7), (9, .long w3)]) dX7_fraction_22 (by decide) rfl ?_
    refine sx_lload (j := 5) dX7_fraction_24 rfl ?_
    refine sx_lstore (lv' := [(0, .ref a0), (1, .long v1), (3, .long v3), (5, .long v7), (7, .long w3), (9, .long w3)]) dX7_fraction_26 (by decide) rfl ?_
    refine sx_goto (tgt := 6) dX7_fraction_28 rfl ?_
    obtain rfl := Option.some.inj h
    exact sx_sub [0, 1, 2, 3, 4] rfl (k1 _ rfl)
set_option maxRecDepth 100000 in
set_option maxHeartbeats 4000000 in
theorem mX7_fraction {l : Launch} {E : Ev} {L : HL} {a0 : Nat} {v1 : Int64} {v3 : Int64} {z : HL} (h0 : isX7 E a0) (h : fX7_fraction a0 v1 v3 L = some z) : Mt l E yX7_fraction cX7_fraction 11 (none) (1) [.ref a0, .long v1, .long v3] L (none) z := by
  obtain ⟨r, hr⟩ : ∃ r : Option Value, r = none := ⟨_, rfl⟩
  obtain ⟨L', hL'⟩ : ∃ L' : HL, L' = z := ⟨_, rfl⟩
  have k3 : r = none ∧ L' = z := ⟨hr, hL'⟩
  refine mt_eq hr hL' ?_
  refine Mt.of (plainFor_of_name (by decide)) (Nat.le_of_ble_eq_true rfl) ?_
  refine sx_sub (lv' := [(0, .ref a0), (1, .long v1), (3, .long v3)]) [0, 1, 2] rfl ?_
  unfold fX7_fraction at h
  refine sx_lload_n (i := 1) (j := 1) dX7_fraction_0 rfl rfl ?_
  refine sx_lstore (lv' := [(0, .ref a0), (1, .long v1), (3, .long v3), (5, .long v1)]) dX7_fraction_1 (by decide) rfl ?_
  refine sx_lload_n (i := 3) (j := 2) dX7_fraction_3 rfl rfl ?_
  refine sx_lstore (lv' := [(0, .ref a0), (1, .long v1), (3, .long v3), (5, .long v1), (7, .long v3)]) dX7_fraction_4 (by decide) rfl ?_
  obtain ⟨x9, hx, q1, q2⟩ := lx_e h
  refine sx_sub (lv' := [(0, .ref a0), (1, .long v1), (3, .long v3), (5, .long v1), (7, .long v3)]) [0, 1, 2, 3, 4] rfl ?_
  refine lp_go (fun s4 => Sx l E yX7_fraction cX7_fraction 11 (none) (1) r L' 6 [(0, .ref a0), (1, .long v1), (3, .long v3), (5, .long s4.1), (7, .long s4.2)] [] L) x9 (fun s4 z2 hz c1 c2 => ?_) FU _ hx
  refine tX7_fraction_b6 h0 hz (fun s2 e => c1 s2 e) (fun s4 e => ?_) (fun v e => ?_)
  · have h := q1 _ (c2 _ e).symm
    refine sx_aload_n (i := 0) (j := 0) dX7_fraction_31 rfl rfl ?_
    refine sx_lload_n (i := 1) (j := 1) dX7_fraction_32 rfl rfl ?_
    refine sx_lload (j := 3) dX7_fraction_33 rfl ?_
    obtain ⟨c5, h⟩ := gd_e h
    refine sx_ldiv dX7_fraction_35 c5 ?_
    refine sx_putJ (k := 5) dX7_fraction_36 (X7_k h0) cf_7 (Or.inl wd_961) (by decide : 5 < 20) rfl rfl rfl rfl (fun L6 eL6 => ?_)
    have h := lt_e eL6 h
    refine sx_aload_n (i := 0) (j := 0) dX7_fraction_39 rfl rfl ?_
    refine sx_lload_n (i := 3) (j := 2) dX7_fraction_40 rfl rfl ?_
    refine sx_lload (j := 3) dX7_fraction_41 rfl ?_
    obtain ⟨c7, h⟩ := gd_e h
    refine sx_ldiv dX7_fraction_43 c7 ?_
    refine sx_putJ (k := 6) dX7_fraction_44 (X7_k h0) cf_7 (Or.inl wd_962) (by decide : 6 < 20) rfl rfl rfl rfl (fun L8 eL8 => ?_)
    have h := lt_e eL8 h
    obtain rfl := Option.some.inj h
    exact sx_vret dX7_fraction_47 rfl k3.1 k3.2
  · have e2 := Option.some.inj (q2 _ (c2 _ e).symm)
    subst e2
    exact k3
set_option maxRecDepth 100000 in
set_option maxHeartbeats 4000000 in
theorem tX7_share_j99 {l : Launch} {E : Ev} {r : Option Value} {L' L : HL} {a0 : Nat} {v1 : Int32} {v2 : Int32} {v3 : Int32} {v4 : Int32} {v5 : Int32} {s0 : Int32} {z : Tn (Int32 × Int32 × Int32 × HL) (Int32 × HL)} (h0 : isX7 E a0) (h : fX7_share_j99 a0 v1 v2 v3 v4 v5 s0 L = some z) (k1 : ∀ s, z = .inl s → Sx l E yX7_share cX7_share 6 (some .int) (3) r L' 23 [(0, .ref a0), (1, .int v1), (2, .int s.1), (3, .int s.2.1), (4, .int s.2.2.1)] [] s.2.2.2) (k2 : ∀ s, z = .inr (.inl s) → Sx l E yX7_share cX7_share 6 (some .int) (3) r L' 119 [(0, .ref a0), (1, .int v1), (3, .int s.2.1)] [] s.2.2.2) (k3 : ∀ v, z = .inr (.inr v) → r = some (.int v.1) ∧ L' = v.2) : Sx l E yX7_share cX7_share 6 (some .int) (3) r L' 99 [(0, .ref a0), (1, .int v1), (2, .int v2), (4, .int v4), (5, .int v5)] [.int s0] L := by
  unfold fX7_share_j99 at h
  refine sx_istore_n (i := 3) (lv' := [(0, .ref a0), (1, .int v1), (2, .int v2), (3, .int s0), (4, .int v4), (5, .int v5)]) dX7_share_99 rfl (by decide) rfl ?_
  refine sx_iload (j := 5) dX7_share_100 rfl ?_
  refine sx_iload_n (i := 2) (j := 2) dX7_share_102 rfl rfl ?_
  refine sx_icmp_ge (tgt := 111) dX7_share_103 rfl (fun c10 => ?_) (fun c10 => ?_)
  · have h := if_e c10 h
    refine sx_iload_n (i := 2) (j := 2) dX7_share_111 rfl rfl ?_
    refine sx_istore_n (i := 2) (lv' := [(0, .ref a0), (1, .int v1), (2, .int v2), (3, .int s0), (4, .int v4), (5, .int v5)]) dX7_share_112 rfl (by decide) rfl ?_
    obtain ⟨w11, ew11⟩ : ∃ w : Int32, w = v4 + (1 : Int32) := ⟨_, rfl⟩
    have h := lt_e ew11 h
    refine sx_iinc (j := 4) (v := w11) (lv' := [(0, .ref a0), (1, .int v1), (2, .int v2), (3, .int s0), (4, .int w11), (5, .int v5)]) dX7_share_113 rfl (ii_1 ew11) (by decide) rfl ?_
    refine sx_goto (tgt := 23) dX7_share_116 rfl ?_
    obtain rfl := Option.some.inj h
    exact sx_sub [0, 1, 2, 3, 4] rfl (k1 _ rfl)
  · have h := if_n c10 h
    refine sx_iload (j := 5) dX7_share_106 rfl ?_
    refine sx_goto (tgt := 112) dX7_share_108 rfl ?_
    refine sx_istore_n (i := 2) (lv' := [(0, .ref a0), (1, .int v1), (2, .int v5), (3, .int s0), (4, .int v4), (5, .int v5)]) dX7_share_112 rfl (by decide) rfl ?_
    obtain ⟨w12, ew12⟩ : ∃ w : Int32, w = v4 + (1 : Int32) := ⟨_, rfl⟩
    have h := lt_e ew12 h
    refine sx_iinc (j := 4) (v := w12) (lv' := [(0, .ref a0), (1, .int v1), (2, .int v5), (3, .int s0), (4, .int w12), (5, .int v5)]) dX7_share_113 rfl (ii_1 ew12) (by decide) rfl ?_
    refine sx_goto (tgt := 23) dX7_share_116 rfl ?_
    obtain rfl := Option.some.inj h
    exact sx_sub [0, 1, 2, 3, 4] rfl (k1 _ rfl)
set_option maxRecDepth 100000 in
set_option maxHeartbeats 4000000 in
theorem tX7_share_j68 {l : Launch} {E : Ev} {r : Option Value} {L' L : HL} {a0 : Nat} {v1 : Int32} {v2 : Int32} {v3 : Int32} {v4 : Int32} {s0 : Int32} {z : Tn (Int32 × Int32 × Int32 × HL) (Int32 × HL)} (h0 : isX7 E a0) (h : fX7_share_j68 a0 v1 v2 v3 v4 s0 L = some z) (k1 : ∀ s, z = .inl s → Sx l E yX7_share cX7_share 6 (some .int) (3) r L' 23 [(0, .ref a0), (1, .int v1), (2, .int s.1), (3, .int s.2.1), (4, .int s.2.2.1)] [] s.2.2.2) (k2 : ∀ s, z = .inr (.inl s) → Sx l E yX7_share cX7_share 6 (some .int) (3) r L' 119 [(0, .ref a0), (1, .int v1), (3, .int s.2.1)] [] s.2.2.2) (k3 : ∀ v, z = .inr (.inr v) → r = some (.int v.1) ∧ L' = v.2) : Sx l E yX7_share cX7_share 6 (some .int) (3) r L' 68 [(0, .ref a0), (1, .int v1), (2, .int v2), (3, .int v3), (4, .int v4)] [.int s0] L := by
  unfold fX7_share_j68 at h
  refine sx_istore (lv' := [(0, .ref a0), (1, .int v1), (2, .int v2), (3, .int v3), (4, .int v4), (5, .int s0)]) dX7_share_68 (by decide) rfl ?_
  refine sx_iload (j := 5) dX7_share_70 rfl ?_
  refine sx_iconst (v := (-1 : Int32)) dX7_share_72 (by decide) ?_
  refine sx_icmp_eq (tgt := 113) dX7_share_73 rfl (fun c6 => ?_) (fun c6 => ?_)
  · have h := if_e c6 h
    obtain ⟨w7, ew7⟩ : ∃ w : Int32, w = v4 + (1 : Int32) := ⟨_, rfl⟩
    have h := lt_e ew7 h
    refine sx_iinc (j := 4) (v := w7) (lv' := [(0, .ref a0), (1, .int v1), (2, .int v2), (3, .int v3), (4, .int w7), (5, .int s0)]) dX7_share_113 rfl (ii_1 ew7) (by decide) rfl ?_
    refine sx_goto (tgt := 23) dX7_share_116 rfl ?_
    obtain rfl := Option.some.inj h
    exact sx_sub [0, 1, 2, 3, 4] rfl (k1 _ rfl)
  · have h := if_n c6 h
    refine sx_iload (j := 5) dX7_share_76 rfl ?_
    refine sx_iload_n (i := 2) (j := 2) dX7_share_78 rfl rfl ?_
    refine sx_icmp_ge (tgt := 86) dX7_share_79 rfl (fun c8 => ?_) (fun c8 => ?_)
    · have h := if_e c8 h
      refine sx_iload (j := 5) dX7_share_86 rfl ?_
      refine sx_iload_n (i := 2) (j := 2) dX7_share_88 rfl rfl ?_
      refine sx_icmp_ne (tgt := 98) dX7_share_89 rfl (fun c9 => ?_) (fun c9 => ?_)
      · have h := if_e c9 h
        refine sx_iload_n (i := 3) (j := 3) dX7_share_92 rfl rfl ?_
        refine sx_iconst (v := (1 : Int32)) dX7_share_93 (by decide) ?_
        refine sx_iadd dX7_share_94 ?_
        refine sx_goto (tgt := 99) dX7_share_95 rfl ?_
        exact sx_sub [0, 1, 2, 4, 5] rfl (tX7_share_j99 h0 h k1 k2 k3)
      · have h := if_n c9 h
        refine sx_iload_n (i := 3) (j := 3) dX7_share_98 rfl rfl ?_
        exact sx_sub [0, 1, 2, 4, 5] rfl (tX7_share_j99 h0 h k1 k2 k3)
    · have h := if_n c8 h
      refine sx_iconst (v := (1 : Int32)) dX7_share_82 (by decide) ?_
      refine sx_goto (tgt := 99) dX7_share_83 rfl ?_
      exact sx_sub [0, 1, 2, 4, 5] rfl (tX7_share_j99 h0 h k1 k2 k3)
set_option maxRecDepth 100000 in
set_option maxHeartbeats 4000000 in
theorem tX7_share_j53 {l : Launch} {E : Ev} {r : Option Value} {L' L : HL} {a0 : Nat} {v1 : Int32} {v2 : Int32} {v3 : Int32} {v4 : Int32} {z : Tn (Int32 × Int32 × Int32 × HL) (Int32 × HL)} (h0 : isX7 E a0) (h : fX7_share_j53 a0 v1 v2 v3 v4 L = some z) (k1 : ∀ s, z = .inl s → Sx l E yX7_share cX7_share 6 (some .int) (3) r L' 23 [(0, .ref a0), (1, .int v1), (2, .int s.1), (3, .int s.2.1), (4, .int s.2.2.1)] [] s.2.2.2) (k2 : ∀ s, z = .inr (.inl s) → Sx l E yX7_share cX7_share 6 (some .int) (3) r L' 119 [(0, .ref a0), (1, .int v1), (3, .int s.2.1)] [] s.2.2.2) (k3 : ∀ v, z = .inr (.inr v) → r = some (.int v.1) ∧ L' = v.2) : Sx l E yX7_share cX7_share 6 (some .int) (3) r L' 53 [(0, .ref a0), (1, .int v1), (2, .int v2), (3, .int v3), (4, .int v4)] [] L := by
  unfold fX7_share_j53 at h
  refine sx_iconst (v := (-1 : Int32)) dX7_share_53 (by decide) ?_
  refine sx_goto (tgt := 68) dX7_share_54 rfl ?_
  exact sx_sub [0, 1, 2, 3, 4] rfl (tX7_share_j68 h0 h k1 k2 k3)
set_option maxRecDepth 100000 in
set_option maxHeartbeats 4000000 in
theorem tX7_share_b23 {l : Launch} {E : Ev} {r : Option Value} {L' L : HL} {a0 : Nat} {v1 : Int32} {v2 : Int32} {v3 : Int32} {v4 : Int32} {z : Tn (Int32 × Int32 × Int32 × HL) (Int32 × HL)} (h0 : isX7 E a0) (h : fX7_share_b23 a0 v1 v2 v3 v4 L = some z) (k1 : ∀ s, z = .inl s → Sx l E yX7_share cX7_share 6 (some .int) (3) r L' 23 [(0, .ref a0), (1, .int v1), (2, .int s.1), (3, .int s.2.1), (4, .int s.2.2.1)] [] s.2.2.2) (k2 : ∀ s, z = .inr (.inl s) → Sx l E yX7_share cX7_share 6 (some .int) (3) r L' 119 [(0, .ref a0), (1, .int v1), (3, .int s.2.1)] [] s.2.2.2) (k3 : ∀ v, z = .inr (.inr v) → r = some (.int v.1) ∧ L' = v.2) : Sx l E yX7_share cX7_share 6 (some .int) (3) r L' 23 [(0, .ref a0), (1, .int v1), (2, .int v2), (3, .int v3), (4, .int v4)] [] L := by
  unfold fX7_share_b23 at h
  refine sx_iload (j := 4) dX7_share_23 rfl ?_
  refine sx_aload_n (i := 0) (j := 0) dX7_share_25 rfl rfl ?_
  refine sx_get (k := 0) (v := .ref (a0 + 1)) dX7_share_26 (X7_k h0) cf_7 (Or.inl wd_956) (by decide : 0 < 20) (congrArg Value.ref (X7_r0 h0)) ?_
  refine sx_iconst (v := (0 : Int32)) dX7_share_29 (by decide) ?_
  refine sx_iald dX7_share_30 (X7_a0 h0) (show vin (0 : Int32) 228 from by decide) ?_
  refine sx_icmp_ge (tgt := 119) dX7_share_31 rfl (fun c4 => ?_) (fun c4 => ?_)
  · have h := if_e c4 h
    obtain rfl := Option.some.inj h
    exact sx_sub [0, 1, 3] rfl (k2 _ rfl)
  · have h := if_n c4 h
    refine sx_iload (j := 4) dX7_share_34 rfl ?_
    refine sx_iload_n (i := 1) (j := 1) dX7_share_36 rfl rfl ?_
    refine sx_icmp_eq (tgt := 53) dX7_share_37 rfl (fun c5 => ?_) (fun c5 => ?_)
    · have h := if_e c5 h
      exact sx_sub [0, 1, 2, 3, 4] rfl (tX7_share_j53 h0 h k1 k2 k3)
    · have h := if_n c5 h
      refine sx_aload_n (i := 0) (j := 0) dX7_share_40 rfl rfl ?_
      refine sx_get (k := 0) (v := .ref (a0 + 1)) dX7_share_41 (X7_k h0) cf_7 (Or.inl wd_956) (by decide : 0 < 20) (congrArg Value.ref (X7_r0 h0)) ?_
      refine sx_bipush (v := (29 : Int32)) dX7_share_44 (by decide) ?_
      refine sx_iload (j := 4) dX7_share_46 rfl ?_
      refine sx_iadd dX7_share_48 ?_
      obtain ⟨c13, h⟩ := gd_e h
      refine sx_iald dX7_share_49 (X7_a0 h0) c13 ?_
      refine sx_if_ne (tgt := 57) dX7_share_50 rfl (fun c14 => ?_) (fun c14 => ?_)
      · have h := if_e c14 h
        exact sx_sub [0, 1, 2, 3, 4] rfl (tX7_share_j53 h0 h k1 k2 k3)
      · have h := if_n c14 h
        refine sx_aload_n (i := 0) (j := 0) dX7_share_57 rfl rfl ?_
        refine sx_aload_n (i := 0) (j := 0) dX7_share_58 rfl rfl ?_
        refine sx_get (k := 0) (v := .ref (a0 + 1)) dX7_share_59 (X7_k h0) cf_7 (Or.inl wd_956) (by decide : 0 < 20) (congrArg Value.ref (X7_r0 h0)) ?_
        refine sx_iload_n (i := 1) (j := 1) dX7_share_62 rfl rfl ?_
        refine sx_iload (j := 4) dX7_share_63 rfl ?_
        obtain ⟨z15, ez15, h⟩ := bd_e h
        refine sx_callV (avs := [.ref (a0 + 1), .int v1, .int v4]) (rest := []) (st1 := [.int z15.1]) dX7_share_65 (mX7_degreeOn h0 (X7_a0 h0) ez15) ciX7_degreeOn (Or.inl wd_1165) (X7_k h0) rfl rfl rfl rfl (rm_m rfl) rfl (Nat.le_of_ble_eq_true rfl) rfl ?_
        exact sx_sub [0, 1, 2, 3, 4] rfl (tX7_share_j68 h0 h k1 k2 k3)
set_option maxRecDepth 100000 in
set_option maxHeartbeats 4000000 in
theorem tX7_share_j148 {l : Launch} {E : Ev} {r : Option Value} {L' L : HL} {a0 : Nat} {v3 : Int32} {s1 : Int64} {s2 : Int64} {z : Int32 × HL} (h0 : isX7 E a0) (h : fX7_share_j148 a0 v3 s1 s2 L = some z) (k3 : r = some (.int z.1) ∧ L' = z.2) : Sx l E yX7_share cX7_share 6 (some .int) (3) r L' 148 [(3, .int v3)] [.long s2, .long s1, .ref a0] L := by
  unfold fX7_share_j148 at h
  obtain ⟨z19, ez19, h⟩ := bd_e h
  refine sx_callV (avs := [.long s1, .long s2]) (rest := []) (st1 := []) dX7_share_148 (mX7_fraction h0 ez19) ciX7_fraction (Or.inl wd_1316) (X7_k h0) rfl rfl rfl rfl (rm_m rfl) rfl (Nat.le_of_ble_eq_true rfl) rfl ?_
  refine sx_iload_n (i := 3) (j := 0) dX7_share_151 rfl rfl ?_
  obtain rfl := Option.some.inj h
  exact sx_iret dX7_share_152 rfl rfl k3.1 k3.2
set_option maxRecDepth 100000 in
set_option maxHeartbeats 4000000 in
theorem tX7_share_j138 {l : Launch} {E : Ev} {r : Option Value} {L' L : HL} {a0 : Nat} {v3 : Int32} {s1 : Int64} {z : Int32 × HL} (h0 : isX7 E a0) (h : fX7_share_j138 a0 v3 s1 L = some z) (k3 : r = some (.int z.1) ∧ L' = z.2) : Sx l E yX7_share cX7_share 6 (some .int) (3) r L' 138 [(3, .int v3)] [.long s1, .ref a0] L := by
  unfold fX7_share_j138 at h
  refine sx_iload_n (i := 3) (j := 0) dX7_share_138 rfl rfl ?_
  refine sx_if_ne (tgt := 146) dX7_share_139 rfl (fun c18 => ?_) (fun c18 => ?_)
  · have h := if_e c18 h
    refine sx_lconst (v := (1 : Int64)) dX7_share_142 (by decide) ?_
    refine sx_goto (tgt := 148) dX7_share_143 rfl ?_
    exact sx_sub [0] rfl (tX7_share_j148 h0 h k3)
  · have h := if_n c18 h
    refine sx_iload_n (i := 3) (j := 0) dX7_share_146 rfl rfl ?_
    refine sx_i2l dX7_share_147 ?_
    exact sx_sub [0] rfl (tX7_share_j148 h0 h k3)
set_option maxRecDepth 100000 in
set_option maxHeartbeats 4000000 in
theorem mX7_share {l : Launch} {E : Ev} {L : HL} {a0 : Nat} {v1 : Int32} {z : Int32 × HL} (h0 : isX7 E a0) (h : fX7_share a0 v1 L = some z) : Mt l E yX7_share cX7_share 6 (some .int) (3) [.ref a0, .int v1] L (some (.int z.1)) (z.2) := by
  obtain ⟨r, hr⟩ : ∃ r : Option Value, r = some (.int z.1) := ⟨_, rfl⟩
  obtain ⟨L', hL'⟩ : ∃ L' : HL, L' = z.2 := ⟨_, rfl⟩
  have k3 : r = some (.int z.1) ∧ L' = z.2 := ⟨hr, hL'⟩
  refine mt_eq hr hL' ?_
  refine Mt.of (plainFor_of_name (by decide)) (Nat.le_of_ble_eq_true rfl) ?_
  refine sx_sub (lv' := [(0, .ref a0), (1, .int v1)]) [0, 1] rfl ?_
  unfold fX7_share at h
  refine sx_aload_n (i := 0) (j := 0) dX7_share_0 rfl rfl ?_
  refine sx_iload_n (i := 1) (j := 1) dX7_share_1 rfl rfl ?_
  obtain ⟨z1, ez1, h⟩ := bd_e h
  refine sx_callV (avs := [.int v1]) (rest := []) (st1 := [.int z1]) dX7_share_2 (mX7_isHouse h0 ez1) ciX7_isHouse (Or.inl wd_1047) (X7_k h0) rfl rfl rfl rfl (rm_m rfl) rfl (Nat.le_of_ble_eq_true rfl) rfl ?_
  refine sx_if_ne (tgt := 15) dX7_share_5 rfl (fun c2 => ?_) (fun c2 => ?_)
  · have h := if_e c2 h
    refine sx_aload_n (i := 0) (j := 0) dX7_share_8 rfl rfl ?_
    refine sx_bipush (v := (-2 : Int32)) dX7_share_9 (by decide) ?_
    obtain ⟨z3, ez3, h⟩ := bd_e h
    refine sx_callV (avs := [.int (-2 : Int32)]) (rest := []) (st1 := [.int z3.1]) dX7_share_11 (mX7_bad h0 ez3) ciX7_bad (Or.inl wd_1094) (X7_k h0) rfl rfl rfl rfl (rm_m rfl) rfl (Nat.le_of_ble_eq_true rfl) rfl ?_
    obtain rfl := Option.some.inj h
    exact sx_iret dX7_share_14 rfl rfl k3.1 k3.2
  · have h := if_n c2 h
    refine sx_ldc (v := (1000000 : Int32)) dX7_share_15 wd_1169 ?_
    refine sx_istore_n (i := 2) (lv' := [(0, .ref a0), (1, .int v1), (2, .int (1000000 : Int32))]) dX7_share_17 rfl (by decide) rfl ?_
    refine sx_iconst (v := (0 : Int32)) dX7_share_18 (by decide) ?_
    refine sx_istore_n (i := 3) (lv' := [(0, .ref a0), (1, .int v1), (2, .int (1000000 : Int32)), (3, .int (0 : Int32))]) dX7_share_19 rfl (by decide) rfl ?_
    refine sx_iconst (v := (0 : Int32)) dX7_share_20 (by decide) ?_
    refine sx_istore (lv' := [(0, .ref a0), (1, .int v1), (2, .int (1000000 : Int32)), (3, .int (0 : Int32)), (4, .int (0 : Int32))]) dX7_share_21 (by decide) rfl ?_
    obtain ⟨x21, hx, q1, q2⟩ := lx_e h
    refine sx_sub (lv' := [(0, .ref a0), (1, .int v1), (2, .int (1000000 : Int32)), (3, .int (0 : Int32)), (4, .int (0 : Int32))]) [0, 1, 2, 3, 4] rfl ?_
    refine lp_go (fun s16 => Sx l E yX7_share cX7_share 6 (some .int) (3) r L' 23 [(0, .ref a0), (1, .int v1), (2, .int s16.1), (3, .int s16.2.1), (4, .int s16.2.2.1)] [] s16.2.2.2) x21 (fun s16 z2 hz c1 c2 => ?_) FU _ hx
    refine tX7_share_b23 h0 hz (fun s2 e => c1 s2 e) (fun s16 e => ?_) (fun v e => ?_)
    · have h := q1 _ (c2 _ e).symm
      refine sx_aload_n (i := 0) (j := 0) dX7_share_119 rfl rfl ?_
      refine sx_iload_n (i := 3) (j := 2) dX7_share_120 rfl rfl ?_
      refine sx_if_ne (tgt := 128) dX7_share_121 rfl (fun c17 => ?_) (fun c17 => ?_)
      · have h := if_e c17 h
        refine sx_lconst (v := (0 : Int64)) dX7_share_124 (by decide) ?_
        refine sx_goto (tgt := 138) dX7_share_125 rfl ?_
        exact sx_sub [2] rfl (tX7_share_j138 h0 h k3)
      · have h := if_n c17 h
        refine sx_aload_n (i := 0) (j := 0) dX7_share_128 rfl rfl ?_
        refine sx_get (k := 0) (v := .ref (a0 + 1)) dX7_share_129 (X7_k h0) cf_7 (Or.inl wd_956) (by decide : 0 < 20) (congrArg Value.ref (X7_r0 h0)) ?_
        refine sx_bipush (v := (9 : Int32)) dX7_share_132 (by decide) ?_
        refine sx_iload_n (i := 1) (j := 1) dX7_share_134 rfl rfl ?_
        refine sx_iadd dX7_share_135 ?_
        obtain ⟨c20, h⟩ := gd_e h
        refine sx_iald dX7_share_136 (X7_a0 h0) c20 ?_
        refine sx_i2l dX7_share_137 ?_
        exact sx_sub [2] rfl (tX7_share_j138 h0 h k3)
    · have e2 := Option.some.inj (q2 _ (c2 _ e).symm)
      subst e2
      exact k3
set_option maxRecDepth 100000 in
set_option maxHeartbeats 4000000 in
theorem tX7_parents_b5 {l : Launch} {E : Ev} {r : Option Value} {L' L : HL} {a0 : Nat} {v1 : Int32} {v2 : Int32} {v3 : Int32} {v4 : Int32} {z : Tn (Int32 × Int32) (Int32)} (h0 : isX7 E a0) (h : fX7_parents_b5 a0 v1 v2 v3 v4 L = some z) (k1 : ∀ s, z = .inl s → Sx l E yX7_parents cX7_parents 5 (some .int) (2) r L' 5 [(0, .ref a0), (1, .int v1), (2, .int v2), (3, .int s.1), (4, .int s.2)] [] L) (k2 : ∀ s, z = .inr (.inl s) → Sx l E yX7_parents cX7_parents 5 (some .int) (2) r L' 55 [(3, .int s.1)] [] L) (k3 : ∀ v, z = .inr (.inr v) → r = some (.int v) ∧ L' = L) : Sx l E yX7_parents cX7_parents 5 (some .int) (2) r L' 5 [(0, .ref a0), (1, .int v1), (2, .int v2), (3, .int v3), (4, .int v4)] [] L := by
  unfold fX7_parents_b5 at h
  refine sx_iload (j := 4) dX7_parents_5 rfl ?_
  refine sx_iload_n (i := 1) (j := 1) dX7_parents_7 rfl rfl ?_
  refine sx_icmp_ge (tgt := 55) dX7_parents_8 rfl (fun c1 => ?_) (fun c1 => ?_)
  · have h := if_e c1 h
    obtain rfl := Option.some.inj h
    exact sx_sub [3] rfl (k2 _ rfl)
  · have h := if_n c1 h
    refine sx_iload_n (i := 3) (j := 3) dX7_parents_11 rfl rfl ?_
    refine sx_aload_n (i := 0) (j := 0) dX7_parents_12 rfl rfl ?_
    refine sx_get (k := 0) (v := .ref (a0 + 1)) dX7_parents_13 (X7_k h0) cf_7 (Or.inl wd_956) (by decide : 0 < 20) (congrArg Value.ref (X7_r0 h0)) ?_
    refine sx_bipush (v := (34 : Int32)) dX7_parents_16 (by decide) ?_
    refine sx_iload (j := 4) dX7_parents_18 rfl ?_
    refine sx_iadd dX7_parents_20 ?_
    obtain ⟨c2, h⟩ := gd_e h
    refine sx_iald dX7_parents_21 (X7_a0 h0) c2 ?_
    refine sx_aload_n (i := 0) (j := 0) dX7_parents_22 rfl rfl ?_
    refine sx_get (k := 0) (v := .ref (a0 + 1)) dX7_parents_23 (X7_k h0) cf_7 (Or.inl wd_956) (by decide : 0 < 20) (congrArg Value.ref (X7_r0 h0)) ?_
    refine sx_bipush (v := (34 : Int32)) dX7_parents_26 (by decide) ?_
    refine sx_iload_n (i := 1) (j := 1) dX7_parents_28 rfl rfl ?_
    refine sx_iadd dX7_parents_29 ?_
    obtain ⟨c3, h⟩ := gd_e h
    refine sx_iald dX7_parents_30 (X7_a0 h0) c3 ?_
    refine sx_ixor dX7_parents_31 ?_
    obtain ⟨z4, ez4, h⟩ := bd_e h
    refine sx_callS (avs := [.int ((L.1 (a0 + 1) ((34 : Int32) + v4).toNatClampNeg) ^^^ (L.1 (a0 + 1) ((34 : Int32) + v1).toNatClampNeg))]) (rest := [.int v3]) (st1 := [.int z4, .int v3]) dX7_parents_32 (mX7_bits ez4) ctX7_bits (Or.inl wd_1176) rfl rfl (rm_m rfl) rfl (Nat.le_of_ble_eq_true rfl) rfl ?_
    refine sx_iload_n (i := 2) (j := 2) dX7_parents_35 rfl rfl ?_
    refine sx_icmp_gt (tgt := 46) dX7_parents_36 rfl (fun c5 => ?_) (fun c5 => ?_)
    · have h := if_e c5 h
      refine sx_iconst (v := (0 : Int32)) dX7_parents_46 (by decide) ?_
      refine sx_ior dX7_parents_47 ?_
      refine sx_topi (fun w6 ew6 => ?_)
      have h := lt_e ew6 h
      refine sx_istore_n (i := 3) (lv' := [(0, .ref a0), (1, .int v1), (2, .int v2), (3, .int w6), (4, .int v4)]) dX7_parents_48 rfl (by decide) rfl ?_
      obtain ⟨w7, ew7⟩ : ∃ w : Int32, w = v4 + (1 : Int32) := ⟨_, rfl⟩
      have h := lt_e ew7 h
      refine sx_iinc (j := 4) (v := w7) (lv' := [(0, .ref a0), (1, .int v1), (2, .int v2), (3, .int w6), (4, .int w7)]) dX7_parents_49 rfl (ii_1 ew7) (by decide) rfl ?_
      refine sx_goto (tgt := 5) dX7_parents_52 rfl ?_
      obtain rfl := Option.some.inj h
      exact sx_sub [0, 1, 2, 3, 4] rfl (k1 _ rfl)
    · have h := if_n c5 h
      refine sx_iconst (v := (1 : Int32)) dX7_parents_39 (by decide) ?_
      refine sx_iload (j := 4) dX7_parents_40 rfl ?_
      refine sx_ishl dX7_parents_42 ?_
      refine sx_goto (tgt := 47) dX7_parents_43 rfl ?_
      refine sx_ior dX7_parents_47 ?_
      refine sx_topi (fun w8 ew8 => ?_)
      have h := lt_e ew8 h
      refine sx_istore_n (i := 3) (lv' := [(0, .ref a0), (1, .int v1), (2, .int v2), (3, .int w8), (4, .int v4)]) dX7_parents_48 rfl (by decide) rfl ?_
      obtain ⟨w9, ew9⟩ : ∃ w : Int32, w = v4 + (1 : Int32) := ⟨_, rfl⟩
      have h := lt_e ew9 h
      refine sx_iinc (j := 4) (v := w9) (lv' := [(0, .ref a0), (1, .int v1), (2, .int v2), (3, .int w8), (4, .int w9)]) dX7_parents_49 rfl (ii_1 ew9) (by decide) rfl ?_
      refine sx_goto (tgt := 5) dX7_parents_52 rfl ?_
      obtain rfl := Option.some.inj h
      exact sx_sub [0, 1, 2, 3, 4] rfl (k1 _ rfl)
set_option maxRecDepth 100000 in
set_option maxHeartbeats 4000000 in
theorem mX7_parents {l : Launch} {E : Ev} {L : HL} {a0 : Nat} {v1 : Int32} {v2 : Int32} {z : Int32} (h0 : isX7 E a0) (h : fX7_parents a0 v1 v2 L = some z) : Mt l E yX7_parents cX7_parents 5 (some .int) (2) [.ref a0, .int v1, .int v2] L (some (.int z)) L := by
  obtain ⟨r, hr⟩ : ∃ r : Option Value, r = some (.int z) := ⟨_, rfl⟩
  obtain ⟨L', hL'⟩ : ∃ L' : HL, L' = L := ⟨_, rfl⟩
  have k3 : r = some (.int z) ∧ L' = L := ⟨hr, hL'⟩
  refine mt_eq hr hL' ?_
  refine Mt.of (plainFor_of_name (by decide)) (Nat.le_of_ble_eq_true rfl) ?_
  refine sx_sub (lv' := [(0, .ref a0), (1, .int v1), (2, .int v2)]) [0, 1, 2] rfl ?_
  unfold fX7_parents at h
  refine sx_iconst (v := (0 : Int32)) dX7_parents_0 (by decide) ?_
  refine sx_istore_n (i := 3) (lv' := [(0, .ref a0), (1, .int v1), (2, .int v2), (3, .int (0 : Int32))]) dX7_parents_1 rfl (by decide) rfl ?_
  refine sx_iconst (v := (0 : Int32)) dX7_parents_2 (by decide) ?_
  refine sx_istore (lv' := [(0, .ref a0), (1, .int v1), (2, .int v2), (3, .int (0 : Int32)), (4, .int (0 : Int32))]) dX7_parents_3 (by decide) rfl ?_
  obtain ⟨x11, hx, q1, q2⟩ := lx_e h
  refine sx_sub (lv' := [(0, .ref a0), (1, .int v1), (2, .int v2), (3, .int (0 : Int32)), (4, .int (0 : Int32))]) [0, 1, 2, 3, 4] rfl ?_
  refine lp_go (fun s10 => Sx l E yX7_parents cX7_parents 5 (some .int) (2) r L' 5 [(0, .ref a0), (1, .int v1), (2, .int v2), (3, .int s10.1), (4, .int s10.2)] [] L) x11 (fun s10 z2 hz c1 c2 => ?_) FU _ hx
  refine tX7_parents_b5 h0 hz (fun s2 e => c1 s2 e) (fun s10 e => ?_) (fun v e => ?_)
  · have h := q1 _ (c2 _ e).symm
    refine sx_iload_n (i := 3) (j := 0) dX7_parents_55 rfl rfl ?_
    obtain rfl := Option.some.inj h
    exact sx_iret dX7_parents_56 rfl rfl k3.1 k3.2
  · have e2 := Option.some.inj (q2 _ (c2 _ e).symm)
    subst e2
    exact k3
set_option maxRecDepth 100000 in
set_option maxHeartbeats 4000000 in
theorem tX7_plaster_j32 {l : Launch} {E : Ev} {r : Option Value} {L' L : HL} {a0 : Nat} {z : Int32 × HL} (h0 : isX7 E a0) (h : fX7_plaster_j32 a0 L = some z) (k3 : r = some (.int z.1) ∧ L' = z.2) : Sx l E yX7_plaster cX7_plaster 6 (some .int) (3) r L' 32 [(0, .ref a0)] [] L := by
  unfold fX7_plaster_j32 at h
  refine sx_aload_n (i := 0) (j := 0) dX7_plaster_32 rfl rfl ?_
  refine sx_bipush (v := (-10 : Int32)) dX7_plaster_33 (by decide) ?_
  obtain ⟨z3, ez3, h⟩ := bd_e h
  refine sx_callV (avs := [.int (-10 : Int32)]) (rest := []) (st1 := [.int z3.1]) dX7_plaster_35 (mX7_bad h0 ez3) ciX7_bad (Or.inl wd_1094) (X7_k h0) rfl rfl rfl rfl (rm_m rfl) rfl (Nat.le_of_ble_eq_true rfl) rfl ?_
  obtain rfl := Option.some.inj h
  exact sx_iret dX7_plaster_38 rfl rfl k3.1 k3.2
set_option maxRecDepth 100000 in
set_option maxHeartbeats 4000000 in
theorem tX7_plaster_b49 {l : Launch} {E : Ev} {r : Option Value} {L' L : HL} {a0 : Nat} {v1 : Int32} {v3 : Int32} {v4 : Int32} {z : Tn (Int32 × Int32) (Int32 × HL)} (h0 : isX7 E a0) (h : fX7_plaster_b49 a0 v1 v3 v4 L = some z) (k1 : ∀ s, z = .inl s → Sx l E yX7_plaster cX7_plaster 6 (some .int) (3) r L' 49 [(0, .ref a0), (1, .int v1), (3, .int s.1), (4, .int s.2)] [] L) (k2 : ∀ s, z = .inr (.inl s) → Sx l E yX7_plaster cX7_plaster 6 (some .int) (3) r L' 79 [(3, .int s.1)] [] L) (k3 : ∀ v, z = .inr (.inr v) → r = some (.int v.1) ∧ L' = v.2) : Sx l E yX7_plaster cX7_plaster 6 (some .int) (3) r L' 49 [(0, .ref a0), (1, .int v1), (3, .int v3), (4, .int v4)] [] L := by
  unfold fX7_plaster_b49 at h
  refine sx_iload (j := 3) dX7_plaster_49 rfl ?_
  refine sx_aload_n (i := 0) (j := 0) dX7_plaster_51 rfl rfl ?_
  refine sx_get (k := 0) (v := .ref (a0 + 1)) dX7_plaster_52 (X7_k h0) cf_7 (Or.inl wd_956) (by decide : 0 < 20) (congrArg Value.ref (X7_r0 h0)) ?_
  refine sx_iconst (v := (0 : Int32)) dX7_plaster_55 (by decide) ?_
  refine sx_iald dX7_plaster_56 (X7_a0 h0) (show vin (0 : Int32) 228 from by decide) ?_
  refine sx_icmp_ge (tgt := 79) dX7_plaster_57 rfl (fun c7 => ?_) (fun c7 => ?_)
  · have h := if_e c7 h
    obtain rfl := Option.some.inj h
    exact sx_sub [2] rfl (k2 _ rfl)
  · have h := if_n c7 h
    refine sx_iload_n (i := 3) (j := 2) dX7_plaster_60 rfl rfl ?_
    refine sx_aload_n (i := 0) (j := 0) dX7_plaster_61 rfl rfl ?_
    refine sx_iload (j := 3) dX7_plaster_62 rfl ?_
    refine sx_iload_n (i := 1) (j := 1) dX7_plaster_64 rfl rfl ?_
    obtain ⟨z8, ez8, h⟩ := bd_e h
    refine sx_callV (avs := [.int v4, .int v1]) (rest := [.int v3]) (st1 := [.int z8, .int v3]) dX7_plaster_65 (mX7_parents h0 ez8) ciX7_parents (Or.inl wd_1325) (X7_k h0) rfl rfl rfl rfl (rm_m rfl) rfl (Nat.le_of_ble_eq_true rfl) rfl ?_
    obtain ⟨z9, ez9, h⟩ := bd_e h
    refine sx_callS (avs := [.int z8]) (rest := [.int v3]) (st1 := [.int z9, .int v3]) dX7_plaster_68 (mX7_bits ez9) ctX7_bits (Or.inl wd_1176) rfl rfl (rm_m rfl) rfl (Nat.le_of_ble_eq_true rfl) rfl ?_
    refine sx_imul dX7_plaster_71 ?_
    refine sx_topi (fun w10 ew10 => ?_)
    have h := lt_e ew10 h
    refine sx_istore_n (i := 3) (lv' := [(0, .ref a0), (1, .int v1), (3, .int w10), (4, .int v4)]) dX7_plaster_72 rfl (by decide) rfl ?_
    obtain ⟨w11, ew11⟩ : ∃ w : Int32, w = v4 + (1 : Int32) := ⟨_, rfl⟩
    have h := lt_e ew11 h
    refine sx_iinc (j := 3) (v := w11) (lv' := [(0, .ref a0), (1, .int v1), (3, .int w10), (4, .int w11)]) dX7_plaster_73 rfl (ii_1 ew11) (by decide) rfl ?_
    refine sx_goto (tgt := 49) dX7_plaster_76 rfl ?_
    obtain rfl := Option.some.inj h
    exact sx_sub [0, 1, 2, 3] rfl (k1 _ rfl)
set_option maxRecDepth 100000 in
set_option maxHeartbeats 4000000 in
theorem tX7_plaster_b94 {l : Launch} {E : Ev} {r : Option Value} {L' L : HL} {a0 : Nat} {v2 : Int32} {v3 : Int32} {v4 : Int32} {v5 : Int32} {z : Tn (Int32 × Int32) (Int32 × HL)} (h0 : isX7 E a0) (h : fX7_plaster_b94 a0 v2 v3 v4 v5 L = some z) (k1 : ∀ s, z = .inl s → Sx l E yX7_plaster cX7_plaster 6 (some .int) (3) r L' 94 [(2, .int v2), (3, .int v3), (4, .int s.1), (5, .int s.2)] [] L) (k2 : ∀ s, z = .inr (.inl s) → Sx l E yX7_plaster cX7_plaster 6 (some .int) (3) r L' 123 [(4, .int s.1)] [] L) (k3 : ∀ v, z = .inr (.inr v) → r = some (.int v.1) ∧ L' = v.2) : Sx l E yX7_plaster cX7_plaster 6 (some .int) (3) r L' 94 [(2, .int v2), (3, .int v3), (4, .int v4), (5, .int v5)] [] L := by
  unfold fX7_plaster_b94 at h
  refine sx_iload (j := 3) dX7_plaster_94 rfl ?_
  refine sx_iload_n (i := 2) (j := 0) dX7_plaster_96 rfl rfl ?_
  refine sx_icmp_ge (tgt := 123) dX7_plaster_97 rfl (fun c15 => ?_) (fun c15 => ?_)
  · have h := if_e c15 h
    obtain rfl := Option.some.inj h
    exact sx_sub [2] rfl (k2 _ rfl)
  · have h := if_n c15 h
    refine sx_iload_n (i := 3) (j := 1) dX7_plaster_100 rfl rfl ?_
    refine sx_iconst (v := (1 : Int32)) dX7_plaster_101 (by decide) ?_
    refine sx_iload (j := 3) dX7_plaster_102 rfl ?_
    refine sx_ishl dX7_plaster_104 ?_
    refine sx_icmp_ne (tgt := 113) dX7_plaster_105 rfl (fun c16 => ?_) (fun c16 => ?_)
    · have h := if_e c16 h
      refine sx_iload (j := 3) dX7_plaster_108 rfl ?_
      refine sx_goto (tgt := 115) dX7_plaster_110 rfl ?_
      refine sx_istore (lv' := [(2, .int v2), (3, .int v3), (4, .int v5), (5, .int v5)]) dX7_plaster_115 (by decide) rfl ?_
      obtain ⟨w17, ew17⟩ : ∃ w : Int32, w = v5 + (1 : Int32) := ⟨_, rfl⟩
      have h := lt_e ew17 h
      refine sx_iinc (j := 3) (v := w17) (lv' := [(2, .int v2), (3, .int v3), (4, .int v5), (5, .int w17)]) dX7_plaster_117 rfl (ii_1 ew17) (by decide) rfl ?_
      refine sx_goto (tgt := 94) dX7_plaster_120 rfl ?_
      obtain rfl := Option.some.inj h
      exact sx_sub [0, 1, 2, 3] rfl (k1 _ rfl)
    · have h := if_n c16 h
      refine sx_iload (j := 2) dX7_plaster_113 rfl ?_
      refine sx_istore (lv' := [(2, .int v2), (3, .int v3), (4, .int v4), (5, .int v5)]) dX7_plaster_115 (by decide) rfl ?_
      obtain ⟨w18, ew18⟩ : ∃ w : Int32, w = v5 + (1 : Int32) := ⟨_, rfl⟩
      have h := lt_e ew18 h
      refine sx_iinc (j := 3) (v := w18) (lv' := [(2, .int v2), (3, .int v3), (4, .int v4), (5, .int w18)]) dX7_plaster_117 rfl (ii_1 ew18) (by decide) rfl ?_
      refine sx_goto (tgt := 94) dX7_plaster_120 rfl ?_
      obtain rfl := Option.some.inj h
      exact sx_sub [0, 1, 2, 3] rfl (k1 _ rfl)
set_option maxRecDepth 100000 in
set_option maxHeartbeats 4000000 in
theorem mX7_plaster {l : Launch} {E : Ev} {L : HL} {a0 : Nat} {v1 : Int32} {v2 : Int32} {z : Int32 × HL} (h0 : isX7 E a0) (h : fX7_plaster a0 v1 v2 L = some z) : Mt l E yX7_plaster cX7_plaster 6 (some .int) (3) [.ref a0, .int v1, .int v2] L (some (.int z.1)) (z.2) := by
  obtain ⟨r, hr⟩ : ∃ r : Option Value, r = some (.int z.1) := ⟨_, rfl⟩
  obtain ⟨L', hL'⟩ : ∃ L' : HL, L' = z.2 := ⟨_, rfl⟩
  have k3 : r = some (.int z.1) ∧ L' = z.2 := ⟨hr, hL'⟩
  refine mt_eq hr hL' ?_
  refine Mt.of (plainFor_of_name (by decide)) (Nat.le_of_ble_eq_true rfl) ?_
  refine sx_sub (lv' := [(0, .ref a0), (1, .int v1), (2, .int v2)]) [0, 1, 2] rfl ?_
  unfold fX7_plaster at h
  refine sx_iload_n (i := 1) (j := 1) dX7_plaster_0 rfl rfl ?_
  refine sx_i2l dX7_plaster_1 ?_
  refine sx_lconst (v := (0 : Int64)) dX7_plaster_2 (by decide) ?_
  refine sx_ldc2 (v := (8 : Int64)) dX7_plaster_3 wd_1324 ?_
  obtain ⟨z1, ez1, h⟩ := bd_e h
  refine sx_callS (avs := [.long v1.toInt64, .long (0 : Int64), .long (8 : Int64)]) (rest := []) (st1 := [.int z1]) dX7_plaster_6 (mX7_in ez1) ctX7_in (Or.inl wd_1031) rfl rfl (rm_m rfl) rfl (Nat.le_of_ble_eq_true rfl) rfl ?_
  refine sx_if_eq (tgt := 32) dX7_plaster_9 rfl (fun c2 => ?_) (fun c2 => ?_)
  · have h := if_e c2 h
    exact sx_sub [0] rfl (tX7_plaster_j32 h0 h k3)
  · have h := if_n c2 h
    refine sx_iload_n (i := 2) (j := 2) dX7_plaster_12 rfl rfl ?_
    refine sx_i2l dX7_plaster_13 ?_
    refine sx_ldc2 (v := (-1 : Int64)) dX7_plaster_14 wd_1051 ?_
    refine sx_aload_n (i := 0) (j := 0) dX7_plaster_17 rfl rfl ?_
    refine sx_get (k := 0) (v := .ref (a0 + 1)) dX7_plaster_18 (X7_k h0) cf_7 (Or.inl wd_956) (by decide : 0 < 20) (congrArg Value.ref (X7_r0 h0)) ?_
    refine sx_iconst (v := (0 : Int32)) dX7_plaster_21 (by decide) ?_
    refine sx_iald dX7_plaster_22 (X7_a0 h0) (show vin (0 : Int32) 228 from by decide) ?_
    refine sx_iconst (v := (1 : Int32)) dX7_plaster_23 (by decide) ?_
    refine sx_isub dX7_plaster_24 ?_
    refine sx_i2l dX7_plaster_25 ?_
    obtain ⟨z4, ez4, h⟩ := bd_e h
    refine sx_callS (avs := [.long v2.toInt64, .long (-1 : Int64), .long ((L.1 (a0 + 1) (0 : Int32).toNatClampNeg) - (1 : Int32)).toInt64]) (rest := []) (st1 := [.int z4]) dX7_plaster_26 (mX7_in ez4) ctX7_in (Or.inl wd_1031) rfl rfl (rm_m rfl) rfl (Nat.le_of_ble_eq_true rfl) rfl ?_
    refine sx_if_ne (tgt := 39) dX7_plaster_29 rfl (fun c5 => ?_) (fun c5 => ?_)
    · have h := if_e c5 h
      exact sx_sub [0] rfl (tX7_plaster_j32 h0 h k3)
    · have h := if_n c5 h
      refine sx_iload_n (i := 2) (j := 2) dX7_plaster_39 rfl rfl ?_
      refine sx_iconst (v := (-1 : Int32)) dX7_plaster_40 (by decide) ?_
      refine sx_icmp_ne (tgt := 81) dX7_plaster_41 rfl (fun c6 => ?_) (fun c6 => ?_)
      · have h := if_e c6 h
        refine sx_iconst (v := (1 : Int32)) dX7_plaster_44 (by decide) ?_
        refine sx_istore_n (i := 3) (lv' := [(0, .ref a0), (1, .int v1), (2, .int v2), (3, .int (1 : Int32))]) dX7_plaster_45 rfl (by decide) rfl ?_
        refine sx_iconst (v := (1 : Int32)) dX7_plaster_46 (by decide) ?_
        refine sx_istore (lv' := [(0, .ref a0), (1, .int v1), (2, .int v2), (3, .int (1 : Int32)), (4, .int (1 : Int32))]) dX7_plaster_47 (by decide) rfl ?_
        obtain ⟨x13, hx, q1, q2⟩ := lx_e h
        refine sx_sub (lv' := [(0, .ref a0), (1, .int v1), (3, .int (1 : Int32)), (4, .int (1 : Int32))]) [0, 1, 3, 4] rfl ?_
        refine lp_go (fun s12 => Sx l E yX7_plaster cX7_plaster 6 (some .int) (3) r L' 49 [(0, .ref a0), (1, .int v1), (3, .int s12.1), (4, .int s12.2)] [] L) x13 (fun s12 z2 hz c1 c2 => ?_) FU _ hx
        refine tX7_plaster_b49 h0 hz (fun s2 e => c1 s2 e) (fun s12 e => ?_) (fun v e => ?_)
        · have h := q1 _ (c2 _ e).symm
          refine sx_iload_n (i := 3) (j := 0) dX7_plaster_79 rfl rfl ?_
          obtain rfl := Option.some.inj h
          exact sx_iret dX7_plaster_80 rfl rfl k3.1 k3.2
        · have e2 := Option.some.inj (q2 _ (c2 _ e).symm)
          subst e2
          exact k3
      · have h := if_n c6 h
        refine sx_aload_n (i := 0) (j := 0) dX7_plaster_81 rfl rfl ?_
        refine sx_iload_n (i := 2) (j := 2) dX7_plaster_82 rfl rfl ?_
        refine sx_iload_n (i := 1) (j := 1) dX7_plaster_83 rfl rfl ?_
        obtain ⟨z14, ez14, h⟩ := bd_e h
        refine sx_callV (avs := [.int v2, .int v1]) (rest := []) (st1 := [.int z14]) dX7_plaster_84 (mX7_parents h0 ez14) ciX7_parents (Or.inl wd_1325) (X7_k h0) rfl rfl rfl rfl (rm_m rfl) rfl (Nat.le_of_ble_eq_true rfl) rfl ?_
        refine sx_istore_n (i := 3) (lv' := [(0, .ref a0), (1, .int v1), (2, .int v2), (3, .int z14)]) dX7_plaster_87 rfl (by decide) rfl ?_
        refine sx_iconst (v := (-1 : Int32)) dX7_plaster_88 (by decide) ?_
        refine sx_istore (lv' := [(0, .ref a0), (1, .int v1), (2, .int v2), (3, .int z14), (4, .int (-1 : Int32))]) dX7_plaster_89 (by decide) rfl ?_
        refine sx_iconst (v := (0 : Int32)) dX7_plaster_91 (by decide) ?_
        refine sx_istore (lv' := [(0, .ref a0), (1, .int v1), (2, .int v2), (3, .int z14), (4, .int (-1 : Int32)), (5, .int (0 : Int32))]) dX7_plaster_92 (by decide) rfl ?_
        obtain ⟨x20, hx, q1, q2⟩ := lx_e h
        refine sx_sub (lv' := [(2, .int v2), (3, .int z14), (4, .int (-1 : Int32)), (5, .int (0 : Int32))]) [2, 3, 4, 5] rfl ?_
        refine lp_go (fun s19 => Sx l E yX7_plaster cX7_plaster 6 (some .int) (3) r L' 94 [(2, .int v2), (3, .int z14), (4, .int s19.1), (5, .int s19.2)] [] L) x20 (fun s19 z2 hz c1 c2 => ?_) FU _ hx
        refine tX7_plaster_b94 h0 hz (fun s2 e => c1 s2 e) (fun s19 e => ?_) (fun v e => ?_)
        · have h := q1 _ (c2 _ e).symm
          refine sx_iload (j := 0) dX7_plaster_123 rfl ?_
          obtain rfl := Option.some.inj h
          exact sx_iret dX7_plaster_125 rfl rfl k3.1 k3.2
        · have e2 := Option.some.inj (q2 _ (c2 _ e).symm)
          subst e2
          exact k3
set_option maxRecDepth 100000 in
set_option maxHeartbeats 4000000 in
theorem tX7_gables_b23 {l : Launch} {E : Ev} {r : Option Value} {L' L : HL} {a0 : Nat} {v1 : Int32} {v2 : Int32} {v3 : Int32} {z : Tn (Int32 × Int32) (Int32 × HL)} (h0 : isX7 E a0) (h : fX7_gables_b23 a0 v1 v2 v3 L = some z) (k1 : ∀ s, z = .inl s → Sx l E yX7_gables cX7_gables 4 (some .int) (3) r L' 23 [(0, .ref a0), (1, .int v1), (2, .int s.1), (3, .int s.2)] [] L) (k2 : ∀ s, z = .inr (.inl s) → Sx l E yX7_gables cX7_gables 4 (some .int) (3) r L' 58 [(2, .int s.1)] [] L) (k3 : ∀ v, z = .inr (.inr v) → r = some (.int v.1) ∧ L' = v.2) : Sx l E yX7_gables cX7_gables 4 (some .int) (3) r L' 23 [(0, .ref a0), (1, .int v1), (2, .int v2), (3, .int v3)] [] L := by
  unfold fX7_gables_b23 at h
  refine sx_iload_n (i := 3) (j := 3) dX7_gables_23 rfl rfl ?_
  refine sx_aload_n (i := 0) (j := 0) dX7_gables_24 rfl rfl ?_
  refine sx_get (k := 0) (v := .ref (a0 + 1)) dX7_gables_25 (X7_k h0) cf_7 (Or.inl wd_956) (by decide : 0 < 20) (congrArg Value.ref (X7_r0 h0)) ?_
  refine sx_iconst (v := (0 : Int32)) dX7_gables_28 (by decide) ?_
  refine sx_iald dX7_gables_29 (X7_a0 h0) (show vin (0 : Int32) 228 from by decide) ?_
  refine sx_icmp_ge (tgt := 58) dX7_gables_30 rfl (fun c4 => ?_) (fun c4 => ?_)
  · have h := if_e c4 h
    obtain rfl := Option.some.inj h
    exact sx_sub [2] rfl (k2 _ rfl)
  · have h := if_n c4 h
    refine sx_iload_n (i := 2) (j := 2) dX7_gables_33 rfl rfl ?_
    refine sx_aload_n (i := 0) (j := 0) dX7_gables_34 rfl rfl ?_
    refine sx_iload_n (i := 3) (j := 3) dX7_gables_35 rfl rfl ?_
    refine sx_iload_n (i := 1) (j := 1) dX7_gables_36 rfl rfl ?_
    obtain ⟨z5, ez5, h⟩ := bd_e h
    refine sx_callV (avs := [.int v3, .int v1]) (rest := [.int v2]) (st1 := [.int z5, .int v2]) dX7_gables_37 (mX7_parents h0 ez5) ciX7_parents (Or.inl wd_1325) (X7_k h0) rfl rfl rfl rfl (rm_m rfl) rfl (Nat.le_of_ble_eq_true rfl) rfl ?_
    refine sx_if_ne (tgt := 49) dX7_gables_40 rfl (fun c6 => ?_) (fun c6 => ?_)
    · have h := if_e c6 h
      refine sx_iconst (v := (1 : Int32)) dX7_gables_43 (by decide) ?_
      refine sx_iload_n (i := 3) (j := 3) dX7_gables_44 rfl rfl ?_
      refine sx_ishl dX7_gables_45 ?_
      refine sx_goto (tgt := 50) dX7_gables_46 rfl ?_
      refine sx_ior dX7_gables_50 ?_
      refine sx_topi (fun w7 ew7 => ?_)
      have h := lt_e ew7 h
      refine sx_istore_n (i := 2) (lv' := [(0, .ref a0), (1, .int v1), (2, .int w7), (3, .int v3)]) dX7_gables_51 rfl (by decide) rfl ?_
      obtain ⟨w8, ew8⟩ : ∃ w : Int32, w = v3 + (1 : Int32) := ⟨_, rfl⟩
      have h := lt_e ew8 h
      refine sx_iinc (j := 3) (v := w8) (lv' := [(0, .ref a0), (1, .int v1), (2, .int w7), (3, .int w8)]) dX7_gables_52 rfl (ii_1 ew8) (by decide) rfl ?_
      refine sx_goto (tgt := 23) dX7_gables_55 rfl ?_
      obtain rfl := Option.some.inj h
      exact sx_sub [0, 1, 2, 3] rfl (k1 _ rfl)
    · have h := if_n c6 h
      refine sx_iconst (v := (0 : Int32)) dX7_gables_49 (by decide) ?_
      refine sx_ior dX7_gables_50 ?_
      refine sx_topi (fun w9 ew9 => ?_)
      have h := lt_e ew9 h
      refine sx_istore_n (i := 2) (lv' := [(0, .ref a0), (1, .int v1), (2, .int w9), (3, .int v3)]) dX7_gables_51 rfl (by decide) rfl ?_
      obtain ⟨w10, ew10⟩ : ∃ w : Int32, w = v3 + (1 : Int32) := ⟨_, rfl⟩
      have h := lt_e ew10 h
      refine sx_iinc (j := 3) (v := w10) (lv' := [(0, .ref a0), (1, .int v1), (2, .int w9), (3, .int w10)]) dX7_gables_52 rfl (ii_1 ew10) (by decide) rfl ?_
      refine sx_goto (tgt := 23) dX7_gables_55 rfl ?_
      obtain rfl := Option.some.inj h
      exact sx_sub [0, 1, 2, 3] rfl (k1 _ rfl)
set_option maxRecDepth 100000 in
set_option maxHeartbeats 4000000 in
theorem mX7_gables {l : Launch} {E : Ev} {L : HL} {a0 : Nat} {v1 : Int32} {z : Int32 × HL} (h0 : isX7 E a0) (h : fX7_gables a0 v1 L = some z) : Mt l E yX7_gables cX7_gables 4 (some .int) (3) [.ref a0, .int v1] L (some (.int z.1)) (z.2) := by
  obtain ⟨r, hr⟩ : ∃ r : Option Value, r = some (.int z.1) := ⟨_, rfl⟩
  obtain ⟨L', hL'⟩ : ∃ L' : HL, L' = z.2 := ⟨_, rfl⟩
  have k3 : r = some (.int z.1) ∧ L' = z.2 := ⟨hr, hL'⟩
  refine mt_eq hr hL' ?_
  refine Mt.of (plainFor_of_name (by decide)) (Nat.le_of_ble_eq_true rfl) ?_
  refine sx_sub (lv' := [(0, .ref a0), (1, .int v1)]) [0, 1] rfl ?_
  unfold fX7_gables at h
  refine sx_iload_n (i := 1) (j := 1) dX7_gables_0 rfl rfl ?_
  refine sx_i2l dX7_gables_1 ?_
  refine sx_lconst (v := (0 : Int64)) dX7_gables_2 (by decide) ?_
  refine sx_ldc2 (v := (8 : Int64)) dX7_gables_3 wd_1324 ?_
  obtain ⟨z1, ez1, h⟩ := bd_e h
  refine sx_callS (avs := [.long v1.toInt64, .long (0 : Int64), .long (8 : Int64)]) (rest := []) (st1 := [.int z1]) dX7_gables_6 (mX7_in ez1) ctX7_in (Or.inl wd_1031) rfl rfl (rm_m rfl) rfl (Nat.le_of_ble_eq_true rfl) rfl ?_
  refine sx_if_ne (tgt := 19) dX7_gables_9 rfl (fun c2 => ?_) (fun c2 => ?_)
  · have h := if_e c2 h
    refine sx_aload_n (i := 0) (j := 0) dX7_gables_12 rfl rfl ?_
    refine sx_bipush (v := (-2 : Int32)) dX7_gables_13 (by decide) ?_
    obtain ⟨z3, ez3, h⟩ := bd_e h
    refine sx_callV (avs := [.int (-2 : Int32)]) (rest := []) (st1 := [.int z3.1]) dX7_gables_15 (mX7_bad h0 ez3) ciX7_bad (Or.inl wd_1094) (X7_k h0) rfl rfl rfl rfl (rm_m rfl) rfl (Nat.le_of_ble_eq_true rfl) rfl ?_
    obtain rfl := Option.some.inj h
    exact sx_iret dX7_gables_18 rfl rfl k3.1 k3.2
  · have h := if_n c2 h
    refine sx_iconst (v := (0 : Int32)) dX7_gables_19 (by decide) ?_
    refine sx_istore_n (i := 2) (lv' := [(0, .ref a0), (1, .int v1), (2, .int (0 : Int32))]) dX7_gables_20 rfl (by decide) rfl ?_
    refine sx_iconst (v := (1 : Int32)) dX7_gables_21 (by decide) ?_
    refine sx_istore_n (i := 3) (lv' := [(0, .ref a0), (1, .int v1), (2, .int (0 : Int32)), (3, .int (1 : Int32))]) dX7_gables_22 rfl (by decide) rfl ?_
    obtain ⟨x12, hx, q1, q2⟩ := lx_e h
    refine sx_sub (lv' := [(0, .ref a0), (1, .int v1), (2, .int (0 : Int32)), (3, .int (1 : Int32))]) [0, 1, 2, 3] rfl ?_
    refine lp_go (fun s11 => Sx l E yX7_gables cX7_gables 4 (some .int) (3) r L' 23 [(0, .ref a0), (1, .int v1), (2, .int s11.1), (3, .int s11.2)] [] L) x12 (fun s11 z2 hz c1 c2 => ?_) FU _ hx
    refine tX7_gables_b23 h0 hz (fun s2 e => c1 s2 e) (fun s11 e => ?_) (fun v e => ?_)
    · have h := q1 _ (c2 _ e).symm
      refine sx_iload_n (i := 2) (j := 0) dX7_gables_58 rfl rfl ?_
      obtain rfl := Option.some.inj h
      exact sx_iret dX7_gables_59 rfl rfl k3.1 k3.2
    · have e2 := Option.some.inj (q2 _ (c2 _ e).symm)
      subst e2
      exact k3
set_option maxRecDepth 100000 in
set_option maxHeartbeats 4000000 in
theorem tX7_getsBy_j130 {l : Launch} {E : Ev} {r : Option Value} {L' L : HL} {a0 : Nat} {v1 : Int32} {v2 : Int32} {v3 : Int32} {v4 : Int32} {v5 : Int32} {v6 : Int32} {v7 : Int32} {v8 : Int32} {v9 : Int32} {s0 : Int32} {z : Tn (Int32 × Int32 × Int32 × HL) (Int32 × HL)} (h0 : isX7 E a0) (h : fX7_getsBy_j130 a0 v1 v2 v3 v4 v5 v6 v7 v8 v9 s0 L = some z) (k1 : ∀ s, z = .inl s → Sx l E yX7_getsBy cX7_getsBy 11 (some .int) (4) r L' 11 [(0, .ref a0), (1, .int v1), (2, .int v2), (3, .int v3), (4, .int v4), (5, .int v5), (6, .int s.1), (7, .int s.2.1), (8, .int s.2.2.1)] [] s.2.2.2) (k2 : ∀ s, z = .inr (.inl s) → Sx l E yX7_getsBy cX7_getsBy 11 (some .int) (4) r L' 154 [(0, .ref a0), (1, .int v1), (3, .int v3), (4, .int v4), (6, .int s.1)] [] s.2.2.2) (k3 : ∀ v, z = .inr (.inr v) → r = some (.int v.1) ∧ L' = v.2) : Sx l E yX7_getsBy cX7_getsBy 11 (some .int) (4) r L' 130 [(0, .ref a0), (1, .int v1), (2, .int v2), (3, .int v3), (4, .int v4), (5, .int v5), (7, .int v7), (8, .int v8), (9, .int v9)] [.int s0] L := by
  unfold fX7_getsBy_j130 at h
  refine sx_istore (lv' := [(0, .ref a0), (1, .int v1), (2, .int v2), (3, .int v3), (4, .int v4), (5, .int v5), (6, .int s0), (7, .int v7), (8, .int v8), (9, .int v9)]) dX7_getsBy_130 (by decide) rfl ?_
  refine sx_iload (j := 9) dX7_getsBy_132 rfl ?_
  refine sx_iload (j := 7) dX7_getsBy_134 rfl ?_
  refine sx_icmp_ge (tgt := 144) dX7_getsBy_136 rfl (fun c7 => ?_) (fun c7 => ?_)
  · have h := if_e c7 h
    refine sx_iload (j := 7) dX7_getsBy_144 rfl ?_
    refine sx_istore (lv' := [(0, .ref a0), (1, .int v1), (2, .int v2), (3, .int v3), (4, .int v4), (5, .int v5), (6, .int s0), (7, .int v7), (8, .int v8), (9, .int v9)]) dX7_getsBy_146 (by decide) rfl ?_
    obtain ⟨w8, ew8⟩ : ∃ w : Int32, w = v8 + (1 : Int32) := ⟨_, rfl⟩
    have h := lt_e ew8 h
    refine sx_iinc (j := 8) (v := w8) (lv' := [(0, .ref a0), (1, .int v1), (2, .int v2), (3, .int v3), (4, .int v4), (5, .int v5), (6, .int s0), (7, .int v7), (8, .int w8), (9, .int v9)]) dX7_getsBy_148 rfl (ii_1 ew8) (by decide) rfl ?_
    refine sx_goto (tgt := 11) dX7_getsBy_151 rfl ?_
    obtain rfl := Option.some.inj h
    exact sx_sub [0, 1, 2, 3, 4, 5, 6, 7, 8] rfl (k1 _ rfl)
  · have h := if_n c7 h
    refine sx_iload (j := 9) dX7_getsBy_139 rfl ?_
    refine sx_goto (tgt := 146) dX7_getsBy_141 rfl ?_
    refine sx_istore (lv' := [(0, .ref a0), (1, .int v1), (2, .int v2), (3, .int v3), (4, .int v4), (5, .int v5), (6, .int s0), (7, .int v9), (8, .int v8), (9, .int v9)]) dX7_getsBy_146 (by decide) rfl ?_
    obtain ⟨w9, ew9⟩ : ∃ w : Int32, w = v8 + (1 : Int32) := ⟨_, rfl⟩
    have h := lt_e ew9 h
    refine sx_iinc (j := 8) (v := w9) (lv' := [(0, .ref a0), (1, .int v1), (2, .int v2), (3, .int v3), (4, .int v4), (5, .int v5), (6, .int s0), (7, .int v9), (8, .int w9), (9, .int v9)]) dX7_getsBy_148 rfl (ii_1 ew9) (by decide) rfl ?_
    refine sx_goto (tgt := 11) dX7_getsBy_151 rfl ?_
    obtain rfl := Option.some.inj h
    exact sx_sub [0, 1, 2, 3, 4, 5, 6, 7, 8] rfl (k1 _ rfl)
set_option maxRecDepth 100000 in
set_option maxHeartbeats 4000000 in
theorem tX7_getsBy_j114 {l : Launch} {E : Ev} {r : Option Value} {L' L : HL} {a0 : Nat} {v1 : Int32} {v2 : Int32} {v3 : Int32} {v4 : Int32} {v5 : Int32} {v6 : Int32} {v7 : Int32} {v8 : Int32} {s0 : Int32} {z : Tn (Int32 × Int32 × Int32 × HL) (Int32 × HL)} (h0 : isX7 E a0) (h : fX7_getsBy_j114 a0 v1 v2 v3 v4 v5 v6 v7 v8 s0 L = some z) (k1 : ∀ s, z = .inl s → Sx l E yX7_getsBy cX7_getsBy 11 (some .int) (4) r L' 11 [(0, .ref a0), (1, .int v1), (2, .int v2), (3, .int v3), (4, .int v4), (5, .int v5), (6, .int s.1), (7, .int s.2.1), (8, .int s.2.2.1)] [] s.2.2.2) (k2 : ∀ s, z = .inr (.inl s) → Sx l E yX7_getsBy cX7_getsBy 11 (some .int) (4) r L' 154 [(0, .ref a0), (1, .int v1), (3, .int v3), (4, .int v4), (6, .int s.1)] [] s.2.2.2) (k3 : ∀ v, z = .inr (.inr v) → r = some (.int v.1) ∧ L' = v.2) : Sx l E yX7_getsBy cX7_getsBy 11 (some .int) (4) r L' 114 [(0, .ref a0), (1, .int v1), (2, .int v2), (3, .int v3), (4, .int v4), (5, .int v5), (6, .int v6), (7, .int v7), (8, .int v8)] [.int s0] L := by
  unfold fX7_getsBy_j114 at h
  refine sx_istore (lv' := [(0, .ref a0), (1, .int v1), (2, .int v2), (3, .int v3), (4, .int v4), (5, .int v5), (6, .int v6), (7, .int v7), (8, .int v8), (9, .int s0)]) dX7_getsBy_114 (by decide) rfl ?_
  refine sx_iload (j := 9) dX7_getsBy_116 rfl ?_
  refine sx_iload (j := 7) dX7_getsBy_118 rfl ?_
  refine sx_icmp_ge (tgt := 128) dX7_getsBy_120 rfl (fun c6 => ?_) (fun c6 => ?_)
  · have h := if_e c6 h
    refine sx_iload (j := 6) dX7_getsBy_128 rfl ?_
    exact sx_sub [0, 1, 2, 3, 4, 5, 7, 8, 9] rfl (tX7_getsBy_j130 h0 h k1 k2 k3)
  · have h := if_n c6 h
    refine sx_iload (j := 8) dX7_getsBy_123 rfl ?_
    refine sx_goto (tgt := 130) dX7_getsBy_125 rfl ?_
    exact sx_sub [0, 1, 2, 3, 4, 5, 7, 8, 9] rfl (tX7_getsBy_j130 h0 h k1 k2 k3)
set_option maxRecDepth 100000 in
set_option maxHeartbeats 4000000 in
theorem tX7_getsBy_j85 {l : Launch} {E : Ev} {r : Option Value} {L' L : HL} {a0 : Nat} {v1 : Int32} {v2 : Int32} {v3 : Int32} {v4 : Int32} {v5 : Int32} {v6 : Int32} {v7 : Int32} {v8 : Int32} {v9 : Int32} {s0 : Int32} {z : Tn (Int32 × Int32 × Int32 × HL) (Int32 × HL)} (h0 : isX7 E a0) (h : fX7_getsBy_j85 a0 v1 v2 v3 v4 v5 v6 v7 v8 v9 s0 L = some z) (k1 : ∀ s, z = .inl s → Sx l E yX7_getsBy cX7_getsBy 11 (some .int) (4) r L' 11 [(0, .ref a0), (1, .int v1), (2, .int v2), (3, .int v3), (4, .int v4), (5, .int v5), (6, .int s.1), (7, .int s.2.1), (8, .int s.2.2.1)] [] s.2.2.2) (k2 : ∀ s, z = .inr (.inl s) → Sx l E yX7_getsBy cX7_getsBy 11 (some .int) (4) r L' 154 [(0, .ref a0), (1, .int v1), (3, .int v3), (4, .int v4), (6, .int s.1)] [] s.2.2.2) (k3 : ∀ v, z = .inr (.inr v) → r = some (.int v.1) ∧ L' = v.2) : Sx l E yX7_getsBy cX7_getsBy 11 (some .int) (4) r L' 85 [(0, .ref a0), (1, .int v1), (2, .int v2), (3, .int v3), (4, .int v4), (5, .int v5), (6, .int v6), (7, .int v7), (8, .int v8), (9, .int v9)] [.int s0] L := by
  unfold fX7_getsBy_j85 at h
  refine sx_istore (lv' := [(0, .ref a0), (1, .int v1), (2, .int v2), (3, .int v3), (4, .int v4), (5, .int v5), (6, .int v6), (7, .int v7), (8, .int v8), (9, .int v9), (10, .int s0)]) dX7_getsBy_85 (by decide) rfl ?_
  refine sx_iload (j := 10) dX7_getsBy_87 rfl ?_
  refine sx_if_ne (tgt := 97) dX7_getsBy_89 rfl (fun c5 => ?_) (fun c5 => ?_)
  · have h := if_e c5 h
    refine sx_iload (j := 9) dX7_getsBy_92 rfl ?_
    refine sx_goto (tgt := 114) dX7_getsBy_94 rfl ?_
    exact sx_sub [0, 1, 2, 3, 4, 5, 6, 7, 8] rfl (tX7_getsBy_j114 h0 h k1 k2 k3)
  · have h := if_n c5 h
    refine sx_iload (j := 9) dX7_getsBy_97 rfl ?_
    refine sx_sipush (v := (1000 : Int32)) dX7_getsBy_99 (by decide) ?_
    refine sx_icmp_ne (tgt := 110) dX7_getsBy_102 rfl (fun c10 => ?_) (fun c10 => ?_)
    · have h := if_e c10 h
      refine sx_bipush (v := (6 : Int32)) dX7_getsBy_105 (by decide) ?_
      refine sx_goto (tgt := 114) dX7_getsBy_107 rfl ?_
      exact sx_sub [0, 1, 2, 3, 4, 5, 6, 7, 8] rfl (tX7_getsBy_j114 h0 h k1 k2 k3)
    · have h := if_n c10 h
      refine sx_iload (j := 9) dX7_getsBy_110 rfl ?_
      refine sx_iconst (v := (3 : Int32)) dX7_getsBy_112 (by decide) ?_
      refine sx_isub dX7_getsBy_113 ?_
      exact sx_sub [0, 1, 2, 3, 4, 5, 6, 7, 8] rfl (tX7_getsBy_j114 h0 h k1 k2 k3)
set_option maxRecDepth 100000 in
set_option maxHeartbeats 4000000 in
theorem tX7_getsBy_j80 {l : Launch} {E : Ev} {r : Option Value} {L' L : HL} {a0 : Nat} {v1 : Int32} {v2 : Int32} {v3 : Int32} {v4 : Int32} {v5 : Int32} {v6 : Int32} {v7 : Int32} {v8 : Int32} {v9 : Int32} {z : Tn (Int32 × Int32 × Int32 × HL) (Int32 × HL)} (h0 : isX7 E a0) (h : fX7_getsBy_j80 a0 v1 v2 v3 v4 v5 v6 v7 v8 v9 L = some z) (k1 : ∀ s, z = .inl s → Sx l E yX7_getsBy cX7_getsBy 11 (some .int) (4) r L' 11 [(0, .ref a0), (1, .int v1), (2, .int v2), (3, .int v3), (4, .int v4), (5, .int v5), (6, .int s.1), (7, .int s.2.1), (8, .int s.2.2.1)] [] s.2.2.2) (k2 : ∀ s, z = .inr (.inl s) → Sx l E yX7_getsBy cX7_getsBy 11 (some .int) (4) r L' 154 [(0, .ref a0), (1, .int v1), (3, .int v3), (4, .int v4), (6, .int s.1)] [] s.2.2.2) (k3 : ∀ v, z = .inr (.inr v) → r = some (.int v.1) ∧ L' = v.2) : Sx l E yX7_getsBy cX7_getsBy 11 (some .int) (4) r L' 80 [(0, .ref a0), (1, .int v1), (2, .int v2), (3, .int v3), (4, .int v4), (5, .int v5), (6, .int v6), (7, .int v7), (8, .int v8), (9, .int v9)] [] L := by
  unfold fX7_getsBy_j80 at h
  refine sx_iconst (v := (1 : Int32)) dX7_getsBy_80 (by decide) ?_
  refine sx_goto (tgt := 85) dX7_getsBy_81 rfl ?_
  exact sx_sub [0, 1, 2, 3, 4, 5, 6, 7, 8, 9] rfl (tX7_getsBy_j85 h0 h k1 k2 k3)
set_option maxRecDepth 100000 in
set_option maxHeartbeats 4000000 in
theorem tX7_getsBy_j84 {l : Launch} {E : Ev} {r : Option Value} {L' L : HL} {a0 : Nat} {v1 : Int32} {v2 : Int32} {v3 : Int32} {v4 : Int32} {v5 : Int32} {v6 : Int32} {v7 : Int32} {v8 : Int32} {v9 : Int32} {z : Tn (Int32 × Int32 × Int32 × HL) (Int32 × HL)} (h0 : isX7 E a0) (h : fX7_getsBy_j84 a0 v1 v2 v3 v4 v5 v6 v7 v8 v9 L = some z) (k1 : ∀ s, z = .inl s → Sx l E yX7_getsBy cX7_getsBy 11 (some .int) (4) r L' 11 [(0, .ref a0), (1, .int v1), (2, .int v2), (3, .int v3), (4, .int v4), (5, .int v5), (6, .int s.1), (7, .int s.2.1), (8, .int s.2.2.1)] [] s.2.2.2) (k2 : ∀ s, z = .inr (.inl s) → Sx l E yX7_getsBy cX7_getsBy 11 (some .int) (4) r L' 154 [(0, .ref a0), (1, .int v1), (3, .int v3), (4, .int v4), (6, .int s.1)] [] s.2.2.2) (k3 : ∀ v, z = .inr (.inr v) → r = some (.int v.1) ∧ L' = v.2) : Sx l E yX7_getsBy cX7_getsBy 11 (some .int) (4) r L' 84 [(0, .ref a0), (1, .int v1), (2, .int v2), (3, .int v3), (4, .int v4), (5, .int v5), (6, .int v6), (7, .int v7), (8, .int v8), (9, .int v9)] [] L := by
  unfold fX7_getsBy_j84 at h
  refine sx_iconst (v := (0 : Int32)) dX7_getsBy_84 (by decide) ?_
  exact sx_sub [0, 1, 2, 3, 4, 5, 6, 7, 8, 9] rfl (tX7_getsBy_j85 h0 h k1 k2 k3)
set_option maxRecDepth 100000 in
set_option maxHeartbeats 4000000 in
theorem tX7_getsBy_j68 {l : Launch} {E : Ev} {r : Option Value} {L' L : HL} {a0 : Nat} {v1 : Int32} {v2 : Int32} {v3 : Int32} {v4 : Int32} {v5 : Int32} {v6 : Int32} {v7 : Int32} {v8 : Int32} {v9 : Int32} {z : Tn (Int32 × Int32 × Int32 × HL) (Int32 × HL)} (h0 : isX7 E a0) (h : fX7_getsBy_j68 a0 v1 v2 v3 v4 v5 v6 v7 v8 v9 L = some z) (k1 : ∀ s, z = .inl s → Sx l E yX7_getsBy cX7_getsBy 11 (some .int) (4) r L' 11 [(0, .ref a0), (1, .int v1), (2, .int v2), (3, .int v3), (4, .int v4), (5, .int v5), (6, .int s.1), (7, .int s.2.1), (8, .int s.2.2.1)] [] s.2.2.2) (k2 : ∀ s, z = .inr (.inl s) → Sx l E yX7_getsBy cX7_getsBy 11 (some .int) (4) r L' 154 [(0, .ref a0), (1, .int v1), (3, .int v3), (4, .int v4), (6, .int s.1)] [] s.2.2.2) (k3 : ∀ v, z = .inr (.inr v) → r = some (.int v.1) ∧ L' = v.2) : Sx l E yX7_getsBy cX7_getsBy 11 (some .int) (4) r L' 68 [(0, .ref a0), (1, .int v1), (2, .int v2), (3, .int v3), (4, .int v4), (5, .int v5), (6, .int v6), (7, .int v7), (8, .int v8), (9, .int v9)] [] L := by
  unfold fX7_getsBy_j68 at h
  refine sx_iload (j := 8) dX7_getsBy_68 rfl ?_
  refine sx_iload_n (i := 2) (j := 2) dX7_getsBy_70 rfl rfl ?_
  refine sx_icmp_ne (tgt := 84) dX7_getsBy_71 rfl (fun c11 => ?_) (fun c11 => ?_)
  · have h := if_e c11 h
    refine sx_iload (j := 5) dX7_getsBy_74 rfl ?_
    refine sx_iconst (v := (1 : Int32)) dX7_getsBy_76 (by decide) ?_
    refine sx_icmp_ne (tgt := 84) dX7_getsBy_77 rfl (fun c12 => ?_) (fun c12 => ?_)
    · have h := if_e c12 h
      exact sx_sub [0, 1, 2, 3, 4, 5, 6, 7, 8, 9] rfl (tX7_getsBy_j80 h0 h k1 k2 k3)
    · have h := if_n c12 h
      exact sx_sub [0, 1, 2, 3, 4, 5, 6, 7, 8, 9] rfl (tX7_getsBy_j84 h0 h k1 k2 k3)
  · have h := if_n c11 h
    exact sx_sub [0, 1, 2, 3, 4, 5, 6, 7, 8, 9] rfl (tX7_getsBy_j84 h0 h k1 k2 k3)
set_option maxRecDepth 100000 in
set_option maxHeartbeats 4000000 in
theorem tX7_getsBy_j54 {l : Launch} {E : Ev} {r : Option Value} {L' L : HL} {a0 : Nat} {v1 : Int32} {v2 : Int32} {v3 : Int32} {v4 : Int32} {v5 : Int32} {v6 : Int32} {v7 : Int32} {v8 : Int32} {s0 : Int32} {z : Tn (Int32 × Int32 × Int32 × HL) (Int32 × HL)} (h0 : isX7 E a0) (h : fX7_getsBy_j54 a0 v1 v2 v3 v4 v5 v6 v7 v8 s0 L = some z) (k1 : ∀ s, z = .inl s → Sx l E yX7_getsBy cX7_getsBy 11 (some .int) (4) r L' 11 [(0, .ref a0), (1, .int v1), (2, .int v2), (3, .int v3), (4, .int v4), (5, .int v5), (6, .int s.1), (7, .int s.2.1), (8, .int s.2.2.1)] [] s.2.2.2) (k2 : ∀ s, z = .inr (.inl s) → Sx l E yX7_getsBy cX7_getsBy 11 (some .int) (4) r L' 154 [(0, .ref a0), (1, .int v1), (3, .int v3), (4, .int v4), (6, .int s.1)] [] s.2.2.2) (k3 : ∀ v, z = .inr (.inr v) → r = some (.int v.1) ∧ L' = v.2) : Sx l E yX7_getsBy cX7_getsBy 11 (some .int) (4) r L' 54 [(0, .ref a0), (1, .int v1), (2, .int v2), (3, .int v3), (4, .int v4), (5, .int v5), (6, .int v6), (7, .int v7), (8, .int v8)] [.int s0] L := by
  unfold fX7_getsBy_j54 at h
  refine sx_istore (lv' := [(0, .ref a0), (1, .int v1), (2, .int v2), (3, .int v3), (4, .int v4), (5, .int v5), (6, .int v6), (7, .int v7), (8, .int v8), (9, .int s0)]) dX7_getsBy_54 (by decide) rfl ?_
  refine sx_iload (j := 8) dX7_getsBy_56 rfl ?_
  refine sx_iload_n (i := 1) (j := 1) dX7_getsBy_58 rfl rfl ?_
  refine sx_icmp_ne (tgt := 68) dX7_getsBy_59 rfl (fun c3 => ?_) (fun c3 => ?_)
  · have h := if_e c3 h
    refine sx_iload (j := 4) dX7_getsBy_62 rfl ?_
    refine sx_iconst (v := (1 : Int32)) dX7_getsBy_64 (by decide) ?_
    refine sx_icmp_eq (tgt := 80) dX7_getsBy_65 rfl (fun c4 => ?_) (fun c4 => ?_)
    · have h := if_e c4 h
      exact sx_sub [0, 1, 2, 3, 4, 5, 6, 7, 8, 9] rfl (tX7_getsBy_j80 h0 h k1 k2 k3)
    · have h := if_n c4 h
      exact sx_sub [0, 1, 2, 3, 4, 5, 6, 7, 8, 9] rfl (tX7_getsBy_j68 h0 h k1 k2 k3)
  · have h := if_n c3 h
    exact sx_sub [0, 1, 2, 3, 4, 5, 6, 7, 8, 9] rfl (tX7_getsBy_j68 h0 h k1 k2 k3)
set_option maxRecDepth 100000 in
set_option maxHeartbeats 4000000 in
theorem tX7_getsBy_b11 {l : Launch} {E : Ev} {r : Option Value} {L' L : HL} {a0 : Nat} {v1 : Int32} {v2 : Int32} {v3 : Int32} {v4 : Int32} {v5 : Int32} {v6 : Int32} {v7 : Int32} {v8 : Int32} {z : Tn (Int32 × Int32 × Int32 × HL) (Int32 × HL)} (h0 : isX7 E a0) (h : fX7_getsBy_b11 a0 v1 v2 v3 v4 v5 v6 v7 v8 L = some z) (k1 : ∀ s, z = .inl s → Sx l E yX7_getsBy cX7_getsBy 11 (some .int) (4) r L' 11 [(0, .ref a0), (1, .int v1), (2, .int v2), (3, .int v3), (4, .int v4), (5, .int v5), (6, .int s.1), (7, .int s.2.1), (8, .int s.2.2.1)] [] s.2.2.2) (k2 : ∀ s, z = .inr (.inl s) → Sx l E yX7_getsBy cX7_getsBy 11 (some .int) (4) r L' 154 [(0, .ref a0), (1, .int v1), (3, .int v3), (4, .int v4), (6, .int s.1)] [] s.2.2.2) (k3 : ∀ v, z = .inr (.inr v) → r = some (.int v.1) ∧ L' = v.2) : Sx l E yX7_getsBy cX7_getsBy 11 (some .int) (4) r L' 11 [(0, .ref a0), (1, .int v1), (2, .int v2), (3, .int v3), (4, .int v4), (5, .int v5), (6, .int v6), (7, .int v7), (8, .int v8)] [] L := by
  unfold fX7_getsBy_b11 at h
  refine sx_iload (j := 8) dX7_getsBy_11 rfl ?_
  refine sx_aload_n (i := 0) (j := 0) dX7_getsBy_13 rfl rfl ?_
  refine sx_get (k := 0) (v := .ref (a0 + 1)) dX7_getsBy_14 (X7_k h0) cf_7 (Or.inl wd_956) (by decide : 0 < 20) (congrArg Value.ref (X7_r0 h0)) ?_
  refine sx_iconst (v := (0 : Int32)) dX7_getsBy_17 (by decide) ?_
  refine sx_iald dX7_getsBy_18 (X7_a0 h0) (show vin (0 : Int32) 228 from by decide) ?_
  refine sx_icmp_ge (tgt := 154) dX7_getsBy_19 rfl (fun c1 => ?_) (fun c1 => ?_)
  · have h := if_e c1 h
    obtain rfl := Option.some.inj h
    exact sx_sub [0, 1, 3, 4, 6] rfl (k2 _ rfl)
  · have h := if_n c1 h
    refine sx_iload (j := 8) dX7_getsBy_22 rfl ?_
    refine sx_iload_n (i := 3) (j := 3) dX7_getsBy_24 rfl rfl ?_
    refine sx_icmp_ne (tgt := 34) dX7_getsBy_25 rfl (fun c2 => ?_) (fun c2 => ?_)
    · have h := if_e c2 h
      refine sx_sipush (v := (1000 : Int32)) dX7_getsBy_28 (by decide) ?_
      refine sx_goto (tgt := 54) dX7_getsBy_31 rfl ?_
      exact sx_sub [0, 1, 2, 3, 4, 5, 6, 7, 8] rfl (tX7_getsBy_j54 h0 h k1 k2 k3)
    · have h := if_n c2 h
      refine sx_aload_n (i := 0) (j := 0) dX7_getsBy_34 rfl rfl ?_
      refine sx_aload_n (i := 0) (j := 0) dX7_getsBy_35 rfl rfl ?_
      refine sx_get (k := 0) (v := .ref (a0 + 1)) dX7_getsBy_36 (X7_k h0) cf_7 (Or.inl wd_956) (by decide : 0 < 20) (congrArg Value.ref (X7_r0 h0)) ?_
      refine sx_aload_n (i := 0) (j := 0) dX7_getsBy_39 rfl rfl ?_
      refine sx_get (k := 0) (v := .ref (a0 + 1)) dX7_getsBy_40 (X7_k h0) cf_7 (Or.inl wd_956) (by decide : 0 < 20) (congrArg Value.ref (X7_r0 h0)) ?_
      refine sx_bipush (v := (24 : Int32)) dX7_getsBy_43 (by decide) ?_
      refine sx_iload_n (i := 3) (j := 3) dX7_getsBy_45 rfl rfl ?_
      refine sx_iadd dX7_getsBy_46 ?_
      obtain ⟨c13, h⟩ := gd_e h
      refine sx_iald dX7_getsBy_47 (X7_a0 h0) c13 ?_
      refine sx_iload_n (i := 3) (j := 3) dX7_getsBy_48 rfl rfl ?_
      refine sx_iload (j := 8) dX7_getsBy_49 rfl ?_
      obtain ⟨z14, ez14, h⟩ := bd_e h
      refine sx_callV (avs := [.ref (a0 + 1), .int (L.1 (a0 + 1) ((24 : Int32) + v3).toNatClampNeg), .int v3, .int v8]) (rest := []) (st1 := [.int z14.1]) dX7_getsBy_51 (mX7_rankOn h0 (X7_a0 h0) ez14) ciX7_rankOn (Or.inl wd_1161) (X7_k h0) rfl rfl rfl rfl (rm_m rfl) rfl (Nat.le_of_ble_eq_true rfl) rfl ?_
      exact sx_sub [0, 1, 2, 3, 4, 5, 6, 7, 8] rfl (tX7_getsBy_j54 h0 h k1 k2 k3)
set_option maxRecDepth 100000 in
set_option maxHeartbeats 4000000 in
theorem tX7_getsBy_j175 {l : Launch} {E : Ev} {r : Option Value} {L' L : HL} {a0 : Nat} {v1 : Int32} {v4 : Int32} {s0 : Int32} {z : Int32 × HL} (h0 : isX7 E a0) (h : fX7_getsBy_j175 a0 v1 v4 s0 L = some z) (k3 : r = some (.int z.1) ∧ L' = z.2) : Sx l E yX7_getsBy cX7_getsBy 11 (some .int) (4) r L' 175 [(0, .ref a0), (1, .int v1), (4, .int v4)] [.int s0] L := by
  unfold fX7_getsBy_j175 at h
  refine sx_istore (lv' := [(0, .ref a0), (1, .int v1), (4, .int v4), (8, .int s0)]) dX7_getsBy_175 (by decide) rfl ?_
  refine sx_aload_n (i := 0) (j := 0) dX7_getsBy_177 rfl rfl ?_
  refine sx_get (k := 0) (v := .ref (a0 + 1)) dX7_getsBy_178 (X7_k h0) cf_7 (Or.inl wd_956) (by decide : 0 < 20) (congrArg Value.ref (X7_r0 h0)) ?_
  refine sx_iload_n (i := 1) (j := 1) dX7_getsBy_181 rfl rfl ?_
  obtain ⟨z19, ez19, h⟩ := bd_e h
  refine sx_callS (avs := [.ref (a0 + 1), .int v1]) (rest := []) (st1 := [.int z19]) dX7_getsBy_182 (mX7_livingIn (X7_a0 h0) ez19) ctX7_livingIn (Or.inl wd_1173) rfl rfl (rm_m rfl) rfl (Nat.le_of_ble_eq_true rfl) rfl ?_
  obtain ⟨z20, ez20, h⟩ := bd_e h
  refine sx_callS (avs := [.int z19]) (rest := []) (st1 := [.int z20]) dX7_getsBy_185 (mX7_bits ez20) ctX7_bits (Or.inl wd_1176) rfl rfl (rm_m rfl) rfl (Nat.le_of_ble_eq_true rfl) rfl ?_
  refine sx_iload (j := 3) dX7_getsBy_188 rfl ?_
  refine sx_iadd dX7_getsBy_190 ?_
  refine sx_aload_n (i := 0) (j := 0) dX7_getsBy_191 rfl rfl ?_
  refine sx_get (k := 0) (v := .ref (a0 + 1)) dX7_getsBy_192 (X7_k h0) cf_7 (Or.inl wd_956) (by decide : 0 < 20) (congrArg Value.ref (X7_r0 h0)) ?_
  refine sx_iconst (v := (4 : Int32)) dX7_getsBy_195 (by decide) ?_
  refine sx_iload_n (i := 1) (j := 1) dX7_getsBy_196 rfl rfl ?_
  refine sx_iadd dX7_getsBy_197 ?_
  obtain ⟨c21, h⟩ := gd_e h
  refine sx_iald dX7_getsBy_198 (X7_a0 h0) c21 ?_
  refine sx_isub dX7_getsBy_199 ?_
  refine sx_topi (fun w22 ew22 => ?_)
  have h := lt_e ew22 h
  refine sx_istore (lv' := [(0, .ref a0), (1, .int v1), (4, .int v4), (8, .int s0), (9, .int w22)]) dX7_getsBy_200 (by decide) rfl ?_
  refine sx_iconst (v := (2 : Int32)) dX7_getsBy_202 (by decide) ?_
  refine sx_iload (j := 3) dX7_getsBy_203 rfl ?_
  refine sx_imul dX7_getsBy_205 ?_
  refine sx_iload (j := 4) dX7_getsBy_206 rfl ?_
  refine sx_if_le (tgt := 216) dX7_getsBy_208 rfl (fun c23 => ?_) (fun c23 => ?_)
  · have h := if_e c23 h
    refine sx_iconst (v := (0 : Int32)) dX7_getsBy_216 (by decide) ?_
    refine sx_isub dX7_getsBy_217 ?_
    refine sx_iload (j := 2) dX7_getsBy_218 rfl ?_
    refine sx_isub dX7_getsBy_220 ?_
    obtain rfl := Option.some.inj h
    exact sx_iret dX7_getsBy_221 rfl rfl k3.1 k3.2
  · have h := if_n c23 h
    refine sx_iload (j := 4) dX7_getsBy_211 rfl ?_
    refine sx_goto (tgt := 217) dX7_getsBy_213 rfl ?_
    refine sx_isub dX7_getsBy_217 ?_
    refine sx_iload (j := 2) dX7_getsBy_218 rfl ?_
    refine sx_isub dX7_getsBy_220 ?_
    obtain rfl := Option.some.inj h
    exact sx_iret dX7_getsBy_221 rfl rfl k3.1 k3.2
set_option maxRecDepth 100000 in
set_option maxHeartbeats 4000000 in
theorem mX7_getsBy {l : Launch} {E : Ev} {L : HL} {a0 : Nat} {v1 : Int32} {v2 : Int32} {v3 : Int32} {v4 : Int32} {v5 : Int32} {z : Int32 × HL} (h0 : isX7 E a0) (h : fX7_getsBy a0 v1 v2 v3 v4 v5 L = some z) : Mt l E yX7_getsBy cX7_getsBy 11 (some .int) (4) [.ref a0, .int v1, .int v2, .int v3, .int v4, .int v5] L (some (.int z.1)) (z.2) := by
  obtain ⟨r, hr⟩ : ∃ r : Option Value, r = some (.int z.1) := ⟨_, rfl⟩
  obtain ⟨L', hL'⟩ : ∃ L' : HL, L' = z.2 := ⟨_, rfl⟩
  have k3 : r = some (.int z.1) ∧ L' = z.2 := ⟨hr, hL'⟩
  refine mt_eq hr hL' ?_
  refine Mt.of (plainFor_of_name (by decide)) (Nat.le_of_ble_eq_true rfl) ?_
  refine sx_sub (lv' := [(0, .ref a0), (1, .int v1), (2, .int v2), (3, .int v3), (4, .int v4), (5, .int v5)]) [0, 1, 2, 3, 4, 5] rfl ?_
  unfold fX7_getsBy at h
  refine sx_iconst (v := (-1 : Int32)) dX7_getsBy_0 (by decide) ?_
  refine sx_istore (lv' := [(0, .ref a0), (1, .int v1), (2, .int v2), (3, .int v3), (4, .int v4), (5, .int v5), (6, .int (-1 : Int32))]) dX7_getsBy_1 (by decide) rfl ?_
  refine sx_sipush (v := (1000 : Int32)) dX7_getsBy_3 (by decide) ?_
  refine sx_istore (lv' := [(0, .ref a0), (1, .int v1), (2, .int v2), (3, .int v3), (4, .int v4), (5, .int v5), (6, .int (-1 : Int32)), (7, .int (1000 : Int32))]) dX7_getsBy_6 (by decide) rfl ?_
  refine sx_iconst (v := (0 : Int32)) dX7_getsBy_8 (by decide) ?_
  refine sx_istore (lv' := [(0, .ref a0), (1, .int v1), (2, .int v2), (3, .int v3), (4, .int v4), (5, .int v5), (6, .int (-1 : Int32)), (7, .int (1000 : Int32)), (8, .int (0 : Int32))]) dX7_getsBy_9 (by decide) rfl ?_
  obtain ⟨x24, hx, q1, q2⟩ := lx_e h
  refine sx_sub (lv' := [(0, .ref a0), (1, .int v1), (2, .int v2), (3, .int v3), (4, .int v4), (5, .int v5), (6, .int (-1 : Int32)), (7, .int (1000 : Int32)), (8, .int (0 : Int32))]) [0, 1, 2, 3, 4, 5, 6, 7, 8] rfl ?_
  refine lp_go (fun s15 => Sx l E yX7_getsBy cX7_getsBy 11 (some .int) (4) r L' 11 [(0, .ref a0), (1, .int v1), (2, .int v2), (3, .int v3), (4, .int v4), (5, .int v5), (6, .int s15.1), (7, .int s15.2.1), (8, .int s15.2.2.1)] [] s15.2.2.2) x24 (fun s15 z2 hz c1 c2 => ?_) FU _ hx
  refine tX7_getsBy_b11 h0 hz (fun s2 e => c1 s2 e) (fun s15 e => ?_) (fun v e => ?_)
  · have h := q1 _ (c2 _ e).symm
    refine sx_iload (j := 4) dX7_getsBy_154 rfl ?_
    refine sx_iload_n (i := 1) (j := 1) dX7_getsBy_156 rfl rfl ?_
    refine sx_icmp_ne (tgt := 174) dX7_getsBy_157 rfl (fun c16 => ?_) (fun c16 => ?_)
    · have h := if_e c16 h
      refine sx_aload_n (i := 0) (j := 0) dX7_getsBy_160 rfl rfl ?_
      refine sx_get (k := 0) (v := .ref (a0 + 1)) dX7_getsBy_161 (X7_k h0) cf_7 (Or.inl wd_956) (by decide : 0 < 20) (congrArg Value.ref (X7_r0 h0)) ?_
      refine sx_iload_n (i := 3) (j := 2) dX7_getsBy_164 rfl rfl ?_
      obtain ⟨z17, ez17, h⟩ := bd_e h
      refine sx_callS (avs := [.ref (a0 + 1), .int v3]) (rest := []) (st1 := [.int z17]) dX7_getsBy_165 (mX7_livingIn (X7_a0 h0) ez17) ctX7_livingIn (Or.inl wd_1173) rfl rfl (rm_m rfl) rfl (Nat.le_of_ble_eq_true rfl) rfl ?_
      obtain ⟨z18, ez18, h⟩ := bd_e h
      refine sx_callS (avs := [.int z17]) (rest := []) (st1 := [.int z18]) dX7_getsBy_168 (mX7_bits ez18) ctX7_bits (Or.inl wd_1176) rfl rfl (rm_m rfl) rfl (Nat.le_of_ble_eq_true rfl) rfl ?_
      refine sx_goto (tgt := 175) dX7_getsBy_171 rfl ?_
      exact sx_sub [0, 1, 3] rfl (tX7_getsBy_j175 h0 h k3)
    · have h := if_n c16 h
      refine sx_iconst (v := (0 : Int32)) dX7_getsBy_174 (by decide) ?_
      exact sx_sub [0, 1, 3] rfl (tX7_getsBy_j175 h0 h k3)
  · have e2 := Option.some.inj (q2 _ (c2 _ e).symm)
    subst e2
    exact k3
set_option maxRecDepth 100000 in
set_option maxHeartbeats 4000000 in
theorem tX7_doors_j47 {l : Launch} {E : Ev} {r : Option Value} {L' L : HL} {a0 : Nat} {z : Int32 × HL} (h0 : isX7 E a0) (h : fX7_doors_j47 a0 L = some z) (k3 : r = some (.int z.1) ∧ L' = z.2) : Sx l E yX7_doors cX7_doors 11 (some .int) (5) r L' 47 [(0, .ref a0)] [] L := by
  unfold fX7_doors_j47 at h
  refine sx_aload_n (i := 0) (j := 0) dX7_doors_47 rfl rfl ?_
  refine sx_bipush (v := (-10 : Int32)) dX7_doors_48 (by decide) ?_
  obtain ⟨z3, ez3, h⟩ := bd_e h
  refine sx_callV (avs := [.int (-10 : Int32)]) (rest := []) (st1 := [.int z3.1]) dX7_doors_50 (mX7_bad h0 ez3) ciX7_bad (Or.inl wd_1094) (X7_k h0) rfl rfl rfl rfl (rm_m rfl) rfl (Nat.le_of_ble_eq_true rfl) rfl ?_
  obtain rfl := Option.some.inj h
  exact sx_iret dX7_doors_53 rfl rfl k3.1 k3.2
set_option maxRecDepth 100000 in
set_option maxHeartbeats 4000000 in
theorem tX7_doors_j90 {l : Launch} {E : Ev} {r : Option Value} {L' L : HL} {a0 : Nat} {z : Int32 × HL} (h0 : isX7 E a0) (h : fX7_doors_j90 a0 L = some z) (k3 : r = some (.int z.1) ∧ L' = z.2) : Sx l E yX7_doors cX7_doors 11 (some .int) (5) r L' 90 [(0, .ref a0)] [] L := by
  unfold fX7_doors_j90 at h
  refine sx_aload_n (i := 0) (j := 0) dX7_doors_90 rfl rfl ?_
  refine sx_bipush (v := (-20 : Int32)) dX7_doors_91 (by decide) ?_
  obtain ⟨z15, ez15, h⟩ := bd_e h
  refine sx_callV (avs := [.int (-20 : Int32)]) (rest := []) (st1 := [.int z15.1]) dX7_doors_93 (mX7_no h0 ez15) ciX7_no (Or.inl wd_1145) (X7_k h0) rfl rfl rfl rfl (rm_m rfl) rfl (Nat.le_of_ble_eq_true rfl) rfl ?_
  obtain rfl := Option.some.inj h
  exact sx_iret dX7_doors_96 rfl rfl k3.1 k3.2
set_option maxRecDepth 100000 in
set_option maxHeartbeats 4000000 in
theorem tX7_doors_j196 {l : Launch} {E : Ev} {r : Option Value} {L' L : HL} {a0 : Nat} {v1 : Int32} {v2 : Int32} {v3 : Int32} {v4 : Int32} {v5 : Int32} {v6 : Int32} {v7 : Int32} {v8 : Int32} {v9 : Int32} {v10 : Int32} {s0 : Int32} {s1 : Int32} {z : Tn (Int32 × Int32 × Int32 × HL) (Int32 × HL)} (h0 : isX7 E a0) (h : fX7_doors_j196 a0 v1 v2 v3 v4 v5 v6 v7 v8 v9 v10 s0 s1 L = some z) (k1 : ∀ s, z = .inl s → Sx l E yX7_doors cX7_doors 11 (some .int) (5) r L' 106 [(0, .ref a0), (1, .int v1), (2, .int v2), (3, .int v3), (4, .int v4), (5, .int s.1), (6, .int s.2.1), (7, .int s.2.2.1)] [] s.2.2.2) (k2 : ∀ s, z = .inr (.inl s) → Sx l E yX7_doors cX7_doors 11 (some .int) (5) r L' 225 [(4, .int v4), (5, .int s.1), (6, .int s.2.1)] [] s.2.2.2) (k3 : ∀ v, z = .inr (.inr v) → r = some (.int v.1) ∧ L' = v.2) : Sx l E yX7_doors cX7_doors 11 (some .int) (5) r L' 196 [(0, .ref a0), (1, .int v1), (2, .int v2), (3, .int v3), (4, .int v4), (6, .int v6), (7, .int v7), (8, .int v8), (9, .int v9), (10, .int v10)] [.int s1, .int s0] L := by
  unfold fX7_doors_j196 at h
  refine sx_iadd dX7_doors_196 ?_
  refine sx_topi (fun w27 ew27 => ?_)
  have h := lt_e ew27 h
  refine sx_istore (lv' := [(0, .ref a0), (1, .int v1), (2, .int v2), (3, .int v3), (4, .int v4), (5, .int w27), (6, .int v6), (7, .int v7), (8, .int v8), (9, .int v9), (10, .int v10)]) dX7_doors_197 (by decide) rfl ?_
  refine sx_iload (j := 10) dX7_doors_199 rfl ?_
  refine sx_if_eq (tgt := 215) dX7_doors_201 rfl (fun c28 => ?_) (fun c28 => ?_)
  · have h := if_e c28 h
    refine sx_iload (j := 6) dX7_doors_215 rfl ?_
    refine sx_istore (lv' := [(0, .ref a0), (1, .int v1), (2, .int v2), (3, .int v3), (4, .int v4), (5, .int w27), (6, .int v6), (7, .int v7), (8, .int v8), (9, .int v9), (10, .int v10)]) dX7_doors_217 (by decide) rfl ?_
    obtain ⟨w29, ew29⟩ : ∃ w : Int32, w = v7 + (-1 : Int32) := ⟨_, rfl⟩
    have h := lt_e ew29 h
    refine sx_iinc (j := 7) (v := w29) (lv' := [(0, .ref a0), (1, .int v1), (2, .int v2), (3, .int v3), (4, .int v4), (5, .int w27), (6, .int v6), (7, .int w29), (8, .int v8), (9, .int v9), (10, .int v10)]) dX7_doors_219 rfl (ii_m1 ew29) (by decide) rfl ?_
    refine sx_goto (tgt := 106) dX7_doors_222 rfl ?_
    obtain rfl := Option.some.inj h
    exact sx_sub [0, 1, 2, 3, 4, 5, 6, 7] rfl (k1 _ rfl)
  · have h := if_n c28 h
    refine sx_bipush (v := (10 : Int32)) dX7_doors_204 (by decide) ?_
    refine sx_iload (j := 8) dX7_doors_206 rfl ?_
    refine sx_imul dX7_doors_208 ?_
    refine sx_iload (j := 9) dX7_doors_209 rfl ?_
    refine sx_iadd dX7_doors_211 ?_
    refine sx_goto (tgt := 217) dX7_doors_212 rfl ?_
    refine sx_topi (fun w30 ew30 => ?_)
    have h := lt_e ew30 h
    refine sx_istore (lv' := [(0, .ref a0), (1, .int v1), (2, .int v2), (3, .int v3), (4, .int v4), (5, .int w27), (6, .int w30), (7, .int v7), (8, .int v8), (9, .int v9), (10, .int v10)]) dX7_doors_217 (by decide) rfl ?_
    obtain ⟨w31, ew31⟩ : ∃ w : Int32, w = v7 + (-1 : Int32) := ⟨_, rfl⟩
    have h := lt_e ew31 h
    refine sx_iinc (j := 7) (v := w31) (lv' := [(0, .ref a0), (1, .int v1), (2, .int v2), (3, .int v3), (4, .int v4), (5, .int w27), (6, .int w30), (7, .int w31), (8, .int v8), (9, .int v9), (10, .int v10)]) dX7_doors_219 rfl (ii_m1 ew31) (by decide) rfl ?_
    refine sx_goto (tgt := 106) dX7_doors_222 rfl ?_
    obtain rfl := Option.some.inj h
    exact sx_sub [0, 1, 2, 3, 4, 5, 6, 7] rfl (k1 _ rfl)
set_option maxRecDepth 100000 in
set_option maxHeartbeats 4000000 in
theorem tX7_doors_j182 {l : Launch} {E : Ev} {r : Option Value} {L' L : HL} {a0 : Nat} {v1 : Int32} {v2 : Int32} {v3 : Int32} {v4 : Int32} {v5 : Int32} {v6 : Int32} {v7 : Int32} {v8 : Int32} {v9 : Int32} {s0 : Int32} {z : Tn (Int32 × Int32 × Int32 × HL) (Int32 × HL)} (h0 : isX7 E a0) (h : fX7_doors_j182 a0 v1 v2 v3 v4 v5 v6 v7 v8 v9 s0 L = some z) (k1 : ∀ s, z = .inl s → Sx l E yX7_doors cX7_doors 11 (some .int) (5) r L' 106 [(0, .ref a0), (1, .int v1), (2, .int v2), (3, .int v3), (4, .int v4), (5, .int s.1), (6, .int s.2.1), (7, .int s.2.2.1)] [] s.2.2.2) (k2 : ∀ s, z = .inr (.inl s) → Sx l E yX7_doors cX7_doors 11 (some .int) (5) r L' 225 [(4, .int v4), (5, .int s.1), (6, .int s.2.1)] [] s.2.2.2) (k3 : ∀ v, z = .inr (.inr v) → r = some (.int v.1) ∧ L' = v.2) : Sx l E yX7_doors cX7_doors 11 (some .int) (5) r L' 182 [(0, .ref a0), (1, .int v1), (2, .int v2), (3, .int v3), (4, .int v4), (5, .int v5), (6, .int v6), (7, .int v7), (8, .int v8), (9, .int v9)] [.int s0] L := by
  unfold fX7_doors_j182 at h
  refine sx_istore (lv' := [(0, .ref a0), (1, .int v1), (2, .int v2), (3, .int v3), (4, .int v4), (5, .int v5), (6, .int v6), (7, .int v7), (8, .int v8), (9, .int v9), (10, .int s0)]) dX7_doors_182 (by decide) rfl ?_
  refine sx_iload (j := 5) dX7_doors_184 rfl ?_
  refine sx_iload (j := 10) dX7_doors_186 rfl ?_
  refine sx_if_eq (tgt := 195) dX7_doors_188 rfl (fun c26 => ?_) (fun c26 => ?_)
  · have h := if_e c26 h
    refine sx_iconst (v := (0 : Int32)) dX7_doors_195 (by decide) ?_
    exact sx_sub [0, 1, 2, 3, 4, 6, 7, 8, 9, 10] rfl (tX7_doors_j196 h0 h k1 k2 k3)
  · have h := if_n c26 h
    refine sx_iconst (v := (1 : Int32)) dX7_doors_191 (by decide) ?_
    refine sx_goto (tgt := 196) dX7_doors_192 rfl ?_
    exact sx_sub [0, 1, 2, 3, 4, 6, 7, 8, 9, 10] rfl (tX7_doors_j196 h0 h k1 k2 k3)
set_option maxRecDepth 100000 in
set_option maxHeartbeats 4000000 in
theorem tX7_doors_j181 {l : Launch} {E : Ev} {r : Option Value} {L' L : HL} {a0 : Nat} {v1 : Int32} {v2 : Int32} {v3 : Int32} {v4 : Int32} {v5 : Int32} {v6 : Int32} {v7 : Int32} {v8 : Int32} {v9 : Int32} {z : Tn (Int32 × Int32 × Int32 × HL) (Int32 × HL)} (h0 : isX7 E a0) (h : fX7_doors_j181 a0 v1 v2 v3 v4 v5 v6 v7 v8 v9 L = some z) (k1 : ∀ s, z = .inl s → Sx l E yX7_doors cX7_doors 11 (some .int) (5) r L' 106 [(0, .ref a0), (1, .int v1), (2, .int v2), (3, .int v3), (4, .int v4), (5, .int s.1), (6, .int s.2.1), (7, .int s.2.2.1)] [] s.2.2.2) (k2 : ∀ s, z = .inr (.inl s) → Sx l E yX7_doors cX7_doors 11 (some .int) (5) r L' 225 [(4, .int v4), (5, .int s.1), (6, .int s.2.1)] [] s.2.2.2) (k3 : ∀ v, z = .inr (.inr v) → r = some (.int v.1) ∧ L' = v.2) : Sx l E yX7_doors cX7_doors 11 (some .int) (5) r L' 181 [(0, .ref a0), (1, .int v1), (2, .int v2), (3, .int v3), (4, .int v4), (5, .int v5), (6, .int v6), (7, .int v7), (8, .int v8), (9, .int v9)] [] L := by
  unfold fX7_doors_j181 at h
  refine sx_iconst (v := (0 : Int32)) dX7_doors_181 (by decide) ?_
  exact sx_sub [0, 1, 2, 3, 4, 5, 6, 7, 8, 9] rfl (tX7_doors_j182 h0 h k1 k2 k3)
set_option maxRecDepth 100000 in
set_option maxHeartbeats 4000000 in
theorem tX7_doors_b106 {l : Launch} {E : Ev} {r : Option Value} {L' L : HL} {a0 : Nat} {v1 : Int32} {v2 : Int32} {v3 : Int32} {v4 : Int32} {v5 : Int32} {v6 : Int32} {v7 : Int32} {z : Tn (Int32 × Int32 × Int32 × HL) (Int32 × HL)} (h0 : isX7 E a0) (h : fX7_doors_b106 a0 v1 v2 v3 v4 v5 v6 v7 L = some z) (k1 : ∀ s, z = .inl s → Sx l E yX7_doors cX7_doors 11 (some .int) (5) r L' 106 [(0, .ref a0), (1, .int v1), (2, .int v2), (3, .int v3), (4, .int v4), (5, .int s.1), (6, .int s.2.1), (7, .int s.2.2.1)] [] s.2.2.2) (k2 : ∀ s, z = .inr (.inl s) → Sx l E yX7_doors cX7_doors 11 (some .int) (5) r L' 225 [(4, .int v4), (5, .int s.1), (6, .int s.2.1)] [] s.2.2.2) (k3 : ∀ v, z = .inr (.inr v) → r = some (.int v.1) ∧ L' = v.2) : Sx l E yX7_doors cX7_doors 11 (some .int) (5) r L' 106 [(0, .ref a0), (1, .int v1), (2, .int v2), (3, .int v3), (4, .int v4), (5, .int v5), (6, .int v6), (7, .int v7)] [] L := by
  unfold fX7_doors_b106 at h
  refine sx_iload (j := 7) dX7_doors_106 rfl ?_
  refine sx_if_lt (tgt := 225) dX7_doors_108 rfl (fun c20 => ?_) (fun c20 => ?_)
  · have h := if_e c20 h
    obtain rfl := Option.some.inj h
    exact sx_sub [4, 5, 6] rfl (k2 _ rfl)
  · have h := if_n c20 h
    refine sx_iload (j := 7) dX7_doors_111 rfl ?_
    refine sx_iconst (v := (2 : Int32)) dX7_doors_113 (by decide) ?_
    refine sx_idiv dX7_doors_114 (by decide) ?_
    refine sx_topi (fun w21 ew21 => ?_)
    have h := lt_e ew21 h
    refine sx_istore (lv' := [(0, .ref a0), (1, .int v1), (2, .int v2), (3, .int v3), (4, .int v4), (5, .int v5), (6, .int v6), (7, .int v7), (8, .int w21)]) dX7_doors_115 (by decide) rfl ?_
    refine sx_iload (j := 7) dX7_doors_117 rfl ?_
    refine sx_iconst (v := (2 : Int32)) dX7_doors_119 (by decide) ?_
    refine sx_irem dX7_doors_120 (by decide) ?_
    refine sx_topi (fun w22 ew22 => ?_)
    have h := lt_e ew22 h
    refine sx_istore (lv' := [(0, .ref a0), (1, .int v1), (2, .int v2), (3, .int v3), (4, .int v4), (5, .int v5), (6, .int v6), (7, .int v7), (8, .int w21), (9, .int w22)]) dX7_doors_121 (by decide) rfl ?_
    refine sx_aload_n (i := 0) (j := 0) dX7_doors_123 rfl rfl ?_
    refine sx_iload_n (i := 1) (j := 1) dX7_doors_124 rfl rfl ?_
    refine sx_iload_n (i := 2) (j := 2) dX7_doors_125 rfl rfl ?_
    refine sx_iload_n (i := 3) (j := 3) dX7_doors_126 rfl rfl ?_
    refine sx_iload (j := 8) dX7_doors_127 rfl ?_
    refine sx_iload (j := 9) dX7_doors_129 rfl ?_
    obtain ⟨z23, ez23, h⟩ := bd_e h
    refine sx_callV (avs := [.int v1, .int v2, .int v3, .int w21, .int w22]) (rest := []) (st1 := [.int z23.1]) dX7_doors_131 (mX7_getsBy h0 ez23) ciX7_getsBy (Or.inl wd_1337) (X7_k h0) rfl rfl rfl rfl (rm_m rfl) rfl (Nat.le_of_ble_eq_true rfl) rfl ?_
    refine sx_aload_n (i := 0) (j := 0) dX7_doors_134 rfl rfl ?_
    refine sx_iload_n (i := 1) (j := 1) dX7_doors_135 rfl rfl ?_
    refine sx_iload_n (i := 2) (j := 2) dX7_doors_136 rfl rfl ?_
    refine sx_iload_n (i := 3) (j := 3) dX7_doors_137 rfl rfl ?_
    refine sx_iconst (v := (1 : Int32)) dX7_doors_138 (by decide) ?_
    refine sx_iload (j := 8) dX7_doors_139 rfl ?_
    refine sx_isub dX7_doors_141 ?_
    refine sx_iload (j := 9) dX7_doors_142 rfl ?_
    obtain ⟨z24, ez24, h⟩ := bd_e h
    refine sx_callV (avs := [.int v1, .int v2, .int v3, .int ((1 : Int32) - w21), .int w22]) (rest := [.int z23.1]) (st1 := [.int z24.1, .int z23.1]) dX7_doors_144 (mX7_getsBy h0 ez24) ciX7_getsBy (Or.inl wd_1337) (X7_k h0) rfl rfl rfl rfl (rm_m rfl) rfl (Nat.le_of_ble_eq_true rfl) rfl ?_
    refine sx_icmp_lt (tgt := 181) dX7_doors_147 rfl (fun c25 => ?_) (fun c25 => ?_)
    · have h := if_e c25 h
      exact sx_sub [0, 1, 2, 3, 4, 5, 6, 7, 8, 9] rfl (tX7_doors_j181 h0 h k1 k2 k3)
    · have h := if_n c25 h
      refine sx_aload_n (i := 0) (j := 0) dX7_doors_150 rfl rfl ?_
      refine sx_iload_n (i := 2) (j := 2) dX7_doors_151 rfl rfl ?_
      refine sx_iload_n (i := 1) (j := 1) dX7_doors_152 rfl rfl ?_
      refine sx_iload_n (i := 3) (j := 3) dX7_doors_153 rfl rfl ?_
      refine sx_iload (j := 9) dX7_doors_154 rfl ?_
      refine sx_iload (j := 8) dX7_doors_156 rfl ?_
      obtain ⟨z32, ez32, h⟩ := bd_e h
      refine sx_callV (avs := [.int v2, .int v1, .int v3, .int w22, .int w21]) (rest := []) (st1 := [.int z32.1]) dX7_doors_158 (mX7_getsBy h0 ez32) ciX7_getsBy (Or.inl wd_1337) (X7_k h0) rfl rfl rfl rfl (rm_m rfl) rfl (Nat.le_of_ble_eq_true rfl) rfl ?_
      refine sx_aload_n (i := 0) (j := 0) dX7_doors_161 rfl rfl ?_
      refine sx_iload_n (i := 2) (j := 2) dX7_doors_162 rfl rfl ?_
      refine sx_iload_n (i := 1) (j := 1) dX7_doors_163 rfl rfl ?_
      refine sx_iload_n (i := 3) (j := 3) dX7_doors_164 rfl rfl ?_
      refine sx_iconst (v := (1 : Int32)) dX7_doors_165 (by decide) ?_
      refine sx_iload (j := 9) dX7_doors_166 rfl ?_
      refine sx_isub dX7_doors_168 ?_
      refine sx_iload (j := 8) dX7_doors_169 rfl ?_
      obtain ⟨z33, ez33, h⟩ := bd_e h
      refine sx_callV (avs := [.int v2, .int v1, .int v3, .int ((1 : Int32) - w22), .int w21]) (rest := [.int z32.1]) (st1 := [.int z33.1, .int z32.1]) dX7_doors_171 (mX7_getsBy h0 ez33) ciX7_getsBy (Or.inl wd_1337) (X7_k h0) rfl rfl rfl rfl (rm_m rfl) rfl (Nat.le_of_ble_eq_true rfl) rfl ?_
      refine sx_icmp_lt (tgt := 181) dX7_doors_174 rfl (fun c34 => ?_) (fun c34 => ?_)
      · have h := if_e c34 h
        exact sx_sub [0, 1, 2, 3, 4, 5, 6, 7, 8, 9] rfl (tX7_doors_j181 h0 h k1 k2 k3)
      · have h := if_n c34 h
        refine sx_iconst (v := (1 : Int32)) dX7_doors_177 (by decide) ?_
        refine sx_goto (tgt := 182) dX7_doors_178 rfl ?_
        exact sx_sub [0, 1, 2, 3, 4, 5, 6, 7, 8, 9] rfl (tX7_doors_j182 h0 h k1 k2 k3)
set_option maxRecDepth 100000 in
set_option maxHeartbeats 4000000 in
theorem mX7_doors {l : Launch} {E : Ev} {L : HL} {a0 : Nat} {v1 : Int32} {v2 : Int32} {v3 : Int32} {v4 : Int32} {z : Int32 × HL} (h0 : isX7 E a0) (h : fX7_doors a0 v1 v2 v3 v4 L = some z) : Mt l E yX7_doors cX7_doors 11 (some .int) (5) [.ref a0, .int v1, .int v2, .int v3, .int v4] L (some (.int z.1)) (z.2) := by
  obtain ⟨r, hr⟩ : ∃ r : Option Value, r = some (.int z.1) := ⟨_, rfl⟩
  obtain ⟨L', hL'⟩ : ∃ L' : HL, L' = z.2 := ⟨_, rfl⟩
  have k3 : r = some (.int z.1) ∧ L' = z.2 := ⟨hr, hL'⟩
  refine mt_eq hr hL' ?_
  refine Mt.of (plainFor_of_name (by decide)) (Nat.le_of_ble_eq_true rfl) ?_
  refine sx_sub (lv' := [(0, .ref a0), (1, .int v1), (2, .int v2), (3, .int v3), (4, .int v4)]) [0, 1, 2, 3, 4] rfl ?_
  unfold fX7_doors at h
  refine sx_aload_n (i := 0) (j := 0) dX7_doors_0 rfl rfl ?_
  refine sx_iload_n (i := 1) (j := 1) dX7_doors_1 rfl rfl ?_
  obtain ⟨z1, ez1, h⟩ := bd_e h
  refine sx_callV (avs := [.int v1]) (rest := []) (st1 := [.int z1]) dX7_doors_2 (mX7_isHouse h0 ez1) ciX7_isHouse (Or.inl wd_1047) (X7_k h0) rfl rfl rfl rfl (rm_m rfl) rfl (Nat.le_of_ble_eq_true rfl) rfl ?_
  refine sx_if_eq (tgt := 47) dX7_doors_5 rfl (fun c2 => ?_) (fun c2 => ?_)
  · have h := if_e c2 h
    exact sx_sub [0] rfl (tX7_doors_j47 h0 h k3)
  · have h := if_n c2 h
    refine sx_aload_n (i := 0) (j := 0) dX7_doors_8 rfl rfl ?_
    refine sx_iload_n (i := 2) (j := 2) dX7_doors_9 rfl rfl ?_
    obtain ⟨z4, ez4, h⟩ := bd_e h
    refine sx_callV (avs := [.int v2]) (rest := []) (st1 := [.int z4]) dX7_doors_10 (mX7_isHouse h0 ez4) ciX7_isHouse (Or.inl wd_1047) (X7_k h0) rfl rfl rfl rfl (rm_m rfl) rfl (Nat.le_of_ble_eq_true rfl) rfl ?_
    refine sx_if_eq (tgt := 47) dX7_doors_13 rfl (fun c5 => ?_) (fun c5 => ?_)
    · have h := if_e c5 h
      exact sx_sub [0] rfl (tX7_doors_j47 h0 h k3)
    · have h := if_n c5 h
      refine sx_aload_n (i := 0) (j := 0) dX7_doors_16 rfl rfl ?_
      refine sx_iload_n (i := 3) (j := 3) dX7_doors_17 rfl rfl ?_
      obtain ⟨z6, ez6, h⟩ := bd_e h
      refine sx_callV (avs := [.int v3]) (rest := []) (st1 := [.int z6]) dX7_doors_18 (mX7_isHouse h0 ez6) ciX7_isHouse (Or.inl wd_1047) (X7_k h0) rfl rfl rfl rfl (rm_m rfl) rfl (Nat.le_of_ble_eq_true rfl) rfl ?_
      refine sx_if_eq (tgt := 47) dX7_doors_21 rfl (fun c7 => ?_) (fun c7 => ?_)
      · have h := if_e c7 h
        exact sx_sub [0] rfl (tX7_doors_j47 h0 h k3)
      · have h := if_n c7 h
        refine sx_iload_n (i := 1) (j := 1) dX7_doors_24 rfl rfl ?_
        refine sx_iload_n (i := 2) (j := 2) dX7_doors_25 rfl rfl ?_
        refine sx_icmp_eq (tgt := 47) dX7_doors_26 rfl (fun c8 => ?_) (fun c8 => ?_)
        · have h := if_e c8 h
          exact sx_sub [0] rfl (tX7_doors_j47 h0 h k3)
        · have h := if_n c8 h
          refine sx_iload_n (i := 1) (j := 1) dX7_doors_29 rfl rfl ?_
          refine sx_iload_n (i := 3) (j := 3) dX7_doors_30 rfl rfl ?_
          refine sx_icmp_eq (tgt := 47) dX7_doors_31 rfl (fun c9 => ?_) (fun c9 => ?_)
          · have h := if_e c9 h
            exact sx_sub [0] rfl (tX7_doors_j47 h0 h k3)
          · have h := if_n c9 h
            refine sx_iload_n (i := 2) (j := 2) dX7_doors_34 rfl rfl ?_
            refine sx_iload_n (i := 3) (j := 3) dX7_doors_35 rfl rfl ?_
            refine sx_icmp_eq (tgt := 47) dX7_doors_36 rfl (fun c10 => ?_) (fun c10 => ?_)
            · have h := if_e c10 h
              exact sx_sub [0] rfl (tX7_doors_j47 h0 h k3)
            · have h := if_n c10 h
              refine sx_iload (j := 4) dX7_doors_39 rfl ?_
              obtain ⟨z11, ez11, h⟩ := bd_e h
              refine sx_callS (avs := [.int v4]) (rest := []) (st1 := [.int z11]) dX7_doors_41 (mX7_isTwo ez11) ctX7_isTwo (Or.inl wd_1221) rfl rfl (rm_m rfl) rfl (Nat.le_of_ble_eq_true rfl) rfl ?_
              refine sx_if_ne (tgt := 54) dX7_doors_44 rfl (fun c12 => ?_) (fun c12 => ?_)
              · have h := if_e c12 h
                exact sx_sub [0] rfl (tX7_doors_j47 h0 h k3)
              · have h := if_n c12 h
                refine sx_aload_n (i := 0) (j := 0) dX7_doors_54 rfl rfl ?_
                refine sx_get (k := 0) (v := .ref (a0 + 1)) dX7_doors_55 (X7_k h0) cf_7 (Or.inl wd_956) (by decide : 0 < 20) (congrArg Value.ref (X7_r0 h0)) ?_
                refine sx_bipush (v := (29 : Int32)) dX7_doors_58 (by decide) ?_
                refine sx_iload_n (i := 1) (j := 1) dX7_doors_60 rfl rfl ?_
                refine sx_iadd dX7_doors_61 ?_
                obtain ⟨c13, h⟩ := gd_e h
                refine sx_iald dX7_doors_62 (X7_a0 h0) c13 ?_
                refine sx_if_eq (tgt := 90) dX7_doors_63 rfl (fun c14 => ?_) (fun c14 => ?_)
                · have h := if_e c14 h
                  exact sx_sub [0] rfl (tX7_doors_j90 h0 h k3)
                · have h := if_n c14 h
                  refine sx_aload_n (i := 0) (j := 0) dX7_doors_66 rfl rfl ?_
                  refine sx_get (k := 0) (v := .ref (a0 + 1)) dX7_doors_67 (X7_k h0) cf_7 (Or.inl wd_956) (by decide : 0 < 20) (congrArg Value.ref (X7_r0 h0)) ?_
                  refine sx_bipush (v := (29 : Int32)) dX7_doors_70 (by decide) ?_
                  refine sx_iload_n (i := 2) (j := 2) dX7_doors_72 rfl rfl ?_
                  refine sx_iadd dX7_doors_73 ?_
                  obtain ⟨c16, h⟩ := gd_e h
                  refine sx_iald dX7_doors_74 (X7_a0 h0) c16 ?_
                  refine sx_if_eq (tgt := 90) dX7_doors_75 rfl (fun c17 => ?_) (fun c17 => ?_)
                  · have h := if_e c17 h
                    exact sx_sub [0] rfl (tX7_doors_j90 h0 h k3)
                  · have h := if_n c17 h
                    refine sx_aload_n (i := 0) (j := 0) dX7_doors_78 rfl rfl ?_
                    refine sx_get (k := 0) (v := .ref (a0 + 1)) dX7_doors_79 (X7_k h0) cf_7 (Or.inl wd_956) (by decide : 0 < 20) (congrArg Value.ref (X7_r0 h0)) ?_
                    refine sx_bipush (v := (29 : Int32)) dX7_doors_82 (by decide) ?_
                    refine sx_iload_n (i := 3) (j := 3) dX7_doors_84 rfl rfl ?_
                    refine sx_iadd dX7_doors_85 ?_
                    obtain ⟨c18, h⟩ := gd_e h
                    refine sx_iald dX7_doors_86 (X7_a0 h0) c18 ?_
                    refine sx_if_ne (tgt := 97) dX7_doors_87 rfl (fun c19 => ?_) (fun c19 => ?_)
                    · have h := if_e c19 h
                      exact sx_sub [0] rfl (tX7_doors_j90 h0 h k3)
                    · have h := if_n c19 h
                      refine sx_iconst (v := (0 : Int32)) dX7_doors_97 (by decide) ?_
                      refine sx_istore (lv' := [(0, .ref a0), (1, .int v1), (2, .int v2), (3, .int v3), (4, .int v4), (5, .int (0 : Int32))]) dX7_doors_98 (by decide) rfl ?_
                      refine sx_iconst (v := (-1 : Int32)) dX7_doors_100 (by decide) ?_
                      refine sx_istore (lv' := [(0, .ref a0), (1, .int v1), (2, .int v2), (3, .int v3), (4, .int v4), (5, .int (0 : Int32)), (6, .int (-1 : Int32))]) dX7_doors_101 (by decide) rfl ?_
                      refine sx_iconst (v := (3 : Int32)) dX7_doors_103 (by decide) ?_
                      refine sx_istore (lv' := [(0, .ref a0), (1, .int v1), (2, .int v2), (3, .int v3), (4, .int v4), (5, .int (0 : Int32)), (6, .int (-1 : Int32)), (7, .int (3 : Int32))]) dX7_doors_104 (by decide) rfl ?_
                      obtain ⟨x37, hx, q1, q2⟩ := lx_e h
                      refine sx_sub (lv' := [(0, .ref a0), (1, .int v1), (2, .int v2), (3, .int v3), (4, .int v4), (5, .int (0 : Int32)), (6, .int (-1 : Int32)), (7, .int (3 : Int32))]) [0, 1, 2, 3, 4, 5, 6, 7] rfl ?_
                      refine lp_go (fun s35 => Sx l E yX7_doors cX7_doors 11 (some .int) (5) r L' 106 [(0, .ref a0), (1, .int v1), (2, .int v2), (3, .int v3), (4, .int v4), (5, .int s35.1), (6, .int s35.2.1), (7, .int s35.2.2.1)] [] s35.2.2.2) x37 (fun s35 z2 hz c1 c2 => ?_) FU _ hx
                      refine tX7_doors_b106 h0 hz (fun s2 e => c1 s2 e) (fun s35 e => ?_) (fun v e => ?_)
                      · have h := q1 _ (c2 _ e).symm
                        refine sx_iload (j := 0) dX7_doors_225 rfl ?_
                        refine sx_if_ne (tgt := 235) dX7_doors_227 rfl (fun c36 => ?_) (fun c36 => ?_)
                        · have h := if_e c36 h
                          refine sx_iload (j := 1) dX7_doors_230 rfl ?_
                          refine sx_goto (tgt := 237) dX7_doors_232 rfl ?_
                          obtain rfl := Option.some.inj h
                          exact sx_iret dX7_doors_237 rfl rfl k3.1 k3.2
                        · have h := if_n c36 h
                          refine sx_iload (j := 2) dX7_doors_235 rfl ?_
                          obtain rfl := Option.some.inj h
                          exact sx_iret dX7_doors_237 rfl rfl k3.1 k3.2
                      · have e2 := Option.some.inj (q2 _ (c2 _ e).symm)
                        subst e2
                        exact k3
set_option maxRecDepth 100000 in
set_option maxHeartbeats 4000000 in
theorem tX7_drawn_j24 {l : Launch} {E : Ev} {r : Option Value} {L' L : HL} {a0 : Nat} {z : Int32 × HL} (h0 : isX7 E a0) (h : fX7_drawn_j24 a0 L = some z) (k3 : r = some (.int z.1) ∧ L' = z.2) : Sx l E yX7_drawn cX7_drawn 8 (some .int) (6) r L' 24 [(0, .ref a0)] [] L := by
  unfold fX7_drawn_j24 at h
  refine sx_aload_n (i := 0) (j := 0) dX7_drawn_24 rfl rfl ?_
  refine sx_bipush (v := (-2 : Int32)) dX7_drawn_25 (by decide) ?_
  obtain ⟨z3, ez3, h⟩ := bd_e h
  refine sx_callV (avs := [.int (-2 : Int32)]) (rest := []) (st1 := [.int z3.1]) dX7_drawn_27 (mX7_bad h0 ez3) ciX7_bad (Or.inl wd_1094) (X7_k h0) rfl rfl rfl rfl (rm_m rfl) rfl (Nat.le_of_ble_eq_true rfl) rfl ?_
  obtain rfl := Option.some.inj h
  exact sx_iret dX7_drawn_30 rfl rfl k3.1 k3.2
set_option maxRecDepth 100000 in
set_option maxHeartbeats 4000000 in
theorem tX7_drawn_j112 {l : Launch} {E : Ev} {r : Option Value} {L' L : HL} {a0 : Nat} {v2 : Int32} {v3 : Int64} {v5 : Int32} {v6 : Int32} {v7 : Int32} {z : Tn (Int32 × Int32) (Int32 × HL)} (h0 : isX7 E a0) (h : fX7_drawn_j112 a0 v2 v3 v5 v6 v7 L = some z) (k1 : ∀ s, z = .inl s → Sx l E yX7_drawn cX7_drawn 8 (some .int) (6) r L' 94 [(0, .ref a0), (2, .int v2), (3, .long v3), (5, .int v5), (6, .int s.1), (7, .int s.2)] [] L) (k2 : ∀ s, z = .inr (.inl s) → Sx l E yX7_drawn cX7_drawn 8 (some .int) (6) r L' 133 [(0, .ref a0), (2, .int v2), (3, .long v3), (5, .int v5), (7, .int s.2)] [] L) (k3 : ∀ v, z = .inr (.inr v) → r = some (.int v.1) ∧ L' = v.2) : Sx l E yX7_drawn cX7_drawn 8 (some .int) (6) r L' 112 [(0, .ref a0), (2, .int v2), (3, .long v3), (5, .int v5), (6, .int v6), (7, .int v7)] [] L := by
  unfold fX7_drawn_j112 at h
  refine sx_iload (j := 4) dX7_drawn_112 rfl ?_
  refine sx_aload_n (i := 0) (j := 0) dX7_drawn_114 rfl rfl ?_
  refine sx_get (k := 17) (v := .ref (a0 + 9)) dX7_drawn_115 (X7_k h0) cf_7 (Or.inl wd_973) (by decide : 17 < 20) (congrArg Value.ref (X7_r17 h0)) ?_
  refine sx_bipush (v := (29 : Int32)) dX7_drawn_118 (by decide) ?_
  refine sx_iload (j := 5) dX7_drawn_120 rfl ?_
  refine sx_iadd dX7_drawn_122 ?_
  obtain ⟨c18, h⟩ := gd_e h
  refine sx_iald dX7_drawn_123 (X7_a17 h0) c18 ?_
  refine sx_isub dX7_drawn_124 ?_
  refine sx_topi (fun w19 ew19 => ?_)
  have h := lt_e ew19 h
  refine sx_istore (lv' := [(0, .ref a0), (2, .int v2), (3, .long v3), (5, .int v5), (6, .int w19), (7, .int v7)]) dX7_drawn_125 (by decide) rfl ?_
  obtain ⟨w20, ew20⟩ : ∃ w : Int32, w = v7 + (1 : Int32) := ⟨_, rfl⟩
  have h := lt_e ew20 h
  refine sx_iinc (j := 5) (v := w20) (lv' := [(0, .ref a0), (2, .int v2), (3, .long v3), (5, .int v5), (6, .int w19), (7, .int w20)]) dX7_drawn_127 rfl (ii_1 ew20) (by decide) rfl ?_
  refine sx_goto (tgt := 94) dX7_drawn_130 rfl ?_
  obtain rfl := Option.some.inj h
  exact sx_sub [0, 1, 2, 3, 4, 5] rfl (k1 _ rfl)
set_option maxRecDepth 100000 in
set_option maxHeartbeats 4000000 in
theorem tX7_drawn_b94 {l : Launch} {E : Ev} {r : Option Value} {L' L : HL} {a0 : Nat} {v2 : Int32} {v3 : Int64} {v5 : Int32} {v6 : Int32} {v7 : Int32} {z : Tn (Int32 × Int32) (Int32 × HL)} (h0 : isX7 E a0) (h : fX7_drawn_b94 a0 v2 v3 v5 v6 v7 L = some z) (k1 : ∀ s, z = .inl s → Sx l E yX7_drawn cX7_drawn 8 (some .int) (6) r L' 94 [(0, .ref a0), (2, .int v2), (3, .long v3), (5, .int v5), (6, .int s.1), (7, .int s.2)] [] L) (k2 : ∀ s, z = .inr (.inl s) → Sx l E yX7_drawn cX7_drawn 8 (some .int) (6) r L' 133 [(0, .ref a0), (2, .int v2), (3, .long v3), (5, .int v5), (7, .int s.2)] [] L) (k3 : ∀ v, z = .inr (.inr v) → r = some (.int v.1) ∧ L' = v.2) : Sx l E yX7_drawn cX7_drawn 8 (some .int) (6) r L' 94 [(0, .ref a0), (2, .int v2), (3, .long v3), (5, .int v5), (6, .int v6), (7, .int v7)] [] L := by
  unfold fX7_drawn_b94 at h
  refine sx_aload_n (i := 0) (j := 0) dX7_drawn_94 rfl rfl ?_
  refine sx_get (k := 17) (v := .ref (a0 + 9)) dX7_drawn_95 (X7_k h0) cf_7 (Or.inl wd_973) (by decide : 17 < 20) (congrArg Value.ref (X7_r17 h0)) ?_
  refine sx_bipush (v := (29 : Int32)) dX7_drawn_98 (by decide) ?_
  refine sx_iload (j := 5) dX7_drawn_100 rfl ?_
  refine sx_iadd dX7_drawn_102 ?_
  obtain ⟨c16, h⟩ := gd_e h
  refine sx_iald dX7_drawn_103 (X7_a17 h0) c16 ?_
  refine sx_if_eq (tgt := 112) dX7_drawn_104 rfl (fun c17 => ?_) (fun c17 => ?_)
  · have h := if_e c17 h
    exact sx_sub [0, 1, 2, 3, 4, 5] rfl (tX7_drawn_j112 h0 h k1 k2 k3)
  · have h := if_n c17 h
    refine sx_iload (j := 4) dX7_drawn_107 rfl ?_
    refine sx_if_le (tgt := 133) dX7_drawn_109 rfl (fun c21 => ?_) (fun c21 => ?_)
    · have h := if_e c21 h
      obtain rfl := Option.some.inj h
      exact sx_sub [0, 1, 2, 3, 5] rfl (k2 _ rfl)
    · have h := if_n c21 h
      exact sx_sub [0, 1, 2, 3, 4, 5] rfl (tX7_drawn_j112 h0 h k1 k2 k3)
set_option maxRecDepth 100000 in
set_option maxHeartbeats 4000000 in
theorem tX7_drawn_b41 {l : Launch} {E : Ev} {r : Option Value} {L' L : HL} {a0 : Nat} {v2 : Int32} {v3 : Int64} {v5 : Int32} {z : Tn (Int64 × Int32 × HL) (Int32 × HL)} (h0 : isX7 E a0) (h : fX7_drawn_b41 a0 v2 v3 v5 L = some z) (k1 : ∀ s, z = .inl s → Sx l E yX7_drawn cX7_drawn 8 (some .int) (6) r L' 41 [(0, .ref a0), (2, .int v2), (3, .long s.1), (5, .int s.2.1)] [] s.2.2) (k2 : ∀ s, z = .inr (.inl s) → Sx l E yX7_drawn cX7_drawn 8 (some .int) (6) r L' 150 [(0, .ref a0)] [] s.2.2) (k3 : ∀ v, z = .inr (.inr v) → r = some (.int v.1) ∧ L' = v.2) : Sx l E yX7_drawn cX7_drawn 8 (some .int) (6) r L' 41 [(0, .ref a0), (2, .int v2), (3, .long v3), (5, .int v5)] [] L := by
  unfold fX7_drawn_b41 at h
  refine sx_iload (j := 3) dX7_drawn_41 rfl ?_
  refine sx_iload_n (i := 2) (j := 1) dX7_drawn_43 rfl rfl ?_
  refine sx_icmp_ge (tgt := 150) dX7_drawn_44 rfl (fun c8 => ?_) (fun c8 => ?_)
  · have h := if_e c8 h
    obtain rfl := Option.some.inj h
    exact sx_sub [0] rfl (k2 _ rfl)
  · have h := if_n c8 h
    refine sx_aload_n (i := 0) (j := 0) dX7_drawn_47 rfl rfl ?_
    refine sx_get (k := 17) (v := .ref (a0 + 9)) dX7_drawn_48 (X7_k h0) cf_7 (Or.inl wd_973) (by decide : 17 < 20) (congrArg Value.ref (X7_r17 h0)) ?_
    obtain ⟨z9, ez9, h⟩ := bd_e h
    refine sx_callS (avs := [.ref (a0 + 9)]) (rest := []) (st1 := [.int z9]) dX7_drawn_51 (mX7_standing (X7_a17 h0) ez9) ctX7_standing (Or.inl wd_1197) rfl rfl (rm_m rfl) rfl (Nat.le_of_ble_eq_true rfl) rfl ?_
    refine sx_if_eq (tgt := 150) dX7_drawn_54 rfl (fun c10 => ?_) (fun c10 => ?_)
    · have h := if_e c10 h
      obtain rfl := Option.some.inj h
      exact sx_sub [0] rfl (k2 _ rfl)
    · have h := if_n c10 h
      refine sx_lload_n (i := 3) (j := 2) dX7_drawn_57 rfl rfl ?_
      refine sx_ldc2 (v := (1103515245 : Int64)) dX7_drawn_58 wd_1346 ?_
      refine sx_lmul dX7_drawn_61 ?_
      refine sx_ldc2 (v := (12345 : Int64)) dX7_drawn_62 wd_1347 ?_
      refine sx_ladd dX7_drawn_65 ?_
      refine sx_ldc2 (v := (2147483648 : Int64)) dX7_drawn_66 wd_1348 ?_
      refine sx_lrem dX7_drawn_69 (by decide) ?_
      refine sx_topl (fun w11 ew11 => ?_)
      have h := lt_e ew11 h
      refine sx_lstore_n (i := 3) (lv' := [(0, .ref a0), (2, .int v2), (3, .long w11), (5, .int v5)]) dX7_drawn_70 rfl (by decide) rfl ?_
      refine sx_lload_n (i := 3) (j := 2) dX7_drawn_71 rfl rfl ?_
      refine sx_ldc2 (v := (65536 : Int64)) dX7_drawn_72 wd_1349 ?_
      refine sx_ldiv dX7_drawn_75 (by decide) ?_
      refine sx_aload_n (i := 0) (j := 0) dX7_drawn_76 rfl rfl ?_
      refine sx_get (k := 17) (v := .ref (a0 + 9)) dX7_drawn_77 (X7_k h0) cf_7 (Or.inl wd_973) (by decide : 17 < 20) (congrArg Value.ref (X7_r17 h0)) ?_
      obtain ⟨z12, ez12, h⟩ := bd_e h
      refine sx_callS (avs := [.ref (a0 + 9)]) (rest := [.long (w11 / (65536 : Int64))]) (st1 := [.int z12, .long (w11 / (65536 : Int64))]) dX7_drawn_80 (mX7_standing (X7_a17 h0) ez12) ctX7_standing (Or.inl wd_1197) rfl rfl (rm_m rfl) rfl (Nat.le_of_ble_eq_true rfl) rfl ?_
      obtain ⟨z13, ez13, h⟩ := bd_e h
      refine sx_callS (avs := [.int z12]) (rest := [.long (w11 / (65536 : Int64))]) (st1 := [.int z13, .long (w11 / (65536 : Int64))]) dX7_drawn_83 (mX7_bits ez13) ctX7_bits (Or.inl wd_1176) rfl rfl (rm_m rfl) rfl (Nat.le_of_ble_eq_true rfl) rfl ?_
      refine sx_i2l dX7_drawn_86 ?_
      obtain ⟨c14, h⟩ := gd_e h
      refine sx_lrem dX7_drawn_87 c14 ?_
      refine sx_l2i dX7_drawn_88 ?_
      refine sx_topi (fun w15 ew15 => ?_)
      have h := lt_e ew15 h
      refine sx_istore (lv' := [(0, .ref a0), (2, .int v2), (3, .long w11), (5, .int v5), (6, .int w15)]) dX7_drawn_89 (by decide) rfl ?_
      refine sx_iconst (v := (0 : Int32)) dX7_drawn_91 (by decide) ?_
      refine sx_istore (lv' := [(0, .ref a0), (2, .int v2), (3, .long w11), (5, .int v5), (6, .int w15), (7, .int (0 : Int32))]) dX7_drawn_92 (by decide) rfl ?_
      obtain ⟨x25, hx, q1, q2⟩ := lx_e h
      refine sx_sub (lv' := [(0, .ref a0), (2, .int v2), (3, .long w11), (5, .int v5), (6, .int w15), (7, .int (0 : Int32))]) [0, 1, 2, 3, 4, 5] rfl ?_
      refine lp_go (fun s22 => Sx l E yX7_drawn cX7_drawn 8 (some .int) (6) r L' 94 [(0, .ref a0), (2, .int v2), (3, .long w11), (5, .int v5), (6, .int s22.1), (7, .int s22.2)] [] L) x25 (fun s22 z2 hz c1 c2 => ?_) FU _ hx
      refine tX7_drawn_b94 h0 hz (fun s2 e => c1 s2 e) (fun s22 e => ?_) (fun v e => ?_)
      · have h := q1 _ (c2 _ e).symm
        refine sx_aload_n (i := 0) (j := 0) dX7_drawn_133 rfl rfl ?_
        refine sx_aload_n (i := 0) (j := 0) dX7_drawn_134 rfl rfl ?_
        refine sx_get (k := 17) (v := .ref (a0 + 9)) dX7_drawn_135 (X7_k h0) cf_7 (Or.inl wd_973) (by decide : 17 < 20) (congrArg Value.ref (X7_r17 h0)) ?_
        refine sx_iload (j := 4) dX7_drawn_138 rfl ?_
        obtain ⟨z23, ez23, h⟩ := bd_e h
        refine sx_callV (avs := [.ref (a0 + 9), .int s22.2]) (rest := []) (st1 := [.int z23.1]) dX7_drawn_140 (mX7_falls h0 (X7_a17 h0) ez23) ciX7_falls (Or.inl wd_1153) (X7_k h0) rfl rfl rfl rfl (rm_m rfl) rfl (Nat.le_of_ble_eq_true rfl) rfl ?_
        refine sx_pop dX7_drawn_143 rfl ?_
        obtain ⟨w24, ew24⟩ : ∃ w : Int32, w = v5 + (1 : Int32) := ⟨_, rfl⟩
        have h := lt_e ew24 h
        refine sx_iinc (j := 3) (v := w24) (lv' := [(0, .ref a0), (2, .int v2), (3, .long w11), (5, .int w24), (7, .int s22.2)]) dX7_drawn_144 rfl (ii_1 ew24) (by decide) rfl ?_
        refine sx_goto (tgt := 41) dX7_drawn_147 rfl ?_
        obtain rfl := Option.some.inj h
        exact sx_sub [0, 1, 2, 3] rfl (k1 _ rfl)
      · exact k3 _ (Option.some.inj (q2 _ (c2 _ e).symm)).symm
set_option maxRecDepth 100000 in
set_option maxHeartbeats 4000000 in
theorem mX7_drawn {l : Launch} {E : Ev} {L : HL} {a0 : Nat} {v1 : Int32} {v2 : Int32} {z : Int32 × HL} (h0 : isX7 E a0) (h : fX7_drawn a0 v1 v2 L = some z) : Mt l E yX7_drawn cX7_drawn 8 (some .int) (6) [.ref a0, .int v1, .int v2] L (some (.int z.1)) (z.2) := by
  obtain ⟨r, hr⟩ : ∃ r : Option Value, r = some (.int z.1) := ⟨_, rfl⟩
  obtain ⟨L', hL'⟩ : ∃ L' : HL, L' = z.2 := ⟨_, rfl⟩
  have k3 : r = some (.int z.1) ∧ L' = z.2 := ⟨hr, hL'⟩
  refine mt_eq hr hL' ?_
  refine Mt.of (plainFor_of_name (by decide)) (Nat.le_of_ble_eq_true rfl) ?_
  refine sx_sub (lv' := [(0, .ref a0), (1, .int v1), (2, .int v2)]) [0, 1, 2] rfl ?_
  unfold fX7_drawn at h
  refine sx_iload_n (i := 1) (j := 1) dX7_drawn_0 rfl rfl ?_
  refine sx_i2l dX7_drawn_1 ?_
  refine sx_lconst (v := (0 : Int64)) dX7_drawn_2 (by decide) ?_
  refine sx_ldc2 (v := (999999 : Int64)) dX7_drawn_3 wd_1345 ?_
  obtain ⟨z1, ez1, h⟩ := bd_e h
  refine sx_callS (avs := [.long v1.toInt64, .long (0 : Int64), .long (999999 : Int64)]) (rest := []) (st1 := [.int z1]) dX7_drawn_6 (mX7_in ez1) ctX7_in (Or.inl wd_1031) rfl rfl (rm_m rfl) rfl (Nat.le_of_ble_eq_true rfl) rfl ?_
  refine sx_if_eq (tgt := 24) dX7_drawn_9 rfl (fun c2 => ?_) (fun c2 => ?_)
  · have h := if_e c2 h
    exact sx_sub [0] rfl (tX7_drawn_j24 h0 h k3)
  · have h := if_n c2 h
    refine sx_iload_n (i := 2) (j := 2) dX7_drawn_12 rfl rfl ?_
    refine sx_i2l dX7_drawn_13 ?_
    refine sx_lconst (v := (0 : Int64)) dX7_drawn_14 (by decide) ?_
    refine sx_ldc2 (v := (5 : Int64)) dX7_drawn_15 wd_1060 ?_
    obtain ⟨z4, ez4, h⟩ := bd_e h
    refine sx_callS (avs := [.long v2.toInt64, .long (0 : Int64), .long (5 : Int64)]) (rest := []) (st1 := [.int z4]) dX7_drawn_18 (mX7_in ez4) ctX7_in (Or.inl wd_1031) rfl rfl (rm_m rfl) rfl (Nat.le_of_ble_eq_true rfl) rfl ?_
    refine sx_if_ne (tgt := 31) dX7_drawn_21 rfl (fun c5 => ?_) (fun c5 => ?_)
    · have h := if_e c5 h
      exact sx_sub [0] rfl (tX7_drawn_j24 h0 h k3)
    · have h := if_n c5 h
      refine sx_aload_n (i := 0) (j := 0) dX7_drawn_31 rfl rfl ?_
      obtain ⟨z6, ez6, h⟩ := bd_e h
      refine sx_callV (avs := []) (rest := []) (st1 := []) dX7_drawn_32 (mX7_layDay h0 ez6) ciX7_layDay (Or.inl wd_1252) (X7_k h0) rfl rfl rfl rfl (rm_m rfl) rfl (Nat.le_of_ble_eq_true rfl) rfl ?_
      refine sx_iload_n (i := 1) (j := 1) dX7_drawn_35 rfl rfl ?_
      refine sx_i2l dX7_drawn_36 ?_
      refine sx_topl (fun w7 ew7 => ?_)
      have h := lt_e ew7 h
      refine sx_lstore_n (i := 3) (lv' := [(0, .ref a0), (1, .int v1), (2, .int v2), (3, .long w7)]) dX7_drawn_37 rfl (by decide) rfl ?_
      refine sx_iconst (v := (0 : Int32)) dX7_drawn_38 (by decide) ?_
      refine sx_istore (lv' := [(0, .ref a0), (1, .int v1), (2, .int v2), (3, .long w7), (5, .int (0 : Int32))]) dX7_drawn_39 (by decide) rfl ?_
      obtain ⟨x29, hx, q1, q2⟩ := lx_e h
      refine sx_sub (lv' := [(0, .ref a0), (2, .int v2), (3, .long w7), (5, .int (0 : Int32))]) [0, 2, 3, 4] rfl ?_
      refine lp_go (fun s26 => Sx l E yX7_drawn cX7_drawn 8 (some .int) (6) r L' 41 [(0, .ref a0), (2, .int v2), (3, .long s26.1), (5, .int s26.2.1)] [] s26.2.2) x29 (fun s26 z2 hz c1 c2 => ?_) FU _ hx
      refine tX7_drawn_b41 h0 hz (fun s2 e => c1 s2 e) (fun s26 e => ?_) (fun v e => ?_)
      · have h := q1 _ (c2 _ e).symm
        refine sx_aload_n (i := 0) (j := 0) dX7_drawn_150 rfl rfl ?_
        refine sx_get (k := 17) (v := .ref (a0 + 9)) dX7_drawn_151 (X7_k h0) cf_7 (Or.inl wd_973) (by decide : 17 < 20) (congrArg Value.ref (X7_r17 h0)) ?_
        refine sx_iconst (v := (-1 : Int32)) dX7_drawn_154 (by decide) ?_
        obtain ⟨z27, ez27, h⟩ := bd_e h
        refine sx_callS (avs := [.ref (a0 + 9), .int (-1 : Int32)]) (rest := []) (st1 := [.int z27]) dX7_drawn_155 (mX7_livingIn (X7_a17 h0) ez27) ctX7_livingIn (Or.inl wd_1173) rfl rfl (rm_m rfl) rfl (Nat.le_of_ble_eq_true rfl) rfl ?_
        obtain ⟨z28, ez28, h⟩ := bd_e h
        refine sx_callS (avs := [.int z27]) (rest := []) (st1 := [.int z28]) dX7_drawn_158 (mX7_bits ez28) ctX7_bits (Or.inl wd_1176) rfl rfl (rm_m rfl) rfl (Nat.le_of_ble_eq_true rfl) rfl ?_
        obtain rfl := Option.some.inj h
        exact sx_iret dX7_drawn_161 rfl rfl k3.1 k3.2
      · have e2 := Option.some.inj (q2 _ (c2 _ e).symm)
        subst e2
        exact k3
set_option maxRecDepth 100000 in
set_option maxHeartbeats 4000000 in
theorem mX7_part {l : Launch} {E : Ev} {L : HL} {a0 : Nat} {v1 : Int32} {z : Int64 × HL} (h0 : isX7 E a0) (h : fX7_part a0 v1 L = some z) : Mt l E yX7_part cX7_part 2 (some .long) (2) [.ref a0, .int v1] L (some (.long z.1)) (z.2) := by
  obtain ⟨r, hr⟩ : ∃ r : Option Value, r = some (.long z.1) := ⟨_, rfl⟩
  obtain ⟨L', hL'⟩ : ∃ L' : HL, L' = z.2 := ⟨_, rfl⟩
  have k3 : r = some (.long z.1) ∧ L' = z.2 := ⟨hr, hL'⟩
  refine mt_eq hr hL' ?_
  refine Mt.of (plainFor_of_name (by decide)) (Nat.le_of_ble_eq_true rfl) ?_
  refine sx_sub (lv' := [(0, .ref a0), (1, .int v1)]) [0, 1] rfl ?_
  unfold fX7_part at h
  refine sx_iload_n (i := 1) (j := 1) dX7_part_0 rfl rfl ?_
  refine sx_if_ne (tgt := 11) dX7_part_1 rfl (fun c1 => ?_) (fun c1 => ?_)
  · have h := if_e c1 h
    refine sx_aload_n (i := 0) (j := 0) dX7_part_4 rfl rfl ?_
    refine sx_get (k := 5) (v := .long (L.2 a0 5)) dX7_part_5 (X7_k h0) cf_7 (Or.inl wd_961) (by decide : 5 < 20) rfl ?_
    refine sx_goto (tgt := 30) dX7_part_8 rfl ?_
    obtain rfl := Option.some.inj h
    exact sx_lret dX7_part_30 rfl k3.1 k3.2
  · have h := if_n c1 h
    refine sx_iload_n (i := 1) (j := 1) dX7_part_11 rfl rfl ?_
    refine sx_iconst (v := (1 : Int32)) dX7_part_12 (by decide) ?_
    refine sx_icmp_ne (tgt := 23) dX7_part_13 rfl (fun c2 => ?_) (fun c2 => ?_)
    · have h := if_e c2 h
      refine sx_aload_n (i := 0) (j := 0) dX7_part_16 rfl rfl ?_
      refine sx_get (k := 6) (v := .long (L.2 a0 6)) dX7_part_17 (X7_k h0) cf_7 (Or.inl wd_962) (by decide : 6 < 20) rfl ?_
      refine sx_goto (tgt := 30) dX7_part_20 rfl ?_
      obtain rfl := Option.some.inj h
      exact sx_lret dX7_part_30 rfl k3.1 k3.2
    · have h := if_n c2 h
      refine sx_aload_n (i := 0) (j := 0) dX7_part_23 rfl rfl ?_
      refine sx_bipush (v := (-2 : Int32)) dX7_part_24 (by decide) ?_
      obtain ⟨z3, ez3, h⟩ := bd_e h
      refine sx_callV (avs := [.int (-2 : Int32)]) (rest := []) (st1 := [.int z3.1]) dX7_part_26 (mX7_bad h0 ez3) ciX7_bad (Or.inl wd_1094) (X7_k h0) rfl rfl rfl rfl (rm_m rfl) rfl (Nat.le_of_ble_eq_true rfl) rfl ?_
      refine sx_i2l dX7_part_29 ?_
      obtain rfl := Option.some.inj h
      exact sx_lret dX7_part_30 rfl k3.1 k3.2
set_option maxRecDepth 100000 in
set_option maxHeartbeats 4000000 in
theorem mX7_image {l : Launch} {E : Ev} {L : HL} {a0 : Nat} {v1 : Int32} {z : Int32 × HL} (h0 : isX7 E a0) (h : fX7_image a0 v1 L = some z) : Mt l E yX7_image cX7_image 2 (some .int) (3) [.ref a0, .int v1] L (some (.int z.1)) (z.2) := by
  obtain ⟨r, hr⟩ : ∃ r : Option Value, r = some (.int z.1) := ⟨_, rfl⟩
  obtain ⟨L', hL'⟩ : ∃ L' : HL, L' = z.2 := ⟨_, rfl⟩
  have k3 : r = some (.int z.1) ∧ L' = z.2 := ⟨hr, hL'⟩
  refine mt_eq hr hL' ?_
  refine Mt.of (plainFor_of_name (by decide)) (Nat.le_of_ble_eq_true rfl) ?_
  refine sx_sub (lv' := [(0, .ref a0), (1, .int v1)]) [0, 1] rfl ?_
  unfold fX7_image at h
  refine sx_iload_n (i := 1) (j := 1) dX7_image_0 rfl rfl ?_
  obtain ⟨z1, ez1, h⟩ := bd_e h
  refine sx_callS (avs := [.int v1]) (rest := []) (st1 := [.int z1]) dX7_image_1 (mX7_isTwo ez1) ctX7_isTwo (Or.inl wd_1221) rfl rfl (rm_m rfl) rfl (Nat.le_of_ble_eq_true rfl) rfl ?_
  refine sx_if_ne (tgt := 14) dX7_image_4 rfl (fun c2 => ?_) (fun c2 => ?_)
  · have h := if_e c2 h
    refine sx_aload_n (i := 0) (j := 0) dX7_image_7 rfl rfl ?_
    refine sx_bipush (v := (-2 : Int32)) dX7_image_8 (by decide) ?_
    obtain ⟨z3, ez3, h⟩ := bd_e h
    refine sx_callV (avs := [.int (-2 : Int32)]) (rest := []) (st1 := [.int z3.1]) dX7_image_10 (mX7_bad h0 ez3) ciX7_bad (Or.inl wd_1094) (X7_k h0) rfl rfl rfl rfl (rm_m rfl) rfl (Nat.le_of_ble_eq_true rfl) rfl ?_
    obtain rfl := Option.some.inj h
    exact sx_iret dX7_image_13 rfl rfl k3.1 k3.2
  · have h := if_n c2 h
    refine sx_aload_n (i := 0) (j := 0) dX7_image_14 rfl rfl ?_
    refine sx_get (k := 0) (v := .ref (a0 + 1)) dX7_image_15 (X7_k h0) cf_7 (Or.inl wd_956) (by decide : 0 < 20) (congrArg Value.ref (X7_r0 h0)) ?_
    refine sx_iconst (v := (0 : Int32)) dX7_image_18 (by decide) ?_
    refine sx_aload_n (i := 0) (j := 0) dX7_image_19 rfl rfl ?_
    refine sx_get (k := 1) (v := .ref (a0 + 2)) dX7_image_20 (X7_k h0) cf_7 (Or.inl wd_957) (by decide : 1 < 20) (congrArg Value.ref (X7_r1 h0)) ?_
    refine sx_sipush (v := (228 : Int32)) dX7_image_23 (by decide) ?_
    refine sx_iload_n (i := 1) (j := 1) dX7_image_26 rfl rfl ?_
    refine sx_imul dX7_image_27 ?_
    refine sx_sipush (v := (228 : Int32)) dX7_image_28 (by decide) ?_
    obtain ⟨z4, ez4, h⟩ := bd_e h
    refine sx_callS (avs := [.ref (a0 + 1), .int (0 : Int32), .ref (a0 + 2), .int ((228 : Int32) * v1), .int (228 : Int32)]) (rest := []) (st1 := []) dX7_image_31 (mX7_copies (X7_a0 h0) (X7_a1 h0) ez4) ctX7_copies (Or.inl wd_1134) rfl rfl (rm_m rfl) rfl (Nat.le_of_ble_eq_true rfl) rfl ?_
    refine sx_aload_n (i := 0) (j := 0) dX7_image_34 rfl rfl ?_
    refine sx_get (k := 2) (v := .ref (a0 + 3)) dX7_image_35 (X7_k h0) cf_7 (Or.inl wd_958) (by decide : 2 < 20) (congrArg Value.ref (X7_r2 h0)) ?_
    refine sx_iload_n (i := 1) (j := 1) dX7_image_38 rfl rfl ?_
    refine sx_iconst (v := (1 : Int32)) dX7_image_39 (by decide) ?_
    obtain ⟨c5, h⟩ := gd_e h
    refine sx_zast dX7_image_40 (X7_a2 h0) c5 (by decide) (fun L6 eL6 => ?_)
    have h := lt_e eL6 h
    refine sx_iconst (v := (1 : Int32)) dX7_image_41 (by decide) ?_
    obtain rfl := Option.some.inj h
    exact sx_iret dX7_image_42 rfl rfl k3.1 k3.2
set_option maxRecDepth 100000 in
set_option maxHeartbeats 4000000 in
theorem mX7_from {l : Launch} {E : Ev} {L : HL} {a0 : Nat} {v1 : Int32} {z : Int32 × HL} (h0 : isX7 E a0) (h : fX7_from a0 v1 L = some z) : Mt l E yX7_from cX7_from 2 (some .int) (3) [.ref a0, .int v1] L (some (.int z.1)) (z.2) := by
  obtain ⟨r, hr⟩ : ∃ r : Option Value, r = some (.int z.1) := ⟨_, rfl⟩
  obtain ⟨L', hL'⟩ : ∃ L' : HL, L' = z.2 := ⟨_, rfl⟩
  have k3 : r = some (.int z.1) ∧ L' = z.2 := ⟨hr, hL'⟩
  refine mt_eq hr hL' ?_
  refine Mt.of (plainFor_of_name (by decide)) (Nat.le_of_ble_eq_true rfl) ?_
  refine sx_sub (lv' := [(0, .ref a0), (1, .int v1)]) [0, 1] rfl ?_
  unfold fX7_from at h
  refine sx_iload_n (i := 1) (j := 1) dX7_from_0 rfl rfl ?_
  obtain ⟨z1, ez1, h⟩ := bd_e h
  refine sx_callS (avs := [.int v1]) (rest := []) (st1 := [.int z1]) dX7_from_1 (mX7_isTwo ez1) ctX7_isTwo (Or.inl wd_1221) rfl rfl (rm_m rfl) rfl (Nat.le_of_ble_eq_true rfl) rfl ?_
  refine sx_if_ne (tgt := 14) dX7_from_4 rfl (fun c2 => ?_) (fun c2 => ?_)
  · have h := if_e c2 h
    refine sx_aload_n (i := 0) (j := 0) dX7_from_7 rfl rfl ?_
    refine sx_bipush (v := (-2 : Int32)) dX7_from_8 (by decide) ?_
    obtain ⟨z3, ez3, h⟩ := bd_e h
    refine sx_callV (avs := [.int (-2 : Int32)]) (rest := []) (st1 := [.int z3.1]) dX7_from_10 (mX7_bad h0 ez3) ciX7_bad (Or.inl wd_1094) (X7_k h0) rfl rfl rfl rfl (rm_m rfl) rfl (Nat.le_of_ble_eq_true rfl) rfl ?_
    obtain rfl := Option.some.inj h
    exact sx_iret dX7_from_13 rfl rfl k3.1 k3.2
  · have h := if_n c2 h
    refine sx_aload_n (i := 0) (j := 0) dX7_from_14 rfl rfl ?_
    refine sx_get (k := 2) (v := .ref (a0 + 3)) dX7_from_15 (X7_k h0) cf_7 (Or.inl wd_958) (by decide : 2 < 20) (congrArg Value.ref (X7_r2 h0)) ?_
    refine sx_iload_n (i := 1) (j := 1) dX7_from_18 rfl rfl ?_
    obtain ⟨c4, h⟩ := gd_e h
    refine sx_zald dX7_from_19 (X7_a2 h0) c4 ?_
    refine sx_if_ne (tgt := 30) dX7_from_20 rfl (fun c5 => ?_) (fun c5 => ?_)
    · have h := if_e c5 h
      refine sx_aload_n (i := 0) (j := 0) dX7_from_23 rfl rfl ?_
      refine sx_bipush (v := (-3 : Int32)) dX7_from_24 (by decide) ?_
      obtain ⟨z6, ez6, h⟩ := bd_e h
      refine sx_callV (avs := [.int (-3 : Int32)]) (rest := []) (st1 := [.int z6.1]) dX7_from_26 (mX7_no h0 ez6) ciX7_no (Or.inl wd_1145) (X7_k h0) rfl rfl rfl rfl (rm_m rfl) rfl (Nat.le_of_ble_eq_true rfl) rfl ?_
      obtain rfl := Option.some.inj h
      exact sx_iret dX7_from_29 rfl rfl k3.1 k3.2
    · have h := if_n c5 h
      refine sx_aload_n (i := 0) (j := 0) dX7_from_30 rfl rfl ?_
      refine sx_get (k := 1) (v := .ref (a0 + 2)) dX7_from_31 (X7_k h0) cf_7 (Or.inl wd_957) (by decide : 1 < 20) (congrArg Value.ref (X7_r1 h0)) ?_
      refine sx_sipush (v := (228 : Int32)) dX7_from_34 (by decide) ?_
      refine sx_iload_n (i := 1) (j := 1) dX7_from_37 rfl rfl ?_
      refine sx_imul dX7_from_38 ?_
      refine sx_aload_n (i := 0) (j := 0) dX7_from_39 rfl rfl ?_
      refine sx_get (k := 0) (v := .ref (a0 + 1)) dX7_from_40 (X7_k h0) cf_7 (Or.inl wd_956) (by decide : 0 < 20) (congrArg Value.ref (X7_r0 h0)) ?_
      refine sx_iconst (v := (0 : Int32)) dX7_from_43 (by decide) ?_
      refine sx_sipush (v := (228 : Int32)) dX7_from_44 (by decide) ?_
      obtain ⟨z7, ez7, h⟩ := bd_e h
      refine sx_callS (avs := [.ref (a0 + 2), .int ((228 : Int32) * v1), .ref (a0 + 1), .int (0 : Int32), .int (228 : Int32)]) (rest := []) (st1 := []) dX7_from_47 (mX7_copies (X7_a1 h0) (X7_a0 h0) ez7) ctX7_copies (Or.inl wd_1134) rfl rfl (rm_m rfl) rfl (Nat.le_of_ble_eq_true rfl) rfl ?_
      refine sx_iconst (v := (1 : Int32)) dX7_from_50 (by decide) ?_
      obtain rfl := Option.some.inj h
      exact sx_iret dX7_from_51 rfl rfl k3.1 k3.2
set_option maxRecDepth 100000 in
set_option maxHeartbeats 4000000 in
theorem mX7_status {l : Launch} {E : Ev} {L : HL} {a0 : Nat} {v1 : Int32} {z : Int32 × HL} (h0 : isX7 E a0) (h : fX7_status a0 v1 L = some z) : Mt l E yX7_status cX7_status 2 (some .int) (2) [.ref a0, .int v1] L (some (.int z.1)) (z.2) := by
  obtain ⟨r, hr⟩ : ∃ r : Option Value, r = some (.int z.1) := ⟨_, rfl⟩
  obtain ⟨L', hL'⟩ : ∃ L' : HL, L' = z.2 := ⟨_, rfl⟩
  have k3 : r = some (.int z.1) ∧ L' = z.2 := ⟨hr, hL'⟩
  refine mt_eq hr hL' ?_
  refine Mt.of (plainFor_of_name (by decide)) (Nat.le_of_ble_eq_true rfl) ?_
  refine sx_sub (lv' := [(0, .ref a0), (1, .int v1)]) [0, 1] rfl ?_
  unfold fX7_status at h
  refine sx_iload_n (i := 1) (j := 1) dX7_status_0 rfl rfl ?_
  refine sx_i2l dX7_status_1 ?_
  refine sx_lconst (v := (0 : Int64)) dX7_status_2 (by decide) ?_
  refine sx_ldc2 (v := (2 : Int64)) dX7_status_3 wd_1366 ?_
  obtain ⟨z1, ez1, h⟩ := bd_e h
  refine sx_callS (avs := [.long v1.toInt64, .long (0 : Int64), .long (2 : Int64)]) (rest := []) (st1 := [.int z1]) dX7_status_6 (mX7_in ez1) ctX7_in (Or.inl wd_1031) rfl rfl (rm_m rfl) rfl (Nat.le_of_ble_eq_true rfl) rfl ?_
  refine sx_if_eq (tgt := 21) dX7_status_9 rfl (fun c2 => ?_) (fun c2 => ?_)
  · have h := if_e c2 h
    refine sx_aload_n (i := 0) (j := 0) dX7_status_21 rfl rfl ?_
    refine sx_iconst (v := (-1 : Int32)) dX7_status_22 (by decide) ?_
    obtain ⟨z3, ez3, h⟩ := bd_e h
    refine sx_callV (avs := [.int (-1 : Int32)]) (rest := []) (st1 := [.int z3.1]) dX7_status_23 (mX7_bad h0 ez3) ciX7_bad (Or.inl wd_1094) (X7_k h0) rfl rfl rfl rfl (rm_m rfl) rfl (Nat.le_of_ble_eq_true rfl) rfl ?_
    obtain rfl := Option.some.inj h
    exact sx_iret dX7_status_26 rfl rfl k3.1 k3.2
  · have h := if_n c2 h
    refine sx_aload_n (i := 0) (j := 0) dX7_status_12 rfl rfl ?_
    refine sx_get (k := 7) (v := .ref (a0 + 5)) dX7_status_13 (X7_k h0) cf_7 (Or.inl wd_963) (by decide : 7 < 20) (congrArg Value.ref (X7_r7 h0)) ?_
    refine sx_iload_n (i := 1) (j := 1) dX7_status_16 rfl rfl ?_
    obtain ⟨c4, h⟩ := gd_e h
    refine sx_iald dX7_status_17 (X7_a7 h0) c4 ?_
    refine sx_goto (tgt := 26) dX7_status_18 rfl ?_
    obtain rfl := Option.some.inj h
    exact sx_iret dX7_status_26 rfl rfl k3.1 k3.2
set_option maxRecDepth 100000 in
set_option maxHeartbeats 4000000 in
theorem tX7_sumOf_b5 {l : Launch} {E : Ev} {r : Option Value} {L' L : HL} {a0 : Nat} {v1 : Int32} {v2 : Int32} {v3 : Int32} {v4 : Int32} {z : Tn (Int32 × Int32) (Int32)} (h0 : isX7 E a0) (h : fX7_sumOf_b5 a0 v1 v2 v3 v4 L = some z) (k1 : ∀ s, z = .inl s → Sx l E yX7_sumOf cX7_sumOf 5 (some .int) (1) r L' 5 [(0, .ref a0), (1, .int v1), (2, .int v2), (3, .int s.1), (4, .int s.2)] [] L) (k2 : ∀ s, z = .inr (.inl s) → Sx l E yX7_sumOf cX7_sumOf 5 (some .int) (1) r L' 29 [(3, .int s.1)] [] L) (k3 : ∀ v, z = .inr (.inr v) → r = some (.int v) ∧ L' = L) : Sx l E yX7_sumOf cX7_sumOf 5 (some .int) (1) r L' 5 [(0, .ref a0), (1, .int v1), (2, .int v2), (3, .int v3), (4, .int v4)] [] L := by
  unfold fX7_sumOf_b5 at h
  refine sx_iload (j := 4) dX7_sumOf_5 rfl ?_
  refine sx_iload_n (i := 2) (j := 2) dX7_sumOf_7 rfl rfl ?_
  refine sx_icmp_ge (tgt := 29) dX7_sumOf_8 rfl (fun c1 => ?_) (fun c1 => ?_)
  · have h := if_e c1 h
    obtain rfl := Option.some.inj h
    exact sx_sub [3] rfl (k2 _ rfl)
  · have h := if_n c1 h
    refine sx_iload_n (i := 3) (j := 3) dX7_sumOf_11 rfl rfl ?_
    refine sx_aload_n (i := 0) (j := 0) dX7_sumOf_12 rfl rfl ?_
    refine sx_get (k := 0) (v := .ref (a0 + 1)) dX7_sumOf_13 (X7_k h0) cf_7 (Or.inl wd_956) (by decide : 0 < 20) (congrArg Value.ref (X7_r0 h0)) ?_
    refine sx_iload_n (i := 1) (j := 1) dX7_sumOf_16 rfl rfl ?_
    refine sx_iload (j := 4) dX7_sumOf_17 rfl ?_
    refine sx_iadd dX7_sumOf_19 ?_
    obtain ⟨c2, h⟩ := gd_e h
    refine sx_iald dX7_sumOf_20 (X7_a0 h0) c2 ?_
    refine sx_iadd dX7_sumOf_21 ?_
    refine sx_topi (fun w3 ew3 => ?_)
    have h := lt_e ew3 h
    refine sx_istore_n (i := 3) (lv' := [(0, .ref a0), (1, .int v1), (2, .int v2), (3, .int w3), (4, .int v4)]) dX7_sumOf_22 rfl (by decide) rfl ?_
    obtain ⟨w4, ew4⟩ : ∃ w : Int32, w = v4 + (1 : Int32) := ⟨_, rfl⟩
    have h := lt_e ew4 h
    refine sx_iinc (j := 4) (v := w4) (lv' := [(0, .ref a0), (1, .int v1), (2, .int v2), (3, .int w3), (4, .int w4)]) dX7_sumOf_23 rfl (ii_1 ew4) (by decide) rfl ?_
    refine sx_goto (tgt := 5) dX7_sumOf_26 rfl ?_
    obtain rfl := Option.some.inj h
    exact sx_sub [0, 1, 2, 3, 4] rfl (k1 _ rfl)
set_option maxRecDepth 100000 in
set_option maxHeartbeats 4000000 in
theorem mX7_sumOf {l : Launch} {E : Ev} {L : HL} {a0 : Nat} {v1 : Int32} {v2 : Int32} {z : Int32} (h0 : isX7 E a0) (h : fX7_sumOf a0 v1 v2 L = some z) : Mt l E yX7_sumOf cX7_sumOf 5 (some .int) (1) [.ref a0, .int v1, .int v2] L (some (.int z)) L := by
  obtain ⟨r, hr⟩ : ∃ r : Option Value, r = some (.int z) := ⟨_, rfl⟩
  obtain ⟨L', hL'⟩ : ∃ L' : HL, L' = L := ⟨_, rfl⟩
  have k3 : r = some (.int z) ∧ L' = L := ⟨hr, hL'⟩
  refine mt_eq hr hL' ?_
  refine Mt.of (plainFor_of_name (by decide)) (Nat.le_of_ble_eq_true rfl) ?_
  refine sx_sub (lv' := [(0, .ref a0), (1, .int v1), (2, .int v2)]) [0, 1, 2] rfl ?_
  unfold fX7_sumOf at h
  refine sx_iconst (v := (0 : Int32)) dX7_sumOf_0 (by decide) ?_
  refine sx_istore_n (i := 3) (lv' := [(0, .ref a0), (1, .int v1), (2, .int v2), (3, .int (0 : Int32))]) dX7_sumOf_1 rfl (by decide) rfl ?_
  refine sx_iconst (v := (0 : Int32)) dX7_sumOf_2 (by decide) ?_
  refine sx_istore (lv' := [(0, .ref a0), (1, .int v1), (2, .int v2), (3, .int (0 : Int32)), (4, .int (0 : Int32))]) dX7_sumOf_3 (by decide) rfl ?_
  obtain ⟨x6, hx, q1, q2⟩ := lx_e h
  refine sx_sub (lv' := [(0, .ref a0), (1, .int v1), (2, .int v2), (3, .int (0 : Int32)), (4, .int (0 : Int32))]) [0, 1, 2, 3, 4] rfl ?_
  refine lp_go (fun s5 => Sx l E yX7_sumOf cX7_sumOf 5 (some .int) (1) r L' 5 [(0, .ref a0), (1, .int v1), (2, .int v2), (3, .int s5.1), (4, .int s5.2)] [] L) x6 (fun s5 z2 hz c1 c2 => ?_) FU _ hx
  refine tX7_sumOf_b5 h0 hz (fun s2 e => c1 s2 e) (fun s5 e => ?_) (fun v e => ?_)
  · have h := q1 _ (c2 _ e).symm
    refine sx_iload_n (i := 3) (j := 0) dX7_sumOf_29 rfl rfl ?_
    obtain rfl := Option.some.inj h
    exact sx_iret dX7_sumOf_30 rfl rfl k3.1 k3.2
  · have e2 := Option.some.inj (q2 _ (c2 _ e).symm)
    subst e2
    exact k3
set_option maxRecDepth 100000 in
set_option maxHeartbeats 4000000 in
theorem mX7_counted {l : Launch} {E : Ev} {L : HL} {a0 : Nat} {v1 : Int32} {z : Int32} (h0 : isX7 E a0) (h : fX7_counted a0 v1 L = some z) : Mt l E yX7_counted cX7_counted 2 (some .int) (2) [.ref a0, .int v1] L (some (.int z)) L := by
  obtain ⟨r, hr⟩ : ∃ r : Option Value, r = some (.int z) := ⟨_, rfl⟩
  obtain ⟨L', hL'⟩ : ∃ L' : HL, L' = L := ⟨_, rfl⟩
  have k3 : r = some (.int z) ∧ L' = L := ⟨hr, hL'⟩
  refine mt_eq hr hL' ?_
  refine Mt.of (plainFor_of_name (by decide)) (Nat.le_of_ble_eq_true rfl) ?_
  refine sx_sub (lv' := [(0, .ref a0), (1, .int v1)]) [0, 1] rfl ?_
  unfold fX7_counted at h
  refine sx_iload_n (i := 1) (j := 1) dX7_counted_0 rfl rfl ?_
  by_cases c1 : v1 = (0 : Int32)
  · have h := if_e c1 h
    refine sx_swIn (tgt := 48) (0 : Int32) dX7_counted_1 c1 (by decide) (by decide) rfl rfl ?_
    refine sx_aload_n (i := 0) (j := 0) dX7_counted_48 rfl rfl ?_
    refine sx_get (k := 0) (v := .ref (a0 + 1)) dX7_counted_49 (X7_k h0) cf_7 (Or.inl wd_956) (by decide : 0 < 20) (congrArg Value.ref (X7_r0 h0)) ?_
    refine sx_iconst (v := (0 : Int32)) dX7_counted_52 (by decide) ?_
    refine sx_iald dX7_counted_53 (X7_a0 h0) (show vin (0 : Int32) 228 from by decide) ?_
    obtain rfl := Option.some.inj h
    exact sx_iret dX7_counted_54 rfl rfl k3.1 k3.2
  have h := if_n c1 h
  by_cases c2 : v1 = (1 : Int32)
  · have h := if_e c2 h
    refine sx_swIn (tgt := 55) (1 : Int32) dX7_counted_1 c2 (by decide) (by decide) rfl rfl ?_
    refine sx_aload_n (i := 0) (j := 0) dX7_counted_55 rfl rfl ?_
    refine sx_get (k := 0) (v := .ref (a0 + 1)) dX7_counted_56 (X7_k h0) cf_7 (Or.inl wd_956) (by decide : 0 < 20) (congrArg Value.ref (X7_r0 h0)) ?_
    obtain ⟨z3, ez3, h⟩ := bd_e h
    refine sx_callS (avs := [.ref (a0 + 1)]) (rest := []) (st1 := [.int z3]) dX7_counted_59 (mX7_standing (X7_a0 h0) ez3) ctX7_standing (Or.inl wd_1197) rfl rfl (rm_m rfl) rfl (Nat.le_of_ble_eq_true rfl) rfl ?_
    obtain ⟨z4, ez4, h⟩ := bd_e h
    refine sx_callS (avs := [.int z3]) (rest := []) (st1 := [.int z4]) dX7_counted_62 (mX7_bits ez4) ctX7_bits (Or.inl wd_1176) rfl rfl (rm_m rfl) rfl (Nat.le_of_ble_eq_true rfl) rfl ?_
    obtain rfl := Option.some.inj h
    exact sx_iret dX7_counted_65 rfl rfl k3.1 k3.2
  have h := if_n c2 h
  by_cases c5 : v1 = (2 : Int32)
  · have h := if_e c5 h
    refine sx_swIn (tgt := 66) (2 : Int32) dX7_counted_1 c5 (by decide) (by decide) rfl rfl ?_
    refine sx_aload_n (i := 0) (j := 0) dX7_counted_66 rfl rfl ?_
    refine sx_get (k := 0) (v := .ref (a0 + 1)) dX7_counted_67 (X7_k h0) cf_7 (Or.inl wd_956) (by decide : 0 < 20) (congrArg Value.ref (X7_r0 h0)) ?_
    refine sx_iconst (v := (1 : Int32)) dX7_counted_70 (by decide) ?_
    refine sx_iald dX7_counted_71 (X7_a0 h0) (show vin (1 : Int32) 228 from by decide) ?_
    obtain rfl := Option.some.inj h
    exact sx_iret dX7_counted_72 rfl rfl k3.1 k3.2
  have h := if_n c5 h
  by_cases c6 : v1 = (3 : Int32)
  · have h := if_e c6 h
    refine sx_swIn (tgt := 73) (3 : Int32) dX7_counted_1 c6 (by decide) (by decide) rfl rfl ?_
    refine sx_aload_n (i := 0) (j := 0) dX7_counted_73 rfl rfl ?_
    refine sx_get (k := 0) (v := .ref (a0 + 1)) dX7_counted_74 (X7_k h0) cf_7 (Or.inl wd_956) (by decide : 0 < 20) (congrArg Value.ref (X7_r0 h0)) ?_
    refine sx_iconst (v := (-1 : Int32)) dX7_counted_77 (by decide) ?_
    obtain ⟨z7, ez7, h⟩ := bd_e h
    refine sx_callS (avs := [.ref (a0 + 1), .int (-1 : Int32)]) (rest := []) (st1 := [.int z7]) dX7_counted_78 (mX7_livingIn (X7_a0 h0) ez7) ctX7_livingIn (Or.inl wd_1173) rfl rfl (rm_m rfl) rfl (Nat.le_of_ble_eq_true rfl) rfl ?_
    obtain ⟨z8, ez8, h⟩ := bd_e h
    refine sx_callS (avs := [.int z7]) (rest := []) (st1 := [.int z8]) dX7_counted_81 (mX7_bits ez8) ctX7_bits (Or.inl wd_1176) rfl rfl (rm_m rfl) rfl (Nat.le_of_ble_eq_true rfl) rfl ?_
    obtain rfl := Option.some.inj h
    exact sx_iret dX7_counted_84 rfl rfl k3.1 k3.2
  have h := if_n c6 h
  by_cases c9 : v1 = (4 : Int32)
  · have h := if_e c9 h
    refine sx_swIn (tgt := 85) (4 : Int32) dX7_counted_1 c9 (by decide) (by decide) rfl rfl ?_
    refine sx_aload_n (i := 0) (j := 0) dX7_counted_85 rfl rfl ?_
    refine sx_bipush (v := (39 : Int32)) dX7_counted_86 (by decide) ?_
    refine sx_bipush (v := (25 : Int32)) dX7_counted_88 (by decide) ?_
    obtain ⟨z10, ez10, h⟩ := bd_e h
    refine sx_callV (avs := [.int (39 : Int32), .int (25 : Int32)]) (rest := []) (st1 := [.int z10]) dX7_counted_90 (mX7_sumOf h0 ez10) ciX7_sumOf (Or.inl wd_1375) (X7_k h0) rfl rfl rfl rfl (rm_m rfl) rfl (Nat.le_of_ble_eq_true rfl) rfl ?_
    refine sx_iconst (v := (2 : Int32)) dX7_counted_93 (by decide) ?_
    refine sx_idiv dX7_counted_94 (by decide) ?_
    obtain rfl := Option.some.inj h
    exact sx_iret dX7_counted_95 rfl rfl k3.1 k3.2
  have h := if_n c9 h
  by_cases c11 : v1 = (5 : Int32)
  · have h := if_e c11 h
    refine sx_swIn (tgt := 96) (5 : Int32) dX7_counted_1 c11 (by decide) (by decide) rfl rfl ?_
    refine sx_aload_n (i := 0) (j := 0) dX7_counted_96 rfl rfl ?_
    refine sx_bipush (v := (76 : Int32)) dX7_counted_97 (by decide) ?_
    refine sx_bipush (v := (16 : Int32)) dX7_counted_99 (by decide) ?_
    obtain ⟨z12, ez12, h⟩ := bd_e h
    refine sx_callV (avs := [.int (76 : Int32), .int (16 : Int32)]) (rest := []) (st1 := [.int z12]) dX7_counted_101 (mX7_sumOf h0 ez12) ciX7_sumOf (Or.inl wd_1375) (X7_k h0) rfl rfl rfl rfl (rm_m rfl) rfl (Nat.le_of_ble_eq_true rfl) rfl ?_
    refine sx_iconst (v := (2 : Int32)) dX7_counted_104 (by decide) ?_
    refine sx_idiv dX7_counted_105 (by decide) ?_
    obtain rfl := Option.some.inj h
    exact sx_iret dX7_counted_106 rfl rfl k3.1 k3.2
  have h := if_n c11 h
  by_cases c13 : v1 = (6 : Int32)
  · have h := if_e c13 h
    refine sx_swIn (tgt := 107) (6 : Int32) dX7_counted_1 c13 (by decide) (by decide) rfl rfl ?_
    refine sx_aload_n (i := 0) (j := 0) dX7_counted_107 rfl rfl ?_
    refine sx_get (k := 0) (v := .ref (a0 + 1)) dX7_counted_108 (X7_k h0) cf_7 (Or.inl wd_956) (by decide : 0 < 20) (congrArg Value.ref (X7_r0 h0)) ?_
    refine sx_iconst (v := (2 : Int32)) dX7_counted_111 (by decide) ?_
    refine sx_iald dX7_counted_112 (X7_a0 h0) (show vin (2 : Int32) 228 from by decide) ?_
    obtain rfl := Option.some.inj h
    exact sx_iret dX7_counted_113 rfl rfl k3.1 k3.2
  have h := if_n c13 h
  by_cases c14 : v1 = (7 : Int32)
  · have h := if_e c14 h
    refine sx_swIn (tgt := 114) (7 : Int32) dX7_counted_1 c14 (by decide) (by decide) rfl rfl ?_
    refine sx_aload_n (i := 0) (j := 0) dX7_counted_114 rfl rfl ?_
    refine sx_get (k := 0) (v := .ref (a0 + 1)) dX7_counted_115 (X7_k h0) cf_7 (Or.inl wd_956) (by decide : 0 < 20) (congrArg Value.ref (X7_r0 h0)) ?_
    refine sx_iconst (v := (3 : Int32)) dX7_counted_118 (by decide) ?_
    refine sx_iald dX7_counted_119 (X7_a0 h0) (show vin (3 : Int32) 228 from by decide) ?_
    obtain rfl := Option.some.inj h
    exact sx_iret dX7_counted_120 rfl rfl k3.1 k3.2
  have h := if_n c14 h
  refine sx_swOut (tgt := 121) dX7_counted_1 (sw_out (lo := 0) (k := 8) [0, 1, 2, 3, 4, 5, 6, 7] (by decide +kernel) (List.forall_mem_cons.mpr ⟨c1, List.forall_mem_cons.mpr ⟨c2, List.forall_mem_cons.mpr ⟨c5, List.forall_mem_cons.mpr ⟨c6, List.forall_mem_cons.mpr ⟨c9, List.forall_mem_cons.mpr ⟨c11, List.forall_mem_cons.mpr ⟨c13, List.forall_mem_cons.mpr ⟨c14, fun _ q => absurd q List.not_mem_nil⟩⟩⟩⟩⟩⟩⟩⟩)) rfl ?_
  refine sx_aload_n (i := 0) (j := 0) dX7_counted_121 rfl rfl ?_
  refine sx_get (k := 4) (v := .int (L.1 a0 4)) dX7_counted_122 (X7_k h0) cf_7 (Or.inl wd_960) (by decide : 4 < 20) rfl ?_
  obtain rfl := Option.some.inj h
  exact sx_iret dX7_counted_125 rfl rfl k3.1 k3.2
set_option maxRecDepth 100000 in
set_option maxHeartbeats 4000000 in
theorem mX7_count {l : Launch} {E : Ev} {L : HL} {a0 : Nat} {v1 : Int32} {z : Int32 × HL} (h0 : isX7 E a0) (h : fX7_count a0 v1 L = some z) : Mt l E yX7_count cX7_count 2 (some .int) (3) [.ref a0, .int v1] L (some (.int z.1)) (z.2) := by
  obtain ⟨r, hr⟩ : ∃ r : Option Value, r = some (.int z.1) := ⟨_, rfl⟩
  obtain ⟨L', hL'⟩ : ∃ L' : HL, L' = z.2 := ⟨_, rfl⟩
  have k3 : r = some (.int z.1) ∧ L' = z.2 := ⟨hr, hL'⟩
  refine mt_eq hr hL' ?_
  refine Mt.of (plainFor_of_name (by decide)) (Nat.le_of_ble_eq_true rfl) ?_
  refine sx_sub (lv' := [(0, .ref a0), (1, .int v1)]) [0, 1] rfl ?_
  unfold fX7_count at h
  refine sx_iload_n (i := 1) (j := 1) dX7_count_0 rfl rfl ?_
  refine sx_i2l dX7_count_1 ?_
  refine sx_lconst (v := (0 : Int64)) dX7_count_2 (by decide) ?_
  refine sx_ldc2 (v := (8 : Int64)) dX7_count_3 wd_1324 ?_
  obtain ⟨z1, ez1, h⟩ := bd_e h
  refine sx_callS (avs := [.long v1.toInt64, .long (0 : Int64), .long (8 : Int64)]) (rest := []) (st1 := [.int z1]) dX7_count_6 (mX7_in ez1) ctX7_in (Or.inl wd_1031) rfl rfl (rm_m rfl) rfl (Nat.le_of_ble_eq_true rfl) rfl ?_
  refine sx_if_eq (tgt := 20) dX7_count_9 rfl (fun c2 => ?_) (fun c2 => ?_)
  · have h := if_e c2 h
    refine sx_aload_n (i := 0) (j := 0) dX7_count_20 rfl rfl ?_
    refine sx_bipush (v := (-2 : Int32)) dX7_count_21 (by decide) ?_
    obtain ⟨z3, ez3, h⟩ := bd_e h
    refine sx_callV (avs := [.int (-2 : Int32)]) (rest := []) (st1 := [.int z3.1]) dX7_count_23 (mX7_bad h0 ez3) ciX7_bad (Or.inl wd_1094) (X7_k h0) rfl rfl rfl rfl (rm_m rfl) rfl (Nat.le_of_ble_eq_true rfl) rfl ?_
    obtain rfl := Option.some.inj h
    exact sx_iret dX7_count_26 rfl rfl k3.1 k3.2
  · have h := if_n c2 h
    refine sx_aload_n (i := 0) (j := 0) dX7_count_12 rfl rfl ?_
    refine sx_iload_n (i := 1) (j := 1) dX7_count_13 rfl rfl ?_
    obtain ⟨z4, ez4, h⟩ := bd_e h
    refine sx_callV (avs := [.int v1]) (rest := []) (st1 := [.int z4]) dX7_count_14 (mX7_counted h0 ez4) ciX7_counted (Or.inl wd_1371) (X7_k h0) rfl rfl rfl rfl (rm_m rfl) rfl (Nat.le_of_ble_eq_true rfl) rfl ?_
    refine sx_goto (tgt := 26) dX7_count_17 rfl ?_
    obtain rfl := Option.some.inj h
    exact sx_iret dX7_count_26 rfl rfl k3.1 k3.2
set_option maxRecDepth 100000 in
set_option maxHeartbeats 4000000 in
theorem tX7_digest_b6 {l : Launch} {E : Ev} {r : Option Value} {L' L : HL} {a0 : Nat} {v1 : Int64} {v3 : Int32} {z : Tn (Int64 × Int32) (Int64)} (h0 : isX7 E a0) (h : fX7_digest_b6 a0 v1 v3 L = some z) (k1 : ∀ s, z = .inl s → Sx l E yX7_digest cX7_digest 5 (some .long) (3) r L' 6 [(0, .ref a0), (1, .long s.1), (3, .int s.2)] [] L) (k2 : ∀ s, z = .inr (.inl s) → Sx l E yX7_digest cX7_digest 5 (some .long) (3) r L' 31 [(0, .ref a0), (1, .long s.1)] [] L) (k3 : ∀ v, z = .inr (.inr v) → r = some (.long v) ∧ L' = L) : Sx l E yX7_digest cX7_digest 5 (some .long) (3) r L' 6 [(0, .ref a0), (1, .long v1), (3, .int v3)] [] L := by
  unfold fX7_digest_b6 at h
  refine sx_iload_n (i := 3) (j := 2) dX7_digest_6 rfl rfl ?_
  refine sx_bipush (v := (9 : Int32)) dX7_digest_7 (by decide) ?_
  refine sx_icmp_ge (tgt := 31) dX7_digest_9 rfl (fun c1 => ?_) (fun c1 => ?_)
  · have h := if_e c1 h
    obtain rfl := Option.some.inj h
    exact sx_sub [0, 1] rfl (k2 _ rfl)
  · have h := if_n c1 h
    refine sx_ldc2 (v := (31 : Int64)) dX7_digest_12 wd_1384 ?_
    refine sx_lload_n (i := 1) (j := 1) dX7_digest_15 rfl rfl ?_
    refine sx_lmul dX7_digest_16 ?_
    refine sx_aload_n (i := 0) (j := 0) dX7_digest_17 rfl rfl ?_
    refine sx_iload_n (i := 3) (j := 2) dX7_digest_18 rfl rfl ?_
    obtain ⟨z2, ez2, h⟩ := bd_e h
    refine sx_callV (avs := [.int v3]) (rest := [.long ((31 : Int64) * v1)]) (st1 := [.int z2, .long ((31 : Int64) * v1)]) dX7_digest_19 (mX7_counted h0 ez2) ciX7_counted (Or.inl wd_1371) (X7_k h0) rfl rfl rfl rfl (rm_m rfl) rfl (Nat.le_of_ble_eq_true rfl) rfl ?_
    refine sx_i2l dX7_digest_22 ?_
    refine sx_ladd dX7_digest_23 ?_
    refine sx_topl (fun w3 ew3 => ?_)
    have h := lt_e ew3 h
    refine sx_lstore_n (i := 1) (lv' := [(0, .ref a0), (1, .long w3), (3, .int v3)]) dX7_digest_24 rfl (by decide) rfl ?_
    obtain ⟨w4, ew4⟩ : ∃ w : Int32, w = v3 + (1 : Int32) := ⟨_, rfl⟩
    have h := lt_e ew4 h
    refine sx_iinc (j := 2) (v := w4) (lv' := [(0, .ref a0), (1, .long w3), (3, .int w4)]) dX7_digest_25 rfl (ii_1 ew4) (by decide) rfl ?_
    refine sx_goto (tgt := 6) dX7_digest_28 rfl ?_
    obtain rfl := Option.some.inj h
    exact sx_sub [0, 1, 2] rfl (k1 _ rfl)
set_option maxRecDepth 100000 in
set_option maxHeartbeats 4000000 in
theorem tX7_digest_b46 {l : Launch} {E : Ev} {r : Option Value} {L' L : HL} {a0 : Nat} {v1 : Int64} {v3 : Int32} {v4 : Int32} {z : Tn (Int64 × Int32) (Int64)} (h0 : isX7 E a0) (h : fX7_digest_b46 a0 v1 v3 v4 L = some z) (k1 : ∀ s, z = .inl s → Sx l E yX7_digest cX7_digest 5 (some .long) (3) r L' 46 [(0, .ref a0), (1, .long s.1), (3, .int v3), (4, .int s.2)] [] L) (k2 : ∀ s, z = .inr (.inl s) → Sx l E yX7_digest cX7_digest 5 (some .long) (3) r L' 80 [(0, .ref a0), (1, .long s.1), (3, .int v3)] [] L) (k3 : ∀ v, z = .inr (.inr v) → r = some (.long v) ∧ L' = L) : Sx l E yX7_digest cX7_digest 5 (some .long) (3) r L' 46 [(0, .ref a0), (1, .long v1), (3, .int v3), (4, .int v4)] [] L := by
  unfold fX7_digest_b46 at h
  refine sx_iload (j := 3) dX7_digest_46 rfl ?_
  refine sx_bipush (v := (7 : Int32)) dX7_digest_48 (by decide) ?_
  refine sx_icmp_ge (tgt := 80) dX7_digest_50 rfl (fun c7 => ?_) (fun c7 => ?_)
  · have h := if_e c7 h
    obtain rfl := Option.some.inj h
    exact sx_sub [0, 1, 2] rfl (k2 _ rfl)
  · have h := if_n c7 h
    refine sx_ldc2 (v := (31 : Int64)) dX7_digest_53 wd_1384 ?_
    refine sx_lload_n (i := 1) (j := 1) dX7_digest_56 rfl rfl ?_
    refine sx_lmul dX7_digest_57 ?_
    refine sx_aload_n (i := 0) (j := 0) dX7_digest_58 rfl rfl ?_
    refine sx_get (k := 0) (v := .ref (a0 + 1)) dX7_digest_59 (X7_k h0) cf_7 (Or.inl wd_956) (by decide : 0 < 20) (congrArg Value.ref (X7_r0 h0)) ?_
    refine sx_iconst (v := (4 : Int32)) dX7_digest_62 (by decide) ?_
    refine sx_iconst (v := (5 : Int32)) dX7_digest_63 (by decide) ?_
    refine sx_iload (j := 3) dX7_digest_64 rfl ?_
    refine sx_imul dX7_digest_66 ?_
    refine sx_iadd dX7_digest_67 ?_
    refine sx_iload_n (i := 3) (j := 2) dX7_digest_68 rfl rfl ?_
    refine sx_iadd dX7_digest_69 ?_
    obtain ⟨c8, h⟩ := gd_e h
    refine sx_iald dX7_digest_70 (X7_a0 h0) c8 ?_
    refine sx_i2l dX7_digest_71 ?_
    refine sx_ladd dX7_digest_72 ?_
    refine sx_topl (fun w9 ew9 => ?_)
    have h := lt_e ew9 h
    refine sx_lstore_n (i := 1) (lv' := [(0, .ref a0), (1, .long w9), (3, .int v3), (4, .int v4)]) dX7_digest_73 rfl (by decide) rfl ?_
    obtain ⟨w10, ew10⟩ : ∃ w : Int32, w = v4 + (1 : Int32) := ⟨_, rfl⟩
    have h := lt_e ew10 h
    refine sx_iinc (j := 3) (v := w10) (lv' := [(0, .ref a0), (1, .long w9), (3, .int v3), (4, .int w10)]) dX7_digest_74 rfl (ii_1 ew10) (by decide) rfl ?_
    refine sx_goto (tgt := 46) dX7_digest_77 rfl ?_
    obtain rfl := Option.some.inj h
    exact sx_sub [0, 1, 2, 3] rfl (k1 _ rfl)
set_option maxRecDepth 100000 in
set_option maxHeartbeats 4000000 in
theorem tX7_digest_b33 {l : Launch} {E : Ev} {r : Option Value} {L' L : HL} {a0 : Nat} {v1 : Int64} {v3 : Int32} {z : Tn (Int64 × Int32) (Int64)} (h0 : isX7 E a0) (h : fX7_digest_b33 a0 v1 v3 L = some z) (k1 : ∀ s, z = .inl s → Sx l E yX7_digest cX7_digest 5 (some .long) (3) r L' 33 [(0, .ref a0), (1, .long s.1), (3, .int s.2)] [] L) (k2 : ∀ s, z = .inr (.inl s) → Sx l E yX7_digest cX7_digest 5 (some .long) (3) r L' 86 [(0, .ref a0), (1, .long s.1)] [] L) (k3 : ∀ v, z = .inr (.inr v) → r = some (.long v) ∧ L' = L) : Sx l E yX7_digest cX7_digest 5 (some .long) (3) r L' 33 [(0, .ref a0), (1, .long v1), (3, .int v3)] [] L := by
  unfold fX7_digest_b33 at h
  refine sx_iload_n (i := 3) (j := 2) dX7_digest_33 rfl rfl ?_
  refine sx_aload_n (i := 0) (j := 0) dX7_digest_34 rfl rfl ?_
  refine sx_get (k := 0) (v := .ref (a0 + 1)) dX7_digest_35 (X7_k h0) cf_7 (Or.inl wd_956) (by decide : 0 < 20) (congrArg Value.ref (X7_r0 h0)) ?_
  refine sx_iconst (v := (0 : Int32)) dX7_digest_38 (by decide) ?_
  refine sx_iald dX7_digest_39 (X7_a0 h0) (show vin (0 : Int32) 228 from by decide) ?_
  refine sx_icmp_ge (tgt := 86) dX7_digest_40 rfl (fun c6 => ?_) (fun c6 => ?_)
  · have h := if_e c6 h
    obtain rfl := Option.some.inj h
    exact sx_sub [0, 1] rfl (k2 _ rfl)
  · have h := if_n c6 h
    refine sx_iconst (v := (0 : Int32)) dX7_digest_43 (by decide) ?_
    refine sx_istore (lv' := [(0, .ref a0), (1, .long v1), (3, .int v3), (4, .int (0 : Int32))]) dX7_digest_44 (by decide) rfl ?_
    obtain ⟨x13, hx, q1, q2⟩ := lx_e h
    refine sx_sub (lv' := [(0, .ref a0), (1, .long v1), (3, .int v3), (4, .int (0 : Int32))]) [0, 1, 2, 3] rfl ?_
    refine lp_go (fun s11 => Sx l E yX7_digest cX7_digest 5 (some .long) (3) r L' 46 [(0, .ref a0), (1, .long s11.1), (3, .int v3), (4, .int s11.2)] [] L) x13 (fun s11 z2 hz c1 c2 => ?_) FU _ hx
    refine tX7_digest_b46 h0 hz (fun s2 e => c1 s2 e) (fun s11 e => ?_) (fun v e => ?_)
    · have h := q1 _ (c2 _ e).symm
      obtain ⟨w12, ew12⟩ : ∃ w : Int32, w = v3 + (1 : Int32) := ⟨_, rfl⟩
      have h := lt_e ew12 h
      refine sx_iinc (j := 2) (v := w12) (lv' := [(0, .ref a0), (1, .long s11.1), (3, .int w12)]) dX7_digest_80 rfl (ii_1 ew12) (by decide) rfl ?_
      refine sx_goto (tgt := 33) dX7_digest_83 rfl ?_
      obtain rfl := Option.some.inj h
      exact sx_sub [0, 1, 2] rfl (k1 _ rfl)
    · exact k3 _ (Option.some.inj (q2 _ (c2 _ e).symm)).symm
set_option maxRecDepth 100000 in
set_option maxHeartbeats 4000000 in
theorem tX7_digest_b103 {l : Launch} {E : Ev} {r : Option Value} {L' L : HL} {a0 : Nat} {v1 : Int64} {v3 : Int32} {v4 : Int32} {z : Tn (Int64 × Int32) (Int64)} (h0 : isX7 E a0) (h : fX7_digest_b103 a0 v1 v3 v4 L = some z) (k1 : ∀ s, z = .inl s → Sx l E yX7_digest cX7_digest 5 (some .long) (3) r L' 103 [(0, .ref a0), (1, .long s.1), (3, .int v3), (4, .int s.2)] [] L) (k2 : ∀ s, z = .inr (.inl s) → Sx l E yX7_digest cX7_digest 5 (some .long) (3) r L' 142 [(0, .ref a0), (1, .long s.1), (3, .int v3)] [] L) (k3 : ∀ v, z = .inr (.inr v) → r = some (.long v) ∧ L' = L) : Sx l E yX7_digest cX7_digest 5 (some .long) (3) r L' 103 [(0, .ref a0), (1, .long v1), (3, .int v3), (4, .int v4)] [] L := by
  unfold fX7_digest_b103 at h
  refine sx_iload (j := 3) dX7_digest_103 rfl ?_
  refine sx_aload_n (i := 0) (j := 0) dX7_digest_105 rfl rfl ?_
  refine sx_get (k := 0) (v := .ref (a0 + 1)) dX7_digest_106 (X7_k h0) cf_7 (Or.inl wd_956) (by decide : 0 < 20) (congrArg Value.ref (X7_r0 h0)) ?_
  refine sx_iconst (v := (0 : Int32)) dX7_digest_109 (by decide) ?_
  refine sx_iald dX7_digest_110 (X7_a0 h0) (show vin (0 : Int32) 228 from by decide) ?_
  refine sx_icmp_ge (tgt := 142) dX7_digest_111 rfl (fun c17 => ?_) (fun c17 => ?_)
  · have h := if_e c17 h
    obtain rfl := Option.some.inj h
    exact sx_sub [0, 1, 2] rfl (k2 _ rfl)
  · have h := if_n c17 h
    refine sx_ldc2 (v := (31 : Int64)) dX7_digest_114 wd_1384 ?_
    refine sx_lload_n (i := 1) (j := 1) dX7_digest_117 rfl rfl ?_
    refine sx_lmul dX7_digest_118 ?_
    refine sx_aload_n (i := 0) (j := 0) dX7_digest_119 rfl rfl ?_
    refine sx_get (k := 0) (v := .ref (a0 + 1)) dX7_digest_120 (X7_k h0) cf_7 (Or.inl wd_956) (by decide : 0 < 20) (congrArg Value.ref (X7_r0 h0)) ?_
    refine sx_bipush (v := (39 : Int32)) dX7_digest_123 (by decide) ?_
    refine sx_iconst (v := (5 : Int32)) dX7_digest_125 (by decide) ?_
    refine sx_iload_n (i := 3) (j := 2) dX7_digest_126 rfl rfl ?_
    refine sx_imul dX7_digest_127 ?_
    refine sx_iadd dX7_digest_128 ?_
    refine sx_iload (j := 3) dX7_digest_129 rfl ?_
    refine sx_iadd dX7_digest_131 ?_
    obtain ⟨c18, h⟩ := gd_e h
    refine sx_iald dX7_digest_132 (X7_a0 h0) c18 ?_
    refine sx_i2l dX7_digest_133 ?_
    refine sx_ladd dX7_digest_134 ?_
    refine sx_topl (fun w19 ew19 => ?_)
    have h := lt_e ew19 h
    refine sx_lstore_n (i := 1) (lv' := [(0, .ref a0), (1, .long w19), (3, .int v3), (4, .int v4)]) dX7_digest_135 rfl (by decide) rfl ?_
    obtain ⟨w20, ew20⟩ : ∃ w : Int32, w = v4 + (1 : Int32) := ⟨_, rfl⟩
    have h := lt_e ew20 h
    refine sx_iinc (j := 3) (v := w20) (lv' := [(0, .ref a0), (1, .long w19), (3, .int v3), (4, .int w20)]) dX7_digest_136 rfl (ii_1 ew20) (by decide) rfl ?_
    refine sx_goto (tgt := 103) dX7_digest_139 rfl ?_
    obtain rfl := Option.some.inj h
    exact sx_sub [0, 1, 2, 3] rfl (k1 _ rfl)
set_option maxRecDepth 100000 in
set_option maxHeartbeats 4000000 in
theorem tX7_digest_b88 {l : Launch} {E : Ev} {r : Option Value} {L' L : HL} {a0 : Nat} {v1 : Int64} {v3 : Int32} {z : Tn (Int64 × Int32) (Int64)} (h0 : isX7 E a0) (h : fX7_digest_b88 a0 v1 v3 L = some z) (k1 : ∀ s, z = .inl s → Sx l E yX7_digest cX7_digest 5 (some .long) (3) r L' 88 [(0, .ref a0), (1, .long s.1), (3, .int s.2)] [] L) (k2 : ∀ s, z = .inr (.inl s) → Sx l E yX7_digest cX7_digest 5 (some .long) (3) r L' 148 [(0, .ref a0), (1, .long s.1)] [] L) (k3 : ∀ v, z = .inr (.inr v) → r = some (.long v) ∧ L' = L) : Sx l E yX7_digest cX7_digest 5 (some .long) (3) r L' 88 [(0, .ref a0), (1, .long v1), (3, .int v3)] [] L := by
  unfold fX7_digest_b88 at h
  refine sx_iload_n (i := 3) (j := 2) dX7_digest_88 rfl rfl ?_
  refine sx_aload_n (i := 0) (j := 0) dX7_digest_89 rfl rfl ?_
  refine sx_get (k := 0) (v := .ref (a0 + 1)) dX7_digest_90 (X7_k h0) cf_7 (Or.inl wd_956) (by decide : 0 < 20) (congrArg Value.ref (X7_r0 h0)) ?_
  refine sx_iconst (v := (0 : Int32)) dX7_digest_93 (by decide) ?_
  refine sx_iald dX7_digest_94 (X7_a0 h0) (show vin (0 : Int32) 228 from by decide) ?_
  refine sx_icmp_ge (tgt := 148) dX7_digest_95 rfl (fun c15 => ?_) (fun c15 => ?_)
  · have h := if_e c15 h
    obtain rfl := Option.some.inj h
    exact sx_sub [0, 1] rfl (k2 _ rfl)
  · have h := if_n c15 h
    refine sx_iload_n (i := 3) (j := 2) dX7_digest_98 rfl rfl ?_
    refine sx_iconst (v := (1 : Int32)) dX7_digest_99 (by decide) ?_
    refine sx_iadd dX7_digest_100 ?_
    refine sx_topi (fun w16 ew16 => ?_)
    have h := lt_e ew16 h
    refine sx_istore (lv' := [(0, .ref a0), (1, .long v1), (3, .int v3), (4, .int w16)]) dX7_digest_101 (by decide) rfl ?_
    obtain ⟨x23, hx, q1, q2⟩ := lx_e h
    refine sx_sub (lv' := [(0, .ref a0), (1, .long v1), (3, .int v3), (4, .int w16)]) [0, 1, 2, 3] rfl ?_
    refine lp_go (fun s21 => Sx l E yX7_digest cX7_digest 5 (some .long) (3) r L' 103 [(0, .ref a0), (1, .long s21.1), (3, .int v3), (4, .int s21.2)] [] L) x23 (fun s21 z2 hz c1 c2 => ?_) FU _ hx
    refine tX7_digest_b103 h0 hz (fun s2 e => c1 s2 e) (fun s21 e => ?_) (fun v e => ?_)
    · have h := q1 _ (c2 _ e).symm
      obtain ⟨w22, ew22⟩ : ∃ w : Int32, w = v3 + (1 : Int32) := ⟨_, rfl⟩
      have h := lt_e ew22 h
      refine sx_iinc (j := 2) (v := w22) (lv' := [(0, .ref a0), (1, .long s21.1), (3, .int w22)]) dX7_digest_142 rfl (ii_1 ew22) (by decide) rfl ?_
      refine sx_goto (tgt := 88) dX7_digest_145 rfl ?_
      obtain rfl := Option.some.inj h
      exact sx_sub [0, 1, 2] rfl (k1 _ rfl)
    · exact k3 _ (Option.some.inj (q2 _ (c2 _ e).symm)).symm
set_option maxRecDepth 100000 in
set_option maxHeartbeats 4000000 in
theorem tX7_digest_b150 {l : Launch} {E : Ev} {r : Option Value} {L' L : HL} {a0 : Nat} {v1 : Int64} {v3 : Int32} {z : Tn (Int64 × Int32) (Int64)} (h0 : isX7 E a0) (h : fX7_digest_b150 a0 v1 v3 L = some z) (k1 : ∀ s, z = .inl s → Sx l E yX7_digest cX7_digest 5 (some .long) (3) r L' 150 [(0, .ref a0), (1, .long s.1), (3, .int s.2)] [] L) (k2 : ∀ s, z = .inr (.inl s) → Sx l E yX7_digest cX7_digest 5 (some .long) (3) r L' 198 [(0, .ref a0), (1, .long s.1)] [] L) (k3 : ∀ v, z = .inr (.inr v) → r = some (.long v) ∧ L' = L) : Sx l E yX7_digest cX7_digest 5 (some .long) (3) r L' 150 [(0, .ref a0), (1, .long v1), (3, .int v3)] [] L := by
  unfold fX7_digest_b150 at h
  refine sx_iload_n (i := 3) (j := 2) dX7_digest_150 rfl rfl ?_
  refine sx_aload_n (i := 0) (j := 0) dX7_digest_151 rfl rfl ?_
  refine sx_get (k := 0) (v := .ref (a0 + 1)) dX7_digest_152 (X7_k h0) cf_7 (Or.inl wd_956) (by decide : 0 < 20) (congrArg Value.ref (X7_r0 h0)) ?_
  refine sx_iconst (v := (1 : Int32)) dX7_digest_155 (by decide) ?_
  refine sx_iald dX7_digest_156 (X7_a0 h0) (show vin (1 : Int32) 228 from by decide) ?_
  refine sx_icmp_ge (tgt := 198) dX7_digest_157 rfl (fun c25 => ?_) (fun c25 => ?_)
  · have h := if_e c25 h
    obtain rfl := Option.some.inj h
    exact sx_sub [0, 1] rfl (k2 _ rfl)
  · have h := if_n c25 h
    refine sx_ldc2 (v := (31 : Int64)) dX7_digest_160 wd_1384 ?_
    refine sx_ldc2 (v := (31 : Int64)) dX7_digest_163 wd_1384 ?_
    refine sx_lload_n (i := 1) (j := 1) dX7_digest_166 rfl rfl ?_
    refine sx_lmul dX7_digest_167 ?_
    refine sx_aload_n (i := 0) (j := 0) dX7_digest_168 rfl rfl ?_
    refine sx_get (k := 0) (v := .ref (a0 + 1)) dX7_digest_169 (X7_k h0) cf_7 (Or.inl wd_956) (by decide : 0 < 20) (congrArg Value.ref (X7_r0 h0)) ?_
    refine sx_bipush (v := (64 : Int32)) dX7_digest_172 (by decide) ?_
    refine sx_iload_n (i := 3) (j := 2) dX7_digest_174 rfl rfl ?_
    refine sx_iadd dX7_digest_175 ?_
    obtain ⟨c26, h⟩ := gd_e h
    refine sx_iald dX7_digest_176 (X7_a0 h0) c26 ?_
    refine sx_i2l dX7_digest_177 ?_
    refine sx_ladd dX7_digest_178 ?_
    refine sx_lmul dX7_digest_179 ?_
    refine sx_aload_n (i := 0) (j := 0) dX7_digest_180 rfl rfl ?_
    refine sx_get (k := 0) (v := .ref (a0 + 1)) dX7_digest_181 (X7_k h0) cf_7 (Or.inl wd_956) (by decide : 0 < 20) (congrArg Value.ref (X7_r0 h0)) ?_
    refine sx_bipush (v := (70 : Int32)) dX7_digest_184 (by decide) ?_
    refine sx_iload_n (i := 3) (j := 2) dX7_digest_186 rfl rfl ?_
    refine sx_iadd dX7_digest_187 ?_
    obtain ⟨c27, h⟩ := gd_e h
    refine sx_iald dX7_digest_188 (X7_a0 h0) c27 ?_
    refine sx_i2l dX7_digest_189 ?_
    refine sx_ladd dX7_digest_190 ?_
    refine sx_topl (fun w28 ew28 => ?_)
    have h := lt_e ew28 h
    refine sx_lstore_n (i := 1) (lv' := [(0, .ref a0), (1, .long w28), (3, .int v3)]) dX7_digest_191 rfl (by decide) rfl ?_
    obtain ⟨w29, ew29⟩ : ∃ w : Int32, w = v3 + (1 : Int32) := ⟨_, rfl⟩
    have h := lt_e ew29 h
    refine sx_iinc (j := 2) (v := w29) (lv' := [(0, .ref a0), (1, .long w28), (3, .int w29)]) dX7_digest_192 rfl (ii_1 ew29) (by decide) rfl ?_
    refine sx_goto (tgt := 150) dX7_digest_195 rfl ?_
    obtain rfl := Option.some.inj h
    exact sx_sub [0, 1, 2] rfl (k1 _ rfl)
set_option maxRecDepth 100000 in
set_option maxHeartbeats 4000000 in
theorem tX7_digest_b210 {l : Launch} {E : Ev} {r : Option Value} {L' L : HL} {a0 : Nat} {v1 : Int64} {v3 : Int32} {v4 : Int32} {z : Tn (Int64 × Int32) (Int64)} (h0 : isX7 E a0) (h : fX7_digest_b210 a0 v1 v3 v4 L = some z) (k1 : ∀ s, z = .inl s → Sx l E yX7_digest cX7_digest 5 (some .long) (3) r L' 210 [(0, .ref a0), (1, .long s.1), (3, .int v3), (4, .int s.2)] [] L) (k2 : ∀ s, z = .inr (.inl s) → Sx l E yX7_digest cX7_digest 5 (some .long) (3) r L' 244 [(0, .ref a0), (1, .long s.1), (3, .int v3)] [] L) (k3 : ∀ v, z = .inr (.inr v) → r = some (.long v) ∧ L' = L) : Sx l E yX7_digest cX7_digest 5 (some .long) (3) r L' 210 [(0, .ref a0), (1, .long v1), (3, .int v3), (4, .int v4)] [] L := by
  unfold fX7_digest_b210 at h
  refine sx_iload (j := 3) dX7_digest_210 rfl ?_
  refine sx_iconst (v := (4 : Int32)) dX7_digest_212 (by decide) ?_
  refine sx_icmp_ge (tgt := 244) dX7_digest_213 rfl (fun c33 => ?_) (fun c33 => ?_)
  · have h := if_e c33 h
    obtain rfl := Option.some.inj h
    exact sx_sub [0, 1, 2] rfl (k2 _ rfl)
  · have h := if_n c33 h
    refine sx_ldc2 (v := (31 : Int64)) dX7_digest_216 wd_1384 ?_
    refine sx_lload_n (i := 1) (j := 1) dX7_digest_219 rfl rfl ?_
    refine sx_lmul dX7_digest_220 ?_
    refine sx_aload_n (i := 0) (j := 0) dX7_digest_221 rfl rfl ?_
    refine sx_get (k := 0) (v := .ref (a0 + 1)) dX7_digest_222 (X7_k h0) cf_7 (Or.inl wd_956) (by decide : 0 < 20) (congrArg Value.ref (X7_r0 h0)) ?_
    refine sx_bipush (v := (76 : Int32)) dX7_digest_225 (by decide) ?_
    refine sx_iconst (v := (4 : Int32)) dX7_digest_227 (by decide) ?_
    refine sx_iload_n (i := 3) (j := 2) dX7_digest_228 rfl rfl ?_
    refine sx_imul dX7_digest_229 ?_
    refine sx_iadd dX7_digest_230 ?_
    refine sx_iload (j := 3) dX7_digest_231 rfl ?_
    refine sx_iadd dX7_digest_233 ?_
    obtain ⟨c34, h⟩ := gd_e h
    refine sx_iald dX7_digest_234 (X7_a0 h0) c34 ?_
    refine sx_i2l dX7_digest_235 ?_
    refine sx_ladd dX7_digest_236 ?_
    refine sx_topl (fun w35 ew35 => ?_)
    have h := lt_e ew35 h
    refine sx_lstore_n (i := 1) (lv' := [(0, .ref a0), (1, .long w35), (3, .int v3), (4, .int v4)]) dX7_digest_237 rfl (by decide) rfl ?_
    obtain ⟨w36, ew36⟩ : ∃ w : Int32, w = v4 + (1 : Int32) := ⟨_, rfl⟩
    have h := lt_e ew36 h
    refine sx_iinc (j := 3) (v := w36) (lv' := [(0, .ref a0), (1, .long w35), (3, .int v3), (4, .int w36)]) dX7_digest_238 rfl (ii_1 ew36) (by decide) rfl ?_
    refine sx_goto (tgt := 210) dX7_digest_241 rfl ?_
    obtain rfl := Option.some.inj h
    exact sx_sub [0, 1, 2, 3] rfl (k1 _ rfl)
set_option maxRecDepth 100000 in
set_option maxHeartbeats 4000000 in
theorem tX7_digest_b200 {l : Launch} {E : Ev} {r : Option Value} {L' L : HL} {a0 : Nat} {v1 : Int64} {v3 : Int32} {z : Tn (Int64 × Int32) (Int64)} (h0 : isX7 E a0) (h : fX7_digest_b200 a0 v1 v3 L = some z) (k1 : ∀ s, z = .inl s → Sx l E yX7_digest cX7_digest 5 (some .long) (3) r L' 200 [(0, .ref a0), (1, .long s.1), (3, .int s.2)] [] L) (k2 : ∀ s, z = .inr (.inl s) → Sx l E yX7_digest cX7_digest 5 (some .long) (3) r L' 250 [(0, .ref a0), (1, .long s.1)] [] L) (k3 : ∀ v, z = .inr (.inr v) → r = some (.long v) ∧ L' = L) : Sx l E yX7_digest cX7_digest 5 (some .long) (3) r L' 200 [(0, .ref a0), (1, .long v1), (3, .int v3)] [] L := by
  unfold fX7_digest_b200 at h
  refine sx_iload_n (i := 3) (j := 2) dX7_digest_200 rfl rfl ?_
  refine sx_iconst (v := (4 : Int32)) dX7_digest_201 (by decide) ?_
  refine sx_icmp_ge (tgt := 250) dX7_digest_202 rfl (fun c31 => ?_) (fun c31 => ?_)
  · have h := if_e c31 h
    obtain rfl := Option.some.inj h
    exact sx_sub [0, 1] rfl (k2 _ rfl)
  · have h := if_n c31 h
    refine sx_iload_n (i := 3) (j := 2) dX7_digest_205 rfl rfl ?_
    refine sx_iconst (v := (1 : Int32)) dX7_digest_206 (by decide) ?_
    refine sx_iadd dX7_digest_207 ?_
    refine sx_topi (fun w32 ew32 => ?_)
    have h := lt_e ew32 h
    refine sx_istore (lv' := [(0, .ref a0), (1, .long v1), (3, .int v3), (4, .int w32)]) dX7_digest_208 (by decide) rfl ?_
    obtain ⟨x39, hx, q1, q2⟩ := lx_e h
    refine sx_sub (lv' := [(0, .ref a0), (1, .long v1), (3, .int v3), (4, .int w32)]) [0, 1, 2, 3] rfl ?_
    refine lp_go (fun s37 => Sx l E yX7_digest cX7_digest 5 (some .long) (3) r L' 210 [(0, .ref a0), (1, .long s37.1), (3, .int v3), (4, .int s37.2)] [] L) x39 (fun s37 z2 hz c1 c2 => ?_) FU _ hx
    refine tX7_digest_b210 h0 hz (fun s2 e => c1 s2 e) (fun s37 e => ?_) (fun v e => ?_)
    · have h := q1 _ (c2 _ e).symm
      obtain ⟨w38, ew38⟩ : ∃ w : Int32, w = v3 + (1 : Int32) := ⟨_, rfl⟩
      have h := lt_e ew38 h
      refine sx_iinc (j := 2) (v := w38) (lv' := [(0, .ref a0), (1, .long s37.1), (3, .int w38)]) dX7_digest_244 rfl (ii_1 ew38) (by decide) rfl ?_
      refine sx_goto (tgt := 200) dX7_digest_247 rfl ?_
      obtain rfl := Option.some.inj h
      exact sx_sub [0, 1, 2] rfl (k1 _ rfl)
    · exact k3 _ (Option.some.inj (q2 _ (c2 _ e).symm)).symm
set_option maxRecDepth 100000 in
set_option maxHeartbeats 4000000 in
theorem mX7_digest {l : Launch} {E : Ev} {L : HL} {a0 : Nat} {z : Int64} (h0 : isX7 E a0) (h : fX7_digest a0 L = some z) : Mt l E yX7_digest cX7_digest 5 (some .long) (3) [.ref a0] L (some (.long z)) L := by
  obtain ⟨r, hr⟩ : ∃ r : Option Value, r = some (.long z) := ⟨_, rfl⟩
  obtain ⟨L', hL'⟩ : ∃ L' : HL, L' = L := ⟨_, rfl⟩
  have k3 : r = some (.long z) ∧ L' = L := ⟨hr, hL'⟩
  refine mt_eq hr hL' ?_
  refine Mt.of (plainFor_of_name (by decide)) (Nat.le_of_ble_eq_true rfl) ?_
  refine sx_sub (lv' := [(0, .ref a0)]) [0] rfl ?_
  unfold fX7_digest at h
  refine sx_ldc2 (v := (967 : Int64)) dX7_digest_0 wd_1383 ?_
  refine sx_lstore_n (i := 1) (lv' := [(0, .ref a0), (1, .long (967 : Int64))]) dX7_digest_3 rfl (by decide) rfl ?_
  refine sx_iconst (v := (0 : Int32)) dX7_digest_4 (by decide) ?_
  refine sx_istore_n (i := 3) (lv' := [(0, .ref a0), (1, .long (967 : Int64)), (3, .int (0 : Int32))]) dX7_digest_5 rfl (by decide) rfl ?_
  obtain ⟨x45, hx, q1, q2⟩ := lx_e h
  refine sx_sub (lv' := [(0, .ref a0), (1, .long (967 : Int64)), (3, .int (0 : Int32))]) [0, 1, 2] rfl ?_
  refine lp_go (fun s5 => Sx l E yX7_digest cX7_digest 5 (some .long) (3) r L' 6 [(0, .ref a0), (1, .long s5.1), (3, .int s5.2)] [] L) x45 (fun s5 z2 hz c1 c2 => ?_) FU _ hx
  refine tX7_digest_b6 h0 hz (fun s2 e => c1 s2 e) (fun s5 e => ?_) (fun v e => ?_)
  · have h := q1 _ (c2 _ e).symm
    refine sx_iconst (v := (0 : Int32)) dX7_digest_31 (by decide) ?_
    refine sx_istore_n (i := 3) (lv' := [(0, .ref a0), (1, .long s5.1), (3, .int (0 : Int32))]) dX7_digest_32 rfl (by decide) rfl ?_
    obtain ⟨x44, hx, q1, q2⟩ := lx_e h
    refine sx_sub (lv' := [(0, .ref a0), (1, .long s5.1), (3, .int (0 : Int32))]) [0, 1, 2] rfl ?_
    refine lp_go (fun s14 => Sx l E yX7_digest cX7_digest 5 (some .long) (3) r L' 33 [(0, .ref a0), (1, .long s14.1), (3, .int s14.2)] [] L) x44 (fun s14 z2 hz c1 c2 => ?_) FU _ hx
    refine tX7_digest_b33 h0 hz (fun s2 e => c1 s2 e) (fun s14 e => ?_) (fun v e => ?_)
    · have h := q1 _ (c2 _ e).symm
      refine sx_iconst (v := (0 : Int32)) dX7_digest_86 (by decide) ?_
      refine sx_istore_n (i := 3) (lv' := [(0, .ref a0), (1, .long s14.1), (3, .int (0 : Int32))]) dX7_digest_87 rfl (by decide) rfl ?_
      obtain ⟨x43, hx, q1, q2⟩ := lx_e h
      refine sx_sub (lv' := [(0, .ref a0), (1, .long s14.1), (3, .int (0 : Int32))]) [0, 1, 2] rfl ?_
      refine lp_go (fun s24 => Sx l E yX7_digest cX7_digest 5 (some .long) (3) r L' 88 [(0, .ref a0), (1, .long s24.1), (3, .int s24.2)] [] L) x43 (fun s24 z2 hz c1 c2 => ?_) FU _ hx
      refine tX7_digest_b88 h0 hz (fun s2 e => c1 s2 e) (fun s24 e => ?_) (fun v e => ?_)
      · have h := q1 _ (c2 _ e).symm
        refine sx_iconst (v := (0 : Int32)) dX7_digest_148 (by decide) ?_
        refine sx_istore_n (i := 3) (lv' := [(0, .ref a0), (1, .long s24.1), (3, .int (0 : Int32))]) dX7_digest_149 rfl (by decide) rfl ?_
        obtain ⟨x42, hx, q1, q2⟩ := lx_e h
        refine sx_sub (lv' := [(0, .ref a0), (1, .long s24.1), (3, .int (0 : Int32))]) [0, 1, 2] rfl ?_
        refine lp_go (fun s30 => Sx l E yX7_digest cX7_digest 5 (some .long) (3) r L' 150 [(0, .ref a0), (1, .long s30.1), (3, .int s30.2)] [] L) x42 (fun s30 z2 hz c1 c2 => ?_) FU _ hx
        refine tX7_digest_b150 h0 hz (fun s2 e => c1 s2 e) (fun s30 e => ?_) (fun v e => ?_)
        · have h := q1 _ (c2 _ e).symm
          refine sx_iconst (v := (0 : Int32)) dX7_digest_198 (by decide) ?_
          refine sx_istore_n (i := 3) (lv' := [(0, .ref a0), (1, .long s30.1), (3, .int (0 : Int32))]) dX7_digest_199 rfl (by decide) rfl ?_
          obtain ⟨x41, hx, q1, q2⟩ := lx_e h
          refine sx_sub (lv' := [(0, .ref a0), (1, .long s30.1), (3, .int (0 : Int32))]) [0, 1, 2] rfl ?_
          refine lp_go (fun s40 => Sx l E yX7_digest cX7_digest 5 (some .long) (3) r L' 200 [(0, .ref a0), (1, .long s40.1), (3, .int s40.2)] [] L) x41 (fun s40 z2 hz c1 c2 => ?_) FU _ hx
          refine tX7_digest_b200 h0 hz (fun s2 e => c1 s2 e) (fun s40 e => ?_) (fun v e => ?_)
          · have h := q1 _ (c2 _ e).symm
            refine sx_ldc2 (v := (31 : Int64)) dX7_digest_250 wd_1384 ?_
            refine sx_ldc2 (v := (31 : Int64)) dX7_digest_253 wd_1384 ?_
            refine sx_lload_n (i := 1) (j := 1) dX7_digest_256 rfl rfl ?_
            refine sx_lmul dX7_digest_257 ?_
            refine sx_aload_n (i := 0) (j := 0) dX7_digest_258 rfl rfl ?_
            refine sx_get (k := 5) (v := .long (L.2 a0 5)) dX7_digest_259 (X7_k h0) cf_7 (Or.inl wd_961) (by decide : 5 < 20) rfl ?_
            refine sx_ladd dX7_digest_262 ?_
            refine sx_lmul dX7_digest_263 ?_
            refine sx_aload_n (i := 0) (j := 0) dX7_digest_264 rfl rfl ?_
            refine sx_get (k := 6) (v := .long (L.2 a0 6)) dX7_digest_265 (X7_k h0) cf_7 (Or.inl wd_962) (by decide : 6 < 20) rfl ?_
            refine sx_ladd dX7_digest_268 ?_
            obtain rfl := Option.some.inj h
            exact sx_lret dX7_digest_269 rfl k3.1 k3.2
          · have e2 := Option.some.inj (q2 _ (c2 _ e).symm)
            subst e2
            exact k3
        · have e2 := Option.some.inj (q2 _ (c2 _ e).symm)
          subst e2
          exact k3
      · have e2 := Option.some.inj (q2 _ (c2 _ e).symm)
        subst e2
        exact k3
    · have e2 := Option.some.inj (q2 _ (c2 _ e).symm)
      subst e2
      exact k3
  · have e2 := Option.some.inj (q2 _ (c2 _ e).symm)
    subst e2
    exact k3
