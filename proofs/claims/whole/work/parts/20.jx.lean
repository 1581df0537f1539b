set_option maxRecDepth 100000 in
set_option maxHeartbeats 4000000 in
theorem mJ9_min_7cf53 {l : Launch} {E : Ev} {L : HL} {v0 : Int32} {v1 : Int32} {z : Int32} (h : fJ9_min_7cf53 v0 v1 = some z) : Mt l E yJ9_min_7cf53 cJ9_min_7cf53 2 (some .int) (1) [.int v0, .int v1] L (some (.int z)) L := by
  obtain ⟨r, hr⟩ : ∃ r : Option Value, r = some (.int z) := ⟨_, rfl⟩
  obtain ⟨L', hL'⟩ : ∃ L' : HL, L' = L := ⟨_, rfl⟩
  have k3 : r = some (.int z) ∧ L' = L := ⟨hr, hL'⟩
  refine mt_eq hr hL' ?_
  refine Mt.of (by decide +kernel) (Nat.le_of_ble_eq_true rfl) ?_
  refine sx_sub (lv' := [(0, .int v0), (1, .int v1)]) [0, 1] rfl ?_
  unfold fJ9_min_7cf53 at h
  refine sx_iload_n (i := 0) (j := 0) dJ9_min_7cf53_0 rfl rfl ?_
  refine sx_iload_n (i := 1) (j := 1) dJ9_min_7cf53_1 rfl rfl ?_
  refine sx_icmp_gt (tgt := 9) dJ9_min_7cf53_2 rfl (fun c1 => ?_) (fun c1 => ?_)
  · have h := if_e c1 h
    refine sx_iload_n (i := 1) (j := 1) dJ9_min_7cf53_9 rfl rfl ?_
    obtain rfl := Option.some.inj h
    exact sx_iret dJ9_min_7cf53_10 rfl rfl k3.1 k3.2
  · have h := if_n c1 h
    refine sx_iload_n (i := 0) (j := 0) dJ9_min_7cf53_5 rfl rfl ?_
    refine sx_goto (tgt := 10) dJ9_min_7cf53_6 rfl ?_
    obtain rfl := Option.some.inj h
    exact sx_iret dJ9_min_7cf53_10 rfl rfl k3.1 k3.2
set_option maxRecDepth 100000 in
set_option maxHeartbeats 4000000 in
theorem mX6_copyRow {l : Launch} {E : Ev} {L : HL} {a0 : Nat} {n0 : Nat} {a1 : Nat} {n1 : Nat} {z : HL} (h0 : eK E a0 = some (.inr (0, n0))) (h1 : eK E a1 = some (.inr (0, n1))) (h : fX6_copyRow a0 n0 a1 n1 L = some z) : Mt l E yX6_copyRow cX6_copyRow 3 (none) (2) [.ref a0, .ref a1] L (none) z := by
  obtain ⟨r, hr⟩ : ∃ r : Option Value, r = none := ⟨_, rfl⟩
  obtain ⟨L', hL'⟩ : ∃ L' : HL, L' = z := ⟨_, rfl⟩
  have k3 : r = none ∧ L' = z := ⟨hr, hL'⟩
  refine mt_eq hr hL' ?_
  refine Mt.of (plainFor_of_name (by decide)) (Nat.le_of_ble_eq_true rfl) ?_
  refine sx_sub (lv' := [(0, .ref a0), (1, .ref a1)]) [0, 1] rfl ?_
  unfold fX6_copyRow at h
  refine sx_aload_n (i := 0) (j := 0) dX6_copyRow_0 rfl rfl ?_
  refine sx_alen (v := (Int32.ofNat n0)) dX6_copyRow_1 h0 rfl ?_
  refine sx_aload_n (i := 1) (j := 1) dX6_copyRow_2 rfl rfl ?_
  refine sx_alen (v := (Int32.ofNat n1)) dX6_copyRow_3 h1 rfl ?_
  obtain ⟨z1, ez1, h⟩ := bd_e h
  refine sx_callS (avs := [.int (Int32.ofNat n0), .int (Int32.ofNat n1)]) (rest := []) (st1 := [.int z1]) dX6_copyRow_4 (mJ9_min_7cf53 ez1) ctJ9_min_7cf53 (Or.inl wd_605) rfl rfl (rm_m rfl) rfl (Nat.le_of_ble_eq_true rfl) rfl ?_
  refine sx_istore_n (i := 2) (lv' := [(0, .ref a0), (1, .ref a1), (2, .int z1)]) dX6_copyRow_7 rfl (by decide) rfl ?_
  refine sx_aload_n (i := 0) (j := 0) dX6_copyRow_8 rfl rfl ?_
  refine sx_iconst (v := (0 : Int32)) dX6_copyRow_9 (by decide) ?_
  refine sx_aload_n (i := 1) (j := 1) dX6_copyRow_10 rfl rfl ?_
  refine sx_iconst (v := (0 : Int32)) dX6_copyRow_11 (by decide) ?_
  refine sx_iload_n (i := 2) (j := 2) dX6_copyRow_12 rfl rfl ?_
  obtain ⟨c2, h⟩ := gd_e h
  refine sx_copy dX6_copyRow_13 wd_608 wd_610 wd_609 wd_117 h0 h1 c2.1 c2.2.1 c2.2.2.1 c2.2.2.2.1 c2.2.2.2.2.1 c2.2.2.2.2.2 (rm_m rfl) (Nat.le_of_ble_eq_true rfl) (fun L3 eL3 => ?_)
  have h := lt_e eL3 h
  obtain rfl := Option.some.inj h
  exact sx_vret dX6_copyRow_16 rfl k3.1 k3.2
set_option maxRecDepth 100000 in
set_option maxHeartbeats 4000000 in
theorem mX4_takeFrom {l : Launch} {E : Ev} {L : HL} {a0 : Nat} {a1 : Nat} {z : HL} (h0 : isX4 E a0) (h1 : isX4 E a1) (h : fX4_takeFrom a0 a1 L = some z) : Mt l E yX4_takeFrom cX4_takeFrom 2 (none) (3) [.ref a0, .ref a1] L (none) z := by
  obtain ⟨r, hr⟩ : ∃ r : Option Value, r = none := ⟨_, rfl⟩
  obtain ⟨L', hL'⟩ : ∃ L' : HL, L' = z := ⟨_, rfl⟩
  have k3 : r = none ∧ L' = z := ⟨hr, hL'⟩
  refine mt_eq hr hL' ?_
  refine Mt.of (plainFor_of_name (by decide)) (Nat.le_of_ble_eq_true rfl) ?_
  refine sx_sub (lv' := [(0, .ref a0), (1, .ref a1)]) [0, 1] rfl ?_
  unfold fX4_takeFrom at h
  refine sx_aload_n (i := 0) (j := 0) dX4_takeFrom_0 rfl rfl ?_
  refine sx_aload_n (i := 1) (j := 1) dX4_takeFrom_1 rfl rfl ?_
  refine sx_get (k := 0) (v := .int (L.1 a1 0)) dX4_takeFrom_2 (X4_k h1) cf_4 (Or.inl wd_133) (by decide : 0 < 17) rfl ?_
  refine sx_putI (k := 0) dX4_takeFrom_5 (X4_k h0) cf_4 (Or.inl wd_133) (by decide : 0 < 17) rfl rfl rfl rfl (fun L1 eL1 => ?_)
  have h := lt_e eL1 h
  refine sx_aload_n (i := 0) (j := 0) dX4_takeFrom_8 rfl rfl ?_
  refine sx_aload_n (i := 1) (j := 1) dX4_takeFrom_9 rfl rfl ?_
  refine sx_get (k := 1) (v := .int (L1.1 a1 1)) dX4_takeFrom_10 (X4_k h1) cf_4 (Or.inl wd_136) (by decide : 1 < 17) rfl ?_
  refine sx_putI (k := 1) dX4_takeFrom_13 (X4_k h0) cf_4 (Or.inl wd_136) (by decide : 1 < 17) rfl rfl rfl rfl (fun L2 eL2 => ?_)
  have h := lt_e eL2 h
  refine sx_aload_n (i := 0) (j := 0) dX4_takeFrom_16 rfl rfl ?_
  refine sx_aload_n (i := 1) (j := 1) dX4_takeFrom_17 rfl rfl ?_
  refine sx_get (k := 2) (v := .int (L2.1 a1 2)) dX4_takeFrom_18 (X4_k h1) cf_4 (Or.inl wd_140) (by decide : 2 < 17) rfl ?_
  refine sx_putI (k := 2) dX4_takeFrom_21 (X4_k h0) cf_4 (Or.inl wd_140) (by decide : 2 < 17) rfl rfl rfl rfl (fun L3 eL3 => ?_)
  have h := lt_e eL3 h
  refine sx_aload_n (i := 0) (j := 0) dX4_takeFrom_24 rfl rfl ?_
  refine sx_aload_n (i := 1) (j := 1) dX4_takeFrom_25 rfl rfl ?_
  refine sx_get (k := 3) (v := .int (L3.1 a1 3)) dX4_takeFrom_26 (X4_k h1) cf_4 (Or.inl wd_143) (by decide : 3 < 17) rfl ?_
  refine sx_putI (k := 3) dX4_takeFrom_29 (X4_k h0) cf_4 (Or.inl wd_143) (by decide : 3 < 17) rfl rfl rfl rfl (fun L4 eL4 => ?_)
  have h := lt_e eL4 h
  refine sx_aload_n (i := 1) (j := 1) dX4_takeFrom_32 rfl rfl ?_
  refine sx_get (k := 4) (v := .ref (a1 + 1)) dX4_takeFrom_33 (X4_k h1) cf_4 (Or.inl wd_146) (by decide : 4 < 17) (congrArg Value.ref (X4_r4 h1)) ?_
  refine sx_aload_n (i := 0) (j := 0) dX4_takeFrom_36 rfl rfl ?_
  refine sx_get (k := 4) (v := .ref (a0 + 1)) dX4_takeFrom_37 (X4_k h0) cf_4 (Or.inl wd_146) (by decide : 4 < 17) (congrArg Value.ref (X4_r4 h0)) ?_
  obtain ⟨z5, ez5, h⟩ := bd_e h
  refine sx_callS (avs := [.ref (a1 + 1), .ref (a0 + 1)]) (rest := []) (st1 := []) dX4_takeFrom_40 (mX6_copyRow (X4_a4 h1) (X4_a4 h0) ez5) ctX6_copyRow (Or.inr ⟨_, nw_602⟩) rfl rfl (rm_m rfl) rfl (Nat.le_of_ble_eq_true rfl) rfl ?_
  refine sx_aload_n (i := 1) (j := 1) dX4_takeFrom_43 rfl rfl ?_
  refine sx_get (k := 5) (v := .ref (a1 + 2)) dX4_takeFrom_44 (X4_k h1) cf_4 (Or.inl wd_149) (by decide : 5 < 17) (congrArg Value.ref (X4_r5 h1)) ?_
  refine sx_aload_n (i := 0) (j := 0) dX4_takeFrom_47 rfl rfl ?_
  refine sx_get (k := 5) (v := .ref (a0 + 2)) dX4_takeFrom_48 (X4_k h0) cf_4 (Or.inl wd_149) (by decide : 5 < 17) (congrArg Value.ref (X4_r5 h0)) ?_
  obtain ⟨z6, ez6, h⟩ := bd_e h
  refine sx_callS (avs := [.ref (a1 + 2), .ref (a0 + 2)]) (rest := []) (st1 := []) dX4_takeFrom_51 (mX6_copyRow (X4_a5 h1) (X4_a5 h0) ez6) ctX6_copyRow (Or.inr ⟨_, nw_602⟩) rfl rfl (rm_m rfl) rfl (Nat.le_of_ble_eq_true rfl) rfl ?_
  refine sx_aload_n (i := 1) (j := 1) dX4_takeFrom_54 rfl rfl ?_
  refine sx_get (k := 6) (v := .ref (a1 + 3)) dX4_takeFrom_55 (X4_k h1) cf_4 (Or.inl wd_151) (by decide : 6 < 17) (congrArg Value.ref (X4_r6 h1)) ?_
  refine sx_aload_n (i := 0) (j := 0) dX4_takeFrom_58 rfl rfl ?_
  refine sx_get (k := 6) (v := .ref (a0 + 3)) dX4_takeFrom_59 (X4_k h0) cf_4 (Or.inl wd_151) (by decide : 6 < 17) (congrArg Value.ref (X4_r6 h0)) ?_
  obtain ⟨z7, ez7, h⟩ := bd_e h
  refine sx_callS (avs := [.ref (a1 + 3), .ref (a0 + 3)]) (rest := []) (st1 := []) dX4_takeFrom_62 (mX6_copyRow (X4_a6 h1) (X4_a6 h0) ez7) ctX6_copyRow (Or.inr ⟨_, nw_602⟩) rfl rfl (rm_m rfl) rfl (Nat.le_of_ble_eq_true rfl) rfl ?_
  refine sx_aload_n (i := 1) (j := 1) dX4_takeFrom_65 rfl rfl ?_
  refine sx_get (k := 7) (v := .ref (a1 + 4)) dX4_takeFrom_66 (X4_k h1) cf_4 (Or.inl wd_154) (by decide : 7 < 17) (congrArg Value.ref (X4_r7 h1)) ?_
  refine sx_aload_n (i := 0) (j := 0) dX4_takeFrom_69 rfl rfl ?_
  refine sx_get (k := 7) (v := .ref (a0 + 4)) dX4_takeFrom_70 (X4_k h0) cf_4 (Or.inl wd_154) (by decide : 7 < 17) (congrArg Value.ref (X4_r7 h0)) ?_
  obtain ⟨z8, ez8, h⟩ := bd_e h
  refine sx_callS (avs := [.ref (a1 + 4), .ref (a0 + 4)]) (rest := []) (st1 := []) dX4_takeFrom_73 (mX6_copyRow (X4_a7 h1) (X4_a7 h0) ez8) ctX6_copyRow (Or.inr ⟨_, nw_602⟩) rfl rfl (rm_m rfl) rfl (Nat.le_of_ble_eq_true rfl) rfl ?_
  refine sx_aload_n (i := 1) (j := 1) dX4_takeFrom_76 rfl rfl ?_
  refine sx_get (k := 8) (v := .ref (a1 + 5)) dX4_takeFrom_77 (X4_k h1) cf_4 (Or.inl wd_156) (by decide : 8 < 17) (congrArg Value.ref (X4_r8 h1)) ?_
  refine sx_aload_n (i := 0) (j := 0) dX4_takeFrom_80 rfl rfl ?_
  refine sx_get (k := 8) (v := .ref (a0 + 5)) dX4_takeFrom_81 (X4_k h0) cf_4 (Or.inl wd_156) (by decide : 8 < 17) (congrArg Value.ref (X4_r8 h0)) ?_
  obtain ⟨z9, ez9, h⟩ := bd_e h
  refine sx_callS (avs := [.ref (a1 + 5), .ref (a0 + 5)]) (rest := []) (st1 := []) dX4_takeFrom_84 (mX6_copyRow (X4_a8 h1) (X4_a8 h0) ez9) ctX6_copyRow (Or.inr ⟨_, nw_602⟩) rfl rfl (rm_m rfl) rfl (Nat.le_of_ble_eq_true rfl) rfl ?_
  refine sx_aload_n (i := 1) (j := 1) dX4_takeFrom_87 rfl rfl ?_
  refine sx_get (k := 9) (v := .ref (a1 + 6)) dX4_takeFrom_88 (X4_k h1) cf_4 (Or.inl wd_159) (by decide : 9 < 17) (congrArg Value.ref (X4_r9 h1)) ?_
  refine sx_aload_n (i := 0) (j := 0) dX4_takeFrom_91 rfl rfl ?_
  refine sx_get (k := 9) (v := .ref (a0 + 6)) dX4_takeFrom_92 (X4_k h0) cf_4 (Or.inl wd_159) (by decide : 9 < 17) (congrArg Value.ref (X4_r9 h0)) ?_
  obtain ⟨z10, ez10, h⟩ := bd_e h
  refine sx_callS (avs := [.ref (a1 + 6), .ref (a0 + 6)]) (rest := []) (st1 := []) dX4_takeFrom_95 (mX6_copyRow (X4_a9 h1) (X4_a9 h0) ez10) ctX6_copyRow (Or.inr ⟨_, nw_602⟩) rfl rfl (rm_m rfl) rfl (Nat.le_of_ble_eq_true rfl) rfl ?_
  refine sx_aload_n (i := 1) (j := 1) dX4_takeFrom_98 rfl rfl ?_
  refine sx_get (k := 10) (v := .ref (a1 + 7)) dX4_takeFrom_99 (X4_k h1) cf_4 (Or.inl wd_161) (by decide : 10 < 17) (congrArg Value.ref (X4_r10 h1)) ?_
  refine sx_aload_n (i := 0) (j := 0) dX4_takeFrom_102 rfl rfl ?_
  refine sx_get (k := 10) (v := .ref (a0 + 7)) dX4_takeFrom_103 (X4_k h0) cf_4 (Or.inl wd_161) (by decide : 10 < 17) (congrArg Value.ref (X4_r10 h0)) ?_
  obtain ⟨z11, ez11, h⟩ := bd_e h
  refine sx_callS (avs := [.ref (a1 + 7), .ref (a0 + 7)]) (rest := []) (st1 := []) dX4_takeFrom_106 (mX6_copyRow (X4_a10 h1) (X4_a10 h0) ez11) ctX6_copyRow (Or.inr ⟨_, nw_602⟩) rfl rfl (rm_m rfl) rfl (Nat.le_of_ble_eq_true rfl) rfl ?_
  refine sx_aload_n (i := 1) (j := 1) dX4_takeFrom_109 rfl rfl ?_
  refine sx_get (k := 11) (v := .ref (a1 + 8)) dX4_takeFrom_110 (X4_k h1) cf_4 (Or.inl wd_162) (by decide : 11 < 17) (congrArg Value.ref (X4_r11 h1)) ?_
  refine sx_aload_n (i := 0) (j := 0) dX4_takeFrom_113 rfl rfl ?_
  refine sx_get (k := 11) (v := .ref (a0 + 8)) dX4_takeFrom_114 (X4_k h0) cf_4 (Or.inl wd_162) (by decide : 11 < 17) (congrArg Value.ref (X4_r11 h0)) ?_
  obtain ⟨z12, ez12, h⟩ := bd_e h
  refine sx_callS (avs := [.ref (a1 + 8), .ref (a0 + 8)]) (rest := []) (st1 := []) dX4_takeFrom_117 (mX6_copyRow (X4_a11 h1) (X4_a11 h0) ez12) ctX6_copyRow (Or.inr ⟨_, nw_602⟩) rfl rfl (rm_m rfl) rfl (Nat.le_of_ble_eq_true rfl) rfl ?_
  refine sx_aload_n (i := 1) (j := 1) dX4_takeFrom_120 rfl rfl ?_
  refine sx_get (k := 12) (v := .ref (a1 + 9)) dX4_takeFrom_121 (X4_k h1) cf_4 (Or.inl wd_165) (by decide : 12 < 17) (congrArg Value.ref (X4_r12 h1)) ?_
  refine sx_aload_n (i := 0) (j := 0) dX4_takeFrom_124 rfl rfl ?_
  refine sx_get (k := 12) (v := .ref (a0 + 9)) dX4_takeFrom_125 (X4_k h0) cf_4 (Or.inl wd_165) (by decide : 12 < 17) (congrArg Value.ref (X4_r12 h0)) ?_
  obtain ⟨z13, ez13, h⟩ := bd_e h
  refine sx_callS (avs := [.ref (a1 + 9), .ref (a0 + 9)]) (rest := []) (st1 := []) dX4_takeFrom_128 (mX6_copyRow (X4_a12 h1) (X4_a12 h0) ez13) ctX6_copyRow (Or.inr ⟨_, nw_602⟩) rfl rfl (rm_m rfl) rfl (Nat.le_of_ble_eq_true rfl) rfl ?_
  refine sx_aload_n (i := 1) (j := 1) dX4_takeFrom_131 rfl rfl ?_
  refine sx_get (k := 13) (v := .ref (a1 + 10)) dX4_takeFrom_132 (X4_k h1) cf_4 (Or.inl wd_170) (by decide : 13 < 17) (congrArg Value.ref (X4_r13 h1)) ?_
  refine sx_aload_n (i := 0) (j := 0) dX4_takeFrom_135 rfl rfl ?_
  refine sx_get (k := 13) (v := .ref (a0 + 10)) dX4_takeFrom_136 (X4_k h0) cf_4 (Or.inl wd_170) (by decide : 13 < 17) (congrArg Value.ref (X4_r13 h0)) ?_
  obtain ⟨z14, ez14, h⟩ := bd_e h
  refine sx_callS (avs := [.ref (a1 + 10), .ref (a0 + 10)]) (rest := []) (st1 := []) dX4_takeFrom_139 (mX6_copyRow (X4_a13 h1) (X4_a13 h0) ez14) ctX6_copyRow (Or.inr ⟨_, nw_602⟩) rfl rfl (rm_m rfl) rfl (Nat.le_of_ble_eq_true rfl) rfl ?_
  obtain rfl := Option.some.inj h
  exact sx_vret dX4_takeFrom_142 rfl k3.1 k3.2
set_option maxRecDepth 100000 in
set_option maxHeartbeats 4000000 in
theorem tX3_takeFrom_b40 {l : Launch} {E : Ev} {r : Option Value} {L' L : HL} {a0 : Nat} {a1 : Nat} {v2 : Int32} {z : Tn (Int32 × HL) (HL)} (h0 : isX3 E a0) (h1 : isX3 E a1) (h : fX3_takeFrom_b40 a0 a1 v2 L = some z) (k1 : ∀ s, z = .inl s → Sx l E yX3_takeFrom cX3_takeFrom 3 (none) (3) r L' 40 [(0, .ref a0), (1, .ref a1), (2, .int s.1)] [] s.2) (k2 : ∀ s, z = .inr (.inl s) → Sx l E yX3_takeFrom cX3_takeFrom 3 (none) (3) r L' 82 [] [] s.2) (k3 : ∀ v, z = .inr (.inr v) → r = none ∧ L' = v) : Sx l E yX3_takeFrom cX3_takeFrom 3 (none) (3) r L' 40 [(0, .ref a0), (1, .ref a1), (2, .int v2)] [] L := by
  unfold fX3_takeFrom_b40 at h
  refine sx_iload_n (i := 2) (j := 2) dX3_takeFrom_40 rfl rfl ?_
  refine sx_bipush (v := (8 : Int32)) dX3_takeFrom_41 (by decide) ?_
  refine sx_icmp_ge (tgt := 82) dX3_takeFrom_43 rfl (fun c5 => ?_) (fun c5 => ?_)
  · have h := if_e c5 h
    obtain rfl := Option.some.inj h
    exact sx_sub [] rfl (k2 _ rfl)
  · have h := if_n c5 h
    refine sx_aload_n (i := 1) (j := 1) dX3_takeFrom_46 rfl rfl ?_
    refine sx_get (k := 4) (v := .ref (a1 + 3)) dX3_takeFrom_47 (X3_k h1) cf_3 (Or.inl wd_223) (by decide : 4 < 6) (congrArg Value.ref (X3_r4 h1)) ?_
    refine sx_iload_n (i := 2) (j := 2) dX3_takeFrom_50 rfl rfl ?_
    obtain ⟨c6, h⟩ := gd_e h
    refine sx_aald dX3_takeFrom_51 (X3_a4 h1) c6 ((X3_w4 h1) _ (in_lt c6)).1 ?_
    refine sx_aload_n (i := 0) (j := 0) dX3_takeFrom_52 rfl rfl ?_
    refine sx_get (k := 4) (v := .ref (a0 + 3)) dX3_takeFrom_53 (X3_k h0) cf_3 (Or.inl wd_223) (by decide : 4 < 6) (congrArg Value.ref (X3_r4 h0)) ?_
    refine sx_iload_n (i := 2) (j := 2) dX3_takeFrom_56 rfl rfl ?_
    obtain ⟨c7, h⟩ := gd_e h
    refine sx_aald dX3_takeFrom_57 (X3_a4 h0) c7 ((X3_w4 h0) _ (in_lt c7)).1 ?_
    obtain ⟨z8, ez8, h⟩ := bd_e h
    refine sx_callS (avs := [.ref ((a1 + 3) + 1 + v2.toNatClampNeg), .ref ((a0 + 3) + 1 + v2.toNatClampNeg)]) (rest := []) (st1 := []) dX3_takeFrom_58 (mX6_copyRow ((X3_w4 h1) _ (in_lt c6)).2 ((X3_w4 h0) _ (in_lt c7)).2 ez8) ctX6_copyRow (Or.inr ⟨_, nw_625⟩) rfl rfl (rm_m rfl) rfl (Nat.le_of_ble_eq_true rfl) rfl ?_
    refine sx_aload_n (i := 1) (j := 1) dX3_takeFrom_61 rfl rfl ?_
    refine sx_get (k := 5) (v := .ref (a1 + 12)) dX3_takeFrom_62 (X3_k h1) cf_3 (Or.inl wd_224) (by decide : 5 < 6) (congrArg Value.ref (X3_r5 h1)) ?_
    refine sx_iload_n (i := 2) (j := 2) dX3_takeFrom_65 rfl rfl ?_
    obtain ⟨c9, h⟩ := gd_e h
    refine sx_aald dX3_takeFrom_66 (X3_a5 h1) c9 ((X3_w5 h1) _ (in_lt c9)).1 ?_
    refine sx_aload_n (i := 0) (j := 0) dX3_takeFrom_67 rfl rfl ?_
    refine sx_get (k := 5) (v := .ref (a0 + 12)) dX3_takeFrom_68 (X3_k h0) cf_3 (Or.inl wd_224) (by decide : 5 < 6) (congrArg Value.ref (X3_r5 h0)) ?_
    refine sx_iload_n (i := 2) (j := 2) dX3_takeFrom_71 rfl rfl ?_
    obtain ⟨c10, h⟩ := gd_e h
    refine sx_aald dX3_takeFrom_72 (X3_a5 h0) c10 ((X3_w5 h0) _ (in_lt c10)).1 ?_
    obtain ⟨z11, ez11, h⟩ := bd_e h
    refine sx_callS (avs := [.ref ((a1 + 12) + 1 + v2.toNatClampNeg), .ref ((a0 + 12) + 1 + v2.toNatClampNeg)]) (rest := []) (st1 := []) dX3_takeFrom_73 (mX6_copyRow ((X3_w5 h1) _ (in_lt c9)).2 ((X3_w5 h0) _ (in_lt c10)).2 ez11) ctX6_copyRow (Or.inr ⟨_, nw_625⟩) rfl rfl (rm_m rfl) rfl (Nat.le_of_ble_eq_true rfl) rfl ?_
    obtain ⟨w12, ew12⟩ : ∃ w : Int32, w = v2 + (1 : Int32) := ⟨_, rfl⟩
    have h := lt_e ew12 h
    refine sx_iinc (j := 2) (v := w12) (lv' := [(0, .ref a0), (1, .ref a1), (2, .int w12)]) dX3_takeFrom_76 rfl (ii_1 ew12) (by decide) rfl ?_
    refine sx_goto (tgt := 40) dX3_takeFrom_79 rfl ?_
    obtain rfl := Option.some.inj h
    exact sx_sub [0, 1, 2] rfl (k1 _ rfl)
set_option maxRecDepth 100000 in
set_option maxHeartbeats 4000000 in
theorem mX3_takeFrom {l : Launch} {E : Ev} {L : HL} {a0 : Nat} {a1 : Nat} {z : HL} (h0 : isX3 E a0) (h1 : isX3 E a1) (h : fX3_takeFrom a0 a1 L = some z) : Mt l E yX3_takeFrom cX3_takeFrom 3 (none) (3) [.ref a0, .ref a1] L (none) z := by
  obtain ⟨r, hr⟩ : ∃ r : Option Value, r = none := ⟨_, rfl⟩
  obtain ⟨L', hL'⟩ : ∃ L' : HL, L' = z := ⟨_, rfl⟩
  have k3 : r = none ∧ L' = z := ⟨hr, hL'⟩
  refine mt_eq hr hL' ?_
  refine Mt.of (plainFor_of_name (by decide)) (Nat.le_of_ble_eq_true rfl) ?_
  refine sx_sub (lv' := [(0, .ref a0), (1, .ref a1)]) [0, 1] rfl ?_
  unfold fX3_takeFrom at h
  refine sx_aload_n (i := 0) (j := 0) dX3_takeFrom_0 rfl rfl ?_
  refine sx_aload_n (i := 1) (j := 1) dX3_takeFrom_1 rfl rfl ?_
  refine sx_get (k := 0) (v := .int (L.1 a1 0)) dX3_takeFrom_2 (X3_k h1) cf_3 (Or.inl wd_218) (by decide : 0 < 6) rfl ?_
  refine sx_putI (k := 0) dX3_takeFrom_5 (X3_k h0) cf_3 (Or.inl wd_218) (by decide : 0 < 6) rfl rfl rfl rfl (fun L1 eL1 => ?_)
  have h := lt_e eL1 h
  refine sx_aload_n (i := 0) (j := 0) dX3_takeFrom_8 rfl rfl ?_
  refine sx_aload_n (i := 1) (j := 1) dX3_takeFrom_9 rfl rfl ?_
  refine sx_get (k := 1) (v := .int (L1.1 a1 1)) dX3_takeFrom_10 (X3_k h1) cf_3 (Or.inl wd_220) (by decide : 1 < 6) rfl ?_
  refine sx_putI (k := 1) dX3_takeFrom_13 (X3_k h0) cf_3 (Or.inl wd_220) (by decide : 1 < 6) rfl rfl rfl rfl (fun L2 eL2 => ?_)
  have h := lt_e eL2 h
  refine sx_aload_n (i := 1) (j := 1) dX3_takeFrom_16 rfl rfl ?_
  refine sx_get (k := 2) (v := .ref (a1 + 1)) dX3_takeFrom_17 (X3_k h1) cf_3 (Or.inl wd_221) (by decide : 2 < 6) (congrArg Value.ref (X3_r2 h1)) ?_
  refine sx_aload_n (i := 0) (j := 0) dX3_takeFrom_20 rfl rfl ?_
  refine sx_get (k := 2) (v := .ref (a0 + 1)) dX3_takeFrom_21 (X3_k h0) cf_3 (Or.inl wd_221) (by decide : 2 < 6) (congrArg Value.ref (X3_r2 h0)) ?_
  obtain ⟨z3, ez3, h⟩ := bd_e h
  refine sx_callS (avs := [.ref (a1 + 1), .ref (a0 + 1)]) (rest := []) (st1 := []) dX3_takeFrom_24 (mX6_copyRow (X3_a2 h1) (X3_a2 h0) ez3) ctX6_copyRow (Or.inr ⟨_, nw_625⟩) rfl rfl (rm_m rfl) rfl (Nat.le_of_ble_eq_true rfl) rfl ?_
  refine sx_aload_n (i := 1) (j := 1) dX3_takeFrom_27 rfl rfl ?_
  refine sx_get (k := 3) (v := .ref (a1 + 2)) dX3_takeFrom_28 (X3_k h1) cf_3 (Or.inl wd_222) (by decide : 3 < 6) (congrArg Value.ref (X3_r3 h1)) ?_
  refine sx_aload_n (i := 0) (j := 0) dX3_takeFrom_31 rfl rfl ?_
  refine sx_get (k := 3) (v := .ref (a0 + 2)) dX3_takeFrom_32 (X3_k h0) cf_3 (Or.inl wd_222) (by decide : 3 < 6) (congrArg Value.ref (X3_r3 h0)) ?_
  obtain ⟨z4, ez4, h⟩ := bd_e h
  refine sx_callS (avs := [.ref (a1 + 2), .ref (a0 + 2)]) (rest := []) (st1 := []) dX3_takeFrom_35 (mX6_copyRow (X3_a3 h1) (X3_a3 h0) ez4) ctX6_copyRow (Or.inr ⟨_, nw_625⟩) rfl rfl (rm_m rfl) rfl (Nat.le_of_ble_eq_true rfl) rfl ?_
  refine sx_iconst (v := (0 : Int32)) dX3_takeFrom_38 (by decide) ?_
  refine sx_istore_n (i := 2) (lv' := [(0, .ref a0), (1, .ref a1), (2, .int (0 : Int32))]) dX3_takeFrom_39 rfl (by decide) rfl ?_
  obtain ⟨x14, hx, q1, q2⟩ := lx_e h
  refine sx_sub (lv' := [(0, .ref a0), (1, .ref a1), (2, .int (0 : Int32))]) [0, 1, 2] rfl ?_
  refine lp_go (fun s13 => Sx l E yX3_takeFrom cX3_takeFrom 3 (none) (3) r L' 40 [(0, .ref a0), (1, .ref a1), (2, .int s13.1)] [] s13.2) x14 (fun s13 z2 hz c1 c2 => ?_) FU _ hx
  refine tX3_takeFrom_b40 h0 h1 hz (fun s2 e => c1 s2 e) (fun s13 e => ?_) (fun v e => ?_)
  · have h := q1 _ (c2 _ e).symm
    obtain rfl := Option.some.inj h
    exact sx_vret dX3_takeFrom_82 rfl k3.1 k3.2
  · have e2 := Option.some.inj (q2 _ (c2 _ e).symm)
    subst e2
    exact k3
set_option maxRecDepth 100000 in
set_option maxHeartbeats 4000000 in
theorem mX0_keep {l : Launch} {E : Ev} {L : HL} {a0 : Nat} {a1 : Nat} {a2 : Nat} {z : HL} (h0 : isX0 E a0) (h1 : isX4 E a1) (h2 : isX3 E a2) (h : fX0_keep a0 a1 a2 L = some z) : Mt l E yX0_keep cX0_keep 3 (none) (4) [.ref a0, .ref a1, .ref a2] L (none) z := by
  obtain ⟨r, hr⟩ : ∃ r : Option Value, r = none := ⟨_, rfl⟩
  obtain ⟨L', hL'⟩ : ∃ L' : HL, L' = z := ⟨_, rfl⟩
  have k3 : r = none ∧ L' = z := ⟨hr, hL'⟩
  refine mt_eq hr hL' ?_
  refine Mt.of (plainFor_of_name (by decide)) (Nat.le_of_ble_eq_true rfl) ?_
  refine sx_sub (lv' := [(0, .ref a0), (1, .ref a1), (2, .ref a2)]) [0, 1, 2] rfl ?_
  unfold fX0_keep at h
  refine sx_aload_n (i := 0) (j := 0) dX0_keep_0 rfl rfl ?_
  refine sx_get (k := 1) (v := .ref (a0 + 1)) dX0_keep_1 (X0_k h0) cf_0 (Or.inl wd_250) (by decide : 1 < 3) (congrArg Value.ref (X0_r1 h0)) ?_
  refine sx_aload_n (i := 1) (j := 1) dX0_keep_4 rfl rfl ?_
  obtain ⟨z1, ez1, h⟩ := bd_e h
  refine sx_callV (avs := [.ref a1]) (rest := []) (st1 := []) dX0_keep_5 (mX4_takeFrom (X0_o1 h0) h1 ez1) ciX4_takeFrom (Or.inr ⟨_, nw_902⟩) (X4_k (X0_o1 h0)) rfl rfl rfl rfl (rm_m rfl) rfl (Nat.le_of_ble_eq_true rfl) rfl ?_
  refine sx_aload_n (i := 0) (j := 0) dX0_keep_8 rfl rfl ?_
  refine sx_get (k := 2) (v := .ref (a0 + 15)) dX0_keep_9 (X0_k h0) cf_0 (Or.inl wd_251) (by decide : 2 < 3) (congrArg Value.ref (X0_r2 h0)) ?_
  refine sx_aload_n (i := 2) (j := 2) dX0_keep_12 rfl rfl ?_
  obtain ⟨z2, ez2, h⟩ := bd_e h
  refine sx_callV (avs := [.ref a2]) (rest := []) (st1 := []) dX0_keep_13 (mX3_takeFrom (X0_o2 h0) h2 ez2) ciX3_takeFrom (Or.inr ⟨_, nw_903⟩) (X3_k (X0_o2 h0)) rfl rfl rfl rfl (rm_m rfl) rfl (Nat.le_of_ble_eq_true rfl) rfl ?_
  refine sx_aload_n (i := 0) (j := 0) dX0_keep_16 rfl rfl ?_
  refine sx_iconst (v := (1 : Int32)) dX0_keep_17 (by decide) ?_
  refine sx_putI (k := 0) dX0_keep_18 (X0_k h0) cf_0 (Or.inl wd_248) (by decide : 0 < 3) rfl (by decide) rfl rfl (fun L3 eL3 => ?_)
  have h := lt_e eL3 h
  obtain rfl := Option.some.inj h
  exact sx_vret dX0_keep_21 rfl k3.1 k3.2
set_option maxRecDepth 100000 in
set_option maxHeartbeats 4000000 in
theorem mX0_giveBack {l : Launch} {E : Ev} {L : HL} {a0 : Nat} {a1 : Nat} {a2 : Nat} {z : HL} (h0 : isX0 E a0) (h1 : isX4 E a1) (h2 : isX3 E a2) (h : fX0_giveBack a0 a1 a2 L = some z) : Mt l E yX0_giveBack cX0_giveBack 3 (none) (4) [.ref a0, .ref a1, .ref a2] L (none) z := by
  obtain ⟨r, hr⟩ : ∃ r : Option Value, r = none := ⟨_, rfl⟩
  obtain ⟨L', hL'⟩ : ∃ L' : HL, L' = z := ⟨_, rfl⟩
  have k3 : r = none ∧ L' = z := ⟨hr, hL'⟩
  refine mt_eq hr hL' ?_
  refine Mt.of (plainFor_of_name (by decide)) (Nat.le_of_ble_eq_true rfl) ?_
  refine sx_sub (lv' := [(0, .ref a0), (1, .ref a1), (2, .ref a2)]) [0, 1, 2] rfl ?_
  unfold fX0_giveBack at h
  refine sx_aload_n (i := 1) (j := 1) dX0_giveBack_0 rfl rfl ?_
  refine sx_aload_n (i := 0) (j := 0) dX0_giveBack_1 rfl rfl ?_
  refine sx_get (k := 1) (v := .ref (a0 + 1)) dX0_giveBack_2 (X0_k h0) cf_0 (Or.inl wd_250) (by decide : 1 < 3) (congrArg Value.ref (X0_r1 h0)) ?_
  obtain ⟨z1, ez1, h⟩ := bd_e h
  refine sx_callV (avs := [.ref (a0 + 1)]) (rest := []) (st1 := []) dX0_giveBack_5 (mX4_takeFrom h1 (X0_o1 h0) ez1) ciX4_takeFrom (Or.inr ⟨_, nw_902⟩) (X4_k h1) rfl rfl rfl rfl (rm_m rfl) rfl (Nat.le_of_ble_eq_true rfl) rfl ?_
  refine sx_aload_n (i := 2) (j := 2) dX0_giveBack_8 rfl rfl ?_
  refine sx_aload_n (i := 0) (j := 0) dX0_giveBack_9 rfl rfl ?_
  refine sx_get (k := 2) (v := .ref (a0 + 15)) dX0_giveBack_10 (X0_k h0) cf_0 (Or.inl wd_251) (by decide : 2 < 3) (congrArg Value.ref (X0_r2 h0)) ?_
  obtain ⟨z2, ez2, h⟩ := bd_e h
  refine sx_callV (avs := [.ref (a0 + 15)]) (rest := []) (st1 := []) dX0_giveBack_13 (mX3_takeFrom h2 (X0_o2 h0) ez2) ciX3_takeFrom (Or.inr ⟨_, nw_903⟩) (X3_k h2) rfl rfl rfl rfl (rm_m rfl) rfl (Nat.le_of_ble_eq_true rfl) rfl ?_
  obtain rfl := Option.some.inj h
  exact sx_vret dX0_giveBack_16 rfl k3.1 k3.2
set_option maxRecDepth 100000 in
set_option maxHeartbeats 4000000 in
theorem mX4_stands {l : Launch} {E : Ev} {L : HL} {a0 : Nat} {v1 : Int32} {z : Int32} (h0 : isX4 E a0) (h : fX4_stands a0 v1 L = some z) : Mt l E yX4_stands cX4_stands 2 (some .boolean) (1) [.ref a0, .int v1] L (some (.int z)) L := by
  obtain ⟨r, hr⟩ : ∃ r : Option Value, r = some (.int z) := ⟨_, rfl⟩
  obtain ⟨L', hL'⟩ : ∃ L' : HL, L' = L := ⟨_, rfl⟩
  have k3 : r = some (.int z) ∧ L' = L := ⟨hr, hL'⟩
  refine mt_eq hr hL' ?_
  refine Mt.of (plainFor_of_name (by decide)) (Nat.le_of_ble_eq_true rfl) ?_
  refine sx_sub (lv' := [(0, .ref a0), (1, .int v1)]) [0, 1] rfl ?_
  unfold fX4_stands at h
  refine sx_iload_n (i := 1) (j := 1) dX4_stands_0 rfl rfl ?_
  refine sx_if_lt (tgt := 25) dX4_stands_1 rfl (fun c1 => ?_) (fun c1 => ?_)
  · have h := if_e c1 h
    refine sx_iconst (v := (0 : Int32)) dX4_stands_25 (by decide) ?_
    obtain rfl := Option.some.inj h
    exact sx_iret dX4_stands_26 rfl (by decide) k3.1 k3.2
  · have h := if_n c1 h
    refine sx_iload_n (i := 1) (j := 1) dX4_stands_4 rfl rfl ?_
    refine sx_iconst (v := (5 : Int32)) dX4_stands_5 (by decide) ?_
    refine sx_icmp_ge (tgt := 25) dX4_stands_6 rfl (fun c2 => ?_) (fun c2 => ?_)
    · have h := if_e c2 h
      refine sx_iconst (v := (0 : Int32)) dX4_stands_25 (by decide) ?_
      obtain rfl := Option.some.inj h
      exact sx_iret dX4_stands_26 rfl (by decide) k3.1 k3.2
    · have h := if_n c2 h
      refine sx_aload_n (i := 0) (j := 0) dX4_stands_9 rfl rfl ?_
      refine sx_get (k := 1) (v := .int (L.1 a0 1)) dX4_stands_10 (X4_k h0) cf_4 (Or.inl wd_136) (by decide : 1 < 17) rfl ?_
      refine sx_iload_n (i := 1) (j := 1) dX4_stands_13 rfl rfl ?_
      refine sx_ishr dX4_stands_14 ?_
      refine sx_iconst (v := (1 : Int32)) dX4_stands_15 (by decide) ?_
      refine sx_iand dX4_stands_16 ?_
      refine sx_iconst (v := (1 : Int32)) dX4_stands_17 (by decide) ?_
      refine sx_icmp_ne (tgt := 25) dX4_stands_18 rfl (fun c3 => ?_) (fun c3 => ?_)
      · have h := if_e c3 h
        refine sx_iconst (v := (1 : Int32)) dX4_stands_21 (by decide) ?_
        refine sx_goto (tgt := 26) dX4_stands_22 rfl ?_
        obtain rfl := Option.some.inj h
        exact sx_iret dX4_stands_26 rfl (by decide) k3.1 k3.2
      · have h := if_n c3 h
        refine sx_iconst (v := (0 : Int32)) dX4_stands_25 (by decide) ?_
        obtain rfl := Option.some.inj h
        exact sx_iret dX4_stands_26 rfl (by decide) k3.1 k3.2
set_option maxRecDepth 100000 in
set_option maxHeartbeats 4000000 in
theorem tX4_isQuiet_b2 {l : Launch} {E : Ev} {r : Option Value} {L' L : HL} {a0 : Nat} {v1 : Int32} {v2 : Int32} {v3 : Int32} {z : Tn (Int32) (Int32)} (h0 : isX4 E a0) (h : fX4_isQuiet_b2 a0 v1 v2 v3 L = some z) (k1 : ∀ s, z = .inl s → Sx l E yX4_isQuiet cX4_isQuiet 4 (some .boolean) (1) r L' 2 [(0, .ref a0), (1, .int v1), (2, .int v2), (3, .int s)] [] L) (k2 : ∀ s, z = .inr (.inl s) → Sx l E yX4_isQuiet cX4_isQuiet 4 (some .boolean) (1) r L' 35 [] [] L) (k3 : ∀ v, z = .inr (.inr v) → r = some (.int v) ∧ L' = L) : Sx l E yX4_isQuiet cX4_isQuiet 4 (some .boolean) (1) r L' 2 [(0, .ref a0), (1, .int v1), (2, .int v2), (3, .int v3)] [] L := by
  unfold fX4_isQuiet_b2 at h
  refine sx_iload_n (i := 3) (j := 3) dX4_isQuiet_2 rfl rfl ?_
  refine sx_iconst (v := (4 : Int32)) dX4_isQuiet_3 (by decide) ?_
  refine sx_icmp_ge (tgt := 35) dX4_isQuiet_4 rfl (fun c1 => ?_) (fun c1 => ?_)
  · have h := if_e c1 h
    obtain rfl := Option.some.inj h
    exact sx_sub [] rfl (k2 _ rfl)
  · have h := if_n c1 h
    refine sx_iload_n (i := 1) (j := 1) dX4_isQuiet_7 rfl rfl ?_
    refine sx_iload_n (i := 3) (j := 3) dX4_isQuiet_8 rfl rfl ?_
    refine sx_ishr dX4_isQuiet_9 ?_
    refine sx_iconst (v := (1 : Int32)) dX4_isQuiet_10 (by decide) ?_
    refine sx_iand dX4_isQuiet_11 ?_
    refine sx_iconst (v := (1 : Int32)) dX4_isQuiet_12 (by decide) ?_
    refine sx_icmp_ne (tgt := 29) dX4_isQuiet_13 rfl (fun c2 => ?_) (fun c2 => ?_)
    · have h := if_e c2 h
      refine sx_aload_n (i := 0) (j := 0) dX4_isQuiet_16 rfl rfl ?_
      refine sx_get (k := 13) (v := .ref (a0 + 10)) dX4_isQuiet_17 (X4_k h0) cf_4 (Or.inl wd_170) (by decide : 13 < 17) (congrArg Value.ref (X4_r13 h0)) ?_
      refine sx_iload_n (i := 3) (j := 3) dX4_isQuiet_20 rfl rfl ?_
      obtain ⟨c3, h⟩ := gd_e h
      refine sx_iald dX4_isQuiet_21 (X4_a13 h0) c3 ?_
      refine sx_iload_n (i := 2) (j := 2) dX4_isQuiet_22 rfl rfl ?_
      refine sx_iand dX4_isQuiet_23 ?_
      refine sx_if_eq (tgt := 29) dX4_isQuiet_24 rfl (fun c4 => ?_) (fun c4 => ?_)
      · have h := if_e c4 h
        obtain ⟨w5, ew5⟩ : ∃ w : Int32, w = v3 + (1 : Int32) := ⟨_, rfl⟩
        have h := lt_e ew5 h
        refine sx_iinc (j := 3) (v := w5) (lv' := [(0, .ref a0), (1, .int v1), (2, .int v2), (3, .int w5)]) dX4_isQuiet_29 rfl (ii_1 ew5) (by decide) rfl ?_
        refine sx_goto (tgt := 2) dX4_isQuiet_32 rfl ?_
        obtain rfl := Option.some.inj h
        exact sx_sub [0, 1, 2, 3] rfl (k1 _ rfl)
      · have h := if_n c4 h
        refine sx_iconst (v := (0 : Int32)) dX4_isQuiet_27 (by decide) ?_
        obtain rfl := Option.some.inj h
        exact sx_iret dX4_isQuiet_28 rfl (by decide) (k3 _ rfl).1 (k3 _ rfl).2
    · have h := if_n c2 h
      obtain ⟨w6, ew6⟩ : ∃ w : Int32, w = v3 + (1 : Int32) := ⟨_, rfl⟩
      have h := lt_e ew6 h
      refine sx_iinc (j := 3) (v := w6) (lv' := [(0, .ref a0), (1, .int v1), (2, .int v2), (3, .int w6)]) dX4_isQuiet_29 rfl (ii_1 ew6) (by decide) rfl ?_
      refine sx_goto (tgt := 2) dX4_isQuiet_32 rfl ?_
      obtain rfl := Option.some.inj h
      exact sx_sub [0, 1, 2, 3] rfl (k1 _ rfl)
set_option maxRecDepth 100000 in
set_option maxHeartbeats 4000000 in
theorem mX4_isQuiet {l : Launch} {E : Ev} {L : HL} {a0 : Nat} {v1 : Int32} {v2 : Int32} {z : Int32} (h0 : isX4 E a0) (h : fX4_isQuiet a0 v1 v2 L = some z) : Mt l E yX4_isQuiet cX4_isQuiet 4 (some .boolean) (1) [.ref a0, .int v1, .int v2] L (some (.int z)) L := by
  obtain ⟨r, hr⟩ : ∃ r : Option Value, r = some (.int z) := ⟨_, rfl⟩
  obtain ⟨L', hL'⟩ : ∃ L' : HL, L' = L := ⟨_, rfl⟩
  have k3 : r = some (.int z) ∧ L' = L := ⟨hr, hL'⟩
  refine mt_eq hr hL' ?_
  refine Mt.of (plainFor_of_name (by decide)) (Nat.le_of_ble_eq_true rfl) ?_
  refine sx_sub (lv' := [(0, .ref a0), (1, .int v1), (2, .int v2)]) [0, 1, 2] rfl ?_
  unfold fX4_isQuiet at h
  refine sx_iconst (v := (0 : Int32)) dX4_isQuiet_0 (by decide) ?_
  refine sx_istore_n (i := 3) (lv' := [(0, .ref a0), (1, .int v1), (2, .int v2), (3, .int (0 : Int32))]) dX4_isQuiet_1 rfl (by decide) rfl ?_
  obtain ⟨x8, hx, q1, q2⟩ := lx_e h
  refine sx_sub (lv' := [(0, .ref a0), (1, .int v1), (2, .int v2), (3, .int (0 : Int32))]) [0, 1, 2, 3] rfl ?_
  refine lp_go (fun s7 => Sx l E yX4_isQuiet cX4_isQuiet 4 (some .boolean) (1) r L' 2 [(0, .ref a0), (1, .int v1), (2, .int v2), (3, .int s7)] [] L) x8 (fun s7 z2 hz c1 c2 => ?_) FU _ hx
  refine tX4_isQuiet_b2 h0 hz (fun s2 e => c1 s2 e) (fun s7 e => ?_) (fun v e => ?_)
  · have h := q1 _ (c2 _ e).symm
    refine sx_iconst (v := (1 : Int32)) dX4_isQuiet_35 (by decide) ?_
    obtain rfl := Option.some.inj h
    exact sx_iret dX4_isQuiet_36 rfl (by decide) k3.1 k3.2
  · have e2 := Option.some.inj (q2 _ (c2 _ e).symm)
    subst e2
    exact k3
set_option maxRecDepth 100000 in
set_option maxHeartbeats 4000000 in
theorem mX1_mayLive {l : Launch} {E : Ev} {L : HL} {a0 : Nat} {a1 : Nat} {v2 : Int32} {v3 : Int32} {z : Int32} (h0 : isX1 E a0) (h1 : isX4 E a1) (h : fX1_mayLive a0 a1 v2 v3 L = some z) : Mt l E yX1_mayLive cX1_mayLive 4 (some .boolean) (2) [.ref a0, .ref a1, .int v2, .int v3] L (some (.int z)) L := by
  obtain ⟨r, hr⟩ : ∃ r : Option Value, r = some (.int z) := ⟨_, rfl⟩
  obtain ⟨L', hL'⟩ : ∃ L' : HL, L' = L := ⟨_, rfl⟩
  have k3 : r = some (.int z) ∧ L' = L := ⟨hr, hL'⟩
  refine mt_eq hr hL' ?_
  refine Mt.of (plainFor_of_name (by decide)) (Nat.le_of_ble_eq_true rfl) ?_
  refine sx_sub (lv' := [(0, .ref a0), (1, .ref a1), (2, .int v2), (3, .int v3)]) [0, 1, 2, 3] rfl ?_
  unfold fX1_mayLive at h
  refine sx_aload_n (i := 1) (j := 1) dX1_mayLive_0 rfl rfl ?_
  refine sx_iload_n (i := 3) (j := 3) dX1_mayLive_1 rfl rfl ?_
  obtain ⟨z1, ez1, h⟩ := bd_e h
  refine sx_callV (avs := [.int v3]) (rest := []) (st1 := [.int z1]) dX1_mayLive_2 (mX4_stands h1 ez1) ciX4_stands (Or.inr ⟨_, nw_826⟩) (X4_k h1) rfl rfl rfl rfl (rm_m rfl) rfl (Nat.le_of_ble_eq_true rfl) rfl ?_
  refine sx_if_eq (tgt := 48) dX1_mayLive_5 rfl (fun c2 => ?_) (fun c2 => ?_)
  · have h := if_e c2 h
    refine sx_iconst (v := (0 : Int32)) dX1_mayLive_48 (by decide) ?_
    obtain rfl := Option.some.inj h
    exact sx_iret dX1_mayLive_49 rfl (by decide) k3.1 k3.2
  · have h := if_n c2 h
    refine sx_aload_n (i := 0) (j := 0) dX1_mayLive_8 rfl rfl ?_
    refine sx_get (k := 0) (v := .ref (a0 + 1)) dX1_mayLive_9 (X1_k h0) cf_1 (Or.inl wd_329) (by decide : 0 < 3) (congrArg Value.ref (X1_r0 h0)) ?_
    refine sx_iload_n (i := 3) (j := 3) dX1_mayLive_12 rfl rfl ?_
    obtain ⟨c3, h⟩ := gd_e h
    refine sx_iald dX1_mayLive_13 (X1_a0 h0) c3 ?_
    refine sx_aload_n (i := 1) (j := 1) dX1_mayLive_14 rfl rfl ?_
    refine sx_get (k := 4) (v := .ref (a1 + 1)) dX1_mayLive_15 (X4_k h1) cf_4 (Or.inr ⟨_, nw_147⟩) (by decide : 4 < 17) (congrArg Value.ref (X4_r4 h1)) ?_
    refine sx_iload_n (i := 3) (j := 3) dX1_mayLive_18 rfl rfl ?_
    obtain ⟨c4, h⟩ := gd_e h
    refine sx_iald dX1_mayLive_19 (X4_a4 h1) c4 ?_
    refine sx_icmp_ge (tgt := 48) dX1_mayLive_20 rfl (fun c5 => ?_) (fun c5 => ?_)
    · have h := if_e c5 h
      refine sx_iconst (v := (0 : Int32)) dX1_mayLive_48 (by decide) ?_
      obtain rfl := Option.some.inj h
      exact sx_iret dX1_mayLive_49 rfl (by decide) k3.1 k3.2
    · have h := if_n c5 h
      refine sx_aload_n (i := 1) (j := 1) dX1_mayLive_23 rfl rfl ?_
      refine sx_iconst (v := (1 : Int32)) dX1_mayLive_24 (by decide) ?_
      refine sx_aload_n (i := 1) (j := 1) dX1_mayLive_25 rfl rfl ?_
      refine sx_get (k := 11) (v := .ref (a1 + 8)) dX1_mayLive_26 (X4_k h1) cf_4 (Or.inr ⟨_, nw_163⟩) (by decide : 11 < 17) (congrArg Value.ref (X4_r11 h1)) ?_
      refine sx_iload_n (i := 2) (j := 2) dX1_mayLive_29 rfl rfl ?_
      obtain ⟨c6, h⟩ := gd_e h
      refine sx_iald dX1_mayLive_30 (X4_a11 h1) c6 ?_
      refine sx_ishl dX1_mayLive_31 ?_
      refine sx_aload_n (i := 0) (j := 0) dX1_mayLive_32 rfl rfl ?_
      refine sx_get (k := 1) (v := .ref (a0 + 2)) dX1_mayLive_33 (X1_k h0) cf_1 (Or.inl wd_330) (by decide : 1 < 3) (congrArg Value.ref (X1_r1 h0)) ?_
      refine sx_iload_n (i := 3) (j := 3) dX1_mayLive_36 rfl rfl ?_
      obtain ⟨c7, h⟩ := gd_e h
      refine sx_iald dX1_mayLive_37 (X1_a1 h0) c7 ?_
      obtain ⟨z8, ez8, h⟩ := bd_e h
      refine sx_callV (avs := [.int ((1 : Int32) <<< ((L.1 (a1 + 8) v2.toNatClampNeg) &&& 31)), .int (L.1 (a0 + 2) v3.toNatClampNeg)]) (rest := []) (st1 := [.int z8]) dX1_mayLive_38 (mX4_isQuiet h1 ez8) ciX4_isQuiet (Or.inr ⟨_, nw_827⟩) (X4_k h1) rfl rfl rfl rfl (rm_m rfl) rfl (Nat.le_of_ble_eq_true rfl) rfl ?_
      refine sx_if_eq (tgt := 48) dX1_mayLive_41 rfl (fun c9 => ?_) (fun c9 => ?_)
      · have h := if_e c9 h
        refine sx_iconst (v := (0 : Int32)) dX1_mayLive_48 (by decide) ?_
        obtain rfl := Option.some.inj h
        exact sx_iret dX1_mayLive_49 rfl (by decide) k3.1 k3.2
      · have h := if_n c9 h
        refine sx_iconst (v := (1 : Int32)) dX1_mayLive_44 (by decide) ?_
        refine sx_goto (tgt := 49) dX1_mayLive_45 rfl ?_
        obtain rfl := Option.some.inj h
        exact sx_iret dX1_mayLive_49 rfl (by decide) k3.1 k3.2
set_option maxRecDepth 100000 in
set_option maxHeartbeats 4000000 in
theorem tX1_lodge_j113 {l : Launch} {E : Ev} {r : Option Value} {L' L : HL} {k : Nat} {rec : Nat → Nat → Int32 → Int32 → HL → Option (Int32 × HL)} {a0 : Nat} {a1 : Nat} {v2 : Int32} {v3 : Int32} {v4 : Int32} {v5 : Int32} {s2 : Int32} {s3 : Int32} {s4 : Int32} (hrec : ∀ (a0 : Nat) (a1 : Nat) (v2 : Int32) (v3 : Int32) (L : HL) (z : Int32 × HL), isX1 E a0 → isX4 E a1 → rec a0 a1 v2 v3 L = some z → Mt l E yX1_lodge cX1_lodge 6 (some .boolean) (3 + k) [.ref a0, .ref a1, .int v2, .int v3] L (some (.int z.1)) (z.2)) {z : Tn (Int32 × HL) (Int32 × HL)} (h0 : isX1 E a0) (h1 : isX4 E a1) (h : fX1_lodge_j113 rec a0 a1 v2 v3 v4 v5 s2 s3 s4 L = some z) (k1 : ∀ s, z = .inl s → Sx l E yX1_lodge cX1_lodge 6 (some .boolean) (3 + k + 1) r L' 25 [(0, .ref a0), (1, .ref a1), (2, .int v2), (3, .int v3), (4, .int s.1)] [] s.2) (k2 : ∀ s, z = .inr (.inl s) → Sx l E yX1_lodge cX1_lodge 6 (some .boolean) (3 + k + 1) r L' 148 [] [] s.2) (k3 : ∀ v, z = .inr (.inr v) → r = some (.int v.1) ∧ L' = v.2) : Sx l E yX1_lodge cX1_lodge 6 (some .boolean) (3 + k + 1) r L' 113 [(0, .ref a0), (1, .ref a1), (2, .int v2), (3, .int v3), (4, .int v4), (5, .int v5)] [.int s4, .int s3, .int s2, .ref a1, .ref a0] L := by
  unfold fX1_lodge_j113 at h
  refine sx_isub dX1_lodge_113 ?_
  obtain ⟨z21, ez21, h⟩ := bd_e h
  refine sx_callS (avs := [.ref a0, .ref a1, .int s2, .int (s3 - s4)]) (rest := []) (st1 := [.int z21.1]) dX1_lodge_114 (hrec _ _ _ _ _ _ h0 h1 ez21) ctX1_lodge (Or.inl wd_819) rfl rfl (rm_m (ble_of (by omega))) rfl (Nat.le_of_ble_eq_true rfl) rfl ?_
  refine sx_if_eq (tgt := 122) dX1_lodge_117 rfl (fun c22 => ?_) (fun c22 => ?_)
  · have h := if_e c22 h
    refine sx_aload_n (i := 0) (j := 0) dX1_lodge_122 rfl rfl ?_
    refine sx_get (k := 0) (v := .ref (a0 + 1)) dX1_lodge_123 (X1_k h0) cf_1 (Or.inl wd_329) (by decide : 0 < 3) (congrArg Value.ref (X1_r0 h0)) ?_
    refine sx_iload (j := 4) dX1_lodge_126 rfl ?_
    refine sx_dup2 dX1_lodge_128 rfl rfl ?_
    obtain ⟨c23, h⟩ := gd_e h
    refine sx_iald dX1_lodge_129 (X1_a0 h0) c23 ?_
    refine sx_iconst (v := (1 : Int32)) dX1_lodge_130 (by decide) ?_
    refine sx_isub dX1_lodge_131 ?_
    obtain ⟨c24, h⟩ := gd_e h
    refine sx_iast dX1_lodge_132 (X1_a0 h0) c24 (fun L25 eL25 => ?_)
    have h := lt_e eL25 h
    refine sx_aload_n (i := 0) (j := 0) dX1_lodge_133 rfl rfl ?_
    refine sx_get (k := 1) (v := .ref (a0 + 2)) dX1_lodge_134 (X1_k h0) cf_1 (Or.inl wd_330) (by decide : 1 < 3) (congrArg Value.ref (X1_r1 h0)) ?_
    refine sx_iload (j := 4) dX1_lodge_137 rfl ?_
    refine sx_iload (j := 5) dX1_lodge_139 rfl ?_
    obtain ⟨c26, h⟩ := gd_e h
    refine sx_iast dX1_lodge_141 (X1_a1 h0) c26 (fun L27 eL27 => ?_)
    have h := lt_e eL27 h
    obtain ⟨w28, ew28⟩ : ∃ w : Int32, w = v4 + (1 : Int32) := ⟨_, rfl⟩
    have h := lt_e ew28 h
    refine sx_iinc (j := 4) (v := w28) (lv' := [(0, .ref a0), (1, .ref a1), (2, .int v2), (3, .int v3), (4, .int w28), (5, .int v5)]) dX1_lodge_142 rfl (ii_1 ew28) (by decide) rfl ?_
    refine sx_goto (tgt := 25) dX1_lodge_145 rfl ?_
    obtain rfl := Option.some.inj h
    exact sx_sub [0, 1, 2, 3, 4] rfl (k1 _ rfl)
  · have h := if_n c22 h
    refine sx_iconst (v := (1 : Int32)) dX1_lodge_120 (by decide) ?_
    obtain rfl := Option.some.inj h
    exact sx_iret dX1_lodge_121 rfl (by decide) (k3 _ rfl).1 (k3 _ rfl).2
set_option maxRecDepth 100000 in
set_option maxHeartbeats 4000000 in
theorem tX1_lodge_b25 {l : Launch} {E : Ev} {r : Option Value} {L' L : HL} {k : Nat} {rec : Nat → Nat → Int32 → Int32 → HL → Option (Int32 × HL)} {a0 : Nat} {a1 : Nat} {v2 : Int32} {v3 : Int32} {v4 : Int32} (hrec : ∀ (a0 : Nat) (a1 : Nat) (v2 : Int32) (v3 : Int32) (L : HL) (z : Int32 × HL), isX1 E a0 → isX4 E a1 → rec a0 a1 v2 v3 L = some z → Mt l E yX1_lodge cX1_lodge 6 (some .boolean) (3 + k) [.ref a0, .ref a1, .int v2, .int v3] L (some (.int z.1)) (z.2)) {z : Tn (Int32 × HL) (Int32 × HL)} (h0 : isX1 E a0) (h1 : isX4 E a1) (h : fX1_lodge_b25 rec a0 a1 v2 v3 v4 L = some z) (k1 : ∀ s, z = .inl s → Sx l E yX1_lodge cX1_lodge 6 (some .boolean) (3 + k + 1) r L' 25 [(0, .ref a0), (1, .ref a1), (2, .int v2), (3, .int v3), (4, .int s.1)] [] s.2) (k2 : ∀ s, z = .inr (.inl s) → Sx l E yX1_lodge cX1_lodge 6 (some .boolean) (3 + k + 1) r L' 148 [] [] s.2) (k3 : ∀ v, z = .inr (.inr v) → r = some (.int v.1) ∧ L' = v.2) : Sx l E yX1_lodge cX1_lodge 6 (some .boolean) (3 + k + 1) r L' 25 [(0, .ref a0), (1, .ref a1), (2, .int v2), (3, .int v3), (4, .int v4)] [] L := by
  unfold fX1_lodge_b25 at h
  refine sx_iload (j := 4) dX1_lodge_25 rfl ?_
  refine sx_aload_n (i := 1) (j := 1) dX1_lodge_27 rfl rfl ?_
  refine sx_get (k := 0) (v := .int (L.1 a1 0)) dX1_lodge_28 (X4_k h1) cf_4 (Or.inr ⟨_, nw_135⟩) (by decide : 0 < 17) rfl ?_
  refine sx_icmp_ge (tgt := 148) dX1_lodge_31 rfl (fun c4 => ?_) (fun c4 => ?_)
  · have h := if_e c4 h
    obtain rfl := Option.some.inj h
    exact sx_sub [] rfl (k2 _ rfl)
  · have h := if_n c4 h
    refine sx_aload_n (i := 0) (j := 0) dX1_lodge_34 rfl rfl ?_
    refine sx_aload_n (i := 1) (j := 1) dX1_lodge_35 rfl rfl ?_
    refine sx_iload_n (i := 2) (j := 2) dX1_lodge_36 rfl rfl ?_
    refine sx_iload (j := 4) dX1_lodge_37 rfl ?_
    obtain ⟨z5, ez5, h⟩ := bd_e h
    refine sx_callV (avs := [.ref a1, .int v2, .int v4]) (rest := []) (st1 := [.int z5]) dX1_lodge_39 (mX1_mayLive h0 h1 ez5) ciX1_mayLive (Or.inl wd_822) (X1_k h0) rfl rfl rfl rfl (rm_m (ble_of (by omega))) rfl (Nat.le_of_ble_eq_true rfl) rfl ?_
    refine sx_if_eq (tgt := 142) dX1_lodge_42 rfl (fun c6 => ?_) (fun c6 => ?_)
    · have h := if_e c6 h
      obtain ⟨w7, ew7⟩ : ∃ w : Int32, w = v4 + (1 : Int32) := ⟨_, rfl⟩
      have h := lt_e ew7 h
      refine sx_iinc (j := 4) (v := w7) (lv' := [(0, .ref a0), (1, .ref a1), (2, .int v2), (3, .int v3), (4, .int w7)]) dX1_lodge_142 rfl (ii_1 ew7) (by decide) rfl ?_
      refine sx_goto (tgt := 25) dX1_lodge_145 rfl ?_
      obtain rfl := Option.some.inj h
      exact sx_sub [0, 1, 2, 3, 4] rfl (k1 _ rfl)
    · have h := if_n c6 h
      refine sx_aload_n (i := 0) (j := 0) dX1_lodge_45 rfl rfl ?_
      refine sx_get (k := 1) (v := .ref (a0 + 2)) dX1_lodge_46 (X1_k h0) cf_1 (Or.inl wd_330) (by decide : 1 < 3) (congrArg Value.ref (X1_r1 h0)) ?_
      refine sx_iload (j := 4) dX1_lodge_49 rfl ?_
      obtain ⟨c8, h⟩ := gd_e h
      refine sx_iald dX1_lodge_51 (X1_a1 h0) c8 ?_
      refine sx_topi (fun w9 ew9 => ?_)
      have h := lt_e ew9 h
      refine sx_istore (lv' := [(0, .ref a0), (1, .ref a1), (2, .int v2), (3, .int v3), (4, .int v4), (5, .int w9)]) dX1_lodge_52 (by decide) rfl ?_
      refine sx_aload_n (i := 0) (j := 0) dX1_lodge_54 rfl rfl ?_
      refine sx_get (k := 1) (v := .ref (a0 + 2)) dX1_lodge_55 (X1_k h0) cf_1 (Or.inl wd_330) (by decide : 1 < 3) (congrArg Value.ref (X1_r1 h0)) ?_
      refine sx_iload (j := 4) dX1_lodge_58 rfl ?_
      refine sx_dup2 dX1_lodge_60 rfl rfl ?_
      obtain ⟨c10, h⟩ := gd_e h
      refine sx_iald dX1_lodge_61 (X1_a1 h0) c10 ?_
      refine sx_iconst (v := (1 : Int32)) dX1_lodge_62 (by decide) ?_
      refine sx_aload_n (i := 1) (j := 1) dX1_lodge_63 rfl rfl ?_
      refine sx_get (k := 11) (v := .ref (a1 + 8)) dX1_lodge_64 (X4_k h1) cf_4 (Or.inr ⟨_, nw_163⟩) (by decide : 11 < 17) (congrArg Value.ref (X4_r11 h1)) ?_
      refine sx_iload_n (i := 2) (j := 2) dX1_lodge_67 rfl rfl ?_
      obtain ⟨c11, h⟩ := gd_e h
      refine sx_iald dX1_lodge_68 (X4_a11 h1) c11 ?_
      refine sx_ishl dX1_lodge_69 ?_
      refine sx_ior dX1_lodge_70 ?_
      obtain ⟨c12, h⟩ := gd_e h
      refine sx_iast dX1_lodge_71 (X1_a1 h0) c12 (fun L13 eL13 => ?_)
      have h := lt_e eL13 h
      refine sx_aload_n (i := 0) (j := 0) dX1_lodge_72 rfl rfl ?_
      refine sx_get (k := 0) (v := .ref (a0 + 1)) dX1_lodge_73 (X1_k h0) cf_1 (Or.inl wd_329) (by decide : 0 < 3) (congrArg Value.ref (X1_r0 h0)) ?_
      refine sx_iload (j := 4) dX1_lodge_76 rfl ?_
      refine sx_dup2 dX1_lodge_78 rfl rfl ?_
      obtain ⟨c14, h⟩ := gd_e h
      refine sx_iald dX1_lodge_79 (X1_a0 h0) c14 ?_
      refine sx_iconst (v := (1 : Int32)) dX1_lodge_80 (by decide) ?_
      refine sx_iadd dX1_lodge_81 ?_
      obtain ⟨c15, h⟩ := gd_e h
      refine sx_iast dX1_lodge_82 (X1_a0 h0) c15 (fun L16 eL16 => ?_)
      have h := lt_e eL16 h
      refine sx_aload_n (i := 0) (j := 0) dX1_lodge_83 rfl rfl ?_
      refine sx_get (k := 2) (v := .ref (a0 + 3)) dX1_lodge_84 (X1_k h0) cf_1 (Or.inl wd_331) (by decide : 2 < 3) (congrArg Value.ref (X1_r2 h0)) ?_
      refine sx_iload_n (i := 2) (j := 2) dX1_lodge_87 rfl rfl ?_
      refine sx_iload (j := 4) dX1_lodge_88 rfl ?_
      obtain ⟨c17, h⟩ := gd_e h
      refine sx_iast dX1_lodge_90 (X1_a2 h0) c17 (fun L18 eL18 => ?_)
      have h := lt_e eL18 h
      refine sx_aload_n (i := 0) (j := 0) dX1_lodge_91 rfl rfl ?_
      refine sx_aload_n (i := 1) (j := 1) dX1_lodge_92 rfl rfl ?_
      refine sx_iload_n (i := 2) (j := 2) dX1_lodge_93 rfl rfl ?_
      refine sx_iconst (v := (1 : Int32)) dX1_lodge_94 (by decide) ?_
      refine sx_iadd dX1_lodge_95 ?_
      refine sx_iload_n (i := 3) (j := 3) dX1_lodge_96 rfl rfl ?_
      refine sx_aload_n (i := 1) (j := 1) dX1_lodge_97 rfl rfl ?_
      refine sx_get (k := 12) (v := .ref (a1 + 9)) dX1_lodge_98 (X4_k h1) cf_4 (Or.inr ⟨_, nw_167⟩) (by decide : 12 < 17) (congrArg Value.ref (X4_r12 h1)) ?_
      refine sx_iload_n (i := 2) (j := 2) dX1_lodge_101 rfl rfl ?_
      obtain ⟨c19, h⟩ := gd_e h
      refine sx_iald dX1_lodge_102 (X4_a12 h1) c19 ?_
      refine sx_iload (j := 4) dX1_lodge_103 rfl ?_
      refine sx_icmp_ne (tgt := 112) dX1_lodge_105 rfl (fun c20 => ?_) (fun c20 => ?_)
      · have h := if_e c20 h
        refine sx_iconst (v := (0 : Int32)) dX1_lodge_108 (by decide) ?_
        refine sx_goto (tgt := 113) dX1_lodge_109 rfl ?_
        exact sx_sub [0, 1, 2, 3, 4, 5] rfl (tX1_lodge_j113 hrec h0 h1 h k1 k2 k3)
      · have h := if_n c20 h
        refine sx_iconst (v := (1 : Int32)) dX1_lodge_112 (by decide) ?_
        exact sx_sub [0, 1, 2, 3, 4, 5] rfl (tX1_lodge_j113 hrec h0 h1 h k1 k2 k3)
set_option maxRecDepth 100000 in
set_option maxHeartbeats 4000000 in
theorem mX1_lodge_s {l : Launch} {E : Ev} {k : Nat} {L : HL} {rec : Nat → Nat → Int32 → Int32 → HL → Option (Int32 × HL)} {a0 : Nat} {a1 : Nat} {v2 : Int32} {v3 : Int32} (hrec : ∀ (a0 : Nat) (a1 : Nat) (v2 : Int32) (v3 : Int32) (L : HL) (z : Int32 × HL), isX1 E a0 → isX4 E a1 → rec a0 a1 v2 v3 L = some z → Mt l E yX1_lodge cX1_lodge 6 (some .boolean) (3 + k) [.ref a0, .ref a1, .int v2, .int v3] L (some (.int z.1)) (z.2)) {z : Int32 × HL} (h0 : isX1 E a0) (h1 : isX4 E a1) (h : fX1_lodge_s rec a0 a1 v2 v3 L = some z) : Mt l E yX1_lodge cX1_lodge 6 (some .boolean) (3 + k + 1) [.ref a0, .ref a1, .int v2, .int v3] L (some (.int z.1)) (z.2) := by
  obtain ⟨r, hr⟩ : ∃ r : Option Value, r = some (.int z.1) := ⟨_, rfl⟩
  obtain ⟨L', hL'⟩ : ∃ L' : HL, L' = z.2 := ⟨_, rfl⟩
  have k3 : r = some (.int z.1) ∧ L' = z.2 := ⟨hr, hL'⟩
  refine mt_eq hr hL' ?_
  refine Mt.of (plainFor_of_name (by decide)) (Nat.le_of_ble_eq_true rfl) ?_
  refine sx_sub (lv' := [(0, .ref a0), (1, .ref a1), (2, .int v2), (3, .int v3)]) [0, 1, 2, 3] rfl ?_
  unfold fX1_lodge_s at h
  refine sx_iload_n (i := 3) (j := 3) dX1_lodge_0 rfl rfl ?_
  refine sx_if_ge (tgt := 6) dX1_lodge_1 rfl (fun c1 => ?_) (fun c1 => ?_)
  · have h := if_e c1 h
    refine sx_iload_n (i := 2) (j := 2) dX1_lodge_6 rfl rfl ?_
    refine sx_aload_n (i := 1) (j := 1) dX1_lodge_7 rfl rfl ?_
    refine sx_get (k := 2) (v := .int (L.1 a1 2)) dX1_lodge_8 (X4_k h1) cf_4 (Or.inr ⟨_, nw_141⟩) (by decide : 2 < 17) rfl ?_
    refine sx_icmp_ge (tgt := 20) dX1_lodge_11 rfl (fun c2 => ?_) (fun c2 => ?_)
    · have h := if_e c2 h
      refine sx_iconst (v := (1 : Int32)) dX1_lodge_20 (by decide) ?_
      obtain rfl := Option.some.inj h
      exact sx_iret dX1_lodge_21 rfl (by decide) k3.1 k3.2
    · have h := if_n c2 h
      refine sx_iload_n (i := 2) (j := 2) dX1_lodge_14 rfl rfl ?_
      refine sx_bipush (v := (6 : Int32)) dX1_lodge_15 (by decide) ?_
      refine sx_icmp_lt (tgt := 22) dX1_lodge_17 rfl (fun c3 => ?_) (fun c3 => ?_)
      · have h := if_e c3 h
        refine sx_iconst (v := (0 : Int32)) dX1_lodge_22 (by decide) ?_
        refine sx_istore (lv' := [(0, .ref a0), (1, .ref a1), (2, .int v2), (3, .int v3), (4, .int (0 : Int32))]) dX1_lodge_23 (by decide) rfl ?_
        obtain ⟨x30, hx, q1, q2⟩ := lx_e h
        refine sx_sub (lv' := [(0, .ref a0), (1, .ref a1), (2, .int v2), (3, .int v3), (4, .int (0 : Int32))]) [0, 1, 2, 3, 4] rfl ?_
        refine lp_go (fun s29 => Sx l E yX1_lodge cX1_lodge 6 (some .boolean) (3 + k + 1) r L' 25 [(0, .ref a0), (1, .ref a1), (2, .int v2), (3, .int v3), (4, .int s29.1)] [] s29.2) x30 (fun s29 z2 hz c1 c2 => ?_) FU _ hx
        refine tX1_lodge_b25 hrec h0 h1 hz (fun s2 e => c1 s2 e) (fun s29 e => ?_) (fun v e => ?_)
        · have h := q1 _ (c2 _ e).symm
          refine sx_iconst (v := (0 : Int32)) dX1_lodge_148 (by decide) ?_
          obtain rfl := Option.some.inj h
          exact sx_iret dX1_lodge_149 rfl (by decide) k3.1 k3.2
        · have e2 := Option.some.inj (q2 _ (c2 _ e).symm)
          subst e2
          exact k3
      · have h := if_n c3 h
        refine sx_iconst (v := (1 : Int32)) dX1_lodge_20 (by decide) ?_
        obtain rfl := Option.some.inj h
        exact sx_iret dX1_lodge_21 rfl (by decide) k3.1 k3.2
  · have h := if_n c1 h
    refine sx_iconst (v := (0 : Int32)) dX1_lodge_4 (by decide) ?_
    obtain rfl := Option.some.inj h
    exact sx_iret dX1_lodge_5 rfl (by decide) k3.1 k3.2
set_option maxRecDepth 100000 in
set_option maxHeartbeats 4000000 in
theorem mX1_lodge_all {l : Launch} {E : Ev} : ∀ k, ∀ (a0 : Nat) (a1 : Nat) (v2 : Int32) (v3 : Int32) (L : HL) (z : Int32 × HL), isX1 E a0 → isX4 E a1 → fX1_lodge k a0 a1 v2 v3 L = some z → Mt l E yX1_lodge cX1_lodge 6 (some .boolean) (3 + k) [.ref a0, .ref a1, .int v2, .int v3] L (some (.int z.1)) (z.2) := by
  intro k
  induction k with
  | zero => intro a0 a1 v2 v3 L z _ _ h; cases h
  | succ k ih => intro a0 a1 v2 v3 L z g0 g1 h; exact mX1_lodge_s ih g0 g1 h
theorem mX1_lodge {l : Launch} {E : Ev} {a0 : Nat} {a1 : Nat} {v2 : Int32} {v3 : Int32} {L : HL} {z : Int32 × HL} (h0 : isX1 E a0) (h1 : isX4 E a1) (h : fX1_lodge 8 a0 a1 v2 v3 L = some z) : Mt l E yX1_lodge cX1_lodge 6 (some .boolean) (11) [.ref a0, .ref a1, .int v2, .int v3] L (some (.int z.1)) (z.2) := mX1_lodge_all 8 _ _ _ _ L z h0 h1 h
set_option maxRecDepth 100000 in
set_option maxHeartbeats 4000000 in
theorem tX1_seek_b2 {l : Launch} {E : Ev} {r : Option Value} {L' L : HL} {a0 : Nat} {a1 : Nat} {v2 : Int32} {z : Tn (Int32 × HL) (Int32 × HL)} (h0 : isX1 E a0) (h1 : isX4 E a1) (h : fX1_seek_b2 a0 a1 v2 L = some z) (k1 : ∀ s, z = .inl s → Sx l E yX1_seek cX1_seek 3 (some .int) (12) r L' 2 [(0, .ref a0), (1, .ref a1), (2, .int s.1)] [] s.2) (k2 : ∀ s, z = .inr (.inl s) → Sx l E yX1_seek cX1_seek 3 (some .int) (12) r L' 27 [(0, .ref a0), (1, .ref a1)] [] s.2) (k3 : ∀ v, z = .inr (.inr v) → r = some (.int v.1) ∧ L' = v.2) : Sx l E yX1_seek cX1_seek 3 (some .int) (12) r L' 2 [(0, .ref a0), (1, .ref a1), (2, .int v2)] [] L := by
  unfold fX1_seek_b2 at h
  refine sx_iload_n (i := 2) (j := 2) dX1_seek_2 rfl rfl ?_
  refine sx_iconst (v := (5 : Int32)) dX1_seek_3 (by decide) ?_
  refine sx_icmp_ge (tgt := 27) dX1_seek_4 rfl (fun c1 => ?_) (fun c1 => ?_)
  · have h := if_e c1 h
    obtain rfl := Option.some.inj h
    exact sx_sub [0, 1] rfl (k2 _ rfl)
  · have h := if_n c1 h
    refine sx_aload_n (i := 0) (j := 0) dX1_seek_7 rfl rfl ?_
    refine sx_get (k := 0) (v := .ref (a0 + 1)) dX1_seek_8 (X1_k h0) cf_1 (Or.inl wd_329) (by decide : 0 < 3) (congrArg Value.ref (X1_r0 h0)) ?_
    refine sx_iload_n (i := 2) (j := 2) dX1_seek_11 rfl rfl ?_
    refine sx_iconst (v := (0 : Int32)) dX1_seek_12 (by decide) ?_
    obtain ⟨c2, h⟩ := gd_e h
    refine sx_iast dX1_seek_13 (X1_a0 h0) c2 (fun L3 eL3 => ?_)
    have h := lt_e eL3 h
    refine sx_aload_n (i := 0) (j := 0) dX1_seek_14 rfl rfl ?_
    refine sx_get (k := 1) (v := .ref (a0 + 2)) dX1_seek_15 (X1_k h0) cf_1 (Or.inl wd_330) (by decide : 1 < 3) (congrArg Value.ref (X1_r1 h0)) ?_
    refine sx_iload_n (i := 2) (j := 2) dX1_seek_18 rfl rfl ?_
    refine sx_iconst (v := (0 : Int32)) dX1_seek_19 (by decide) ?_
    obtain ⟨c4, h⟩ := gd_e h
    refine sx_iast dX1_seek_20 (X1_a1 h0) c4 (fun L5 eL5 => ?_)
    have h := lt_e eL5 h
    obtain ⟨w6, ew6⟩ : ∃ w : Int32, w = v2 + (1 : Int32) := ⟨_, rfl⟩
    have h := lt_e ew6 h
    refine sx_iinc (j := 2) (v := w6) (lv' := [(0, .ref a0), (1, .ref a1), (2, .int w6)]) dX1_seek_21 rfl (ii_1 ew6) (by decide) rfl ?_
    refine sx_goto (tgt := 2) dX1_seek_24 rfl ?_
    obtain rfl := Option.some.inj h
    exact sx_sub [0, 1, 2] rfl (k1 _ rfl)
set_option maxRecDepth 100000 in
set_option maxHeartbeats 4000000 in
theorem tX1_seek_b29 {l : Launch} {E : Ev} {r : Option Value} {L' L : HL} {a0 : Nat} {a1 : Nat} {v2 : Int32} {z : Tn (Int32 × HL) (Int32 × HL)} (h0 : isX1 E a0) (h1 : isX4 E a1) (h : fX1_seek_b29 a0 a1 v2 L = some z) (k1 : ∀ s, z = .inl s → Sx l E yX1_seek cX1_seek 3 (some .int) (12) r L' 29 [(0, .ref a0), (1, .ref a1), (2, .int s.1)] [] s.2) (k2 : ∀ s, z = .inr (.inl s) → Sx l E yX1_seek cX1_seek 3 (some .int) (12) r L' 55 [] [] s.2) (k3 : ∀ v, z = .inr (.inr v) → r = some (.int v.1) ∧ L' = v.2) : Sx l E yX1_seek cX1_seek 3 (some .int) (12) r L' 29 [(0, .ref a0), (1, .ref a1), (2, .int v2)] [] L := by
  unfold fX1_seek_b29 at h
  refine sx_iload_n (i := 2) (j := 2) dX1_seek_29 rfl rfl ?_
  refine sx_aload_n (i := 1) (j := 1) dX1_seek_30 rfl rfl ?_
  refine sx_get (k := 2) (v := .int (L.1 a1 2)) dX1_seek_31 (X4_k h1) cf_4 (Or.inr ⟨_, nw_141⟩) (by decide : 2 < 17) rfl ?_
  refine sx_icmp_gt (tgt := 55) dX1_seek_34 rfl (fun c8 => ?_) (fun c8 => ?_)
  · have h := if_e c8 h
    obtain rfl := Option.some.inj h
    exact sx_sub [] rfl (k2 _ rfl)
  · have h := if_n c8 h
    refine sx_aload_n (i := 0) (j := 0) dX1_seek_37 rfl rfl ?_
    refine sx_aload_n (i := 1) (j := 1) dX1_seek_38 rfl rfl ?_
    refine sx_iconst (v := (0 : Int32)) dX1_seek_39 (by decide) ?_
    refine sx_iload_n (i := 2) (j := 2) dX1_seek_40 rfl rfl ?_
    obtain ⟨z9, ez9, h⟩ := bd_e h
    refine sx_callS (avs := [.ref a0, .ref a1, .int (0 : Int32), .int v2]) (rest := []) (st1 := [.int z9.1]) dX1_seek_41 (mX1_lodge h0 h1 ez9) ctX1_lodge (Or.inl wd_819) rfl rfl (rm_m rfl) rfl (Nat.le_of_ble_eq_true rfl) rfl ?_
    refine sx_if_eq (tgt := 49) dX1_seek_44 rfl (fun c10 => ?_) (fun c10 => ?_)
    · have h := if_e c10 h
      obtain ⟨w11, ew11⟩ : ∃ w : Int32, w = v2 + (1 : Int32) := ⟨_, rfl⟩
      have h := lt_e ew11 h
      refine sx_iinc (j := 2) (v := w11) (lv' := [(0, .ref a0), (1, .ref a1), (2, .int w11)]) dX1_seek_49 rfl (ii_1 ew11) (by decide) rfl ?_
      refine sx_goto (tgt := 29) dX1_seek_52 rfl ?_
      obtain rfl := Option.some.inj h
      exact sx_sub [0, 1, 2] rfl (k1 _ rfl)
    · have h := if_n c10 h
      refine sx_iload_n (i := 2) (j := 2) dX1_seek_47 rfl rfl ?_
      obtain rfl := Option.some.inj h
      exact sx_iret dX1_seek_48 rfl rfl (k3 _ rfl).1 (k3 _ rfl).2
set_option maxRecDepth 100000 in
set_option maxHeartbeats 4000000 in
theorem mX1_seek {l : Launch} {E : Ev} {L : HL} {a0 : Nat} {a1 : Nat} {z : Int32 × HL} (h0 : isX1 E a0) (h1 : isX4 E a1) (h : fX1_seek a0 a1 L = some z) : Mt l E yX1_seek cX1_seek 3 (some .int) (12) [.ref a0, .ref a1] L (some (.int z.1)) (z.2) := by
  obtain ⟨r, hr⟩ : ∃ r : Option Value, r = some (.int z.1) := ⟨_, rfl⟩
  obtain ⟨L', hL'⟩ : ∃ L' : HL, L' = z.2 := ⟨_, rfl⟩
  have k3 : r = some (.int z.1) ∧ L' = z.2 := ⟨hr, hL'⟩
  refine mt_eq hr hL' ?_
  refine Mt.of (plainFor_of_name (by decide)) (Nat.le_of_ble_eq_true rfl) ?_
  refine sx_sub (lv' := [(0, .ref a0), (1, .ref a1)]) [0, 1] rfl ?_
  unfold fX1_seek at h
  refine sx_iconst (v := (0 : Int32)) dX1_seek_0 (by decide) ?_
  refine sx_istore_n (i := 2) (lv' := [(0, .ref a0), (1, .ref a1), (2, .int (0 : Int32))]) dX1_seek_1 rfl (by decide) rfl ?_
  obtain ⟨x14, hx, q1, q2⟩ := lx_e h
  refine sx_sub (lv' := [(0, .ref a0), (1, .ref a1), (2, .int (0 : Int32))]) [0, 1, 2] rfl ?_
  refine lp_go (fun s7 => Sx l E yX1_seek cX1_seek 3 (some .int) (12) r L' 2 [(0, .ref a0), (1, .ref a1), (2, .int s7.1)] [] s7.2) x14 (fun s7 z2 hz c1 c2 => ?_) FU _ hx
  refine tX1_seek_b2 h0 h1 hz (fun s2 e => c1 s2 e) (fun s7 e => ?_) (fun v e => ?_)
  · have h := q1 _ (c2 _ e).symm
    refine sx_iconst (v := (0 : Int32)) dX1_seek_27 (by decide) ?_
    refine sx_istore_n (i := 2) (lv' := [(0, .ref a0), (1, .ref a1), (2, .int (0 : Int32))]) dX1_seek_28 rfl (by decide) rfl ?_
    obtain ⟨x13, hx, q1, q2⟩ := lx_e h
    refine sx_sub (lv' := [(0, .ref a0), (1, .ref a1), (2, .int (0 : Int32))]) [0, 1, 2] rfl ?_
    refine lp_go (fun s12 => Sx l E yX1_seek cX1_seek 3 (some .int) (12) r L' 29 [(0, .ref a0), (1, .ref a1), (2, .int s12.1)] [] s12.2) x13 (fun s12 z2 hz c1 c2 => ?_) FU _ hx
    refine tX1_seek_b29 h0 h1 hz (fun s2 e => c1 s2 e) (fun s12 e => ?_) (fun v e => ?_)
    · have h := q1 _ (c2 _ e).symm
      refine sx_iconst (v := (-1 : Int32)) dX1_seek_55 (by decide) ?_
      obtain rfl := Option.some.inj h
      exact sx_iret dX1_seek_56 rfl rfl k3.1 k3.2
    · have e2 := Option.some.inj (q2 _ (c2 _ e).symm)
      subst e2
      exact k3
  · have e2 := Option.some.inj (q2 _ (c2 _ e).symm)
    subst e2
    exact k3
set_option maxRecDepth 100000 in
set_option maxHeartbeats 4000000 in
theorem mX4_hasOne {l : Launch} {E : Ev} {L : HL} {a0 : Nat} {v1 : Int32} {z : Int32} (h0 : isX4 E a0) (h : fX4_hasOne a0 v1 L = some z) : Mt l E yX4_hasOne cX4_hasOne 2 (some .boolean) (1) [.ref a0, .int v1] L (some (.int z)) L := by
  obtain ⟨r, hr⟩ : ∃ r : Option Value, r = some (.int z) := ⟨_, rfl⟩
  obtain ⟨L', hL'⟩ : ∃ L' : HL, L' = L := ⟨_, rfl⟩
  have k3 : r = some (.int z) ∧ L' = L := ⟨hr, hL'⟩
  refine mt_eq hr hL' ?_
  refine Mt.of (plainFor_of_name (by decide)) (Nat.le_of_ble_eq_true rfl) ?_
  refine sx_sub (lv' := [(0, .ref a0), (1, .int v1)]) [0, 1] rfl ?_
  unfold fX4_hasOne at h
  refine sx_iload_n (i := 1) (j := 1) dX4_hasOne_0 rfl rfl ?_
  refine sx_if_lt (tgt := 22) dX4_hasOne_1 rfl (fun c1 => ?_) (fun c1 => ?_)
  · have h := if_e c1 h
    refine sx_iconst (v := (0 : Int32)) dX4_hasOne_22 (by decide) ?_
    obtain rfl := Option.some.inj h
    exact sx_iret dX4_hasOne_23 rfl (by decide) k3.1 k3.2
  · have h := if_n c1 h
    refine sx_iload_n (i := 1) (j := 1) dX4_hasOne_4 rfl rfl ?_
    refine sx_aload_n (i := 0) (j := 0) dX4_hasOne_5 rfl rfl ?_
    refine sx_get (k := 2) (v := .int (L.1 a0 2)) dX4_hasOne_6 (X4_k h0) cf_4 (Or.inl wd_140) (by decide : 2 < 17) rfl ?_
    refine sx_icmp_ge (tgt := 22) dX4_hasOne_9 rfl (fun c2 => ?_) (fun c2 => ?_)
    · have h := if_e c2 h
      refine sx_iconst (v := (0 : Int32)) dX4_hasOne_22 (by decide) ?_
      obtain rfl := Option.some.inj h
      exact sx_iret dX4_hasOne_23 rfl (by decide) k3.1 k3.2
    · have h := if_n c2 h
      refine sx_iload_n (i := 1) (j := 1) dX4_hasOne_12 rfl rfl ?_
      refine sx_bipush (v := (6 : Int32)) dX4_hasOne_13 (by decide) ?_
      refine sx_icmp_ge (tgt := 22) dX4_hasOne_15 rfl (fun c3 => ?_) (fun c3 => ?_)
      · have h := if_e c3 h
        refine sx_iconst (v := (0 : Int32)) dX4_hasOne_22 (by decide) ?_
        obtain rfl := Option.some.inj h
        exact sx_iret dX4_hasOne_23 rfl (by decide) k3.1 k3.2
      · have h := if_n c3 h
        refine sx_iconst (v := (1 : Int32)) dX4_hasOne_18 (by decide) ?_
        refine sx_goto (tgt := 23) dX4_hasOne_19 rfl ?_
        obtain rfl := Option.some.inj h
        exact sx_iret dX4_hasOne_23 rfl (by decide) k3.1 k3.2
set_option maxRecDepth 100000 in
set_option maxHeartbeats 4000000 in
theorem tX2_atLast_j31 {l : Launch} {E : Ev} {r : Option Value} {L' L : HL} {a0 : Nat} {z : HL} (h0 : isX2 E a0) (h : fX2_atLast_j31 a0 L = some z) (k3 : r = none ∧ L' = z) : Sx l E yX2_atLast cX2_atLast 3 (none) (3) r L' 31 [(0, .ref a0)] [] L := by
  unfold fX2_atLast_j31 at h
  refine sx_aload_n (i := 0) (j := 0) dX2_atLast_31 rfl rfl ?_
  refine sx_dup dX2_atLast_32 rfl ?_
  refine sx_get (k := 5) (v := .int (L.1 a0 5)) dX2_atLast_33 (X2_k h0) cf_2 (Or.inl wd_308) (by decide : 5 < 6) rfl ?_
  refine sx_iconst (v := (1 : Int32)) dX2_atLast_36 (by decide) ?_
  refine sx_iadd dX2_atLast_37 ?_
  refine sx_putI (k := 5) dX2_atLast_38 (X2_k h0) cf_2 (Or.inl wd_308) (by decide : 5 < 6) rfl rfl rfl rfl (fun L5 eL5 => ?_)
  have h := lt_e eL5 h
  obtain rfl := Option.some.inj h
  exact sx_vret dX2_atLast_41 rfl k3.1 k3.2
set_option maxRecDepth 100000 in
set_option maxHeartbeats 4000000 in
theorem mX2_atLast {l : Launch} {E : Ev} {L : HL} {a0 : Nat} {v1 : Int32} {v2 : Int32} {z : HL} (h0 : isX2 E a0) (h : fX2_atLast a0 v1 v2 L = some z) : Mt l E yX2_atLast cX2_atLast 3 (none) (3) [.ref a0, .int v1, .int v2] L (none) z := by
  obtain ⟨r, hr⟩ : ∃ r : Option Value, r = none := ⟨_, rfl⟩
  obtain ⟨L', hL'⟩ : ∃ L' : HL, L' = z := ⟨_, rfl⟩
  have k3 : r = none ∧ L' = z := ⟨hr, hL'⟩
  refine mt_eq hr hL' ?_
  refine Mt.of (plainFor_of_name (by decide)) (Nat.le_of_ble_eq_true rfl) ?_
  refine sx_sub (lv' := [(0, .ref a0), (1, .int v1), (2, .int v2)]) [0, 1, 2] rfl ?_
  unfold fX2_atLast at h
  refine sx_aload_n (i := 0) (j := 0) dX2_atLast_0 rfl rfl ?_
  refine sx_get (k := 0) (v := .ref (a0 + 1)) dX2_atLast_1 (X2_k h0) cf_2 (Or.inl wd_302) (by decide : 0 < 6) (congrArg Value.ref (X2_r0 h0)) ?_
  refine sx_get (k := 12) (v := .ref ((a0 + 1) + 9)) dX2_atLast_4 (X4_k (X2_o0 h0)) cf_4 (Or.inr ⟨_, nw_168⟩) (by decide : 12 < 17) (congrArg Value.ref (X4_r12 (X2_o0 h0))) ?_
  refine sx_iload_n (i := 1) (j := 1) dX2_atLast_7 rfl rfl ?_
  obtain ⟨c1, h⟩ := gd_e h
  refine sx_iald dX2_atLast_8 (X4_a12 (X2_o0 h0)) c1 ?_
  refine sx_iload_n (i := 2) (j := 2) dX2_atLast_9 rfl rfl ?_
  refine sx_icmp_ne (tgt := 41) dX2_atLast_10 rfl (fun c2 => ?_) (fun c2 => ?_)
  · have h := if_e c2 h
    refine sx_aload_n (i := 0) (j := 0) dX2_atLast_13 rfl rfl ?_
    refine sx_get (k := 5) (v := .int (L.1 a0 5)) dX2_atLast_14 (X2_k h0) cf_2 (Or.inl wd_308) (by decide : 5 < 6) rfl ?_
    refine sx_if_ne (tgt := 31) dX2_atLast_17 rfl (fun c3 => ?_) (fun c3 => ?_)
    · have h := if_e c3 h
      refine sx_aload_n (i := 0) (j := 0) dX2_atLast_20 rfl rfl ?_
      refine sx_get (k := 3) (v := .ref (a0 + 22)) dX2_atLast_21 (X2_k h0) cf_2 (Or.inl wd_305) (by decide : 3 < 6) (congrArg Value.ref (X2_r3 h0)) ?_
      refine sx_aload_n (i := 0) (j := 0) dX2_atLast_24 rfl rfl ?_
      refine sx_get (k := 4) (v := .ref (a0 + 23)) dX2_atLast_25 (X2_k h0) cf_2 (Or.inl wd_306) (by decide : 4 < 6) (congrArg Value.ref (X2_r4 h0)) ?_
      obtain ⟨z4, ez4, h⟩ := bd_e h
      refine sx_callS (avs := [.ref (a0 + 22), .ref (a0 + 23)]) (rest := []) (st1 := []) dX2_atLast_28 (mX6_copyRow (X2_a3 h0) (X2_a4 h0) ez4) ctX6_copyRow (Or.inr ⟨_, nw_789⟩) rfl rfl (rm_m rfl) rfl (Nat.le_of_ble_eq_true rfl) rfl ?_
      exact sx_sub [0] rfl (tX2_atLast_j31 h0 h k3)
    · have h := if_n c3 h
      exact sx_sub [0] rfl (tX2_atLast_j31 h0 h k3)
  · have h := if_n c2 h
    obtain rfl := Option.some.inj h
    exact sx_vret dX2_atLast_41 rfl k3.1 k3.2
set_option maxRecDepth 100000 in
set_option maxHeartbeats 4000000 in
theorem mX2_keep {l : Launch} {E : Ev} {L : HL} {a0 : Nat} {v1 : Int32} {z : HL} (h0 : isX2 E a0) (h : fX2_keep a0 v1 L = some z) : Mt l E yX2_keep cX2_keep 2 (none) (3) [.ref a0, .int v1] L (none) z := by
  obtain ⟨r, hr⟩ : ∃ r : Option Value, r = none := ⟨_, rfl⟩
  obtain ⟨L', hL'⟩ : ∃ L' : HL, L' = z := ⟨_, rfl⟩
  have k3 : r = none ∧ L' = z := ⟨hr, hL'⟩
  refine mt_eq hr hL' ?_
  refine Mt.of (plainFor_of_name (by decide)) (Nat.le_of_ble_eq_true rfl) ?_
  refine sx_sub (lv' := [(0, .ref a0), (1, .int v1)]) [0, 1] rfl ?_
  unfold fX2_keep at h
  refine sx_aload_n (i := 0) (j := 0) dX2_keep_0 rfl rfl ?_
  refine sx_get (k := 1) (v := .ref (a0 + 15)) dX2_keep_1 (X2_k h0) cf_2 (Or.inl wd_303) (by decide : 1 < 6) (congrArg Value.ref (X2_r1 h0)) ?_
  refine sx_iload_n (i := 1) (j := 1) dX2_keep_4 rfl rfl ?_
  refine sx_aload_n (i := 0) (j := 0) dX2_keep_5 rfl rfl ?_
  refine sx_get (k := 0) (v := .ref (a0 + 1)) dX2_keep_6 (X2_k h0) cf_2 (Or.inl wd_302) (by decide : 0 < 6) (congrArg Value.ref (X2_r0 h0)) ?_
  refine sx_get (k := 1) (v := .int (L.1 (a0 + 1) 1)) dX2_keep_9 (X4_k (X2_o0 h0)) cf_4 (Or.inr ⟨_, nw_138⟩) (by decide : 1 < 17) rfl ?_
  obtain ⟨c1, h⟩ := gd_e h
  refine sx_iast dX2_keep_12 (X2_a1 h0) c1 (fun L2 eL2 => ?_)
  have h := lt_e eL2 h
  refine sx_aload_n (i := 0) (j := 0) dX2_keep_13 rfl rfl ?_
  refine sx_get (k := 0) (v := .ref (a0 + 1)) dX2_keep_14 (X2_k h0) cf_2 (Or.inl wd_302) (by decide : 0 < 6) (congrArg Value.ref (X2_r0 h0)) ?_
  refine sx_get (k := 12) (v := .ref ((a0 + 1) + 9)) dX2_keep_17 (X4_k (X2_o0 h0)) cf_4 (Or.inr ⟨_, nw_168⟩) (by decide : 12 < 17) (congrArg Value.ref (X4_r12 (X2_o0 h0))) ?_
  refine sx_aload_n (i := 0) (j := 0) dX2_keep_20 rfl rfl ?_
  refine sx_get (k := 2) (v := .ref (a0 + 16)) dX2_keep_21 (X2_k h0) cf_2 (Or.inl wd_304) (by decide : 2 < 6) (congrArg Value.ref (X2_r2 h0)) ?_
  refine sx_iload_n (i := 1) (j := 1) dX2_keep_24 rfl rfl ?_
  obtain ⟨c3, h⟩ := gd_e h
  refine sx_aald dX2_keep_25 (X2_a2 h0) c3 ((X2_w2 h0) _ (in_lt c3)).1 ?_
  obtain ⟨z4, ez4, h⟩ := bd_e h
  refine sx_callS (avs := [.ref ((a0 + 1) + 9), .ref ((a0 + 16) + 1 + v1.toNatClampNeg)]) (rest := []) (st1 := []) dX2_keep_26 (mX6_copyRow (X4_a12 (X2_o0 h0)) ((X2_w2 h0) _ (in_lt c3)).2 ez4) ctX6_copyRow (Or.inr ⟨_, nw_789⟩) rfl rfl (rm_m rfl) rfl (Nat.le_of_ble_eq_true rfl) rfl ?_
  obtain rfl := Option.some.inj h
  exact sx_vret dX2_keep_29 rfl k3.1 k3.2
set_option maxRecDepth 100000 in
set_option maxHeartbeats 4000000 in
theorem tX4_kinBits_j58 {l : Launch} {E : Ev} {r : Option Value} {L' L : HL} {a0 : Nat} {v1 : Int32} {v2 : Int32} {v3 : Int32} {z : Tn (Int32 × Int32) (Int32)} (h0 : isX4 E a0) (h : fX4_kinBits_j58 a0 v1 v2 v3 L = some z) (k1 : ∀ s, z = .inl s → Sx l E yX4_kinBits cX4_kinBits 4 (some .int) (1) r L' 30 [(0, .ref a0), (1, .int v1), (2, .int s.1), (3, .int s.2)] [] L) (k2 : ∀ s, z = .inr (.inl s) → Sx l E yX4_kinBits cX4_kinBits 4 (some .int) (1) r L' 70 [(2, .int s.1)] [] L) (k3 : ∀ v, z = .inr (.inr v) → r = some (.int v) ∧ L' = L) : Sx l E yX4_kinBits cX4_kinBits 4 (some .int) (1) r L' 58 [(0, .ref a0), (1, .int v1), (2, .int v2), (3, .int v3)] [] L := by
  unfold fX4_kinBits_j58 at h
  refine sx_iload_n (i := 2) (j := 2) dX4_kinBits_58 rfl rfl ?_
  refine sx_iconst (v := (1 : Int32)) dX4_kinBits_59 (by decide) ?_
  refine sx_iload_n (i := 3) (j := 3) dX4_kinBits_60 rfl rfl ?_
  refine sx_ishl dX4_kinBits_61 ?_
  refine sx_ior dX4_kinBits_62 ?_
  refine sx_topi (fun w6 ew6 => ?_)
  have h := lt_e ew6 h
  refine sx_istore_n (i := 2) (lv' := [(0, .ref a0), (1, .int v1), (2, .int w6), (3, .int v3)]) dX4_kinBits_63 rfl (by decide) rfl ?_
  obtain ⟨w7, ew7⟩ : ∃ w : Int32, w = v3 + (1 : Int32) := ⟨_, rfl⟩
  have h := lt_e ew7 h
  refine sx_iinc (j := 3) (v := w7) (lv' := [(0, .ref a0), (1, .int v1), (2, .int w6), (3, .int w7)]) dX4_kinBits_64 rfl (ii_1 ew7) (by decide) rfl ?_
  refine sx_goto (tgt := 30) dX4_kinBits_67 rfl ?_
  obtain rfl := Option.some.inj h
  exact sx_sub [0, 1, 2, 3] rfl (k1 _ rfl)
set_option maxRecDepth 100000 in
set_option maxHeartbeats 4000000 in
theorem tX4_kinBits_b30 {l : Launch} {E : Ev} {r : Option Value} {L' L : HL} {a0 : Nat} {v1 : Int32} {v2 : Int32} {v3 : Int32} {z : Tn (Int32 × Int32) (Int32)} (h0 : isX4 E a0) (h : fX4_kinBits_b30 a0 v1 v2 v3 L = some z) (k1 : ∀ s, z = .inl s → Sx l E yX4_kinBits cX4_kinBits 4 (some .int) (1) r L' 30 [(0, .ref a0), (1, .int v1), (2, .int s.1), (3, .int s.2)] [] L) (k2 : ∀ s, z = .inr (.inl s) → Sx l E yX4_kinBits cX4_kinBits 4 (some .int) (1) r L' 70 [(2, .int s.1)] [] L) (k3 : ∀ v, z = .inr (.inr v) → r = some (.int v) ∧ L' = L) : Sx l E yX4_kinBits cX4_kinBits 4 (some .int) (1) r L' 30 [(0, .ref a0), (1, .int v1), (2, .int v2), (3, .int v3)] [] L := by
  unfold fX4_kinBits_b30 at h
  refine sx_iload_n (i := 3) (j := 3) dX4_kinBits_30 rfl rfl ?_
  refine sx_aload_n (i := 0) (j := 0) dX4_kinBits_31 rfl rfl ?_
  refine sx_get (k := 0) (v := .int (L.1 a0 0)) dX4_kinBits_32 (X4_k h0) cf_4 (Or.inl wd_133) (by decide : 0 < 17) rfl ?_
  refine sx_icmp_ge (tgt := 70) dX4_kinBits_35 rfl (fun c3 => ?_) (fun c3 => ?_)
  · have h := if_e c3 h
    obtain rfl := Option.some.inj h
    exact sx_sub [2] rfl (k2 _ rfl)
  · have h := if_n c3 h
    refine sx_aload_n (i := 0) (j := 0) dX4_kinBits_38 rfl rfl ?_
    refine sx_get (k := 7) (v := .ref (a0 + 4)) dX4_kinBits_39 (X4_k h0) cf_4 (Or.inl wd_154) (by decide : 7 < 17) (congrArg Value.ref (X4_r7 h0)) ?_
    refine sx_iload_n (i := 3) (j := 3) dX4_kinBits_42 rfl rfl ?_
    obtain ⟨c4, h⟩ := gd_e h
    refine sx_iald dX4_kinBits_43 (X4_a7 h0) c4 ?_
    refine sx_iload_n (i := 1) (j := 1) dX4_kinBits_44 rfl rfl ?_
    refine sx_icmp_eq (tgt := 58) dX4_kinBits_45 rfl (fun c5 => ?_) (fun c5 => ?_)
    · have h := if_e c5 h
      exact sx_sub [0, 1, 2, 3] rfl (tX4_kinBits_j58 h0 h k1 k2 k3)
    · have h := if_n c5 h
      refine sx_aload_n (i := 0) (j := 0) dX4_kinBits_48 rfl rfl ?_
      refine sx_get (k := 7) (v := .ref (a0 + 4)) dX4_kinBits_49 (X4_k h0) cf_4 (Or.inl wd_154) (by decide : 7 < 17) (congrArg Value.ref (X4_r7 h0)) ?_
      refine sx_iload_n (i := 1) (j := 1) dX4_kinBits_52 rfl rfl ?_
      obtain ⟨c8, h⟩ := gd_e h
      refine sx_iald dX4_kinBits_53 (X4_a7 h0) c8 ?_
      refine sx_iload_n (i := 3) (j := 3) dX4_kinBits_54 rfl rfl ?_
      refine sx_icmp_ne (tgt := 64) dX4_kinBits_55 rfl (fun c9 => ?_) (fun c9 => ?_)
      · have h := if_e c9 h
        exact sx_sub [0, 1, 2, 3] rfl (tX4_kinBits_j58 h0 h k1 k2 k3)
      · have h := if_n c9 h
        obtain ⟨w10, ew10⟩ : ∃ w : Int32, w = v3 + (1 : Int32) := ⟨_, rfl⟩
        have h := lt_e ew10 h
        refine sx_iinc (j := 3) (v := w10) (lv' := [(0, .ref a0), (1, .int v1), (2, .int v2), (3, .int w10)]) dX4_kinBits_64 rfl (ii_1 ew10) (by decide) rfl ?_
        refine sx_goto (tgt := 30) dX4_kinBits_67 rfl ?_
        obtain rfl := Option.some.inj h
        exact sx_sub [0, 1, 2, 3] rfl (k1 _ rfl)
set_option maxRecDepth 100000 in
set_option maxHeartbeats 4000000 in
theorem tX4_kinBits_j27 {l : Launch} {E : Ev} {r : Option Value} {L' L : HL} {a0 : Nat} {v1 : Int32} {s0 : Int32} {z : Int32} (h0 : isX4 E a0) (h : fX4_kinBits_j27 a0 v1 s0 L = some z) (k3 : r = some (.int z) ∧ L' = L) : Sx l E yX4_kinBits cX4_kinBits 4 (some .int) (1) r L' 27 [(0, .ref a0), (1, .int v1)] [.int s0] L := by
  unfold fX4_kinBits_j27 at h
  refine sx_istore_n (i := 2) (lv' := [(0, .ref a0), (1, .int v1), (2, .int s0)]) dX4_kinBits_27 rfl (by decide) rfl ?_
  refine sx_iconst (v := (0 : Int32)) dX4_kinBits_28 (by decide) ?_
  refine sx_istore_n (i := 3) (lv' := [(0, .ref a0), (1, .int v1), (2, .int s0), (3, .int (0 : Int32))]) dX4_kinBits_29 rfl (by decide) rfl ?_
  obtain ⟨x12, hx, q1, q2⟩ := lx_e h
  refine sx_sub (lv' := [(0, .ref a0), (1, .int v1), (2, .int s0), (3, .int (0 : Int32))]) [0, 1, 2, 3] rfl ?_
  refine lp_go (fun s11 => Sx l E yX4_kinBits cX4_kinBits 4 (some .int) (1) r L' 30 [(0, .ref a0), (1, .int v1), (2, .int s11.1), (3, .int s11.2)] [] L) x12 (fun s11 z2 hz c1 c2 => ?_) FU _ hx
  refine tX4_kinBits_b30 h0 hz (fun s2 e => c1 s2 e) (fun s11 e => ?_) (fun v e => ?_)
  · have h := q1 _ (c2 _ e).symm
    refine sx_iload_n (i := 2) (j := 0) dX4_kinBits_70 rfl rfl ?_
    obtain rfl := Option.some.inj h
    exact sx_iret dX4_kinBits_71 rfl rfl k3.1 k3.2
  · have e2 := Option.some.inj (q2 _ (c2 _ e).symm)
    subst e2
    exact k3
set_option maxRecDepth 100000 in
set_option maxHeartbeats 4000000 in
theorem mX4_kinBits {l : Launch} {E : Ev} {L : HL} {a0 : Nat} {v1 : Int32} {z : Int32} (h0 : isX4 E a0) (h : fX4_kinBits a0 v1 L = some z) : Mt l E yX4_kinBits cX4_kinBits 4 (some .int) (1) [.ref a0, .int v1] L (some (.int z)) L := by
  obtain ⟨r, hr⟩ : ∃ r : Option Value, r = some (.int z) := ⟨_, rfl⟩
  obtain ⟨L', hL'⟩ : ∃ L' : HL, L' = L := ⟨_, rfl⟩
  have k3 : r = some (.int z) ∧ L' = L := ⟨hr, hL'⟩
  refine mt_eq hr hL' ?_
  refine Mt.of (plainFor_of_name (by decide)) (Nat.le_of_ble_eq_true rfl) ?_
  refine sx_sub (lv' := [(0, .ref a0), (1, .int v1)]) [0, 1] rfl ?_
  unfold fX4_kinBits at h
  refine sx_aload_n (i := 0) (j := 0) dX4_kinBits_0 rfl rfl ?_
  refine sx_get (k := 1) (v := .int (L.1 a0 1)) dX4_kinBits_1 (X4_k h0) cf_4 (Or.inl wd_136) (by decide : 1 < 17) rfl ?_
  refine sx_iload_n (i := 1) (j := 1) dX4_kinBits_4 rfl rfl ?_
  refine sx_ishr dX4_kinBits_5 ?_
  refine sx_iconst (v := (1 : Int32)) dX4_kinBits_6 (by decide) ?_
  refine sx_iand dX4_kinBits_7 ?_
  refine sx_iconst (v := (1 : Int32)) dX4_kinBits_8 (by decide) ?_
  refine sx_icmp_ne (tgt := 26) dX4_kinBits_9 rfl (fun c1 => ?_) (fun c1 => ?_)
  · have h := if_e c1 h
    refine sx_aload_n (i := 0) (j := 0) dX4_kinBits_12 rfl rfl ?_
    refine sx_get (k := 10) (v := .ref (a0 + 7)) dX4_kinBits_13 (X4_k h0) cf_4 (Or.inl wd_161) (by decide : 10 < 17) (congrArg Value.ref (X4_r10 h0)) ?_
    refine sx_iload_n (i := 1) (j := 1) dX4_kinBits_16 rfl rfl ?_
    obtain ⟨c2, h⟩ := gd_e h
    refine sx_iald dX4_kinBits_17 (X4_a10 h0) c2 ?_
    refine sx_aload_n (i := 0) (j := 0) dX4_kinBits_18 rfl rfl ?_
    refine sx_get (k := 1) (v := .int (L.1 a0 1)) dX4_kinBits_19 (X4_k h0) cf_4 (Or.inl wd_136) (by decide : 1 < 17) rfl ?_
    refine sx_iand dX4_kinBits_22 ?_
    refine sx_goto (tgt := 27) dX4_kinBits_23 rfl ?_
    exact sx_sub [0, 1] rfl (tX4_kinBits_j27 h0 h k3)
  · have h := if_n c1 h
    refine sx_iconst (v := (0 : Int32)) dX4_kinBits_26 (by decide) ?_
    exact sx_sub [0, 1] rfl (tX4_kinBits_j27 h0 h k3)
set_option maxRecDepth 100000 in
set_option maxHeartbeats 4000000 in
theorem tX4_measureSteps_b2 {l : Launch} {E : Ev} {r : Option Value} {L' L : HL} {a0 : Nat} {v1 : Int32} {v2 : Int32} {z : Tn (Int32 × HL) (HL)} (h0 : isX4 E a0) (h : fX4_measureSteps_b2 a0 v1 v2 L = some z) (k1 : ∀ s, z = .inl s → Sx l E yX4_measureSteps cX4_measureSteps 7 (none) (2) r L' 2 [(0, .ref a0), (1, .int v1), (2, .int s.1)] [] s.2) (k2 : ∀ s, z = .inr (.inl s) → Sx l E yX4_measureSteps cX4_measureSteps 7 (none) (2) r L' 20 [(0, .ref a0), (1, .int v1)] [] s.2) (k3 : ∀ v, z = .inr (.inr v) → r = none ∧ L' = v) : Sx l E yX4_measureSteps cX4_measureSteps 7 (none) (2) r L' 2 [(0, .ref a0), (1, .int v1), (2, .int v2)] [] L := by
  unfold fX4_measureSteps_b2 at h
  refine sx_iload_n (i := 2) (j := 2) dX4_measureSteps_2 rfl rfl ?_
  refine sx_iconst (v := (5 : Int32)) dX4_measureSteps_3 (by decide) ?_
  refine sx_icmp_ge (tgt := 20) dX4_measureSteps_4 rfl (fun c1 => ?_) (fun c1 => ?_)
  · have h := if_e c1 h
    obtain rfl := Option.some.inj h
    exact sx_sub [0, 1] rfl (k2 _ rfl)
  · have h := if_n c1 h
    refine sx_aload_n (i := 0) (j := 0) dX4_measureSteps_7 rfl rfl ?_
    refine sx_get (k := 14) (v := .ref (a0 + 11)) dX4_measureSteps_8 (X4_k h0) cf_4 (Or.inl wd_171) (by decide : 14 < 17) (congrArg Value.ref (X4_r14 h0)) ?_
    refine sx_iload_n (i := 2) (j := 2) dX4_measureSteps_11 rfl rfl ?_
    refine sx_iconst (v := (-1 : Int32)) dX4_measureSteps_12 (by decide) ?_
    obtain ⟨c2, h⟩ := gd_e h
    refine sx_iast dX4_measureSteps_13 (X4_a14 h0) c2 (fun L3 eL3 => ?_)
    have h := lt_e eL3 h
    obtain ⟨w4, ew4⟩ : ∃ w : Int32, w = v2 + (1 : Int32) := ⟨_, rfl⟩
    have h := lt_e ew4 h
    refine sx_iinc (j := 2) (v := w4) (lv' := [(0, .ref a0), (1, .int v1), (2, .int w4)]) dX4_measureSteps_14 rfl (ii_1 ew4) (by decide) rfl ?_
    refine sx_goto (tgt := 2) dX4_measureSteps_17 rfl ?_
    obtain rfl := Option.some.inj h
    exact sx_sub [0, 1, 2] rfl (k1 _ rfl)
set_option maxRecDepth 100000 in
set_option maxHeartbeats 4000000 in
theorem tX4_measureSteps_b45 {l : Launch} {E : Ev} {r : Option Value} {L' L : HL} {a0 : Nat} {v2 : Int32} {v3 : Int32} {v4 : Int32} {v5 : Int32} {v6 : Int32} {z : Tn (Int32 × Int32 × HL) (HL)} (h0 : isX4 E a0) (h : fX4_measureSteps_b45 a0 v2 v3 v4 v5 v6 L = some z) (k1 : ∀ s, z = .inl s → Sx l E yX4_measureSteps cX4_measureSteps 7 (none) (2) r L' 45 [(0, .ref a0), (2, .int v2), (3, .int v3), (4, .int v4), (5, .int s.1), (6, .int s.2.1)] [] s.2.2) (k2 : ∀ s, z = .inr (.inl s) → Sx l E yX4_measureSteps cX4_measureSteps 7 (none) (2) r L' 90 [(0, .ref a0), (2, .int v2), (4, .int v4), (5, .int s.1)] [] s.2.2) (k3 : ∀ v, z = .inr (.inr v) → r = none ∧ L' = v) : Sx l E yX4_measureSteps cX4_measureSteps 7 (none) (2) r L' 45 [(0, .ref a0), (2, .int v2), (3, .int v3), (4, .int v4), (5, .int v5), (6, .int v6)] [] L := by
  unfold fX4_measureSteps_b45 at h
  refine sx_iload (j := 5) dX4_measureSteps_45 rfl ?_
  refine sx_aload_n (i := 0) (j := 0) dX4_measureSteps_47 rfl rfl ?_
  refine sx_get (k := 0) (v := .int (L.1 a0 0)) dX4_measureSteps_48 (X4_k h0) cf_4 (Or.inl wd_133) (by decide : 0 < 17) rfl ?_
  refine sx_icmp_ge (tgt := 90) dX4_measureSteps_51 rfl (fun c9 => ?_) (fun c9 => ?_)
  · have h := if_e c9 h
    obtain rfl := Option.some.inj h
    exact sx_sub [0, 1, 3, 4] rfl (k2 _ rfl)
  · have h := if_n c9 h
    refine sx_iload_n (i := 3) (j := 2) dX4_measureSteps_54 rfl rfl ?_
    refine sx_iload (j := 5) dX4_measureSteps_55 rfl ?_
    refine sx_ishr dX4_measureSteps_57 ?_
    refine sx_iconst (v := (1 : Int32)) dX4_measureSteps_58 (by decide) ?_
    refine sx_iand dX4_measureSteps_59 ?_
    refine sx_iconst (v := (1 : Int32)) dX4_measureSteps_60 (by decide) ?_
    refine sx_icmp_ne (tgt := 84) dX4_measureSteps_61 rfl (fun c10 => ?_) (fun c10 => ?_)
    · have h := if_e c10 h
      refine sx_aload_n (i := 0) (j := 0) dX4_measureSteps_64 rfl rfl ?_
      refine sx_get (k := 14) (v := .ref (a0 + 11)) dX4_measureSteps_65 (X4_k h0) cf_4 (Or.inl wd_171) (by decide : 14 < 17) (congrArg Value.ref (X4_r14 h0)) ?_
      refine sx_iload (j := 5) dX4_measureSteps_68 rfl ?_
      refine sx_iload (j := 3) dX4_measureSteps_70 rfl ?_
      obtain ⟨c11, h⟩ := gd_e h
      refine sx_iast dX4_measureSteps_72 (X4_a14 h0) c11 (fun L12 eL12 => ?_)
      have h := lt_e eL12 h
      refine sx_iload (j := 4) dX4_measureSteps_73 rfl ?_
      refine sx_aload_n (i := 0) (j := 0) dX4_measureSteps_75 rfl rfl ?_
      refine sx_iload (j := 5) dX4_measureSteps_76 rfl ?_
      obtain ⟨z13, ez13, h⟩ := bd_e h
      refine sx_callV (avs := [.int v6]) (rest := [.int v5]) (st1 := [.int z13, .int v5]) dX4_measureSteps_78 (mX4_kinBits h0 ez13) ciX4_kinBits (Or.inl wd_639) (X4_k h0) rfl rfl rfl rfl (rm_m rfl) rfl (Nat.le_of_ble_eq_true rfl) rfl ?_
      refine sx_ior dX4_measureSteps_81 ?_
      refine sx_topi (fun w14 ew14 => ?_)
      have h := lt_e ew14 h
      refine sx_istore (lv' := [(0, .ref a0), (2, .int v2), (3, .int v3), (4, .int v4), (5, .int w14), (6, .int v6)]) dX4_measureSteps_82 (by decide) rfl ?_
      obtain ⟨w15, ew15⟩ : ∃ w : Int32, w = v6 + (1 : Int32) := ⟨_, rfl⟩
      have h := lt_e ew15 h
      refine sx_iinc (j := 5) (v := w15) (lv' := [(0, .ref a0), (2, .int v2), (3, .int v3), (4, .int v4), (5, .int w14), (6, .int w15)]) dX4_measureSteps_84 rfl (ii_1 ew15) (by decide) rfl ?_
      refine sx_goto (tgt := 45) dX4_measureSteps_87 rfl ?_
      obtain rfl := Option.some.inj h
      exact sx_sub [0, 1, 2, 3, 4, 5] rfl (k1 _ rfl)
    · have h := if_n c10 h
      obtain ⟨w16, ew16⟩ : ∃ w : Int32, w = v6 + (1 : Int32) := ⟨_, rfl⟩
      have h := lt_e ew16 h
      refine sx_iinc (j := 5) (v := w16) (lv' := [(0, .ref a0), (2, .int v2), (3, .int v3), (4, .int v4), (5, .int v5), (6, .int w16)]) dX4_measureSteps_84 rfl (ii_1 ew16) (by decide) rfl ?_
      refine sx_goto (tgt := 45) dX4_measureSteps_87 rfl ?_
      obtain rfl := Option.some.inj h
      exact sx_sub [0, 1, 2, 3, 4, 5] rfl (k1 _ rfl)
set_option maxRecDepth 100000 in
set_option maxHeartbeats 4000000 in
theorem tX4_measureSteps_b29 {l : Launch} {E : Ev} {r : Option Value} {L' L : HL} {a0 : Nat} {v2 : Int32} {v3 : Int32} {v4 : Int32} {z : Tn (Int32 × Int32 × Int32 × HL) (HL)} (h0 : isX4 E a0) (h : fX4_measureSteps_b29 a0 v2 v3 v4 L = some z) (k1 : ∀ s, z = .inl s → Sx l E yX4_measureSteps cX4_measureSteps 7 (none) (2) r L' 29 [(0, .ref a0), (2, .int s.1), (3, .int s.2.1), (4, .int s.2.2.1)] [] s.2.2.2) (k2 : ∀ s, z = .inr (.inl s) → Sx l E yX4_measureSteps cX4_measureSteps 7 (none) (2) r L' 108 [] [] s.2.2.2) (k3 : ∀ v, z = .inr (.inr v) → r = none ∧ L' = v) : Sx l E yX4_measureSteps cX4_measureSteps 7 (none) (2) r L' 29 [(0, .ref a0), (2, .int v2), (3, .int v3), (4, .int v4)] [] L := by
  unfold fX4_measureSteps_b29 at h
  refine sx_iload (j := 3) dX4_measureSteps_29 rfl ?_
  refine sx_iconst (v := (5 : Int32)) dX4_measureSteps_31 (by decide) ?_
  refine sx_icmp_ge (tgt := 108) dX4_measureSteps_32 rfl (fun c7 => ?_) (fun c7 => ?_)
  · have h := if_e c7 h
    obtain rfl := Option.some.inj h
    exact sx_sub [] rfl (k2 _ rfl)
  · have h := if_n c7 h
    refine sx_iload_n (i := 3) (j := 2) dX4_measureSteps_35 rfl rfl ?_
    refine sx_if_eq (tgt := 108) dX4_measureSteps_36 rfl (fun c8 => ?_) (fun c8 => ?_)
    · have h := if_e c8 h
      obtain rfl := Option.some.inj h
      exact sx_sub [] rfl (k2 _ rfl)
    · have h := if_n c8 h
      refine sx_iconst (v := (0 : Int32)) dX4_measureSteps_39 (by decide) ?_
      refine sx_istore (lv' := [(0, .ref a0), (2, .int v2), (3, .int v3), (4, .int v4), (5, .int (0 : Int32))]) dX4_measureSteps_40 (by decide) rfl ?_
      refine sx_iconst (v := (0 : Int32)) dX4_measureSteps_42 (by decide) ?_
      refine sx_istore (lv' := [(0, .ref a0), (2, .int v2), (3, .int v3), (4, .int v4), (5, .int (0 : Int32)), (6, .int (0 : Int32))]) dX4_measureSteps_43 (by decide) rfl ?_
      obtain ⟨x21, hx, q1, q2⟩ := lx_e h
      refine sx_sub (lv' := [(0, .ref a0), (2, .int v2), (3, .int v3), (4, .int v4), (5, .int (0 : Int32)), (6, .int (0 : Int32))]) [0, 1, 2, 3, 4, 5] rfl ?_
      refine lp_go (fun s17 => Sx l E yX4_measureSteps cX4_measureSteps 7 (none) (2) r L' 45 [(0, .ref a0), (2, .int v2), (3, .int v3), (4, .int v4), (5, .int s17.1), (6, .int s17.2.1)] [] s17.2.2) x21 (fun s17 z2 hz c1 c2 => ?_) FU _ hx
      refine tX4_measureSteps_b45 h0 hz (fun s2 e => c1 s2 e) (fun s17 e => ?_) (fun v e => ?_)
      · have h := q1 _ (c2 _ e).symm
        refine sx_iload (j := 3) dX4_measureSteps_90 rfl ?_
        refine sx_iload_n (i := 2) (j := 1) dX4_measureSteps_92 rfl rfl ?_
        refine sx_iconst (v := (-1 : Int32)) dX4_measureSteps_93 (by decide) ?_
        refine sx_ixor dX4_measureSteps_94 ?_
        refine sx_iand dX4_measureSteps_95 ?_
        refine sx_topi (fun w18 ew18 => ?_)
        have h := lt_e ew18 h
        refine sx_istore_n (i := 3) (lv' := [(0, .ref a0), (2, .int v2), (3, .int w18), (4, .int v4), (5, .int s17.1)]) dX4_measureSteps_96 rfl (by decide) rfl ?_
        refine sx_iload_n (i := 2) (j := 1) dX4_measureSteps_97 rfl rfl ?_
        refine sx_iload (j := 4) dX4_measureSteps_98 rfl ?_
        refine sx_ior dX4_measureSteps_100 ?_
        refine sx_topi (fun w19 ew19 => ?_)
        have h := lt_e ew19 h
        refine sx_istore_n (i := 2) (lv' := [(0, .ref a0), (2, .int w19), (3, .int w18), (4, .int v4), (5, .int s17.1)]) dX4_measureSteps_101 rfl (by decide) rfl ?_
        obtain ⟨w20, ew20⟩ : ∃ w : Int32, w = v4 + (1 : Int32) := ⟨_, rfl⟩
        have h := lt_e ew20 h
        refine sx_iinc (j := 3) (v := w20) (lv' := [(0, .ref a0), (2, .int w19), (3, .int w18), (4, .int w20), (5, .int s17.1)]) dX4_measureSteps_102 rfl (ii_1 ew20) (by decide) rfl ?_
        refine sx_goto (tgt := 29) dX4_measureSteps_105 rfl ?_
        obtain rfl := Option.some.inj h
        exact sx_sub [0, 1, 2, 3] rfl (k1 _ rfl)
      · exact k3 _ (Option.some.inj (q2 _ (c2 _ e).symm)).symm
set_option maxRecDepth 100000 in
set_option maxHeartbeats 4000000 in
theorem mX4_measureSteps {l : Launch} {E : Ev} {L : HL} {a0 : Nat} {v1 : Int32} {z : HL} (h0 : isX4 E a0) (h : fX4_measureSteps a0 v1 L = some z) : Mt l E yX4_measureSteps cX4_measureSteps 7 (none) (2) [.ref a0, .int v1] L (none) z := by
  obtain ⟨r, hr⟩ : ∃ r : Option Value, r = none := ⟨_, rfl⟩
  obtain ⟨L', hL'⟩ : ∃ L' : HL, L' = z := ⟨_, rfl⟩
  have k3 : r = none ∧ L' = z := ⟨hr, hL'⟩
  refine mt_eq hr hL' ?_
  refine Mt.of (plainFor_of_name (by decide)) (Nat.le_of_ble_eq_true rfl) ?_
  refine sx_sub (lv' := [(0, .ref a0), (1, .int v1)]) [0, 1] rfl ?_
  unfold fX4_measureSteps at h
  refine sx_iconst (v := (0 : Int32)) dX4_measureSteps_0 (by decide) ?_
  refine sx_istore_n (i := 2) (lv' := [(0, .ref a0), (1, .int v1), (2, .int (0 : Int32))]) dX4_measureSteps_1 rfl (by decide) rfl ?_
  obtain ⟨x24, hx, q1, q2⟩ := lx_e h
  refine sx_sub (lv' := [(0, .ref a0), (1, .int v1), (2, .int (0 : Int32))]) [0, 1, 2] rfl ?_
  refine lp_go (fun s5 => Sx l E yX4_measureSteps cX4_measureSteps 7 (none) (2) r L' 2 [(0, .ref a0), (1, .int v1), (2, .int s5.1)] [] s5.2) x24 (fun s5 z2 hz c1 c2 => ?_) FU _ hx
  refine tX4_measureSteps_b2 h0 hz (fun s2 e => c1 s2 e) (fun s5 e => ?_) (fun v e => ?_)
  · have h := q1 _ (c2 _ e).symm
    refine sx_iconst (v := (1 : Int32)) dX4_measureSteps_20 (by decide) ?_
    refine sx_iload_n (i := 1) (j := 1) dX4_measureSteps_21 rfl rfl ?_
    refine sx_ishl dX4_measureSteps_22 ?_
    refine sx_topi (fun w6 ew6 => ?_)
    have h := lt_e ew6 h
    refine sx_istore_n (i := 2) (lv' := [(0, .ref a0), (1, .int v1), (2, .int w6)]) dX4_measureSteps_23 rfl (by decide) rfl ?_
    refine sx_iload_n (i := 2) (j := 2) dX4_measureSteps_24 rfl rfl ?_
    refine sx_istore_n (i := 3) (lv' := [(0, .ref a0), (1, .int v1), (2, .int w6), (3, .int w6)]) dX4_measureSteps_25 rfl (by decide) rfl ?_
    refine sx_iconst (v := (0 : Int32)) dX4_measureSteps_26 (by decide) ?_
    refine sx_istore (lv' := [(0, .ref a0), (1, .int v1), (2, .int w6), (3, .int w6), (4, .int (0 : Int32))]) dX4_measureSteps_27 (by decide) rfl ?_
    obtain ⟨x23, hx, q1, q2⟩ := lx_e h
    refine sx_sub (lv' := [(0, .ref a0), (2, .int w6), (3, .int w6), (4, .int (0 : Int32))]) [0, 2, 3, 4] rfl ?_
    refine lp_go (fun s22 => Sx l E yX4_measureSteps cX4_measureSteps 7 (none) (2) r L' 29 [(0, .ref a0), (2, .int s22.1), (3, .int s22.2.1), (4, .int s22.2.2.1)] [] s22.2.2.2) x23 (fun s22 z2 hz c1 c2 => ?_) FU _ hx
    refine tX4_measureSteps_b29 h0 hz (fun s2 e => c1 s2 e) (fun s22 e => ?_) (fun v e => ?_)
    · have h := q1 _ (c2 _ e).symm
      obtain rfl := Option.some.inj h
      exact sx_vret dX4_measureSteps_108 rfl k3.1 k3.2
    · have e2 := Option.some.inj (q2 _ (c2 _ e).symm)
      subst e2
      exact k3
  · have e2 := Option.some.inj (q2 _ (c2 _ e).symm)
    subst e2
    exact k3
set_option maxRecDepth 100000 in
set_option maxHeartbeats 4000000 in
theorem mX4_has {l : Launch} {E : Ev} {L : HL} {a0 : Nat} {v1 : Int32} {z : Int32} (h0 : isX4 E a0) (h : fX4_has a0 v1 L = some z) : Mt l E yX4_has cX4_has 2 (some .boolean) (1) [.ref a0, .int v1] L (some (.int z)) L := by
  obtain ⟨r, hr⟩ : ∃ r : Option Value, r = some (.int z) := ⟨_, rfl⟩
  obtain ⟨L', hL'⟩ : ∃ L' : HL, L' = L := ⟨_, rfl⟩
  have k3 : r = some (.int z) ∧ L' = L := ⟨hr, hL'⟩
  refine mt_eq hr hL' ?_
  refine Mt.of (plainFor_of_name (by decide)) (Nat.le_of_ble_eq_true rfl) ?_
  refine sx_sub (lv' := [(0, .ref a0), (1, .int v1)]) [0, 1] rfl ?_
  unfold fX4_has at h
  refine sx_iload_n (i := 1) (j := 1) dX4_has_0 rfl rfl ?_
  refine sx_if_lt (tgt := 21) dX4_has_1 rfl (fun c1 => ?_) (fun c1 => ?_)
  · have h := if_e c1 h
    refine sx_iconst (v := (0 : Int32)) dX4_has_21 (by decide) ?_
    obtain rfl := Option.some.inj h
    exact sx_iret dX4_has_22 rfl (by decide) k3.1 k3.2
  · have h := if_n c1 h
    refine sx_iload_n (i := 1) (j := 1) dX4_has_4 rfl rfl ?_
    refine sx_aload_n (i := 0) (j := 0) dX4_has_5 rfl rfl ?_
    refine sx_get (k := 0) (v := .int (L.1 a0 0)) dX4_has_6 (X4_k h0) cf_4 (Or.inl wd_133) (by decide : 0 < 17) rfl ?_
    refine sx_icmp_ge (tgt := 21) dX4_has_9 rfl (fun c2 => ?_) (fun c2 => ?_)
    · have h := if_e c2 h
      refine sx_iconst (v := (0 : Int32)) dX4_has_21 (by decide) ?_
      obtain rfl := Option.some.inj h
      exact sx_iret dX4_has_22 rfl (by decide) k3.1 k3.2
    · have h := if_n c2 h
      refine sx_iload_n (i := 1) (j := 1) dX4_has_12 rfl rfl ?_
      refine sx_iconst (v := (5 : Int32)) dX4_has_13 (by decide) ?_
      refine sx_icmp_ge (tgt := 21) dX4_has_14 rfl (fun c3 => ?_) (fun c3 => ?_)
      · have h := if_e c3 h
        refine sx_iconst (v := (0 : Int32)) dX4_has_21 (by decide) ?_
        obtain rfl := Option.some.inj h
        exact sx_iret dX4_has_22 rfl (by decide) k3.1 k3.2
      · have h := if_n c3 h
        refine sx_iconst (v := (1 : Int32)) dX4_has_17 (by decide) ?_
        refine sx_goto (tgt := 22) dX4_has_18 rfl ?_
        obtain rfl := Option.some.inj h
        exact sx_iret dX4_has_22 rfl (by decide) k3.1 k3.2
set_option maxRecDepth 100000 in
set_option maxHeartbeats 4000000 in
theorem tX4_measureDwellers_b2 {l : Launch} {E : Ev} {r : Option Value} {L' L : HL} {a0 : Nat} {v1 : Int32} {z : Tn (Int32 × HL) (HL)} (h0 : isX4 E a0) (h : fX4_measureDwellers_b2 a0 v1 L = some z) (k1 : ∀ s, z = .inl s → Sx l E yX4_measureDwellers cX4_measureDwellers 3 (none) (2) r L' 2 [(0, .ref a0), (1, .int s.1)] [] s.2) (k2 : ∀ s, z = .inr (.inl s) → Sx l E yX4_measureDwellers cX4_measureDwellers 3 (none) (2) r L' 27 [(0, .ref a0)] [] s.2) (k3 : ∀ v, z = .inr (.inr v) → r = none ∧ L' = v) : Sx l E yX4_measureDwellers cX4_measureDwellers 3 (none) (2) r L' 2 [(0, .ref a0), (1, .int v1)] [] L := by
  unfold fX4_measureDwellers_b2 at h
  refine sx_iload_n (i := 1) (j := 1) dX4_measureDwellers_2 rfl rfl ?_
  refine sx_iconst (v := (5 : Int32)) dX4_measureDwellers_3 (by decide) ?_
  refine sx_icmp_ge (tgt := 27) dX4_measureDwellers_4 rfl (fun c1 => ?_) (fun c1 => ?_)
  · have h := if_e c1 h
    obtain rfl := Option.some.inj h
    exact sx_sub [0] rfl (k2 _ rfl)
  · have h := if_n c1 h
    refine sx_aload_n (i := 0) (j := 0) dX4_measureDwellers_7 rfl rfl ?_
    refine sx_get (k := 15) (v := .ref (a0 + 12)) dX4_measureDwellers_8 (X4_k h0) cf_4 (Or.inl wd_172) (by decide : 15 < 17) (congrArg Value.ref (X4_r15 h0)) ?_
    refine sx_iload_n (i := 1) (j := 1) dX4_measureDwellers_11 rfl rfl ?_
    refine sx_iconst (v := (0 : Int32)) dX4_measureDwellers_12 (by decide) ?_
    obtain ⟨c2, h⟩ := gd_e h
    refine sx_iast dX4_measureDwellers_13 (X4_a15 h0) c2 (fun L3 eL3 => ?_)
    have h := lt_e eL3 h
    refine sx_aload_n (i := 0) (j := 0) dX4_measureDwellers_14 rfl rfl ?_
    refine sx_get (k := 16) (v := .ref (a0 + 13)) dX4_measureDwellers_15 (X4_k h0) cf_4 (Or.inl wd_173) (by decide : 16 < 17) (congrArg Value.ref (X4_r16 h0)) ?_
    refine sx_iload_n (i := 1) (j := 1) dX4_measureDwellers_18 rfl rfl ?_
    refine sx_iconst (v := (0 : Int32)) dX4_measureDwellers_19 (by decide) ?_
    obtain ⟨c4, h⟩ := gd_e h
    refine sx_iast dX4_measureDwellers_20 (X4_a16 h0) c4 (fun L5 eL5 => ?_)
    have h := lt_e eL5 h
    obtain ⟨w6, ew6⟩ : ∃ w : Int32, w = v1 + (1 : Int32) := ⟨_, rfl⟩
    have h := lt_e ew6 h
    refine sx_iinc (j := 1) (v := w6) (lv' := [(0, .ref a0), (1, .int w6)]) dX4_measureDwellers_21 rfl (ii_1 ew6) (by decide) rfl ?_
    refine sx_goto (tgt := 2) dX4_measureDwellers_24 rfl ?_
    obtain rfl := Option.some.inj h
    exact sx_sub [0, 1] rfl (k1 _ rfl)
set_option maxRecDepth 100000 in
set_option maxHeartbeats 4000000 in
theorem tX4_measureDwellers_b29 {l : Launch} {E : Ev} {r : Option Value} {L' L : HL} {a0 : Nat} {v1 : Int32} {z : Tn (Int32 × HL) (HL)} (h0 : isX4 E a0) (h : fX4_measureDwellers_b29 a0 v1 L = some z) (k1 : ∀ s, z = .inl s → Sx l E yX4_measureDwellers cX4_measureDwellers 3 (none) (2) r L' 29 [(0, .ref a0), (1, .int s.1)] [] s.2) (k2 : ∀ s, z = .inr (.inl s) → Sx l E yX4_measureDwellers cX4_measureDwellers 3 (none) (2) r L' 85 [] [] s.2) (k3 : ∀ v, z = .inr (.inr v) → r = none ∧ L' = v) : Sx l E yX4_measureDwellers cX4_measureDwellers 3 (none) (2) r L' 29 [(0, .ref a0), (1, .int v1)] [] L := by
  unfold fX4_measureDwellers_b29 at h
  refine sx_iload_n (i := 1) (j := 1) dX4_measureDwellers_29 rfl rfl ?_
  refine sx_aload_n (i := 0) (j := 0) dX4_measureDwellers_30 rfl rfl ?_
  refine sx_get (k := 2) (v := .int (L.1 a0 2)) dX4_measureDwellers_31 (X4_k h0) cf_4 (Or.inl wd_140) (by decide : 2 < 17) rfl ?_
  refine sx_icmp_ge (tgt := 85) dX4_measureDwellers_34 rfl (fun c8 => ?_) (fun c8 => ?_)
  · have h := if_e c8 h
    obtain rfl := Option.some.inj h
    exact sx_sub [] rfl (k2 _ rfl)
  · have h := if_n c8 h
    refine sx_aload_n (i := 0) (j := 0) dX4_measureDwellers_37 rfl rfl ?_
    refine sx_get (k := 12) (v := .ref (a0 + 9)) dX4_measureDwellers_38 (X4_k h0) cf_4 (Or.inl wd_165) (by decide : 12 < 17) (congrArg Value.ref (X4_r12 h0)) ?_
    refine sx_iload_n (i := 1) (j := 1) dX4_measureDwellers_41 rfl rfl ?_
    obtain ⟨c9, h⟩ := gd_e h
    refine sx_iald dX4_measureDwellers_42 (X4_a12 h0) c9 ?_
    refine sx_topi (fun w10 ew10 => ?_)
    have h := lt_e ew10 h
    refine sx_istore_n (i := 2) (lv' := [(0, .ref a0), (1, .int v1), (2, .int w10)]) dX4_measureDwellers_43 rfl (by decide) rfl ?_
    refine sx_aload_n (i := 0) (j := 0) dX4_measureDwellers_44 rfl rfl ?_
    refine sx_iload_n (i := 2) (j := 2) dX4_measureDwellers_45 rfl rfl ?_
    obtain ⟨z11, ez11, h⟩ := bd_e h
    refine sx_callV (avs := [.int w10]) (rest := []) (st1 := [.int z11]) dX4_measureDwellers_46 (mX4_has h0 ez11) ciX4_has (Or.inl wd_416) (X4_k h0) rfl rfl rfl rfl (rm_m rfl) rfl (Nat.le_of_ble_eq_true rfl) rfl ?_
    refine sx_if_eq (tgt := 79) dX4_measureDwellers_49 rfl (fun c12 => ?_) (fun c12 => ?_)
    · have h := if_e c12 h
      obtain ⟨w13, ew13⟩ : ∃ w : Int32, w = v1 + (1 : Int32) := ⟨_, rfl⟩
      have h := lt_e ew13 h
      refine sx_iinc (j := 1) (v := w13) (lv' := [(0, .ref a0), (1, .int w13), (2, .int w10)]) dX4_measureDwellers_79 rfl (ii_1 ew13) (by decide) rfl ?_
      refine sx_goto (tgt := 29) dX4_measureDwellers_82 rfl ?_
      obtain rfl := Option.some.inj h
      exact sx_sub [0, 1] rfl (k1 _ rfl)
    · have h := if_n c12 h
      refine sx_aload_n (i := 0) (j := 0) dX4_measureDwellers_52 rfl rfl ?_
      refine sx_get (k := 15) (v := .ref (a0 + 12)) dX4_measureDwellers_53 (X4_k h0) cf_4 (Or.inl wd_172) (by decide : 15 < 17) (congrArg Value.ref (X4_r15 h0)) ?_
      refine sx_iload_n (i := 2) (j := 2) dX4_measureDwellers_56 rfl rfl ?_
      refine sx_dup2 dX4_measureDwellers_57 rfl rfl ?_
      obtain ⟨c14, h⟩ := gd_e h
      refine sx_iald dX4_measureDwellers_58 (X4_a15 h0) c14 ?_
      refine sx_iconst (v := (1 : Int32)) dX4_measureDwellers_59 (by decide) ?_
      refine sx_iadd dX4_measureDwellers_60 ?_
      obtain ⟨c15, h⟩ := gd_e h
      refine sx_iast dX4_measureDwellers_61 (X4_a15 h0) c15 (fun L16 eL16 => ?_)
      have h := lt_e eL16 h
      refine sx_aload_n (i := 0) (j := 0) dX4_measureDwellers_62 rfl rfl ?_
      refine sx_get (k := 16) (v := .ref (a0 + 13)) dX4_measureDwellers_63 (X4_k h0) cf_4 (Or.inl wd_173) (by decide : 16 < 17) (congrArg Value.ref (X4_r16 h0)) ?_
      refine sx_iload_n (i := 2) (j := 2) dX4_measureDwellers_66 rfl rfl ?_
      refine sx_dup2 dX4_measureDwellers_67 rfl rfl ?_
      obtain ⟨c17, h⟩ := gd_e h
      refine sx_iald dX4_measureDwellers_68 (X4_a16 h0) c17 ?_
      refine sx_iconst (v := (1 : Int32)) dX4_measureDwellers_69 (by decide) ?_
      refine sx_aload_n (i := 0) (j := 0) dX4_measureDwellers_70 rfl rfl ?_
      refine sx_get (k := 11) (v := .ref (a0 + 8)) dX4_measureDwellers_71 (X4_k h0) cf_4 (Or.inl wd_162) (by decide : 11 < 17) (congrArg Value.ref (X4_r11 h0)) ?_
      refine sx_iload_n (i := 1) (j := 1) dX4_measureDwellers_74 rfl rfl ?_
      obtain ⟨c18, h⟩ := gd_e h
      refine sx_iald dX4_measureDwellers_75 (X4_a11 h0) c18 ?_
      refine sx_ishl dX4_measureDwellers_76 ?_
      refine sx_ior dX4_measureDwellers_77 ?_
      obtain ⟨c19, h⟩ := gd_e h
      refine sx_iast dX4_measureDwellers_78 (X4_a16 h0) c19 (fun L20 eL20 => ?_)
      have h := lt_e eL20 h
      obtain ⟨w21, ew21⟩ : ∃ w : Int32, w = v1 + (1 : Int32) := ⟨_, rfl⟩
      have h := lt_e ew21 h
      refine sx_iinc (j := 1) (v := w21) (lv' := [(0, .ref a0), (1, .int w21), (2, .int w10)]) dX4_measureDwellers_79 rfl (ii_1 ew21) (by decide) rfl ?_
      refine sx_goto (tgt := 29) dX4_measureDwellers_82 rfl ?_
      obtain rfl := Option.some.inj h
      exact sx_sub [0, 1] rfl (k1 _ rfl)
set_option maxRecDepth 100000 in
set_option maxHeartbeats 4000000 in
theorem mX4_measureDwellers {l : Launch} {E : Ev} {L : HL} {a0 : Nat} {z : HL} (h0 : isX4 E a0) (h : fX4_measureDwellers a0 L = some z) : Mt l E yX4_measureDwellers cX4_measureDwellers 3 (none) (2) [.ref a0] L (none) z := by
  obtain ⟨r, hr⟩ : ∃ r : Option Value, r = none := ⟨_, rfl⟩
  obtain ⟨L', hL'⟩ : ∃ L' : HL, L' = z := ⟨_, rfl⟩
  have k3 : r = none ∧ L' = z := ⟨hr, hL'⟩
  refine mt_eq hr hL' ?_
  refine Mt.of (plainFor_of_name (by decide)) (Nat.le_of_ble_eq_true rfl) ?_
  refine sx_sub (lv' := [(0, .ref a0)]) [0] rfl ?_
  unfold fX4_measureDwellers at h
  refine sx_iconst (v := (0 : Int32)) dX4_measureDwellers_0 (by decide) ?_
  refine sx_istore_n (i := 1) (lv' := [(0, .ref a0), (1, .int (0 : Int32))]) dX4_measureDwellers_1 rfl (by decide) rfl ?_
  obtain ⟨x24, hx, q1, q2⟩ := lx_e h
  refine sx_sub (lv' := [(0, .ref a0), (1, .int (0 : Int32))]) [0, 1] rfl ?_
  refine lp_go (fun s7 => Sx l E yX4_measureDwellers cX4_measureDwellers 3 (none) (2) r L' 2 [(0, .ref a0), (1, .int s7.1)] [] s7.2) x24 (fun s7 z2 hz c1 c2 => ?_) FU _ hx
  refine tX4_measureDwellers_b2 h0 hz (fun s2 e => c1 s2 e) (fun s7 e => ?_) (fun v e => ?_)
  · have h := q1 _ (c2 _ e).symm
    refine sx_iconst (v := (0 : Int32)) dX4_measureDwellers_27 (by decide) ?_
    refine sx_istore_n (i := 1) (lv' := [(0, .ref a0), (1, .int (0 : Int32))]) dX4_measureDwellers_28 rfl (by decide) rfl ?_
    obtain ⟨x23, hx, q1, q2⟩ := lx_e h
    refine sx_sub (lv' := [(0, .ref a0), (1, .int (0 : Int32))]) [0, 1] rfl ?_
    refine lp_go (fun s22 => Sx l E yX4_measureDwellers cX4_measureDwellers 3 (none) (2) r L' 29 [(0, .ref a0), (1, .int s22.1)] [] s22.2) x23 (fun s22 z2 hz c1 c2 => ?_) FU _ hx
    refine tX4_measureDwellers_b29 h0 hz (fun s2 e => c1 s2 e) (fun s22 e => ?_) (fun v e => ?_)
    · have h := q1 _ (c2 _ e).symm
      obtain rfl := Option.some.inj h
      exact sx_vret dX4_measureDwellers_85 rfl k3.1 k3.2
    · have e2 := Option.some.inj (q2 _ (c2 _ e).symm)
      subst e2
      exact k3
  · have e2 := Option.some.inj (q2 _ (c2 _ e).symm)
    subst e2
    exact k3
set_option maxRecDepth 100000 in
set_option maxHeartbeats 4000000 in
theorem tX4_measuredRank_j68 {l : Launch} {E : Ev} {r : Option Value} {L' L : HL} {a0 : Nat} {v1 : Int32} {v2 : Int32} {v3 : Int32} {v4 : Int32} {v5 : Int32} {s0 : Int32} {z : Int32} (h0 : isX4 E a0) (h : fX4_measuredRank_j68 a0 v1 v2 v3 v4 v5 s0 L = some z) (k3 : r = some (.int z) ∧ L' = L) : Sx l E yX4_measuredRank cX4_measuredRank 7 (some .int) (2) r L' 68 [(0, .ref a0), (1, .int v1), (2, .int v2), (3, .int v3), (4, .int v4), (5, .int v5)] [.int s0] L := by
  unfold fX4_measuredRank_j68 at h
  refine sx_istore (lv' := [(0, .ref a0), (1, .int v1), (2, .int v2), (3, .int v3), (4, .int v4), (5, .int v5), (6, .int s0)]) dX4_measuredRank_68 (by decide) rfl ?_
  refine sx_iload_n (i := 1) (j := 1) dX4_measuredRank_70 rfl rfl ?_
  by_cases c8 : v1 = (0 : Int32)
  · have h := if_e c8 h
    refine sx_swIn (tgt := 108) (0 : Int32) dX4_measuredRank_71 c8 (by decide) (by decide) rfl rfl ?_
    refine sx_iload (j := 4) dX4_measuredRank_108 rfl ?_
    obtain rfl := Option.some.inj h
    exact sx_iret dX4_measuredRank_110 rfl rfl k3.1 k3.2
  have h := if_n c8 h
  by_cases c9 : v1 = (1 : Int32)
  · have h := if_e c9 h
    refine sx_swIn (tgt := 111) (1 : Int32) dX4_measuredRank_71 c9 (by decide) (by decide) rfl rfl ?_
    refine sx_iload (j := 6) dX4_measuredRank_111 rfl ?_
    refine sx_if_eq (tgt := 121) dX4_measuredRank_113 rfl (fun c10 => ?_) (fun c10 => ?_)
    · have h := if_e c10 h
      refine sx_sipush (v := (1000 : Int32)) dX4_measuredRank_121 (by decide) ?_
      obtain rfl := Option.some.inj h
      exact sx_iret dX4_measuredRank_124 rfl rfl k3.1 k3.2
    · have h := if_n c10 h
      refine sx_iload (j := 4) dX4_measuredRank_116 rfl ?_
      refine sx_goto (tgt := 124) dX4_measuredRank_118 rfl ?_
      obtain rfl := Option.some.inj h
      exact sx_iret dX4_measuredRank_124 rfl rfl k3.1 k3.2
  have h := if_n c9 h
  by_cases c11 : v1 = (2 : Int32)
  · have h := if_e c11 h
    refine sx_swIn (tgt := 125) (2 : Int32) dX4_measuredRank_71 c11 (by decide) (by decide) rfl rfl ?_
    refine sx_iload (j := 4) dX4_measuredRank_125 rfl ?_
    refine sx_sipush (v := (1000 : Int32)) dX4_measuredRank_127 (by decide) ?_
    refine sx_icmp_ne (tgt := 139) dX4_measuredRank_130 rfl (fun c12 => ?_) (fun c12 => ?_)
    · have h := if_e c12 h
      refine sx_sipush (v := (1000 : Int32)) dX4_measuredRank_133 (by decide) ?_
      refine sx_goto (tgt := 154) dX4_measuredRank_136 rfl ?_
      obtain rfl := Option.some.inj h
      exact sx_iret dX4_measuredRank_154 rfl rfl k3.1 k3.2
    · have h := if_n c12 h
      refine sx_bipush (v := (10 : Int32)) dX4_measuredRank_139 (by decide) ?_
      refine sx_iload (j := 4) dX4_measuredRank_141 rfl ?_
      refine sx_imul dX4_measuredRank_143 ?_
      refine sx_aload_n (i := 0) (j := 0) dX4_measuredRank_144 rfl rfl ?_
      refine sx_get (k := 5) (v := .ref (a0 + 2)) dX4_measuredRank_145 (X4_k h0) cf_4 (Or.inl wd_149) (by decide : 5 < 17) (congrArg Value.ref (X4_r5 h0)) ?_
      refine sx_iload_n (i := 3) (j := 3) dX4_measuredRank_148 rfl rfl ?_
      obtain ⟨c13, h⟩ := gd_e h
      refine sx_iald dX4_measuredRank_149 (X4_a5 h0) c13 ?_
      refine sx_bipush (v := (10 : Int32)) dX4_measuredRank_150 (by decide) ?_
      refine sx_idiv dX4_measuredRank_152 (by decide) ?_
      refine sx_isub dX4_measuredRank_153 ?_
      obtain rfl := Option.some.inj h
      exact sx_iret dX4_measuredRank_154 rfl rfl k3.1 k3.2
  have h := if_n c11 h
  by_cases c14 : v1 = (3 : Int32)
  · have h := if_e c14 h
    refine sx_swIn (tgt := 155) (3 : Int32) dX4_measuredRank_71 c14 (by decide) (by decide) rfl rfl ?_
    refine sx_iload (j := 6) dX4_measuredRank_155 rfl ?_
    refine sx_if_eq (tgt := 184) dX4_measuredRank_157 rfl (fun c15 => ?_) (fun c15 => ?_)
    · have h := if_e c15 h
      refine sx_sipush (v := (1000 : Int32)) dX4_measuredRank_184 (by decide) ?_
      obtain rfl := Option.some.inj h
      exact sx_iret dX4_measuredRank_187 rfl rfl k3.1 k3.2
    · have h := if_n c15 h
      refine sx_aload_n (i := 0) (j := 0) dX4_measuredRank_160 rfl rfl ?_
      refine sx_aload_n (i := 0) (j := 0) dX4_measuredRank_161 rfl rfl ?_
      refine sx_get (k := 16) (v := .ref (a0 + 13)) dX4_measuredRank_162 (X4_k h0) cf_4 (Or.inl wd_173) (by decide : 16 < 17) (congrArg Value.ref (X4_r16 h0)) ?_
      refine sx_iload_n (i := 2) (j := 2) dX4_measuredRank_165 rfl rfl ?_
      obtain ⟨c16, h⟩ := gd_e h
      refine sx_iald dX4_measuredRank_166 (X4_a16 h0) c16 ?_
      refine sx_aload_n (i := 0) (j := 0) dX4_measuredRank_167 rfl rfl ?_
      refine sx_get (k := 16) (v := .ref (a0 + 13)) dX4_measuredRank_168 (X4_k h0) cf_4 (Or.inl wd_173) (by decide : 16 < 17) (congrArg Value.ref (X4_r16 h0)) ?_
      refine sx_iload_n (i := 3) (j := 3) dX4_measuredRank_171 rfl rfl ?_
      obtain ⟨c17, h⟩ := gd_e h
      refine sx_iald dX4_measuredRank_172 (X4_a16 h0) c17 ?_
      obtain ⟨z18, ez18, h⟩ := bd_e h
      refine sx_callV (avs := [.int (L.1 (a0 + 13) v2.toNatClampNeg), .int (L.1 (a0 + 13) v3.toNatClampNeg)]) (rest := []) (st1 := [.int z18]) dX4_measuredRank_173 (mX4_isQuiet h0 ez18) ciX4_isQuiet (Or.inl wd_651) (X4_k h0) rfl rfl rfl rfl (rm_m rfl) rfl (Nat.le_of_ble_eq_true rfl) rfl ?_
      refine sx_if_eq (tgt := 184) dX4_measuredRank_176 rfl (fun c19 => ?_) (fun c19 => ?_)
      · have h := if_e c19 h
        refine sx_sipush (v := (1000 : Int32)) dX4_measuredRank_184 (by decide) ?_
        obtain rfl := Option.some.inj h
        exact sx_iret dX4_measuredRank_187 rfl rfl k3.1 k3.2
      · have h := if_n c19 h
        refine sx_iload (j := 4) dX4_measuredRank_179 rfl ?_
        refine sx_goto (tgt := 187) dX4_measuredRank_181 rfl ?_
        obtain rfl := Option.some.inj h
        exact sx_iret dX4_measuredRank_187 rfl rfl k3.1 k3.2
  have h := if_n c14 h
  by_cases c20 : v1 = (4 : Int32)
  · have h := if_e c20 h
    refine sx_swIn (tgt := 188) (4 : Int32) dX4_measuredRank_71 c20 (by decide) (by decide) rfl rfl ?_
    refine sx_iload (j := 5) dX4_measuredRank_188 rfl ?_
    obtain rfl := Option.some.inj h
    exact sx_iret dX4_measuredRank_190 rfl rfl k3.1 k3.2
  have h := if_n c20 h
  by_cases c21 : v1 = (5 : Int32)
  · have h := if_e c21 h
    refine sx_swIn (tgt := 191) (5 : Int32) dX4_measuredRank_71 c21 (by decide) (by decide) rfl rfl ?_
    refine sx_iload (j := 5) dX4_measuredRank_191 rfl ?_
    refine sx_iconst (v := (2 : Int32)) dX4_measuredRank_193 (by decide) ?_
    refine sx_aload_n (i := 0) (j := 0) dX4_measuredRank_194 rfl rfl ?_
    refine sx_get (k := 15) (v := .ref (a0 + 12)) dX4_measuredRank_195 (X4_k h0) cf_4 (Or.inl wd_172) (by decide : 15 < 17) (congrArg Value.ref (X4_r15 h0)) ?_
    refine sx_iload_n (i := 3) (j := 3) dX4_measuredRank_198 rfl rfl ?_
    obtain ⟨c22, h⟩ := gd_e h
    refine sx_iald dX4_measuredRank_199 (X4_a15 h0) c22 ?_
    refine sx_imul dX4_measuredRank_200 ?_
    refine sx_isub dX4_measuredRank_201 ?_
    obtain rfl := Option.some.inj h
    exact sx_iret dX4_measuredRank_202 rfl rfl k3.1 k3.2
  have h := if_n c21 h
  refine sx_swOut (tgt := 203) dX4_measuredRank_71 (sw_out (lo := 0) (k := 6) [0, 1, 2, 3, 4, 5] (by decide +kernel) (List.forall_mem_cons.mpr ⟨c8, List.forall_mem_cons.mpr ⟨c9, List.forall_mem_cons.mpr ⟨c11, List.forall_mem_cons.mpr ⟨c14, List.forall_mem_cons.mpr ⟨c20, List.forall_mem_cons.mpr ⟨c21, fun _ q => absurd q List.not_mem_nil⟩⟩⟩⟩⟩⟩)) rfl ?_
  refine sx_sipush (v := (1000 : Int32)) dX4_measuredRank_203 (by decide) ?_
  obtain rfl := Option.some.inj h
  exact sx_iret dX4_measuredRank_206 rfl rfl k3.1 k3.2
set_option maxRecDepth 100000 in
set_option maxHeartbeats 4000000 in
theorem tX4_measuredRank_j39 {l : Launch} {E : Ev} {r : Option Value} {L' L : HL} {a0 : Nat} {v1 : Int32} {v2 : Int32} {v3 : Int32} {v4 : Int32} {s0 : Int32} {z : Int32} (h0 : isX4 E a0) (h : fX4_measuredRank_j39 a0 v1 v2 v3 v4 s0 L = some z) (k3 : r = some (.int z) ∧ L' = L) : Sx l E yX4_measuredRank cX4_measuredRank 7 (some .int) (2) r L' 39 [(0, .ref a0), (1, .int v1), (2, .int v2), (3, .int v3), (4, .int v4)] [.int s0] L := by
  unfold fX4_measuredRank_j39 at h
  refine sx_istore (lv' := [(0, .ref a0), (1, .int v1), (2, .int v2), (3, .int v3), (4, .int v4), (5, .int s0)]) dX4_measuredRank_39 (by decide) rfl ?_
  refine sx_aload_n (i := 0) (j := 0) dX4_measuredRank_41 rfl rfl ?_
  refine sx_get (k := 4) (v := .ref (a0 + 1)) dX4_measuredRank_42 (X4_k h0) cf_4 (Or.inl wd_146) (by decide : 4 < 17) (congrArg Value.ref (X4_r4 h0)) ?_
  refine sx_iload_n (i := 3) (j := 3) dX4_measuredRank_45 rfl rfl ?_
  obtain ⟨c4, h⟩ := gd_e h
  refine sx_iald dX4_measuredRank_46 (X4_a4 h0) c4 ?_
  refine sx_aload_n (i := 0) (j := 0) dX4_measuredRank_47 rfl rfl ?_
  refine sx_get (k := 15) (v := .ref (a0 + 12)) dX4_measuredRank_48 (X4_k h0) cf_4 (Or.inl wd_172) (by decide : 15 < 17) (congrArg Value.ref (X4_r15 h0)) ?_
  refine sx_iload_n (i := 3) (j := 3) dX4_measuredRank_51 rfl rfl ?_
  obtain ⟨c5, h⟩ := gd_e h
  refine sx_iald dX4_measuredRank_52 (X4_a15 h0) c5 ?_
  refine sx_isub dX4_measuredRank_53 ?_
  refine sx_aload_n (i := 0) (j := 0) dX4_measuredRank_54 rfl rfl ?_
  refine sx_get (k := 15) (v := .ref (a0 + 12)) dX4_measuredRank_55 (X4_k h0) cf_4 (Or.inl wd_172) (by decide : 15 < 17) (congrArg Value.ref (X4_r15 h0)) ?_
  refine sx_iload_n (i := 2) (j := 2) dX4_measuredRank_58 rfl rfl ?_
  obtain ⟨c6, h⟩ := gd_e h
  refine sx_iald dX4_measuredRank_59 (X4_a15 h0) c6 ?_
  refine sx_icmp_lt (tgt := 67) dX4_measuredRank_60 rfl (fun c7 => ?_) (fun c7 => ?_)
  · have h := if_e c7 h
    refine sx_iconst (v := (0 : Int32)) dX4_measuredRank_67 (by decide) ?_
    exact sx_sub [0, 1, 2, 3, 4, 5] rfl (tX4_measuredRank_j68 h0 h k3)
  · have h := if_n c7 h
    refine sx_iconst (v := (1 : Int32)) dX4_measuredRank_63 (by decide) ?_
    refine sx_goto (tgt := 68) dX4_measuredRank_64 rfl ?_
    exact sx_sub [0, 1, 2, 3, 4, 5] rfl (tX4_measuredRank_j68 h0 h k3)
set_option maxRecDepth 100000 in
set_option maxHeartbeats 4000000 in
theorem tX4_measuredRank_j22 {l : Launch} {E : Ev} {r : Option Value} {L' L : HL} {a0 : Nat} {v1 : Int32} {v2 : Int32} {v3 : Int32} {s0 : Int32} {z : Int32} (h0 : isX4 E a0) (h : fX4_measuredRank_j22 a0 v1 v2 v3 s0 L = some z) (k3 : r = some (.int z) ∧ L' = L) : Sx l E yX4_measuredRank cX4_measuredRank 7 (some .int) (2) r L' 22 [(0, .ref a0), (1, .int v1), (2, .int v2), (3, .int v3)] [.int s0] L := by
  unfold fX4_measuredRank_j22 at h
  refine sx_istore (lv' := [(0, .ref a0), (1, .int v1), (2, .int v2), (3, .int v3), (4, .int s0)]) dX4_measuredRank_22 (by decide) rfl ?_
  refine sx_iload (j := 4) dX4_measuredRank_24 rfl ?_
  refine sx_sipush (v := (1000 : Int32)) dX4_measuredRank_26 (by decide) ?_
  refine sx_icmp_ne (tgt := 37) dX4_measuredRank_29 rfl (fun c3 => ?_) (fun c3 => ?_)
  · have h := if_e c3 h
    refine sx_bipush (v := (9 : Int32)) dX4_measuredRank_32 (by decide) ?_
    refine sx_goto (tgt := 39) dX4_measuredRank_34 rfl ?_
    exact sx_sub [0, 1, 2, 3, 4] rfl (tX4_measuredRank_j39 h0 h k3)
  · have h := if_n c3 h
    refine sx_iload (j := 4) dX4_measuredRank_37 rfl ?_
    exact sx_sub [0, 1, 2, 3, 4] rfl (tX4_measuredRank_j39 h0 h k3)
set_option maxRecDepth 100000 in
set_option maxHeartbeats 4000000 in
theorem mX4_measuredRank {l : Launch} {E : Ev} {L : HL} {a0 : Nat} {v1 : Int32} {v2 : Int32} {v3 : Int32} {z : Int32} (h0 : isX4 E a0) (h : fX4_measuredRank a0 v1 v2 v3 L = some z) : Mt l E yX4_measuredRank cX4_measuredRank 7 (some .int) (2) [.ref a0, .int v1, .int v2, .int v3] L (some (.int z)) L := by
  obtain ⟨r, hr⟩ : ∃ r : Option Value, r = some (.int z) := ⟨_, rfl⟩
  obtain ⟨L', hL'⟩ : ∃ L' : HL, L' = L := ⟨_, rfl⟩
  have k3 : r = some (.int z) ∧ L' = L := ⟨hr, hL'⟩
  refine mt_eq hr hL' ?_
  refine Mt.of (plainFor_of_name (by decide)) (Nat.le_of_ble_eq_true rfl) ?_
  refine sx_sub (lv' := [(0, .ref a0), (1, .int v1), (2, .int v2), (3, .int v3)]) [0, 1, 2, 3] rfl ?_
  unfold fX4_measuredRank at h
  refine sx_aload_n (i := 0) (j := 0) dX4_measuredRank_0 rfl rfl ?_
  refine sx_get (k := 14) (v := .ref (a0 + 11)) dX4_measuredRank_1 (X4_k h0) cf_4 (Or.inl wd_171) (by decide : 14 < 17) (congrArg Value.ref (X4_r14 h0)) ?_
  refine sx_iload_n (i := 3) (j := 3) dX4_measuredRank_4 rfl rfl ?_
  obtain ⟨c1, h⟩ := gd_e h
  refine sx_iald dX4_measuredRank_5 (X4_a14 h0) c1 ?_
  refine sx_iconst (v := (-1 : Int32)) dX4_measuredRank_6 (by decide) ?_
  refine sx_icmp_ne (tgt := 16) dX4_measuredRank_7 rfl (fun c2 => ?_) (fun c2 => ?_)
  · have h := if_e c2 h
    refine sx_sipush (v := (1000 : Int32)) dX4_measuredRank_10 (by decide) ?_
    refine sx_goto (tgt := 22) dX4_measuredRank_13 rfl ?_
    exact sx_sub [0, 1, 2, 3] rfl (tX4_measuredRank_j22 h0 h k3)
  · have h := if_n c2 h
    refine sx_aload_n (i := 0) (j := 0) dX4_measuredRank_16 rfl rfl ?_
    refine sx_get (k := 14) (v := .ref (a0 + 11)) dX4_measuredRank_17 (X4_k h0) cf_4 (Or.inl wd_171) (by decide : 14 < 17) (congrArg Value.ref (X4_r14 h0)) ?_
    refine sx_iload_n (i := 3) (j := 3) dX4_measuredRank_20 rfl rfl ?_
    obtain ⟨c23, h⟩ := gd_e h
    refine sx_iald dX4_measuredRank_21 (X4_a14 h0) c23 ?_
    exact sx_sub [0, 1, 2, 3] rfl (tX4_measuredRank_j22 h0 h k3)
set_option maxRecDepth 100000 in
set_option maxHeartbeats 4000000 in
theorem tX4_heirBy_j93 {l : Launch} {E : Ev} {r : Option Value} {L' L : HL} {a0 : Nat} {v1 : Int32} {v2 : Int32} {v3 : Int32} {v4 : Int32} {v5 : Int32} {v6 : Int32} {v7 : Int32} {z : Tn (Int32 × Int32 × Int32) (Int32 × HL)} (h0 : isX4 E a0) (h : fX4_heirBy_j93 a0 v1 v2 v3 v4 v5 v6 v7 L = some z) (k1 : ∀ s, z = .inl s → Sx l E yX4_heirBy cX4_heirBy 8 (some .int) (3) r L' 30 [(0, .ref a0), (1, .int v1), (2, .int v2), (3, .int v3), (4, .int s.1), (5, .int s.2.1), (6, .int s.2.2)] [] L) (k2 : ∀ s, z = .inr (.inl s) → Sx l E yX4_heirBy cX4_heirBy 8 (some .int) (3) r L' 114 [(4, .int s.1)] [] L) (k3 : ∀ v, z = .inr (.inr v) → r = some (.int v.1) ∧ L' = v.2) : Sx l E yX4_heirBy cX4_heirBy 8 (some .int) (3) r L' 93 [(0, .ref a0), (1, .int v1), (2, .int v2), (3, .int v3), (4, .int v4), (5, .int v5), (6, .int v6), (7, .int v7)] [] L := by
  unfold fX4_heirBy_j93 at h
  refine sx_iload (j := 7) dX4_heirBy_93 rfl ?_
  refine sx_iload (j := 5) dX4_heirBy_95 rfl ?_
  refine sx_icmp_ge (tgt := 108) dX4_heirBy_97 rfl (fun c15 => ?_) (fun c15 => ?_)
  · have h := if_e c15 h
    obtain ⟨w16, ew16⟩ : ∃ w : Int32, w = v6 + (1 : Int32) := ⟨_, rfl⟩
    have h := lt_e ew16 h
    refine sx_iinc (j := 6) (v := w16) (lv' := [(0, .ref a0), (1, .int v1), (2, .int v2), (3, .int v3), (4, .int v4), (5, .int v5), (6, .int w16), (7, .int v7)]) dX4_heirBy_108 rfl (ii_1 ew16) (by decide) rfl ?_
    refine sx_goto (tgt := 30) dX4_heirBy_111 rfl ?_
    obtain rfl := Option.some.inj h
    exact sx_sub [0, 1, 2, 3, 4, 5, 6] rfl (k1 _ rfl)
  · have h := if_n c15 h
    refine sx_iload (j := 7) dX4_heirBy_100 rfl ?_
    refine sx_istore (lv' := [(0, .ref a0), (1, .int v1), (2, .int v2), (3, .int v3), (4, .int v4), (5, .int v7), (6, .int v6), (7, .int v7)]) dX4_heirBy_102 (by decide) rfl ?_
    refine sx_iload (j := 6) dX4_heirBy_104 rfl ?_
    refine sx_istore (lv' := [(0, .ref a0), (1, .int v1), (2, .int v2), (3, .int v3), (4, .int v6), (5, .int v7), (6, .int v6), (7, .int v7)]) dX4_heirBy_106 (by decide) rfl ?_
    obtain ⟨w17, ew17⟩ : ∃ w : Int32, w = v6 + (1 : Int32) := ⟨_, rfl⟩
    have h := lt_e ew17 h
    refine sx_iinc (j := 6) (v := w17) (lv' := [(0, .ref a0), (1, .int v1), (2, .int v2), (3, .int v3), (4, .int v6), (5, .int v7), (6, .int w17), (7, .int v7)]) dX4_heirBy_108 rfl (ii_1 ew17) (by decide) rfl ?_
    refine sx_goto (tgt := 30) dX4_heirBy_111 rfl ?_
    obtain rfl := Option.some.inj h
    exact sx_sub [0, 1, 2, 3, 4, 5, 6] rfl (k1 _ rfl)
set_option maxRecDepth 100000 in
set_option maxHeartbeats 4000000 in
theorem tX4_heirBy_j89 {l : Launch} {E : Ev} {r : Option Value} {L' L : HL} {a0 : Nat} {v1 : Int32} {v2 : Int32} {v3 : Int32} {v4 : Int32} {v5 : Int32} {v6 : Int32} {s0 : Int32} {z : Tn (Int32 × Int32 × Int32) (Int32 × HL)} (h0 : isX4 E a0) (h : fX4_heirBy_j89 a0 v1 v2 v3 v4 v5 v6 s0 L = some z) (k1 : ∀ s, z = .inl s → Sx l E yX4_heirBy cX4_heirBy 8 (some .int) (3) r L' 30 [(0, .ref a0), (1, .int v1), (2, .int v2), (3, .int v3), (4, .int s.1), (5, .int s.2.1), (6, .int s.2.2)] [] L) (k2 : ∀ s, z = .inr (.inl s) → Sx l E yX4_heirBy cX4_heirBy 8 (some .int) (3) r L' 114 [(4, .int s.1)] [] L) (k3 : ∀ v, z = .inr (.inr v) → r = some (.int v.1) ∧ L' = v.2) : Sx l E yX4_heirBy cX4_heirBy 8 (some .int) (3) r L' 89 [(0, .ref a0), (1, .int v1), (2, .int v2), (3, .int v3), (4, .int v4), (5, .int v5), (6, .int v6)] [.int s0] L := by
  unfold fX4_heirBy_j89 at h
  refine sx_iconst (v := (3 : Int32)) dX4_heirBy_89 (by decide) ?_
  refine sx_isub dX4_heirBy_90 ?_
  refine sx_topi (fun w14 ew14 => ?_)
  have h := lt_e ew14 h
  refine sx_istore (lv' := [(0, .ref a0), (1, .int v1), (2, .int v2), (3, .int v3), (4, .int v4), (5, .int v5), (6, .int v6), (7, .int w14)]) dX4_heirBy_91 (by decide) rfl ?_
  exact sx_sub [0, 1, 2, 3, 4, 5, 6, 7] rfl (tX4_heirBy_j93 h0 h k1 k2 k3)
set_option maxRecDepth 100000 in
set_option maxHeartbeats 4000000 in
theorem tX4_heirBy_b30 {l : Launch} {E : Ev} {r : Option Value} {L' L : HL} {a0 : Nat} {v1 : Int32} {v2 : Int32} {v3 : Int32} {v4 : Int32} {v5 : Int32} {v6 : Int32} {z : Tn (Int32 × Int32 × Int32) (Int32 × HL)} (h0 : isX4 E a0) (h : fX4_heirBy_b30 a0 v1 v2 v3 v4 v5 v6 L = some z) (k1 : ∀ s, z = .inl s → Sx l E yX4_heirBy cX4_heirBy 8 (some .int) (3) r L' 30 [(0, .ref a0), (1, .int v1), (2, .int v2), (3, .int v3), (4, .int s.1), (5, .int s.2.1), (6, .int s.2.2)] [] L) (k2 : ∀ s, z = .inr (.inl s) → Sx l E yX4_heirBy cX4_heirBy 8 (some .int) (3) r L' 114 [(4, .int s.1)] [] L) (k3 : ∀ v, z = .inr (.inr v) → r = some (.int v.1) ∧ L' = v.2) : Sx l E yX4_heirBy cX4_heirBy 8 (some .int) (3) r L' 30 [(0, .ref a0), (1, .int v1), (2, .int v2), (3, .int v3), (4, .int v4), (5, .int v5), (6, .int v6)] [] L := by
  unfold fX4_heirBy_b30 at h
  refine sx_iload (j := 6) dX4_heirBy_30 rfl ?_
  refine sx_aload_n (i := 0) (j := 0) dX4_heirBy_32 rfl rfl ?_
  refine sx_get (k := 0) (v := .int (L.1 a0 0)) dX4_heirBy_33 (X4_k h0) cf_4 (Or.inl wd_133) (by decide : 0 < 17) rfl ?_
  refine sx_icmp_ge (tgt := 114) dX4_heirBy_36 rfl (fun c5 => ?_) (fun c5 => ?_)
  · have h := if_e c5 h
    obtain rfl := Option.some.inj h
    exact sx_sub [4] rfl (k2 _ rfl)
  · have h := if_n c5 h
    refine sx_iload (j := 6) dX4_heirBy_39 rfl ?_
    refine sx_iload_n (i := 2) (j := 2) dX4_heirBy_41 rfl rfl ?_
    refine sx_icmp_eq (tgt := 108) dX4_heirBy_42 rfl (fun c6 => ?_) (fun c6 => ?_)
    · have h := if_e c6 h
      obtain ⟨w7, ew7⟩ : ∃ w : Int32, w = v6 + (1 : Int32) := ⟨_, rfl⟩
      have h := lt_e ew7 h
      refine sx_iinc (j := 6) (v := w7) (lv' := [(0, .ref a0), (1, .int v1), (2, .int v2), (3, .int v3), (4, .int v4), (5, .int v5), (6, .int w7)]) dX4_heirBy_108 rfl (ii_1 ew7) (by decide) rfl ?_
      refine sx_goto (tgt := 30) dX4_heirBy_111 rfl ?_
      obtain rfl := Option.some.inj h
      exact sx_sub [0, 1, 2, 3, 4, 5, 6] rfl (k1 _ rfl)
    · have h := if_n c6 h
      refine sx_aload_n (i := 0) (j := 0) dX4_heirBy_45 rfl rfl ?_
      refine sx_iload (j := 6) dX4_heirBy_46 rfl ?_
      obtain ⟨z8, ez8, h⟩ := bd_e h
      refine sx_callV (avs := [.int v6]) (rest := []) (st1 := [.int z8]) dX4_heirBy_48 (mX4_stands h0 ez8) ciX4_stands (Or.inl wd_452) (X4_k h0) rfl rfl rfl rfl (rm_m rfl) rfl (Nat.le_of_ble_eq_true rfl) rfl ?_
      refine sx_if_eq (tgt := 108) dX4_heirBy_51 rfl (fun c9 => ?_) (fun c9 => ?_)
      · have h := if_e c9 h
        obtain ⟨w10, ew10⟩ : ∃ w : Int32, w = v6 + (1 : Int32) := ⟨_, rfl⟩
        have h := lt_e ew10 h
        refine sx_iinc (j := 6) (v := w10) (lv' := [(0, .ref a0), (1, .int v1), (2, .int v2), (3, .int v3), (4, .int v4), (5, .int v5), (6, .int w10)]) dX4_heirBy_108 rfl (ii_1 ew10) (by decide) rfl ?_
        refine sx_goto (tgt := 30) dX4_heirBy_111 rfl ?_
        obtain rfl := Option.some.inj h
        exact sx_sub [0, 1, 2, 3, 4, 5, 6] rfl (k1 _ rfl)
      · have h := if_n c9 h
        refine sx_aload_n (i := 0) (j := 0) dX4_heirBy_54 rfl rfl ?_
        refine sx_iload_n (i := 1) (j := 1) dX4_heirBy_55 rfl rfl ?_
        refine sx_iload_n (i := 2) (j := 2) dX4_heirBy_56 rfl rfl ?_
        refine sx_iload (j := 6) dX4_heirBy_57 rfl ?_
        obtain ⟨z11, ez11, h⟩ := bd_e h
        refine sx_callV (avs := [.int v1, .int v2, .int v6]) (rest := []) (st1 := [.int z11]) dX4_heirBy_59 (mX4_measuredRank h0 ez11) ciX4_measuredRank (Or.inl wd_647) (X4_k h0) rfl rfl rfl rfl (rm_m rfl) rfl (Nat.le_of_ble_eq_true rfl) rfl ?_
        refine sx_istore (lv' := [(0, .ref a0), (1, .int v1), (2, .int v2), (3, .int v3), (4, .int v4), (5, .int v5), (6, .int v6), (7, .int z11)]) dX4_heirBy_62 (by decide) rfl ?_
        refine sx_iload_n (i := 3) (j := 3) dX4_heirBy_64 rfl rfl ?_
        refine sx_iload (j := 6) dX4_heirBy_65 rfl ?_
        refine sx_ishr dX4_heirBy_67 ?_
        refine sx_iconst (v := (1 : Int32)) dX4_heirBy_68 (by decide) ?_
        refine sx_iand dX4_heirBy_69 ?_
        refine sx_iconst (v := (1 : Int32)) dX4_heirBy_70 (by decide) ?_
        refine sx_icmp_ne (tgt := 93) dX4_heirBy_71 rfl (fun c12 => ?_) (fun c12 => ?_)
        · have h := if_e c12 h
          refine sx_iload (j := 7) dX4_heirBy_74 rfl ?_
          refine sx_sipush (v := (1000 : Int32)) dX4_heirBy_76 (by decide) ?_
          refine sx_icmp_ne (tgt := 87) dX4_heirBy_79 rfl (fun c13 => ?_) (fun c13 => ?_)
          · have h := if_e c13 h
            refine sx_bipush (v := (9 : Int32)) dX4_heirBy_82 (by decide) ?_
            refine sx_goto (tgt := 89) dX4_heirBy_84 rfl ?_
            exact sx_sub [0, 1, 2, 3, 4, 5, 6] rfl (tX4_heirBy_j89 h0 h k1 k2 k3)
          · have h := if_n c13 h
            refine sx_iload (j := 7) dX4_heirBy_87 rfl ?_
            exact sx_sub [0, 1, 2, 3, 4, 5, 6] rfl (tX4_heirBy_j89 h0 h k1 k2 k3)
        · have h := if_n c12 h
          exact sx_sub [0, 1, 2, 3, 4, 5, 6, 7] rfl (tX4_heirBy_j93 h0 h k1 k2 k3)
set_option maxRecDepth 100000 in
set_option maxHeartbeats 4000000 in
theorem mX4_heirBy {l : Launch} {E : Ev} {L : HL} {a0 : Nat} {v1 : Int32} {v2 : Int32} {v3 : Int32} {z : Int32 × HL} (h0 : isX4 E a0) (h : fX4_heirBy a0 v1 v2 v3 L = some z) : Mt l E yX4_heirBy cX4_heirBy 8 (some .int) (3) [.ref a0, .int v1, .int v2, .int v3] L (some (.int z.1)) (z.2) := by
  obtain ⟨r, hr⟩ : ∃ r : Option Value, r = some (.int z.1) := ⟨_, rfl⟩
  obtain ⟨L', hL'⟩ : ∃ L' : HL, L' = z.2 := ⟨_, rfl⟩
  have k3 : r = some (.int z.1) ∧ L' = z.2 := ⟨hr, hL'⟩
  refine mt_eq hr hL' ?_
  refine Mt.of (plainFor_of_name (by decide)) (Nat.le_of_ble_eq_true rfl) ?_
  refine sx_sub (lv' := [(0, .ref a0), (1, .int v1), (2, .int v2), (3, .int v3)]) [0, 1, 2, 3] rfl ?_
  unfold fX4_heirBy at h
  refine sx_aload_n (i := 0) (j := 0) dX4_heirBy_0 rfl rfl ?_
  refine sx_iload_n (i := 2) (j := 2) dX4_heirBy_1 rfl rfl ?_
  obtain ⟨z1, ez1, h⟩ := bd_e h
  refine sx_callV (avs := [.int v2]) (rest := []) (st1 := [.int z1]) dX4_heirBy_2 (mX4_stands h0 ez1) ciX4_stands (Or.inl wd_452) (X4_k h0) rfl rfl rfl rfl (rm_m rfl) rfl (Nat.le_of_ble_eq_true rfl) rfl ?_
  refine sx_if_ne (tgt := 10) dX4_heirBy_5 rfl (fun c2 => ?_) (fun c2 => ?_)
  · have h := if_e c2 h
    refine sx_iconst (v := (-1 : Int32)) dX4_heirBy_8 (by decide) ?_
    obtain rfl := Option.some.inj h
    exact sx_iret dX4_heirBy_9 rfl rfl k3.1 k3.2
  · have h := if_n c2 h
    refine sx_aload_n (i := 0) (j := 0) dX4_heirBy_10 rfl rfl ?_
    refine sx_iload_n (i := 2) (j := 2) dX4_heirBy_11 rfl rfl ?_
    obtain ⟨z3, ez3, h⟩ := bd_e h
    refine sx_callV (avs := [.int v2]) (rest := []) (st1 := []) dX4_heirBy_12 (mX4_measureSteps h0 ez3) ciX4_measureSteps (Or.inl wd_635) (X4_k h0) rfl rfl rfl rfl (rm_m rfl) rfl (Nat.le_of_ble_eq_true rfl) rfl ?_
    refine sx_aload_n (i := 0) (j := 0) dX4_heirBy_15 rfl rfl ?_
    obtain ⟨z4, ez4, h⟩ := bd_e h
    refine sx_callV (avs := []) (rest := []) (st1 := []) dX4_heirBy_16 (mX4_measureDwellers h0 ez4) ciX4_measureDwellers (Or.inl wd_643) (X4_k h0) rfl rfl rfl rfl (rm_m rfl) rfl (Nat.le_of_ble_eq_true rfl) rfl ?_
    refine sx_iconst (v := (-1 : Int32)) dX4_heirBy_19 (by decide) ?_
    refine sx_istore (lv' := [(0, .ref a0), (1, .int v1), (2, .int v2), (3, .int v3), (4, .int (-1 : Int32))]) dX4_heirBy_20 (by decide) rfl ?_
    refine sx_sipush (v := (1000 : Int32)) dX4_heirBy_22 (by decide) ?_
    refine sx_istore (lv' := [(0, .ref a0), (1, .int v1), (2, .int v2), (3, .int v3), (4, .int (-1 : Int32)), (5, .int (1000 : Int32))]) dX4_heirBy_25 (by decide) rfl ?_
    refine sx_iconst (v := (0 : Int32)) dX4_heirBy_27 (by decide) ?_
    refine sx_istore (lv' := [(0, .ref a0), (1, .int v1), (2, .int v2), (3, .int v3), (4, .int (-1 : Int32)), (5, .int (1000 : Int32)), (6, .int (0 : Int32))]) dX4_heirBy_28 (by decide) rfl ?_
    obtain ⟨x19, hx, q1, q2⟩ := lx_e h
    refine sx_sub (lv' := [(0, .ref a0), (1, .int v1), (2, .int v2), (3, .int v3), (4, .int (-1 : Int32)), (5, .int (1000 : Int32)), (6, .int (0 : Int32))]) [0, 1, 2, 3, 4, 5, 6] rfl ?_
    refine lp_go (fun s18 => Sx l E yX4_heirBy cX4_heirBy 8 (some .int) (3) r L' 30 [(0, .ref a0), (1, .int v1), (2, .int v2), (3, .int v3), (4, .int s18.1), (5, .int s18.2.1), (6, .int s18.2.2)] [] z4) x19 (fun s18 z2 hz c1 c2 => ?_) FU _ hx
    refine tX4_heirBy_b30 h0 hz (fun s2 e => c1 s2 e) (fun s18 e => ?_) (fun v e => ?_)
    · have h := q1 _ (c2 _ e).symm
      refine sx_iload (j := 0) dX4_heirBy_114 rfl ?_
      obtain rfl := Option.some.inj h
      exact sx_iret dX4_heirBy_116 rfl rfl k3.1 k3.2
    · have e2 := Option.some.inj (q2 _ (c2 _ e).symm)
      subst e2
      exact k3
set_option maxRecDepth 100000 in
set_option maxHeartbeats 4000000 in
theorem tX4_letFall_b25 {l : Launch} {E : Ev} {r : Option Value} {L' L : HL} {a0 : Nat} {v1 : Int32} {v2 : Int32} {v3 : Int32} {z : Tn (Int32 × HL) (Int32 × HL)} (h0 : isX4 E a0) (h : fX4_letFall_b25 a0 v1 v2 v3 L = some z) (k1 : ∀ s, z = .inl s → Sx l E yX4_letFall cX4_letFall 4 (some .int) (4) r L' 25 [(0, .ref a0), (1, .int v1), (2, .int v2), (3, .int s.1)] [] s.2) (k2 : ∀ s, z = .inr (.inl s) → Sx l E yX4_letFall cX4_letFall 4 (some .int) (4) r L' 56 [(0, .ref a0), (1, .int v1), (2, .int v2)] [] s.2) (k3 : ∀ v, z = .inr (.inr v) → r = some (.int v.1) ∧ L' = v.2) : Sx l E yX4_letFall cX4_letFall 4 (some .int) (4) r L' 25 [(0, .ref a0), (1, .int v1), (2, .int v2), (3, .int v3)] [] L := by
  unfold fX4_letFall_b25 at h
  refine sx_iload_n (i := 3) (j := 3) dX4_letFall_25 rfl rfl ?_
  refine sx_aload_n (i := 0) (j := 0) dX4_letFall_26 rfl rfl ?_
  refine sx_get (k := 2) (v := .int (L.1 a0 2)) dX4_letFall_27 (X4_k h0) cf_4 (Or.inl wd_140) (by decide : 2 < 17) rfl ?_
  refine sx_icmp_ge (tgt := 56) dX4_letFall_30 rfl (fun c5 => ?_) (fun c5 => ?_)
  · have h := if_e c5 h
    obtain rfl := Option.some.inj h
    exact sx_sub [0, 1, 2] rfl (k2 _ rfl)
  · have h := if_n c5 h
    refine sx_aload_n (i := 0) (j := 0) dX4_letFall_33 rfl rfl ?_
    refine sx_get (k := 12) (v := .ref (a0 + 9)) dX4_letFall_34 (X4_k h0) cf_4 (Or.inl wd_165) (by decide : 12 < 17) (congrArg Value.ref (X4_r12 h0)) ?_
    refine sx_iload_n (i := 3) (j := 3) dX4_letFall_37 rfl rfl ?_
    obtain ⟨c6, h⟩ := gd_e h
    refine sx_iald dX4_letFall_38 (X4_a12 h0) c6 ?_
    refine sx_iload_n (i := 1) (j := 1) dX4_letFall_39 rfl rfl ?_
    refine sx_icmp_ne (tgt := 50) dX4_letFall_40 rfl (fun c7 => ?_) (fun c7 => ?_)
    · have h := if_e c7 h
      refine sx_aload_n (i := 0) (j := 0) dX4_letFall_43 rfl rfl ?_
      refine sx_get (k := 12) (v := .ref (a0 + 9)) dX4_letFall_44 (X4_k h0) cf_4 (Or.inl wd_165) (by decide : 12 < 17) (congrArg Value.ref (X4_r12 h0)) ?_
      refine sx_iload_n (i := 3) (j := 3) dX4_letFall_47 rfl rfl ?_
      refine sx_iload_n (i := 2) (j := 2) dX4_letFall_48 rfl rfl ?_
      obtain ⟨c8, h⟩ := gd_e h
      refine sx_iast dX4_letFall_49 (X4_a12 h0) c8 (fun L9 eL9 => ?_)
      have h := lt_e eL9 h
      obtain ⟨w10, ew10⟩ : ∃ w : Int32, w = v3 + (1 : Int32) := ⟨_, rfl⟩
      have h := lt_e ew10 h
      refine sx_iinc (j := 3) (v := w10) (lv' := [(0, .ref a0), (1, .int v1), (2, .int v2), (3, .int w10)]) dX4_letFall_50 rfl (ii_1 ew10) (by decide) rfl ?_
      refine sx_goto (tgt := 25) dX4_letFall_53 rfl ?_
      obtain rfl := Option.some.inj h
      exact sx_sub [0, 1, 2, 3] rfl (k1 _ rfl)
    · have h := if_n c7 h
      obtain ⟨w11, ew11⟩ : ∃ w : Int32, w = v3 + (1 : Int32) := ⟨_, rfl⟩
      have h := lt_e ew11 h
      refine sx_iinc (j := 3) (v := w11) (lv' := [(0, .ref a0), (1, .int v1), (2, .int v2), (3, .int w11)]) dX4_letFall_50 rfl (ii_1 ew11) (by decide) rfl ?_
      refine sx_goto (tgt := 25) dX4_letFall_53 rfl ?_
      obtain rfl := Option.some.inj h
      exact sx_sub [0, 1, 2, 3] rfl (k1 _ rfl)
set_option maxRecDepth 100000 in
set_option maxHeartbeats 4000000 in
theorem mX4_letFall {l : Launch} {E : Ev} {L : HL} {a0 : Nat} {v1 : Int32} {z : Int32 × HL} (h0 : isX4 E a0) (h : fX4_letFall a0 v1 L = some z) : Mt l E yX4_letFall cX4_letFall 4 (some .int) (4) [.ref a0, .int v1] L (some (.int z.1)) (z.2) := by
  obtain ⟨r, hr⟩ : ∃ r : Option Value, r = some (.int z.1) := ⟨_, rfl⟩
  obtain ⟨L', hL'⟩ : ∃ L' : HL, L' = z.2 := ⟨_, rfl⟩
  have k3 : r = some (.int z.1) ∧ L' = z.2 := ⟨hr, hL'⟩
  refine mt_eq hr hL' ?_
  refine Mt.of (plainFor_of_name (by decide)) (Nat.le_of_ble_eq_true rfl) ?_
  refine sx_sub (lv' := [(0, .ref a0), (1, .int v1)]) [0, 1] rfl ?_
  unfold fX4_letFall at h
  refine sx_aload_n (i := 0) (j := 0) dX4_letFall_0 rfl rfl ?_
  refine sx_iload_n (i := 1) (j := 1) dX4_letFall_1 rfl rfl ?_
  obtain ⟨z1, ez1, h⟩ := bd_e h
  refine sx_callV (avs := [.int v1]) (rest := []) (st1 := [.int z1]) dX4_letFall_2 (mX4_stands h0 ez1) ciX4_stands (Or.inl wd_452) (X4_k h0) rfl rfl rfl rfl (rm_m rfl) rfl (Nat.le_of_ble_eq_true rfl) rfl ?_
  refine sx_if_ne (tgt := 10) dX4_letFall_5 rfl (fun c2 => ?_) (fun c2 => ?_)
  · have h := if_e c2 h
    refine sx_iconst (v := (-1 : Int32)) dX4_letFall_8 (by decide) ?_
    obtain rfl := Option.some.inj h
    exact sx_iret dX4_letFall_9 rfl rfl k3.1 k3.2
  · have h := if_n c2 h
    refine sx_aload_n (i := 0) (j := 0) dX4_letFall_10 rfl rfl ?_
    refine sx_aload_n (i := 0) (j := 0) dX4_letFall_11 rfl rfl ?_
    refine sx_get (k := 8) (v := .ref (a0 + 5)) dX4_letFall_12 (X4_k h0) cf_4 (Or.inl wd_156) (by decide : 8 < 17) (congrArg Value.ref (X4_r8 h0)) ?_
    refine sx_iload_n (i := 1) (j := 1) dX4_letFall_15 rfl rfl ?_
    obtain ⟨c3, h⟩ := gd_e h
    refine sx_iald dX4_letFall_16 (X4_a8 h0) c3 ?_
    refine sx_iload_n (i := 1) (j := 1) dX4_letFall_17 rfl rfl ?_
    refine sx_iconst (v := (0 : Int32)) dX4_letFall_18 (by decide) ?_
    obtain ⟨z4, ez4, h⟩ := bd_e h
    refine sx_callV (avs := [.int (L.1 (a0 + 5) v1.toNatClampNeg), .int v1, .int (0 : Int32)]) (rest := []) (st1 := [.int z4.1]) dX4_letFall_19 (mX4_heirBy h0 ez4) ciX4_heirBy (Or.inl wd_631) (X4_k h0) rfl rfl rfl rfl (rm_m rfl) rfl (Nat.le_of_ble_eq_true rfl) rfl ?_
    refine sx_istore_n (i := 2) (lv' := [(0, .ref a0), (1, .int v1), (2, .int z4.1)]) dX4_letFall_22 rfl (by decide) rfl ?_
    refine sx_iconst (v := (0 : Int32)) dX4_letFall_23 (by decide) ?_
    refine sx_istore_n (i := 3) (lv' := [(0, .ref a0), (1, .int v1), (2, .int z4.1), (3, .int (0 : Int32))]) dX4_letFall_24 rfl (by decide) rfl ?_
    obtain ⟨x14, hx, q1, q2⟩ := lx_e h
    refine sx_sub (lv' := [(0, .ref a0), (1, .int v1), (2, .int z4.1), (3, .int (0 : Int32))]) [0, 1, 2, 3] rfl ?_
    refine lp_go (fun s12 => Sx l E yX4_letFall cX4_letFall 4 (some .int) (4) r L' 25 [(0, .ref a0), (1, .int v1), (2, .int z4.1), (3, .int s12.1)] [] s12.2) x14 (fun s12 z2 hz c1 c2 => ?_) FU _ hx
    refine tX4_letFall_b25 h0 hz (fun s2 e => c1 s2 e) (fun s12 e => ?_) (fun v e => ?_)
    · have h := q1 _ (c2 _ e).symm
      refine sx_aload_n (i := 0) (j := 0) dX4_letFall_56 rfl rfl ?_
      refine sx_dup dX4_letFall_57 rfl ?_
      refine sx_get (k := 1) (v := .int (s12.2.1 a0 1)) dX4_letFall_58 (X4_k h0) cf_4 (Or.inl wd_136) (by decide : 1 < 17) rfl ?_
      refine sx_iconst (v := (1 : Int32)) dX4_letFall_61 (by decide) ?_
      refine sx_iload_n (i := 1) (j := 1) dX4_letFall_62 rfl rfl ?_
      refine sx_ishl dX4_letFall_63 ?_
      refine sx_iconst (v := (-1 : Int32)) dX4_letFall_64 (by decide) ?_
      refine sx_ixor dX4_letFall_65 ?_
      refine sx_iand dX4_letFall_66 ?_
      refine sx_putI (k := 1) dX4_letFall_67 (X4_k h0) cf_4 (Or.inl wd_136) (by decide : 1 < 17) rfl rfl rfl rfl (fun L13 eL13 => ?_)
      have h := lt_e eL13 h
      refine sx_iload_n (i := 2) (j := 2) dX4_letFall_70 rfl rfl ?_
      obtain rfl := Option.some.inj h
      exact sx_iret dX4_letFall_71 rfl rfl k3.1 k3.2
    · have e2 := Option.some.inj (q2 _ (c2 _ e).symm)
      subst e2
      exact k3
set_option maxRecDepth 100000 in
set_option maxHeartbeats 4000000 in
theorem mX2_bringBack {l : Launch} {E : Ev} {L : HL} {a0 : Nat} {v1 : Int32} {z : HL} (h0 : isX2 E a0) (h : fX2_bringBack a0 v1 L = some z) : Mt l E yX2_bringBack cX2_bringBack 2 (none) (3) [.ref a0, .int v1] L (none) z := by
  obtain ⟨r, hr⟩ : ∃ r : Option Value, r = none := ⟨_, rfl⟩
  obtain ⟨L', hL'⟩ : ∃ L' : HL, L' = z := ⟨_, rfl⟩
  have k3 : r = none ∧ L' = z := ⟨hr, hL'⟩
  refine mt_eq hr hL' ?_
  refine Mt.of (plainFor_of_name (by decide)) (Nat.le_of_ble_eq_true rfl) ?_
  refine sx_sub (lv' := [(0, .ref a0), (1, .int v1)]) [0, 1] rfl ?_
  unfold fX2_bringBack at h
  refine sx_aload_n (i := 0) (j := 0) dX2_bringBack_0 rfl rfl ?_
  refine sx_get (k := 0) (v := .ref (a0 + 1)) dX2_bringBack_1 (X2_k h0) cf_2 (Or.inl wd_302) (by decide : 0 < 6) (congrArg Value.ref (X2_r0 h0)) ?_
  refine sx_aload_n (i := 0) (j := 0) dX2_bringBack_4 rfl rfl ?_
  refine sx_get (k := 1) (v := .ref (a0 + 15)) dX2_bringBack_5 (X2_k h0) cf_2 (Or.inl wd_303) (by decide : 1 < 6) (congrArg Value.ref (X2_r1 h0)) ?_
  refine sx_iload_n (i := 1) (j := 1) dX2_bringBack_8 rfl rfl ?_
  obtain ⟨c1, h⟩ := gd_e h
  refine sx_iald dX2_bringBack_9 (X2_a1 h0) c1 ?_
  refine sx_putI (k := 1) dX2_bringBack_10 (X4_k (X2_o0 h0)) cf_4 (Or.inr ⟨_, nw_138⟩) (by decide : 1 < 17) rfl rfl rfl rfl (fun L2 eL2 => ?_)
  have h := lt_e eL2 h
  refine sx_aload_n (i := 0) (j := 0) dX2_bringBack_13 rfl rfl ?_
  refine sx_get (k := 2) (v := .ref (a0 + 16)) dX2_bringBack_14 (X2_k h0) cf_2 (Or.inl wd_304) (by decide : 2 < 6) (congrArg Value.ref (X2_r2 h0)) ?_
  refine sx_iload_n (i := 1) (j := 1) dX2_bringBack_17 rfl rfl ?_
  obtain ⟨c3, h⟩ := gd_e h
  refine sx_aald dX2_bringBack_18 (X2_a2 h0) c3 ((X2_w2 h0) _ (in_lt c3)).1 ?_
  refine sx_aload_n (i := 0) (j := 0) dX2_bringBack_19 rfl rfl ?_
  refine sx_get (k := 0) (v := .ref (a0 + 1)) dX2_bringBack_20 (X2_k h0) cf_2 (Or.inl wd_302) (by decide : 0 < 6) (congrArg Value.ref (X2_r0 h0)) ?_
  refine sx_get (k := 12) (v := .ref ((a0 + 1) + 9)) dX2_bringBack_23 (X4_k (X2_o0 h0)) cf_4 (Or.inr ⟨_, nw_168⟩) (by decide : 12 < 17) (congrArg Value.ref (X4_r12 (X2_o0 h0))) ?_
  obtain ⟨z4, ez4, h⟩ := bd_e h
  refine sx_callS (avs := [.ref ((a0 + 16) + 1 + v1.toNatClampNeg), .ref ((a0 + 1) + 9)]) (rest := []) (st1 := []) dX2_bringBack_26 (mX6_copyRow ((X2_w2 h0) _ (in_lt c3)).2 (X4_a12 (X2_o0 h0)) ez4) ctX6_copyRow (Or.inr ⟨_, nw_789⟩) rfl rfl (rm_m rfl) rfl (Nat.le_of_ble_eq_true rfl) rfl ?_
  obtain rfl := Option.some.inj h
  exact sx_vret dX2_bringBack_29 rfl k3.1 k3.2
set_option maxRecDepth 100000 in
set_option maxHeartbeats 4000000 in
theorem tX2_tryOrders_b26 {l : Launch} {E : Ev} {r : Option Value} {L' L : HL} {k : Nat} {rec : Nat → Int32 → Int32 → Int32 → Int32 → HL → Option (HL)} {a0 : Nat} {v1 : Int32} {v2 : Int32} {v3 : Int32} {v4 : Int32} {v5 : Int32} (hrec : ∀ (a0 : Nat) (v1 : Int32) (v2 : Int32) (v3 : Int32) (v4 : Int32) (L : HL) (z : HL), isX2 E a0 → rec a0 v1 v2 v3 v4 L = some z → Mt l E yX2_tryOrders cX2_tryOrders 6 (none) (5 + k) [.ref a0, .int v1, .int v2, .int v3, .int v4] L (none) z) {z : Tn (Int32 × HL) (HL)} (h0 : isX2 E a0) (h : fX2_tryOrders_b26 rec a0 v1 v2 v3 v4 v5 L = some z) (k1 : ∀ s, z = .inl s → Sx l E yX2_tryOrders cX2_tryOrders 6 (none) (5 + k + 1) r L' 26 [(0, .ref a0), (1, .int v1), (2, .int v2), (3, .int v3), (4, .int v4), (5, .int s.1)] [] s.2) (k2 : ∀ s, z = .inr (.inl s) → Sx l E yX2_tryOrders cX2_tryOrders 6 (none) (5 + k + 1) r L' 89 [] [] s.2) (k3 : ∀ v, z = .inr (.inr v) → r = none ∧ L' = v) : Sx l E yX2_tryOrders cX2_tryOrders 6 (none) (5 + k + 1) r L' 26 [(0, .ref a0), (1, .int v1), (2, .int v2), (3, .int v3), (4, .int v4), (5, .int v5)] [] L := by
  unfold fX2_tryOrders_b26 at h
  refine sx_iload (j := 5) dX2_tryOrders_26 rfl ?_
  refine sx_iconst (v := (5 : Int32)) dX2_tryOrders_28 (by decide) ?_
  refine sx_icmp_ge (tgt := 89) dX2_tryOrders_29 rfl (fun c5 => ?_) (fun c5 => ?_)
  · have h := if_e c5 h
    obtain rfl := Option.some.inj h
    exact sx_sub [] rfl (k2 _ rfl)
  · have h := if_n c5 h
    refine sx_iload_n (i := 2) (j := 2) dX2_tryOrders_32 rfl rfl ?_
    refine sx_iload (j := 5) dX2_tryOrders_33 rfl ?_
    refine sx_ishr dX2_tryOrders_35 ?_
    refine sx_iconst (v := (1 : Int32)) dX2_tryOrders_36 (by decide) ?_
    refine sx_iand dX2_tryOrders_37 ?_
    refine sx_iconst (v := (1 : Int32)) dX2_tryOrders_38 (by decide) ?_
    refine sx_icmp_ne (tgt := 83) dX2_tryOrders_39 rfl (fun c6 => ?_) (fun c6 => ?_)
    · have h := if_e c6 h
      refine sx_aload_n (i := 0) (j := 0) dX2_tryOrders_42 rfl rfl ?_
      refine sx_get (k := 3) (v := .ref (a0 + 22)) dX2_tryOrders_43 (X2_k h0) cf_2 (Or.inl wd_305) (by decide : 3 < 6) (congrArg Value.ref (X2_r3 h0)) ?_
      refine sx_iload_n (i := 1) (j := 1) dX2_tryOrders_46 rfl rfl ?_
      refine sx_iload (j := 5) dX2_tryOrders_47 rfl ?_
      obtain ⟨c7, h⟩ := gd_e h
      refine sx_iast dX2_tryOrders_49 (X2_a3 h0) c7 (fun L8 eL8 => ?_)
      have h := lt_e eL8 h
      refine sx_aload_n (i := 0) (j := 0) dX2_tryOrders_50 rfl rfl ?_
      refine sx_get (k := 0) (v := .ref (a0 + 1)) dX2_tryOrders_51 (X2_k h0) cf_2 (Or.inl wd_302) (by decide : 0 < 6) (congrArg Value.ref (X2_r0 h0)) ?_
      refine sx_iload (j := 5) dX2_tryOrders_54 rfl ?_
      obtain ⟨z9, ez9, h⟩ := bd_e h
      refine sx_callV (avs := [.int v5]) (rest := []) (st1 := [.int z9.1]) dX2_tryOrders_56 (mX4_letFall (X2_o0 h0) ez9) ciX4_letFall (Or.inr ⟨_, nw_794⟩) (X4_k (X2_o0 h0)) rfl rfl rfl rfl (rm_m (ble_of (by omega))) rfl (Nat.le_of_ble_eq_true rfl) rfl ?_
      refine sx_pop dX2_tryOrders_59 rfl ?_
      refine sx_aload_n (i := 0) (j := 0) dX2_tryOrders_60 rfl rfl ?_
      refine sx_iload_n (i := 1) (j := 1) dX2_tryOrders_61 rfl rfl ?_
      refine sx_iconst (v := (1 : Int32)) dX2_tryOrders_62 (by decide) ?_
      refine sx_iadd dX2_tryOrders_63 ?_
      refine sx_iload_n (i := 2) (j := 2) dX2_tryOrders_64 rfl rfl ?_
      refine sx_iconst (v := (1 : Int32)) dX2_tryOrders_65 (by decide) ?_
      refine sx_iload (j := 5) dX2_tryOrders_66 rfl ?_
      refine sx_ishl dX2_tryOrders_68 ?_
      refine sx_iconst (v := (-1 : Int32)) dX2_tryOrders_69 (by decide) ?_
      refine sx_ixor dX2_tryOrders_70 ?_
      refine sx_iand dX2_tryOrders_71 ?_
      refine sx_iload_n (i := 3) (j := 3) dX2_tryOrders_72 rfl rfl ?_
      refine sx_iload (j := 4) dX2_tryOrders_73 rfl ?_
      obtain ⟨z10, ez10, h⟩ := bd_e h
      refine sx_callS (avs := [.ref a0, .int (v1 + (1 : Int32)), .int (v2 &&& (((1 : Int32) <<< (v5 &&& 31)) ^^^ (-1 : Int32))), .int v3, .int v4]) (rest := []) (st1 := []) dX2_tryOrders_75 (hrec _ _ _ _ _ _ _ h0 ez10) ctX2_tryOrders (Or.inl wd_782) rfl rfl (rm_m (ble_of (by omega))) rfl (Nat.le_of_ble_eq_true rfl) rfl ?_
      refine sx_aload_n (i := 0) (j := 0) dX2_tryOrders_78 rfl rfl ?_
      refine sx_iload_n (i := 1) (j := 1) dX2_tryOrders_79 rfl rfl ?_
      obtain ⟨z11, ez11, h⟩ := bd_e h
      refine sx_callV (avs := [.int v1]) (rest := []) (st1 := []) dX2_tryOrders_80 (mX2_bringBack h0 ez11) ciX2_bringBack (Or.inl wd_795) (X2_k h0) rfl rfl rfl rfl (rm_m (ble_of (by omega))) rfl (Nat.le_of_ble_eq_true rfl) rfl ?_
      obtain ⟨w12, ew12⟩ : ∃ w : Int32, w = v5 + (1 : Int32) := ⟨_, rfl⟩
      have h := lt_e ew12 h
      refine sx_iinc (j := 5) (v := w12) (lv' := [(0, .ref a0), (1, .int v1), (2, .int v2), (3, .int v3), (4, .int v4), (5, .int w12)]) dX2_tryOrders_83 rfl (ii_1 ew12) (by decide) rfl ?_
      refine sx_goto (tgt := 26) dX2_tryOrders_86 rfl ?_
      obtain rfl := Option.some.inj h
      exact sx_sub [0, 1, 2, 3, 4, 5] rfl (k1 _ rfl)
    · have h := if_n c6 h
      obtain ⟨w13, ew13⟩ : ∃ w : Int32, w = v5 + (1 : Int32) := ⟨_, rfl⟩
      have h := lt_e ew13 h
      refine sx_iinc (j := 5) (v := w13) (lv' := [(0, .ref a0), (1, .int v1), (2, .int v2), (3, .int v3), (4, .int v4), (5, .int w13)]) dX2_tryOrders_83 rfl (ii_1 ew13) (by decide) rfl ?_
      refine sx_goto (tgt := 26) dX2_tryOrders_86 rfl ?_
      obtain rfl := Option.some.inj h
      exact sx_sub [0, 1, 2, 3, 4, 5] rfl (k1 _ rfl)
set_option maxRecDepth 100000 in
set_option maxHeartbeats 4000000 in
theorem mX2_tryOrders_s {l : Launch} {E : Ev} {k : Nat} {L : HL} {rec : Nat → Int32 → Int32 → Int32 → Int32 → HL → Option (HL)} {a0 : Nat} {v1 : Int32} {v2 : Int32} {v3 : Int32} {v4 : Int32} (hrec : ∀ (a0 : Nat) (v1 : Int32) (v2 : Int32) (v3 : Int32) (v4 : Int32) (L : HL) (z : HL), isX2 E a0 → rec a0 v1 v2 v3 v4 L = some z → Mt l E yX2_tryOrders cX2_tryOrders 6 (none) (5 + k) [.ref a0, .int v1, .int v2, .int v3, .int v4] L (none) z) {z : HL} (h0 : isX2 E a0) (h : fX2_tryOrders_s rec a0 v1 v2 v3 v4 L = some z) : Mt l E yX2_tryOrders cX2_tryOrders 6 (none) (5 + k + 1) [.ref a0, .int v1, .int v2, .int v3, .int v4] L (none) z := by
  obtain ⟨r, hr⟩ : ∃ r : Option Value, r = none := ⟨_, rfl⟩
  obtain ⟨L', hL'⟩ : ∃ L' : HL, L' = z := ⟨_, rfl⟩
  have k3 : r = none ∧ L' = z := ⟨hr, hL'⟩
  refine mt_eq hr hL' ?_
  refine Mt.of (plainFor_of_name (by decide)) (Nat.le_of_ble_eq_true rfl) ?_
  refine sx_sub (lv' := [(0, .ref a0), (1, .int v1), (2, .int v2), (3, .int v3), (4, .int v4)]) [0, 1, 2, 3, 4] rfl ?_
  unfold fX2_tryOrders_s at h
  refine sx_iload_n (i := 2) (j := 2) dX2_tryOrders_0 rfl rfl ?_
  refine sx_if_ne (tgt := 12) dX2_tryOrders_1 rfl (fun c1 => ?_) (fun c1 => ?_)
  · have h := if_e c1 h
    refine sx_aload_n (i := 0) (j := 0) dX2_tryOrders_4 rfl rfl ?_
    refine sx_iload_n (i := 3) (j := 3) dX2_tryOrders_5 rfl rfl ?_
    refine sx_iload (j := 4) dX2_tryOrders_6 rfl ?_
    obtain ⟨z2, ez2, h⟩ := bd_e h
    refine sx_callV (avs := [.int v3, .int v4]) (rest := []) (st1 := []) dX2_tryOrders_8 (mX2_atLast h0 ez2) ciX2_atLast (Or.inl wd_785) (X2_k h0) rfl rfl rfl rfl (rm_m (ble_of (by omega))) rfl (Nat.le_of_ble_eq_true rfl) rfl ?_
    obtain rfl := Option.some.inj h
    exact sx_vret dX2_tryOrders_11 rfl k3.1 k3.2
  · have h := if_n c1 h
    refine sx_iload_n (i := 1) (j := 1) dX2_tryOrders_12 rfl rfl ?_
    refine sx_iconst (v := (5 : Int32)) dX2_tryOrders_13 (by decide) ?_
    refine sx_icmp_lt (tgt := 18) dX2_tryOrders_14 rfl (fun c3 => ?_) (fun c3 => ?_)
    · have h := if_e c3 h
      refine sx_aload_n (i := 0) (j := 0) dX2_tryOrders_18 rfl rfl ?_
      refine sx_iload_n (i := 1) (j := 1) dX2_tryOrders_19 rfl rfl ?_
      obtain ⟨z4, ez4, h⟩ := bd_e h
      refine sx_callV (avs := [.int v1]) (rest := []) (st1 := []) dX2_tryOrders_20 (mX2_keep h0 ez4) ciX2_keep (Or.inl wd_790) (X2_k h0) rfl rfl rfl rfl (rm_m (ble_of (by omega))) rfl (Nat.le_of_ble_eq_true rfl) rfl ?_
      refine sx_iconst (v := (0 : Int32)) dX2_tryOrders_23 (by decide) ?_
      refine sx_istore (lv' := [(0, .ref a0), (1, .int v1), (2, .int v2), (3, .int v3), (4, .int v4), (5, .int (0 : Int32))]) dX2_tryOrders_24 (by decide) rfl ?_
      obtain ⟨x15, hx, q1, q2⟩ := lx_e h
      refine sx_sub (lv' := [(0, .ref a0), (1, .int v1), (2, .int v2), (3, .int v3), (4, .int v4), (5, .int (0 : Int32))]) [0, 1, 2, 3, 4, 5] rfl ?_
      refine lp_go (fun s14 => Sx l E yX2_tryOrders cX2_tryOrders 6 (none) (5 + k + 1) r L' 26 [(0, .ref a0), (1, .int v1), (2, .int v2), (3, .int v3), (4, .int v4), (5, .int s14.1)] [] s14.2) x15 (fun s14 z2 hz c1 c2 => ?_) FU _ hx
      refine tX2_tryOrders_b26 hrec h0 hz (fun s2 e => c1 s2 e) (fun s14 e => ?_) (fun v e => ?_)
      · have h := q1 _ (c2 _ e).symm
        obtain rfl := Option.some.inj h
        exact sx_vret dX2_tryOrders_89 rfl k3.1 k3.2
      · have e2 := Option.some.inj (q2 _ (c2 _ e).symm)
        subst e2
        exact k3
    · have h := if_n c3 h
      obtain rfl := Option.some.inj h
      exact sx_vret dX2_tryOrders_17 rfl k3.1 k3.2
set_option maxRecDepth 100000 in
set_option maxHeartbeats 4000000 in
theorem mX2_tryOrders_all {l : Launch} {E : Ev} : ∀ k, ∀ (a0 : Nat) (v1 : Int32) (v2 : Int32) (v3 : Int32) (v4 : Int32) (L : HL) (z : HL), isX2 E a0 → fX2_tryOrders k a0 v1 v2 v3 v4 L = some z → Mt l E yX2_tryOrders cX2_tryOrders 6 (none) (5 + k) [.ref a0, .int v1, .int v2, .int v3, .int v4] L (none) z := by
  intro k
  induction k with
  | zero => intro a0 v1 v2 v3 v4 L z _ h; cases h
  | succ k ih => intro a0 v1 v2 v3 v4 L z g0 h; exact mX2_tryOrders_s ih g0 h
theorem mX2_tryOrders {l : Launch} {E : Ev} {a0 : Nat} {v1 : Int32} {v2 : Int32} {v3 : Int32} {v4 : Int32} {L : HL} {z : HL} (h0 : isX2 E a0) (h : fX2_tryOrders 8 a0 v1 v2 v3 v4 L = some z) : Mt l E yX2_tryOrders cX2_tryOrders 6 (none) (13) [.ref a0, .int v1, .int v2, .int v3, .int v4] L (none) z := mX2_tryOrders_all 8 _ _ _ _ _ L z h0 h
set_option maxRecDepth 100000 in
set_option maxHeartbeats 4000000 in
theorem mX2_seek {l : Launch} {E : Ev} {L : HL} {a0 : Nat} {a1 : Nat} {v2 : Int32} {v3 : Int32} {v4 : Int32} {z : HL} (h0 : isX2 E a0) (h1 : isX4 E a1) (h : fX2_seek a0 a1 v2 v3 v4 L = some z) : Mt l E yX2_seek cX2_seek 5 (none) (14) [.ref a0, .ref a1, .int v2, .int v3, .int v4] L (none) z := by
  obtain ⟨r, hr⟩ : ∃ r : Option Value, r = none := ⟨_, rfl⟩
  obtain ⟨L', hL'⟩ : ∃ L' : HL, L' = z := ⟨_, rfl⟩
  have k3 : r = none ∧ L' = z := ⟨hr, hL'⟩
  refine mt_eq hr hL' ?_
  refine Mt.of (plainFor_of_name (by decide)) (Nat.le_of_ble_eq_true rfl) ?_
  refine sx_sub (lv' := [(0, .ref a0), (1, .ref a1), (2, .int v2), (3, .int v3), (4, .int v4)]) [0, 1, 2, 3, 4] rfl ?_
  unfold fX2_seek at h
  refine sx_aload_n (i := 0) (j := 0) dX2_seek_0 rfl rfl ?_
  refine sx_get (k := 0) (v := .ref (a0 + 1)) dX2_seek_1 (X2_k h0) cf_2 (Or.inl wd_302) (by decide : 0 < 6) (congrArg Value.ref (X2_r0 h0)) ?_
  refine sx_aload_n (i := 1) (j := 1) dX2_seek_4 rfl rfl ?_
  obtain ⟨z1, ez1, h⟩ := bd_e h
  refine sx_callV (avs := [.ref a1]) (rest := []) (st1 := []) dX2_seek_5 (mX4_takeFrom (X2_o0 h0) h1 ez1) ciX4_takeFrom (Or.inr ⟨_, nw_780⟩) (X4_k (X2_o0 h0)) rfl rfl rfl rfl (rm_m rfl) rfl (Nat.le_of_ble_eq_true rfl) rfl ?_
  refine sx_aload_n (i := 0) (j := 0) dX2_seek_8 rfl rfl ?_
  refine sx_iconst (v := (0 : Int32)) dX2_seek_9 (by decide) ?_
  refine sx_putI (k := 5) dX2_seek_10 (X2_k h0) cf_2 (Or.inl wd_308) (by decide : 5 < 6) rfl rfl rfl rfl (fun L2 eL2 => ?_)
  have h := lt_e eL2 h
  refine sx_aload_n (i := 0) (j := 0) dX2_seek_13 rfl rfl ?_
  refine sx_get (k := 0) (v := .ref (a0 + 1)) dX2_seek_14 (X2_k h0) cf_2 (Or.inl wd_302) (by decide : 0 < 6) (congrArg Value.ref (X2_r0 h0)) ?_
  refine sx_iload_n (i := 3) (j := 3) dX2_seek_17 rfl rfl ?_
  obtain ⟨z3, ez3, h⟩ := bd_e h
  refine sx_callV (avs := [.int v3]) (rest := []) (st1 := [.int z3]) dX2_seek_18 (mX4_hasOne (X2_o0 h0) ez3) ciX4_hasOne (Or.inr ⟨_, nw_781⟩) (X4_k (X2_o0 h0)) rfl rfl rfl rfl (rm_m rfl) rfl (Nat.le_of_ble_eq_true rfl) rfl ?_
  refine sx_if_eq (tgt := 33) dX2_seek_21 rfl (fun c4 => ?_) (fun c4 => ?_)
  · have h := if_e c4 h
    obtain rfl := Option.some.inj h
    exact sx_vret dX2_seek_33 rfl k3.1 k3.2
  · have h := if_n c4 h
    refine sx_aload_n (i := 0) (j := 0) dX2_seek_24 rfl rfl ?_
    refine sx_iconst (v := (0 : Int32)) dX2_seek_25 (by decide) ?_
    refine sx_iload_n (i := 2) (j := 2) dX2_seek_26 rfl rfl ?_
    refine sx_iload_n (i := 3) (j := 3) dX2_seek_27 rfl rfl ?_
    refine sx_iload (j := 4) dX2_seek_28 rfl ?_
    obtain ⟨z5, ez5, h⟩ := bd_e h
    refine sx_callS (avs := [.ref a0, .int (0 : Int32), .int v2, .int v3, .int v4]) (rest := []) (st1 := []) dX2_seek_30 (mX2_tryOrders h0 ez5) ctX2_tryOrders (Or.inl wd_782) rfl rfl (rm_m rfl) rfl (Nat.le_of_ble_eq_true rfl) rfl ?_
    obtain rfl := Option.some.inj h
    exact sx_vret dX2_seek_33 rfl k3.1 k3.2
set_option maxRecDepth 100000 in
set_option maxHeartbeats 4000000 in
theorem mJ6_bitCount_0f7a4 {l : Launch} {E : Ev} {L : HL} {v0 : Int32} {z : Int32} (h : fJ6_bitCount_0f7a4 v0 = some z) : Mt l E yJ6_bitCount_0f7a4 cJ6_bitCount_0f7a4 1 (some .int) (1) [.int v0] L (some (.int z)) L := by
  obtain ⟨r, hr⟩ : ∃ r : Option Value, r = some (.int z) := ⟨_, rfl⟩
  obtain ⟨L', hL'⟩ : ∃ L' : HL, L' = L := ⟨_, rfl⟩
  have k3 : r = some (.int z) ∧ L' = L := ⟨hr, hL'⟩
  refine mt_eq hr hL' ?_
  refine Mt.of (plainFor_of_name (by decide)) (Nat.le_of_ble_eq_true rfl) ?_
  refine sx_sub (lv' := [(0, .int v0)]) [0] rfl ?_
  unfold fJ6_bitCount_0f7a4 at h
  refine sx_iload_n (i := 0) (j := 0) dJ6_bitCount_0f7a4_0 rfl rfl ?_
  refine sx_iload_n (i := 0) (j := 0) dJ6_bitCount_0f7a4_1 rfl rfl ?_
  refine sx_iconst (v := (1 : Int32)) dJ6_bitCount_0f7a4_2 (by decide) ?_
  refine sx_iushr dJ6_bitCount_0f7a4_3 ?_
  refine sx_ldcw (v := (1431655765 : Int32)) dJ6_bitCount_0f7a4_4 wd_675 ?_
  refine sx_iand dJ6_bitCount_0f7a4_7 ?_
  refine sx_isub dJ6_bitCount_0f7a4_8 ?_
  refine sx_topi (fun w1 ew1 => ?_)
  have h := lt_e ew1 h
  refine sx_istore_n (i := 0) (lv' := [(0, .int w1)]) dJ6_bitCount_0f7a4_9 rfl (by decide) rfl ?_
  refine sx_iload_n (i := 0) (j := 0) dJ6_bitCount_0f7a4_10 rfl rfl ?_
  refine sx_ldcw (v := (858993459 : Int32)) dJ6_bitCount_0f7a4_11 wd_676 ?_
  refine sx_iand dJ6_bitCount_0f7a4_14 ?_
  refine sx_iload_n (i := 0) (j := 0) dJ6_bitCount_0f7a4_15 rfl rfl ?_
  refine sx_iconst (v := (2 : Int32)) dJ6_bitCount_0f7a4_16 (by decide) ?_
  refine sx_iushr dJ6_bitCount_0f7a4_17 ?_
  refine sx_ldcw (v := (858993459 : Int32)) dJ6_bitCount_0f7a4_18 wd_676 ?_
  refine sx_iand dJ6_bitCount_0f7a4_21 ?_
  refine sx_iadd dJ6_bitCount_0f7a4_22 ?_
  refine sx_topi (fun w2 ew2 => ?_)
  have h := lt_e ew2 h
  refine sx_istore_n (i := 0) (lv' := [(0, .int w2)]) dJ6_bitCount_0f7a4_23 rfl (by decide) rfl ?_
  refine sx_iload_n (i := 0) (j := 0) dJ6_bitCount_0f7a4_24 rfl rfl ?_
  refine sx_iload_n (i := 0) (j := 0) dJ6_bitCount_0f7a4_25 rfl rfl ?_
  refine sx_iconst (v := (4 : Int32)) dJ6_bitCount_0f7a4_26 (by decide) ?_
  refine sx_iushr dJ6_bitCount_0f7a4_27 ?_
  refine sx_iadd dJ6_bitCount_0f7a4_28 ?_
  refine sx_ldcw (v := (252645135 : Int32)) dJ6_bitCount_0f7a4_29 wd_677 ?_
  refine sx_iand dJ6_bitCount_0f7a4_32 ?_
  refine sx_topi (fun w3 ew3 => ?_)
  have h := lt_e ew3 h
  refine sx_istore_n (i := 0) (lv' := [(0, .int w3)]) dJ6_bitCount_0f7a4_33 rfl (by decide) rfl ?_
  refine sx_iload_n (i := 0) (j := 0) dJ6_bitCount_0f7a4_34 rfl rfl ?_
  refine sx_iload_n (i := 0) (j := 0) dJ6_bitCount_0f7a4_35 rfl rfl ?_
  refine sx_bipush (v := (8 : Int32)) dJ6_bitCount_0f7a4_36 (by decide) ?_
  refine sx_iushr dJ6_bitCount_0f7a4_38 ?_
  refine sx_iadd dJ6_bitCount_0f7a4_39 ?_
  refine sx_topi (fun w4 ew4 => ?_)
  have h := lt_e ew4 h
  refine sx_istore_n (i := 0) (lv' := [(0, .int w4)]) dJ6_bitCount_0f7a4_40 rfl (by decide) rfl ?_
  refine sx_iload_n (i := 0) (j := 0) dJ6_bitCount_0f7a4_41 rfl rfl ?_
  refine sx_iload_n (i := 0) (j := 0) dJ6_bitCount_0f7a4_42 rfl rfl ?_
  refine sx_bipush (v := (16 : Int32)) dJ6_bitCount_0f7a4_43 (by decide) ?_
  refine sx_iushr dJ6_bitCount_0f7a4_45 ?_
  refine sx_iadd dJ6_bitCount_0f7a4_46 ?_
  refine sx_topi (fun w5 ew5 => ?_)
  have h := lt_e ew5 h
  refine sx_istore_n (i := 0) (lv' := [(0, .int w5)]) dJ6_bitCount_0f7a4_47 rfl (by decide) rfl ?_
  refine sx_iload_n (i := 0) (j := 0) dJ6_bitCount_0f7a4_48 rfl rfl ?_
  refine sx_bipush (v := (63 : Int32)) dJ6_bitCount_0f7a4_49 (by decide) ?_
  refine sx_iand dJ6_bitCount_0f7a4_51 ?_
  obtain rfl := Option.some.inj h
  exact sx_iret dJ6_bitCount_0f7a4_52 rfl rfl k3.1 k3.2
set_option maxRecDepth 100000 in
set_option maxHeartbeats 4000000 in
theorem tX2_neverOut_b38 {l : Launch} {E : Ev} {r : Option Value} {L' L : HL} {k : Nat} {rec : Nat → Int32 → Int32 → Int32 → HL → Option (Int32 × HL)} {a0 : Nat} {v1 : Int32} {v2 : Int32} {v3 : Int32} {v4 : Int32} (hrec : ∀ (a0 : Nat) (v1 : Int32) (v2 : Int32) (v3 : Int32) (L : HL) (z : Int32 × HL), isX2 E a0 → rec a0 v1 v2 v3 L = some z → Mt l E yX2_neverOut cX2_neverOut 5 (some .boolean) (5 + k) [.ref a0, .int v1, .int v2, .int v3] L (some (.int z.1)) (z.2)) {z : Tn (Int32 × HL) (Int32 × HL)} (h0 : isX2 E a0) (h : fX2_neverOut_b38 rec a0 v1 v2 v3 v4 L = some z) (k1 : ∀ s, z = .inl s → Sx l E yX2_neverOut cX2_neverOut 5 (some .boolean) (5 + k + 1) r L' 38 [(0, .ref a0), (1, .int v1), (2, .int v2), (3, .int v3), (4, .int s.1)] [] s.2) (k2 : ∀ s, z = .inr (.inl s) → Sx l E yX2_neverOut cX2_neverOut 5 (some .boolean) (5 + k + 1) r L' 96 [] [] s.2) (k3 : ∀ v, z = .inr (.inr v) → r = some (.int v.1) ∧ L' = v.2) : Sx l E yX2_neverOut cX2_neverOut 5 (some .boolean) (5 + k + 1) r L' 38 [(0, .ref a0), (1, .int v1), (2, .int v2), (3, .int v3), (4, .int v4)] [] L := by
  unfold fX2_neverOut_b38 at h
  refine sx_iload (j := 4) dX2_neverOut_38 rfl ?_
  refine sx_iconst (v := (5 : Int32)) dX2_neverOut_40 (by decide) ?_
  refine sx_icmp_ge (tgt := 96) dX2_neverOut_41 rfl (fun c7 => ?_) (fun c7 => ?_)
  · have h := if_e c7 h
    obtain rfl := Option.some.inj h
    exact sx_sub [] rfl (k2 _ rfl)
  · have h := if_n c7 h
    refine sx_iload_n (i := 2) (j := 2) dX2_neverOut_44 rfl rfl ?_
    refine sx_iload (j := 4) dX2_neverOut_45 rfl ?_
    refine sx_ishr dX2_neverOut_47 ?_
    refine sx_iconst (v := (1 : Int32)) dX2_neverOut_48 (by decide) ?_
    refine sx_iand dX2_neverOut_49 ?_
    refine sx_iconst (v := (1 : Int32)) dX2_neverOut_50 (by decide) ?_
    refine sx_icmp_ne (tgt := 90) dX2_neverOut_51 rfl (fun c8 => ?_) (fun c8 => ?_)
    · have h := if_e c8 h
      refine sx_aload_n (i := 0) (j := 0) dX2_neverOut_54 rfl rfl ?_
      refine sx_get (k := 0) (v := .ref (a0 + 1)) dX2_neverOut_55 (X2_k h0) cf_2 (Or.inl wd_302) (by decide : 0 < 6) (congrArg Value.ref (X2_r0 h0)) ?_
      refine sx_iload (j := 4) dX2_neverOut_58 rfl ?_
      obtain ⟨z9, ez9, h⟩ := bd_e h
      refine sx_callV (avs := [.int v4]) (rest := []) (st1 := [.int z9.1]) dX2_neverOut_60 (mX4_letFall (X2_o0 h0) ez9) ciX4_letFall (Or.inr ⟨_, nw_794⟩) (X4_k (X2_o0 h0)) rfl rfl rfl rfl (rm_m (ble_of (by omega))) rfl (Nat.le_of_ble_eq_true rfl) rfl ?_
      refine sx_pop dX2_neverOut_63 rfl ?_
      refine sx_aload_n (i := 0) (j := 0) dX2_neverOut_64 rfl rfl ?_
      refine sx_iload_n (i := 1) (j := 1) dX2_neverOut_65 rfl rfl ?_
      refine sx_iconst (v := (1 : Int32)) dX2_neverOut_66 (by decide) ?_
      refine sx_iadd dX2_neverOut_67 ?_
      refine sx_iload_n (i := 2) (j := 2) dX2_neverOut_68 rfl rfl ?_
      refine sx_iconst (v := (1 : Int32)) dX2_neverOut_69 (by decide) ?_
      refine sx_iload (j := 4) dX2_neverOut_70 rfl ?_
      refine sx_ishl dX2_neverOut_72 ?_
      refine sx_iconst (v := (-1 : Int32)) dX2_neverOut_73 (by decide) ?_
      refine sx_ixor dX2_neverOut_74 ?_
      refine sx_iand dX2_neverOut_75 ?_
      refine sx_iload_n (i := 3) (j := 3) dX2_neverOut_76 rfl rfl ?_
      obtain ⟨z10, ez10, h⟩ := bd_e h
      refine sx_callS (avs := [.ref a0, .int (v1 + (1 : Int32)), .int (v2 &&& (((1 : Int32) <<< (v4 &&& 31)) ^^^ (-1 : Int32))), .int v3]) (rest := []) (st1 := [.int z10.1]) dX2_neverOut_77 (hrec _ _ _ _ _ _ h0 ez10) ctX2_neverOut (Or.inl wd_807) rfl rfl (rm_m (ble_of (by omega))) rfl (Nat.le_of_ble_eq_true rfl) rfl ?_
      refine sx_if_ne (tgt := 85) dX2_neverOut_80 rfl (fun c11 => ?_) (fun c11 => ?_)
      · have h := if_e c11 h
        refine sx_iconst (v := (0 : Int32)) dX2_neverOut_83 (by decide) ?_
        obtain rfl := Option.some.inj h
        exact sx_iret dX2_neverOut_84 rfl (by decide) (k3 _ rfl).1 (k3 _ rfl).2
      · have h := if_n c11 h
        refine sx_aload_n (i := 0) (j := 0) dX2_neverOut_85 rfl rfl ?_
        refine sx_iload_n (i := 1) (j := 1) dX2_neverOut_86 rfl rfl ?_
        obtain ⟨z12, ez12, h⟩ := bd_e h
        refine sx_callV (avs := [.int v1]) (rest := []) (st1 := []) dX2_neverOut_87 (mX2_bringBack h0 ez12) ciX2_bringBack (Or.inl wd_795) (X2_k h0) rfl rfl rfl rfl (rm_m (ble_of (by omega))) rfl (Nat.le_of_ble_eq_true rfl) rfl ?_
        obtain ⟨w13, ew13⟩ : ∃ w : Int32, w = v4 + (1 : Int32) := ⟨_, rfl⟩
        have h := lt_e ew13 h
        refine sx_iinc (j := 4) (v := w13) (lv' := [(0, .ref a0), (1, .int v1), (2, .int v2), (3, .int v3), (4, .int w13)]) dX2_neverOut_90 rfl (ii_1 ew13) (by decide) rfl ?_
        refine sx_goto (tgt := 38) dX2_neverOut_93 rfl ?_
        obtain rfl := Option.some.inj h
        exact sx_sub [0, 1, 2, 3, 4] rfl (k1 _ rfl)
    · have h := if_n c8 h
      obtain ⟨w14, ew14⟩ : ∃ w : Int32, w = v4 + (1 : Int32) := ⟨_, rfl⟩
      have h := lt_e ew14 h
      refine sx_iinc (j := 4) (v := w14) (lv' := [(0, .ref a0), (1, .int v1), (2, .int v2), (3, .int v3), (4, .int w14)]) dX2_neverOut_90 rfl (ii_1 ew14) (by decide) rfl ?_
      refine sx_goto (tgt := 38) dX2_neverOut_93 rfl ?_
      obtain rfl := Option.some.inj h
      exact sx_sub [0, 1, 2, 3, 4] rfl (k1 _ rfl)
set_option maxRecDepth 100000 in
set_option maxHeartbeats 4000000 in
theorem mX2_neverOut_s {l : Launch} {E : Ev} {k : Nat} {L : HL} {rec : Nat → Int32 → Int32 → Int32 → HL → Option (Int32 × HL)} {a0 : Nat} {v1 : Int32} {v2 : Int32} {v3 : Int32} (hrec : ∀ (a0 : Nat) (v1 : Int32) (v2 : Int32) (v3 : Int32) (L : HL) (z : Int32 × HL), isX2 E a0 → rec a0 v1 v2 v3 L = some z → Mt l E yX2_neverOut cX2_neverOut 5 (some .boolean) (5 + k) [.ref a0, .int v1, .int v2, .int v3] L (some (.int z.1)) (z.2)) {z : Int32 × HL} (h0 : isX2 E a0) (h : fX2_neverOut_s rec a0 v1 v2 v3 L = some z) : Mt l E yX2_neverOut cX2_neverOut 5 (some .boolean) (5 + k + 1) [.ref a0, .int v1, .int v2, .int v3] L (some (.int z.1)) (z.2) := by
  obtain ⟨r, hr⟩ : ∃ r : Option Value, r = some (.int z.1) := ⟨_, rfl⟩
  obtain ⟨L', hL'⟩ : ∃ L' : HL, L' = z.2 := ⟨_, rfl⟩
  have k3 : r = some (.int z.1) ∧ L' = z.2 := ⟨hr, hL'⟩
  refine mt_eq hr hL' ?_
  refine Mt.of (plainFor_of_name (by decide)) (Nat.le_of_ble_eq_true rfl) ?_
  refine sx_sub (lv' := [(0, .ref a0), (1, .int v1), (2, .int v2), (3, .int v3)]) [0, 1, 2, 3] rfl ?_
  unfold fX2_neverOut_s at h
  refine sx_aload_n (i := 0) (j := 0) dX2_neverOut_0 rfl rfl ?_
  refine sx_get (k := 0) (v := .ref (a0 + 1)) dX2_neverOut_1 (X2_k h0) cf_2 (Or.inl wd_302) (by decide : 0 < 6) (congrArg Value.ref (X2_r0 h0)) ?_
  refine sx_get (k := 12) (v := .ref ((a0 + 1) + 9)) dX2_neverOut_4 (X4_k (X2_o0 h0)) cf_4 (Or.inr ⟨_, nw_168⟩) (by decide : 12 < 17) (congrArg Value.ref (X4_r12 (X2_o0 h0))) ?_
  refine sx_iload_n (i := 3) (j := 3) dX2_neverOut_7 rfl rfl ?_
  obtain ⟨c1, h⟩ := gd_e h
  refine sx_iald dX2_neverOut_8 (X4_a12 (X2_o0 h0)) c1 ?_
  refine sx_iconst (v := (-1 : Int32)) dX2_neverOut_9 (by decide) ?_
  refine sx_icmp_ne (tgt := 15) dX2_neverOut_10 rfl (fun c2 => ?_) (fun c2 => ?_)
  · have h := if_e c2 h
    refine sx_iconst (v := (0 : Int32)) dX2_neverOut_13 (by decide) ?_
    obtain rfl := Option.some.inj h
    exact sx_iret dX2_neverOut_14 rfl (by decide) k3.1 k3.2
  · have h := if_n c2 h
    refine sx_iload_n (i := 2) (j := 2) dX2_neverOut_15 rfl rfl ?_
    obtain ⟨z3, ez3, h⟩ := bd_e h
    refine sx_callS (avs := [.int v2]) (rest := []) (st1 := [.int z3]) dX2_neverOut_16 (mJ6_bitCount_0f7a4 ez3) ctJ6_bitCount_0f7a4 (Or.inl wd_810) rfl rfl (rm_m (ble_of (by omega))) rfl (Nat.le_of_ble_eq_true rfl) rfl ?_
    refine sx_iconst (v := (1 : Int32)) dX2_neverOut_19 (by decide) ?_
    refine sx_icmp_le (tgt := 28) dX2_neverOut_20 rfl (fun c4 => ?_) (fun c4 => ?_)
    · have h := if_e c4 h
      refine sx_iconst (v := (1 : Int32)) dX2_neverOut_28 (by decide) ?_
      obtain rfl := Option.some.inj h
      exact sx_iret dX2_neverOut_29 rfl (by decide) k3.1 k3.2
    · have h := if_n c4 h
      refine sx_iload_n (i := 1) (j := 1) dX2_neverOut_23 rfl rfl ?_
      refine sx_iconst (v := (5 : Int32)) dX2_neverOut_24 (by decide) ?_
      refine sx_icmp_lt (tgt := 30) dX2_neverOut_25 rfl (fun c5 => ?_) (fun c5 => ?_)
      · have h := if_e c5 h
        refine sx_aload_n (i := 0) (j := 0) dX2_neverOut_30 rfl rfl ?_
        refine sx_iload_n (i := 1) (j := 1) dX2_neverOut_31 rfl rfl ?_
        obtain ⟨z6, ez6, h⟩ := bd_e h
        refine sx_callV (avs := [.int v1]) (rest := []) (st1 := []) dX2_neverOut_32 (mX2_keep h0 ez6) ciX2_keep (Or.inl wd_790) (X2_k h0) rfl rfl rfl rfl (rm_m (ble_of (by omega))) rfl (Nat.le_of_ble_eq_true rfl) rfl ?_
        refine sx_iconst (v := (0 : Int32)) dX2_neverOut_35 (by decide) ?_
        refine sx_istore (lv' := [(0, .ref a0), (1, .int v1), (2, .int v2), (3, .int v3), (4, .int (0 : Int32))]) dX2_neverOut_36 (by decide) rfl ?_
        obtain ⟨x16, hx, q1, q2⟩ := lx_e h
        refine sx_sub (lv' := [(0, .ref a0), (1, .int v1), (2, .int v2), (3, .int v3), (4, .int (0 : Int32))]) [0, 1, 2, 3, 4] rfl ?_
        refine lp_go (fun s15 => Sx l E yX2_neverOut cX2_neverOut 5 (some .boolean) (5 + k + 1) r L' 38 [(0, .ref a0), (1, .int v1), (2, .int v2), (3, .int v3), (4, .int s15.1)] [] s15.2) x16 (fun s15 z2 hz c1 c2 => ?_) FU _ hx
        refine tX2_neverOut_b38 hrec h0 hz (fun s2 e => c1 s2 e) (fun s15 e => ?_) (fun v e => ?_)
        · have h := q1 _ (c2 _ e).symm
          refine sx_iconst (v := (1 : Int32)) dX2_neverOut_96 (by decide) ?_
          obtain rfl := Option.some.inj h
          exact sx_iret dX2_neverOut_97 rfl (by decide) k3.1 k3.2
        · have e2 := Option.some.inj (q2 _ (c2 _ e).symm)
          subst e2
          exact k3
      · have h := if_n c5 h
        refine sx_iconst (v := (1 : Int32)) dX2_neverOut_28 (by decide) ?_
        obtain rfl := Option.some.inj h
        exact sx_iret dX2_neverOut_29 rfl (by decide) k3.1 k3.2
set_option maxRecDepth 100000 in
set_option maxHeartbeats 4000000 in
theorem mX2_neverOut_all {l : Launch} {E : Ev} : ∀ k, ∀ (a0 : Nat) (v1 : Int32) (v2 : Int32) (v3 : Int32) (L : HL) (z : Int32 × HL), isX2 E a0 → fX2_neverOut k a0 v1 v2 v3 L = some z → Mt l E yX2_neverOut cX2_neverOut 5 (some .boolean) (5 + k) [.ref a0, .int v1, .int v2, .int v3] L (some (.int z.1)) (z.2) := by
  intro k
  induction k with
  | zero => intro a0 v1 v2 v3 L z _ h; cases h
  | succ k ih => intro a0 v1 v2 v3 L z g0 h; exact mX2_neverOut_s ih g0 h
theorem mX2_neverOut {l : Launch} {E : Ev} {a0 : Nat} {v1 : Int32} {v2 : Int32} {v3 : Int32} {L : HL} {z : Int32 × HL} (h0 : isX2 E a0) (h : fX2_neverOut 8 a0 v1 v2 v3 L = some z) : Mt l E yX2_neverOut cX2_neverOut 5 (some .boolean) (13) [.ref a0, .int v1, .int v2, .int v3] L (some (.int z.1)) (z.2) := mX2_neverOut_all 8 _ _ _ _ L z h0 h
set_option maxRecDepth 100000 in
set_option maxHeartbeats 4000000 in
theorem tX2_isSafe_b11 {l : Launch} {E : Ev} {r : Option Value} {L' L : HL} {a0 : Nat} {a1 : Nat} {v2 : Int32} {v3 : Int32} {v4 : Int32} {z : Tn (Int32 × HL) (Int32 × HL)} (h0 : isX2 E a0) (h1 : isX4 E a1) (h : fX2_isSafe_b11 a0 a1 v2 v3 v4 L = some z) (k1 : ∀ s, z = .inl s → Sx l E yX2_isSafe cX2_isSafe 5 (some .boolean) (14) r L' 11 [(0, .ref a0), (2, .int v2), (3, .int v3), (4, .int s.1)] [] s.2) (k2 : ∀ s, z = .inr (.inl s) → Sx l E yX2_isSafe cX2_isSafe 5 (some .boolean) (14) r L' 34 [(0, .ref a0), (3, .int v3)] [] s.2) (k3 : ∀ v, z = .inr (.inr v) → r = some (.int v.1) ∧ L' = v.2) : Sx l E yX2_isSafe cX2_isSafe 5 (some .boolean) (14) r L' 11 [(0, .ref a0), (2, .int v2), (3, .int v3), (4, .int v4)] [] L := by
  unfold fX2_isSafe_b11 at h
  refine sx_iload (j := 3) dX2_isSafe_11 rfl ?_
  refine sx_iconst (v := (5 : Int32)) dX2_isSafe_13 (by decide) ?_
  refine sx_icmp_ge (tgt := 34) dX2_isSafe_14 rfl (fun c2 => ?_) (fun c2 => ?_)
  · have h := if_e c2 h
    obtain rfl := Option.some.inj h
    exact sx_sub [0, 2] rfl (k2 _ rfl)
  · have h := if_n c2 h
    refine sx_aload_n (i := 0) (j := 0) dX2_isSafe_17 rfl rfl ?_
    refine sx_get (k := 0) (v := .ref (a0 + 1)) dX2_isSafe_18 (X2_k h0) cf_2 (Or.inl wd_302) (by decide : 0 < 6) (congrArg Value.ref (X2_r0 h0)) ?_
    refine sx_get (k := 8) (v := .ref ((a0 + 1) + 5)) dX2_isSafe_21 (X4_k (X2_o0 h0)) cf_4 (Or.inr ⟨_, nw_157⟩) (by decide : 8 < 17) (congrArg Value.ref (X4_r8 (X2_o0 h0))) ?_
    refine sx_iload (j := 3) dX2_isSafe_24 rfl ?_
    refine sx_iload_n (i := 2) (j := 1) dX2_isSafe_26 rfl rfl ?_
    obtain ⟨c3, h⟩ := gd_e h
    refine sx_iast dX2_isSafe_27 (X4_a8 (X2_o0 h0)) c3 (fun L4 eL4 => ?_)
    have h := lt_e eL4 h
    obtain ⟨w5, ew5⟩ : ∃ w : Int32, w = v4 + (1 : Int32) := ⟨_, rfl⟩
    have h := lt_e ew5 h
    refine sx_iinc (j := 3) (v := w5) (lv' := [(0, .ref a0), (2, .int v2), (3, .int v3), (4, .int w5)]) dX2_isSafe_28 rfl (ii_1 ew5) (by decide) rfl ?_
    refine sx_goto (tgt := 11) dX2_isSafe_31 rfl ?_
    obtain rfl := Option.some.inj h
    exact sx_sub [0, 1, 2, 3] rfl (k1 _ rfl)
set_option maxRecDepth 100000 in
set_option maxHeartbeats 4000000 in
theorem mX2_isSafe {l : Launch} {E : Ev} {L : HL} {a0 : Nat} {a1 : Nat} {v2 : Int32} {v3 : Int32} {z : Int32 × HL} (h0 : isX2 E a0) (h1 : isX4 E a1) (h : fX2_isSafe a0 a1 v2 v3 L = some z) : Mt l E yX2_isSafe cX2_isSafe 5 (some .boolean) (14) [.ref a0, .ref a1, .int v2, .int v3] L (some (.int z.1)) (z.2) := by
  obtain ⟨r, hr⟩ : ∃ r : Option Value, r = some (.int z.1) := ⟨_, rfl⟩
  obtain ⟨L', hL'⟩ : ∃ L' : HL, L' = z.2 := ⟨_, rfl⟩
  have k3 : r = some (.int z.1) ∧ L' = z.2 := ⟨hr, hL'⟩
  refine mt_eq hr hL' ?_
  refine Mt.of (plainFor_of_name (by decide)) (Nat.le_of_ble_eq_true rfl) ?_
  refine sx_sub (lv' := [(0, .ref a0), (1, .ref a1), (2, .int v2), (3, .int v3)]) [0, 1, 2, 3] rfl ?_
  unfold fX2_isSafe at h
  refine sx_aload_n (i := 0) (j := 0) dX2_isSafe_0 rfl rfl ?_
  refine sx_get (k := 0) (v := .ref (a0 + 1)) dX2_isSafe_1 (X2_k h0) cf_2 (Or.inl wd_302) (by decide : 0 < 6) (congrArg Value.ref (X2_r0 h0)) ?_
  refine sx_aload_n (i := 1) (j := 1) dX2_isSafe_4 rfl rfl ?_
  obtain ⟨z1, ez1, h⟩ := bd_e h
  refine sx_callV (avs := [.ref a1]) (rest := []) (st1 := []) dX2_isSafe_5 (mX4_takeFrom (X2_o0 h0) h1 ez1) ciX4_takeFrom (Or.inr ⟨_, nw_780⟩) (X4_k (X2_o0 h0)) rfl rfl rfl rfl (rm_m rfl) rfl (Nat.le_of_ble_eq_true rfl) rfl ?_
  refine sx_iconst (v := (0 : Int32)) dX2_isSafe_8 (by decide) ?_
  refine sx_istore (lv' := [(0, .ref a0), (1, .ref a1), (2, .int v2), (3, .int v3), (4, .int (0 : Int32))]) dX2_isSafe_9 (by decide) rfl ?_
  obtain ⟨x11, hx, q1, q2⟩ := lx_e h
  refine sx_sub (lv' := [(0, .ref a0), (2, .int v2), (3, .int v3), (4, .int (0 : Int32))]) [0, 2, 3, 4] rfl ?_
  refine lp_go (fun s6 => Sx l E yX2_isSafe cX2_isSafe 5 (some .boolean) (14) r L' 11 [(0, .ref a0), (2, .int v2), (3, .int v3), (4, .int s6.1)] [] s6.2) x11 (fun s6 z2 hz c1 c2 => ?_) FU _ hx
  refine tX2_isSafe_b11 h0 h1 hz (fun s2 e => c1 s2 e) (fun s6 e => ?_) (fun v e => ?_)
  · have h := q1 _ (c2 _ e).symm
    refine sx_aload_n (i := 0) (j := 0) dX2_isSafe_34 rfl rfl ?_
    refine sx_get (k := 0) (v := .ref (a0 + 1)) dX2_isSafe_35 (X2_k h0) cf_2 (Or.inl wd_302) (by decide : 0 < 6) (congrArg Value.ref (X2_r0 h0)) ?_
    refine sx_iload_n (i := 3) (j := 1) dX2_isSafe_38 rfl rfl ?_
    obtain ⟨z7, ez7, h⟩ := bd_e h
    refine sx_callV (avs := [.int v3]) (rest := []) (st1 := [.int z7]) dX2_isSafe_39 (mX4_hasOne (X2_o0 h0) ez7) ciX4_hasOne (Or.inr ⟨_, nw_781⟩) (X4_k (X2_o0 h0)) rfl rfl rfl rfl (rm_m rfl) rfl (Nat.le_of_ble_eq_true rfl) rfl ?_
    refine sx_if_eq (tgt := 65) dX2_isSafe_42 rfl (fun c8 => ?_) (fun c8 => ?_)
    · have h := if_e c8 h
      refine sx_iconst (v := (0 : Int32)) dX2_isSafe_65 (by decide) ?_
      obtain rfl := Option.some.inj h
      exact sx_iret dX2_isSafe_66 rfl (by decide) k3.1 k3.2
    · have h := if_n c8 h
      refine sx_aload_n (i := 0) (j := 0) dX2_isSafe_45 rfl rfl ?_
      refine sx_iconst (v := (0 : Int32)) dX2_isSafe_46 (by decide) ?_
      refine sx_aload_n (i := 0) (j := 0) dX2_isSafe_47 rfl rfl ?_
      refine sx_get (k := 0) (v := .ref (a0 + 1)) dX2_isSafe_48 (X2_k h0) cf_2 (Or.inl wd_302) (by decide : 0 < 6) (congrArg Value.ref (X2_r0 h0)) ?_
      refine sx_get (k := 1) (v := .int (s6.2.1 (a0 + 1) 1)) dX2_isSafe_51 (X4_k (X2_o0 h0)) cf_4 (Or.inr ⟨_, nw_138⟩) (by decide : 1 < 17) rfl ?_
      refine sx_iload_n (i := 3) (j := 1) dX2_isSafe_54 rfl rfl ?_
      obtain ⟨z9, ez9, h⟩ := bd_e h
      refine sx_callS (avs := [.ref a0, .int (0 : Int32), .int (s6.2.1 (a0 + 1) 1), .int v3]) (rest := []) (st1 := [.int z9.1]) dX2_isSafe_55 (mX2_neverOut h0 ez9) ctX2_neverOut (Or.inl wd_807) rfl rfl (rm_m rfl) rfl (Nat.le_of_ble_eq_true rfl) rfl ?_
      refine sx_if_eq (tgt := 65) dX2_isSafe_58 rfl (fun c10 => ?_) (fun c10 => ?_)
      · have h := if_e c10 h
        refine sx_iconst (v := (0 : Int32)) dX2_isSafe_65 (by decide) ?_
        obtain rfl := Option.some.inj h
        exact sx_iret dX2_isSafe_66 rfl (by decide) k3.1 k3.2
      · have h := if_n c10 h
        refine sx_iconst (v := (1 : Int32)) dX2_isSafe_61 (by decide) ?_
        refine sx_goto (tgt := 66) dX2_isSafe_62 rfl ?_
        obtain rfl := Option.some.inj h
        exact sx_iret dX2_isSafe_66 rfl (by decide) k3.1 k3.2
  · have e2 := Option.some.inj (q2 _ (c2 _ e).symm)
    subst e2
    exact k3
set_option maxRecDepth 100000 in
set_option maxHeartbeats 4000000 in
theorem mX3_forget {l : Launch} {E : Ev} {L : HL} {a0 : Nat} {z : HL} (h0 : isX3 E a0) (h : fX3_forget a0 L = some z) : Mt l E yX3_forget cX3_forget 1 (none) (1) [.ref a0] L (none) z := by
  obtain ⟨r, hr⟩ : ∃ r : Option Value, r = none := ⟨_, rfl⟩
  obtain ⟨L', hL'⟩ : ∃ L' : HL, L' = z := ⟨_, rfl⟩
  have k3 : r = none ∧ L' = z := ⟨hr, hL'⟩
  refine mt_eq hr hL' ?_
  refine Mt.of (plainFor_of_name (by decide)) (Nat.le_of_ble_eq_true rfl) ?_
  refine sx_sub (lv' := [(0, .ref a0)]) [0] rfl ?_
  unfold fX3_forget at h
  refine sx_aload_n (i := 0) (j := 0) dX3_forget_0 rfl rfl ?_
  refine sx_iconst (v := (0 : Int32)) dX3_forget_1 (by decide) ?_
  refine sx_putI (k := 0) dX3_forget_2 (X3_k h0) cf_3 (Or.inl wd_218) (by decide : 0 < 6) rfl rfl rfl rfl (fun L1 eL1 => ?_)
  have h := lt_e eL1 h
  refine sx_aload_n (i := 0) (j := 0) dX3_forget_5 rfl rfl ?_
  refine sx_iconst (v := (0 : Int32)) dX3_forget_6 (by decide) ?_
  refine sx_putI (k := 1) dX3_forget_7 (X3_k h0) cf_3 (Or.inl wd_220) (by decide : 1 < 6) rfl rfl rfl rfl (fun L2 eL2 => ?_)
  have h := lt_e eL2 h
  obtain rfl := Option.some.inj h
  exact sx_vret dX3_forget_10 rfl k3.1 k3.2
set_option maxRecDepth 100000 in
set_option maxHeartbeats 4000000 in
theorem mJ9_floorMod_7cf53 {l : Launch} {E : Ev} {L : HL} {v0 : Int32} {v1 : Int32} {z : Int32} (h : fJ9_floorMod_7cf53 v0 v1 = some z) : Mt l E yJ9_floorMod_7cf53 cJ9_floorMod_7cf53 3 (some .int) (1) [.int v0, .int v1] L (some (.int z)) L := by
  obtain ⟨r, hr⟩ : ∃ r : Option Value, r = some (.int z) := ⟨_, rfl⟩
  obtain ⟨L', hL'⟩ : ∃ L' : HL, L' = L := ⟨_, rfl⟩
  have k3 : r = some (.int z) ∧ L' = L := ⟨hr, hL'⟩
  refine mt_eq hr hL' ?_
  refine Mt.of (by decide +kernel) (Nat.le_of_ble_eq_true rfl) ?_
  refine sx_sub (lv' := [(0, .int v0), (1, .int v1)]) [0, 1] rfl ?_
  unfold fJ9_floorMod_7cf53 at h
  refine sx_iload_n (i := 0) (j := 0) dJ9_floorMod_7cf53_0 rfl rfl ?_
  refine sx_iload_n (i := 1) (j := 1) dJ9_floorMod_7cf53_1 rfl rfl ?_
  obtain ⟨c1, h⟩ := gd_e h
  refine sx_irem dJ9_floorMod_7cf53_2 c1 ?_
  refine sx_topi (fun w2 ew2 => ?_)
  have h := lt_e ew2 h
  refine sx_istore_n (i := 2) (lv' := [(0, .int v0), (1, .int v1), (2, .int w2)]) dJ9_floorMod_7cf53_3 rfl (by decide) rfl ?_
  refine sx_iload_n (i := 0) (j := 0) dJ9_floorMod_7cf53_4 rfl rfl ?_
  refine sx_iload_n (i := 1) (j := 1) dJ9_floorMod_7cf53_5 rfl rfl ?_
  refine sx_ixor dJ9_floorMod_7cf53_6 ?_
  refine sx_if_ge (tgt := 18) dJ9_floorMod_7cf53_7 rfl (fun c3 => ?_) (fun c3 => ?_)
  · have h := if_e c3 h
    refine sx_iload_n (i := 2) (j := 2) dJ9_floorMod_7cf53_18 rfl rfl ?_
    obtain rfl := Option.some.inj h
    exact sx_iret dJ9_floorMod_7cf53_19 rfl rfl k3.1 k3.2
  · have h := if_n c3 h
    refine sx_iload_n (i := 2) (j := 2) dJ9_floorMod_7cf53_10 rfl rfl ?_
    refine sx_if_eq (tgt := 18) dJ9_floorMod_7cf53_11 rfl (fun c4 => ?_) (fun c4 => ?_)
    · have h := if_e c4 h
      refine sx_iload_n (i := 2) (j := 2) dJ9_floorMod_7cf53_18 rfl rfl ?_
      obtain rfl := Option.some.inj h
      exact sx_iret dJ9_floorMod_7cf53_19 rfl rfl k3.1 k3.2
    · have h := if_n c4 h
      refine sx_iload_n (i := 2) (j := 2) dJ9_floorMod_7cf53_14 rfl rfl ?_
      refine sx_iload_n (i := 1) (j := 1) dJ9_floorMod_7cf53_15 rfl rfl ?_
      refine sx_iadd dJ9_floorMod_7cf53_16 ?_
      obtain rfl := Option.some.inj h
      exact sx_iret dJ9_floorMod_7cf53_17 rfl rfl k3.1 k3.2
set_option maxRecDepth 100000 in
set_option maxHeartbeats 4000000 in
theorem mX3_keep {l : Launch} {E : Ev} {L : HL} {a0 : Nat} {a1 : Nat} {z : HL} (h0 : isX3 E a0) (h1 : isX4 E a1) (h : fX3_keep a0 a1 L = some z) : Mt l E yX3_keep cX3_keep 3 (none) (3) [.ref a0, .ref a1] L (none) z := by
  obtain ⟨r, hr⟩ : ∃ r : Option Value, r = none := ⟨_, rfl⟩
  obtain ⟨L', hL'⟩ : ∃ L' : HL, L' = z := ⟨_, rfl⟩
  have k3 : r = none ∧ L' = z := ⟨hr, hL'⟩
  refine mt_eq hr hL' ?_
  refine Mt.of (plainFor_of_name (by decide)) (Nat.le_of_ble_eq_true rfl) ?_
  refine sx_sub (lv' := [(0, .ref a0), (1, .ref a1)]) [0, 1] rfl ?_
  unfold fX3_keep at h
  refine sx_aload_n (i := 0) (j := 0) dX3_keep_0 rfl rfl ?_
  refine sx_get (k := 1) (v := .int (L.1 a0 1)) dX3_keep_1 (X3_k h0) cf_3 (Or.inl wd_220) (by decide : 1 < 6) rfl ?_
  refine sx_bipush (v := (8 : Int32)) dX3_keep_4 (by decide) ?_
  obtain ⟨z1, ez1, h⟩ := bd_e h
  refine sx_callS (avs := [.int (L.1 a0 1), .int (8 : Int32)]) (rest := []) (st1 := [.int z1]) dX3_keep_6 (mJ9_floorMod_7cf53 ez1) ctJ9_floorMod_7cf53 (Or.inl wd_622) rfl rfl (rm_m rfl) rfl (Nat.le_of_ble_eq_true rfl) rfl ?_
  refine sx_istore_n (i := 2) (lv' := [(0, .ref a0), (1, .ref a1), (2, .int z1)]) dX3_keep_9 rfl (by decide) rfl ?_
  refine sx_aload_n (i := 0) (j := 0) dX3_keep_10 rfl rfl ?_
  refine sx_get (k := 2) (v := .ref (a0 + 1)) dX3_keep_11 (X3_k h0) cf_3 (Or.inl wd_221) (by decide : 2 < 6) (congrArg Value.ref (X3_r2 h0)) ?_
  refine sx_iload_n (i := 2) (j := 2) dX3_keep_14 rfl rfl ?_
  refine sx_aload_n (i := 1) (j := 1) dX3_keep_15 rfl rfl ?_
  refine sx_get (k := 1) (v := .int (L.1 a1 1)) dX3_keep_16 (X4_k h1) cf_4 (Or.inr ⟨_, nw_137⟩) (by decide : 1 < 17) rfl ?_
  obtain ⟨c2, h⟩ := gd_e h
  refine sx_iast dX3_keep_19 (X3_a2 h0) c2 (fun L3 eL3 => ?_)
  have h := lt_e eL3 h
  refine sx_aload_n (i := 0) (j := 0) dX3_keep_20 rfl rfl ?_
  refine sx_get (k := 3) (v := .ref (a0 + 2)) dX3_keep_21 (X3_k h0) cf_3 (Or.inl wd_222) (by decide : 3 < 6) (congrArg Value.ref (X3_r3 h0)) ?_
  refine sx_iload_n (i := 2) (j := 2) dX3_keep_24 rfl rfl ?_
  refine sx_aload_n (i := 1) (j := 1) dX3_keep_25 rfl rfl ?_
  refine sx_get (k := 3) (v := .int (L3.1 a1 3)) dX3_keep_26 (X4_k h1) cf_4 (Or.inr ⟨_, nw_144⟩) (by decide : 3 < 17) rfl ?_
  obtain ⟨c4, h⟩ := gd_e h
  refine sx_iast dX3_keep_29 (X3_a3 h0) c4 (fun L5 eL5 => ?_)
  have h := lt_e eL5 h
  refine sx_aload_n (i := 1) (j := 1) dX3_keep_30 rfl rfl ?_
  refine sx_get (k := 6) (v := .ref (a1 + 3)) dX3_keep_31 (X4_k h1) cf_4 (Or.inr ⟨_, nw_152⟩) (by decide : 6 < 17) (congrArg Value.ref (X4_r6 h1)) ?_
  refine sx_aload_n (i := 0) (j := 0) dX3_keep_34 rfl rfl ?_
  refine sx_get (k := 4) (v := .ref (a0 + 3)) dX3_keep_35 (X3_k h0) cf_3 (Or.inl wd_223) (by decide : 4 < 6) (congrArg Value.ref (X3_r4 h0)) ?_
  refine sx_iload_n (i := 2) (j := 2) dX3_keep_38 rfl rfl ?_
  obtain ⟨c6, h⟩ := gd_e h
  refine sx_aald dX3_keep_39 (X3_a4 h0) c6 ((X3_w4 h0) _ (in_lt c6)).1 ?_
  obtain ⟨z7, ez7, h⟩ := bd_e h
  refine sx_callS (avs := [.ref (a1 + 3), .ref ((a0 + 3) + 1 + z1.toNatClampNeg)]) (rest := []) (st1 := []) dX3_keep_40 (mX6_copyRow (X4_a6 h1) ((X3_w4 h0) _ (in_lt c6)).2 ez7) ctX6_copyRow (Or.inr ⟨_, nw_625⟩) rfl rfl (rm_m rfl) rfl (Nat.le_of_ble_eq_true rfl) rfl ?_
  refine sx_aload_n (i := 1) (j := 1) dX3_keep_43 rfl rfl ?_
  refine sx_get (k := 12) (v := .ref (a1 + 9)) dX3_keep_44 (X4_k h1) cf_4 (Or.inr ⟨_, nw_166⟩) (by decide : 12 < 17) (congrArg Value.ref (X4_r12 h1)) ?_
  refine sx_aload_n (i := 0) (j := 0) dX3_keep_47 rfl rfl ?_
  refine sx_get (k := 5) (v := .ref (a0 + 12)) dX3_keep_48 (X3_k h0) cf_3 (Or.inl wd_224) (by decide : 5 < 6) (congrArg Value.ref (X3_r5 h0)) ?_
  refine sx_iload_n (i := 2) (j := 2) dX3_keep_51 rfl rfl ?_
  obtain ⟨c8, h⟩ := gd_e h
  refine sx_aald dX3_keep_52 (X3_a5 h0) c8 ((X3_w5 h0) _ (in_lt c8)).1 ?_
  obtain ⟨z9, ez9, h⟩ := bd_e h
  refine sx_callS (avs := [.ref (a1 + 9), .ref ((a0 + 12) + 1 + z1.toNatClampNeg)]) (rest := []) (st1 := []) dX3_keep_53 (mX6_copyRow (X4_a12 h1) ((X3_w5 h0) _ (in_lt c8)).2 ez9) ctX6_copyRow (Or.inr ⟨_, nw_625⟩) rfl rfl (rm_m rfl) rfl (Nat.le_of_ble_eq_true rfl) rfl ?_
  refine sx_aload_n (i := 0) (j := 0) dX3_keep_56 rfl rfl ?_
  refine sx_iload_n (i := 2) (j := 2) dX3_keep_57 rfl rfl ?_
  refine sx_iconst (v := (1 : Int32)) dX3_keep_58 (by decide) ?_
  refine sx_iadd dX3_keep_59 ?_
  refine sx_bipush (v := (8 : Int32)) dX3_keep_60 (by decide) ?_
  obtain ⟨z10, ez10, h⟩ := bd_e h
  refine sx_callS (avs := [.int (z1 + (1 : Int32)), .int (8 : Int32)]) (rest := [.ref a0]) (st1 := [.int z10, .ref a0]) dX3_keep_62 (mJ9_floorMod_7cf53 ez10) ctJ9_floorMod_7cf53 (Or.inl wd_622) rfl rfl (rm_m rfl) rfl (Nat.le_of_ble_eq_true rfl) rfl ?_
  refine sx_putI (k := 1) dX3_keep_65 (X3_k h0) cf_3 (Or.inl wd_220) (by decide : 1 < 6) rfl rfl rfl rfl (fun L11 eL11 => ?_)
  have h := lt_e eL11 h
  refine sx_aload_n (i := 0) (j := 0) dX3_keep_68 rfl rfl ?_
  refine sx_aload_n (i := 0) (j := 0) dX3_keep_69 rfl rfl ?_
  refine sx_get (k := 0) (v := .int (L11.1 a0 0)) dX3_keep_70 (X3_k h0) cf_3 (Or.inl wd_218) (by decide : 0 < 6) rfl ?_
  refine sx_iconst (v := (1 : Int32)) dX3_keep_73 (by decide) ?_
  refine sx_iadd dX3_keep_74 ?_
  refine sx_bipush (v := (8 : Int32)) dX3_keep_75 (by decide) ?_
  obtain ⟨z12, ez12, h⟩ := bd_e h
  refine sx_callS (avs := [.int ((L11.1 a0 0) + (1 : Int32)), .int (8 : Int32)]) (rest := [.ref a0]) (st1 := [.int z12, .ref a0]) dX3_keep_77 (mJ9_min_7cf53 ez12) ctJ9_min_7cf53 (Or.inl wd_626) rfl rfl (rm_m rfl) rfl (Nat.le_of_ble_eq_true rfl) rfl ?_
  refine sx_putI (k := 0) dX3_keep_80 (X3_k h0) cf_3 (Or.inl wd_218) (by decide : 0 < 6) rfl rfl rfl rfl (fun L13 eL13 => ?_)
  have h := lt_e eL13 h
  obtain rfl := Option.some.inj h
  exact sx_vret dX3_keep_83 rfl k3.1 k3.2
set_option maxRecDepth 100000 in
set_option maxHeartbeats 4000000 in
theorem mX3_bringBack {l : Launch} {E : Ev} {L : HL} {a0 : Nat} {a1 : Nat} {z : HL} (h0 : isX3 E a0) (h1 : isX4 E a1) (h : fX3_bringBack a0 a1 L = some z) : Mt l E yX3_bringBack cX3_bringBack 3 (none) (3) [.ref a0, .ref a1] L (none) z := by
  obtain ⟨r, hr⟩ : ∃ r : Option Value, r = none := ⟨_, rfl⟩
  obtain ⟨L', hL'⟩ : ∃ L' : HL, L' = z := ⟨_, rfl⟩
  have k3 : r = none ∧ L' = z := ⟨hr, hL'⟩
  refine mt_eq hr hL' ?_
  refine Mt.of (plainFor_of_name (by decide)) (Nat.le_of_ble_eq_true rfl) ?_
  refine sx_sub (lv' := [(0, .ref a0), (1, .ref a1)]) [0, 1] rfl ?_
  unfold fX3_bringBack at h
  refine sx_aload_n (i := 0) (j := 0) dX3_bringBack_0 rfl rfl ?_
  refine sx_get (k := 0) (v := .int (L.1 a0 0)) dX3_bringBack_1 (X3_k h0) cf_3 (Or.inl wd_218) (by decide : 0 < 6) rfl ?_
  refine sx_if_ne (tgt := 8) dX3_bringBack_4 rfl (fun c1 => ?_) (fun c1 => ?_)
  · have h := if_e c1 h
    obtain rfl := Option.some.inj h
    exact sx_vret dX3_bringBack_7 rfl k3.1 k3.2
  · have h := if_n c1 h
    refine sx_aload_n (i := 0) (j := 0) dX3_bringBack_8 rfl rfl ?_
    refine sx_get (k := 1) (v := .int (L.1 a0 1)) dX3_bringBack_9 (X3_k h0) cf_3 (Or.inl wd_220) (by decide : 1 < 6) rfl ?_
    refine sx_iconst (v := (1 : Int32)) dX3_bringBack_12 (by decide) ?_
    refine sx_isub dX3_bringBack_13 ?_
    refine sx_bipush (v := (8 : Int32)) dX3_bringBack_14 (by decide) ?_
    obtain ⟨z2, ez2, h⟩ := bd_e h
    refine sx_callS (avs := [.int ((L.1 a0 1) - (1 : Int32)), .int (8 : Int32)]) (rest := []) (st1 := [.int z2]) dX3_bringBack_16 (mJ9_floorMod_7cf53 ez2) ctJ9_floorMod_7cf53 (Or.inl wd_622) rfl rfl (rm_m rfl) rfl (Nat.le_of_ble_eq_true rfl) rfl ?_
    refine sx_istore_n (i := 2) (lv' := [(0, .ref a0), (1, .ref a1), (2, .int z2)]) dX3_bringBack_19 rfl (by decide) rfl ?_
    refine sx_aload_n (i := 1) (j := 1) dX3_bringBack_20 rfl rfl ?_
    refine sx_aload_n (i := 0) (j := 0) dX3_bringBack_21 rfl rfl ?_
    refine sx_get (k := 2) (v := .ref (a0 + 1)) dX3_bringBack_22 (X3_k h0) cf_3 (Or.inl wd_221) (by decide : 2 < 6) (congrArg Value.ref (X3_r2 h0)) ?_
    refine sx_iload_n (i := 2) (j := 2) dX3_bringBack_25 rfl rfl ?_
    obtain ⟨c3, h⟩ := gd_e h
    refine sx_iald dX3_bringBack_26 (X3_a2 h0) c3 ?_
    refine sx_putI (k := 1) dX3_bringBack_27 (X4_k h1) cf_4 (Or.inr ⟨_, nw_137⟩) (by decide : 1 < 17) rfl rfl rfl rfl (fun L4 eL4 => ?_)
    have h := lt_e eL4 h
    refine sx_aload_n (i := 1) (j := 1) dX3_bringBack_30 rfl rfl ?_
    refine sx_aload_n (i := 0) (j := 0) dX3_bringBack_31 rfl rfl ?_
    refine sx_get (k := 3) (v := .ref (a0 + 2)) dX3_bringBack_32 (X3_k h0) cf_3 (Or.inl wd_222) (by decide : 3 < 6) (congrArg Value.ref (X3_r3 h0)) ?_
    refine sx_iload_n (i := 2) (j := 2) dX3_bringBack_35 rfl rfl ?_
    obtain ⟨c5, h⟩ := gd_e h
    refine sx_iald dX3_bringBack_36 (X3_a3 h0) c5 ?_
    refine sx_putI (k := 3) dX3_bringBack_37 (X4_k h1) cf_4 (Or.inr ⟨_, nw_144⟩) (by decide : 3 < 17) rfl rfl rfl rfl (fun L6 eL6 => ?_)
    have h := lt_e eL6 h
    refine sx_aload_n (i := 0) (j := 0) dX3_bringBack_40 rfl rfl ?_
    refine sx_get (k := 4) (v := .ref (a0 + 3)) dX3_bringBack_41 (X3_k h0) cf_3 (Or.inl wd_223) (by decide : 4 < 6) (congrArg Value.ref (X3_r4 h0)) ?_
    refine sx_iload_n (i := 2) (j := 2) dX3_bringBack_44 rfl rfl ?_
    obtain ⟨c7, h⟩ := gd_e h
    refine sx_aald dX3_bringBack_45 (X3_a4 h0) c7 ((X3_w4 h0) _ (in_lt c7)).1 ?_
    refine sx_aload_n (i := 1) (j := 1) dX3_bringBack_46 rfl rfl ?_
    refine sx_get (k := 6) (v := .ref (a1 + 3)) dX3_bringBack_47 (X4_k h1) cf_4 (Or.inr ⟨_, nw_152⟩) (by decide : 6 < 17) (congrArg Value.ref (X4_r6 h1)) ?_
    obtain ⟨z8, ez8, h⟩ := bd_e h
    refine sx_callS (avs := [.ref ((a0 + 3) + 1 + z2.toNatClampNeg), .ref (a1 + 3)]) (rest := []) (st1 := []) dX3_bringBack_50 (mX6_copyRow ((X3_w4 h0) _ (in_lt c7)).2 (X4_a6 h1) ez8) ctX6_copyRow (Or.inr ⟨_, nw_625⟩) rfl rfl (rm_m rfl) rfl (Nat.le_of_ble_eq_true rfl) rfl ?_
    refine sx_aload_n (i := 0) (j := 0) dX3_bringBack_53 rfl rfl ?_
    refine sx_get (k := 5) (v := .ref (a0 + 12)) dX3_bringBack_54 (X3_k h0) cf_3 (Or.inl wd_224) (by decide : 5 < 6) (congrArg Value.ref (X3_r5 h0)) ?_
    refine sx_iload_n (i := 2) (j := 2) dX3_bringBack_57 rfl rfl ?_
    obtain ⟨c9, h⟩ := gd_e h
    refine sx_aald dX3_bringBack_58 (X3_a5 h0) c9 ((X3_w5 h0) _ (in_lt c9)).1 ?_
    refine sx_aload_n (i := 1) (j := 1) dX3_bringBack_59 rfl rfl ?_
    refine sx_get (k := 12) (v := .ref (a1 + 9)) dX3_bringBack_60 (X4_k h1) cf_4 (Or.inr ⟨_, nw_166⟩) (by decide : 12 < 17) (congrArg Value.ref (X4_r12 h1)) ?_
    obtain ⟨z10, ez10, h⟩ := bd_e h
    refine sx_callS (avs := [.ref ((a0 + 12) + 1 + z2.toNatClampNeg), .ref (a1 + 9)]) (rest := []) (st1 := []) dX3_bringBack_63 (mX6_copyRow ((X3_w5 h0) _ (in_lt c9)).2 (X4_a12 h1) ez10) ctX6_copyRow (Or.inr ⟨_, nw_625⟩) rfl rfl (rm_m rfl) rfl (Nat.le_of_ble_eq_true rfl) rfl ?_
    refine sx_aload_n (i := 0) (j := 0) dX3_bringBack_66 rfl rfl ?_
    refine sx_iload_n (i := 2) (j := 2) dX3_bringBack_67 rfl rfl ?_
    refine sx_putI (k := 1) dX3_bringBack_68 (X3_k h0) cf_3 (Or.inl wd_220) (by decide : 1 < 6) rfl rfl rfl rfl (fun L11 eL11 => ?_)
    have h := lt_e eL11 h
    refine sx_aload_n (i := 0) (j := 0) dX3_bringBack_71 rfl rfl ?_
    refine sx_dup dX3_bringBack_72 rfl ?_
    refine sx_get (k := 0) (v := .int (L11.1 a0 0)) dX3_bringBack_73 (X3_k h0) cf_3 (Or.inl wd_218) (by decide : 0 < 6) rfl ?_
    refine sx_iconst (v := (1 : Int32)) dX3_bringBack_76 (by decide) ?_
    refine sx_isub dX3_bringBack_77 ?_
    refine sx_putI (k := 0) dX3_bringBack_78 (X3_k h0) cf_3 (Or.inl wd_218) (by decide : 0 < 6) rfl rfl rfl rfl (fun L12 eL12 => ?_)
    have h := lt_e eL12 h
    obtain rfl := Option.some.inj h
    exact sx_vret dX3_bringBack_81 rfl k3.1 k3.2
set_option maxRecDepth 100000 in
set_option maxHeartbeats 4000000 in
theorem mX5_append {l : Launch} {E : Ev} {L : HL} {a0 : Nat} {v1 : Int32} {z : Int32 × HL} (h0 : isX5 E a0) (h : fX5_append a0 v1 L = some z) : Mt l E yX5_append cX5_append 2 (some .int) (1) [.ref a0, .int v1] L (some (.int z.1)) (z.2) := by
  obtain ⟨r, hr⟩ : ∃ r : Option Value, r = some (.int z.1) := ⟨_, rfl⟩
  obtain ⟨L', hL'⟩ : ∃ L' : HL, L' = z.2 := ⟨_, rfl⟩
  have k3 : r = some (.int z.1) ∧ L' = z.2 := ⟨hr, hL'⟩
  refine mt_eq hr hL' ?_
  refine Mt.of (plainFor_of_name (by decide)) (Nat.le_of_ble_eq_true rfl) ?_
  refine sx_sub (lv' := [(0, .ref a0), (1, .int v1)]) [0, 1] rfl ?_
  unfold fX5_append at h
  refine sx_aload_n (i := 0) (j := 0) dX5_append_0 rfl rfl ?_
  refine sx_get (k := 1) (v := .int (L.1 a0 1)) dX5_append_1 (X5_k h0) cf_5 (Or.inl wd_267) (by decide : 1 < 8) rfl ?_
  refine sx_sipush (v := (150 : Int32)) dX5_append_4 (by decide) ?_
  refine sx_icmp_lt (tgt := 13) dX5_append_7 rfl (fun c1 => ?_) (fun c1 => ?_)
  · have h := if_e c1 h
    refine sx_aload_n (i := 0) (j := 0) dX5_append_13 rfl rfl ?_
    refine sx_get (k := 0) (v := .ref (a0 + 1)) dX5_append_14 (X5_k h0) cf_5 (Or.inl wd_266) (by decide : 0 < 8) (congrArg Value.ref (X5_r0 h0)) ?_
    refine sx_aload_n (i := 0) (j := 0) dX5_append_17 rfl rfl ?_
    refine sx_get (k := 1) (v := .int (L.1 a0 1)) dX5_append_18 (X5_k h0) cf_5 (Or.inl wd_267) (by decide : 1 < 8) rfl ?_
    refine sx_iload_n (i := 1) (j := 1) dX5_append_21 rfl rfl ?_
    obtain ⟨c2, h⟩ := gd_e h
    refine sx_iast dX5_append_22 (X5_a0 h0) c2 (fun L3 eL3 => ?_)
    have h := lt_e eL3 h
    refine sx_aload_n (i := 0) (j := 0) dX5_append_23 rfl rfl ?_
    refine sx_dup dX5_append_24 rfl ?_
    refine sx_get (k := 1) (v := .int (L3.1 a0 1)) dX5_append_25 (X5_k h0) cf_5 (Or.inl wd_267) (by decide : 1 < 8) rfl ?_
    refine sx_iconst (v := (1 : Int32)) dX5_append_28 (by decide) ?_
    refine sx_iadd dX5_append_29 ?_
    refine sx_putI (k := 1) dX5_append_30 (X5_k h0) cf_5 (Or.inl wd_267) (by decide : 1 < 8) rfl rfl rfl rfl (fun L4 eL4 => ?_)
    have h := lt_e eL4 h
    refine sx_aload_n (i := 0) (j := 0) dX5_append_33 rfl rfl ?_
    refine sx_get (k := 1) (v := .int (L4.1 a0 1)) dX5_append_34 (X5_k h0) cf_5 (Or.inl wd_267) (by decide : 1 < 8) rfl ?_
    obtain rfl := Option.some.inj h
    exact sx_iret dX5_append_37 rfl rfl k3.1 k3.2
  · have h := if_n c1 h
    refine sx_bipush (v := (-4 : Int32)) dX5_append_10 (by decide) ?_
    obtain rfl := Option.some.inj h
    exact sx_iret dX5_append_12 rfl rfl k3.1 k3.2
set_option maxRecDepth 100000 in
set_option maxHeartbeats 4000000 in
theorem mX5_isLetter {l : Launch} {E : Ev} {L : HL} {v0 : Int32} {z : Int32} (h : fX5_isLetter v0 = some z) : Mt l E yX5_isLetter cX5_isLetter 1 (some .boolean) (1) [.int v0] L (some (.int z)) L := by
  obtain ⟨r, hr⟩ : ∃ r : Option Value, r = some (.int z) := ⟨_, rfl⟩
  obtain ⟨L', hL'⟩ : ∃ L' : HL, L' = L := ⟨_, rfl⟩
  have k3 : r = some (.int z) ∧ L' = L := ⟨hr, hL'⟩
  refine mt_eq hr hL' ?_
  refine Mt.of (plainFor_of_name (by decide)) (Nat.le_of_ble_eq_true rfl) ?_
  refine sx_sub (lv' := [(0, .int v0)]) [0] rfl ?_
  unfold fX5_isLetter at h
  refine sx_iload_n (i := 0) (j := 0) dX5_isLetter_0 rfl rfl ?_
  refine sx_bipush (v := (97 : Int32)) dX5_isLetter_1 (by decide) ?_
  refine sx_icmp_lt (tgt := 16) dX5_isLetter_3 rfl (fun c1 => ?_) (fun c1 => ?_)
  · have h := if_e c1 h
    refine sx_iconst (v := (0 : Int32)) dX5_isLetter_16 (by decide) ?_
    obtain rfl := Option.some.inj h
    exact sx_iret dX5_isLetter_17 rfl (by decide) k3.1 k3.2
  · have h := if_n c1 h
    refine sx_iload_n (i := 0) (j := 0) dX5_isLetter_6 rfl rfl ?_
    refine sx_bipush (v := (122 : Int32)) dX5_isLetter_7 (by decide) ?_
    refine sx_icmp_gt (tgt := 16) dX5_isLetter_9 rfl (fun c2 => ?_) (fun c2 => ?_)
    · have h := if_e c2 h
      refine sx_iconst (v := (0 : Int32)) dX5_isLetter_16 (by decide) ?_
      obtain rfl := Option.some.inj h
      exact sx_iret dX5_isLetter_17 rfl (by decide) k3.1 k3.2
    · have h := if_n c2 h
      refine sx_iconst (v := (1 : Int32)) dX5_isLetter_12 (by decide) ?_
      refine sx_goto (tgt := 17) dX5_isLetter_13 rfl ?_
      obtain rfl := Option.some.inj h
      exact sx_iret dX5_isLetter_17 rfl (by decide) k3.1 k3.2
set_option maxRecDepth 100000 in
set_option maxHeartbeats 4000000 in
theorem mX5_isFigure {l : Launch} {E : Ev} {L : HL} {v0 : Int32} {z : Int32} (h : fX5_isFigure v0 = some z) : Mt l E yX5_isFigure cX5_isFigure 1 (some .boolean) (1) [.int v0] L (some (.int z)) L := by
  obtain ⟨r, hr⟩ : ∃ r : Option Value, r = some (.int z) := ⟨_, rfl⟩
  obtain ⟨L', hL'⟩ : ∃ L' : HL, L' = L := ⟨_, rfl⟩
  have k3 : r = some (.int z) ∧ L' = L := ⟨hr, hL'⟩
  refine mt_eq hr hL' ?_
  refine Mt.of (plainFor_of_name (by decide)) (Nat.le_of_ble_eq_true rfl) ?_
  refine sx_sub (lv' := [(0, .int v0)]) [0] rfl ?_
  unfold fX5_isFigure at h
  refine sx_iload_n (i := 0) (j := 0) dX5_isFigure_0 rfl rfl ?_
  refine sx_bipush (v := (48 : Int32)) dX5_isFigure_1 (by decide) ?_
  refine sx_icmp_lt (tgt := 16) dX5_isFigure_3 rfl (fun c1 => ?_) (fun c1 => ?_)
  · have h := if_e c1 h
    refine sx_iconst (v := (0 : Int32)) dX5_isFigure_16 (by decide) ?_
    obtain rfl := Option.some.inj h
    exact sx_iret dX5_isFigure_17 rfl (by decide) k3.1 k3.2
  · have h := if_n c1 h
    refine sx_iload_n (i := 0) (j := 0) dX5_isFigure_6 rfl rfl ?_
    refine sx_bipush (v := (57 : Int32)) dX5_isFigure_7 (by decide) ?_
    refine sx_icmp_gt (tgt := 16) dX5_isFigure_9 rfl (fun c2 => ?_) (fun c2 => ?_)
    · have h := if_e c2 h
      refine sx_iconst (v := (0 : Int32)) dX5_isFigure_16 (by decide) ?_
      obtain rfl := Option.some.inj h
      exact sx_iret dX5_isFigure_17 rfl (by decide) k3.1 k3.2
    · have h := if_n c2 h
      refine sx_iconst (v := (1 : Int32)) dX5_isFigure_12 (by decide) ?_
      refine sx_goto (tgt := 17) dX5_isFigure_13 rfl ?_
      obtain rfl := Option.some.inj h
      exact sx_iret dX5_isFigure_17 rfl (by decide) k3.1 k3.2
set_option maxRecDepth 100000 in
set_option maxHeartbeats 4000000 in
theorem tX5_runEnd_b5 {l : Launch} {E : Ev} {r : Option Value} {L' L : HL} {a0 : Nat} {v1 : Int32} {v2 : Int32} {z : Tn (Int32) (Int32)} (h0 : isX5 E a0) (h : fX5_runEnd_b5 a0 v1 v2 L = some z) (k1 : ∀ s, z = .inl s → Sx l E yX5_runEnd cX5_runEnd 3 (some .int) (2) r L' 5 [(0, .ref a0), (1, .int v1), (2, .int s)] [] L) (k2 : ∀ s, z = .inr (.inl s) → Sx l E yX5_runEnd cX5_runEnd 3 (some .int) (2) r L' 50 [(2, .int s)] [] L) (k3 : ∀ v, z = .inr (.inr v) → r = some (.int v) ∧ L' = L) : Sx l E yX5_runEnd cX5_runEnd 3 (some .int) (2) r L' 5 [(0, .ref a0), (1, .int v1), (2, .int v2)] [] L := by
  unfold fX5_runEnd_b5 at h
  refine sx_iload_n (i := 2) (j := 2) dX5_runEnd_5 rfl rfl ?_
  refine sx_aload_n (i := 0) (j := 0) dX5_runEnd_6 rfl rfl ?_
  refine sx_get (k := 1) (v := .int (L.1 a0 1)) dX5_runEnd_7 (X5_k h0) cf_5 (Or.inl wd_267) (by decide : 1 < 8) rfl ?_
  refine sx_icmp_ge (tgt := 50) dX5_runEnd_10 rfl (fun c2 => ?_) (fun c2 => ?_)
  · have h := if_e c2 h
    obtain rfl := Option.some.inj h
    exact sx_sub [2] rfl (k2 _ rfl)
  · have h := if_n c2 h
    refine sx_iload_n (i := 1) (j := 1) dX5_runEnd_13 rfl rfl ?_
    refine sx_if_eq (tgt := 32) dX5_runEnd_14 rfl (fun c3 => ?_) (fun c3 => ?_)
    · have h := if_e c3 h
      refine sx_aload_n (i := 0) (j := 0) dX5_runEnd_32 rfl rfl ?_
      refine sx_get (k := 0) (v := .ref (a0 + 1)) dX5_runEnd_33 (X5_k h0) cf_5 (Or.inl wd_266) (by decide : 0 < 8) (congrArg Value.ref (X5_r0 h0)) ?_
      refine sx_iload_n (i := 2) (j := 2) dX5_runEnd_36 rfl rfl ?_
      obtain ⟨c4, h⟩ := gd_e h
      refine sx_iald dX5_runEnd_37 (X5_a0 h0) c4 ?_
      obtain ⟨z5, ez5, h⟩ := bd_e h
      refine sx_callS (avs := [.int (L.1 (a0 + 1) v2.toNatClampNeg)]) (rest := []) (st1 := [.int z5]) dX5_runEnd_38 (mX5_isFigure ez5) ctX5_isFigure (Or.inl wd_507) rfl rfl (rm_m rfl) rfl (Nat.le_of_ble_eq_true rfl) rfl ?_
      refine sx_if_eq (tgt := 50) dX5_runEnd_41 rfl (fun c6 => ?_) (fun c6 => ?_)
      · have h := if_e c6 h
        obtain rfl := Option.some.inj h
        exact sx_sub [2] rfl (k2 _ rfl)
      · have h := if_n c6 h
        obtain ⟨w7, ew7⟩ : ∃ w : Int32, w = v2 + (1 : Int32) := ⟨_, rfl⟩
        have h := lt_e ew7 h
        refine sx_iinc (j := 2) (v := w7) (lv' := [(0, .ref a0), (1, .int v1), (2, .int w7)]) dX5_runEnd_44 rfl (ii_1 ew7) (by decide) rfl ?_
        refine sx_goto (tgt := 5) dX5_runEnd_47 rfl ?_
        obtain rfl := Option.some.inj h
        exact sx_sub [0, 1, 2] rfl (k1 _ rfl)
    · have h := if_n c3 h
      refine sx_aload_n (i := 0) (j := 0) dX5_runEnd_17 rfl rfl ?_
      refine sx_get (k := 0) (v := .ref (a0 + 1)) dX5_runEnd_18 (X5_k h0) cf_5 (Or.inl wd_266) (by decide : 0 < 8) (congrArg Value.ref (X5_r0 h0)) ?_
      refine sx_iload_n (i := 2) (j := 2) dX5_runEnd_21 rfl rfl ?_
      obtain ⟨c8, h⟩ := gd_e h
      refine sx_iald dX5_runEnd_22 (X5_a0 h0) c8 ?_
      obtain ⟨z9, ez9, h⟩ := bd_e h
      refine sx_callS (avs := [.int (L.1 (a0 + 1) v2.toNatClampNeg)]) (rest := []) (st1 := [.int z9]) dX5_runEnd_23 (mX5_isLetter ez9) ctX5_isLetter (Or.inl wd_500) rfl rfl (rm_m rfl) rfl (Nat.le_of_ble_eq_true rfl) rfl ?_
      refine sx_if_eq (tgt := 50) dX5_runEnd_26 rfl (fun c10 => ?_) (fun c10 => ?_)
      · have h := if_e c10 h
        obtain rfl := Option.some.inj h
        exact sx_sub [2] rfl (k2 _ rfl)
      · have h := if_n c10 h
        refine sx_goto (tgt := 44) dX5_runEnd_29 rfl ?_
        obtain ⟨w11, ew11⟩ : ∃ w : Int32, w = v2 + (1 : Int32) := ⟨_, rfl⟩
        have h := lt_e ew11 h
        refine sx_iinc (j := 2) (v := w11) (lv' := [(0, .ref a0), (1, .int v1), (2, .int w11)]) dX5_runEnd_44 rfl (ii_1 ew11) (by decide) rfl ?_
        refine sx_goto (tgt := 5) dX5_runEnd_47 rfl ?_
        obtain rfl := Option.some.inj h
        exact sx_sub [0, 1, 2] rfl (k1 _ rfl)
set_option maxRecDepth 100000 in
set_option maxHeartbeats 4000000 in
theorem mX5_runEnd {l : Launch} {E : Ev} {L : HL} {a0 : Nat} {v1 : Int32} {z : Int32} (h0 : isX5 E a0) (h : fX5_runEnd a0 v1 L = some z) : Mt l E yX5_runEnd cX5_runEnd 3 (some .int) (2) [.ref a0, .int v1] L (some (.int z)) L := by
  obtain ⟨r, hr⟩ : ∃ r : Option Value, r = some (.int z) := ⟨_, rfl⟩
  obtain ⟨L', hL'⟩ : ∃ L' : HL, L' = L := ⟨_, rfl⟩
  have k3 : r = some (.int z) ∧ L' = L := ⟨hr, hL'⟩
  refine mt_eq hr hL' ?_
  refine Mt.of (plainFor_of_name (by decide)) (Nat.le_of_ble_eq_true rfl) ?_
  refine sx_sub (lv' := [(0, .ref a0), (1, .int v1)]) [0, 1] rfl ?_
  unfold fX5_runEnd at h
  refine sx_aload_n (i := 0) (j := 0) dX5_runEnd_0 rfl rfl ?_
  refine sx_get (k := 6) (v := .int (L.1 a0 6)) dX5_runEnd_1 (X5_k h0) cf_5 (Or.inl wd_274) (by decide : 6 < 8) rfl ?_
  refine sx_topi (fun w1 ew1 => ?_)
  have h := lt_e ew1 h
  refine sx_istore_n (i := 2) (lv' := [(0, .ref a0), (1, .int v1), (2, .int w1)]) dX5_runEnd_4 rfl (by decide) rfl ?_
  obtain ⟨x13, hx, q1, q2⟩ := lx_e h
  refine sx_sub (lv' := [(0, .ref a0), (1, .int v1), (2, .int w1)]) [0, 1, 2] rfl ?_
  refine lp_go (fun s12 => Sx l E yX5_runEnd cX5_runEnd 3 (some .int) (2) r L' 5 [(0, .ref a0), (1, .int v1), (2, .int s12)] [] L) x13 (fun s12 z2 hz c1 c2 => ?_) FU _ hx
  refine tX5_runEnd_b5 h0 hz (fun s2 e => c1 s2 e) (fun s12 e => ?_) (fun v e => ?_)
  · have h := q1 _ (c2 _ e).symm
    refine sx_iload_n (i := 2) (j := 0) dX5_runEnd_50 rfl rfl ?_
    obtain rfl := Option.some.inj h
    exact sx_iret dX5_runEnd_51 rfl rfl k3.1 k3.2
  · have e2 := Option.some.inj (q2 _ (c2 _ e).symm)
    subst e2
    exact k3
set_option maxRecDepth 100000 in
set_option maxHeartbeats 4000000 in
theorem tX5_nextToken_b5 {l : Launch} {E : Ev} {r : Option Value} {L' L : HL} {a0 : Nat} {v1 : Int32} {z : Tn (Int32) (HL)} (h0 : isX5 E a0) (h : fX5_nextToken_b5 a0 v1 L = some z) (k1 : ∀ s, z = .inl s → Sx l E yX5_nextToken cX5_nextToken 2 (none) (3) r L' 5 [(0, .ref a0), (1, .int s)] [] L) (k2 : ∀ s, z = .inr (.inl s) → Sx l E yX5_nextToken cX5_nextToken 2 (none) (3) r L' 30 [(0, .ref a0), (1, .int s)] [] L) (k3 : ∀ v, z = .inr (.inr v) → r = none ∧ L' = v) : Sx l E yX5_nextToken cX5_nextToken 2 (none) (3) r L' 5 [(0, .ref a0), (1, .int v1)] [] L := by
  unfold fX5_nextToken_b5 at h
  refine sx_iload_n (i := 1) (j := 1) dX5_nextToken_5 rfl rfl ?_
  refine sx_aload_n (i := 0) (j := 0) dX5_nextToken_6 rfl rfl ?_
  refine sx_get (k := 1) (v := .int (L.1 a0 1)) dX5_nextToken_7 (X5_k h0) cf_5 (Or.inl wd_267) (by decide : 1 < 8) rfl ?_
  refine sx_icmp_ge (tgt := 30) dX5_nextToken_10 rfl (fun c2 => ?_) (fun c2 => ?_)
  · have h := if_e c2 h
    obtain rfl := Option.some.inj h
    exact sx_sub [0, 1] rfl (k2 _ rfl)
  · have h := if_n c2 h
    refine sx_aload_n (i := 0) (j := 0) dX5_nextToken_13 rfl rfl ?_
    refine sx_get (k := 0) (v := .ref (a0 + 1)) dX5_nextToken_14 (X5_k h0) cf_5 (Or.inl wd_266) (by decide : 0 < 8) (congrArg Value.ref (X5_r0 h0)) ?_
    refine sx_iload_n (i := 1) (j := 1) dX5_nextToken_17 rfl rfl ?_
    obtain ⟨c3, h⟩ := gd_e h
    refine sx_iald dX5_nextToken_18 (X5_a0 h0) c3 ?_
    refine sx_bipush (v := (32 : Int32)) dX5_nextToken_19 (by decide) ?_
    refine sx_icmp_ne (tgt := 30) dX5_nextToken_21 rfl (fun c4 => ?_) (fun c4 => ?_)
    · have h := if_e c4 h
      obtain ⟨w5, ew5⟩ : ∃ w : Int32, w = v1 + (1 : Int32) := ⟨_, rfl⟩
      have h := lt_e ew5 h
      refine sx_iinc (j := 1) (v := w5) (lv' := [(0, .ref a0), (1, .int w5)]) dX5_nextToken_24 rfl (ii_1 ew5) (by decide) rfl ?_
      refine sx_goto (tgt := 5) dX5_nextToken_27 rfl ?_
      obtain rfl := Option.some.inj h
      exact sx_sub [0, 1] rfl (k1 _ rfl)
    · have h := if_n c4 h
      obtain rfl := Option.some.inj h
      exact sx_sub [0, 1] rfl (k2 _ rfl)
set_option maxRecDepth 100000 in
set_option maxHeartbeats 4000000 in
theorem tX5_nextToken_j148 {l : Launch} {E : Ev} {r : Option Value} {L' L : HL} {a0 : Nat} {v1 : Int32} {s1 : Int32} {z : HL} (h0 : isX5 E a0) (h : fX5_nextToken_j148 a0 v1 s1 L = some z) (k3 : r = none ∧ L' = z) : Sx l E yX5_nextToken cX5_nextToken 2 (none) (3) r L' 148 [(0, .ref a0), (1, .int v1)] [.int s1, .ref a0] L := by
  unfold fX5_nextToken_j148 at h
  refine sx_putI (k := 5) dX5_nextToken_148 (X5_k h0) cf_5 (Or.inl wd_273) (by decide : 5 < 8) rfl rfl rfl rfl (fun L18 eL18 => ?_)
  have h := lt_e eL18 h
  refine sx_aload_n (i := 0) (j := 0) dX5_nextToken_151 rfl rfl ?_
  refine sx_iload_n (i := 1) (j := 1) dX5_nextToken_152 rfl rfl ?_
  refine sx_iconst (v := (1 : Int32)) dX5_nextToken_153 (by decide) ?_
  refine sx_iadd dX5_nextToken_154 ?_
  refine sx_putI (k := 7) dX5_nextToken_155 (X5_k h0) cf_5 (Or.inl wd_275) (by decide : 7 < 8) rfl rfl rfl rfl (fun L19 eL19 => ?_)
  have h := lt_e eL19 h
  obtain rfl := Option.some.inj h
  exact sx_vret dX5_nextToken_158 rfl k3.1 k3.2
set_option maxRecDepth 100000 in
set_option maxHeartbeats 4000000 in
theorem tX5_nextToken_j125 {l : Launch} {E : Ev} {r : Option Value} {L' L : HL} {a0 : Nat} {s1 : Int32} {z : HL} (h0 : isX5 E a0) (h : fX5_nextToken_j125 a0 s1 L = some z) (k3 : r = none ∧ L' = z) : Sx l E yX5_nextToken cX5_nextToken 2 (none) (3) r L' 125 [] [.int s1, .ref a0] L := by
  unfold fX5_nextToken_j125 at h
  refine sx_putI (k := 5) dX5_nextToken_125 (X5_k h0) cf_5 (Or.inl wd_273) (by decide : 5 < 8) rfl rfl rfl rfl (fun L23 eL23 => ?_)
  have h := lt_e eL23 h
  refine sx_goto (tgt := 158) dX5_nextToken_128 rfl ?_
  obtain rfl := Option.some.inj h
  exact sx_vret dX5_nextToken_158 rfl k3.1 k3.2
set_option maxRecDepth 100000 in
set_option maxHeartbeats 4000000 in
theorem mX5_nextToken {l : Launch} {E : Ev} {L : HL} {a0 : Nat} {z : HL} (h0 : isX5 E a0) (h : fX5_nextToken a0 L = some z) : Mt l E yX5_nextToken cX5_nextToken 2 (none) (3) [.ref a0] L (none) z := by
  obtain ⟨r, hr⟩ : ∃ r : Option Value, r = none := ⟨_, rfl⟩
  obtain ⟨L', hL'⟩ : ∃ L' : HL, L' = z := ⟨_, rfl⟩
  have k3 : r = none ∧ L' = z := ⟨hr, hL'⟩
  refine mt_eq hr hL' ?_
  refine Mt.of (plainFor_of_name (by decide)) (Nat.le_of_ble_eq_true rfl) ?_
  refine sx_sub (lv' := [(0, .ref a0)]) [0] rfl ?_
  unfold fX5_nextToken at h
  refine sx_aload_n (i := 0) (j := 0) dX5_nextToken_0 rfl rfl ?_
  refine sx_get (k := 7) (v := .int (L.1 a0 7)) dX5_nextToken_1 (X5_k h0) cf_5 (Or.inl wd_275) (by decide : 7 < 8) rfl ?_
  refine sx_topi (fun w1 ew1 => ?_)
  have h := lt_e ew1 h
  refine sx_istore_n (i := 1) (lv' := [(0, .ref a0), (1, .int w1)]) dX5_nextToken_4 rfl (by decide) rfl ?_
  obtain ⟨x28, hx, q1, q2⟩ := lx_e h
  refine sx_sub (lv' := [(0, .ref a0), (1, .int w1)]) [0, 1] rfl ?_
  refine lp_go (fun s6 => Sx l E yX5_nextToken cX5_nextToken 2 (none) (3) r L' 5 [(0, .ref a0), (1, .int s6)] [] L) x28 (fun s6 z2 hz c1 c2 => ?_) FU _ hx
  refine tX5_nextToken_b5 h0 hz (fun s2 e => c1 s2 e) (fun s6 e => ?_) (fun v e => ?_)
  · have h := q1 _ (c2 _ e).symm
    refine sx_aload_n (i := 0) (j := 0) dX5_nextToken_30 rfl rfl ?_
    refine sx_iload_n (i := 1) (j := 1) dX5_nextToken_31 rfl rfl ?_
    refine sx_putI (k := 6) dX5_nextToken_32 (X5_k h0) cf_5 (Or.inl wd_274) (by decide : 6 < 8) rfl rfl rfl rfl (fun L7 eL7 => ?_)
    have h := lt_e eL7 h
    refine sx_aload_n (i := 0) (j := 0) dX5_nextToken_35 rfl rfl ?_
    refine sx_iload_n (i := 1) (j := 1) dX5_nextToken_36 rfl rfl ?_
    refine sx_putI (k := 7) dX5_nextToken_37 (X5_k h0) cf_5 (Or.inl wd_275) (by decide : 7 < 8) rfl rfl rfl rfl (fun L8 eL8 => ?_)
    have h := lt_e eL8 h
    refine sx_iload_n (i := 1) (j := 1) dX5_nextToken_40 rfl rfl ?_
    refine sx_aload_n (i := 0) (j := 0) dX5_nextToken_41 rfl rfl ?_
    refine sx_get (k := 1) (v := .int (L8.1 a0 1)) dX5_nextToken_42 (X5_k h0) cf_5 (Or.inl wd_267) (by decide : 1 < 8) rfl ?_
    refine sx_icmp_lt (tgt := 56) dX5_nextToken_45 rfl (fun c9 => ?_) (fun c9 => ?_)
    · have h := if_e c9 h
      refine sx_aload_n (i := 0) (j := 0) dX5_nextToken_56 rfl rfl ?_
      refine sx_get (k := 0) (v := .ref (a0 + 1)) dX5_nextToken_57 (X5_k h0) cf_5 (Or.inl wd_266) (by decide : 0 < 8) (congrArg Value.ref (X5_r0 h0)) ?_
      refine sx_iload_n (i := 1) (j := 1) dX5_nextToken_60 rfl rfl ?_
      obtain ⟨c10, h⟩ := gd_e h
      refine sx_iald dX5_nextToken_61 (X5_a0 h0) c10 ?_
      obtain ⟨z11, ez11, h⟩ := bd_e h
      refine sx_callS (avs := [.int (L8.1 (a0 + 1) s6.toNatClampNeg)]) (rest := []) (st1 := [.int z11]) dX5_nextToken_62 (mX5_isLetter ez11) ctX5_isLetter (Or.inl wd_500) rfl rfl (rm_m rfl) rfl (Nat.le_of_ble_eq_true rfl) rfl ?_
      refine sx_if_eq (tgt := 85) dX5_nextToken_65 rfl (fun c12 => ?_) (fun c12 => ?_)
      · have h := if_e c12 h
        refine sx_aload_n (i := 0) (j := 0) dX5_nextToken_85 rfl rfl ?_
        refine sx_get (k := 0) (v := .ref (a0 + 1)) dX5_nextToken_86 (X5_k h0) cf_5 (Or.inl wd_266) (by decide : 0 < 8) (congrArg Value.ref (X5_r0 h0)) ?_
        refine sx_iload_n (i := 1) (j := 1) dX5_nextToken_89 rfl rfl ?_
        obtain ⟨c13, h⟩ := gd_e h
        refine sx_iald dX5_nextToken_90 (X5_a0 h0) c13 ?_
        obtain ⟨z14, ez14, h⟩ := bd_e h
        refine sx_callS (avs := [.int (L8.1 (a0 + 1) s6.toNatClampNeg)]) (rest := []) (st1 := [.int z14]) dX5_nextToken_91 (mX5_isFigure ez14) ctX5_isFigure (Or.inl wd_507) rfl rfl (rm_m rfl) rfl (Nat.le_of_ble_eq_true rfl) rfl ?_
        refine sx_if_eq (tgt := 131) dX5_nextToken_94 rfl (fun c15 => ?_) (fun c15 => ?_)
        · have h := if_e c15 h
          refine sx_aload_n (i := 0) (j := 0) dX5_nextToken_131 rfl rfl ?_
          refine sx_aload_n (i := 0) (j := 0) dX5_nextToken_132 rfl rfl ?_
          refine sx_get (k := 0) (v := .ref (a0 + 1)) dX5_nextToken_133 (X5_k h0) cf_5 (Or.inl wd_266) (by decide : 0 < 8) (congrArg Value.ref (X5_r0 h0)) ?_
          refine sx_iload_n (i := 1) (j := 1) dX5_nextToken_136 rfl rfl ?_
          obtain ⟨c16, h⟩ := gd_e h
          refine sx_iald dX5_nextToken_137 (X5_a0 h0) c16 ?_
          refine sx_bipush (v := (59 : Int32)) dX5_nextToken_138 (by decide) ?_
          refine sx_icmp_ne (tgt := 147) dX5_nextToken_140 rfl (fun c17 => ?_) (fun c17 => ?_)
          · have h := if_e c17 h
            refine sx_iconst (v := (3 : Int32)) dX5_nextToken_143 (by decide) ?_
            refine sx_goto (tgt := 148) dX5_nextToken_144 rfl ?_
            exact sx_sub [0, 1] rfl (tX5_nextToken_j148 h0 h k3)
          · have h := if_n c17 h
            refine sx_iconst (v := (4 : Int32)) dX5_nextToken_147 (by decide) ?_
            exact sx_sub [0, 1] rfl (tX5_nextToken_j148 h0 h k3)
        · have h := if_n c15 h
          refine sx_aload_n (i := 0) (j := 0) dX5_nextToken_97 rfl rfl ?_
          refine sx_aload_n (i := 0) (j := 0) dX5_nextToken_98 rfl rfl ?_
          refine sx_iconst (v := (0 : Int32)) dX5_nextToken_99 (by decide) ?_
          obtain ⟨z20, ez20, h⟩ := bd_e h
          refine sx_callV (avs := [.int (0 : Int32)]) (rest := [.ref a0]) (st1 := [.int z20, .ref a0]) dX5_nextToken_100 (mX5_runEnd h0 ez20) ciX5_runEnd (Or.inl wd_503) (X5_k h0) rfl rfl rfl rfl (rm_m rfl) rfl (Nat.le_of_ble_eq_true rfl) rfl ?_
          refine sx_putI (k := 7) dX5_nextToken_103 (X5_k h0) cf_5 (Or.inl wd_275) (by decide : 7 < 8) rfl rfl rfl rfl (fun L21 eL21 => ?_)
          have h := lt_e eL21 h
          refine sx_aload_n (i := 0) (j := 0) dX5_nextToken_106 rfl rfl ?_
          refine sx_aload_n (i := 0) (j := 0) dX5_nextToken_107 rfl rfl ?_
          refine sx_get (k := 7) (v := .int (L21.1 a0 7)) dX5_nextToken_108 (X5_k h0) cf_5 (Or.inl wd_275) (by decide : 7 < 8) rfl ?_
          refine sx_aload_n (i := 0) (j := 0) dX5_nextToken_111 rfl rfl ?_
          refine sx_get (k := 6) (v := .int (L21.1 a0 6)) dX5_nextToken_112 (X5_k h0) cf_5 (Or.inl wd_274) (by decide : 6 < 8) rfl ?_
          refine sx_isub dX5_nextToken_115 ?_
          refine sx_iconst (v := (2 : Int32)) dX5_nextToken_116 (by decide) ?_
          refine sx_icmp_gt (tgt := 124) dX5_nextToken_117 rfl (fun c22 => ?_) (fun c22 => ?_)
          · have h := if_e c22 h
            refine sx_iconst (v := (4 : Int32)) dX5_nextToken_124 (by decide) ?_
            exact sx_sub [] rfl (tX5_nextToken_j125 h0 h k3)
          · have h := if_n c22 h
            refine sx_iconst (v := (2 : Int32)) dX5_nextToken_120 (by decide) ?_
            refine sx_goto (tgt := 125) dX5_nextToken_121 rfl ?_
            exact sx_sub [] rfl (tX5_nextToken_j125 h0 h k3)
      · have h := if_n c12 h
        refine sx_aload_n (i := 0) (j := 0) dX5_nextToken_68 rfl rfl ?_
        refine sx_iconst (v := (1 : Int32)) dX5_nextToken_69 (by decide) ?_
        refine sx_putI (k := 5) dX5_nextToken_70 (X5_k h0) cf_5 (Or.inl wd_273) (by decide : 5 < 8) rfl rfl rfl rfl (fun L24 eL24 => ?_)
        have h := lt_e eL24 h
        refine sx_aload_n (i := 0) (j := 0) dX5_nextToken_73 rfl rfl ?_
        refine sx_aload_n (i := 0) (j := 0) dX5_nextToken_74 rfl rfl ?_
        refine sx_iconst (v := (1 : Int32)) dX5_nextToken_75 (by decide) ?_
        obtain ⟨z25, ez25, h⟩ := bd_e h
        refine sx_callV (avs := [.int (1 : Int32)]) (rest := [.ref a0]) (st1 := [.int z25, .ref a0]) dX5_nextToken_76 (mX5_runEnd h0 ez25) ciX5_runEnd (Or.inl wd_503) (X5_k h0) rfl rfl rfl rfl (rm_m rfl) rfl (Nat.le_of_ble_eq_true rfl) rfl ?_
        refine sx_putI (k := 7) dX5_nextToken_79 (X5_k h0) cf_5 (Or.inl wd_275) (by decide : 7 < 8) rfl rfl rfl rfl (fun L26 eL26 => ?_)
        have h := lt_e eL26 h
        refine sx_goto (tgt := 158) dX5_nextToken_82 rfl ?_
        obtain rfl := Option.some.inj h
        exact sx_vret dX5_nextToken_158 rfl k3.1 k3.2
    · have h := if_n c9 h
      refine sx_aload_n (i := 0) (j := 0) dX5_nextToken_48 rfl rfl ?_
      refine sx_iconst (v := (0 : Int32)) dX5_nextToken_49 (by decide) ?_
      refine sx_putI (k := 5) dX5_nextToken_50 (X5_k h0) cf_5 (Or.inl wd_273) (by decide : 5 < 8) rfl rfl rfl rfl (fun L27 eL27 => ?_)
      have h := lt_e eL27 h
      refine sx_goto (tgt := 158) dX5_nextToken_53 rfl ?_
      obtain rfl := Option.some.inj h
      exact sx_vret dX5_nextToken_158 rfl k3.1 k3.2
  · have e2 := Option.some.inj (q2 _ (c2 _ e).symm)
    subst e2
    exact k3
set_option maxRecDepth 100000 in
set_option maxHeartbeats 4000000 in
theorem mX5_numbersOf {l : Launch} {E : Ev} {L : HL} {v0 : Int32} {z : Int32} (h : fX5_numbersOf v0 = some z) : Mt l E yX5_numbersOf cX5_numbersOf 1 (some .int) (1) [.int v0] L (some (.int z)) L := by
  obtain ⟨r, hr⟩ : ∃ r : Option Value, r = some (.int z) := ⟨_, rfl⟩
  obtain ⟨L', hL'⟩ : ∃ L' : HL, L' = L := ⟨_, rfl⟩
  have k3 : r = some (.int z) ∧ L' = L := ⟨hr, hL'⟩
  refine mt_eq hr hL' ?_
  refine Mt.of (plainFor_of_name (by decide)) (Nat.le_of_ble_eq_true rfl) ?_
  refine sx_sub (lv' := [(0, .int v0)]) [0] rfl ?_
  unfold fX5_numbersOf at h
  refine sx_iload_n (i := 0) (j := 0) dX5_numbersOf_0 rfl rfl ?_
  refine sx_if_ne (tgt := 8) dX5_numbersOf_1 rfl (fun c1 => ?_) (fun c1 => ?_)
  · have h := if_e c1 h
    refine sx_iconst (v := (0 : Int32)) dX5_numbersOf_4 (by decide) ?_
    refine sx_goto (tgt := 18) dX5_numbersOf_5 rfl ?_
    obtain rfl := Option.some.inj h
    exact sx_iret dX5_numbersOf_18 rfl rfl k3.1 k3.2
  · have h := if_n c1 h
    refine sx_iload_n (i := 0) (j := 0) dX5_numbersOf_8 rfl rfl ?_
    refine sx_iconst (v := (1 : Int32)) dX5_numbersOf_9 (by decide) ?_
    refine sx_icmp_ne (tgt := 17) dX5_numbersOf_10 rfl (fun c2 => ?_) (fun c2 => ?_)
    · have h := if_e c2 h
      refine sx_iconst (v := (3 : Int32)) dX5_numbersOf_13 (by decide) ?_
      refine sx_goto (tgt := 18) dX5_numbersOf_14 rfl ?_
      obtain rfl := Option.some.inj h
      exact sx_iret dX5_numbersOf_18 rfl rfl k3.1 k3.2
    · have h := if_n c2 h
      refine sx_iconst (v := (2 : Int32)) dX5_numbersOf_17 (by decide) ?_
      obtain rfl := Option.some.inj h
      exact sx_iret dX5_numbersOf_18 rfl rfl k3.1 k3.2
set_option maxRecDepth 100000 in
set_option maxHeartbeats 4000000 in
theorem tX5_tokenNumber_b7 {l : Launch} {E : Ev} {r : Option Value} {L' L : HL} {a0 : Nat} {v1 : Int32} {v2 : Int32} {z : Tn (Int32 × Int32) (Int32)} (h0 : isX5 E a0) (h : fX5_tokenNumber_b7 a0 v1 v2 L = some z) (k1 : ∀ s, z = .inl s → Sx l E yX5_tokenNumber cX5_tokenNumber 3 (some .int) (1) r L' 7 [(0, .ref a0), (1, .int s.1), (2, .int s.2)] [] L) (k2 : ∀ s, z = .inr (.inl s) → Sx l E yX5_tokenNumber cX5_tokenNumber 3 (some .int) (1) r L' 43 [(1, .int s.1)] [] L) (k3 : ∀ v, z = .inr (.inr v) → r = some (.int v) ∧ L' = L) : Sx l E yX5_tokenNumber cX5_tokenNumber 3 (some .int) (1) r L' 7 [(0, .ref a0), (1, .int v1), (2, .int v2)] [] L := by
  unfold fX5_tokenNumber_b7 at h
  refine sx_iload_n (i := 2) (j := 2) dX5_tokenNumber_7 rfl rfl ?_
  refine sx_aload_n (i := 0) (j := 0) dX5_tokenNumber_8 rfl rfl ?_
  refine sx_get (k := 7) (v := .int (L.1 a0 7)) dX5_tokenNumber_9 (X5_k h0) cf_5 (Or.inl wd_275) (by decide : 7 < 8) rfl ?_
  refine sx_icmp_ge (tgt := 43) dX5_tokenNumber_12 rfl (fun c2 => ?_) (fun c2 => ?_)
  · have h := if_e c2 h
    obtain rfl := Option.some.inj h
    exact sx_sub [1] rfl (k2 _ rfl)
  · have h := if_n c2 h
    refine sx_iload_n (i := 2) (j := 2) dX5_tokenNumber_15 rfl rfl ?_
    refine sx_sipush (v := (150 : Int32)) dX5_tokenNumber_16 (by decide) ?_
    refine sx_icmp_ge (tgt := 43) dX5_tokenNumber_19 rfl (fun c3 => ?_) (fun c3 => ?_)
    · have h := if_e c3 h
      obtain rfl := Option.some.inj h
      exact sx_sub [1] rfl (k2 _ rfl)
    · have h := if_n c3 h
      refine sx_bipush (v := (10 : Int32)) dX5_tokenNumber_22 (by decide) ?_
      refine sx_iload_n (i := 1) (j := 1) dX5_tokenNumber_24 rfl rfl ?_
      refine sx_imul dX5_tokenNumber_25 ?_
      refine sx_aload_n (i := 0) (j := 0) dX5_tokenNumber_26 rfl rfl ?_
      refine sx_get (k := 0) (v := .ref (a0 + 1)) dX5_tokenNumber_27 (X5_k h0) cf_5 (Or.inl wd_266) (by decide : 0 < 8) (congrArg Value.ref (X5_r0 h0)) ?_
      refine sx_iload_n (i := 2) (j := 2) dX5_tokenNumber_30 rfl rfl ?_
      obtain ⟨c4, h⟩ := gd_e h
      refine sx_iald dX5_tokenNumber_31 (X5_a0 h0) c4 ?_
      refine sx_iadd dX5_tokenNumber_32 ?_
      refine sx_bipush (v := (48 : Int32)) dX5_tokenNumber_33 (by decide) ?_
      refine sx_isub dX5_tokenNumber_35 ?_
      refine sx_topi (fun w5 ew5 => ?_)
      have h := lt_e ew5 h
      refine sx_istore_n (i := 1) (lv' := [(0, .ref a0), (1, .int w5), (2, .int v2)]) dX5_tokenNumber_36 rfl (by decide) rfl ?_
      obtain ⟨w6, ew6⟩ : ∃ w : Int32, w = v2 + (1 : Int32) := ⟨_, rfl⟩
      have h := lt_e ew6 h
      refine sx_iinc (j := 2) (v := w6) (lv' := [(0, .ref a0), (1, .int w5), (2, .int w6)]) dX5_tokenNumber_37 rfl (ii_1 ew6) (by decide) rfl ?_
      refine sx_goto (tgt := 7) dX5_tokenNumber_40 rfl ?_
      obtain rfl := Option.some.inj h
      exact sx_sub [0, 1, 2] rfl (k1 _ rfl)
set_option maxRecDepth 100000 in
set_option maxHeartbeats 4000000 in
theorem mX5_tokenNumber {l : Launch} {E : Ev} {L : HL} {a0 : Nat} {z : Int32} (h0 : isX5 E a0) (h : fX5_tokenNumber a0 L = some z) : Mt l E yX5_tokenNumber cX5_tokenNumber 3 (some .int) (1) [.ref a0] L (some (.int z)) L := by
  obtain ⟨r, hr⟩ : ∃ r : Option Value, r = some (.int z) := ⟨_, rfl⟩
  obtain ⟨L', hL'⟩ : ∃ L' : HL, L' = L := ⟨_, rfl⟩
  have k3 : r = some (.int z) ∧ L' = L := ⟨hr, hL'⟩
  refine mt_eq hr hL' ?_
  refine Mt.of (plainFor_of_name (by decide)) (Nat.le_of_ble_eq_true rfl) ?_
  refine sx_sub (lv' := [(0, .ref a0)]) [0] rfl ?_
  unfold fX5_tokenNumber at h
  refine sx_iconst (v := (0 : Int32)) dX5_tokenNumber_0 (by decide) ?_
  refine sx_istore_n (i := 1) (lv' := [(0, .ref a0), (1, .int (0 : Int32))]) dX5_tokenNumber_1 rfl (by decide) rfl ?_
  refine sx_aload_n (i := 0) (j := 0) dX5_tokenNumber_2 rfl rfl ?_
  refine sx_get (k := 6) (v := .int (L.1 a0 6)) dX5_tokenNumber_3 (X5_k h0) cf_5 (Or.inl wd_274) (by decide : 6 < 8) rfl ?_
  refine sx_topi (fun w1 ew1 => ?_)
  have h := lt_e ew1 h
  refine sx_istore_n (i := 2) (lv' := [(0, .ref a0), (1, .int (0 : Int32)), (2, .int w1)]) dX5_tokenNumber_6 rfl (by decide) rfl ?_
  obtain ⟨x8, hx, q1, q2⟩ := lx_e h
  refine sx_sub (lv' := [(0, .ref a0), (1, .int (0 : Int32)), (2, .int w1)]) [0, 1, 2] rfl ?_
  refine lp_go (fun s7 => Sx l E yX5_tokenNumber cX5_tokenNumber 3 (some .int) (1) r L' 7 [(0, .ref a0), (1, .int s7.1), (2, .int s7.2)] [] L) x8 (fun s7 z2 hz c1 c2 => ?_) FU _ hx
  refine tX5_tokenNumber_b7 h0 hz (fun s2 e => c1 s2 e) (fun s7 e => ?_) (fun v e => ?_)
  · have h := q1 _ (c2 _ e).symm
    refine sx_iload_n (i := 1) (j := 0) dX5_tokenNumber_43 rfl rfl ?_
    obtain rfl := Option.some.inj h
    exact sx_iret dX5_tokenNumber_44 rfl rfl k3.1 k3.2
  · have e2 := Option.some.inj (q2 _ (c2 _ e).symm)
    subst e2
    exact k3
set_option maxRecDepth 100000 in
set_option maxHeartbeats 4000000 in
theorem tX4_empty_b22 {l : Launch} {E : Ev} {r : Option Value} {L' L : HL} {a0 : Nat} {v1 : Int32} {z : Tn (Int32 × HL) (HL)} (h0 : isX4 E a0) (h : fX4_empty_b22 a0 v1 L = some z) (k1 : ∀ s, z = .inl s → Sx l E yX4_empty cX4_empty 2 (none) (1) r L' 22 [(0, .ref a0), (1, .int s.1)] [] s.2) (k2 : ∀ s, z = .inr (.inl s) → Sx l E yX4_empty cX4_empty 2 (none) (1) r L' 40 [(0, .ref a0)] [] s.2) (k3 : ∀ v, z = .inr (.inr v) → r = none ∧ L' = v) : Sx l E yX4_empty cX4_empty 2 (none) (1) r L' 22 [(0, .ref a0), (1, .int v1)] [] L := by
  unfold fX4_empty_b22 at h
  refine sx_iload_n (i := 1) (j := 1) dX4_empty_22 rfl rfl ?_
  refine sx_iconst (v := (5 : Int32)) dX4_empty_23 (by decide) ?_
  refine sx_icmp_ge (tgt := 40) dX4_empty_24 rfl (fun c5 => ?_) (fun c5 => ?_)
  · have h := if_e c5 h
    obtain rfl := Option.some.inj h
    exact sx_sub [0] rfl (k2 _ rfl)
  · have h := if_n c5 h
    refine sx_aload_n (i := 0) (j := 0) dX4_empty_27 rfl rfl ?_
    refine sx_get (k := 10) (v := .ref (a0 + 7)) dX4_empty_28 (X4_k h0) cf_4 (Or.inl wd_161) (by decide : 10 < 17) (congrArg Value.ref (X4_r10 h0)) ?_
    refine sx_iload_n (i := 1) (j := 1) dX4_empty_31 rfl rfl ?_
    refine sx_iconst (v := (0 : Int32)) dX4_empty_32 (by decide) ?_
    obtain ⟨c6, h⟩ := gd_e h
    refine sx_iast dX4_empty_33 (X4_a10 h0) c6 (fun L7 eL7 => ?_)
    have h := lt_e eL7 h
    obtain ⟨w8, ew8⟩ : ∃ w : Int32, w = v1 + (1 : Int32) := ⟨_, rfl⟩
    have h := lt_e ew8 h
    refine sx_iinc (j := 1) (v := w8) (lv' := [(0, .ref a0), (1, .int w8)]) dX4_empty_34 rfl (ii_1 ew8) (by decide) rfl ?_
    refine sx_goto (tgt := 22) dX4_empty_37 rfl ?_
    obtain rfl := Option.some.inj h
    exact sx_sub [0, 1] rfl (k1 _ rfl)
set_option maxRecDepth 100000 in
set_option maxHeartbeats 4000000 in
theorem tX4_empty_b42 {l : Launch} {E : Ev} {r : Option Value} {L' L : HL} {a0 : Nat} {v1 : Int32} {z : Tn (Int32 × HL) (HL)} (h0 : isX4 E a0) (h : fX4_empty_b42 a0 v1 L = some z) (k1 : ∀ s, z = .inl s → Sx l E yX4_empty cX4_empty 2 (none) (1) r L' 42 [(0, .ref a0), (1, .int s.1)] [] s.2) (k2 : ∀ s, z = .inr (.inl s) → Sx l E yX4_empty cX4_empty 2 (none) (1) r L' 60 [] [] s.2) (k3 : ∀ v, z = .inr (.inr v) → r = none ∧ L' = v) : Sx l E yX4_empty cX4_empty 2 (none) (1) r L' 42 [(0, .ref a0), (1, .int v1)] [] L := by
  unfold fX4_empty_b42 at h
  refine sx_iload_n (i := 1) (j := 1) dX4_empty_42 rfl rfl ?_
  refine sx_iconst (v := (4 : Int32)) dX4_empty_43 (by decide) ?_
  refine sx_icmp_ge (tgt := 60) dX4_empty_44 rfl (fun c10 => ?_) (fun c10 => ?_)
  · have h := if_e c10 h
    obtain rfl := Option.some.inj h
    exact sx_sub [] rfl (k2 _ rfl)
  · have h := if_n c10 h
    refine sx_aload_n (i := 0) (j := 0) dX4_empty_47 rfl rfl ?_
    refine sx_get (k := 13) (v := .ref (a0 + 10)) dX4_empty_48 (X4_k h0) cf_4 (Or.inl wd_170) (by decide : 13 < 17) (congrArg Value.ref (X4_r13 h0)) ?_
    refine sx_iload_n (i := 1) (j := 1) dX4_empty_51 rfl rfl ?_
    refine sx_iconst (v := (0 : Int32)) dX4_empty_52 (by decide) ?_
    obtain ⟨c11, h⟩ := gd_e h
    refine sx_iast dX4_empty_53 (X4_a13 h0) c11 (fun L12 eL12 => ?_)
    have h := lt_e eL12 h
    obtain ⟨w13, ew13⟩ : ∃ w : Int32, w = v1 + (1 : Int32) := ⟨_, rfl⟩
    have h := lt_e ew13 h
    refine sx_iinc (j := 1) (v := w13) (lv' := [(0, .ref a0), (1, .int w13)]) dX4_empty_54 rfl (ii_1 ew13) (by decide) rfl ?_
    refine sx_goto (tgt := 42) dX4_empty_57 rfl ?_
    obtain rfl := Option.some.inj h
    exact sx_sub [0, 1] rfl (k1 _ rfl)
set_option maxRecDepth 100000 in
set_option maxHeartbeats 4000000 in
theorem mX4_empty {l : Launch} {E : Ev} {L : HL} {a0 : Nat} {z : HL} (h0 : isX4 E a0) (h : fX4_empty a0 L = some z) : Mt l E yX4_empty cX4_empty 2 (none) (1) [.ref a0] L (none) z := by
  obtain ⟨r, hr⟩ : ∃ r : Option Value, r = none := ⟨_, rfl⟩
  obtain ⟨L', hL'⟩ : ∃ L' : HL, L' = z := ⟨_, rfl⟩
  have k3 : r = none ∧ L' = z := ⟨hr, hL'⟩
  refine mt_eq hr hL' ?_
  refine Mt.of (plainFor_of_name (by decide)) (Nat.le_of_ble_eq_true rfl) ?_
  refine sx_sub (lv' := [(0, .ref a0)]) [0] rfl ?_
  unfold fX4_empty at h
  refine sx_aload_n (i := 0) (j := 0) dX4_empty_0 rfl rfl ?_
  refine sx_iconst (v := (0 : Int32)) dX4_empty_1 (by decide) ?_
  refine sx_putI (k := 0) dX4_empty_2 (X4_k h0) cf_4 (Or.inl wd_133) (by decide : 0 < 17) rfl rfl rfl rfl (fun L1 eL1 => ?_)
  have h := lt_e eL1 h
  refine sx_aload_n (i := 0) (j := 0) dX4_empty_5 rfl rfl ?_
  refine sx_iconst (v := (0 : Int32)) dX4_empty_6 (by decide) ?_
  refine sx_putI (k := 1) dX4_empty_7 (X4_k h0) cf_4 (Or.inl wd_136) (by decide : 1 < 17) rfl rfl rfl rfl (fun L2 eL2 => ?_)
  have h := lt_e eL2 h
  refine sx_aload_n (i := 0) (j := 0) dX4_empty_10 rfl rfl ?_
  refine sx_iconst (v := (0 : Int32)) dX4_empty_11 (by decide) ?_
  refine sx_putI (k := 2) dX4_empty_12 (X4_k h0) cf_4 (Or.inl wd_140) (by decide : 2 < 17) rfl rfl rfl rfl (fun L3 eL3 => ?_)
  have h := lt_e eL3 h
  refine sx_aload_n (i := 0) (j := 0) dX4_empty_15 rfl rfl ?_
  refine sx_iconst (v := (0 : Int32)) dX4_empty_16 (by decide) ?_
  refine sx_putI (k := 3) dX4_empty_17 (X4_k h0) cf_4 (Or.inl wd_143) (by decide : 3 < 17) rfl rfl rfl rfl (fun L4 eL4 => ?_)
  have h := lt_e eL4 h
  refine sx_iconst (v := (0 : Int32)) dX4_empty_20 (by decide) ?_
  refine sx_istore_n (i := 1) (lv' := [(0, .ref a0), (1, .int (0 : Int32))]) dX4_empty_21 rfl (by decide) rfl ?_
  obtain ⟨x16, hx, q1, q2⟩ := lx_e h
  refine sx_sub (lv' := [(0, .ref a0), (1, .int (0 : Int32))]) [0, 1] rfl ?_
  refine lp_go (fun s9 => Sx l E yX4_empty cX4_empty 2 (none) (1) r L' 22 [(0, .ref a0), (1, .int s9.1)] [] s9.2) x16 (fun s9 z2 hz c1 c2 => ?_) FU _ hx
  refine tX4_empty_b22 h0 hz (fun s2 e => c1 s2 e) (fun s9 e => ?_) (fun v e => ?_)
  · have h := q1 _ (c2 _ e).symm
    refine sx_iconst (v := (0 : Int32)) dX4_empty_40 (by decide) ?_
    refine sx_istore_n (i := 1) (lv' := [(0, .ref a0), (1, .int (0 : Int32))]) dX4_empty_41 rfl (by decide) rfl ?_
    obtain ⟨x15, hx, q1, q2⟩ := lx_e h
    refine sx_sub (lv' := [(0, .ref a0), (1, .int (0 : Int32))]) [0, 1] rfl ?_
    refine lp_go (fun s14 => Sx l E yX4_empty cX4_empty 2 (none) (1) r L' 42 [(0, .ref a0), (1, .int s14.1)] [] s14.2) x15 (fun s14 z2 hz c1 c2 => ?_) FU _ hx
    refine tX4_empty_b42 h0 hz (fun s2 e => c1 s2 e) (fun s14 e => ?_) (fun v e => ?_)
    · have h := q1 _ (c2 _ e).symm
      obtain rfl := Option.some.inj h
      exact sx_vret dX4_empty_60 rfl k3.1 k3.2
    · have e2 := Option.some.inj (q2 _ (c2 _ e).symm)
      subst e2
      exact k3
  · have e2 := Option.some.inj (q2 _ (c2 _ e).symm)
    subst e2
    exact k3
set_option maxRecDepth 100000 in
set_option maxHeartbeats 4000000 in
theorem mX4_addHouse {l : Launch} {E : Ev} {L : HL} {a0 : Nat} {v1 : Int32} {v2 : Int32} {v3 : Int32} {z : Int32 × HL} (h0 : isX4 E a0) (h : fX4_addHouse a0 v1 v2 v3 L = some z) : Mt l E yX4_addHouse cX4_addHouse 5 (some .int) (1) [.ref a0, .int v1, .int v2, .int v3] L (some (.int z.1)) (z.2) := by
  obtain ⟨r, hr⟩ : ∃ r : Option Value, r = some (.int z.1) := ⟨_, rfl⟩
  obtain ⟨L', hL'⟩ : ∃ L' : HL, L' = z.2 := ⟨_, rfl⟩
  have k3 : r = some (.int z.1) ∧ L' = z.2 := ⟨hr, hL'⟩
  refine mt_eq hr hL' ?_
  refine Mt.of (plainFor_of_name (by decide)) (Nat.le_of_ble_eq_true rfl) ?_
  refine sx_sub (lv' := [(0, .ref a0), (1, .int v1), (2, .int v2), (3, .int v3)]) [0, 1, 2, 3] rfl ?_
  unfold fX4_addHouse at h
  refine sx_iload_n (i := 1) (j := 1) dX4_addHouse_0 rfl rfl ?_
  refine sx_iconst (v := (1 : Int32)) dX4_addHouse_1 (by decide) ?_
  refine sx_icmp_lt (tgt := 31) dX4_addHouse_2 rfl (fun c1 => ?_) (fun c1 => ?_)
  · have h := if_e c1 h
    refine sx_bipush (v := (-2 : Int32)) dX4_addHouse_31 (by decide) ?_
    obtain rfl := Option.some.inj h
    exact sx_iret dX4_addHouse_33 rfl rfl k3.1 k3.2
  · have h := if_n c1 h
    refine sx_iload_n (i := 1) (j := 1) dX4_addHouse_5 rfl rfl ?_
    refine sx_bipush (v := (9 : Int32)) dX4_addHouse_6 (by decide) ?_
    refine sx_icmp_gt (tgt := 31) dX4_addHouse_8 rfl (fun c2 => ?_) (fun c2 => ?_)
    · have h := if_e c2 h
      refine sx_bipush (v := (-2 : Int32)) dX4_addHouse_31 (by decide) ?_
      obtain rfl := Option.some.inj h
      exact sx_iret dX4_addHouse_33 rfl rfl k3.1 k3.2
    · have h := if_n c2 h
      refine sx_iload_n (i := 2) (j := 2) dX4_addHouse_11 rfl rfl ?_
      refine sx_if_lt (tgt := 31) dX4_addHouse_12 rfl (fun c3 => ?_) (fun c3 => ?_)
      · have h := if_e c3 h
        refine sx_bipush (v := (-2 : Int32)) dX4_addHouse_31 (by decide) ?_
        obtain rfl := Option.some.inj h
        exact sx_iret dX4_addHouse_33 rfl rfl k3.1 k3.2
      · have h := if_n c3 h
        refine sx_iload_n (i := 2) (j := 2) dX4_addHouse_15 rfl rfl ?_
        refine sx_bipush (v := (99 : Int32)) dX4_addHouse_16 (by decide) ?_
        refine sx_icmp_gt (tgt := 31) dX4_addHouse_18 rfl (fun c4 => ?_) (fun c4 => ?_)
        · have h := if_e c4 h
          refine sx_bipush (v := (-2 : Int32)) dX4_addHouse_31 (by decide) ?_
          obtain rfl := Option.some.inj h
          exact sx_iret dX4_addHouse_33 rfl rfl k3.1 k3.2
        · have h := if_n c4 h
          refine sx_iload_n (i := 3) (j := 3) dX4_addHouse_21 rfl rfl ?_
          refine sx_if_lt (tgt := 31) dX4_addHouse_22 rfl (fun c5 => ?_) (fun c5 => ?_)
          · have h := if_e c5 h
            refine sx_bipush (v := (-2 : Int32)) dX4_addHouse_31 (by decide) ?_
            obtain rfl := Option.some.inj h
            exact sx_iret dX4_addHouse_33 rfl rfl k3.1 k3.2
          · have h := if_n c5 h
            refine sx_iload_n (i := 3) (j := 3) dX4_addHouse_25 rfl rfl ?_
            refine sx_bipush (v := (99 : Int32)) dX4_addHouse_26 (by decide) ?_
            refine sx_icmp_le (tgt := 34) dX4_addHouse_28 rfl (fun c6 => ?_) (fun c6 => ?_)
            · have h := if_e c6 h
              refine sx_aload_n (i := 0) (j := 0) dX4_addHouse_34 rfl rfl ?_
              refine sx_get (k := 0) (v := .int (L.1 a0 0)) dX4_addHouse_35 (X4_k h0) cf_4 (Or.inl wd_133) (by decide : 0 < 17) rfl ?_
              refine sx_iconst (v := (5 : Int32)) dX4_addHouse_38 (by decide) ?_
              refine sx_icmp_lt (tgt := 45) dX4_addHouse_39 rfl (fun c7 => ?_) (fun c7 => ?_)
              · have h := if_e c7 h
                refine sx_aload_n (i := 0) (j := 0) dX4_addHouse_45 rfl rfl ?_
                refine sx_get (k := 0) (v := .int (L.1 a0 0)) dX4_addHouse_46 (X4_k h0) cf_4 (Or.inl wd_133) (by decide : 0 < 17) rfl ?_
                refine sx_topi (fun w8 ew8 => ?_)
                have h := lt_e ew8 h
                refine sx_istore (lv' := [(0, .ref a0), (1, .int v1), (2, .int v2), (3, .int v3), (4, .int w8)]) dX4_addHouse_49 (by decide) rfl ?_
                refine sx_aload_n (i := 0) (j := 0) dX4_addHouse_51 rfl rfl ?_
                refine sx_get (k := 4) (v := .ref (a0 + 1)) dX4_addHouse_52 (X4_k h0) cf_4 (Or.inl wd_146) (by decide : 4 < 17) (congrArg Value.ref (X4_r4 h0)) ?_
                refine sx_iload (j := 4) dX4_addHouse_55 rfl ?_
                refine sx_iload_n (i := 1) (j := 1) dX4_addHouse_57 rfl rfl ?_
                obtain ⟨c9, h⟩ := gd_e h
                refine sx_iast dX4_addHouse_58 (X4_a4 h0) c9 (fun L10 eL10 => ?_)
                have h := lt_e eL10 h
                refine sx_aload_n (i := 0) (j := 0) dX4_addHouse_59 rfl rfl ?_
                refine sx_get (k := 5) (v := .ref (a0 + 2)) dX4_addHouse_60 (X4_k h0) cf_4 (Or.inl wd_149) (by decide : 5 < 17) (congrArg Value.ref (X4_r5 h0)) ?_
                refine sx_iload (j := 4) dX4_addHouse_63 rfl ?_
                refine sx_iload_n (i := 2) (j := 2) dX4_addHouse_65 rfl rfl ?_
                obtain ⟨c11, h⟩ := gd_e h
                refine sx_iast dX4_addHouse_66 (X4_a5 h0) c11 (fun L12 eL12 => ?_)
                have h := lt_e eL12 h
                refine sx_aload_n (i := 0) (j := 0) dX4_addHouse_67 rfl rfl ?_
                refine sx_get (k := 6) (v := .ref (a0 + 3)) dX4_addHouse_68 (X4_k h0) cf_4 (Or.inl wd_151) (by decide : 6 < 17) (congrArg Value.ref (X4_r6 h0)) ?_
                refine sx_iload (j := 4) dX4_addHouse_71 rfl ?_
                refine sx_iload_n (i := 3) (j := 3) dX4_addHouse_73 rfl rfl ?_
                obtain ⟨c13, h⟩ := gd_e h
                refine sx_iast dX4_addHouse_74 (X4_a6 h0) c13 (fun L14 eL14 => ?_)
                have h := lt_e eL14 h
                refine sx_aload_n (i := 0) (j := 0) dX4_addHouse_75 rfl rfl ?_
                refine sx_get (k := 7) (v := .ref (a0 + 4)) dX4_addHouse_76 (X4_k h0) cf_4 (Or.inl wd_154) (by decide : 7 < 17) (congrArg Value.ref (X4_r7 h0)) ?_
                refine sx_iload (j := 4) dX4_addHouse_79 rfl ?_
                refine sx_iconst (v := (-1 : Int32)) dX4_addHouse_81 (by decide) ?_
                obtain ⟨c15, h⟩ := gd_e h
                refine sx_iast dX4_addHouse_82 (X4_a7 h0) c15 (fun L16 eL16 => ?_)
                have h := lt_e eL16 h
                refine sx_aload_n (i := 0) (j := 0) dX4_addHouse_83 rfl rfl ?_
                refine sx_get (k := 8) (v := .ref (a0 + 5)) dX4_addHouse_84 (X4_k h0) cf_4 (Or.inl wd_156) (by decide : 8 < 17) (congrArg Value.ref (X4_r8 h0)) ?_
                refine sx_iload (j := 4) dX4_addHouse_87 rfl ?_
                refine sx_iconst (v := (0 : Int32)) dX4_addHouse_89 (by decide) ?_
                obtain ⟨c17, h⟩ := gd_e h
                refine sx_iast dX4_addHouse_90 (X4_a8 h0) c17 (fun L18 eL18 => ?_)
                have h := lt_e eL18 h
                refine sx_aload_n (i := 0) (j := 0) dX4_addHouse_91 rfl rfl ?_
                refine sx_get (k := 9) (v := .ref (a0 + 6)) dX4_addHouse_92 (X4_k h0) cf_4 (Or.inl wd_159) (by decide : 9 < 17) (congrArg Value.ref (X4_r9 h0)) ?_
                refine sx_iload (j := 4) dX4_addHouse_95 rfl ?_
                refine sx_iconst (v := (0 : Int32)) dX4_addHouse_97 (by decide) ?_
                obtain ⟨c19, h⟩ := gd_e h
                refine sx_iast dX4_addHouse_98 (X4_a9 h0) c19 (fun L20 eL20 => ?_)
                have h := lt_e eL20 h
                refine sx_aload_n (i := 0) (j := 0) dX4_addHouse_99 rfl rfl ?_
                refine sx_dup dX4_addHouse_100 rfl ?_
                refine sx_get (k := 1) (v := .int (L20.1 a0 1)) dX4_addHouse_101 (X4_k h0) cf_4 (Or.inl wd_136) (by decide : 1 < 17) rfl ?_
                refine sx_iconst (v := (1 : Int32)) dX4_addHouse_104 (by decide) ?_
                refine sx_iload (j := 4) dX4_addHouse_105 rfl ?_
                refine sx_ishl dX4_addHouse_107 ?_
                refine sx_ior dX4_addHouse_108 ?_
                refine sx_putI (k := 1) dX4_addHouse_109 (X4_k h0) cf_4 (Or.inl wd_136) (by decide : 1 < 17) rfl rfl rfl rfl (fun L21 eL21 => ?_)
                have h := lt_e eL21 h
                refine sx_aload_n (i := 0) (j := 0) dX4_addHouse_112 rfl rfl ?_
                refine sx_dup dX4_addHouse_113 rfl ?_
                refine sx_get (k := 0) (v := .int (L21.1 a0 0)) dX4_addHouse_114 (X4_k h0) cf_4 (Or.inl wd_133) (by decide : 0 < 17) rfl ?_
                refine sx_iconst (v := (1 : Int32)) dX4_addHouse_117 (by decide) ?_
                refine sx_iadd dX4_addHouse_118 ?_
                refine sx_putI (k := 0) dX4_addHouse_119 (X4_k h0) cf_4 (Or.inl wd_133) (by decide : 0 < 17) rfl rfl rfl rfl (fun L22 eL22 => ?_)
                have h := lt_e eL22 h
                refine sx_iload (j := 4) dX4_addHouse_122 rfl ?_
                obtain rfl := Option.some.inj h
                exact sx_iret dX4_addHouse_124 rfl rfl k3.1 k3.2
              · have h := if_n c7 h
                refine sx_bipush (v := (-4 : Int32)) dX4_addHouse_42 (by decide) ?_
                obtain rfl := Option.some.inj h
                exact sx_iret dX4_addHouse_44 rfl rfl k3.1 k3.2
            · have h := if_n c6 h
              refine sx_bipush (v := (-2 : Int32)) dX4_addHouse_31 (by decide) ?_
              obtain rfl := Option.some.inj h
              exact sx_iret dX4_addHouse_33 rfl rfl k3.1 k3.2
set_option maxRecDepth 100000 in
set_option maxHeartbeats 4000000 in
theorem mX4_setFrom {l : Launch} {E : Ev} {L : HL} {a0 : Nat} {v1 : Int32} {v2 : Int32} {z : Int32 × HL} (h0 : isX4 E a0) (h : fX4_setFrom a0 v1 v2 L = some z) : Mt l E yX4_setFrom cX4_setFrom 4 (some .int) (2) [.ref a0, .int v1, .int v2] L (some (.int z.1)) (z.2) := by
  obtain ⟨r, hr⟩ : ∃ r : Option Value, r = some (.int z.1) := ⟨_, rfl⟩
  obtain ⟨L', hL'⟩ : ∃ L' : HL, L' = z.2 := ⟨_, rfl⟩
  have k3 : r = some (.int z.1) ∧ L' = z.2 := ⟨hr, hL'⟩
  refine mt_eq hr hL' ?_
  refine Mt.of (plainFor_of_name (by decide)) (Nat.le_of_ble_eq_true rfl) ?_
  refine sx_sub (lv' := [(0, .ref a0), (1, .int v1), (2, .int v2)]) [0, 1, 2] rfl ?_
  unfold fX4_setFrom at h
  refine sx_aload_n (i := 0) (j := 0) dX4_setFrom_0 rfl rfl ?_
  refine sx_iload_n (i := 1) (j := 1) dX4_setFrom_1 rfl rfl ?_
  obtain ⟨z1, ez1, h⟩ := bd_e h
  refine sx_callV (avs := [.int v1]) (rest := []) (st1 := [.int z1]) dX4_setFrom_2 (mX4_has h0 ez1) ciX4_has (Or.inl wd_416) (X4_k h0) rfl rfl rfl rfl (rm_m rfl) rfl (Nat.le_of_ble_eq_true rfl) rfl ?_
  refine sx_if_eq (tgt := 18) dX4_setFrom_5 rfl (fun c2 => ?_) (fun c2 => ?_)
  · have h := if_e c2 h
    refine sx_bipush (v := (-2 : Int32)) dX4_setFrom_18 (by decide) ?_
    obtain rfl := Option.some.inj h
    exact sx_iret dX4_setFrom_20 rfl rfl k3.1 k3.2
  · have h := if_n c2 h
    refine sx_iload_n (i := 2) (j := 2) dX4_setFrom_8 rfl rfl ?_
    refine sx_iconst (v := (-1 : Int32)) dX4_setFrom_9 (by decide) ?_
    refine sx_icmp_lt (tgt := 18) dX4_setFrom_10 rfl (fun c3 => ?_) (fun c3 => ?_)
    · have h := if_e c3 h
      refine sx_bipush (v := (-2 : Int32)) dX4_setFrom_18 (by decide) ?_
      obtain rfl := Option.some.inj h
      exact sx_iret dX4_setFrom_20 rfl rfl k3.1 k3.2
    · have h := if_n c3 h
      refine sx_iload_n (i := 2) (j := 2) dX4_setFrom_13 rfl rfl ?_
      refine sx_iload_n (i := 1) (j := 1) dX4_setFrom_14 rfl rfl ?_
      refine sx_icmp_lt (tgt := 21) dX4_setFrom_15 rfl (fun c4 => ?_) (fun c4 => ?_)
      · have h := if_e c4 h
        refine sx_aload_n (i := 0) (j := 0) dX4_setFrom_21 rfl rfl ?_
        refine sx_get (k := 7) (v := .ref (a0 + 4)) dX4_setFrom_22 (X4_k h0) cf_4 (Or.inl wd_154) (by decide : 7 < 17) (congrArg Value.ref (X4_r7 h0)) ?_
        refine sx_iload_n (i := 1) (j := 1) dX4_setFrom_25 rfl rfl ?_
        obtain ⟨c5, h⟩ := gd_e h
        refine sx_iald dX4_setFrom_26 (X4_a7 h0) c5 ?_
        refine sx_topi (fun w6 ew6 => ?_)
        have h := lt_e ew6 h
        refine sx_istore_n (i := 3) (lv' := [(0, .ref a0), (1, .int v1), (2, .int v2), (3, .int w6)]) dX4_setFrom_27 rfl (by decide) rfl ?_
        refine sx_aload_n (i := 0) (j := 0) dX4_setFrom_28 rfl rfl ?_
        refine sx_get (k := 7) (v := .ref (a0 + 4)) dX4_setFrom_29 (X4_k h0) cf_4 (Or.inl wd_154) (by decide : 7 < 17) (congrArg Value.ref (X4_r7 h0)) ?_
        refine sx_iload_n (i := 1) (j := 1) dX4_setFrom_32 rfl rfl ?_
        refine sx_iload_n (i := 2) (j := 2) dX4_setFrom_33 rfl rfl ?_
        obtain ⟨c7, h⟩ := gd_e h
        refine sx_iast dX4_setFrom_34 (X4_a7 h0) c7 (fun L8 eL8 => ?_)
        have h := lt_e eL8 h
        refine sx_iload_n (i := 3) (j := 3) dX4_setFrom_35 rfl rfl ?_
        obtain rfl := Option.some.inj h
        exact sx_iret dX4_setFrom_36 rfl rfl k3.1 k3.2
      · have h := if_n c4 h
        refine sx_bipush (v := (-2 : Int32)) dX4_setFrom_18 (by decide) ?_
        obtain rfl := Option.some.inj h
        exact sx_iret dX4_setFrom_20 rfl rfl k3.1 k3.2
set_option maxRecDepth 100000 in
set_option maxHeartbeats 4000000 in
theorem mX4_setWill {l : Launch} {E : Ev} {L : HL} {a0 : Nat} {v1 : Int32} {v2 : Int32} {z : Int32 × HL} (h0 : isX4 E a0) (h : fX4_setWill a0 v1 v2 L = some z) : Mt l E yX4_setWill cX4_setWill 4 (some .int) (2) [.ref a0, .int v1, .int v2] L (some (.int z.1)) (z.2) := by
  obtain ⟨r, hr⟩ : ∃ r : Option Value, r = some (.int z.1) := ⟨_, rfl⟩
  obtain ⟨L', hL'⟩ : ∃ L' : HL, L' = z.2 := ⟨_, rfl⟩
  have k3 : r = some (.int z.1) ∧ L' = z.2 := ⟨hr, hL'⟩
  refine mt_eq hr hL' ?_
  refine Mt.of (plainFor_of_name (by decide)) (Nat.le_of_ble_eq_true rfl) ?_
  refine sx_sub (lv' := [(0, .ref a0), (1, .int v1), (2, .int v2)]) [0, 1, 2] rfl ?_
  unfold fX4_setWill at h
  refine sx_aload_n (i := 0) (j := 0) dX4_setWill_0 rfl rfl ?_
  refine sx_iload_n (i := 1) (j := 1) dX4_setWill_1 rfl rfl ?_
  obtain ⟨z1, ez1, h⟩ := bd_e h
  refine sx_callV (avs := [.int v1]) (rest := []) (st1 := [.int z1]) dX4_setWill_2 (mX4_has h0 ez1) ciX4_has (Or.inl wd_416) (X4_k h0) rfl rfl rfl rfl (rm_m rfl) rfl (Nat.le_of_ble_eq_true rfl) rfl ?_
  refine sx_if_eq (tgt := 18) dX4_setWill_5 rfl (fun c2 => ?_) (fun c2 => ?_)
  · have h := if_e c2 h
    refine sx_bipush (v := (-2 : Int32)) dX4_setWill_18 (by decide) ?_
    obtain rfl := Option.some.inj h
    exact sx_iret dX4_setWill_20 rfl rfl k3.1 k3.2
  · have h := if_n c2 h
    refine sx_iload_n (i := 2) (j := 2) dX4_setWill_8 rfl rfl ?_
    refine sx_if_lt (tgt := 18) dX4_setWill_9 rfl (fun c3 => ?_) (fun c3 => ?_)
    · have h := if_e c3 h
      refine sx_bipush (v := (-2 : Int32)) dX4_setWill_18 (by decide) ?_
      obtain rfl := Option.some.inj h
      exact sx_iret dX4_setWill_20 rfl rfl k3.1 k3.2
    · have h := if_n c3 h
      refine sx_iload_n (i := 2) (j := 2) dX4_setWill_12 rfl rfl ?_
      refine sx_bipush (v := (6 : Int32)) dX4_setWill_13 (by decide) ?_
      refine sx_icmp_lt (tgt := 21) dX4_setWill_15 rfl (fun c4 => ?_) (fun c4 => ?_)
      · have h := if_e c4 h
        refine sx_aload_n (i := 0) (j := 0) dX4_setWill_21 rfl rfl ?_
        refine sx_get (k := 8) (v := .ref (a0 + 5)) dX4_setWill_22 (X4_k h0) cf_4 (Or.inl wd_156) (by decide : 8 < 17) (congrArg Value.ref (X4_r8 h0)) ?_
        refine sx_iload_n (i := 1) (j := 1) dX4_setWill_25 rfl rfl ?_
        obtain ⟨c5, h⟩ := gd_e h
        refine sx_iald dX4_setWill_26 (X4_a8 h0) c5 ?_
        refine sx_topi (fun w6 ew6 => ?_)
        have h := lt_e ew6 h
        refine sx_istore_n (i := 3) (lv' := [(0, .ref a0), (1, .int v1), (2, .int v2), (3, .int w6)]) dX4_setWill_27 rfl (by decide) rfl ?_
        refine sx_aload_n (i := 0) (j := 0) dX4_setWill_28 rfl rfl ?_
        refine sx_get (k := 8) (v := .ref (a0 + 5)) dX4_setWill_29 (X4_k h0) cf_4 (Or.inl wd_156) (by decide : 8 < 17) (congrArg Value.ref (X4_r8 h0)) ?_
        refine sx_iload_n (i := 1) (j := 1) dX4_setWill_32 rfl rfl ?_
        refine sx_iload_n (i := 2) (j := 2) dX4_setWill_33 rfl rfl ?_
        obtain ⟨c7, h⟩ := gd_e h
        refine sx_iast dX4_setWill_34 (X4_a8 h0) c7 (fun L8 eL8 => ?_)
        have h := lt_e eL8 h
        refine sx_iload_n (i := 3) (j := 3) dX4_setWill_35 rfl rfl ?_
        obtain rfl := Option.some.inj h
        exact sx_iret dX4_setWill_36 rfl rfl k3.1 k3.2
      · have h := if_n c4 h
        refine sx_bipush (v := (-2 : Int32)) dX4_setWill_18 (by decide) ?_
        obtain rfl := Option.some.inj h
        exact sx_iret dX4_setWill_20 rfl rfl k3.1 k3.2
set_option maxRecDepth 100000 in
set_option maxHeartbeats 4000000 in
theorem mX4_hasTwo {l : Launch} {E : Ev} {L : HL} {a0 : Nat} {v1 : Int32} {v2 : Int32} {z : Int32} (h0 : isX4 E a0) (h : fX4_hasTwo a0 v1 v2 L = some z) : Mt l E yX4_hasTwo cX4_hasTwo 3 (some .boolean) (2) [.ref a0, .int v1, .int v2] L (some (.int z)) L := by
  obtain ⟨r, hr⟩ : ∃ r : Option Value, r = some (.int z) := ⟨_, rfl⟩
  obtain ⟨L', hL'⟩ : ∃ L' : HL, L' = L := ⟨_, rfl⟩
  have k3 : r = some (.int z) ∧ L' = L := ⟨hr, hL'⟩
  refine mt_eq hr hL' ?_
  refine Mt.of (plainFor_of_name (by decide)) (Nat.le_of_ble_eq_true rfl) ?_
  refine sx_sub (lv' := [(0, .ref a0), (1, .int v1), (2, .int v2)]) [0, 1, 2] rfl ?_
  unfold fX4_hasTwo at h
  refine sx_aload_n (i := 0) (j := 0) dX4_hasTwo_0 rfl rfl ?_
  refine sx_iload_n (i := 1) (j := 1) dX4_hasTwo_1 rfl rfl ?_
  obtain ⟨z1, ez1, h⟩ := bd_e h
  refine sx_callV (avs := [.int v1]) (rest := []) (st1 := [.int z1]) dX4_hasTwo_2 (mX4_has h0 ez1) ciX4_has (Or.inl wd_416) (X4_k h0) rfl rfl rfl rfl (rm_m rfl) rfl (Nat.le_of_ble_eq_true rfl) rfl ?_
  refine sx_if_eq (tgt := 25) dX4_hasTwo_5 rfl (fun c2 => ?_) (fun c2 => ?_)
  · have h := if_e c2 h
    refine sx_iconst (v := (0 : Int32)) dX4_hasTwo_25 (by decide) ?_
    obtain rfl := Option.some.inj h
    exact sx_iret dX4_hasTwo_26 rfl (by decide) k3.1 k3.2
  · have h := if_n c2 h
    refine sx_aload_n (i := 0) (j := 0) dX4_hasTwo_8 rfl rfl ?_
    refine sx_iload_n (i := 2) (j := 2) dX4_hasTwo_9 rfl rfl ?_
    obtain ⟨z3, ez3, h⟩ := bd_e h
    refine sx_callV (avs := [.int v2]) (rest := []) (st1 := [.int z3]) dX4_hasTwo_10 (mX4_has h0 ez3) ciX4_has (Or.inl wd_416) (X4_k h0) rfl rfl rfl rfl (rm_m rfl) rfl (Nat.le_of_ble_eq_true rfl) rfl ?_
    refine sx_if_eq (tgt := 25) dX4_hasTwo_13 rfl (fun c4 => ?_) (fun c4 => ?_)
    · have h := if_e c4 h
      refine sx_iconst (v := (0 : Int32)) dX4_hasTwo_25 (by decide) ?_
      obtain rfl := Option.some.inj h
      exact sx_iret dX4_hasTwo_26 rfl (by decide) k3.1 k3.2
    · have h := if_n c4 h
      refine sx_iload_n (i := 1) (j := 1) dX4_hasTwo_16 rfl rfl ?_
      refine sx_iload_n (i := 2) (j := 2) dX4_hasTwo_17 rfl rfl ?_
      refine sx_icmp_eq (tgt := 25) dX4_hasTwo_18 rfl (fun c5 => ?_) (fun c5 => ?_)
      · have h := if_e c5 h
        refine sx_iconst (v := (0 : Int32)) dX4_hasTwo_25 (by decide) ?_
        obtain rfl := Option.some.inj h
        exact sx_iret dX4_hasTwo_26 rfl (by decide) k3.1 k3.2
      · have h := if_n c5 h
        refine sx_iconst (v := (1 : Int32)) dX4_hasTwo_21 (by decide) ?_
        refine sx_goto (tgt := 26) dX4_hasTwo_22 rfl ?_
        obtain rfl := Option.some.inj h
        exact sx_iret dX4_hasTwo_26 rfl (by decide) k3.1 k3.2
set_option maxRecDepth 100000 in
set_option maxHeartbeats 4000000 in
theorem mX4_hasWall {l : Launch} {E : Ev} {L : HL} {a0 : Nat} {v1 : Int32} {v2 : Int32} {z : Int32} (h0 : isX4 E a0) (h : fX4_hasWall a0 v1 v2 L = some z) : Mt l E yX4_hasWall cX4_hasWall 3 (some .boolean) (2) [.ref a0, .int v1, .int v2] L (some (.int z)) L := by
  obtain ⟨r, hr⟩ : ∃ r : Option Value, r = some (.int z) := ⟨_, rfl⟩
  obtain ⟨L', hL'⟩ : ∃ L' : HL, L' = L := ⟨_, rfl⟩
  have k3 : r = some (.int z) ∧ L' = L := ⟨hr, hL'⟩
  refine mt_eq hr hL' ?_
  refine Mt.of (plainFor_of_name (by decide)) (Nat.le_of_ble_eq_true rfl) ?_
  refine sx_sub (lv' := [(0, .ref a0), (1, .int v1), (2, .int v2)]) [0, 1, 2] rfl ?_
  unfold fX4_hasWall at h
  refine sx_aload_n (i := 0) (j := 0) dX4_hasWall_0 rfl rfl ?_
  refine sx_iload_n (i := 1) (j := 1) dX4_hasWall_1 rfl rfl ?_
  obtain ⟨z1, ez1, h⟩ := bd_e h
  refine sx_callV (avs := [.int v1]) (rest := []) (st1 := [.int z1]) dX4_hasWall_2 (mX4_has h0 ez1) ciX4_has (Or.inl wd_416) (X4_k h0) rfl rfl rfl rfl (rm_m rfl) rfl (Nat.le_of_ble_eq_true rfl) rfl ?_
  refine sx_if_eq (tgt := 34) dX4_hasWall_5 rfl (fun c2 => ?_) (fun c2 => ?_)
  · have h := if_e c2 h
    refine sx_iconst (v := (0 : Int32)) dX4_hasWall_34 (by decide) ?_
    obtain rfl := Option.some.inj h
    exact sx_iret dX4_hasWall_35 rfl (by decide) k3.1 k3.2
  · have h := if_n c2 h
    refine sx_aload_n (i := 0) (j := 0) dX4_hasWall_8 rfl rfl ?_
    refine sx_iload_n (i := 2) (j := 2) dX4_hasWall_9 rfl rfl ?_
    obtain ⟨z3, ez3, h⟩ := bd_e h
    refine sx_callV (avs := [.int v2]) (rest := []) (st1 := [.int z3]) dX4_hasWall_10 (mX4_has h0 ez3) ciX4_has (Or.inl wd_416) (X4_k h0) rfl rfl rfl rfl (rm_m rfl) rfl (Nat.le_of_ble_eq_true rfl) rfl ?_
    refine sx_if_eq (tgt := 34) dX4_hasWall_13 rfl (fun c4 => ?_) (fun c4 => ?_)
    · have h := if_e c4 h
      refine sx_iconst (v := (0 : Int32)) dX4_hasWall_34 (by decide) ?_
      obtain rfl := Option.some.inj h
      exact sx_iret dX4_hasWall_35 rfl (by decide) k3.1 k3.2
    · have h := if_n c4 h
      refine sx_aload_n (i := 0) (j := 0) dX4_hasWall_16 rfl rfl ?_
      refine sx_get (k := 10) (v := .ref (a0 + 7)) dX4_hasWall_17 (X4_k h0) cf_4 (Or.inl wd_161) (by decide : 10 < 17) (congrArg Value.ref (X4_r10 h0)) ?_
      refine sx_iload_n (i := 1) (j := 1) dX4_hasWall_20 rfl rfl ?_
      obtain ⟨c5, h⟩ := gd_e h
      refine sx_iald dX4_hasWall_21 (X4_a10 h0) c5 ?_
      refine sx_iload_n (i := 2) (j := 2) dX4_hasWall_22 rfl rfl ?_
      refine sx_ishr dX4_hasWall_23 ?_
      refine sx_iconst (v := (1 : Int32)) dX4_hasWall_24 (by decide) ?_
      refine sx_iand dX4_hasWall_25 ?_
      refine sx_iconst (v := (1 : Int32)) dX4_hasWall_26 (by decide) ?_
      refine sx_icmp_ne (tgt := 34) dX4_hasWall_27 rfl (fun c6 => ?_) (fun c6 => ?_)
      · have h := if_e c6 h
        refine sx_iconst (v := (1 : Int32)) dX4_hasWall_30 (by decide) ?_
        refine sx_goto (tgt := 35) dX4_hasWall_31 rfl ?_
        obtain rfl := Option.some.inj h
        exact sx_iret dX4_hasWall_35 rfl (by decide) k3.1 k3.2
      · have h := if_n c6 h
        refine sx_iconst (v := (0 : Int32)) dX4_hasWall_34 (by decide) ?_
        obtain rfl := Option.some.inj h
        exact sx_iret dX4_hasWall_35 rfl (by decide) k3.1 k3.2
set_option maxRecDepth 100000 in
set_option maxHeartbeats 4000000 in
theorem mX4_setWall {l : Launch} {E : Ev} {L : HL} {a0 : Nat} {v1 : Int32} {v2 : Int32} {v3 : Int32} {z : Int32 × HL} (h0 : isX4 E a0) (h : fX4_setWall a0 v1 v2 v3 L = some z) : Mt l E yX4_setWall cX4_setWall 4 (some .int) (3) [.ref a0, .int v1, .int v2, .int v3] L (some (.int z.1)) (z.2) := by
  obtain ⟨r, hr⟩ : ∃ r : Option Value, r = some (.int z.1) := ⟨_, rfl⟩
  obtain ⟨L', hL'⟩ : ∃ L' : HL, L' = z.2 := ⟨_, rfl⟩
  have k3 : r = some (.int z.1) ∧ L' = z.2 := ⟨hr, hL'⟩
  refine mt_eq hr hL' ?_
  refine Mt.of (plainFor_of_name (by decide)) (Nat.le_of_ble_eq_true rfl) ?_
  refine sx_sub (lv' := [(0, .ref a0), (1, .int v1), (2, .int v2), (3, .int v3)]) [0, 1, 2, 3] rfl ?_
  unfold fX4_setWall at h
  refine sx_aload_n (i := 0) (j := 0) dX4_setWall_0 rfl rfl ?_
  refine sx_iload_n (i := 1) (j := 1) dX4_setWall_1 rfl rfl ?_
  refine sx_iload_n (i := 2) (j := 2) dX4_setWall_2 rfl rfl ?_
  obtain ⟨z1, ez1, h⟩ := bd_e h
  refine sx_callV (avs := [.int v1, .int v2]) (rest := []) (st1 := [.int z1]) dX4_setWall_3 (mX4_hasTwo h0 ez1) ciX4_hasTwo (Or.inl wd_436) (X4_k h0) rfl rfl rfl rfl (rm_m rfl) rfl (Nat.le_of_ble_eq_true rfl) rfl ?_
  refine sx_if_ne (tgt := 12) dX4_setWall_6 rfl (fun c2 => ?_) (fun c2 => ?_)
  · have h := if_e c2 h
    refine sx_bipush (v := (-2 : Int32)) dX4_setWall_9 (by decide) ?_
    obtain rfl := Option.some.inj h
    exact sx_iret dX4_setWall_11 rfl rfl k3.1 k3.2
  · have h := if_n c2 h
    refine sx_aload_n (i := 0) (j := 0) dX4_setWall_12 rfl rfl ?_
    refine sx_iload_n (i := 1) (j := 1) dX4_setWall_13 rfl rfl ?_
    refine sx_iload_n (i := 2) (j := 2) dX4_setWall_14 rfl rfl ?_
    obtain ⟨z3, ez3, h⟩ := bd_e h
    refine sx_callV (avs := [.int v1, .int v2]) (rest := []) (st1 := [.int z3]) dX4_setWall_15 (mX4_hasWall h0 ez3) ciX4_hasWall (Or.inl wd_440) (X4_k h0) rfl rfl rfl rfl (rm_m rfl) rfl (Nat.le_of_ble_eq_true rfl) rfl ?_
    refine sx_iload_n (i := 3) (j := 3) dX4_setWall_18 rfl rfl ?_
    refine sx_icmp_ne (tgt := 25) dX4_setWall_19 rfl (fun c4 => ?_) (fun c4 => ?_)
    · have h := if_e c4 h
      refine sx_bipush (v := (-3 : Int32)) dX4_setWall_22 (by decide) ?_
      obtain rfl := Option.some.inj h
      exact sx_iret dX4_setWall_24 rfl rfl k3.1 k3.2
    · have h := if_n c4 h
      refine sx_aload_n (i := 0) (j := 0) dX4_setWall_25 rfl rfl ?_
      refine sx_get (k := 10) (v := .ref (a0 + 7)) dX4_setWall_26 (X4_k h0) cf_4 (Or.inl wd_161) (by decide : 10 < 17) (congrArg Value.ref (X4_r10 h0)) ?_
      refine sx_iload_n (i := 1) (j := 1) dX4_setWall_29 rfl rfl ?_
      refine sx_dup2 dX4_setWall_30 rfl rfl ?_
      obtain ⟨c5, h⟩ := gd_e h
      refine sx_iald dX4_setWall_31 (X4_a10 h0) c5 ?_
      refine sx_iconst (v := (1 : Int32)) dX4_setWall_32 (by decide) ?_
      refine sx_iload_n (i := 2) (j := 2) dX4_setWall_33 rfl rfl ?_
      refine sx_ishl dX4_setWall_34 ?_
      refine sx_ixor dX4_setWall_35 ?_
      obtain ⟨c6, h⟩ := gd_e h
      refine sx_iast dX4_setWall_36 (X4_a10 h0) c6 (fun L7 eL7 => ?_)
      have h := lt_e eL7 h
      refine sx_aload_n (i := 0) (j := 0) dX4_setWall_37 rfl rfl ?_
      refine sx_get (k := 10) (v := .ref (a0 + 7)) dX4_setWall_38 (X4_k h0) cf_4 (Or.inl wd_161) (by decide : 10 < 17) (congrArg Value.ref (X4_r10 h0)) ?_
      refine sx_iload_n (i := 2) (j := 2) dX4_setWall_41 rfl rfl ?_
      refine sx_dup2 dX4_setWall_42 rfl rfl ?_
      obtain ⟨c8, h⟩ := gd_e h
      refine sx_iald dX4_setWall_43 (X4_a10 h0) c8 ?_
      refine sx_iconst (v := (1 : Int32)) dX4_setWall_44 (by decide) ?_
      refine sx_iload_n (i := 1) (j := 1) dX4_setWall_45 rfl rfl ?_
      refine sx_ishl dX4_setWall_46 ?_
      refine sx_ixor dX4_setWall_47 ?_
      obtain ⟨c9, h⟩ := gd_e h
      refine sx_iast dX4_setWall_48 (X4_a10 h0) c9 (fun L10 eL10 => ?_)
      have h := lt_e eL10 h
      refine sx_iconst (v := (1 : Int32)) dX4_setWall_49 (by decide) ?_
      obtain rfl := Option.some.inj h
      exact sx_iret dX4_setWall_50 rfl rfl k3.1 k3.2
set_option maxRecDepth 100000 in
set_option maxHeartbeats 4000000 in
theorem tX4_addOne_j41 {l : Launch} {E : Ev} {r : Option Value} {L' L : HL} {a0 : Nat} {v1 : Int32} {v2 : Int32} {z : Int32 × HL} (h0 : isX4 E a0) (h : fX4_addOne_j41 a0 v1 v2 L = some z) (k3 : r = some (.int z.1) ∧ L' = z.2) : Sx l E yX4_addOne cX4_addOne 3 (some .int) (2) r L' 41 [(0, .ref a0), (1, .int v1), (2, .int v2)] [] L := by
  unfold fX4_addOne_j41 at h
  refine sx_aload_n (i := 0) (j := 0) dX4_addOne_41 rfl rfl ?_
  refine sx_get (k := 2) (v := .int (L.1 a0 2)) dX4_addOne_42 (X4_k h0) cf_4 (Or.inl wd_140) (by decide : 2 < 17) rfl ?_
  refine sx_bipush (v := (6 : Int32)) dX4_addOne_45 (by decide) ?_
  refine sx_icmp_lt (tgt := 53) dX4_addOne_47 rfl (fun c5 => ?_) (fun c5 => ?_)
  · have h := if_e c5 h
    refine sx_aload_n (i := 0) (j := 0) dX4_addOne_53 rfl rfl ?_
    refine sx_get (k := 11) (v := .ref (a0 + 8)) dX4_addOne_54 (X4_k h0) cf_4 (Or.inl wd_162) (by decide : 11 < 17) (congrArg Value.ref (X4_r11 h0)) ?_
    refine sx_aload_n (i := 0) (j := 0) dX4_addOne_57 rfl rfl ?_
    refine sx_get (k := 2) (v := .int (L.1 a0 2)) dX4_addOne_58 (X4_k h0) cf_4 (Or.inl wd_140) (by decide : 2 < 17) rfl ?_
    refine sx_iload_n (i := 1) (j := 1) dX4_addOne_61 rfl rfl ?_
    obtain ⟨c6, h⟩ := gd_e h
    refine sx_iast dX4_addOne_62 (X4_a11 h0) c6 (fun L7 eL7 => ?_)
    have h := lt_e eL7 h
    refine sx_aload_n (i := 0) (j := 0) dX4_addOne_63 rfl rfl ?_
    refine sx_get (k := 12) (v := .ref (a0 + 9)) dX4_addOne_64 (X4_k h0) cf_4 (Or.inl wd_165) (by decide : 12 < 17) (congrArg Value.ref (X4_r12 h0)) ?_
    refine sx_aload_n (i := 0) (j := 0) dX4_addOne_67 rfl rfl ?_
    refine sx_get (k := 2) (v := .int (L7.1 a0 2)) dX4_addOne_68 (X4_k h0) cf_4 (Or.inl wd_140) (by decide : 2 < 17) rfl ?_
    refine sx_iload_n (i := 2) (j := 2) dX4_addOne_71 rfl rfl ?_
    obtain ⟨c8, h⟩ := gd_e h
    refine sx_iast dX4_addOne_72 (X4_a12 h0) c8 (fun L9 eL9 => ?_)
    have h := lt_e eL9 h
    refine sx_aload_n (i := 0) (j := 0) dX4_addOne_73 rfl rfl ?_
    refine sx_dup dX4_addOne_74 rfl ?_
    refine sx_get (k := 2) (v := .int (L9.1 a0 2)) dX4_addOne_75 (X4_k h0) cf_4 (Or.inl wd_140) (by decide : 2 < 17) rfl ?_
    refine sx_iconst (v := (1 : Int32)) dX4_addOne_78 (by decide) ?_
    refine sx_iadd dX4_addOne_79 ?_
    refine sx_putI (k := 2) dX4_addOne_80 (X4_k h0) cf_4 (Or.inl wd_140) (by decide : 2 < 17) rfl rfl rfl rfl (fun L10 eL10 => ?_)
    have h := lt_e eL10 h
    refine sx_aload_n (i := 0) (j := 0) dX4_addOne_83 rfl rfl ?_
    refine sx_get (k := 2) (v := .int (L10.1 a0 2)) dX4_addOne_84 (X4_k h0) cf_4 (Or.inl wd_140) (by decide : 2 < 17) rfl ?_
    refine sx_iconst (v := (1 : Int32)) dX4_addOne_87 (by decide) ?_
    refine sx_isub dX4_addOne_88 ?_
    obtain rfl := Option.some.inj h
    exact sx_iret dX4_addOne_89 rfl rfl k3.1 k3.2
  · have h := if_n c5 h
    refine sx_bipush (v := (-4 : Int32)) dX4_addOne_50 (by decide) ?_
    obtain rfl := Option.some.inj h
    exact sx_iret dX4_addOne_52 rfl rfl k3.1 k3.2
set_option maxRecDepth 100000 in
set_option maxHeartbeats 4000000 in
theorem tX4_addOne_j25 {l : Launch} {E : Ev} {r : Option Value} {L' L : HL} {a0 : Nat} {v1 : Int32} {v2 : Int32} {z : Int32 × HL} (h0 : isX4 E a0) (h : fX4_addOne_j25 a0 v1 v2 L = some z) (k3 : r = some (.int z.1) ∧ L' = z.2) : Sx l E yX4_addOne cX4_addOne 3 (some .int) (2) r L' 25 [(0, .ref a0), (1, .int v1), (2, .int v2)] [] L := by
  unfold fX4_addOne_j25 at h
  refine sx_iload_n (i := 2) (j := 2) dX4_addOne_25 rfl rfl ?_
  refine sx_iconst (v := (-1 : Int32)) dX4_addOne_26 (by decide) ?_
  refine sx_icmp_eq (tgt := 41) dX4_addOne_27 rfl (fun c4 => ?_) (fun c4 => ?_)
  · have h := if_e c4 h
    exact sx_sub [0, 1, 2] rfl (tX4_addOne_j41 h0 h k3)
  · have h := if_n c4 h
    refine sx_aload_n (i := 0) (j := 0) dX4_addOne_30 rfl rfl ?_
    refine sx_iload_n (i := 2) (j := 2) dX4_addOne_31 rfl rfl ?_
    obtain ⟨z11, ez11, h⟩ := bd_e h
    refine sx_callV (avs := [.int v2]) (rest := []) (st1 := [.int z11]) dX4_addOne_32 (mX4_stands h0 ez11) ciX4_stands (Or.inl wd_452) (X4_k h0) rfl rfl rfl rfl (rm_m rfl) rfl (Nat.le_of_ble_eq_true rfl) rfl ?_
    refine sx_if_ne (tgt := 41) dX4_addOne_35 rfl (fun c12 => ?_) (fun c12 => ?_)
    · have h := if_e c12 h
      refine sx_bipush (v := (-3 : Int32)) dX4_addOne_38 (by decide) ?_
      obtain rfl := Option.some.inj h
      exact sx_iret dX4_addOne_40 rfl rfl k3.1 k3.2
    · have h := if_n c12 h
      exact sx_sub [0, 1, 2] rfl (tX4_addOne_j41 h0 h k3)
set_option maxRecDepth 100000 in
set_option maxHeartbeats 4000000 in
theorem mX4_addOne {l : Launch} {E : Ev} {L : HL} {a0 : Nat} {v1 : Int32} {v2 : Int32} {z : Int32 × HL} (h0 : isX4 E a0) (h : fX4_addOne a0 v1 v2 L = some z) : Mt l E yX4_addOne cX4_addOne 3 (some .int) (2) [.ref a0, .int v1, .int v2] L (some (.int z.1)) (z.2) := by
  obtain ⟨r, hr⟩ : ∃ r : Option Value, r = some (.int z.1) := ⟨_, rfl⟩
  obtain ⟨L', hL'⟩ : ∃ L' : HL, L' = z.2 := ⟨_, rfl⟩
  have k3 : r = some (.int z.1) ∧ L' = z.2 := ⟨hr, hL'⟩
  refine mt_eq hr hL' ?_
  refine Mt.of (plainFor_of_name (by decide)) (Nat.le_of_ble_eq_true rfl) ?_
  refine sx_sub (lv' := [(0, .ref a0), (1, .int v1), (2, .int v2)]) [0, 1, 2] rfl ?_
  unfold fX4_addOne at h
  refine sx_iload_n (i := 1) (j := 1) dX4_addOne_0 rfl rfl ?_
  refine sx_if_lt (tgt := 22) dX4_addOne_1 rfl (fun c1 => ?_) (fun c1 => ?_)
  · have h := if_e c1 h
    refine sx_bipush (v := (-2 : Int32)) dX4_addOne_22 (by decide) ?_
    obtain rfl := Option.some.inj h
    exact sx_iret dX4_addOne_24 rfl rfl k3.1 k3.2
  · have h := if_n c1 h
    refine sx_iload_n (i := 1) (j := 1) dX4_addOne_4 rfl rfl ?_
    refine sx_iconst (v := (4 : Int32)) dX4_addOne_5 (by decide) ?_
    refine sx_icmp_ge (tgt := 22) dX4_addOne_6 rfl (fun c2 => ?_) (fun c2 => ?_)
    · have h := if_e c2 h
      refine sx_bipush (v := (-2 : Int32)) dX4_addOne_22 (by decide) ?_
      obtain rfl := Option.some.inj h
      exact sx_iret dX4_addOne_24 rfl rfl k3.1 k3.2
    · have h := if_n c2 h
      refine sx_iload_n (i := 2) (j := 2) dX4_addOne_9 rfl rfl ?_
      refine sx_iconst (v := (-1 : Int32)) dX4_addOne_10 (by decide) ?_
      refine sx_icmp_eq (tgt := 25) dX4_addOne_11 rfl (fun c3 => ?_) (fun c3 => ?_)
      · have h := if_e c3 h
        exact sx_sub [0, 1, 2] rfl (tX4_addOne_j25 h0 h k3)
      · have h := if_n c3 h
        refine sx_aload_n (i := 0) (j := 0) dX4_addOne_14 rfl rfl ?_
        refine sx_iload_n (i := 2) (j := 2) dX4_addOne_15 rfl rfl ?_
        obtain ⟨z13, ez13, h⟩ := bd_e h
        refine sx_callV (avs := [.int v2]) (rest := []) (st1 := [.int z13]) dX4_addOne_16 (mX4_has h0 ez13) ciX4_has (Or.inl wd_416) (X4_k h0) rfl rfl rfl rfl (rm_m rfl) rfl (Nat.le_of_ble_eq_true rfl) rfl ?_
        refine sx_if_ne (tgt := 25) dX4_addOne_19 rfl (fun c14 => ?_) (fun c14 => ?_)
        · have h := if_e c14 h
          refine sx_bipush (v := (-2 : Int32)) dX4_addOne_22 (by decide) ?_
          obtain rfl := Option.some.inj h
          exact sx_iret dX4_addOne_24 rfl rfl k3.1 k3.2
        · have h := if_n c14 h
          exact sx_sub [0, 1, 2] rfl (tX4_addOne_j25 h0 h k3)
set_option maxRecDepth 100000 in
set_option maxHeartbeats 4000000 in
theorem mX4_hasFeud {l : Launch} {E : Ev} {L : HL} {a0 : Nat} {v1 : Int32} {v2 : Int32} {z : Int32} (h0 : isX4 E a0) (h : fX4_hasFeud a0 v1 v2 L = some z) : Mt l E yX4_hasFeud cX4_hasFeud 3 (some .boolean) (1) [.ref a0, .int v1, .int v2] L (some (.int z)) L := by
  obtain ⟨r, hr⟩ : ∃ r : Option Value, r = some (.int z) := ⟨_, rfl⟩
  obtain ⟨L', hL'⟩ : ∃ L' : HL, L' = L := ⟨_, rfl⟩
  have k3 : r = some (.int z) ∧ L' = L := ⟨hr, hL'⟩
  refine mt_eq hr hL' ?_
  refine Mt.of (plainFor_of_name (by decide)) (Nat.le_of_ble_eq_true rfl) ?_
  refine sx_sub (lv' := [(0, .ref a0), (1, .int v1), (2, .int v2)]) [0, 1, 2] rfl ?_
  unfold fX4_hasFeud at h
  refine sx_iload_n (i := 1) (j := 1) dX4_hasFeud_0 rfl rfl ?_
  refine sx_if_lt (tgt := 36) dX4_hasFeud_1 rfl (fun c1 => ?_) (fun c1 => ?_)
  · have h := if_e c1 h
    refine sx_iconst (v := (0 : Int32)) dX4_hasFeud_36 (by decide) ?_
    obtain rfl := Option.some.inj h
    exact sx_iret dX4_hasFeud_37 rfl (by decide) k3.1 k3.2
  · have h := if_n c1 h
    refine sx_iload_n (i := 1) (j := 1) dX4_hasFeud_4 rfl rfl ?_
    refine sx_iconst (v := (4 : Int32)) dX4_hasFeud_5 (by decide) ?_
    refine sx_icmp_ge (tgt := 36) dX4_hasFeud_6 rfl (fun c2 => ?_) (fun c2 => ?_)
    · have h := if_e c2 h
      refine sx_iconst (v := (0 : Int32)) dX4_hasFeud_36 (by decide) ?_
      obtain rfl := Option.some.inj h
      exact sx_iret dX4_hasFeud_37 rfl (by decide) k3.1 k3.2
    · have h := if_n c2 h
      refine sx_iload_n (i := 2) (j := 2) dX4_hasFeud_9 rfl rfl ?_
      refine sx_if_lt (tgt := 36) dX4_hasFeud_10 rfl (fun c3 => ?_) (fun c3 => ?_)
      · have h := if_e c3 h
        refine sx_iconst (v := (0 : Int32)) dX4_hasFeud_36 (by decide) ?_
        obtain rfl := Option.some.inj h
        exact sx_iret dX4_hasFeud_37 rfl (by decide) k3.1 k3.2
      · have h := if_n c3 h
        refine sx_iload_n (i := 2) (j := 2) dX4_hasFeud_13 rfl rfl ?_
        refine sx_iconst (v := (4 : Int32)) dX4_hasFeud_14 (by decide) ?_
        refine sx_icmp_ge (tgt := 36) dX4_hasFeud_15 rfl (fun c4 => ?_) (fun c4 => ?_)
        · have h := if_e c4 h
          refine sx_iconst (v := (0 : Int32)) dX4_hasFeud_36 (by decide) ?_
          obtain rfl := Option.some.inj h
          exact sx_iret dX4_hasFeud_37 rfl (by decide) k3.1 k3.2
        · have h := if_n c4 h
          refine sx_aload_n (i := 0) (j := 0) dX4_hasFeud_18 rfl rfl ?_
          refine sx_get (k := 13) (v := .ref (a0 + 10)) dX4_hasFeud_19 (X4_k h0) cf_4 (Or.inl wd_170) (by decide : 13 < 17) (congrArg Value.ref (X4_r13 h0)) ?_
          refine sx_iload_n (i := 1) (j := 1) dX4_hasFeud_22 rfl rfl ?_
          obtain ⟨c5, h⟩ := gd_e h
          refine sx_iald dX4_hasFeud_23 (X4_a13 h0) c5 ?_
          refine sx_iload_n (i := 2) (j := 2) dX4_hasFeud_24 rfl rfl ?_
          refine sx_ishr dX4_hasFeud_25 ?_
          refine sx_iconst (v := (1 : Int32)) dX4_hasFeud_26 (by decide) ?_
          refine sx_iand dX4_hasFeud_27 ?_
          refine sx_iconst (v := (1 : Int32)) dX4_hasFeud_28 (by decide) ?_
          refine sx_icmp_ne (tgt := 36) dX4_hasFeud_29 rfl (fun c6 => ?_) (fun c6 => ?_)
          · have h := if_e c6 h
            refine sx_iconst (v := (1 : Int32)) dX4_hasFeud_32 (by decide) ?_
            refine sx_goto (tgt := 37) dX4_hasFeud_33 rfl ?_
            obtain rfl := Option.some.inj h
            exact sx_iret dX4_hasFeud_37 rfl (by decide) k3.1 k3.2
          · have h := if_n c6 h
            refine sx_iconst (v := (0 : Int32)) dX4_hasFeud_36 (by decide) ?_
            obtain rfl := Option.some.inj h
            exact sx_iret dX4_hasFeud_37 rfl (by decide) k3.1 k3.2
set_option maxRecDepth 100000 in
set_option maxHeartbeats 4000000 in
theorem mX4_setFeud {l : Launch} {E : Ev} {L : HL} {a0 : Nat} {v1 : Int32} {v2 : Int32} {v3 : Int32} {z : Int32 × HL} (h0 : isX4 E a0) (h : fX4_setFeud a0 v1 v2 v3 L = some z) : Mt l E yX4_setFeud cX4_setFeud 4 (some .int) (2) [.ref a0, .int v1, .int v2, .int v3] L (some (.int z.1)) (z.2) := by
  obtain ⟨r, hr⟩ : ∃ r : Option Value, r = some (.int z.1) := ⟨_, rfl⟩
  obtain ⟨L', hL'⟩ : ∃ L' : HL, L' = z.2 := ⟨_, rfl⟩
  have k3 : r = some (.int z.1) ∧ L' = z.2 := ⟨hr, hL'⟩
  refine mt_eq hr hL' ?_
  refine Mt.of (plainFor_of_name (by decide)) (Nat.le_of_ble_eq_true rfl) ?_
  refine sx_sub (lv' := [(0, .ref a0), (1, .int v1), (2, .int v2), (3, .int v3)]) [0, 1, 2, 3] rfl ?_
  unfold fX4_setFeud at h
  refine sx_iload_n (i := 1) (j := 1) dX4_setFeud_0 rfl rfl ?_
  refine sx_if_lt (tgt := 23) dX4_setFeud_1 rfl (fun c1 => ?_) (fun c1 => ?_)
  · have h := if_e c1 h
    refine sx_bipush (v := (-2 : Int32)) dX4_setFeud_23 (by decide) ?_
    obtain rfl := Option.some.inj h
    exact sx_iret dX4_setFeud_25 rfl rfl k3.1 k3.2
  · have h := if_n c1 h
    refine sx_iload_n (i := 1) (j := 1) dX4_setFeud_4 rfl rfl ?_
    refine sx_iconst (v := (4 : Int32)) dX4_setFeud_5 (by decide) ?_
    refine sx_icmp_ge (tgt := 23) dX4_setFeud_6 rfl (fun c2 => ?_) (fun c2 => ?_)
    · have h := if_e c2 h
      refine sx_bipush (v := (-2 : Int32)) dX4_setFeud_23 (by decide) ?_
      obtain rfl := Option.some.inj h
      exact sx_iret dX4_setFeud_25 rfl rfl k3.1 k3.2
    · have h := if_n c2 h
      refine sx_iload_n (i := 2) (j := 2) dX4_setFeud_9 rfl rfl ?_
      refine sx_if_lt (tgt := 23) dX4_setFeud_10 rfl (fun c3 => ?_) (fun c3 => ?_)
      · have h := if_e c3 h
        refine sx_bipush (v := (-2 : Int32)) dX4_setFeud_23 (by decide) ?_
        obtain rfl := Option.some.inj h
        exact sx_iret dX4_setFeud_25 rfl rfl k3.1 k3.2
      · have h := if_n c3 h
        refine sx_iload_n (i := 2) (j := 2) dX4_setFeud_13 rfl rfl ?_
        refine sx_iconst (v := (4 : Int32)) dX4_setFeud_14 (by decide) ?_
        refine sx_icmp_ge (tgt := 23) dX4_setFeud_15 rfl (fun c4 => ?_) (fun c4 => ?_)
        · have h := if_e c4 h
          refine sx_bipush (v := (-2 : Int32)) dX4_setFeud_23 (by decide) ?_
          obtain rfl := Option.some.inj h
          exact sx_iret dX4_setFeud_25 rfl rfl k3.1 k3.2
        · have h := if_n c4 h
          refine sx_iload_n (i := 1) (j := 1) dX4_setFeud_18 rfl rfl ?_
          refine sx_iload_n (i := 2) (j := 2) dX4_setFeud_19 rfl rfl ?_
          refine sx_icmp_ne (tgt := 26) dX4_setFeud_20 rfl (fun c5 => ?_) (fun c5 => ?_)
          · have h := if_e c5 h
            refine sx_bipush (v := (-2 : Int32)) dX4_setFeud_23 (by decide) ?_
            obtain rfl := Option.some.inj h
            exact sx_iret dX4_setFeud_25 rfl rfl k3.1 k3.2
          · have h := if_n c5 h
            refine sx_aload_n (i := 0) (j := 0) dX4_setFeud_26 rfl rfl ?_
            refine sx_iload_n (i := 1) (j := 1) dX4_setFeud_27 rfl rfl ?_
            refine sx_iload_n (i := 2) (j := 2) dX4_setFeud_28 rfl rfl ?_
            obtain ⟨z6, ez6, h⟩ := bd_e h
            refine sx_callV (avs := [.int v1, .int v2]) (rest := []) (st1 := [.int z6]) dX4_setFeud_29 (mX4_hasFeud h0 ez6) ciX4_hasFeud (Or.inl wd_464) (X4_k h0) rfl rfl rfl rfl (rm_m rfl) rfl (Nat.le_of_ble_eq_true rfl) rfl ?_
            refine sx_iload_n (i := 3) (j := 3) dX4_setFeud_32 rfl rfl ?_
            refine sx_icmp_ne (tgt := 39) dX4_setFeud_33 rfl (fun c7 => ?_) (fun c7 => ?_)
            · have h := if_e c7 h
              refine sx_bipush (v := (-3 : Int32)) dX4_setFeud_36 (by decide) ?_
              obtain rfl := Option.some.inj h
              exact sx_iret dX4_setFeud_38 rfl rfl k3.1 k3.2
            · have h := if_n c7 h
              refine sx_aload_n (i := 0) (j := 0) dX4_setFeud_39 rfl rfl ?_
              refine sx_get (k := 13) (v := .ref (a0 + 10)) dX4_setFeud_40 (X4_k h0) cf_4 (Or.inl wd_170) (by decide : 13 < 17) (congrArg Value.ref (X4_r13 h0)) ?_
              refine sx_iload_n (i := 1) (j := 1) dX4_setFeud_43 rfl rfl ?_
              refine sx_dup2 dX4_setFeud_44 rfl rfl ?_
              obtain ⟨c8, h⟩ := gd_e h
              refine sx_iald dX4_setFeud_45 (X4_a13 h0) c8 ?_
              refine sx_iconst (v := (1 : Int32)) dX4_setFeud_46 (by decide) ?_
              refine sx_iload_n (i := 2) (j := 2) dX4_setFeud_47 rfl rfl ?_
              refine sx_ishl dX4_setFeud_48 ?_
              refine sx_ixor dX4_setFeud_49 ?_
              obtain ⟨c9, h⟩ := gd_e h
              refine sx_iast dX4_setFeud_50 (X4_a13 h0) c9 (fun L10 eL10 => ?_)
              have h := lt_e eL10 h
              refine sx_aload_n (i := 0) (j := 0) dX4_setFeud_51 rfl rfl ?_
              refine sx_get (k := 13) (v := .ref (a0 + 10)) dX4_setFeud_52 (X4_k h0) cf_4 (Or.inl wd_170) (by decide : 13 < 17) (congrArg Value.ref (X4_r13 h0)) ?_
              refine sx_iload_n (i := 2) (j := 2) dX4_setFeud_55 rfl rfl ?_
              refine sx_dup2 dX4_setFeud_56 rfl rfl ?_
              obtain ⟨c11, h⟩ := gd_e h
              refine sx_iald dX4_setFeud_57 (X4_a13 h0) c11 ?_
              refine sx_iconst (v := (1 : Int32)) dX4_setFeud_58 (by decide) ?_
              refine sx_iload_n (i := 1) (j := 1) dX4_setFeud_59 rfl rfl ?_
              refine sx_ishl dX4_setFeud_60 ?_
              refine sx_ixor dX4_setFeud_61 ?_
              obtain ⟨c12, h⟩ := gd_e h
              refine sx_iast dX4_setFeud_62 (X4_a13 h0) c12 (fun L13 eL13 => ?_)
              have h := lt_e eL13 h
              refine sx_iconst (v := (1 : Int32)) dX4_setFeud_63 (by decide) ?_
              obtain rfl := Option.some.inj h
              exact sx_iret dX4_setFeud_64 rfl rfl k3.1 k3.2
set_option maxRecDepth 100000 in
set_option maxHeartbeats 4000000 in
theorem mX5_tellItem {l : Launch} {E : Ev} {L : HL} {a0 : Nat} {v1 : Int32} {v2 : Int32} {v3 : Int32} {v4 : Int32} {z : Int32 × HL} (h0 : isX4 E a0) (h : fX5_tellItem a0 v1 v2 v3 v4 L = some z) : Mt l E yX5_tellItem cX5_tellItem 5 (some .int) (4) [.ref a0, .int v1, .int v2, .int v3, .int v4] L (some (.int z.1)) (z.2) := by
  obtain ⟨r, hr⟩ : ∃ r : Option Value, r = some (.int z.1) := ⟨_, rfl⟩
  obtain ⟨L', hL'⟩ : ∃ L' : HL, L' = z.2 := ⟨_, rfl⟩
  have k3 : r = some (.int z.1) ∧ L' = z.2 := ⟨hr, hL'⟩
  refine mt_eq hr hL' ?_
  refine Mt.of (plainFor_of_name (by decide)) (Nat.le_of_ble_eq_true rfl) ?_
  refine sx_sub (lv' := [(0, .ref a0), (1, .int v1), (2, .int v2), (3, .int v3), (4, .int v4)]) [0, 1, 2, 3, 4] rfl ?_
  unfold fX5_tellItem at h
  refine sx_iload_n (i := 1) (j := 1) dX5_tellItem_0 rfl rfl ?_
  by_cases c1 : v1 = (1 : Int32)
  · have h := if_e c1 h
    refine sx_swIn (tgt := 40) (1 : Int32) dX5_tellItem_1 c1 (by decide) (by decide) rfl rfl ?_
    refine sx_aload_n (i := 0) (j := 0) dX5_tellItem_40 rfl rfl ?_
    refine sx_iload_n (i := 2) (j := 2) dX5_tellItem_41 rfl rfl ?_
    refine sx_iload_n (i := 3) (j := 3) dX5_tellItem_42 rfl rfl ?_
    refine sx_iload (j := 4) dX5_tellItem_43 rfl ?_
    obtain ⟨z2, ez2, h⟩ := bd_e h
    refine sx_callV (avs := [.int v2, .int v3, .int v4]) (rest := []) (st1 := [.int z2.1]) dX5_tellItem_45 (mX4_addHouse h0 ez2) ciX4_addHouse (Or.inr ⟨_, nw_592⟩) (X4_k h0) rfl rfl rfl rfl (rm_m rfl) rfl (Nat.le_of_ble_eq_true rfl) rfl ?_
    obtain rfl := Option.some.inj h
    exact sx_iret dX5_tellItem_48 rfl rfl k3.1 k3.2
  have h := if_n c1 h
  by_cases c3 : v1 = (2 : Int32)
  · have h := if_e c3 h
    refine sx_swIn (tgt := 49) (2 : Int32) dX5_tellItem_1 c3 (by decide) (by decide) rfl rfl ?_
    refine sx_aload_n (i := 0) (j := 0) dX5_tellItem_49 rfl rfl ?_
    refine sx_iload_n (i := 2) (j := 2) dX5_tellItem_50 rfl rfl ?_
    refine sx_iload_n (i := 3) (j := 3) dX5_tellItem_51 rfl rfl ?_
    obtain ⟨z4, ez4, h⟩ := bd_e h
    refine sx_callV (avs := [.int v2, .int v3]) (rest := []) (st1 := [.int z4.1]) dX5_tellItem_52 (mX4_setFrom h0 ez4) ciX4_setFrom (Or.inr ⟨_, nw_593⟩) (X4_k h0) rfl rfl rfl rfl (rm_m rfl) rfl (Nat.le_of_ble_eq_true rfl) rfl ?_
    obtain rfl := Option.some.inj h
    exact sx_iret dX5_tellItem_55 rfl rfl k3.1 k3.2
  have h := if_n c3 h
  by_cases c5 : v1 = (3 : Int32)
  · have h := if_e c5 h
    refine sx_swIn (tgt := 56) (3 : Int32) dX5_tellItem_1 c5 (by decide) (by decide) rfl rfl ?_
    refine sx_aload_n (i := 0) (j := 0) dX5_tellItem_56 rfl rfl ?_
    refine sx_iload_n (i := 2) (j := 2) dX5_tellItem_57 rfl rfl ?_
    refine sx_iload_n (i := 3) (j := 3) dX5_tellItem_58 rfl rfl ?_
    obtain ⟨z6, ez6, h⟩ := bd_e h
    refine sx_callV (avs := [.int v2, .int v3]) (rest := []) (st1 := [.int z6.1]) dX5_tellItem_59 (mX4_setWill h0 ez6) ciX4_setWill (Or.inr ⟨_, nw_594⟩) (X4_k h0) rfl rfl rfl rfl (rm_m rfl) rfl (Nat.le_of_ble_eq_true rfl) rfl ?_
    obtain rfl := Option.some.inj h
    exact sx_iret dX5_tellItem_62 rfl rfl k3.1 k3.2
  have h := if_n c5 h
  by_cases c7 : v1 = (4 : Int32)
  · have h := if_e c7 h
    refine sx_swIn (tgt := 63) (4 : Int32) dX5_tellItem_1 c7 (by decide) (by decide) rfl rfl ?_
    refine sx_aload_n (i := 0) (j := 0) dX5_tellItem_63 rfl rfl ?_
    refine sx_iload_n (i := 2) (j := 2) dX5_tellItem_64 rfl rfl ?_
    refine sx_iload_n (i := 3) (j := 3) dX5_tellItem_65 rfl rfl ?_
    refine sx_iconst (v := (1 : Int32)) dX5_tellItem_66 (by decide) ?_
    obtain ⟨z8, ez8, h⟩ := bd_e h
    refine sx_callV (avs := [.int v2, .int v3, .int (1 : Int32)]) (rest := []) (st1 := [.int z8.1]) dX5_tellItem_67 (mX4_setWall h0 ez8) ciX4_setWall (Or.inr ⟨_, nw_595⟩) (X4_k h0) rfl rfl rfl rfl (rm_m rfl) rfl (Nat.le_of_ble_eq_true rfl) rfl ?_
    obtain rfl := Option.some.inj h
    exact sx_iret dX5_tellItem_70 rfl rfl k3.1 k3.2
  have h := if_n c7 h
  by_cases c9 : v1 = (5 : Int32)
  · have h := if_e c9 h
    refine sx_swIn (tgt := 71) (5 : Int32) dX5_tellItem_1 c9 (by decide) (by decide) rfl rfl ?_
    refine sx_aload_n (i := 0) (j := 0) dX5_tellItem_71 rfl rfl ?_
    refine sx_iload_n (i := 2) (j := 2) dX5_tellItem_72 rfl rfl ?_
    refine sx_iload_n (i := 3) (j := 3) dX5_tellItem_73 rfl rfl ?_
    obtain ⟨z10, ez10, h⟩ := bd_e h
    refine sx_callV (avs := [.int v2, .int v3]) (rest := []) (st1 := [.int z10.1]) dX5_tellItem_74 (mX4_addOne h0 ez10) ciX4_addOne (Or.inr ⟨_, nw_596⟩) (X4_k h0) rfl rfl rfl rfl (rm_m rfl) rfl (Nat.le_of_ble_eq_true rfl) rfl ?_
    obtain rfl := Option.some.inj h
    exact sx_iret dX5_tellItem_77 rfl rfl k3.1 k3.2
  have h := if_n c9 h
  by_cases c11 : v1 = (6 : Int32)
  · have h := if_e c11 h
    refine sx_swIn (tgt := 78) (6 : Int32) dX5_tellItem_1 c11 (by decide) (by decide) rfl rfl ?_
    refine sx_aload_n (i := 0) (j := 0) dX5_tellItem_78 rfl rfl ?_
    refine sx_iload_n (i := 2) (j := 2) dX5_tellItem_79 rfl rfl ?_
    refine sx_iload_n (i := 3) (j := 3) dX5_tellItem_80 rfl rfl ?_
    refine sx_iconst (v := (1 : Int32)) dX5_tellItem_81 (by decide) ?_
    obtain ⟨z12, ez12, h⟩ := bd_e h
    refine sx_callV (avs := [.int v2, .int v3, .int (1 : Int32)]) (rest := []) (st1 := [.int z12.1]) dX5_tellItem_82 (mX4_setFeud h0 ez12) ciX4_setFeud (Or.inr ⟨_, nw_597⟩) (X4_k h0) rfl rfl rfl rfl (rm_m rfl) rfl (Nat.le_of_ble_eq_true rfl) rfl ?_
    obtain rfl := Option.some.inj h
    exact sx_iret dX5_tellItem_85 rfl rfl k3.1 k3.2
  have h := if_n c11 h
  refine sx_swOut (tgt := 86) dX5_tellItem_1 (sw_out (lo := 1) (k := 6) [1, 2, 3, 4, 5, 6] (by decide +kernel) (List.forall_mem_cons.mpr ⟨c1, List.forall_mem_cons.mpr ⟨c3, List.forall_mem_cons.mpr ⟨c5, List.forall_mem_cons.mpr ⟨c7, List.forall_mem_cons.mpr ⟨c9, List.forall_mem_cons.mpr ⟨c11, fun _ q => absurd q List.not_mem_nil⟩⟩⟩⟩⟩⟩)) rfl ?_
  refine sx_iconst (v := (0 : Int32)) dX5_tellItem_86 (by decide) ?_
  obtain rfl := Option.some.inj h
  exact sx_iret dX5_tellItem_87 rfl rfl k3.1 k3.2
set_option maxRecDepth 100000 in
set_option maxHeartbeats 4000000 in
theorem tX5_tellTo_b6 {l : Launch} {E : Ev} {r : Option Value} {L' L : HL} {a0 : Nat} {a1 : Nat} {v2 : Int32} {z : Tn (Int32 × HL) (Int32 × HL)} (h0 : isX5 E a0) (h1 : isX4 E a1) (h : fX5_tellTo_b6 a0 a1 v2 L = some z) (k1 : ∀ s, z = .inl s → Sx l E yX5_tellTo cX5_tellTo 4 (some .int) (5) r L' 6 [(0, .ref a0), (1, .ref a1), (2, .int s.1)] [] s.2) (k2 : ∀ s, z = .inr (.inl s) → Sx l E yX5_tellTo cX5_tellTo 4 (some .int) (5) r L' 58 [] [] s.2) (k3 : ∀ v, z = .inr (.inr v) → r = some (.int v.1) ∧ L' = v.2) : Sx l E yX5_tellTo cX5_tellTo 4 (some .int) (5) r L' 6 [(0, .ref a0), (1, .ref a1), (2, .int v2)] [] L := by
  unfold fX5_tellTo_b6 at h
  refine sx_iload_n (i := 2) (j := 2) dX5_tellTo_6 rfl rfl ?_
  refine sx_aload_n (i := 0) (j := 0) dX5_tellTo_7 rfl rfl ?_
  refine sx_get (k := 4) (v := .int (L.1 a0 4)) dX5_tellTo_8 (X5_k h0) cf_5 (Or.inl wd_271) (by decide : 4 < 8) rfl ?_
  refine sx_icmp_ge (tgt := 58) dX5_tellTo_11 rfl (fun c2 => ?_) (fun c2 => ?_)
  · have h := if_e c2 h
    obtain rfl := Option.some.inj h
    exact sx_sub [] rfl (k2 _ rfl)
  · have h := if_n c2 h
    refine sx_iload_n (i := 2) (j := 2) dX5_tellTo_14 rfl rfl ?_
    refine sx_bipush (v := (24 : Int32)) dX5_tellTo_15 (by decide) ?_
    refine sx_icmp_ge (tgt := 58) dX5_tellTo_17 rfl (fun c3 => ?_) (fun c3 => ?_)
    · have h := if_e c3 h
      obtain rfl := Option.some.inj h
      exact sx_sub [] rfl (k2 _ rfl)
    · have h := if_n c3 h
      refine sx_aload_n (i := 0) (j := 0) dX5_tellTo_20 rfl rfl ?_
      refine sx_get (k := 3) (v := .ref (a0 + 3)) dX5_tellTo_21 (X5_k h0) cf_5 (Or.inl wd_270) (by decide : 3 < 8) (congrArg Value.ref (X5_r3 h0)) ?_
      refine sx_iload_n (i := 2) (j := 2) dX5_tellTo_24 rfl rfl ?_
      obtain ⟨c4, h⟩ := gd_e h
      refine sx_aald dX5_tellTo_25 (X5_a3 h0) c4 ((X5_w3 h0) _ (in_lt c4)).1 ?_
      refine sx_astore_n (i := 3) (lv' := [(0, .ref a0), (1, .ref a1), (2, .int v2), (3, .ref ((a0 + 3) + 1 + v2.toNatClampNeg))]) dX5_tellTo_26 rfl (by decide) rfl ?_
      refine sx_aload_n (i := 1) (j := 1) dX5_tellTo_27 rfl rfl ?_
      refine sx_aload_n (i := 0) (j := 0) dX5_tellTo_28 rfl rfl ?_
      refine sx_get (k := 2) (v := .ref (a0 + 2)) dX5_tellTo_29 (X5_k h0) cf_5 (Or.inl wd_269) (by decide : 2 < 8) (congrArg Value.ref (X5_r2 h0)) ?_
      refine sx_iload_n (i := 2) (j := 2) dX5_tellTo_32 rfl rfl ?_
      obtain ⟨c5, h⟩ := gd_e h
      refine sx_iald dX5_tellTo_33 (X5_a2 h0) c5 ?_
      refine sx_aload_n (i := 3) (j := 3) dX5_tellTo_34 rfl rfl ?_
      refine sx_iconst (v := (0 : Int32)) dX5_tellTo_35 (by decide) ?_
      refine sx_iald dX5_tellTo_36 ((X5_w3 h0) _ (in_lt c4)).2 (show vin (0 : Int32) 3 from by decide) ?_
      refine sx_aload_n (i := 3) (j := 3) dX5_tellTo_37 rfl rfl ?_
      refine sx_iconst (v := (1 : Int32)) dX5_tellTo_38 (by decide) ?_
      refine sx_iald dX5_tellTo_39 ((X5_w3 h0) _ (in_lt c4)).2 (show vin (1 : Int32) 3 from by decide) ?_
      refine sx_aload_n (i := 3) (j := 3) dX5_tellTo_40 rfl rfl ?_
      refine sx_iconst (v := (2 : Int32)) dX5_tellTo_41 (by decide) ?_
      refine sx_iald dX5_tellTo_42 ((X5_w3 h0) _ (in_lt c4)).2 (show vin (2 : Int32) 3 from by decide) ?_
      obtain ⟨z6, ez6, h⟩ := bd_e h
      refine sx_callS (avs := [.ref a1, .int (L.1 (a0 + 2) v2.toNatClampNeg), .int (L.1 ((a0 + 3) + 1 + v2.toNatClampNeg) (0 : Int32).toNatClampNeg), .int (L.1 ((a0 + 3) + 1 + v2.toNatClampNeg) (1 : Int32).toNatClampNeg), .int (L.1 ((a0 + 3) + 1 + v2.toNatClampNeg) (2 : Int32).toNatClampNeg)]) (rest := []) (st1 := [.int z6.1]) dX5_tellTo_43 (mX5_tellItem h1 ez6) ctX5_tellItem (Or.inl wd_589) rfl rfl (rm_m rfl) rfl (Nat.le_of_ble_eq_true rfl) rfl ?_
      refine sx_iconst (v := (-1 : Int32)) dX5_tellTo_46 (by decide) ?_
      refine sx_icmp_ge (tgt := 52) dX5_tellTo_47 rfl (fun c7 => ?_) (fun c7 => ?_)
      · have h := if_e c7 h
        obtain ⟨w8, ew8⟩ : ∃ w : Int32, w = v2 + (1 : Int32) := ⟨_, rfl⟩
        have h := lt_e ew8 h
        refine sx_iinc (j := 2) (v := w8) (lv' := [(0, .ref a0), (1, .ref a1), (2, .int w8), (3, .ref ((a0 + 3) + 1 + v2.toNatClampNeg))]) dX5_tellTo_52 rfl (ii_1 ew8) (by decide) rfl ?_
        refine sx_goto (tgt := 6) dX5_tellTo_55 rfl ?_
        obtain rfl := Option.some.inj h
        exact sx_sub [0, 1, 2] rfl (k1 _ rfl)
      · have h := if_n c7 h
        refine sx_iload_n (i := 2) (j := 2) dX5_tellTo_50 rfl rfl ?_
        obtain rfl := Option.some.inj h
        exact sx_iret dX5_tellTo_51 rfl rfl (k3 _ rfl).1 (k3 _ rfl).2
set_option maxRecDepth 100000 in
set_option maxHeartbeats 4000000 in
theorem mX5_tellTo {l : Launch} {E : Ev} {L : HL} {a0 : Nat} {a1 : Nat} {z : Int32 × HL} (h0 : isX5 E a0) (h1 : isX4 E a1) (h : fX5_tellTo a0 a1 L = some z) : Mt l E yX5_tellTo cX5_tellTo 4 (some .int) (5) [.ref a0, .ref a1] L (some (.int z.1)) (z.2) := by
  obtain ⟨r, hr⟩ : ∃ r : Option Value, r = some (.int z.1) := ⟨_, rfl⟩
  obtain ⟨L', hL'⟩ : ∃ L' : HL, L' = z.2 := ⟨_, rfl⟩
  have k3 : r = some (.int z.1) ∧ L' = z.2 := ⟨hr, hL'⟩
  refine mt_eq hr hL' ?_
  refine Mt.of (plainFor_of_name (by decide)) (Nat.le_of_ble_eq_true rfl) ?_
  refine sx_sub (lv' := [(0, .ref a0), (1, .ref a1)]) [0, 1] rfl ?_
  unfold fX5_tellTo at h
  refine sx_aload_n (i := 1) (j := 1) dX5_tellTo_0 rfl rfl ?_
  obtain ⟨z1, ez1, h⟩ := bd_e h
  refine sx_callV (avs := []) (rest := []) (st1 := []) dX5_tellTo_1 (mX4_empty h1 ez1) ciX4_empty (Or.inr ⟨_, nw_588⟩) (X4_k h1) rfl rfl rfl rfl (rm_m rfl) rfl (Nat.le_of_ble_eq_true rfl) rfl ?_
  refine sx_iconst (v := (0 : Int32)) dX5_tellTo_4 (by decide) ?_
  refine sx_istore_n (i := 2) (lv' := [(0, .ref a0), (1, .ref a1), (2, .int (0 : Int32))]) dX5_tellTo_5 rfl (by decide) rfl ?_
  obtain ⟨x10, hx, q1, q2⟩ := lx_e h
  refine sx_sub (lv' := [(0, .ref a0), (1, .ref a1), (2, .int (0 : Int32))]) [0, 1, 2] rfl ?_
  refine lp_go (fun s9 => Sx l E yX5_tellTo cX5_tellTo 4 (some .int) (5) r L' 6 [(0, .ref a0), (1, .ref a1), (2, .int s9.1)] [] s9.2) x10 (fun s9 z2 hz c1 c2 => ?_) FU _ hx
  refine tX5_tellTo_b6 h0 h1 hz (fun s2 e => c1 s2 e) (fun s9 e => ?_) (fun v e => ?_)
  · have h := q1 _ (c2 _ e).symm
    refine sx_iconst (v := (-1 : Int32)) dX5_tellTo_58 (by decide) ?_
    obtain rfl := Option.some.inj h
    exact sx_iret dX5_tellTo_59 rfl rfl k3.1 k3.2
  · have e2 := Option.some.inj (q2 _ (c2 _ e).symm)
    subst e2
    exact k3
set_option maxRecDepth 100000 in
set_option maxHeartbeats 4000000 in
theorem mJ9_max_7cf53 {l : Launch} {E : Ev} {L : HL} {v0 : Int32} {v1 : Int32} {z : Int32} (h : fJ9_max_7cf53 v0 v1 = some z) : Mt l E yJ9_max_7cf53 cJ9_max_7cf53 2 (some .int) (1) [.int v0, .int v1] L (some (.int z)) L := by
  obtain ⟨r, hr⟩ : ∃ r : Option Value, r = some (.int z) := ⟨_, rfl⟩
  obtain ⟨L', hL'⟩ : ∃ L' : HL, L' = L := ⟨_, rfl⟩
  have k3 : r = some (.int z) ∧ L' = L := ⟨hr, hL'⟩
  refine mt_eq hr hL' ?_
  refine Mt.of (by decide +kernel) (Nat.le_of_ble_eq_true rfl) ?_
  refine sx_sub (lv' := [(0, .int v0), (1, .int v1)]) [0, 1] rfl ?_
  unfold fJ9_max_7cf53 at h
  refine sx_iload_n (i := 0) (j := 0) dJ9_max_7cf53_0 rfl rfl ?_
  refine sx_iload_n (i := 1) (j := 1) dJ9_max_7cf53_1 rfl rfl ?_
  refine sx_icmp_lt (tgt := 9) dJ9_max_7cf53_2 rfl (fun c1 => ?_) (fun c1 => ?_)
  · have h := if_e c1 h
    refine sx_iload_n (i := 1) (j := 1) dJ9_max_7cf53_9 rfl rfl ?_
    obtain rfl := Option.some.inj h
    exact sx_iret dJ9_max_7cf53_10 rfl rfl k3.1 k3.2
  · have h := if_n c1 h
    refine sx_iload_n (i := 0) (j := 0) dJ9_max_7cf53_5 rfl rfl ?_
    refine sx_goto (tgt := 10) dJ9_max_7cf53_6 rfl ?_
    obtain rfl := Option.some.inj h
    exact sx_iret dJ9_max_7cf53_10 rfl rfl k3.1 k3.2
set_option maxRecDepth 100000 in
set_option maxHeartbeats 4000000 in
theorem mX4_setMarks {l : Launch} {E : Ev} {L : HL} {a0 : Nat} {v1 : Int32} {v2 : Int32} {z : Int32 × HL} (h0 : isX4 E a0) (h : fX4_setMarks a0 v1 v2 L = some z) : Mt l E yX4_setMarks cX4_setMarks 4 (some .int) (2) [.ref a0, .int v1, .int v2] L (some (.int z.1)) (z.2) := by
  obtain ⟨r, hr⟩ : ∃ r : Option Value, r = some (.int z.1) := ⟨_, rfl⟩
  obtain ⟨L', hL'⟩ : ∃ L' : HL, L' = z.2 := ⟨_, rfl⟩
  have k3 : r = some (.int z.1) ∧ L' = z.2 := ⟨hr, hL'⟩
  refine mt_eq hr hL' ?_
  refine Mt.of (plainFor_of_name (by decide)) (Nat.le_of_ble_eq_true rfl) ?_
  refine sx_sub (lv' := [(0, .ref a0), (1, .int v1), (2, .int v2)]) [0, 1, 2] rfl ?_
  unfold fX4_setMarks at h
  refine sx_aload_n (i := 0) (j := 0) dX4_setMarks_0 rfl rfl ?_
  refine sx_iload_n (i := 1) (j := 1) dX4_setMarks_1 rfl rfl ?_
  obtain ⟨z1, ez1, h⟩ := bd_e h
  refine sx_callV (avs := [.int v1]) (rest := []) (st1 := [.int z1]) dX4_setMarks_2 (mX4_has h0 ez1) ciX4_has (Or.inl wd_416) (X4_k h0) rfl rfl rfl rfl (rm_m rfl) rfl (Nat.le_of_ble_eq_true rfl) rfl ?_
  refine sx_if_eq (tgt := 19) dX4_setMarks_5 rfl (fun c2 => ?_) (fun c2 => ?_)
  · have h := if_e c2 h
    refine sx_bipush (v := (-2 : Int32)) dX4_setMarks_19 (by decide) ?_
    obtain rfl := Option.some.inj h
    exact sx_iret dX4_setMarks_21 rfl rfl k3.1 k3.2
  · have h := if_n c2 h
    refine sx_iload_n (i := 2) (j := 2) dX4_setMarks_8 rfl rfl ?_
    refine sx_if_lt (tgt := 19) dX4_setMarks_9 rfl (fun c3 => ?_) (fun c3 => ?_)
    · have h := if_e c3 h
      refine sx_bipush (v := (-2 : Int32)) dX4_setMarks_19 (by decide) ?_
      obtain rfl := Option.some.inj h
      exact sx_iret dX4_setMarks_21 rfl rfl k3.1 k3.2
    · have h := if_n c3 h
      refine sx_iload_n (i := 2) (j := 2) dX4_setMarks_12 rfl rfl ?_
      refine sx_sipush (v := (255 : Int32)) dX4_setMarks_13 (by decide) ?_
      refine sx_icmp_le (tgt := 22) dX4_setMarks_16 rfl (fun c4 => ?_) (fun c4 => ?_)
      · have h := if_e c4 h
        refine sx_aload_n (i := 0) (j := 0) dX4_setMarks_22 rfl rfl ?_
        refine sx_get (k := 9) (v := .ref (a0 + 6)) dX4_setMarks_23 (X4_k h0) cf_4 (Or.inl wd_159) (by decide : 9 < 17) (congrArg Value.ref (X4_r9 h0)) ?_
        refine sx_iload_n (i := 1) (j := 1) dX4_setMarks_26 rfl rfl ?_
        obtain ⟨c5, h⟩ := gd_e h
        refine sx_iald dX4_setMarks_27 (X4_a9 h0) c5 ?_
        refine sx_topi (fun w6 ew6 => ?_)
        have h := lt_e ew6 h
        refine sx_istore_n (i := 3) (lv' := [(0, .ref a0), (1, .int v1), (2, .int v2), (3, .int w6)]) dX4_setMarks_28 rfl (by decide) rfl ?_
        refine sx_aload_n (i := 0) (j := 0) dX4_setMarks_29 rfl rfl ?_
        refine sx_get (k := 9) (v := .ref (a0 + 6)) dX4_setMarks_30 (X4_k h0) cf_4 (Or.inl wd_159) (by decide : 9 < 17) (congrArg Value.ref (X4_r9 h0)) ?_
        refine sx_iload_n (i := 1) (j := 1) dX4_setMarks_33 rfl rfl ?_
        refine sx_iload_n (i := 2) (j := 2) dX4_setMarks_34 rfl rfl ?_
        obtain ⟨c7, h⟩ := gd_e h
        refine sx_iast dX4_setMarks_35 (X4_a9 h0) c7 (fun L8 eL8 => ?_)
        have h := lt_e eL8 h
        refine sx_iload_n (i := 3) (j := 3) dX4_setMarks_36 rfl rfl ?_
        obtain rfl := Option.some.inj h
        exact sx_iret dX4_setMarks_37 rfl rfl k3.1 k3.2
      · have h := if_n c4 h
        refine sx_bipush (v := (-2 : Int32)) dX4_setMarks_19 (by decide) ?_
        obtain rfl := Option.some.inj h
        exact sx_iret dX4_setMarks_21 rfl rfl k3.1 k3.2
set_option maxRecDepth 100000 in
set_option maxHeartbeats 4000000 in
theorem mX4_mayWall {l : Launch} {E : Ev} {L : HL} {a0 : Nat} {v1 : Int32} {v2 : Int32} {z : Int32} (h0 : isX4 E a0) (h : fX4_mayWall a0 v1 v2 L = some z) : Mt l E yX4_mayWall cX4_mayWall 3 (some .boolean) (3) [.ref a0, .int v1, .int v2] L (some (.int z)) L := by
  obtain ⟨r, hr⟩ : ∃ r : Option Value, r = some (.int z) := ⟨_, rfl⟩
  obtain ⟨L', hL'⟩ : ∃ L' : HL, L' = L := ⟨_, rfl⟩
  have k3 : r = some (.int z) ∧ L' = L := ⟨hr, hL'⟩
  refine mt_eq hr hL' ?_
  refine Mt.of (plainFor_of_name (by decide)) (Nat.le_of_ble_eq_true rfl) ?_
  refine sx_sub (lv' := [(0, .ref a0), (1, .int v1), (2, .int v2)]) [0, 1, 2] rfl ?_
  unfold fX4_mayWall at h
  refine sx_aload_n (i := 0) (j := 0) dX4_mayWall_0 rfl rfl ?_
  refine sx_iload_n (i := 1) (j := 1) dX4_mayWall_1 rfl rfl ?_
  obtain ⟨z1, ez1, h⟩ := bd_e h
  refine sx_callV (avs := [.int v1]) (rest := []) (st1 := [.int z1]) dX4_mayWall_2 (mX4_stands h0 ez1) ciX4_stands (Or.inl wd_452) (X4_k h0) rfl rfl rfl rfl (rm_m rfl) rfl (Nat.le_of_ble_eq_true rfl) rfl ?_
  refine sx_if_eq (tgt := 29) dX4_mayWall_5 rfl (fun c2 => ?_) (fun c2 => ?_)
  · have h := if_e c2 h
    refine sx_iconst (v := (0 : Int32)) dX4_mayWall_29 (by decide) ?_
    obtain rfl := Option.some.inj h
    exact sx_iret dX4_mayWall_30 rfl (by decide) k3.1 k3.2
  · have h := if_n c2 h
    refine sx_aload_n (i := 0) (j := 0) dX4_mayWall_8 rfl rfl ?_
    refine sx_iload_n (i := 2) (j := 2) dX4_mayWall_9 rfl rfl ?_
    obtain ⟨z3, ez3, h⟩ := bd_e h
    refine sx_callV (avs := [.int v2]) (rest := []) (st1 := [.int z3]) dX4_mayWall_10 (mX4_stands h0 ez3) ciX4_stands (Or.inl wd_452) (X4_k h0) rfl rfl rfl rfl (rm_m rfl) rfl (Nat.le_of_ble_eq_true rfl) rfl ?_
    refine sx_if_eq (tgt := 29) dX4_mayWall_13 rfl (fun c4 => ?_) (fun c4 => ?_)
    · have h := if_e c4 h
      refine sx_iconst (v := (0 : Int32)) dX4_mayWall_29 (by decide) ?_
      obtain rfl := Option.some.inj h
      exact sx_iret dX4_mayWall_30 rfl (by decide) k3.1 k3.2
    · have h := if_n c4 h
      refine sx_aload_n (i := 0) (j := 0) dX4_mayWall_16 rfl rfl ?_
      refine sx_iload_n (i := 1) (j := 1) dX4_mayWall_17 rfl rfl ?_
      refine sx_iload_n (i := 2) (j := 2) dX4_mayWall_18 rfl rfl ?_
      obtain ⟨z5, ez5, h⟩ := bd_e h
      refine sx_callV (avs := [.int v1, .int v2]) (rest := []) (st1 := [.int z5]) dX4_mayWall_19 (mX4_hasWall h0 ez5) ciX4_hasWall (Or.inl wd_440) (X4_k h0) rfl rfl rfl rfl (rm_m rfl) rfl (Nat.le_of_ble_eq_true rfl) rfl ?_
      refine sx_if_ne (tgt := 29) dX4_mayWall_22 rfl (fun c6 => ?_) (fun c6 => ?_)
      · have h := if_e c6 h
        refine sx_iconst (v := (1 : Int32)) dX4_mayWall_25 (by decide) ?_
        refine sx_goto (tgt := 30) dX4_mayWall_26 rfl ?_
        obtain rfl := Option.some.inj h
        exact sx_iret dX4_mayWall_30 rfl (by decide) k3.1 k3.2
      · have h := if_n c6 h
        refine sx_iconst (v := (0 : Int32)) dX4_mayWall_29 (by decide) ?_
        obtain rfl := Option.some.inj h
        exact sx_iret dX4_mayWall_30 rfl (by decide) k3.1 k3.2
set_option maxRecDepth 100000 in
set_option maxHeartbeats 4000000 in
theorem tX4_dwellers_b4 {l : Launch} {E : Ev} {r : Option Value} {L' L : HL} {a0 : Nat} {v1 : Int32} {v2 : Int32} {v3 : Int32} {z : Tn (Int32 × Int32) (Int32)} (h0 : isX4 E a0) (h : fX4_dwellers_b4 a0 v1 v2 v3 L = some z) (k1 : ∀ s, z = .inl s → Sx l E yX4_dwellers cX4_dwellers 4 (some .int) (1) r L' 4 [(0, .ref a0), (1, .int v1), (2, .int s.1), (3, .int s.2)] [] L) (k2 : ∀ s, z = .inr (.inl s) → Sx l E yX4_dwellers cX4_dwellers 4 (some .int) (1) r L' 31 [(2, .int s.1)] [] L) (k3 : ∀ v, z = .inr (.inr v) → r = some (.int v) ∧ L' = L) : Sx l E yX4_dwellers cX4_dwellers 4 (some .int) (1) r L' 4 [(0, .ref a0), (1, .int v1), (2, .int v2), (3, .int v3)] [] L := by
  unfold fX4_dwellers_b4 at h
  refine sx_iload_n (i := 3) (j := 3) dX4_dwellers_4 rfl rfl ?_
  refine sx_aload_n (i := 0) (j := 0) dX4_dwellers_5 rfl rfl ?_
  refine sx_get (k := 2) (v := .int (L.1 a0 2)) dX4_dwellers_6 (X4_k h0) cf_4 (Or.inl wd_140) (by decide : 2 < 17) rfl ?_
  refine sx_icmp_ge (tgt := 31) dX4_dwellers_9 rfl (fun c1 => ?_) (fun c1 => ?_)
  · have h := if_e c1 h
    obtain rfl := Option.some.inj h
    exact sx_sub [2] rfl (k2 _ rfl)
  · have h := if_n c1 h
    refine sx_aload_n (i := 0) (j := 0) dX4_dwellers_12 rfl rfl ?_
    refine sx_get (k := 12) (v := .ref (a0 + 9)) dX4_dwellers_13 (X4_k h0) cf_4 (Or.inl wd_165) (by decide : 12 < 17) (congrArg Value.ref (X4_r12 h0)) ?_
    refine sx_iload_n (i := 3) (j := 3) dX4_dwellers_16 rfl rfl ?_
    obtain ⟨c2, h⟩ := gd_e h
    refine sx_iald dX4_dwellers_17 (X4_a12 h0) c2 ?_
    refine sx_iload_n (i := 1) (j := 1) dX4_dwellers_18 rfl rfl ?_
    refine sx_icmp_ne (tgt := 25) dX4_dwellers_19 rfl (fun c3 => ?_) (fun c3 => ?_)
    · have h := if_e c3 h
      obtain ⟨w4, ew4⟩ : ∃ w : Int32, w = v2 + (1 : Int32) := ⟨_, rfl⟩
      have h := lt_e ew4 h
      refine sx_iinc (j := 2) (v := w4) (lv' := [(0, .ref a0), (1, .int v1), (2, .int w4), (3, .int v3)]) dX4_dwellers_22 rfl (ii_1 ew4) (by decide) rfl ?_
      obtain ⟨w5, ew5⟩ : ∃ w : Int32, w = v3 + (1 : Int32) := ⟨_, rfl⟩
      have h := lt_e ew5 h
      refine sx_iinc (j := 3) (v := w5) (lv' := [(0, .ref a0), (1, .int v1), (2, .int w4), (3, .int w5)]) dX4_dwellers_25 rfl (ii_1 ew5) (by decide) rfl ?_
      refine sx_goto (tgt := 4) dX4_dwellers_28 rfl ?_
      obtain rfl := Option.some.inj h
      exact sx_sub [0, 1, 2, 3] rfl (k1 _ rfl)
    · have h := if_n c3 h
      obtain ⟨w6, ew6⟩ : ∃ w : Int32, w = v3 + (1 : Int32) := ⟨_, rfl⟩
      have h := lt_e ew6 h
      refine sx_iinc (j := 3) (v := w6) (lv' := [(0, .ref a0), (1, .int v1), (2, .int v2), (3, .int w6)]) dX4_dwellers_25 rfl (ii_1 ew6) (by decide) rfl ?_
      refine sx_goto (tgt := 4) dX4_dwellers_28 rfl ?_
      obtain rfl := Option.some.inj h
      exact sx_sub [0, 1, 2, 3] rfl (k1 _ rfl)
set_option maxRecDepth 100000 in
set_option maxHeartbeats 4000000 in
theorem mX4_dwellers {l : Launch} {E : Ev} {L : HL} {a0 : Nat} {v1 : Int32} {z : Int32} (h0 : isX4 E a0) (h : fX4_dwellers a0 v1 L = some z) : Mt l E yX4_dwellers cX4_dwellers 4 (some .int) (1) [.ref a0, .int v1] L (some (.int z)) L := by
  obtain ⟨r, hr⟩ : ∃ r : Option Value, r = some (.int z) := ⟨_, rfl⟩
  obtain ⟨L', hL'⟩ : ∃ L' : HL, L' = L := ⟨_, rfl⟩
  have k3 : r = some (.int z) ∧ L' = L := ⟨hr, hL'⟩
  refine mt_eq hr hL' ?_
  refine Mt.of (plainFor_of_name (by decide)) (Nat.le_of_ble_eq_true rfl) ?_
  refine sx_sub (lv' := [(0, .ref a0), (1, .int v1)]) [0, 1] rfl ?_
  unfold fX4_dwellers at h
  refine sx_iconst (v := (0 : Int32)) dX4_dwellers_0 (by decide) ?_
  refine sx_istore_n (i := 2) (lv' := [(0, .ref a0), (1, .int v1), (2, .int (0 : Int32))]) dX4_dwellers_1 rfl (by decide) rfl ?_
  refine sx_iconst (v := (0 : Int32)) dX4_dwellers_2 (by decide) ?_
  refine sx_istore_n (i := 3) (lv' := [(0, .ref a0), (1, .int v1), (2, .int (0 : Int32)), (3, .int (0 : Int32))]) dX4_dwellers_3 rfl (by decide) rfl ?_
  obtain ⟨x8, hx, q1, q2⟩ := lx_e h
  refine sx_sub (lv' := [(0, .ref a0), (1, .int v1), (2, .int (0 : Int32)), (3, .int (0 : Int32))]) [0, 1, 2, 3] rfl ?_
  refine lp_go (fun s7 => Sx l E yX4_dwellers cX4_dwellers 4 (some .int) (1) r L' 4 [(0, .ref a0), (1, .int v1), (2, .int s7.1), (3, .int s7.2)] [] L) x8 (fun s7 z2 hz c1 c2 => ?_) FU _ hx
  refine tX4_dwellers_b4 h0 hz (fun s2 e => c1 s2 e) (fun s7 e => ?_) (fun v e => ?_)
  · have h := q1 _ (c2 _ e).symm
    refine sx_iload_n (i := 2) (j := 0) dX4_dwellers_31 rfl rfl ?_
    obtain rfl := Option.some.inj h
    exact sx_iret dX4_dwellers_32 rfl rfl k3.1 k3.2
  · have e2 := Option.some.inj (q2 _ (c2 _ e).symm)
    subst e2
    exact k3
set_option maxRecDepth 100000 in
set_option maxHeartbeats 4000000 in
theorem tX4_dwellerBits_b4 {l : Launch} {E : Ev} {r : Option Value} {L' L : HL} {a0 : Nat} {v1 : Int32} {v2 : Int32} {v3 : Int32} {z : Tn (Int32 × Int32) (Int32)} (h0 : isX4 E a0) (h : fX4_dwellerBits_b4 a0 v1 v2 v3 L = some z) (k1 : ∀ s, z = .inl s → Sx l E yX4_dwellerBits cX4_dwellerBits 4 (some .int) (1) r L' 4 [(0, .ref a0), (1, .int v1), (2, .int s.1), (3, .int s.2)] [] L) (k2 : ∀ s, z = .inr (.inl s) → Sx l E yX4_dwellerBits cX4_dwellerBits 4 (some .int) (1) r L' 34 [(2, .int s.1)] [] L) (k3 : ∀ v, z = .inr (.inr v) → r = some (.int v) ∧ L' = L) : Sx l E yX4_dwellerBits cX4_dwellerBits 4 (some .int) (1) r L' 4 [(0, .ref a0), (1, .int v1), (2, .int v2), (3, .int v3)] [] L := by
  unfold fX4_dwellerBits_b4 at h
  refine sx_iload_n (i := 3) (j := 3) dX4_dwellerBits_4 rfl rfl ?_
  refine sx_aload_n (i := 0) (j := 0) dX4_dwellerBits_5 rfl rfl ?_
  refine sx_get (k := 2) (v := .int (L.1 a0 2)) dX4_dwellerBits_6 (X4_k h0) cf_4 (Or.inl wd_140) (by decide : 2 < 17) rfl ?_
  refine sx_icmp_ge (tgt := 34) dX4_dwellerBits_9 rfl (fun c1 => ?_) (fun c1 => ?_)
  · have h := if_e c1 h
    obtain rfl := Option.some.inj h
    exact sx_sub [2] rfl (k2 _ rfl)
  · have h := if_n c1 h
    refine sx_aload_n (i := 0) (j := 0) dX4_dwellerBits_12 rfl rfl ?_
    refine sx_get (k := 12) (v := .ref (a0 + 9)) dX4_dwellerBits_13 (X4_k h0) cf_4 (Or.inl wd_165) (by decide : 12 < 17) (congrArg Value.ref (X4_r12 h0)) ?_
    refine sx_iload_n (i := 3) (j := 3) dX4_dwellerBits_16 rfl rfl ?_
    obtain ⟨c2, h⟩ := gd_e h
    refine sx_iald dX4_dwellerBits_17 (X4_a12 h0) c2 ?_
    refine sx_iload_n (i := 1) (j := 1) dX4_dwellerBits_18 rfl rfl ?_
    refine sx_icmp_ne (tgt := 28) dX4_dwellerBits_19 rfl (fun c3 => ?_) (fun c3 => ?_)
    · have h := if_e c3 h
      refine sx_iload_n (i := 2) (j := 2) dX4_dwellerBits_22 rfl rfl ?_
      refine sx_iconst (v := (1 : Int32)) dX4_dwellerBits_23 (by decide) ?_
      refine sx_iload_n (i := 3) (j := 3) dX4_dwellerBits_24 rfl rfl ?_
      refine sx_ishl dX4_dwellerBits_25 ?_
      refine sx_ior dX4_dwellerBits_26 ?_
      refine sx_topi (fun w4 ew4 => ?_)
      have h := lt_e ew4 h
      refine sx_istore_n (i := 2) (lv' := [(0, .ref a0), (1, .int v1), (2, .int w4), (3, .int v3)]) dX4_dwellerBits_27 rfl (by decide) rfl ?_
      obtain ⟨w5, ew5⟩ : ∃ w : Int32, w = v3 + (1 : Int32) := ⟨_, rfl⟩
      have h := lt_e ew5 h
      refine sx_iinc (j := 3) (v := w5) (lv' := [(0, .ref a0), (1, .int v1), (2, .int w4), (3, .int w5)]) dX4_dwellerBits_28 rfl (ii_1 ew5) (by decide) rfl ?_
      refine sx_goto (tgt := 4) dX4_dwellerBits_31 rfl ?_
      obtain rfl := Option.some.inj h
      exact sx_sub [0, 1, 2, 3] rfl (k1 _ rfl)
    · have h := if_n c3 h
      obtain ⟨w6, ew6⟩ : ∃ w : Int32, w = v3 + (1 : Int32) := ⟨_, rfl⟩
      have h := lt_e ew6 h
      refine sx_iinc (j := 3) (v := w6) (lv' := [(0, .ref a0), (1, .int v1), (2, .int v2), (3, .int w6)]) dX4_dwellerBits_28 rfl (ii_1 ew6) (by decide) rfl ?_
      refine sx_goto (tgt := 4) dX4_dwellerBits_31 rfl ?_
      obtain rfl := Option.some.inj h
      exact sx_sub [0, 1, 2, 3] rfl (k1 _ rfl)
set_option maxRecDepth 100000 in
set_option maxHeartbeats 4000000 in
theorem mX4_dwellerBits {l : Launch} {E : Ev} {L : HL} {a0 : Nat} {v1 : Int32} {z : Int32} (h0 : isX4 E a0) (h : fX4_dwellerBits a0 v1 L = some z) : Mt l E yX4_dwellerBits cX4_dwellerBits 4 (some .int) (1) [.ref a0, .int v1] L (some (.int z)) L := by
  obtain ⟨r, hr⟩ : ∃ r : Option Value, r = some (.int z) := ⟨_, rfl⟩
  obtain ⟨L', hL'⟩ : ∃ L' : HL, L' = L := ⟨_, rfl⟩
  have k3 : r = some (.int z) ∧ L' = L := ⟨hr, hL'⟩
  refine mt_eq hr hL' ?_
  refine Mt.of (plainFor_of_name (by decide)) (Nat.le_of_ble_eq_true rfl) ?_
  refine sx_sub (lv' := [(0, .ref a0), (1, .int v1)]) [0, 1] rfl ?_
  unfold fX4_dwellerBits at h
  refine sx_iconst (v := (0 : Int32)) dX4_dwellerBits_0 (by decide) ?_
  refine sx_istore_n (i := 2) (lv' := [(0, .ref a0), (1, .int v1), (2, .int (0 : Int32))]) dX4_dwellerBits_1 rfl (by decide) rfl ?_
  refine sx_iconst (v := (0 : Int32)) dX4_dwellerBits_2 (by decide) ?_
  refine sx_istore_n (i := 3) (lv' := [(0, .ref a0), (1, .int v1), (2, .int (0 : Int32)), (3, .int (0 : Int32))]) dX4_dwellerBits_3 rfl (by decide) rfl ?_
  obtain ⟨x8, hx, q1, q2⟩ := lx_e h
  refine sx_sub (lv' := [(0, .ref a0), (1, .int v1), (2, .int (0 : Int32)), (3, .int (0 : Int32))]) [0, 1, 2, 3] rfl ?_
  refine lp_go (fun s7 => Sx l E yX4_dwellerBits cX4_dwellerBits 4 (some .int) (1) r L' 4 [(0, .ref a0), (1, .int v1), (2, .int s7.1), (3, .int s7.2)] [] L) x8 (fun s7 z2 hz c1 c2 => ?_) FU _ hx
  refine tX4_dwellerBits_b4 h0 hz (fun s2 e => c1 s2 e) (fun s7 e => ?_) (fun v e => ?_)
  · have h := q1 _ (c2 _ e).symm
    refine sx_iload_n (i := 2) (j := 0) dX4_dwellerBits_34 rfl rfl ?_
    obtain rfl := Option.some.inj h
    exact sx_iret dX4_dwellerBits_35 rfl rfl k3.1 k3.2
  · have e2 := Option.some.inj (q2 _ (c2 _ e).symm)
    subst e2
    exact k3
set_option maxRecDepth 100000 in
set_option maxHeartbeats 4000000 in
theorem mX4_isOverfull {l : Launch} {E : Ev} {L : HL} {a0 : Nat} {v1 : Int32} {z : Int32} (h0 : isX4 E a0) (h : fX4_isOverfull a0 v1 L = some z) : Mt l E yX4_isOverfull cX4_isOverfull 2 (some .boolean) (2) [.ref a0, .int v1] L (some (.int z)) L := by
  obtain ⟨r, hr⟩ : ∃ r : Option Value, r = some (.int z) := ⟨_, rfl⟩
  obtain ⟨L', hL'⟩ : ∃ L' : HL, L' = L := ⟨_, rfl⟩
  have k3 : r = some (.int z) ∧ L' = L := ⟨hr, hL'⟩
  refine mt_eq hr hL' ?_
  refine Mt.of (plainFor_of_name (by decide)) (Nat.le_of_ble_eq_true rfl) ?_
  refine sx_sub (lv' := [(0, .ref a0), (1, .int v1)]) [0, 1] rfl ?_
  unfold fX4_isOverfull at h
  refine sx_aload_n (i := 0) (j := 0) dX4_isOverfull_0 rfl rfl ?_
  refine sx_iload_n (i := 1) (j := 1) dX4_isOverfull_1 rfl rfl ?_
  obtain ⟨z1, ez1, h⟩ := bd_e h
  refine sx_callV (avs := [.int v1]) (rest := []) (st1 := [.int z1]) dX4_isOverfull_2 (mX4_stands h0 ez1) ciX4_stands (Or.inl wd_452) (X4_k h0) rfl rfl rfl rfl (rm_m rfl) rfl (Nat.le_of_ble_eq_true rfl) rfl ?_
  refine sx_if_eq (tgt := 26) dX4_isOverfull_5 rfl (fun c2 => ?_) (fun c2 => ?_)
  · have h := if_e c2 h
    refine sx_iconst (v := (0 : Int32)) dX4_isOverfull_26 (by decide) ?_
    obtain rfl := Option.some.inj h
    exact sx_iret dX4_isOverfull_27 rfl (by decide) k3.1 k3.2
  · have h := if_n c2 h
    refine sx_aload_n (i := 0) (j := 0) dX4_isOverfull_8 rfl rfl ?_
    refine sx_iload_n (i := 1) (j := 1) dX4_isOverfull_9 rfl rfl ?_
    obtain ⟨z3, ez3, h⟩ := bd_e h
    refine sx_callV (avs := [.int v1]) (rest := []) (st1 := [.int z3]) dX4_isOverfull_10 (mX4_dwellers h0 ez3) ciX4_dwellers (Or.inl wd_667) (X4_k h0) rfl rfl rfl rfl (rm_m rfl) rfl (Nat.le_of_ble_eq_true rfl) rfl ?_
    refine sx_aload_n (i := 0) (j := 0) dX4_isOverfull_13 rfl rfl ?_
    refine sx_get (k := 4) (v := .ref (a0 + 1)) dX4_isOverfull_14 (X4_k h0) cf_4 (Or.inl wd_146) (by decide : 4 < 17) (congrArg Value.ref (X4_r4 h0)) ?_
    refine sx_iload_n (i := 1) (j := 1) dX4_isOverfull_17 rfl rfl ?_
    obtain ⟨c4, h⟩ := gd_e h
    refine sx_iald dX4_isOverfull_18 (X4_a4 h0) c4 ?_
    refine sx_icmp_le (tgt := 26) dX4_isOverfull_19 rfl (fun c5 => ?_) (fun c5 => ?_)
    · have h := if_e c5 h
      refine sx_iconst (v := (0 : Int32)) dX4_isOverfull_26 (by decide) ?_
      obtain rfl := Option.some.inj h
      exact sx_iret dX4_isOverfull_27 rfl (by decide) k3.1 k3.2
    · have h := if_n c5 h
      refine sx_iconst (v := (1 : Int32)) dX4_isOverfull_22 (by decide) ?_
      refine sx_goto (tgt := 27) dX4_isOverfull_23 rfl ?_
      obtain rfl := Option.some.inj h
      exact sx_iret dX4_isOverfull_27 rfl (by decide) k3.1 k3.2
set_option maxRecDepth 100000 in
set_option maxHeartbeats 4000000 in
theorem tX4_firstOverfull_b2 {l : Launch} {E : Ev} {r : Option Value} {L' L : HL} {a0 : Nat} {v1 : Int32} {z : Tn (Int32) (Int32)} (h0 : isX4 E a0) (h : fX4_firstOverfull_b2 a0 v1 L = some z) (k1 : ∀ s, z = .inl s → Sx l E yX4_firstOverfull cX4_firstOverfull 2 (some .int) (3) r L' 2 [(0, .ref a0), (1, .int s)] [] L) (k2 : ∀ s, z = .inr (.inl s) → Sx l E yX4_firstOverfull cX4_firstOverfull 2 (some .int) (3) r L' 26 [] [] L) (k3 : ∀ v, z = .inr (.inr v) → r = some (.int v) ∧ L' = L) : Sx l E yX4_firstOverfull cX4_firstOverfull 2 (some .int) (3) r L' 2 [(0, .ref a0), (1, .int v1)] [] L := by
  unfold fX4_firstOverfull_b2 at h
  refine sx_iload_n (i := 1) (j := 1) dX4_firstOverfull_2 rfl rfl ?_
  refine sx_aload_n (i := 0) (j := 0) dX4_firstOverfull_3 rfl rfl ?_
  refine sx_get (k := 0) (v := .int (L.1 a0 0)) dX4_firstOverfull_4 (X4_k h0) cf_4 (Or.inl wd_133) (by decide : 0 < 17) rfl ?_
  refine sx_icmp_ge (tgt := 26) dX4_firstOverfull_7 rfl (fun c1 => ?_) (fun c1 => ?_)
  · have h := if_e c1 h
    obtain rfl := Option.some.inj h
    exact sx_sub [] rfl (k2 _ rfl)
  · have h := if_n c1 h
    refine sx_aload_n (i := 0) (j := 0) dX4_firstOverfull_10 rfl rfl ?_
    refine sx_iload_n (i := 1) (j := 1) dX4_firstOverfull_11 rfl rfl ?_
    obtain ⟨z2, ez2, h⟩ := bd_e h
    refine sx_callV (avs := [.int v1]) (rest := []) (st1 := [.int z2]) dX4_firstOverfull_12 (mX4_isOverfull h0 ez2) ciX4_isOverfull (Or.inl wd_663) (X4_k h0) rfl rfl rfl rfl (rm_m rfl) rfl (Nat.le_of_ble_eq_true rfl) rfl ?_
    refine sx_if_eq (tgt := 20) dX4_firstOverfull_15 rfl (fun c3 => ?_) (fun c3 => ?_)
    · have h := if_e c3 h
      obtain ⟨w4, ew4⟩ : ∃ w : Int32, w = v1 + (1 : Int32) := ⟨_, rfl⟩
      have h := lt_e ew4 h
      refine sx_iinc (j := 1) (v := w4) (lv' := [(0, .ref a0), (1, .int w4)]) dX4_firstOverfull_20 rfl (ii_1 ew4) (by decide) rfl ?_
      refine sx_goto (tgt := 2) dX4_firstOverfull_23 rfl ?_
      obtain rfl := Option.some.inj h
      exact sx_sub [0, 1] rfl (k1 _ rfl)
    · have h := if_n c3 h
      refine sx_iload_n (i := 1) (j := 1) dX4_firstOverfull_18 rfl rfl ?_
      obtain rfl := Option.some.inj h
      exact sx_iret dX4_firstOverfull_19 rfl rfl (k3 _ rfl).1 (k3 _ rfl).2
set_option maxRecDepth 100000 in
set_option maxHeartbeats 4000000 in
theorem mX4_firstOverfull {l : Launch} {E : Ev} {L : HL} {a0 : Nat} {z : Int32} (h0 : isX4 E a0) (h : fX4_firstOverfull a0 L = some z) : Mt l E yX4_firstOverfull cX4_firstOverfull 2 (some .int) (3) [.ref a0] L (some (.int z)) L := by
  obtain ⟨r, hr⟩ : ∃ r : Option Value, r = some (.int z) := ⟨_, rfl⟩
  obtain ⟨L', hL'⟩ : ∃ L' : HL, L' = L := ⟨_, rfl⟩
  have k3 : r = some (.int z) ∧ L' = L := ⟨hr, hL'⟩
  refine mt_eq hr hL' ?_
  refine Mt.of (plainFor_of_name (by decide)) (Nat.le_of_ble_eq_true rfl) ?_
  refine sx_sub (lv' := [(0, .ref a0)]) [0] rfl ?_
  unfold fX4_firstOverfull at h
  refine sx_iconst (v := (0 : Int32)) dX4_firstOverfull_0 (by decide) ?_
  refine sx_istore_n (i := 1) (lv' := [(0, .ref a0), (1, .int (0 : Int32))]) dX4_firstOverfull_1 rfl (by decide) rfl ?_
  obtain ⟨x6, hx, q1, q2⟩ := lx_e h
  refine sx_sub (lv' := [(0, .ref a0), (1, .int (0 : Int32))]) [0, 1] rfl ?_
  refine lp_go (fun s5 => Sx l E yX4_firstOverfull cX4_firstOverfull 2 (some .int) (3) r L' 2 [(0, .ref a0), (1, .int s5)] [] L) x6 (fun s5 z2 hz c1 c2 => ?_) FU _ hx
  refine tX4_firstOverfull_b2 h0 hz (fun s2 e => c1 s2 e) (fun s5 e => ?_) (fun v e => ?_)
  · have h := q1 _ (c2 _ e).symm
    refine sx_iconst (v := (-1 : Int32)) dX4_firstOverfull_26 (by decide) ?_
    obtain rfl := Option.some.inj h
    exact sx_iret dX4_firstOverfull_27 rfl rfl k3.1 k3.2
  · have e2 := Option.some.inj (q2 _ (c2 _ e).symm)
    subst e2
    exact k3
set_option maxRecDepth 100000 in
set_option maxHeartbeats 4000000 in
theorem tX4_nthStanding_b4 {l : Launch} {E : Ev} {r : Option Value} {L' L : HL} {a0 : Nat} {v1 : Int32} {v2 : Int32} {v3 : Int32} {z : Tn (Int32 × Int32) (Int32)} (h0 : isX4 E a0) (h : fX4_nthStanding_b4 a0 v1 v2 v3 L = some z) (k1 : ∀ s, z = .inl s → Sx l E yX4_nthStanding cX4_nthStanding 4 (some .int) (2) r L' 4 [(0, .ref a0), (1, .int v1), (2, .int s.1), (3, .int s.2)] [] L) (k2 : ∀ s, z = .inr (.inl s) → Sx l E yX4_nthStanding cX4_nthStanding 4 (some .int) (2) r L' 36 [] [] L) (k3 : ∀ v, z = .inr (.inr v) → r = some (.int v) ∧ L' = L) : Sx l E yX4_nthStanding cX4_nthStanding 4 (some .int) (2) r L' 4 [(0, .ref a0), (1, .int v1), (2, .int v2), (3, .int v3)] [] L := by
  unfold fX4_nthStanding_b4 at h
  refine sx_iload_n (i := 3) (j := 3) dX4_nthStanding_4 rfl rfl ?_
  refine sx_aload_n (i := 0) (j := 0) dX4_nthStanding_5 rfl rfl ?_
  refine sx_get (k := 0) (v := .int (L.1 a0 0)) dX4_nthStanding_6 (X4_k h0) cf_4 (Or.inl wd_133) (by decide : 0 < 17) rfl ?_
  refine sx_icmp_ge (tgt := 36) dX4_nthStanding_9 rfl (fun c1 => ?_) (fun c1 => ?_)
  · have h := if_e c1 h
    obtain rfl := Option.some.inj h
    exact sx_sub [] rfl (k2 _ rfl)
  · have h := if_n c1 h
    refine sx_aload_n (i := 0) (j := 0) dX4_nthStanding_12 rfl rfl ?_
    refine sx_iload_n (i := 3) (j := 3) dX4_nthStanding_13 rfl rfl ?_
    obtain ⟨z2, ez2, h⟩ := bd_e h
    refine sx_callV (avs := [.int v3]) (rest := []) (st1 := [.int z2]) dX4_nthStanding_14 (mX4_stands h0 ez2) ciX4_stands (Or.inl wd_452) (X4_k h0) rfl rfl rfl rfl (rm_m rfl) rfl (Nat.le_of_ble_eq_true rfl) rfl ?_
    refine sx_if_eq (tgt := 30) dX4_nthStanding_17 rfl (fun c3 => ?_) (fun c3 => ?_)
    · have h := if_e c3 h
      obtain ⟨w4, ew4⟩ : ∃ w : Int32, w = v3 + (1 : Int32) := ⟨_, rfl⟩
      have h := lt_e ew4 h
      refine sx_iinc (j := 3) (v := w4) (lv' := [(0, .ref a0), (1, .int v1), (2, .int v2), (3, .int w4)]) dX4_nthStanding_30 rfl (ii_1 ew4) (by decide) rfl ?_
      refine sx_goto (tgt := 4) dX4_nthStanding_33 rfl ?_
      obtain rfl := Option.some.inj h
      exact sx_sub [0, 1, 2, 3] rfl (k1 _ rfl)
    · have h := if_n c3 h
      refine sx_iload_n (i := 2) (j := 2) dX4_nthStanding_20 rfl rfl ?_
      refine sx_iload_n (i := 1) (j := 1) dX4_nthStanding_21 rfl rfl ?_
      refine sx_icmp_ne (tgt := 27) dX4_nthStanding_22 rfl (fun c5 => ?_) (fun c5 => ?_)
      · have h := if_e c5 h
        refine sx_iload_n (i := 3) (j := 3) dX4_nthStanding_25 rfl rfl ?_
        obtain rfl := Option.some.inj h
        exact sx_iret dX4_nthStanding_26 rfl rfl (k3 _ rfl).1 (k3 _ rfl).2
      · have h := if_n c5 h
        obtain ⟨w6, ew6⟩ : ∃ w : Int32, w = v2 + (1 : Int32) := ⟨_, rfl⟩
        have h := lt_e ew6 h
        refine sx_iinc (j := 2) (v := w6) (lv' := [(0, .ref a0), (1, .int v1), (2, .int w6), (3, .int v3)]) dX4_nthStanding_27 rfl (ii_1 ew6) (by decide) rfl ?_
        obtain ⟨w7, ew7⟩ : ∃ w : Int32, w = v3 + (1 : Int32) := ⟨_, rfl⟩
        have h := lt_e ew7 h
        refine sx_iinc (j := 3) (v := w7) (lv' := [(0, .ref a0), (1, .int v1), (2, .int w6), (3, .int w7)]) dX4_nthStanding_30 rfl (ii_1 ew7) (by decide) rfl ?_
        refine sx_goto (tgt := 4) dX4_nthStanding_33 rfl ?_
        obtain rfl := Option.some.inj h
        exact sx_sub [0, 1, 2, 3] rfl (k1 _ rfl)
set_option maxRecDepth 100000 in
set_option maxHeartbeats 4000000 in
theorem mX4_nthStanding {l : Launch} {E : Ev} {L : HL} {a0 : Nat} {v1 : Int32} {z : Int32} (h0 : isX4 E a0) (h : fX4_nthStanding a0 v1 L = some z) : Mt l E yX4_nthStanding cX4_nthStanding 4 (some .int) (2) [.ref a0, .int v1] L (some (.int z)) L := by
  obtain ⟨r, hr⟩ : ∃ r : Option Value, r = some (.int z) := ⟨_, rfl⟩
  obtain ⟨L', hL'⟩ : ∃ L' : HL, L' = L := ⟨_, rfl⟩
  have k3 : r = some (.int z) ∧ L' = L := ⟨hr, hL'⟩
  refine mt_eq hr hL' ?_
  refine Mt.of (plainFor_of_name (by decide)) (Nat.le_of_ble_eq_true rfl) ?_
  refine sx_sub (lv' := [(0, .ref a0), (1, .int v1)]) [0, 1] rfl ?_
  unfold fX4_nthStanding at h
  refine sx_iconst (v := (0 : Int32)) dX4_nthStanding_0 (by decide) ?_
  refine sx_istore_n (i := 2) (lv' := [(0, .ref a0), (1, .int v1), (2, .int (0 : Int32))]) dX4_nthStanding_1 rfl (by decide) rfl ?_
  refine sx_iconst (v := (0 : Int32)) dX4_nthStanding_2 (by decide) ?_
  refine sx_istore_n (i := 3) (lv' := [(0, .ref a0), (1, .int v1), (2, .int (0 : Int32)), (3, .int (0 : Int32))]) dX4_nthStanding_3 rfl (by decide) rfl ?_
  obtain ⟨x9, hx, q1, q2⟩ := lx_e h
  refine sx_sub (lv' := [(0, .ref a0), (1, .int v1), (2, .int (0 : Int32)), (3, .int (0 : Int32))]) [0, 1, 2, 3] rfl ?_
  refine lp_go (fun s8 => Sx l E yX4_nthStanding cX4_nthStanding 4 (some .int) (2) r L' 4 [(0, .ref a0), (1, .int v1), (2, .int s8.1), (3, .int s8.2)] [] L) x9 (fun s8 z2 hz c1 c2 => ?_) FU _ hx
  refine tX4_nthStanding_b4 h0 hz (fun s2 e => c1 s2 e) (fun s8 e => ?_) (fun v e => ?_)
  · have h := q1 _ (c2 _ e).symm
    refine sx_iconst (v := (-1 : Int32)) dX4_nthStanding_36 (by decide) ?_
    obtain rfl := Option.some.inj h
    exact sx_iret dX4_nthStanding_37 rfl rfl k3.1 k3.2
  · have e2 := Option.some.inj (q2 _ (c2 _ e).symm)
    subst e2
    exact k3
set_option maxRecDepth 100000 in
set_option maxHeartbeats 4000000 in
theorem tX4_wallsInAll_b4 {l : Launch} {E : Ev} {r : Option Value} {L' L : HL} {a0 : Nat} {v1 : Int32} {v2 : Int32} {z : Tn (Int32 × Int32) (Int32)} (h0 : isX4 E a0) (h : fX4_wallsInAll_b4 a0 v1 v2 L = some z) (k1 : ∀ s, z = .inl s → Sx l E yX4_wallsInAll cX4_wallsInAll 3 (some .int) (2) r L' 4 [(0, .ref a0), (1, .int s.1), (2, .int s.2)] [] L) (k2 : ∀ s, z = .inr (.inl s) → Sx l E yX4_wallsInAll cX4_wallsInAll 3 (some .int) (2) r L' 30 [(1, .int s.1)] [] L) (k3 : ∀ v, z = .inr (.inr v) → r = some (.int v) ∧ L' = L) : Sx l E yX4_wallsInAll cX4_wallsInAll 3 (some .int) (2) r L' 4 [(0, .ref a0), (1, .int v1), (2, .int v2)] [] L := by
  unfold fX4_wallsInAll_b4 at h
  refine sx_iload_n (i := 2) (j := 2) dX4_wallsInAll_4 rfl rfl ?_
  refine sx_aload_n (i := 0) (j := 0) dX4_wallsInAll_5 rfl rfl ?_
  refine sx_get (k := 0) (v := .int (L.1 a0 0)) dX4_wallsInAll_6 (X4_k h0) cf_4 (Or.inl wd_133) (by decide : 0 < 17) rfl ?_
  refine sx_icmp_ge (tgt := 30) dX4_wallsInAll_9 rfl (fun c1 => ?_) (fun c1 => ?_)
  · have h := if_e c1 h
    obtain rfl := Option.some.inj h
    exact sx_sub [1] rfl (k2 _ rfl)
  · have h := if_n c1 h
    refine sx_iload_n (i := 1) (j := 1) dX4_wallsInAll_12 rfl rfl ?_
    refine sx_aload_n (i := 0) (j := 0) dX4_wallsInAll_13 rfl rfl ?_
    refine sx_get (k := 10) (v := .ref (a0 + 7)) dX4_wallsInAll_14 (X4_k h0) cf_4 (Or.inl wd_161) (by decide : 10 < 17) (congrArg Value.ref (X4_r10 h0)) ?_
    refine sx_iload_n (i := 2) (j := 2) dX4_wallsInAll_17 rfl rfl ?_
    obtain ⟨c2, h⟩ := gd_e h
    refine sx_iald dX4_wallsInAll_18 (X4_a10 h0) c2 ?_
    obtain ⟨z3, ez3, h⟩ := bd_e h
    refine sx_callS (avs := [.int (L.1 (a0 + 7) v2.toNatClampNeg)]) (rest := [.int v1]) (st1 := [.int z3, .int v1]) dX4_wallsInAll_19 (mJ6_bitCount_0f7a4 ez3) ctJ6_bitCount_0f7a4 (Or.inl wd_849) rfl rfl (rm_m rfl) rfl (Nat.le_of_ble_eq_true rfl) rfl ?_
    refine sx_iadd dX4_wallsInAll_22 ?_
    refine sx_topi (fun w4 ew4 => ?_)
    have h := lt_e ew4 h
    refine sx_istore_n (i := 1) (lv' := [(0, .ref a0), (1, .int w4), (2, .int v2)]) dX4_wallsInAll_23 rfl (by decide) rfl ?_
    obtain ⟨w5, ew5⟩ : ∃ w : Int32, w = v2 + (1 : Int32) := ⟨_, rfl⟩
    have h := lt_e ew5 h
    refine sx_iinc (j := 2) (v := w5) (lv' := [(0, .ref a0), (1, .int w4), (2, .int w5)]) dX4_wallsInAll_24 rfl (ii_1 ew5) (by decide) rfl ?_
    refine sx_goto (tgt := 4) dX4_wallsInAll_27 rfl ?_
    obtain rfl := Option.some.inj h
    exact sx_sub [0, 1, 2] rfl (k1 _ rfl)
set_option maxRecDepth 100000 in
set_option maxHeartbeats 4000000 in
theorem mX4_wallsInAll {l : Launch} {E : Ev} {L : HL} {a0 : Nat} {z : Int32} (h0 : isX4 E a0) (h : fX4_wallsInAll a0 L = some z) : Mt l E yX4_wallsInAll cX4_wallsInAll 3 (some .int) (2) [.ref a0] L (some (.int z)) L := by
  obtain ⟨r, hr⟩ : ∃ r : Option Value, r = some (.int z) := ⟨_, rfl⟩
  obtain ⟨L', hL'⟩ : ∃ L' : HL, L' = L := ⟨_, rfl⟩
  have k3 : r = some (.int z) ∧ L' = L := ⟨hr, hL'⟩
  refine mt_eq hr hL' ?_
  refine Mt.of (plainFor_of_name (by decide)) (Nat.le_of_ble_eq_true rfl) ?_
  refine sx_sub (lv' := [(0, .ref a0)]) [0] rfl ?_
  unfold fX4_wallsInAll at h
  refine sx_iconst (v := (0 : Int32)) dX4_wallsInAll_0 (by decide) ?_
  refine sx_istore_n (i := 1) (lv' := [(0, .ref a0), (1, .int (0 : Int32))]) dX4_wallsInAll_1 rfl (by decide) rfl ?_
  refine sx_iconst (v := (0 : Int32)) dX4_wallsInAll_2 (by decide) ?_
  refine sx_istore_n (i := 2) (lv' := [(0, .ref a0), (1, .int (0 : Int32)), (2, .int (0 : Int32))]) dX4_wallsInAll_3 rfl (by decide) rfl ?_
  obtain ⟨x7, hx, q1, q2⟩ := lx_e h
  refine sx_sub (lv' := [(0, .ref a0), (1, .int (0 : Int32)), (2, .int (0 : Int32))]) [0, 1, 2] rfl ?_
  refine lp_go (fun s6 => Sx l E yX4_wallsInAll cX4_wallsInAll 3 (some .int) (2) r L' 4 [(0, .ref a0), (1, .int s6.1), (2, .int s6.2)] [] L) x7 (fun s6 z2 hz c1 c2 => ?_) FU _ hx
  refine tX4_wallsInAll_b4 h0 hz (fun s2 e => c1 s2 e) (fun s6 e => ?_) (fun v e => ?_)
  · have h := q1 _ (c2 _ e).symm
    refine sx_iload_n (i := 1) (j := 0) dX4_wallsInAll_30 rfl rfl ?_
    refine sx_iconst (v := (2 : Int32)) dX4_wallsInAll_31 (by decide) ?_
    refine sx_idiv dX4_wallsInAll_32 (by decide) ?_
    obtain rfl := Option.some.inj h
    exact sx_iret dX4_wallsInAll_33 rfl rfl k3.1 k3.2
  · have e2 := Option.some.inj (q2 _ (c2 _ e).symm)
    subst e2
    exact k3
set_option maxRecDepth 100000 in
set_option maxHeartbeats 4000000 in
theorem tX4_feudsInAll_b4 {l : Launch} {E : Ev} {r : Option Value} {L' L : HL} {a0 : Nat} {v1 : Int32} {v2 : Int32} {z : Tn (Int32 × Int32) (Int32)} (h0 : isX4 E a0) (h : fX4_feudsInAll_b4 a0 v1 v2 L = some z) (k1 : ∀ s, z = .inl s → Sx l E yX4_feudsInAll cX4_feudsInAll 3 (some .int) (2) r L' 4 [(0, .ref a0), (1, .int s.1), (2, .int s.2)] [] L) (k2 : ∀ s, z = .inr (.inl s) → Sx l E yX4_feudsInAll cX4_feudsInAll 3 (some .int) (2) r L' 27 [(1, .int s.1)] [] L) (k3 : ∀ v, z = .inr (.inr v) → r = some (.int v) ∧ L' = L) : Sx l E yX4_feudsInAll cX4_feudsInAll 3 (some .int) (2) r L' 4 [(0, .ref a0), (1, .int v1), (2, .int v2)] [] L := by
  unfold fX4_feudsInAll_b4 at h
  refine sx_iload_n (i := 2) (j := 2) dX4_feudsInAll_4 rfl rfl ?_
  refine sx_iconst (v := (4 : Int32)) dX4_feudsInAll_5 (by decide) ?_
  refine sx_icmp_ge (tgt := 27) dX4_feudsInAll_6 rfl (fun c1 => ?_) (fun c1 => ?_)
  · have h := if_e c1 h
    obtain rfl := Option.some.inj h
    exact sx_sub [1] rfl (k2 _ rfl)
  · have h := if_n c1 h
    refine sx_iload_n (i := 1) (j := 1) dX4_feudsInAll_9 rfl rfl ?_
    refine sx_aload_n (i := 0) (j := 0) dX4_feudsInAll_10 rfl rfl ?_
    refine sx_get (k := 13) (v := .ref (a0 + 10)) dX4_feudsInAll_11 (X4_k h0) cf_4 (Or.inl wd_170) (by decide : 13 < 17) (congrArg Value.ref (X4_r13 h0)) ?_
    refine sx_iload_n (i := 2) (j := 2) dX4_feudsInAll_14 rfl rfl ?_
    obtain ⟨c2, h⟩ := gd_e h
    refine sx_iald dX4_feudsInAll_15 (X4_a13 h0) c2 ?_
    obtain ⟨z3, ez3, h⟩ := bd_e h
    refine sx_callS (avs := [.int (L.1 (a0 + 10) v2.toNatClampNeg)]) (rest := [.int v1]) (st1 := [.int z3, .int v1]) dX4_feudsInAll_16 (mJ6_bitCount_0f7a4 ez3) ctJ6_bitCount_0f7a4 (Or.inl wd_849) rfl rfl (rm_m rfl) rfl (Nat.le_of_ble_eq_true rfl) rfl ?_
    refine sx_iadd dX4_feudsInAll_19 ?_
    refine sx_topi (fun w4 ew4 => ?_)
    have h := lt_e ew4 h
    refine sx_istore_n (i := 1) (lv' := [(0, .ref a0), (1, .int w4), (2, .int v2)]) dX4_feudsInAll_20 rfl (by decide) rfl ?_
    obtain ⟨w5, ew5⟩ : ∃ w : Int32, w = v2 + (1 : Int32) := ⟨_, rfl⟩
    have h := lt_e ew5 h
    refine sx_iinc (j := 2) (v := w5) (lv' := [(0, .ref a0), (1, .int w4), (2, .int w5)]) dX4_feudsInAll_21 rfl (ii_1 ew5) (by decide) rfl ?_
    refine sx_goto (tgt := 4) dX4_feudsInAll_24 rfl ?_
    obtain rfl := Option.some.inj h
    exact sx_sub [0, 1, 2] rfl (k1 _ rfl)
set_option maxRecDepth 100000 in
set_option maxHeartbeats 4000000 in
theorem mX4_feudsInAll {l : Launch} {E : Ev} {L : HL} {a0 : Nat} {z : Int32} (h0 : isX4 E a0) (h : fX4_feudsInAll a0 L = some z) : Mt l E yX4_feudsInAll cX4_feudsInAll 3 (some .int) (2) [.ref a0] L (some (.int z)) L := by
  obtain ⟨r, hr⟩ : ∃ r : Option Value, r = some (.int z) := ⟨_, rfl⟩
  obtain ⟨L', hL'⟩ : ∃ L' : HL, L' = L := ⟨_, rfl⟩
  have k3 : r = some (.int z) ∧ L' = L := ⟨hr, hL'⟩
  refine mt_eq hr hL' ?_
  refine Mt.of (plainFor_of_name (by decide)) (Nat.le_of_ble_eq_true rfl) ?_
  refine sx_sub (lv' := [(0, .ref a0)]) [0] rfl ?_
  unfold fX4_feudsInAll at h
  refine sx_iconst (v := (0 : Int32)) dX4_feudsInAll_0 (by decide) ?_
  refine sx_istore_n (i := 1) (lv' := [(0, .ref a0), (1, .int (0 : Int32))]) dX4_feudsInAll_1 rfl (by decide) rfl ?_
  refine sx_iconst (v := (0 : Int32)) dX4_feudsInAll_2 (by decide) ?_
  refine sx_istore_n (i := 2) (lv' := [(0, .ref a0), (1, .int (0 : Int32)), (2, .int (0 : Int32))]) dX4_feudsInAll_3 rfl (by decide) rfl ?_
  obtain ⟨x7, hx, q1, q2⟩ := lx_e h
  refine sx_sub (lv' := [(0, .ref a0), (1, .int (0 : Int32)), (2, .int (0 : Int32))]) [0, 1, 2] rfl ?_
  refine lp_go (fun s6 => Sx l E yX4_feudsInAll cX4_feudsInAll 3 (some .int) (2) r L' 4 [(0, .ref a0), (1, .int s6.1), (2, .int s6.2)] [] L) x7 (fun s6 z2 hz c1 c2 => ?_) FU _ hx
  refine tX4_feudsInAll_b4 h0 hz (fun s2 e => c1 s2 e) (fun s6 e => ?_) (fun v e => ?_)
  · have h := q1 _ (c2 _ e).symm
    refine sx_iload_n (i := 1) (j := 0) dX4_feudsInAll_27 rfl rfl ?_
    refine sx_iconst (v := (2 : Int32)) dX4_feudsInAll_28 (by decide) ?_
    refine sx_idiv dX4_feudsInAll_29 (by decide) ?_
    obtain rfl := Option.some.inj h
    exact sx_iret dX4_feudsInAll_30 rfl rfl k3.1 k3.2
  · have e2 := Option.some.inj (q2 _ (c2 _ e).symm)
    subst e2
    exact k3
set_option maxRecDepth 100000 in
set_option maxHeartbeats 4000000 in
theorem mX4_degreeOf {l : Launch} {E : Ev} {L : HL} {a0 : Nat} {v1 : Int32} {v2 : Int32} {z : Int32 × HL} (h0 : isX4 E a0) (h : fX4_degreeOf a0 v1 v2 L = some z) : Mt l E yX4_degreeOf cX4_degreeOf 3 (some .int) (3) [.ref a0, .int v1, .int v2] L (some (.int z.1)) (z.2) := by
  obtain ⟨r, hr⟩ : ∃ r : Option Value, r = some (.int z.1) := ⟨_, rfl⟩
  obtain ⟨L', hL'⟩ : ∃ L' : HL, L' = z.2 := ⟨_, rfl⟩
  have k3 : r = some (.int z.1) ∧ L' = z.2 := ⟨hr, hL'⟩
  refine mt_eq hr hL' ?_
  refine Mt.of (plainFor_of_name (by decide)) (Nat.le_of_ble_eq_true rfl) ?_
  refine sx_sub (lv' := [(0, .ref a0), (1, .int v1), (2, .int v2)]) [0, 1, 2] rfl ?_
  unfold fX4_degreeOf at h
  refine sx_aload_n (i := 0) (j := 0) dX4_degreeOf_0 rfl rfl ?_
  refine sx_iload_n (i := 1) (j := 1) dX4_degreeOf_1 rfl rfl ?_
  obtain ⟨z1, ez1, h⟩ := bd_e h
  refine sx_callV (avs := [.int v1]) (rest := []) (st1 := [.int z1]) dX4_degreeOf_2 (mX4_has h0 ez1) ciX4_has (Or.inl wd_416) (X4_k h0) rfl rfl rfl rfl (rm_m rfl) rfl (Nat.le_of_ble_eq_true rfl) rfl ?_
  refine sx_if_eq (tgt := 16) dX4_degreeOf_5 rfl (fun c2 => ?_) (fun c2 => ?_)
  · have h := if_e c2 h
    refine sx_iconst (v := (-1 : Int32)) dX4_degreeOf_16 (by decide) ?_
    obtain rfl := Option.some.inj h
    exact sx_iret dX4_degreeOf_17 rfl rfl k3.1 k3.2
  · have h := if_n c2 h
    refine sx_aload_n (i := 0) (j := 0) dX4_degreeOf_8 rfl rfl ?_
    refine sx_iload_n (i := 2) (j := 2) dX4_degreeOf_9 rfl rfl ?_
    obtain ⟨z3, ez3, h⟩ := bd_e h
    refine sx_callV (avs := [.int v2]) (rest := []) (st1 := [.int z3]) dX4_degreeOf_10 (mX4_has h0 ez3) ciX4_has (Or.inl wd_416) (X4_k h0) rfl rfl rfl rfl (rm_m rfl) rfl (Nat.le_of_ble_eq_true rfl) rfl ?_
    refine sx_if_ne (tgt := 18) dX4_degreeOf_13 rfl (fun c4 => ?_) (fun c4 => ?_)
    · have h := if_e c4 h
      refine sx_iconst (v := (-1 : Int32)) dX4_degreeOf_16 (by decide) ?_
      obtain rfl := Option.some.inj h
      exact sx_iret dX4_degreeOf_17 rfl rfl k3.1 k3.2
    · have h := if_n c4 h
      refine sx_aload_n (i := 0) (j := 0) dX4_degreeOf_18 rfl rfl ?_
      refine sx_iload_n (i := 1) (j := 1) dX4_degreeOf_19 rfl rfl ?_
      obtain ⟨z5, ez5, h⟩ := bd_e h
      refine sx_callV (avs := [.int v1]) (rest := []) (st1 := []) dX4_degreeOf_20 (mX4_measureSteps h0 ez5) ciX4_measureSteps (Or.inl wd_635) (X4_k h0) rfl rfl rfl rfl (rm_m rfl) rfl (Nat.le_of_ble_eq_true rfl) rfl ?_
      refine sx_aload_n (i := 0) (j := 0) dX4_degreeOf_23 rfl rfl ?_
      refine sx_get (k := 14) (v := .ref (a0 + 11)) dX4_degreeOf_24 (X4_k h0) cf_4 (Or.inl wd_171) (by decide : 14 < 17) (congrArg Value.ref (X4_r14 h0)) ?_
      refine sx_iload_n (i := 2) (j := 2) dX4_degreeOf_27 rfl rfl ?_
      obtain ⟨c6, h⟩ := gd_e h
      refine sx_iald dX4_degreeOf_28 (X4_a14 h0) c6 ?_
      obtain rfl := Option.some.inj h
      exact sx_iret dX4_degreeOf_29 rfl rfl k3.1 k3.2
set_option maxRecDepth 100000 in
set_option maxHeartbeats 4000000 in
theorem mX4_rankOf {l : Launch} {E : Ev} {L : HL} {a0 : Nat} {v1 : Int32} {v2 : Int32} {z : Int32 × HL} (h0 : isX4 E a0) (h : fX4_rankOf a0 v1 v2 L = some z) : Mt l E yX4_rankOf cX4_rankOf 3 (some .int) (3) [.ref a0, .int v1, .int v2] L (some (.int z.1)) (z.2) := by
  obtain ⟨r, hr⟩ : ∃ r : Option Value, r = some (.int z.1) := ⟨_, rfl⟩
  obtain ⟨L', hL'⟩ : ∃ L' : HL, L' = z.2 := ⟨_, rfl⟩
  have k3 : r = some (.int z.1) ∧ L' = z.2 := ⟨hr, hL'⟩
  refine mt_eq hr hL' ?_
  refine Mt.of (plainFor_of_name (by decide)) (Nat.le_of_ble_eq_true rfl) ?_
  refine sx_sub (lv' := [(0, .ref a0), (1, .int v1), (2, .int v2)]) [0, 1, 2] rfl ?_
  unfold fX4_rankOf at h
  refine sx_aload_n (i := 0) (j := 0) dX4_rankOf_0 rfl rfl ?_
  refine sx_iload_n (i := 1) (j := 1) dX4_rankOf_1 rfl rfl ?_
  obtain ⟨z1, ez1, h⟩ := bd_e h
  refine sx_callV (avs := [.int v1]) (rest := []) (st1 := [.int z1]) dX4_rankOf_2 (mX4_stands h0 ez1) ciX4_stands (Or.inl wd_452) (X4_k h0) rfl rfl rfl rfl (rm_m rfl) rfl (Nat.le_of_ble_eq_true rfl) rfl ?_
  refine sx_if_eq (tgt := 16) dX4_rankOf_5 rfl (fun c2 => ?_) (fun c2 => ?_)
  · have h := if_e c2 h
    refine sx_sipush (v := (1000 : Int32)) dX4_rankOf_16 (by decide) ?_
    obtain rfl := Option.some.inj h
    exact sx_iret dX4_rankOf_19 rfl rfl k3.1 k3.2
  · have h := if_n c2 h
    refine sx_aload_n (i := 0) (j := 0) dX4_rankOf_8 rfl rfl ?_
    refine sx_iload_n (i := 2) (j := 2) dX4_rankOf_9 rfl rfl ?_
    obtain ⟨z3, ez3, h⟩ := bd_e h
    refine sx_callV (avs := [.int v2]) (rest := []) (st1 := [.int z3]) dX4_rankOf_10 (mX4_stands h0 ez3) ciX4_stands (Or.inl wd_452) (X4_k h0) rfl rfl rfl rfl (rm_m rfl) rfl (Nat.le_of_ble_eq_true rfl) rfl ?_
    refine sx_if_ne (tgt := 20) dX4_rankOf_13 rfl (fun c4 => ?_) (fun c4 => ?_)
    · have h := if_e c4 h
      refine sx_sipush (v := (1000 : Int32)) dX4_rankOf_16 (by decide) ?_
      obtain rfl := Option.some.inj h
      exact sx_iret dX4_rankOf_19 rfl rfl k3.1 k3.2
    · have h := if_n c4 h
      refine sx_aload_n (i := 0) (j := 0) dX4_rankOf_20 rfl rfl ?_
      refine sx_iload_n (i := 1) (j := 1) dX4_rankOf_21 rfl rfl ?_
      obtain ⟨z5, ez5, h⟩ := bd_e h
      refine sx_callV (avs := [.int v1]) (rest := []) (st1 := []) dX4_rankOf_22 (mX4_measureSteps h0 ez5) ciX4_measureSteps (Or.inl wd_635) (X4_k h0) rfl rfl rfl rfl (rm_m rfl) rfl (Nat.le_of_ble_eq_true rfl) rfl ?_
      refine sx_aload_n (i := 0) (j := 0) dX4_rankOf_25 rfl rfl ?_
      obtain ⟨z6, ez6, h⟩ := bd_e h
      refine sx_callV (avs := []) (rest := []) (st1 := []) dX4_rankOf_26 (mX4_measureDwellers h0 ez6) ciX4_measureDwellers (Or.inl wd_643) (X4_k h0) rfl rfl rfl rfl (rm_m rfl) rfl (Nat.le_of_ble_eq_true rfl) rfl ?_
      refine sx_aload_n (i := 0) (j := 0) dX4_rankOf_29 rfl rfl ?_
      refine sx_aload_n (i := 0) (j := 0) dX4_rankOf_30 rfl rfl ?_
      refine sx_get (k := 8) (v := .ref (a0 + 5)) dX4_rankOf_31 (X4_k h0) cf_4 (Or.inl wd_156) (by decide : 8 < 17) (congrArg Value.ref (X4_r8 h0)) ?_
      refine sx_iload_n (i := 1) (j := 1) dX4_rankOf_34 rfl rfl ?_
      obtain ⟨c7, h⟩ := gd_e h
      refine sx_iald dX4_rankOf_35 (X4_a8 h0) c7 ?_
      refine sx_iload_n (i := 1) (j := 1) dX4_rankOf_36 rfl rfl ?_
      refine sx_iload_n (i := 2) (j := 2) dX4_rankOf_37 rfl rfl ?_
      obtain ⟨z8, ez8, h⟩ := bd_e h
      refine sx_callV (avs := [.int (z6.1 (a0 + 5) v1.toNatClampNeg), .int v1, .int v2]) (rest := []) (st1 := [.int z8]) dX4_rankOf_38 (mX4_measuredRank h0 ez8) ciX4_measuredRank (Or.inl wd_647) (X4_k h0) rfl rfl rfl rfl (rm_m rfl) rfl (Nat.le_of_ble_eq_true rfl) rfl ?_
      obtain rfl := Option.some.inj h
      exact sx_iret dX4_rankOf_41 rfl rfl k3.1 k3.2
set_option maxRecDepth 100000 in
set_option maxHeartbeats 4000000 in
theorem mX4_heirOf {l : Launch} {E : Ev} {L : HL} {a0 : Nat} {v1 : Int32} {z : Int32 × HL} (h0 : isX4 E a0) (h : fX4_heirOf a0 v1 L = some z) : Mt l E yX4_heirOf cX4_heirOf 2 (some .int) (4) [.ref a0, .int v1] L (some (.int z.1)) (z.2) := by
  obtain ⟨r, hr⟩ : ∃ r : Option Value, r = some (.int z.1) := ⟨_, rfl⟩
  obtain ⟨L', hL'⟩ : ∃ L' : HL, L' = z.2 := ⟨_, rfl⟩
  have k3 : r = some (.int z.1) ∧ L' = z.2 := ⟨hr, hL'⟩
  refine mt_eq hr hL' ?_
  refine Mt.of (plainFor_of_name (by decide)) (Nat.le_of_ble_eq_true rfl) ?_
  refine sx_sub (lv' := [(0, .ref a0), (1, .int v1)]) [0, 1] rfl ?_
  unfold fX4_heirOf at h
  refine sx_aload_n (i := 0) (j := 0) dX4_heirOf_0 rfl rfl ?_
  refine sx_iload_n (i := 1) (j := 1) dX4_heirOf_1 rfl rfl ?_
  obtain ⟨z1, ez1, h⟩ := bd_e h
  refine sx_callV (avs := [.int v1]) (rest := []) (st1 := [.int z1]) dX4_heirOf_2 (mX4_has h0 ez1) ciX4_has (Or.inl wd_416) (X4_k h0) rfl rfl rfl rfl (rm_m rfl) rfl (Nat.le_of_ble_eq_true rfl) rfl ?_
  refine sx_if_eq (tgt := 23) dX4_heirOf_5 rfl (fun c2 => ?_) (fun c2 => ?_)
  · have h := if_e c2 h
    refine sx_iconst (v := (-1 : Int32)) dX4_heirOf_23 (by decide) ?_
    obtain rfl := Option.some.inj h
    exact sx_iret dX4_heirOf_24 rfl rfl k3.1 k3.2
  · have h := if_n c2 h
    refine sx_aload_n (i := 0) (j := 0) dX4_heirOf_8 rfl rfl ?_
    refine sx_aload_n (i := 0) (j := 0) dX4_heirOf_9 rfl rfl ?_
    refine sx_get (k := 8) (v := .ref (a0 + 5)) dX4_heirOf_10 (X4_k h0) cf_4 (Or.inl wd_156) (by decide : 8 < 17) (congrArg Value.ref (X4_r8 h0)) ?_
    refine sx_iload_n (i := 1) (j := 1) dX4_heirOf_13 rfl rfl ?_
    obtain ⟨c3, h⟩ := gd_e h
    refine sx_iald dX4_heirOf_14 (X4_a8 h0) c3 ?_
    refine sx_iload_n (i := 1) (j := 1) dX4_heirOf_15 rfl rfl ?_
    refine sx_iconst (v := (0 : Int32)) dX4_heirOf_16 (by decide) ?_
    obtain ⟨z4, ez4, h⟩ := bd_e h
    refine sx_callV (avs := [.int (L.1 (a0 + 5) v1.toNatClampNeg), .int v1, .int (0 : Int32)]) (rest := []) (st1 := [.int z4.1]) dX4_heirOf_17 (mX4_heirBy h0 ez4) ciX4_heirBy (Or.inl wd_631) (X4_k h0) rfl rfl rfl rfl (rm_m rfl) rfl (Nat.le_of_ble_eq_true rfl) rfl ?_
    refine sx_goto (tgt := 24) dX4_heirOf_20 rfl ?_
    obtain rfl := Option.some.inj h
    exact sx_iret dX4_heirOf_24 rfl rfl k3.1 k3.2
set_option maxRecDepth 100000 in
set_option maxHeartbeats 4000000 in
theorem tX4_nearestKin_j86 {l : Launch} {E : Ev} {r : Option Value} {L' L : HL} {a0 : Nat} {v1 : Int32} {v2 : Int32} {v3 : Int32} {v4 : Int32} {s0 : Int32} {z : Tn (Int32 × Int32 × Int32) (Int32 × HL)} (h0 : isX4 E a0) (h : fX4_nearestKin_j86 a0 v1 v2 v3 v4 s0 L = some z) (k1 : ∀ s, z = .inl s → Sx l E yX4_nearestKin cX4_nearestKin 5 (some .int) (3) r L' 22 [(0, .ref a0), (1, .int v1), (2, .int s.1), (3, .int s.2.1), (4, .int s.2.2)] [] L) (k2 : ∀ s, z = .inr (.inl s) → Sx l E yX4_nearestKin cX4_nearestKin 5 (some .int) (3) r L' 101 [(3, .int s.2.1)] [] L) (k3 : ∀ v, z = .inr (.inr v) → r = some (.int v.1) ∧ L' = v.2) : Sx l E yX4_nearestKin cX4_nearestKin 5 (some .int) (3) r L' 86 [(0, .ref a0), (1, .int v1), (4, .int v4)] [.int s0] L := by
  unfold fX4_nearestKin_j86 at h
  refine sx_istore_n (i := 3) (lv' := [(0, .ref a0), (1, .int v1), (3, .int s0), (4, .int v4)]) dX4_nearestKin_86 rfl (by decide) rfl ?_
  refine sx_aload_n (i := 0) (j := 0) dX4_nearestKin_87 rfl rfl ?_
  refine sx_get (k := 14) (v := .ref (a0 + 11)) dX4_nearestKin_88 (X4_k h0) cf_4 (Or.inl wd_171) (by decide : 14 < 17) (congrArg Value.ref (X4_r14 h0)) ?_
  refine sx_iload (j := 3) dX4_nearestKin_91 rfl ?_
  obtain ⟨c18, h⟩ := gd_e h
  refine sx_iald dX4_nearestKin_93 (X4_a14 h0) c18 ?_
  refine sx_topi (fun w19 ew19 => ?_)
  have h := lt_e ew19 h
  refine sx_istore_n (i := 2) (lv' := [(0, .ref a0), (1, .int v1), (2, .int w19), (3, .int s0), (4, .int v4)]) dX4_nearestKin_94 rfl (by decide) rfl ?_
  obtain ⟨w20, ew20⟩ : ∃ w : Int32, w = v4 + (1 : Int32) := ⟨_, rfl⟩
  have h := lt_e ew20 h
  refine sx_iinc (j := 4) (v := w20) (lv' := [(0, .ref a0), (1, .int v1), (2, .int w19), (3, .int s0), (4, .int w20)]) dX4_nearestKin_95 rfl (ii_1 ew20) (by decide) rfl ?_
  refine sx_goto (tgt := 22) dX4_nearestKin_98 rfl ?_
  obtain rfl := Option.some.inj h
  exact sx_sub [0, 1, 2, 3, 4] rfl (k1 _ rfl)
set_option maxRecDepth 100000 in
set_option maxHeartbeats 4000000 in
theorem tX4_nearestKin_b22 {l : Launch} {E : Ev} {r : Option Value} {L' L : HL} {a0 : Nat} {v1 : Int32} {v2 : Int32} {v3 : Int32} {v4 : Int32} {z : Tn (Int32 × Int32 × Int32) (Int32 × HL)} (h0 : isX4 E a0) (h : fX4_nearestKin_b22 a0 v1 v2 v3 v4 L = some z) (k1 : ∀ s, z = .inl s → Sx l E yX4_nearestKin cX4_nearestKin 5 (some .int) (3) r L' 22 [(0, .ref a0), (1, .int v1), (2, .int s.1), (3, .int s.2.1), (4, .int s.2.2)] [] L) (k2 : ∀ s, z = .inr (.inl s) → Sx l E yX4_nearestKin cX4_nearestKin 5 (some .int) (3) r L' 101 [(3, .int s.2.1)] [] L) (k3 : ∀ v, z = .inr (.inr v) → r = some (.int v.1) ∧ L' = v.2) : Sx l E yX4_nearestKin cX4_nearestKin 5 (some .int) (3) r L' 22 [(0, .ref a0), (1, .int v1), (2, .int v2), (3, .int v3), (4, .int v4)] [] L := by
  unfold fX4_nearestKin_b22 at h
  refine sx_iload (j := 4) dX4_nearestKin_22 rfl ?_
  refine sx_aload_n (i := 0) (j := 0) dX4_nearestKin_24 rfl rfl ?_
  refine sx_get (k := 0) (v := .int (L.1 a0 0)) dX4_nearestKin_25 (X4_k h0) cf_4 (Or.inl wd_133) (by decide : 0 < 17) rfl ?_
  refine sx_icmp_ge (tgt := 101) dX4_nearestKin_28 rfl (fun c4 => ?_) (fun c4 => ?_)
  · have h := if_e c4 h
    obtain rfl := Option.some.inj h
    exact sx_sub [3] rfl (k2 _ rfl)
  · have h := if_n c4 h
    refine sx_iload (j := 4) dX4_nearestKin_31 rfl ?_
    refine sx_iload_n (i := 1) (j := 1) dX4_nearestKin_33 rfl rfl ?_
    refine sx_icmp_eq (tgt := 95) dX4_nearestKin_34 rfl (fun c5 => ?_) (fun c5 => ?_)
    · have h := if_e c5 h
      obtain ⟨w6, ew6⟩ : ∃ w : Int32, w = v4 + (1 : Int32) := ⟨_, rfl⟩
      have h := lt_e ew6 h
      refine sx_iinc (j := 4) (v := w6) (lv' := [(0, .ref a0), (1, .int v1), (2, .int v2), (3, .int v3), (4, .int w6)]) dX4_nearestKin_95 rfl (ii_1 ew6) (by decide) rfl ?_
      refine sx_goto (tgt := 22) dX4_nearestKin_98 rfl ?_
      obtain rfl := Option.some.inj h
      exact sx_sub [0, 1, 2, 3, 4] rfl (k1 _ rfl)
    · have h := if_n c5 h
      refine sx_aload_n (i := 0) (j := 0) dX4_nearestKin_37 rfl rfl ?_
      refine sx_iload (j := 4) dX4_nearestKin_38 rfl ?_
      obtain ⟨z7, ez7, h⟩ := bd_e h
      refine sx_callV (avs := [.int v4]) (rest := []) (st1 := [.int z7]) dX4_nearestKin_40 (mX4_stands h0 ez7) ciX4_stands (Or.inl wd_452) (X4_k h0) rfl rfl rfl rfl (rm_m rfl) rfl (Nat.le_of_ble_eq_true rfl) rfl ?_
      refine sx_if_eq (tgt := 95) dX4_nearestKin_43 rfl (fun c8 => ?_) (fun c8 => ?_)
      · have h := if_e c8 h
        obtain ⟨w9, ew9⟩ : ∃ w : Int32, w = v4 + (1 : Int32) := ⟨_, rfl⟩
        have h := lt_e ew9 h
        refine sx_iinc (j := 4) (v := w9) (lv' := [(0, .ref a0), (1, .int v1), (2, .int v2), (3, .int v3), (4, .int w9)]) dX4_nearestKin_95 rfl (ii_1 ew9) (by decide) rfl ?_
        refine sx_goto (tgt := 22) dX4_nearestKin_98 rfl ?_
        obtain rfl := Option.some.inj h
        exact sx_sub [0, 1, 2, 3, 4] rfl (k1 _ rfl)
      · have h := if_n c8 h
        refine sx_aload_n (i := 0) (j := 0) dX4_nearestKin_46 rfl rfl ?_
        refine sx_get (k := 14) (v := .ref (a0 + 11)) dX4_nearestKin_47 (X4_k h0) cf_4 (Or.inl wd_171) (by decide : 14 < 17) (congrArg Value.ref (X4_r14 h0)) ?_
        refine sx_iload (j := 4) dX4_nearestKin_50 rfl ?_
        obtain ⟨c10, h⟩ := gd_e h
        refine sx_iald dX4_nearestKin_52 (X4_a14 h0) c10 ?_
        refine sx_iconst (v := (-1 : Int32)) dX4_nearestKin_53 (by decide) ?_
        refine sx_icmp_eq (tgt := 95) dX4_nearestKin_54 rfl (fun c11 => ?_) (fun c11 => ?_)
        · have h := if_e c11 h
          obtain ⟨w12, ew12⟩ : ∃ w : Int32, w = v4 + (1 : Int32) := ⟨_, rfl⟩
          have h := lt_e ew12 h
          refine sx_iinc (j := 4) (v := w12) (lv' := [(0, .ref a0), (1, .int v1), (2, .int v2), (3, .int v3), (4, .int w12)]) dX4_nearestKin_95 rfl (ii_1 ew12) (by decide) rfl ?_
          refine sx_goto (tgt := 22) dX4_nearestKin_98 rfl ?_
          obtain rfl := Option.some.inj h
          exact sx_sub [0, 1, 2, 3, 4] rfl (k1 _ rfl)
        · have h := if_n c11 h
          refine sx_aload_n (i := 0) (j := 0) dX4_nearestKin_57 rfl rfl ?_
          refine sx_get (k := 14) (v := .ref (a0 + 11)) dX4_nearestKin_58 (X4_k h0) cf_4 (Or.inl wd_171) (by decide : 14 < 17) (congrArg Value.ref (X4_r14 h0)) ?_
          refine sx_iload (j := 4) dX4_nearestKin_61 rfl ?_
          obtain ⟨c13, h⟩ := gd_e h
          refine sx_iald dX4_nearestKin_63 (X4_a14 h0) c13 ?_
          refine sx_iload_n (i := 2) (j := 2) dX4_nearestKin_64 rfl rfl ?_
          refine sx_icmp_gt (tgt := 95) dX4_nearestKin_65 rfl (fun c14 => ?_) (fun c14 => ?_)
          · have h := if_e c14 h
            obtain ⟨w15, ew15⟩ : ∃ w : Int32, w = v4 + (1 : Int32) := ⟨_, rfl⟩
            have h := lt_e ew15 h
            refine sx_iinc (j := 4) (v := w15) (lv' := [(0, .ref a0), (1, .int v1), (2, .int v2), (3, .int v3), (4, .int w15)]) dX4_nearestKin_95 rfl (ii_1 ew15) (by decide) rfl ?_
            refine sx_goto (tgt := 22) dX4_nearestKin_98 rfl ?_
            obtain rfl := Option.some.inj h
            exact sx_sub [0, 1, 2, 3, 4] rfl (k1 _ rfl)
          · have h := if_n c14 h
            refine sx_aload_n (i := 0) (j := 0) dX4_nearestKin_68 rfl rfl ?_
            refine sx_get (k := 14) (v := .ref (a0 + 11)) dX4_nearestKin_69 (X4_k h0) cf_4 (Or.inl wd_171) (by decide : 14 < 17) (congrArg Value.ref (X4_r14 h0)) ?_
            refine sx_iload (j := 4) dX4_nearestKin_72 rfl ?_
            obtain ⟨c16, h⟩ := gd_e h
            refine sx_iald dX4_nearestKin_74 (X4_a14 h0) c16 ?_
            refine sx_iload_n (i := 2) (j := 2) dX4_nearestKin_75 rfl rfl ?_
            refine sx_icmp_ge (tgt := 83) dX4_nearestKin_76 rfl (fun c17 => ?_) (fun c17 => ?_)
            · have h := if_e c17 h
              refine sx_iload_n (i := 3) (j := 3) dX4_nearestKin_83 rfl rfl ?_
              refine sx_iconst (v := (1 : Int32)) dX4_nearestKin_84 (by decide) ?_
              refine sx_iadd dX4_nearestKin_85 ?_
              exact sx_sub [0, 1, 4] rfl (tX4_nearestKin_j86 h0 h k1 k2 k3)
            · have h := if_n c17 h
              refine sx_iconst (v := (1 : Int32)) dX4_nearestKin_79 (by decide) ?_
              refine sx_goto (tgt := 86) dX4_nearestKin_80 rfl ?_
              exact sx_sub [0, 1, 4] rfl (tX4_nearestKin_j86 h0 h k1 k2 k3)
set_option maxRecDepth 100000 in
set_option maxHeartbeats 4000000 in
theorem mX4_nearestKin {l : Launch} {E : Ev} {L : HL} {a0 : Nat} {v1 : Int32} {z : Int32 × HL} (h0 : isX4 E a0) (h : fX4_nearestKin a0 v1 L = some z) : Mt l E yX4_nearestKin cX4_nearestKin 5 (some .int) (3) [.ref a0, .int v1] L (some (.int z.1)) (z.2) := by
  obtain ⟨r, hr⟩ : ∃ r : Option Value, r = some (.int z.1) := ⟨_, rfl⟩
  obtain ⟨L', hL'⟩ : ∃ L' : HL, L' = z.2 := ⟨_, rfl⟩
  have k3 : r = some (.int z.1) ∧ L' = z.2 := ⟨hr, hL'⟩
  refine mt_eq hr hL' ?_
  refine Mt.of (plainFor_of_name (by decide)) (Nat.le_of_ble_eq_true rfl) ?_
  refine sx_sub (lv' := [(0, .ref a0), (1, .int v1)]) [0, 1] rfl ?_
  unfold fX4_nearestKin at h
  refine sx_aload_n (i := 0) (j := 0) dX4_nearestKin_0 rfl rfl ?_
  refine sx_iload_n (i := 1) (j := 1) dX4_nearestKin_1 rfl rfl ?_
  obtain ⟨z1, ez1, h⟩ := bd_e h
  refine sx_callV (avs := [.int v1]) (rest := []) (st1 := [.int z1]) dX4_nearestKin_2 (mX4_has h0 ez1) ciX4_has (Or.inl wd_416) (X4_k h0) rfl rfl rfl rfl (rm_m rfl) rfl (Nat.le_of_ble_eq_true rfl) rfl ?_
  refine sx_if_ne (tgt := 10) dX4_nearestKin_5 rfl (fun c2 => ?_) (fun c2 => ?_)
  · have h := if_e c2 h
    refine sx_iconst (v := (0 : Int32)) dX4_nearestKin_8 (by decide) ?_
    obtain rfl := Option.some.inj h
    exact sx_iret dX4_nearestKin_9 rfl rfl k3.1 k3.2
  · have h := if_n c2 h
    refine sx_aload_n (i := 0) (j := 0) dX4_nearestKin_10 rfl rfl ?_
    refine sx_iload_n (i := 1) (j := 1) dX4_nearestKin_11 rfl rfl ?_
    obtain ⟨z3, ez3, h⟩ := bd_e h
    refine sx_callV (avs := [.int v1]) (rest := []) (st1 := []) dX4_nearestKin_12 (mX4_measureSteps h0 ez3) ciX4_measureSteps (Or.inl wd_635) (X4_k h0) rfl rfl rfl rfl (rm_m rfl) rfl (Nat.le_of_ble_eq_true rfl) rfl ?_
    refine sx_iconst (v := (5 : Int32)) dX4_nearestKin_15 (by decide) ?_
    refine sx_istore_n (i := 2) (lv' := [(0, .ref a0), (1, .int v1), (2, .int (5 : Int32))]) dX4_nearestKin_16 rfl (by decide) rfl ?_
    refine sx_iconst (v := (0 : Int32)) dX4_nearestKin_17 (by decide) ?_
    refine sx_istore_n (i := 3) (lv' := [(0, .ref a0), (1, .int v1), (2, .int (5 : Int32)), (3, .int (0 : Int32))]) dX4_nearestKin_18 rfl (by decide) rfl ?_
    refine sx_iconst (v := (0 : Int32)) dX4_nearestKin_19 (by decide) ?_
    refine sx_istore (lv' := [(0, .ref a0), (1, .int v1), (2, .int (5 : Int32)), (3, .int (0 : Int32)), (4, .int (0 : Int32))]) dX4_nearestKin_20 (by decide) rfl ?_
    obtain ⟨x22, hx, q1, q2⟩ := lx_e h
    refine sx_sub (lv' := [(0, .ref a0), (1, .int v1), (2, .int (5 : Int32)), (3, .int (0 : Int32)), (4, .int (0 : Int32))]) [0, 1, 2, 3, 4] rfl ?_
    refine lp_go (fun s21 => Sx l E yX4_nearestKin cX4_nearestKin 5 (some .int) (3) r L' 22 [(0, .ref a0), (1, .int v1), (2, .int s21.1), (3, .int s21.2.1), (4, .int s21.2.2)] [] z3) x22 (fun s21 z2 hz c1 c2 => ?_) FU _ hx
    refine tX4_nearestKin_b22 h0 hz (fun s2 e => c1 s2 e) (fun s21 e => ?_) (fun v e => ?_)
    · have h := q1 _ (c2 _ e).symm
      refine sx_iload_n (i := 3) (j := 0) dX4_nearestKin_101 rfl rfl ?_
      obtain rfl := Option.some.inj h
      exact sx_iret dX4_nearestKin_102 rfl rfl k3.1 k3.2
    · have e2 := Option.some.inj (q2 _ (c2 _ e).symm)
      subst e2
      exact k3
set_option maxRecDepth 100000 in
set_option maxHeartbeats 4000000 in
theorem tX4_begetters_b5 {l : Launch} {E : Ev} {r : Option Value} {L' L : HL} {a0 : Nat} {v1 : Int32} {v2 : Int32} {v3 : Int32} {v4 : Int32} {z : Tn (Int32 × Int32) (Int32)} (h0 : isX4 E a0) (h : fX4_begetters_b5 a0 v1 v2 v3 v4 L = some z) (k1 : ∀ s, z = .inl s → Sx l E yX4_begetters cX4_begetters 5 (some .int) (2) r L' 5 [(0, .ref a0), (1, .int v1), (2, .int v2), (3, .int s.1), (4, .int s.2)] [] L) (k2 : ∀ s, z = .inr (.inl s) → Sx l E yX4_begetters cX4_begetters 5 (some .int) (2) r L' 53 [(3, .int s.1)] [] L) (k3 : ∀ v, z = .inr (.inr v) → r = some (.int v) ∧ L' = L) : Sx l E yX4_begetters cX4_begetters 5 (some .int) (2) r L' 5 [(0, .ref a0), (1, .int v1), (2, .int v2), (3, .int v3), (4, .int v4)] [] L := by
  unfold fX4_begetters_b5 at h
  refine sx_iload (j := 4) dX4_begetters_5 rfl ?_
  refine sx_iload_n (i := 1) (j := 1) dX4_begetters_7 rfl rfl ?_
  refine sx_icmp_ge (tgt := 53) dX4_begetters_8 rfl (fun c1 => ?_) (fun c1 => ?_)
  · have h := if_e c1 h
    obtain rfl := Option.some.inj h
    exact sx_sub [3] rfl (k2 _ rfl)
  · have h := if_n c1 h
    refine sx_aload_n (i := 0) (j := 0) dX4_begetters_11 rfl rfl ?_
    refine sx_iload_n (i := 1) (j := 1) dX4_begetters_12 rfl rfl ?_
    obtain ⟨z2, ez2, h⟩ := bd_e h
    refine sx_callV (avs := [.int v1]) (rest := []) (st1 := [.int z2]) dX4_begetters_13 (mX4_has h0 ez2) ciX4_has (Or.inl wd_416) (X4_k h0) rfl rfl rfl rfl (rm_m rfl) rfl (Nat.le_of_ble_eq_true rfl) rfl ?_
    refine sx_if_eq (tgt := 53) dX4_begetters_16 rfl (fun c3 => ?_) (fun c3 => ?_)
    · have h := if_e c3 h
      obtain rfl := Option.some.inj h
      exact sx_sub [3] rfl (k2 _ rfl)
    · have h := if_n c3 h
      refine sx_aload_n (i := 0) (j := 0) dX4_begetters_19 rfl rfl ?_
      refine sx_get (k := 9) (v := .ref (a0 + 6)) dX4_begetters_20 (X4_k h0) cf_4 (Or.inl wd_159) (by decide : 9 < 17) (congrArg Value.ref (X4_r9 h0)) ?_
      refine sx_iload (j := 4) dX4_begetters_23 rfl ?_
      obtain ⟨c4, h⟩ := gd_e h
      refine sx_iald dX4_begetters_25 (X4_a9 h0) c4 ?_
      refine sx_aload_n (i := 0) (j := 0) dX4_begetters_26 rfl rfl ?_
      refine sx_get (k := 9) (v := .ref (a0 + 6)) dX4_begetters_27 (X4_k h0) cf_4 (Or.inl wd_159) (by decide : 9 < 17) (congrArg Value.ref (X4_r9 h0)) ?_
      refine sx_iload_n (i := 1) (j := 1) dX4_begetters_30 rfl rfl ?_
      obtain ⟨c5, h⟩ := gd_e h
      refine sx_iald dX4_begetters_31 (X4_a9 h0) c5 ?_
      refine sx_ixor dX4_begetters_32 ?_
      obtain ⟨z6, ez6, h⟩ := bd_e h
      refine sx_callS (avs := [.int ((L.1 (a0 + 6) v4.toNatClampNeg) ^^^ (L.1 (a0 + 6) v1.toNatClampNeg))]) (rest := []) (st1 := [.int z6]) dX4_begetters_33 (mJ6_bitCount_0f7a4 ez6) ctJ6_bitCount_0f7a4 (Or.inl wd_849) rfl rfl (rm_m rfl) rfl (Nat.le_of_ble_eq_true rfl) rfl ?_
      refine sx_iload_n (i := 2) (j := 2) dX4_begetters_36 rfl rfl ?_
      refine sx_icmp_gt (tgt := 47) dX4_begetters_37 rfl (fun c7 => ?_) (fun c7 => ?_)
      · have h := if_e c7 h
        obtain ⟨w8, ew8⟩ : ∃ w : Int32, w = v4 + (1 : Int32) := ⟨_, rfl⟩
        have h := lt_e ew8 h
        refine sx_iinc (j := 4) (v := w8) (lv' := [(0, .ref a0), (1, .int v1), (2, .int v2), (3, .int v3), (4, .int w8)]) dX4_begetters_47 rfl (ii_1 ew8) (by decide) rfl ?_
        refine sx_goto (tgt := 5) dX4_begetters_50 rfl ?_
        obtain rfl := Option.some.inj h
        exact sx_sub [0, 1, 2, 3, 4] rfl (k1 _ rfl)
      · have h := if_n c7 h
        refine sx_iload_n (i := 3) (j := 3) dX4_begetters_40 rfl rfl ?_
        refine sx_iconst (v := (1 : Int32)) dX4_begetters_41 (by decide) ?_
        refine sx_iload (j := 4) dX4_begetters_42 rfl ?_
        refine sx_ishl dX4_begetters_44 ?_
        refine sx_ior dX4_begetters_45 ?_
        refine sx_topi (fun w9 ew9 => ?_)
        have h := lt_e ew9 h
        refine sx_istore_n (i := 3) (lv' := [(0, .ref a0), (1, .int v1), (2, .int v2), (3, .int w9), (4, .int v4)]) dX4_begetters_46 rfl (by decide) rfl ?_
        obtain ⟨w10, ew10⟩ : ∃ w : Int32, w = v4 + (1 : Int32) := ⟨_, rfl⟩
        have h := lt_e ew10 h
        refine sx_iinc (j := 4) (v := w10) (lv' := [(0, .ref a0), (1, .int v1), (2, .int v2), (3, .int w9), (4, .int w10)]) dX4_begetters_47 rfl (ii_1 ew10) (by decide) rfl ?_
        refine sx_goto (tgt := 5) dX4_begetters_50 rfl ?_
        obtain rfl := Option.some.inj h
        exact sx_sub [0, 1, 2, 3, 4] rfl (k1 _ rfl)
set_option maxRecDepth 100000 in
set_option maxHeartbeats 4000000 in
theorem mX4_begetters {l : Launch} {E : Ev} {L : HL} {a0 : Nat} {v1 : Int32} {v2 : Int32} {z : Int32} (h0 : isX4 E a0) (h : fX4_begetters a0 v1 v2 L = some z) : Mt l E yX4_begetters cX4_begetters 5 (some .int) (2) [.ref a0, .int v1, .int v2] L (some (.int z)) L := by
  obtain ⟨r, hr⟩ : ∃ r : Option Value, r = some (.int z) := ⟨_, rfl⟩
  obtain ⟨L', hL'⟩ : ∃ L' : HL, L' = L := ⟨_, rfl⟩
  have k3 : r = some (.int z) ∧ L' = L := ⟨hr, hL'⟩
  refine mt_eq hr hL' ?_
  refine Mt.of (plainFor_of_name (by decide)) (Nat.le_of_ble_eq_true rfl) ?_
  refine sx_sub (lv' := [(0, .ref a0), (1, .int v1), (2, .int v2)]) [0, 1, 2] rfl ?_
  unfold fX4_begetters at h
  refine sx_iconst (v := (0 : Int32)) dX4_begetters_0 (by decide) ?_
  refine sx_istore_n (i := 3) (lv' := [(0, .ref a0), (1, .int v1), (2, .int v2), (3, .int (0 : Int32))]) dX4_begetters_1 rfl (by decide) rfl ?_
  refine sx_iconst (v := (0 : Int32)) dX4_begetters_2 (by decide) ?_
  refine sx_istore (lv' := [(0, .ref a0), (1, .int v1), (2, .int v2), (3, .int (0 : Int32)), (4, .int (0 : Int32))]) dX4_begetters_3 (by decide) rfl ?_
  obtain ⟨x12, hx, q1, q2⟩ := lx_e h
  refine sx_sub (lv' := [(0, .ref a0), (1, .int v1), (2, .int v2), (3, .int (0 : Int32)), (4, .int (0 : Int32))]) [0, 1, 2, 3, 4] rfl ?_
  refine lp_go (fun s11 => Sx l E yX4_begetters cX4_begetters 5 (some .int) (2) r L' 5 [(0, .ref a0), (1, .int v1), (2, .int v2), (3, .int s11.1), (4, .int s11.2)] [] L) x12 (fun s11 z2 hz c1 c2 => ?_) FU _ hx
  refine tX4_begetters_b5 h0 hz (fun s2 e => c1 s2 e) (fun s11 e => ?_) (fun v e => ?_)
  · have h := q1 _ (c2 _ e).symm
    refine sx_iload_n (i := 3) (j := 0) dX4_begetters_53 rfl rfl ?_
    obtain rfl := Option.some.inj h
    exact sx_iret dX4_begetters_54 rfl rfl k3.1 k3.2
  · have e2 := Option.some.inj (q2 _ (c2 _ e).symm)
    subst e2
    exact k3
set_option maxRecDepth 100000 in
set_option maxHeartbeats 4000000 in
theorem tX4_passYear_j48 {l : Launch} {E : Ev} {r : Option Value} {L' L : HL} {a0 : Nat} {v1 : Int32} {s1 : Int32} {s2 : Int32} {s3 : Int32} {z : Tn (Int32 × HL) (HL)} (h0 : isX4 E a0) (h : fX4_passYear_j48 a0 v1 s1 s2 s3 L = some z) (k1 : ∀ s, z = .inl s → Sx l E yX4_passYear cX4_passYear 2 (none) (5) r L' 12 [(0, .ref a0), (1, .int s.1)] [] s.2) (k2 : ∀ s, z = .inr (.inl s) → Sx l E yX4_passYear cX4_passYear 2 (none) (5) r L' 56 [(0, .ref a0)] [] s.2) (k3 : ∀ v, z = .inr (.inr v) → r = none ∧ L' = v) : Sx l E yX4_passYear cX4_passYear 2 (none) (5) r L' 48 [(0, .ref a0), (1, .int v1)] [.int s3, .int s2, .int s1, .ref (a0 + 3)] L := by
  unfold fX4_passYear_j48 at h
  refine sx_iadd dX4_passYear_48 ?_
  obtain ⟨c9, h⟩ := gd_e h
  refine sx_iast dX4_passYear_49 (X4_a6 h0) c9 (fun L10 eL10 => ?_)
  have h := lt_e eL10 h
  obtain ⟨w11, ew11⟩ : ∃ w : Int32, w = v1 + (1 : Int32) := ⟨_, rfl⟩
  have h := lt_e ew11 h
  refine sx_iinc (j := 1) (v := w11) (lv' := [(0, .ref a0), (1, .int w11)]) dX4_passYear_50 rfl (ii_1 ew11) (by decide) rfl ?_
  refine sx_goto (tgt := 12) dX4_passYear_53 rfl ?_
  obtain rfl := Option.some.inj h
  exact sx_sub [0, 1] rfl (k1 _ rfl)
set_option maxRecDepth 100000 in
set_option maxHeartbeats 4000000 in
theorem tX4_passYear_b12 {l : Launch} {E : Ev} {r : Option Value} {L' L : HL} {a0 : Nat} {v1 : Int32} {z : Tn (Int32 × HL) (HL)} (h0 : isX4 E a0) (h : fX4_passYear_b12 a0 v1 L = some z) (k1 : ∀ s, z = .inl s → Sx l E yX4_passYear cX4_passYear 2 (none) (5) r L' 12 [(0, .ref a0), (1, .int s.1)] [] s.2) (k2 : ∀ s, z = .inr (.inl s) → Sx l E yX4_passYear cX4_passYear 2 (none) (5) r L' 56 [(0, .ref a0)] [] s.2) (k3 : ∀ v, z = .inr (.inr v) → r = none ∧ L' = v) : Sx l E yX4_passYear cX4_passYear 2 (none) (5) r L' 12 [(0, .ref a0), (1, .int v1)] [] L := by
  unfold fX4_passYear_b12 at h
  refine sx_iload_n (i := 1) (j := 1) dX4_passYear_12 rfl rfl ?_
  refine sx_aload_n (i := 0) (j := 0) dX4_passYear_13 rfl rfl ?_
  refine sx_get (k := 0) (v := .int (L.1 a0 0)) dX4_passYear_14 (X4_k h0) cf_4 (Or.inl wd_133) (by decide : 0 < 17) rfl ?_
  refine sx_icmp_ge (tgt := 56) dX4_passYear_17 rfl (fun c2 => ?_) (fun c2 => ?_)
  · have h := if_e c2 h
    obtain rfl := Option.some.inj h
    exact sx_sub [0] rfl (k2 _ rfl)
  · have h := if_n c2 h
    refine sx_aload_n (i := 0) (j := 0) dX4_passYear_20 rfl rfl ?_
    refine sx_iload_n (i := 1) (j := 1) dX4_passYear_21 rfl rfl ?_
    obtain ⟨z3, ez3, h⟩ := bd_e h
    refine sx_callV (avs := [.int v1]) (rest := []) (st1 := [.int z3]) dX4_passYear_22 (mX4_stands h0 ez3) ciX4_stands (Or.inl wd_452) (X4_k h0) rfl rfl rfl rfl (rm_m rfl) rfl (Nat.le_of_ble_eq_true rfl) rfl ?_
    refine sx_if_eq (tgt := 50) dX4_passYear_25 rfl (fun c4 => ?_) (fun c4 => ?_)
    · have h := if_e c4 h
      obtain ⟨w5, ew5⟩ : ∃ w : Int32, w = v1 + (1 : Int32) := ⟨_, rfl⟩
      have h := lt_e ew5 h
      refine sx_iinc (j := 1) (v := w5) (lv' := [(0, .ref a0), (1, .int w5)]) dX4_passYear_50 rfl (ii_1 ew5) (by decide) rfl ?_
      refine sx_goto (tgt := 12) dX4_passYear_53 rfl ?_
      obtain rfl := Option.some.inj h
      exact sx_sub [0, 1] rfl (k1 _ rfl)
    · have h := if_n c4 h
      refine sx_aload_n (i := 0) (j := 0) dX4_passYear_28 rfl rfl ?_
      refine sx_get (k := 6) (v := .ref (a0 + 3)) dX4_passYear_29 (X4_k h0) cf_4 (Or.inl wd_151) (by decide : 6 < 17) (congrArg Value.ref (X4_r6 h0)) ?_
      refine sx_iload_n (i := 1) (j := 1) dX4_passYear_32 rfl rfl ?_
      refine sx_dup2 dX4_passYear_33 rfl rfl ?_
      obtain ⟨c6, h⟩ := gd_e h
      refine sx_iald dX4_passYear_34 (X4_a6 h0) c6 ?_
      refine sx_aload_n (i := 0) (j := 0) dX4_passYear_35 rfl rfl ?_
      refine sx_iload_n (i := 1) (j := 1) dX4_passYear_36 rfl rfl ?_
      obtain ⟨z7, ez7, h⟩ := bd_e h
      refine sx_callV (avs := [.int v1]) (rest := [.int (L.1 (a0 + 3) v1.toNatClampNeg), .int v1, .ref (a0 + 3)]) (st1 := [.int z7, .int (L.1 (a0 + 3) v1.toNatClampNeg), .int v1, .ref (a0 + 3)]) dX4_passYear_37 (mX4_isOverfull h0 ez7) ciX4_isOverfull (Or.inl wd_663) (X4_k h0) rfl rfl rfl rfl (rm_m rfl) rfl (Nat.le_of_ble_eq_true rfl) rfl ?_
      refine sx_if_eq (tgt := 47) dX4_passYear_40 rfl (fun c8 => ?_) (fun c8 => ?_)
      · have h := if_e c8 h
        refine sx_iconst (v := (1 : Int32)) dX4_passYear_47 (by decide) ?_
        exact sx_sub [0, 1] rfl (tX4_passYear_j48 h0 h k1 k2 k3)
      · have h := if_n c8 h
        refine sx_iconst (v := (2 : Int32)) dX4_passYear_43 (by decide) ?_
        refine sx_goto (tgt := 48) dX4_passYear_44 rfl ?_
        exact sx_sub [0, 1] rfl (tX4_passYear_j48 h0 h k1 k2 k3)
set_option maxRecDepth 100000 in
set_option maxHeartbeats 4000000 in
theorem tX4_passYear_b58 {l : Launch} {E : Ev} {r : Option Value} {L' L : HL} {a0 : Nat} {v1 : Int32} {z : Tn (Int32 × HL) (HL)} (h0 : isX4 E a0) (h : fX4_passYear_b58 a0 v1 L = some z) (k1 : ∀ s, z = .inl s → Sx l E yX4_passYear cX4_passYear 2 (none) (5) r L' 58 [(0, .ref a0), (1, .int s.1)] [] s.2) (k2 : ∀ s, z = .inr (.inl s) → Sx l E yX4_passYear cX4_passYear 2 (none) (5) r L' 97 [] [] s.2) (k3 : ∀ v, z = .inr (.inr v) → r = none ∧ L' = v) : Sx l E yX4_passYear cX4_passYear 2 (none) (5) r L' 58 [(0, .ref a0), (1, .int v1)] [] L := by
  unfold fX4_passYear_b58 at h
  refine sx_iload_n (i := 1) (j := 1) dX4_passYear_58 rfl rfl ?_
  refine sx_aload_n (i := 0) (j := 0) dX4_passYear_59 rfl rfl ?_
  refine sx_get (k := 0) (v := .int (L.1 a0 0)) dX4_passYear_60 (X4_k h0) cf_4 (Or.inl wd_133) (by decide : 0 < 17) rfl ?_
  refine sx_icmp_ge (tgt := 97) dX4_passYear_63 rfl (fun c13 => ?_) (fun c13 => ?_)
  · have h := if_e c13 h
    obtain rfl := Option.some.inj h
    exact sx_sub [] rfl (k2 _ rfl)
  · have h := if_n c13 h
    refine sx_aload_n (i := 0) (j := 0) dX4_passYear_66 rfl rfl ?_
    refine sx_iload_n (i := 1) (j := 1) dX4_passYear_67 rfl rfl ?_
    obtain ⟨z14, ez14, h⟩ := bd_e h
    refine sx_callV (avs := [.int v1]) (rest := []) (st1 := [.int z14]) dX4_passYear_68 (mX4_stands h0 ez14) ciX4_stands (Or.inl wd_452) (X4_k h0) rfl rfl rfl rfl (rm_m rfl) rfl (Nat.le_of_ble_eq_true rfl) rfl ?_
    refine sx_if_eq (tgt := 91) dX4_passYear_71 rfl (fun c15 => ?_) (fun c15 => ?_)
    · have h := if_e c15 h
      obtain ⟨w16, ew16⟩ : ∃ w : Int32, w = v1 + (1 : Int32) := ⟨_, rfl⟩
      have h := lt_e ew16 h
      refine sx_iinc (j := 1) (v := w16) (lv' := [(0, .ref a0), (1, .int w16)]) dX4_passYear_91 rfl (ii_1 ew16) (by decide) rfl ?_
      refine sx_goto (tgt := 58) dX4_passYear_94 rfl ?_
      obtain rfl := Option.some.inj h
      exact sx_sub [0, 1] rfl (k1 _ rfl)
    · have h := if_n c15 h
      refine sx_aload_n (i := 0) (j := 0) dX4_passYear_74 rfl rfl ?_
      refine sx_get (k := 6) (v := .ref (a0 + 3)) dX4_passYear_75 (X4_k h0) cf_4 (Or.inl wd_151) (by decide : 6 < 17) (congrArg Value.ref (X4_r6 h0)) ?_
      refine sx_iload_n (i := 1) (j := 1) dX4_passYear_78 rfl rfl ?_
      obtain ⟨c17, h⟩ := gd_e h
      refine sx_iald dX4_passYear_79 (X4_a6 h0) c17 ?_
      refine sx_bipush (v := (100 : Int32)) dX4_passYear_80 (by decide) ?_
      refine sx_icmp_lt (tgt := 91) dX4_passYear_82 rfl (fun c18 => ?_) (fun c18 => ?_)
      · have h := if_e c18 h
        obtain ⟨w19, ew19⟩ : ∃ w : Int32, w = v1 + (1 : Int32) := ⟨_, rfl⟩
        have h := lt_e ew19 h
        refine sx_iinc (j := 1) (v := w19) (lv' := [(0, .ref a0), (1, .int w19)]) dX4_passYear_91 rfl (ii_1 ew19) (by decide) rfl ?_
        refine sx_goto (tgt := 58) dX4_passYear_94 rfl ?_
        obtain rfl := Option.some.inj h
        exact sx_sub [0, 1] rfl (k1 _ rfl)
      · have h := if_n c18 h
        refine sx_aload_n (i := 0) (j := 0) dX4_passYear_85 rfl rfl ?_
        refine sx_iload_n (i := 1) (j := 1) dX4_passYear_86 rfl rfl ?_
        obtain ⟨z20, ez20, h⟩ := bd_e h
        refine sx_callV (avs := [.int v1]) (rest := []) (st1 := [.int z20.1]) dX4_passYear_87 (mX4_letFall h0 ez20) ciX4_letFall (Or.inl wd_671) (X4_k h0) rfl rfl rfl rfl (rm_m rfl) rfl (Nat.le_of_ble_eq_true rfl) rfl ?_
        refine sx_pop dX4_passYear_90 rfl ?_
        obtain ⟨w21, ew21⟩ : ∃ w : Int32, w = v1 + (1 : Int32) := ⟨_, rfl⟩
        have h := lt_e ew21 h
        refine sx_iinc (j := 1) (v := w21) (lv' := [(0, .ref a0), (1, .int w21)]) dX4_passYear_91 rfl (ii_1 ew21) (by decide) rfl ?_
        refine sx_goto (tgt := 58) dX4_passYear_94 rfl ?_
        obtain rfl := Option.some.inj h
        exact sx_sub [0, 1] rfl (k1 _ rfl)
set_option maxRecDepth 100000 in
set_option maxHeartbeats 4000000 in
theorem mX4_passYear {l : Launch} {E : Ev} {L : HL} {a0 : Nat} {z : HL} (h0 : isX4 E a0) (h : fX4_passYear a0 L = some z) : Mt l E yX4_passYear cX4_passYear 2 (none) (5) [.ref a0] L (none) z := by
  obtain ⟨r, hr⟩ : ∃ r : Option Value, r = none := ⟨_, rfl⟩
  obtain ⟨L', hL'⟩ : ∃ L' : HL, L' = z := ⟨_, rfl⟩
  have k3 : r = none ∧ L' = z := ⟨hr, hL'⟩
  refine mt_eq hr hL' ?_
  refine Mt.of (plainFor_of_name (by decide)) (Nat.le_of_ble_eq_true rfl) ?_
  refine sx_sub (lv' := [(0, .ref a0)]) [0] rfl ?_
  unfold fX4_passYear at h
  refine sx_aload_n (i := 0) (j := 0) dX4_passYear_0 rfl rfl ?_
  refine sx_dup dX4_passYear_1 rfl ?_
  refine sx_get (k := 3) (v := .int (L.1 a0 3)) dX4_passYear_2 (X4_k h0) cf_4 (Or.inl wd_143) (by decide : 3 < 17) rfl ?_
  refine sx_iconst (v := (1 : Int32)) dX4_passYear_5 (by decide) ?_
  refine sx_iadd dX4_passYear_6 ?_
  refine sx_putI (k := 3) dX4_passYear_7 (X4_k h0) cf_4 (Or.inl wd_143) (by decide : 3 < 17) rfl rfl rfl rfl (fun L1 eL1 => ?_)
  have h := lt_e eL1 h
  refine sx_iconst (v := (0 : Int32)) dX4_passYear_10 (by decide) ?_
  refine sx_istore_n (i := 1) (lv' := [(0, .ref a0), (1, .int (0 : Int32))]) dX4_passYear_11 rfl (by decide) rfl ?_
  obtain ⟨x24, hx, q1, q2⟩ := lx_e h
  refine sx_sub (lv' := [(0, .ref a0), (1, .int (0 : Int32))]) [0, 1] rfl ?_
  refine lp_go (fun s12 => Sx l E yX4_passYear cX4_passYear 2 (none) (5) r L' 12 [(0, .ref a0), (1, .int s12.1)] [] s12.2) x24 (fun s12 z2 hz c1 c2 => ?_) FU _ hx
  refine tX4_passYear_b12 h0 hz (fun s2 e => c1 s2 e) (fun s12 e => ?_) (fun v e => ?_)
  · have h := q1 _ (c2 _ e).symm
    refine sx_iconst (v := (0 : Int32)) dX4_passYear_56 (by decide) ?_
    refine sx_istore_n (i := 1) (lv' := [(0, .ref a0), (1, .int (0 : Int32))]) dX4_passYear_57 rfl (by decide) rfl ?_
    obtain ⟨x23, hx, q1, q2⟩ := lx_e h
    refine sx_sub (lv' := [(0, .ref a0), (1, .int (0 : Int32))]) [0, 1] rfl ?_
    refine lp_go (fun s22 => Sx l E yX4_passYear cX4_passYear 2 (none) (5) r L' 58 [(0, .ref a0), (1, .int s22.1)] [] s22.2) x23 (fun s22 z2 hz c1 c2 => ?_) FU _ hx
    refine tX4_passYear_b58 h0 hz (fun s2 e => c1 s2 e) (fun s22 e => ?_) (fun v e => ?_)
    · have h := q1 _ (c2 _ e).symm
      obtain rfl := Option.some.inj h
      exact sx_vret dX4_passYear_97 rfl k3.1 k3.2
    · have e2 := Option.some.inj (q2 _ (c2 _ e).symm)
      subst e2
      exact k3
  · have e2 := Option.some.inj (q2 _ (c2 _ e).symm)
    subst e2
    exact k3
set_option maxRecDepth 100000 in
set_option maxHeartbeats 4000000 in
theorem tX4_addTo_j108 {l : Launch} {E : Ev} {r : Option Value} {L' L : HL} {a0 : Nat} {v3 : Int64} {v5 : Int32} {s0 : Int64} {s1 : Int32} {z : Tn (Int64 × Int32) (Int64)} (h0 : isX4 E a0) (h : fX4_addTo_j108 a0 v3 v5 s0 s1 L = some z) (k1 : ∀ s, z = .inl s → Sx l E yX4_addTo cX4_addTo 7 (some .long) (3) r L' 5 [(0, .ref a0), (3, .long s.1), (5, .int s.2)] [] L) (k2 : ∀ s, z = .inr (.inl s) → Sx l E yX4_addTo cX4_addTo 7 (some .long) (3) r L' 132 [(0, .ref a0), (3, .long s.1)] [] L) (k3 : ∀ v, z = .inr (.inr v) → r = some (.long v) ∧ L' = L) : Sx l E yX4_addTo cX4_addTo 7 (some .long) (3) r L' 108 [(0, .ref a0), (5, .int v5)] [.int s1, .long s0] L := by
  unfold fX4_addTo_j108 at h
  refine sx_i2l dX4_addTo_108 ?_
  refine sx_ladd dX4_addTo_109 ?_
  refine sx_topl (fun w14 ew14 => ?_)
  have h := lt_e ew14 h
  refine sx_lstore_n (i := 3) (lv' := [(0, .ref a0), (3, .long w14), (5, .int v5)]) dX4_addTo_110 rfl (by decide) rfl ?_
  refine sx_ldc2 (v := (31 : Int64)) dX4_addTo_111 wd_945 ?_
  refine sx_lload_n (i := 3) (j := 1) dX4_addTo_114 rfl rfl ?_
  refine sx_lmul dX4_addTo_115 ?_
  refine sx_aload_n (i := 0) (j := 0) dX4_addTo_116 rfl rfl ?_
  refine sx_get (k := 9) (v := .ref (a0 + 6)) dX4_addTo_117 (X4_k h0) cf_4 (Or.inl wd_159) (by decide : 9 < 17) (congrArg Value.ref (X4_r9 h0)) ?_
  refine sx_iload (j := 2) dX4_addTo_120 rfl ?_
  obtain ⟨c15, h⟩ := gd_e h
  refine sx_iald dX4_addTo_122 (X4_a9 h0) c15 ?_
  refine sx_i2l dX4_addTo_123 ?_
  refine sx_ladd dX4_addTo_124 ?_
  refine sx_topl (fun w16 ew16 => ?_)
  have h := lt_e ew16 h
  refine sx_lstore_n (i := 3) (lv' := [(0, .ref a0), (3, .long w16), (5, .int v5)]) dX4_addTo_125 rfl (by decide) rfl ?_
  obtain ⟨w17, ew17⟩ : ∃ w : Int32, w = v5 + (1 : Int32) := ⟨_, rfl⟩
  have h := lt_e ew17 h
  refine sx_iinc (j := 2) (v := w17) (lv' := [(0, .ref a0), (3, .long w16), (5, .int w17)]) dX4_addTo_126 rfl (ii_1 ew17) (by decide) rfl ?_
  refine sx_goto (tgt := 5) dX4_addTo_129 rfl ?_
  obtain rfl := Option.some.inj h
  exact sx_sub [0, 1, 2] rfl (k1 _ rfl)
set_option maxRecDepth 100000 in
set_option maxHeartbeats 4000000 in
theorem tX4_addTo_b5 {l : Launch} {E : Ev} {r : Option Value} {L' L : HL} {a0 : Nat} {v3 : Int64} {v5 : Int32} {z : Tn (Int64 × Int32) (Int64)} (h0 : isX4 E a0) (h : fX4_addTo_b5 a0 v3 v5 L = some z) (k1 : ∀ s, z = .inl s → Sx l E yX4_addTo cX4_addTo 7 (some .long) (3) r L' 5 [(0, .ref a0), (3, .long s.1), (5, .int s.2)] [] L) (k2 : ∀ s, z = .inr (.inl s) → Sx l E yX4_addTo cX4_addTo 7 (some .long) (3) r L' 132 [(0, .ref a0), (3, .long s.1)] [] L) (k3 : ∀ v, z = .inr (.inr v) → r = some (.long v) ∧ L' = L) : Sx l E yX4_addTo cX4_addTo 7 (some .long) (3) r L' 5 [(0, .ref a0), (3, .long v3), (5, .int v5)] [] L := by
  unfold fX4_addTo_b5 at h
  refine sx_iload (j := 2) dX4_addTo_5 rfl ?_
  refine sx_aload_n (i := 0) (j := 0) dX4_addTo_7 rfl rfl ?_
  refine sx_get (k := 0) (v := .int (L.1 a0 0)) dX4_addTo_8 (X4_k h0) cf_4 (Or.inl wd_133) (by decide : 0 < 17) rfl ?_
  refine sx_icmp_ge (tgt := 132) dX4_addTo_11 rfl (fun c1 => ?_) (fun c1 => ?_)
  · have h := if_e c1 h
    obtain rfl := Option.some.inj h
    exact sx_sub [0, 1] rfl (k2 _ rfl)
  · have h := if_n c1 h
    refine sx_ldc2 (v := (31 : Int64)) dX4_addTo_14 wd_945 ?_
    refine sx_lload_n (i := 3) (j := 1) dX4_addTo_17 rfl rfl ?_
    refine sx_lmul dX4_addTo_18 ?_
    refine sx_aload_n (i := 0) (j := 0) dX4_addTo_19 rfl rfl ?_
    refine sx_get (k := 4) (v := .ref (a0 + 1)) dX4_addTo_20 (X4_k h0) cf_4 (Or.inl wd_146) (by decide : 4 < 17) (congrArg Value.ref (X4_r4 h0)) ?_
    refine sx_iload (j := 2) dX4_addTo_23 rfl ?_
    obtain ⟨c2, h⟩ := gd_e h
    refine sx_iald dX4_addTo_25 (X4_a4 h0) c2 ?_
    refine sx_i2l dX4_addTo_26 ?_
    refine sx_ladd dX4_addTo_27 ?_
    refine sx_topl (fun w3 ew3 => ?_)
    have h := lt_e ew3 h
    refine sx_lstore_n (i := 3) (lv' := [(0, .ref a0), (3, .long w3), (5, .int v5)]) dX4_addTo_28 rfl (by decide) rfl ?_
    refine sx_ldc2 (v := (31 : Int64)) dX4_addTo_29 wd_945 ?_
    refine sx_lload_n (i := 3) (j := 1) dX4_addTo_32 rfl rfl ?_
    refine sx_lmul dX4_addTo_33 ?_
    refine sx_aload_n (i := 0) (j := 0) dX4_addTo_34 rfl rfl ?_
    refine sx_get (k := 5) (v := .ref (a0 + 2)) dX4_addTo_35 (X4_k h0) cf_4 (Or.inl wd_149) (by decide : 5 < 17) (congrArg Value.ref (X4_r5 h0)) ?_
    refine sx_iload (j := 2) dX4_addTo_38 rfl ?_
    obtain ⟨c4, h⟩ := gd_e h
    refine sx_iald dX4_addTo_40 (X4_a5 h0) c4 ?_
    refine sx_i2l dX4_addTo_41 ?_
    refine sx_ladd dX4_addTo_42 ?_
    refine sx_topl (fun w5 ew5 => ?_)
    have h := lt_e ew5 h
    refine sx_lstore_n (i := 3) (lv' := [(0, .ref a0), (3, .long w5), (5, .int v5)]) dX4_addTo_43 rfl (by decide) rfl ?_
    refine sx_ldc2 (v := (31 : Int64)) dX4_addTo_44 wd_945 ?_
    refine sx_lload_n (i := 3) (j := 1) dX4_addTo_47 rfl rfl ?_
    refine sx_lmul dX4_addTo_48 ?_
    refine sx_aload_n (i := 0) (j := 0) dX4_addTo_49 rfl rfl ?_
    refine sx_get (k := 6) (v := .ref (a0 + 3)) dX4_addTo_50 (X4_k h0) cf_4 (Or.inl wd_151) (by decide : 6 < 17) (congrArg Value.ref (X4_r6 h0)) ?_
    refine sx_iload (j := 2) dX4_addTo_53 rfl ?_
    obtain ⟨c6, h⟩ := gd_e h
    refine sx_iald dX4_addTo_55 (X4_a6 h0) c6 ?_
    refine sx_i2l dX4_addTo_56 ?_
    refine sx_ladd dX4_addTo_57 ?_
    refine sx_topl (fun w7 ew7 => ?_)
    have h := lt_e ew7 h
    refine sx_lstore_n (i := 3) (lv' := [(0, .ref a0), (3, .long w7), (5, .int v5)]) dX4_addTo_58 rfl (by decide) rfl ?_
    refine sx_ldc2 (v := (31 : Int64)) dX4_addTo_59 wd_945 ?_
    refine sx_lload_n (i := 3) (j := 1) dX4_addTo_62 rfl rfl ?_
    refine sx_lmul dX4_addTo_63 ?_
    refine sx_aload_n (i := 0) (j := 0) dX4_addTo_64 rfl rfl ?_
    refine sx_get (k := 7) (v := .ref (a0 + 4)) dX4_addTo_65 (X4_k h0) cf_4 (Or.inl wd_154) (by decide : 7 < 17) (congrArg Value.ref (X4_r7 h0)) ?_
    refine sx_iload (j := 2) dX4_addTo_68 rfl ?_
    obtain ⟨c8, h⟩ := gd_e h
    refine sx_iald dX4_addTo_70 (X4_a7 h0) c8 ?_
    refine sx_i2l dX4_addTo_71 ?_
    refine sx_ladd dX4_addTo_72 ?_
    refine sx_topl (fun w9 ew9 => ?_)
    have h := lt_e ew9 h
    refine sx_lstore_n (i := 3) (lv' := [(0, .ref a0), (3, .long w9), (5, .int v5)]) dX4_addTo_73 rfl (by decide) rfl ?_
    refine sx_ldc2 (v := (31 : Int64)) dX4_addTo_74 wd_945 ?_
    refine sx_lload_n (i := 3) (j := 1) dX4_addTo_77 rfl rfl ?_
    refine sx_lmul dX4_addTo_78 ?_
    refine sx_aload_n (i := 0) (j := 0) dX4_addTo_79 rfl rfl ?_
    refine sx_get (k := 8) (v := .ref (a0 + 5)) dX4_addTo_80 (X4_k h0) cf_4 (Or.inl wd_156) (by decide : 8 < 17) (congrArg Value.ref (X4_r8 h0)) ?_
    refine sx_iload (j := 2) dX4_addTo_83 rfl ?_
    obtain ⟨c10, h⟩ := gd_e h
    refine sx_iald dX4_addTo_85 (X4_a8 h0) c10 ?_
    refine sx_i2l dX4_addTo_86 ?_
    refine sx_ladd dX4_addTo_87 ?_
    refine sx_topl (fun w11 ew11 => ?_)
    have h := lt_e ew11 h
    refine sx_lstore_n (i := 3) (lv' := [(0, .ref a0), (3, .long w11), (5, .int v5)]) dX4_addTo_88 rfl (by decide) rfl ?_
    refine sx_ldc2 (v := (31 : Int64)) dX4_addTo_89 wd_945 ?_
    refine sx_lload_n (i := 3) (j := 1) dX4_addTo_92 rfl rfl ?_
    refine sx_lmul dX4_addTo_93 ?_
    refine sx_aload_n (i := 0) (j := 0) dX4_addTo_94 rfl rfl ?_
    refine sx_iload (j := 2) dX4_addTo_95 rfl ?_
    obtain ⟨z12, ez12, h⟩ := bd_e h
    refine sx_callV (avs := [.int v5]) (rest := [.long ((31 : Int64) * w11)]) (st1 := [.int z12, .long ((31 : Int64) * w11)]) dX4_addTo_97 (mX4_stands h0 ez12) ciX4_stands (Or.inl wd_452) (X4_k h0) rfl rfl rfl rfl (rm_m rfl) rfl (Nat.le_of_ble_eq_true rfl) rfl ?_
    refine sx_if_eq (tgt := 107) dX4_addTo_100 rfl (fun c13 => ?_) (fun c13 => ?_)
    · have h := if_e c13 h
      refine sx_iconst (v := (0 : Int32)) dX4_addTo_107 (by decide) ?_
      exact sx_sub [0, 2] rfl (tX4_addTo_j108 h0 h k1 k2 k3)
    · have h := if_n c13 h
      refine sx_iconst (v := (1 : Int32)) dX4_addTo_103 (by decide) ?_
      refine sx_goto (tgt := 108) dX4_addTo_104 rfl ?_
      exact sx_sub [0, 2] rfl (tX4_addTo_j108 h0 h k1 k2 k3)
set_option maxRecDepth 100000 in
set_option maxHeartbeats 4000000 in
theorem tX4_addTo_j180 {l : Launch} {E : Ev} {r : Option Value} {L' L : HL} {a0 : Nat} {v3 : Int64} {v5 : Int32} {v6 : Int32} {s0 : Int64} {s1 : Int32} {z : Tn (Int64 × Int32) (Int64)} (h0 : isX4 E a0) (h : fX4_addTo_j180 a0 v3 v5 v6 s0 s1 L = some z) (k1 : ∀ s, z = .inl s → Sx l E yX4_addTo cX4_addTo 7 (some .long) (3) r L' 150 [(0, .ref a0), (3, .long s.1), (5, .int v5), (6, .int s.2)] [] L) (k2 : ∀ s, z = .inr (.inl s) → Sx l E yX4_addTo cX4_addTo 7 (some .long) (3) r L' 189 [(0, .ref a0), (3, .long s.1), (5, .int v5)] [] L) (k3 : ∀ v, z = .inr (.inr v) → r = some (.long v) ∧ L' = L) : Sx l E yX4_addTo cX4_addTo 7 (some .long) (3) r L' 180 [(0, .ref a0), (5, .int v5), (6, .int v6)] [.int s1, .long s0] L := by
  unfold fX4_addTo_j180 at h
  refine sx_i2l dX4_addTo_180 ?_
  refine sx_ladd dX4_addTo_181 ?_
  refine sx_topl (fun w24 ew24 => ?_)
  have h := lt_e ew24 h
  refine sx_lstore_n (i := 3) (lv' := [(0, .ref a0), (3, .long w24), (5, .int v5), (6, .int v6)]) dX4_addTo_182 rfl (by decide) rfl ?_
  obtain ⟨w25, ew25⟩ : ∃ w : Int32, w = v6 + (1 : Int32) := ⟨_, rfl⟩
  have h := lt_e ew25 h
  refine sx_iinc (j := 3) (v := w25) (lv' := [(0, .ref a0), (3, .long w24), (5, .int v5), (6, .int w25)]) dX4_addTo_183 rfl (ii_1 ew25) (by decide) rfl ?_
  refine sx_goto (tgt := 150) dX4_addTo_186 rfl ?_
  obtain rfl := Option.some.inj h
  exact sx_sub [0, 1, 2, 3] rfl (k1 _ rfl)
set_option maxRecDepth 100000 in
set_option maxHeartbeats 4000000 in
theorem tX4_addTo_b150 {l : Launch} {E : Ev} {r : Option Value} {L' L : HL} {a0 : Nat} {v3 : Int64} {v5 : Int32} {v6 : Int32} {z : Tn (Int64 × Int32) (Int64)} (h0 : isX4 E a0) (h : fX4_addTo_b150 a0 v3 v5 v6 L = some z) (k1 : ∀ s, z = .inl s → Sx l E yX4_addTo cX4_addTo 7 (some .long) (3) r L' 150 [(0, .ref a0), (3, .long s.1), (5, .int v5), (6, .int s.2)] [] L) (k2 : ∀ s, z = .inr (.inl s) → Sx l E yX4_addTo cX4_addTo 7 (some .long) (3) r L' 189 [(0, .ref a0), (3, .long s.1), (5, .int v5)] [] L) (k3 : ∀ v, z = .inr (.inr v) → r = some (.long v) ∧ L' = L) : Sx l E yX4_addTo cX4_addTo 7 (some .long) (3) r L' 150 [(0, .ref a0), (3, .long v3), (5, .int v5), (6, .int v6)] [] L := by
  unfold fX4_addTo_b150 at h
  refine sx_iload (j := 3) dX4_addTo_150 rfl ?_
  refine sx_aload_n (i := 0) (j := 0) dX4_addTo_152 rfl rfl ?_
  refine sx_get (k := 0) (v := .int (L.1 a0 0)) dX4_addTo_153 (X4_k h0) cf_4 (Or.inl wd_133) (by decide : 0 < 17) rfl ?_
  refine sx_icmp_ge (tgt := 189) dX4_addTo_156 rfl (fun c21 => ?_) (fun c21 => ?_)
  · have h := if_e c21 h
    obtain rfl := Option.some.inj h
    exact sx_sub [0, 1, 2] rfl (k2 _ rfl)
  · have h := if_n c21 h
    refine sx_ldc2 (v := (31 : Int64)) dX4_addTo_159 wd_945 ?_
    refine sx_lload_n (i := 3) (j := 1) dX4_addTo_162 rfl rfl ?_
    refine sx_lmul dX4_addTo_163 ?_
    refine sx_aload_n (i := 0) (j := 0) dX4_addTo_164 rfl rfl ?_
    refine sx_iload (j := 2) dX4_addTo_165 rfl ?_
    refine sx_iload (j := 3) dX4_addTo_167 rfl ?_
    obtain ⟨z22, ez22, h⟩ := bd_e h
    refine sx_callV (avs := [.int v5, .int v6]) (rest := [.long ((31 : Int64) * v3)]) (st1 := [.int z22, .long ((31 : Int64) * v3)]) dX4_addTo_169 (mX4_hasWall h0 ez22) ciX4_hasWall (Or.inl wd_440) (X4_k h0) rfl rfl rfl rfl (rm_m rfl) rfl (Nat.le_of_ble_eq_true rfl) rfl ?_
    refine sx_if_eq (tgt := 179) dX4_addTo_172 rfl (fun c23 => ?_) (fun c23 => ?_)
    · have h := if_e c23 h
      refine sx_iconst (v := (0 : Int32)) dX4_addTo_179 (by decide) ?_
      exact sx_sub [0, 2, 3] rfl (tX4_addTo_j180 h0 h k1 k2 k3)
    · have h := if_n c23 h
      refine sx_iconst (v := (1 : Int32)) dX4_addTo_175 (by decide) ?_
      refine sx_goto (tgt := 180) dX4_addTo_176 rfl ?_
      exact sx_sub [0, 2, 3] rfl (tX4_addTo_j180 h0 h k1 k2 k3)
set_option maxRecDepth 100000 in
set_option maxHeartbeats 4000000 in
theorem tX4_addTo_b135 {l : Launch} {E : Ev} {r : Option Value} {L' L : HL} {a0 : Nat} {v3 : Int64} {v5 : Int32} {z : Tn (Int64 × Int32) (Int64)} (h0 : isX4 E a0) (h : fX4_addTo_b135 a0 v3 v5 L = some z) (k1 : ∀ s, z = .inl s → Sx l E yX4_addTo cX4_addTo 7 (some .long) (3) r L' 135 [(0, .ref a0), (3, .long s.1), (5, .int s.2)] [] L) (k2 : ∀ s, z = .inr (.inl s) → Sx l E yX4_addTo cX4_addTo 7 (some .long) (3) r L' 195 [(0, .ref a0), (3, .long s.1)] [] L) (k3 : ∀ v, z = .inr (.inr v) → r = some (.long v) ∧ L' = L) : Sx l E yX4_addTo cX4_addTo 7 (some .long) (3) r L' 135 [(0, .ref a0), (3, .long v3), (5, .int v5)] [] L := by
  unfold fX4_addTo_b135 at h
  refine sx_iload (j := 2) dX4_addTo_135 rfl ?_
  refine sx_aload_n (i := 0) (j := 0) dX4_addTo_137 rfl rfl ?_
  refine sx_get (k := 0) (v := .int (L.1 a0 0)) dX4_addTo_138 (X4_k h0) cf_4 (Or.inl wd_133) (by decide : 0 < 17) rfl ?_
  refine sx_icmp_ge (tgt := 195) dX4_addTo_141 rfl (fun c19 => ?_) (fun c19 => ?_)
  · have h := if_e c19 h
    obtain rfl := Option.some.inj h
    exact sx_sub [0, 1] rfl (k2 _ rfl)
  · have h := if_n c19 h
    refine sx_iload (j := 2) dX4_addTo_144 rfl ?_
    refine sx_iconst (v := (1 : Int32)) dX4_addTo_146 (by decide) ?_
    refine sx_iadd dX4_addTo_147 ?_
    refine sx_topi (fun w20 ew20 => ?_)
    have h := lt_e ew20 h
    refine sx_istore (lv' := [(0, .ref a0), (3, .long v3), (5, .int v5), (6, .int w20)]) dX4_addTo_148 (by decide) rfl ?_
    obtain ⟨x28, hx, q1, q2⟩ := lx_e h
    refine sx_sub (lv' := [(0, .ref a0), (3, .long v3), (5, .int v5), (6, .int w20)]) [0, 1, 2, 3] rfl ?_
    refine lp_go (fun s26 => Sx l E yX4_addTo cX4_addTo 7 (some .long) (3) r L' 150 [(0, .ref a0), (3, .long s26.1), (5, .int v5), (6, .int s26.2)] [] L) x28 (fun s26 z2 hz c1 c2 => ?_) FU _ hx
    refine tX4_addTo_b150 h0 hz (fun s2 e => c1 s2 e) (fun s26 e => ?_) (fun v e => ?_)
    · have h := q1 _ (c2 _ e).symm
      obtain ⟨w27, ew27⟩ : ∃ w : Int32, w = v5 + (1 : Int32) := ⟨_, rfl⟩
      have h := lt_e ew27 h
      refine sx_iinc (j := 2) (v := w27) (lv' := [(0, .ref a0), (3, .long s26.1), (5, .int w27)]) dX4_addTo_189 rfl (ii_1 ew27) (by decide) rfl ?_
      refine sx_goto (tgt := 135) dX4_addTo_192 rfl ?_
      obtain rfl := Option.some.inj h
      exact sx_sub [0, 1, 2] rfl (k1 _ rfl)
    · exact k3 _ (Option.some.inj (q2 _ (c2 _ e).symm)).symm
set_option maxRecDepth 100000 in
set_option maxHeartbeats 4000000 in
theorem tX4_addTo_b198 {l : Launch} {E : Ev} {r : Option Value} {L' L : HL} {a0 : Nat} {v3 : Int64} {v5 : Int32} {z : Tn (Int64 × Int32) (Int64)} (h0 : isX4 E a0) (h : fX4_addTo_b198 a0 v3 v5 L = some z) (k1 : ∀ s, z = .inl s → Sx l E yX4_addTo cX4_addTo 7 (some .long) (3) r L' 198 [(0, .ref a0), (3, .long s.1), (5, .int s.2)] [] L) (k2 : ∀ s, z = .inr (.inl s) → Sx l E yX4_addTo cX4_addTo 7 (some .long) (3) r L' 243 [(0, .ref a0), (3, .long s.1)] [] L) (k3 : ∀ v, z = .inr (.inr v) → r = some (.long v) ∧ L' = L) : Sx l E yX4_addTo cX4_addTo 7 (some .long) (3) r L' 198 [(0, .ref a0), (3, .long v3), (5, .int v5)] [] L := by
  unfold fX4_addTo_b198 at h
  refine sx_iload (j := 2) dX4_addTo_198 rfl ?_
  refine sx_aload_n (i := 0) (j := 0) dX4_addTo_200 rfl rfl ?_
  refine sx_get (k := 2) (v := .int (L.1 a0 2)) dX4_addTo_201 (X4_k h0) cf_4 (Or.inl wd_140) (by decide : 2 < 17) rfl ?_
  refine sx_icmp_ge (tgt := 243) dX4_addTo_204 rfl (fun c30 => ?_) (fun c30 => ?_)
  · have h := if_e c30 h
    obtain rfl := Option.some.inj h
    exact sx_sub [0, 1] rfl (k2 _ rfl)
  · have h := if_n c30 h
    refine sx_ldc2 (v := (31 : Int64)) dX4_addTo_207 wd_945 ?_
    refine sx_lload_n (i := 3) (j := 1) dX4_addTo_210 rfl rfl ?_
    refine sx_lmul dX4_addTo_211 ?_
    refine sx_aload_n (i := 0) (j := 0) dX4_addTo_212 rfl rfl ?_
    refine sx_get (k := 11) (v := .ref (a0 + 8)) dX4_addTo_213 (X4_k h0) cf_4 (Or.inl wd_162) (by decide : 11 < 17) (congrArg Value.ref (X4_r11 h0)) ?_
    refine sx_iload (j := 2) dX4_addTo_216 rfl ?_
    obtain ⟨c31, h⟩ := gd_e h
    refine sx_iald dX4_addTo_218 (X4_a11 h0) c31 ?_
    refine sx_i2l dX4_addTo_219 ?_
    refine sx_ladd dX4_addTo_220 ?_
    refine sx_topl (fun w32 ew32 => ?_)
    have h := lt_e ew32 h
    refine sx_lstore_n (i := 3) (lv' := [(0, .ref a0), (3, .long w32), (5, .int v5)]) dX4_addTo_221 rfl (by decide) rfl ?_
    refine sx_ldc2 (v := (31 : Int64)) dX4_addTo_222 wd_945 ?_
    refine sx_lload_n (i := 3) (j := 1) dX4_addTo_225 rfl rfl ?_
    refine sx_lmul dX4_addTo_226 ?_
    refine sx_aload_n (i := 0) (j := 0) dX4_addTo_227 rfl rfl ?_
    refine sx_get (k := 12) (v := .ref (a0 + 9)) dX4_addTo_228 (X4_k h0) cf_4 (Or.inl wd_165) (by decide : 12 < 17) (congrArg Value.ref (X4_r12 h0)) ?_
    refine sx_iload (j := 2) dX4_addTo_231 rfl ?_
    obtain ⟨c33, h⟩ := gd_e h
    refine sx_iald dX4_addTo_233 (X4_a12 h0) c33 ?_
    refine sx_i2l dX4_addTo_234 ?_
    refine sx_ladd dX4_addTo_235 ?_
    refine sx_topl (fun w34 ew34 => ?_)
    have h := lt_e ew34 h
    refine sx_lstore_n (i := 3) (lv' := [(0, .ref a0), (3, .long w34), (5, .int v5)]) dX4_addTo_236 rfl (by decide) rfl ?_
    obtain ⟨w35, ew35⟩ : ∃ w : Int32, w = v5 + (1 : Int32) := ⟨_, rfl⟩
    have h := lt_e ew35 h
    refine sx_iinc (j := 2) (v := w35) (lv' := [(0, .ref a0), (3, .long w34), (5, .int w35)]) dX4_addTo_237 rfl (ii_1 ew35) (by decide) rfl ?_
    refine sx_goto (tgt := 198) dX4_addTo_240 rfl ?_
    obtain rfl := Option.some.inj h
    exact sx_sub [0, 1, 2] rfl (k1 _ rfl)
set_option maxRecDepth 100000 in
set_option maxHeartbeats 4000000 in
theorem tX4_addTo_j285 {l : Launch} {E : Ev} {r : Option Value} {L' L : HL} {a0 : Nat} {v3 : Int64} {v5 : Int32} {v6 : Int32} {s0 : Int64} {s1 : Int32} {z : Tn (Int64 × Int32) (Int64)} (h0 : isX4 E a0) (h : fX4_addTo_j285 a0 v3 v5 v6 s0 s1 L = some z) (k1 : ∀ s, z = .inl s → Sx l E yX4_addTo cX4_addTo 7 (some .long) (3) r L' 258 [(0, .ref a0), (3, .long s.1), (5, .int v5), (6, .int s.2)] [] L) (k2 : ∀ s, z = .inr (.inl s) → Sx l E yX4_addTo cX4_addTo 7 (some .long) (3) r L' 294 [(0, .ref a0), (3, .long s.1), (5, .int v5)] [] L) (k3 : ∀ v, z = .inr (.inr v) → r = some (.long v) ∧ L' = L) : Sx l E yX4_addTo cX4_addTo 7 (some .long) (3) r L' 285 [(0, .ref a0), (5, .int v5), (6, .int v6)] [.int s1, .long s0] L := by
  unfold fX4_addTo_j285 at h
  refine sx_i2l dX4_addTo_285 ?_
  refine sx_ladd dX4_addTo_286 ?_
  refine sx_topl (fun w42 ew42 => ?_)
  have h := lt_e ew42 h
  refine sx_lstore_n (i := 3) (lv' := [(0, .ref a0), (3, .long w42), (5, .int v5), (6, .int v6)]) dX4_addTo_287 rfl (by decide) rfl ?_
  obtain ⟨w43, ew43⟩ : ∃ w : Int32, w = v6 + (1 : Int32) := ⟨_, rfl⟩
  have h := lt_e ew43 h
  refine sx_iinc (j := 3) (v := w43) (lv' := [(0, .ref a0), (3, .long w42), (5, .int v5), (6, .int w43)]) dX4_addTo_288 rfl (ii_1 ew43) (by decide) rfl ?_
  refine sx_goto (tgt := 258) dX4_addTo_291 rfl ?_
  obtain rfl := Option.some.inj h
  exact sx_sub [0, 1, 2, 3] rfl (k1 _ rfl)
set_option maxRecDepth 100000 in
set_option maxHeartbeats 4000000 in
theorem tX4_addTo_b258 {l : Launch} {E : Ev} {r : Option Value} {L' L : HL} {a0 : Nat} {v3 : Int64} {v5 : Int32} {v6 : Int32} {z : Tn (Int64 × Int32) (Int64)} (h0 : isX4 E a0) (h : fX4_addTo_b258 a0 v3 v5 v6 L = some z) (k1 : ∀ s, z = .inl s → Sx l E yX4_addTo cX4_addTo 7 (some .long) (3) r L' 258 [(0, .ref a0), (3, .long s.1), (5, .int v5), (6, .int s.2)] [] L) (k2 : ∀ s, z = .inr (.inl s) → Sx l E yX4_addTo cX4_addTo 7 (some .long) (3) r L' 294 [(0, .ref a0), (3, .long s.1), (5, .int v5)] [] L) (k3 : ∀ v, z = .inr (.inr v) → r = some (.long v) ∧ L' = L) : Sx l E yX4_addTo cX4_addTo 7 (some .long) (3) r L' 258 [(0, .ref a0), (3, .long v3), (5, .int v5), (6, .int v6)] [] L := by
  unfold fX4_addTo_b258 at h
  refine sx_iload (j := 3) dX4_addTo_258 rfl ?_
  refine sx_iconst (v := (4 : Int32)) dX4_addTo_260 (by decide) ?_
  refine sx_icmp_ge (tgt := 294) dX4_addTo_261 rfl (fun c39 => ?_) (fun c39 => ?_)
  · have h := if_e c39 h
    obtain rfl := Option.some.inj h
    exact sx_sub [0, 1, 2] rfl (k2 _ rfl)
  · have h := if_n c39 h
    refine sx_ldc2 (v := (31 : Int64)) dX4_addTo_264 wd_945 ?_
    refine sx_lload_n (i := 3) (j := 1) dX4_addTo_267 rfl rfl ?_
    refine sx_lmul dX4_addTo_268 ?_
    refine sx_aload_n (i := 0) (j := 0) dX4_addTo_269 rfl rfl ?_
    refine sx_iload (j := 2) dX4_addTo_270 rfl ?_
    refine sx_iload (j := 3) dX4_addTo_272 rfl ?_
    obtain ⟨z40, ez40, h⟩ := bd_e h
    refine sx_callV (avs := [.int v5, .int v6]) (rest := [.long ((31 : Int64) * v3)]) (st1 := [.int z40, .long ((31 : Int64) * v3)]) dX4_addTo_274 (mX4_hasFeud h0 ez40) ciX4_hasFeud (Or.inl wd_464) (X4_k h0) rfl rfl rfl rfl (rm_m rfl) rfl (Nat.le_of_ble_eq_true rfl) rfl ?_
    refine sx_if_eq (tgt := 284) dX4_addTo_277 rfl (fun c41 => ?_) (fun c41 => ?_)
    · have h := if_e c41 h
      refine sx_iconst (v := (0 : Int32)) dX4_addTo_284 (by decide) ?_
      exact sx_sub [0, 2, 3] rfl (tX4_addTo_j285 h0 h k1 k2 k3)
    · have h := if_n c41 h
      refine sx_iconst (v := (1 : Int32)) dX4_addTo_280 (by decide) ?_
      refine sx_goto (tgt := 285) dX4_addTo_281 rfl ?_
      exact sx_sub [0, 2, 3] rfl (tX4_addTo_j285 h0 h k1 k2 k3)
set_option maxRecDepth 100000 in
set_option maxHeartbeats 4000000 in
theorem tX4_addTo_b246 {l : Launch} {E : Ev} {r : Option Value} {L' L : HL} {a0 : Nat} {v3 : Int64} {v5 : Int32} {z : Tn (Int64 × Int32) (Int64)} (h0 : isX4 E a0) (h : fX4_addTo_b246 a0 v3 v5 L = some z) (k1 : ∀ s, z = .inl s → Sx l E yX4_addTo cX4_addTo 7 (some .long) (3) r L' 246 [(0, .ref a0), (3, .long s.1), (5, .int s.2)] [] L) (k2 : ∀ s, z = .inr (.inl s) → Sx l E yX4_addTo cX4_addTo 7 (some .long) (3) r L' 300 [(3, .long s.1)] [] L) (k3 : ∀ v, z = .inr (.inr v) → r = some (.long v) ∧ L' = L) : Sx l E yX4_addTo cX4_addTo 7 (some .long) (3) r L' 246 [(0, .ref a0), (3, .long v3), (5, .int v5)] [] L := by
  unfold fX4_addTo_b246 at h
  refine sx_iload (j := 2) dX4_addTo_246 rfl ?_
  refine sx_iconst (v := (4 : Int32)) dX4_addTo_248 (by decide) ?_
  refine sx_icmp_ge (tgt := 300) dX4_addTo_249 rfl (fun c37 => ?_) (fun c37 => ?_)
  · have h := if_e c37 h
    obtain rfl := Option.some.inj h
    exact sx_sub [1] rfl (k2 _ rfl)
  · have h := if_n c37 h
    refine sx_iload (j := 2) dX4_addTo_252 rfl ?_
    refine sx_iconst (v := (1 : Int32)) dX4_addTo_254 (by decide) ?_
    refine sx_iadd dX4_addTo_255 ?_
    refine sx_topi (fun w38 ew38 => ?_)
    have h := lt_e ew38 h
    refine sx_istore (lv' := [(0, .ref a0), (3, .long v3), (5, .int v5), (6, .int w38)]) dX4_addTo_256 (by decide) rfl ?_
    obtain ⟨x46, hx, q1, q2⟩ := lx_e h
    refine sx_sub (lv' := [(0, .ref a0), (3, .long v3), (5, .int v5), (6, .int w38)]) [0, 1, 2, 3] rfl ?_
    refine lp_go (fun s44 => Sx l E yX4_addTo cX4_addTo 7 (some .long) (3) r L' 258 [(0, .ref a0), (3, .long s44.1), (5, .int v5), (6, .int s44.2)] [] L) x46 (fun s44 z2 hz c1 c2 => ?_) FU _ hx
    refine tX4_addTo_b258 h0 hz (fun s2 e => c1 s2 e) (fun s44 e => ?_) (fun v e => ?_)
    · have h := q1 _ (c2 _ e).symm
      obtain ⟨w45, ew45⟩ : ∃ w : Int32, w = v5 + (1 : Int32) := ⟨_, rfl⟩
      have h := lt_e ew45 h
      refine sx_iinc (j := 2) (v := w45) (lv' := [(0, .ref a0), (3, .long s44.1), (5, .int w45)]) dX4_addTo_294 rfl (ii_1 ew45) (by decide) rfl ?_
      refine sx_goto (tgt := 246) dX4_addTo_297 rfl ?_
      obtain rfl := Option.some.inj h
      exact sx_sub [0, 1, 2] rfl (k1 _ rfl)
    · exact k3 _ (Option.some.inj (q2 _ (c2 _ e).symm)).symm
set_option maxRecDepth 100000 in
set_option maxHeartbeats 4000000 in
theorem mX4_addTo {l : Launch} {E : Ev} {L : HL} {a0 : Nat} {v1 : Int64} {z : Int64} (h0 : isX4 E a0) (h : fX4_addTo a0 v1 L = some z) : Mt l E yX4_addTo cX4_addTo 7 (some .long) (3) [.ref a0, .long v1] L (some (.long z)) L := by
  obtain ⟨r, hr⟩ : ∃ r : Option Value, r = some (.long z) := ⟨_, rfl⟩
  obtain ⟨L', hL'⟩ : ∃ L' : HL, L' = L := ⟨_, rfl⟩
  have k3 : r = some (.long z) ∧ L' = L := ⟨hr, hL'⟩
  refine mt_eq hr hL' ?_
  refine Mt.of (plainFor_of_name (by decide)) (Nat.le_of_ble_eq_true rfl) ?_
  refine sx_sub (lv' := [(0, .ref a0), (1, .long v1)]) [0, 1] rfl ?_
  unfold fX4_addTo at h
  refine sx_lload_n (i := 1) (j := 1) dX4_addTo_0 rfl rfl ?_
  refine sx_lstore_n (i := 3) (lv' := [(0, .ref a0), (1, .long v1), (3, .long v1)]) dX4_addTo_1 rfl (by decide) rfl ?_
  refine sx_iconst (v := (0 : Int32)) dX4_addTo_2 (by decide) ?_
  refine sx_istore (lv' := [(0, .ref a0), (1, .long v1), (3, .long v1), (5, .int (0 : Int32))]) dX4_addTo_3 (by decide) rfl ?_
  obtain ⟨x51, hx, q1, q2⟩ := lx_e h
  refine sx_sub (lv' := [(0, .ref a0), (3, .long v1), (5, .int (0 : Int32))]) [0, 2, 3] rfl ?_
  refine lp_go (fun s18 => Sx l E yX4_addTo cX4_addTo 7 (some .long) (3) r L' 5 [(0, .ref a0), (3, .long s18.1), (5, .int s18.2)] [] L) x51 (fun s18 z2 hz c1 c2 => ?_) FU _ hx
  refine tX4_addTo_b5 h0 hz (fun s2 e => c1 s2 e) (fun s18 e => ?_) (fun v e => ?_)
  · have h := q1 _ (c2 _ e).symm
    refine sx_iconst (v := (0 : Int32)) dX4_addTo_132 (by decide) ?_
    refine sx_istore (lv' := [(0, .ref a0), (3, .long s18.1), (5, .int (0 : Int32))]) dX4_addTo_133 (by decide) rfl ?_
    obtain ⟨x50, hx, q1, q2⟩ := lx_e h
    refine sx_sub (lv' := [(0, .ref a0), (3, .long s18.1), (5, .int (0 : Int32))]) [0, 1, 2] rfl ?_
    refine lp_go (fun s29 => Sx l E yX4_addTo cX4_addTo 7 (some .long) (3) r L' 135 [(0, .ref a0), (3, .long s29.1), (5, .int s29.2)] [] L) x50 (fun s29 z2 hz c1 c2 => ?_) FU _ hx
    refine tX4_addTo_b135 h0 hz (fun s2 e => c1 s2 e) (fun s29 e => ?_) (fun v e => ?_)
    · have h := q1 _ (c2 _ e).symm
      refine sx_iconst (v := (0 : Int32)) dX4_addTo_195 (by decide) ?_
      refine sx_istore (lv' := [(0, .ref a0), (3, .long s29.1), (5, .int (0 : Int32))]) dX4_addTo_196 (by decide) rfl ?_
      obtain ⟨x49, hx, q1, q2⟩ := lx_e h
      refine sx_sub (lv' := [(0, .ref a0), (3, .long s29.1), (5, .int (0 : Int32))]) [0, 1, 2] rfl ?_
      refine lp_go (fun s36 => Sx l E yX4_addTo cX4_addTo 7 (some .long) (3) r L' 198 [(0, .ref a0), (3, .long s36.1), (5, .int s36.2)] [] L) x49 (fun s36 z2 hz c1 c2 => ?_) FU _ hx
      refine tX4_addTo_b198 h0 hz (fun s2 e => c1 s2 e) (fun s36 e => ?_) (fun v e => ?_)
      · have h := q1 _ (c2 _ e).symm
        refine sx_iconst (v := (0 : Int32)) dX4_addTo_243 (by decide) ?_
        refine sx_istore (lv' := [(0, .ref a0), (3, .long s36.1), (5, .int (0 : Int32))]) dX4_addTo_244 (by decide) rfl ?_
        obtain ⟨x48, hx, q1, q2⟩ := lx_e h
        refine sx_sub (lv' := [(0, .ref a0), (3, .long s36.1), (5, .int (0 : Int32))]) [0, 1, 2] rfl ?_
        refine lp_go (fun s47 => Sx l E yX4_addTo cX4_addTo 7 (some .long) (3) r L' 246 [(0, .ref a0), (3, .long s47.1), (5, .int s47.2)] [] L) x48 (fun s47 z2 hz c1 c2 => ?_) FU _ hx
        refine tX4_addTo_b246 h0 hz (fun s2 e => c1 s2 e) (fun s47 e => ?_) (fun v e => ?_)
        · have h := q1 _ (c2 _ e).symm
          refine sx_lload_n (i := 3) (j := 0) dX4_addTo_300 rfl rfl ?_
          obtain rfl := Option.some.inj h
          exact sx_lret dX4_addTo_301 rfl k3.1 k3.2
        · have e2 := Option.some.inj (q2 _ (c2 _ e).symm)
          subst e2
          exact k3
      · have e2 := Option.some.inj (q2 _ (c2 _ e).symm)
        subst e2
        exact k3
    · have e2 := Option.some.inj (q2 _ (c2 _ e).symm)
      subst e2
      exact k3
  · have e2 := Option.some.inj (q2 _ (c2 _ e).symm)
    subst e2
    exact k3
