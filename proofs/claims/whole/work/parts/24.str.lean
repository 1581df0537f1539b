set_option maxRecDepth 100000 in
set_option maxHeartbeats 4000000 in
theorem tX5_isWord_b32 {l : Launch} {E : Ev} {r : Option Value} {L' L : HL} {a0 : Nat} {a1 : Nat} {v2 : Int32} {v3 : Int32} {z : Tn (Int32) (Int32)} (h0 : isX5 E a0) (h1 : a1 < 7) (h : fX5_isWord_b32 a0 a1 v2 v3 L = some z) (k1 : ∀ s, z = .inl s → Sx l E yX5_isWord cX5_isWord 4 (some .boolean) (8) r L' 32 [(0, .ref a0), (1, .ref (eS E a1)), (2, .int v2), (3, .int s)] [] L) (k2 : ∀ s, z = .inr (.inl s) → Sx l E yX5_isWord cX5_isWord 4 (some .boolean) (8) r L' 64 [] [] L) (k3 : ∀ v, z = .inr (.inr v) → r = some (.int v) ∧ L' = L) : Sx l E yX5_isWord cX5_isWord 4 (some .boolean) (8) r L' 32 [(0, .ref a0), (1, .ref (eS E a1)), (2, .int v2), (3, .int v3)] [] L := by
  unfold fX5_isWord_b32 at h
  refine sx_iload_n (i := 3) (j := 3) dX5_isWord_32 rfl rfl ?_
  refine sx_iload_n (i := 2) (j := 2) dX5_isWord_33 rfl rfl ?_
  refine sx_icmp_ge (tgt := 64) dX5_isWord_34 rfl (fun c4 => ?_) (fun c4 => ?_)
  · have h := if_e c4 h
    obtain rfl := Option.some.inj h
    exact sx_sub [] rfl (k2 _ rfl)
  · have h := if_n c4 h
    refine sx_aload_n (i := 0) (j := 0) dX5_isWord_37 rfl rfl ?_
    refine sx_get (k := 0) (v := .ref (a0 + 1)) dX5_isWord_38 (X5_k h0) cf_5 (Or.inl wd_266) (by decide : 0 < 8) (congrArg Value.ref (X5_r0 h0)) ?_
    refine sx_aload_n (i := 0) (j := 0) dX5_isWord_41 rfl rfl ?_
    refine sx_get (k := 6) (v := .int (L.1 a0 6)) dX5_isWord_42 (X5_k h0) cf_5 (Or.inl wd_274) (by decide : 6 < 8) rfl ?_
    refine sx_iload_n (i := 3) (j := 3) dX5_isWord_45 rfl rfl ?_
    refine sx_iadd dX5_isWord_46 ?_
    obtain ⟨c5, h⟩ := gd_e h
    refine sx_iald dX5_isWord_47 (X5_a0 h0) c5 ?_
    refine sx_aload_n (i := 1) (j := 1) dX5_isWord_48 rfl rfl ?_
    refine sx_iload_n (i := 3) (j := 3) dX5_isWord_49 rfl rfl ?_
    obtain ⟨c6, h⟩ := gd_e h
    refine sx_schr (i := a1) dX5_isWord_50 wd_533 h1 c6 (Nat.le_of_ble_eq_true rfl) ?_
    refine sx_icmp_eq (tgt := 58) dX5_isWord_53 rfl (fun c7 => ?_) (fun c7 => ?_)
    · have h := if_e c7 h
      obtain ⟨w8, ew8⟩ : ∃ w : Int32, w = v3 + (1 : Int32) := ⟨_, rfl⟩
      have h := lt_e ew8 h
      refine sx_iinc (j := 3) (v := w8) (lv' := [(0, .ref a0), (1, .ref (eS E a1)), (2, .int v2), (3, .int w8)]) dX5_isWord_58 rfl (ii_1 ew8) (by decide) rfl ?_
      refine sx_goto (tgt := 32) dX5_isWord_61 rfl ?_
      obtain rfl := Option.some.inj h
      exact sx_sub [0, 1, 2, 3] rfl (k1 _ rfl)
    · have h := if_n c7 h
      refine sx_iconst (v := (0 : Int32)) dX5_isWord_56 (by decide) ?_
      obtain rfl := Option.some.inj h
      exact sx_iret dX5_isWord_57 rfl (by decide) (k3 _ rfl).1 (k3 _ rfl).2
set_option maxRecDepth 100000 in
set_option maxHeartbeats 4000000 in
theorem mX5_isWord {l : Launch} {E : Ev} {L : HL} {a0 : Nat} {a1 : Nat} {z : Int32} (h0 : isX5 E a0) (h1 : a1 < 7) (h : fX5_isWord a0 a1 L = some z) : Mt l E yX5_isWord cX5_isWord 4 (some .boolean) (8) [.ref a0, .ref (eS E a1)] L (some (.int z)) L := by
  obtain ⟨r, hr⟩ : ∃ r : Option Value, r = some (.int z) := ⟨_, rfl⟩
  obtain ⟨L', hL'⟩ : ∃ L' : HL, L' = L := ⟨_, rfl⟩
  have k3 : r = some (.int z) ∧ L' = L := ⟨hr, hL'⟩
  refine mt_eq hr hL' ?_
  refine Mt.of (plainFor_of_name (by decide)) (Nat.le_of_ble_eq_true rfl) ?_
  refine sx_sub (lv' := [(0, .ref a0), (1, .ref (eS E a1))]) [0, 1] rfl ?_
  unfold fX5_isWord at h
  refine sx_aload_n (i := 1) (j := 1) dX5_isWord_0 rfl rfl ?_
  refine sx_slen (i := a1) dX5_isWord_1 wd_523 h1 (Nat.le_of_ble_eq_true rfl) ?_
  refine sx_topi (fun w1 ew1 => ?_)
  have h := lt_e ew1 h
  refine sx_istore_n (i := 2) (lv' := [(0, .ref a0), (1, .ref (eS E a1)), (2, .int w1)]) dX5_isWord_4 rfl (by decide) rfl ?_
  refine sx_aload_n (i := 0) (j := 0) dX5_isWord_5 rfl rfl ?_
  refine sx_get (k := 7) (v := .int (L.1 a0 7)) dX5_isWord_6 (X5_k h0) cf_5 (Or.inl wd_275) (by decide : 7 < 8) rfl ?_
  refine sx_aload_n (i := 0) (j := 0) dX5_isWord_9 rfl rfl ?_
  refine sx_get (k := 6) (v := .int (L.1 a0 6)) dX5_isWord_10 (X5_k h0) cf_5 (Or.inl wd_274) (by decide : 6 < 8) rfl ?_
  refine sx_isub dX5_isWord_13 ?_
  refine sx_iload_n (i := 2) (j := 2) dX5_isWord_14 rfl rfl ?_
  refine sx_icmp_ne (tgt := 28) dX5_isWord_15 rfl (fun c2 => ?_) (fun c2 => ?_)
  · have h := if_e c2 h
    refine sx_aload_n (i := 0) (j := 0) dX5_isWord_18 rfl rfl ?_
    refine sx_get (k := 7) (v := .int (L.1 a0 7)) dX5_isWord_19 (X5_k h0) cf_5 (Or.inl wd_275) (by decide : 7 < 8) rfl ?_
    refine sx_sipush (v := (150 : Int32)) dX5_isWord_22 (by decide) ?_
    refine sx_icmp_le (tgt := 30) dX5_isWord_25 rfl (fun c3 => ?_) (fun c3 => ?_)
    · have h := if_e c3 h
      refine sx_iconst (v := (0 : Int32)) dX5_isWord_30 (by decide) ?_
      refine sx_istore_n (i := 3) (lv' := [(0, .ref a0), (1, .ref (eS E a1)), (2, .int w1), (3, .int (0 : Int32))]) dX5_isWord_31 rfl (by decide) rfl ?_
      obtain ⟨x10, hx, q1, q2⟩ := lx_e h
      refine sx_sub (lv' := [(0, .ref a0), (1, .ref (eS E a1)), (2, .int w1), (3, .int (0 : Int32))]) [0, 1, 2, 3] rfl ?_
      refine lp_go (fun s9 => Sx l E yX5_isWord cX5_isWord 4 (some .boolean) (8) r L' 32 [(0, .ref a0), (1, .ref (eS E a1)), (2, .int w1), (3, .int s9)] [] L) x10 (fun s9 z2 hz c1 c2 => ?_) FU _ hx
      refine tX5_isWord_b32 h0 h1 hz (fun s2 e => c1 s2 e) (fun s9 e => ?_) (fun v e => ?_)
      · have h := q1 _ (c2 _ e).symm
        refine sx_iconst (v := (1 : Int32)) dX5_isWord_64 (by decide) ?_
        obtain rfl := Option.some.inj h
        exact sx_iret dX5_isWord_65 rfl (by decide) k3.1 k3.2
      · have e2 := Option.some.inj (q2 _ (c2 _ e).symm)
        subst e2
        exact k3
    · have h := if_n c3 h
      refine sx_iconst (v := (0 : Int32)) dX5_isWord_28 (by decide) ?_
      obtain rfl := Option.some.inj h
      exact sx_iret dX5_isWord_29 rfl (by decide) k3.1 k3.2
  · have h := if_n c2 h
    refine sx_iconst (v := (0 : Int32)) dX5_isWord_28 (by decide) ?_
    obtain rfl := Option.some.inj h
    exact sx_iret dX5_isWord_29 rfl (by decide) k3.1 k3.2
set_option maxRecDepth 100000 in
set_option maxHeartbeats 4000000 in
theorem mX5_wordKind {l : Launch} {E : Ev} {L : HL} {a0 : Nat} {z : Int32} (h0 : isX5 E a0) (h : fX5_wordKind a0 L = some z) : Mt l E yX5_wordKind cX5_wordKind 1 (some .int) (9) [.ref a0] L (some (.int z)) L := by
  obtain ⟨r, hr⟩ : ∃ r : Option Value, r = some (.int z) := ⟨_, rfl⟩
  obtain ⟨L', hL'⟩ : ∃ L' : HL, L' = L := ⟨_, rfl⟩
  have k3 : r = some (.int z) ∧ L' = L := ⟨hr, hL'⟩
  refine mt_eq hr hL' ?_
  refine Mt.of (plainFor_of_name (by decide)) (Nat.le_of_ble_eq_true rfl) ?_
  refine sx_sub (lv' := [(0, .ref a0)]) [0] rfl ?_
  unfold fX5_wordKind at h
  refine sx_aload_n (i := 0) (j := 0) dX5_wordKind_0 rfl rfl ?_
  refine sx_ldcS (i := 0) dX5_wordKind_1 rfl (by decide) rfl ?_
  obtain ⟨z1, ez1, h⟩ := bd_e h
  refine sx_callV (avs := [.ref (eS E 0)]) (rest := []) (st1 := [.int z1]) dX5_wordKind_3 (mX5_isWord h0 (by decide : 0 < 7) ez1) ciX5_isWord (Or.inl wd_519) (X5_k h0) rfl rfl rfl rfl (rm_m rfl) rfl (Nat.le_of_ble_eq_true rfl) rfl ?_
  refine sx_if_eq (tgt := 11) dX5_wordKind_6 rfl (fun c2 => ?_) (fun c2 => ?_)
  · have h := if_e c2 h
    refine sx_aload_n (i := 0) (j := 0) dX5_wordKind_11 rfl rfl ?_
    refine sx_ldcS (i := 1) dX5_wordKind_12 rfl (by decide) rfl ?_
    obtain ⟨z3, ez3, h⟩ := bd_e h
    refine sx_callV (avs := [.ref (eS E 1)]) (rest := []) (st1 := [.int z3]) dX5_wordKind_14 (mX5_isWord h0 (by decide : 1 < 7) ez3) ciX5_isWord (Or.inl wd_519) (X5_k h0) rfl rfl rfl rfl (rm_m rfl) rfl (Nat.le_of_ble_eq_true rfl) rfl ?_
    refine sx_if_eq (tgt := 22) dX5_wordKind_17 rfl (fun c4 => ?_) (fun c4 => ?_)
    · have h := if_e c4 h
      refine sx_aload_n (i := 0) (j := 0) dX5_wordKind_22 rfl rfl ?_
      refine sx_ldcS (i := 2) dX5_wordKind_23 rfl (by decide) rfl ?_
      obtain ⟨z5, ez5, h⟩ := bd_e h
      refine sx_callV (avs := [.ref (eS E 2)]) (rest := []) (st1 := [.int z5]) dX5_wordKind_25 (mX5_isWord h0 (by decide : 2 < 7) ez5) ciX5_isWord (Or.inl wd_519) (X5_k h0) rfl rfl rfl rfl (rm_m rfl) rfl (Nat.le_of_ble_eq_true rfl) rfl ?_
      refine sx_if_eq (tgt := 33) dX5_wordKind_28 rfl (fun c6 => ?_) (fun c6 => ?_)
      · have h := if_e c6 h
        refine sx_aload_n (i := 0) (j := 0) dX5_wordKind_33 rfl rfl ?_
        refine sx_ldcS (i := 3) dX5_wordKind_34 rfl (by decide) rfl ?_
        obtain ⟨z7, ez7, h⟩ := bd_e h
        refine sx_callV (avs := [.ref (eS E 3)]) (rest := []) (st1 := [.int z7]) dX5_wordKind_36 (mX5_isWord h0 (by decide : 3 < 7) ez7) ciX5_isWord (Or.inl wd_519) (X5_k h0) rfl rfl rfl rfl (rm_m rfl) rfl (Nat.le_of_ble_eq_true rfl) rfl ?_
        refine sx_if_eq (tgt := 44) dX5_wordKind_39 rfl (fun c8 => ?_) (fun c8 => ?_)
        · have h := if_e c8 h
          refine sx_aload_n (i := 0) (j := 0) dX5_wordKind_44 rfl rfl ?_
          refine sx_ldcS (i := 4) dX5_wordKind_45 rfl (by decide) rfl ?_
          obtain ⟨z9, ez9, h⟩ := bd_e h
          refine sx_callV (avs := [.ref (eS E 4)]) (rest := []) (st1 := [.int z9]) dX5_wordKind_47 (mX5_isWord h0 (by decide : 4 < 7) ez9) ciX5_isWord (Or.inl wd_519) (X5_k h0) rfl rfl rfl rfl (rm_m rfl) rfl (Nat.le_of_ble_eq_true rfl) rfl ?_
          refine sx_if_eq (tgt := 55) dX5_wordKind_50 rfl (fun c10 => ?_) (fun c10 => ?_)
          · have h := if_e c10 h
            refine sx_aload_n (i := 0) (j := 0) dX5_wordKind_55 rfl rfl ?_
            refine sx_ldcS (i := 5) dX5_wordKind_56 rfl (by decide) rfl ?_
            obtain ⟨z11, ez11, h⟩ := bd_e h
            refine sx_callV (avs := [.ref (eS E 5)]) (rest := []) (st1 := [.int z11]) dX5_wordKind_58 (mX5_isWord h0 (by decide : 5 < 7) ez11) ciX5_isWord (Or.inl wd_519) (X5_k h0) rfl rfl rfl rfl (rm_m rfl) rfl (Nat.le_of_ble_eq_true rfl) rfl ?_
            refine sx_if_eq (tgt := 66) dX5_wordKind_61 rfl (fun c12 => ?_) (fun c12 => ?_)
            · have h := if_e c12 h
              refine sx_aload_n (i := 0) (j := 0) dX5_wordKind_66 rfl rfl ?_
              refine sx_ldcS (i := 6) dX5_wordKind_67 rfl (by decide) rfl ?_
              obtain ⟨z13, ez13, h⟩ := bd_e h
              refine sx_callV (avs := [.ref (eS E 6)]) (rest := []) (st1 := [.int z13]) dX5_wordKind_69 (mX5_isWord h0 (by decide : 6 < 7) ez13) ciX5_isWord (Or.inl wd_519) (X5_k h0) rfl rfl rfl rfl (rm_m rfl) rfl (Nat.le_of_ble_eq_true rfl) rfl ?_
              refine sx_if_eq (tgt := 80) dX5_wordKind_72 rfl (fun c14 => ?_) (fun c14 => ?_)
              · have h := if_e c14 h
                refine sx_iconst (v := (-1 : Int32)) dX5_wordKind_80 (by decide) ?_
                obtain rfl := Option.some.inj h
                exact sx_iret dX5_wordKind_81 rfl rfl k3.1 k3.2
              · have h := if_n c14 h
                refine sx_bipush (v := (6 : Int32)) dX5_wordKind_75 (by decide) ?_
                refine sx_goto (tgt := 81) dX5_wordKind_77 rfl ?_
                obtain rfl := Option.some.inj h
                exact sx_iret dX5_wordKind_81 rfl rfl k3.1 k3.2
            · have h := if_n c12 h
              refine sx_iconst (v := (5 : Int32)) dX5_wordKind_64 (by decide) ?_
              obtain rfl := Option.some.inj h
              exact sx_iret dX5_wordKind_65 rfl rfl k3.1 k3.2
          · have h := if_n c10 h
            refine sx_iconst (v := (4 : Int32)) dX5_wordKind_53 (by decide) ?_
            obtain rfl := Option.some.inj h
            exact sx_iret dX5_wordKind_54 rfl rfl k3.1 k3.2
        · have h := if_n c8 h
          refine sx_iconst (v := (3 : Int32)) dX5_wordKind_42 (by decide) ?_
          obtain rfl := Option.some.inj h
          exact sx_iret dX5_wordKind_43 rfl rfl k3.1 k3.2
      · have h := if_n c6 h
        refine sx_iconst (v := (2 : Int32)) dX5_wordKind_31 (by decide) ?_
        obtain rfl := Option.some.inj h
        exact sx_iret dX5_wordKind_32 rfl rfl k3.1 k3.2
    · have h := if_n c4 h
      refine sx_iconst (v := (1 : Int32)) dX5_wordKind_20 (by decide) ?_
      obtain rfl := Option.some.inj h
      exact sx_iret dX5_wordKind_21 rfl rfl k3.1 k3.2
  · have h := if_n c2 h
    refine sx_iconst (v := (0 : Int32)) dX5_wordKind_9 (by decide) ?_
    obtain rfl := Option.some.inj h
    exact sx_iret dX5_wordKind_10 rfl rfl k3.1 k3.2
set_option maxRecDepth 100000 in
set_option maxHeartbeats 4000000 in
theorem tX5_parseItem_b69 {l : Launch} {E : Ev} {r : Option Value} {L' L : HL} {a0 : Nat} {v1 : Int32} {v4 : Int32} {v5 : Int32} {z : Tn (Int32 × HL) (Int32 × HL)} (h0 : isX5 E a0) (h : fX5_parseItem_b69 a0 v1 v4 v5 L = some z) (k1 : ∀ s, z = .inl s → Sx l E yX5_parseItem cX5_parseItem 6 (some .boolean) (10) r L' 69 [(0, .ref a0), (1, .int v1), (4, .int v4), (5, .int s.1)] [] s.2) (k2 : ∀ s, z = .inr (.inl s) → Sx l E yX5_parseItem cX5_parseItem 6 (some .boolean) (10) r L' 109 [(0, .ref a0)] [] s.2) (k3 : ∀ v, z = .inr (.inr v) → r = some (.int v.1) ∧ L' = v.2) : Sx l E yX5_parseItem cX5_parseItem 6 (some .boolean) (10) r L' 69 [(0, .ref a0), (1, .int v1), (4, .int v4), (5, .int v5)] [] L := by
  unfold fX5_parseItem_b69 at h
  refine sx_iload (j := 3) dX5_parseItem_69 rfl ?_
  refine sx_iload (j := 2) dX5_parseItem_71 rfl ?_
  refine sx_icmp_ge (tgt := 109) dX5_parseItem_73 rfl (fun c10 => ?_) (fun c10 => ?_)
  · have h := if_e c10 h
    obtain rfl := Option.some.inj h
    exact sx_sub [0] rfl (k2 _ rfl)
  · have h := if_n c10 h
    refine sx_aload_n (i := 0) (j := 0) dX5_parseItem_76 rfl rfl ?_
    refine sx_get (k := 5) (v := .int (L.1 a0 5)) dX5_parseItem_77 (X5_k h0) cf_5 (Or.inl wd_273) (by decide : 5 < 8) rfl ?_
    refine sx_iconst (v := (2 : Int32)) dX5_parseItem_80 (by decide) ?_
    refine sx_icmp_eq (tgt := 86) dX5_parseItem_81 rfl (fun c11 => ?_) (fun c11 => ?_)
    · have h := if_e c11 h
      refine sx_aload_n (i := 0) (j := 0) dX5_parseItem_86 rfl rfl ?_
      refine sx_get (k := 3) (v := .ref (a0 + 3)) dX5_parseItem_87 (X5_k h0) cf_5 (Or.inl wd_270) (by decide : 3 < 8) (congrArg Value.ref (X5_r3 h0)) ?_
      refine sx_iload_n (i := 1) (j := 1) dX5_parseItem_90 rfl rfl ?_
      obtain ⟨c12, h⟩ := gd_e h
      refine sx_aald dX5_parseItem_91 (X5_a3 h0) c12 ((X5_w3 h0) _ (in_lt c12)).1 ?_
      refine sx_iload (j := 3) dX5_parseItem_92 rfl ?_
      refine sx_aload_n (i := 0) (j := 0) dX5_parseItem_94 rfl rfl ?_
      obtain ⟨z13, ez13, h⟩ := bd_e h
      refine sx_callV (avs := []) (rest := [.int v5, .ref ((a0 + 3) + 1 + v1.toNatClampNeg)]) (st1 := [.int z13, .int v5, .ref ((a0 + 3) + 1 + v1.toNatClampNeg)]) dX5_parseItem_95 (mX5_tokenNumber h0 ez13) ciX5_tokenNumber (Or.inl wd_580) (X5_k h0) rfl rfl rfl rfl (rm_m rfl) rfl (Nat.le_of_ble_eq_true rfl) rfl ?_
      obtain ⟨c14, h⟩ := gd_e h
      refine sx_iast dX5_parseItem_98 ((X5_w3 h0) _ (in_lt c12)).2 c14 (fun L15 eL15 => ?_)
      have h := lt_e eL15 h
      refine sx_aload_n (i := 0) (j := 0) dX5_parseItem_99 rfl rfl ?_
      obtain ⟨z16, ez16, h⟩ := bd_e h
      refine sx_callV (avs := []) (rest := []) (st1 := []) dX5_parseItem_100 (mX5_nextToken h0 ez16) ciX5_nextToken (Or.inl wd_496) (X5_k h0) rfl rfl rfl rfl (rm_m rfl) rfl (Nat.le_of_ble_eq_true rfl) rfl ?_
      obtain ⟨w17, ew17⟩ : ∃ w : Int32, w = v5 + (1 : Int32) := ⟨_, rfl⟩
      have h := lt_e ew17 h
      refine sx_iinc (j := 3) (v := w17) (lv' := [(0, .ref a0), (1, .int v1), (4, .int v4), (5, .int w17)]) dX5_parseItem_103 rfl (ii_1 ew17) (by decide) rfl ?_
      refine sx_goto (tgt := 69) dX5_parseItem_106 rfl ?_
      obtain rfl := Option.some.inj h
      exact sx_sub [0, 1, 2, 3] rfl (k1 _ rfl)
    · have h := if_n c11 h
      refine sx_iconst (v := (0 : Int32)) dX5_parseItem_84 (by decide) ?_
      obtain rfl := Option.some.inj h
      exact sx_iret dX5_parseItem_85 rfl (by decide) (k3 _ rfl).1 (k3 _ rfl).2
set_option maxRecDepth 100000 in
set_option maxHeartbeats 4000000 in
theorem tX5_parseItem_j42 {l : Launch} {E : Ev} {r : Option Value} {L' L : HL} {a0 : Nat} {v1 : Int32} {v2 : Int32} {s0 : Int32} {z : Int32 × HL} (h0 : isX5 E a0) (h : fX5_parseItem_j42 a0 v1 v2 s0 L = some z) (k3 : r = some (.int z.1) ∧ L' = z.2) : Sx l E yX5_parseItem cX5_parseItem 6 (some .boolean) (10) r L' 42 [(0, .ref a0), (1, .int v1), (2, .int v2)] [.int s0] L := by
  unfold fX5_parseItem_j42 at h
  refine sx_istore_n (i := 3) (lv' := [(0, .ref a0), (1, .int v1), (2, .int v2), (3, .int s0)]) dX5_parseItem_42 rfl (by decide) rfl ?_
  refine sx_iload_n (i := 3) (j := 3) dX5_parseItem_43 rfl rfl ?_
  refine sx_if_ne (tgt := 49) dX5_parseItem_44 rfl (fun c5 => ?_) (fun c5 => ?_)
  · have h := if_e c5 h
    refine sx_iconst (v := (0 : Int32)) dX5_parseItem_47 (by decide) ?_
    obtain rfl := Option.some.inj h
    exact sx_iret dX5_parseItem_48 rfl (by decide) k3.1 k3.2
  · have h := if_n c5 h
    refine sx_aload_n (i := 0) (j := 0) dX5_parseItem_49 rfl rfl ?_
    refine sx_get (k := 2) (v := .ref (a0 + 2)) dX5_parseItem_50 (X5_k h0) cf_5 (Or.inl wd_269) (by decide : 2 < 8) (congrArg Value.ref (X5_r2 h0)) ?_
    refine sx_iload_n (i := 1) (j := 1) dX5_parseItem_53 rfl rfl ?_
    refine sx_iload_n (i := 2) (j := 2) dX5_parseItem_54 rfl rfl ?_
    obtain ⟨c6, h⟩ := gd_e h
    refine sx_iast dX5_parseItem_55 (X5_a2 h0) c6 (fun L7 eL7 => ?_)
    have h := lt_e eL7 h
    refine sx_aload_n (i := 0) (j := 0) dX5_parseItem_56 rfl rfl ?_
    obtain ⟨z8, ez8, h⟩ := bd_e h
    refine sx_callV (avs := []) (rest := []) (st1 := []) dX5_parseItem_57 (mX5_nextToken h0 ez8) ciX5_nextToken (Or.inl wd_496) (X5_k h0) rfl rfl rfl rfl (rm_m rfl) rfl (Nat.le_of_ble_eq_true rfl) rfl ?_
    refine sx_iload_n (i := 2) (j := 2) dX5_parseItem_60 rfl rfl ?_
    obtain ⟨z9, ez9, h⟩ := bd_e h
    refine sx_callS (avs := [.int v2]) (rest := []) (st1 := [.int z9]) dX5_parseItem_61 (mX5_numbersOf ez9) ctX5_numbersOf (Or.inl wd_577) rfl rfl (rm_m rfl) rfl (Nat.le_of_ble_eq_true rfl) rfl ?_
    refine sx_istore (lv' := [(0, .ref a0), (1, .int v1), (2, .int v2), (3, .int s0), (4, .int z9)]) dX5_parseItem_64 (by decide) rfl ?_
    refine sx_iconst (v := (0 : Int32)) dX5_parseItem_66 (by decide) ?_
    refine sx_istore (lv' := [(0, .ref a0), (1, .int v1), (2, .int v2), (3, .int s0), (4, .int z9), (5, .int (0 : Int32))]) dX5_parseItem_67 (by decide) rfl ?_
    obtain ⟨x21, hx, q1, q2⟩ := lx_e h
    refine sx_sub (lv' := [(0, .ref a0), (1, .int v1), (4, .int z9), (5, .int (0 : Int32))]) [0, 1, 4, 5] rfl ?_
    refine lp_go (fun s18 => Sx l E yX5_parseItem cX5_parseItem 6 (some .boolean) (10) r L' 69 [(0, .ref a0), (1, .int v1), (4, .int z9), (5, .int s18.1)] [] s18.2) x21 (fun s18 z2 hz c1 c2 => ?_) FU _ hx
    refine tX5_parseItem_b69 h0 hz (fun s2 e => c1 s2 e) (fun s18 e => ?_) (fun v e => ?_)
    · have h := q1 _ (c2 _ e).symm
      refine sx_aload_n (i := 0) (j := 0) dX5_parseItem_109 rfl rfl ?_
      refine sx_get (k := 5) (v := .int (s18.2.1 a0 5)) dX5_parseItem_110 (X5_k h0) cf_5 (Or.inl wd_273) (by decide : 5 < 8) rfl ?_
      refine sx_iconst (v := (3 : Int32)) dX5_parseItem_113 (by decide) ?_
      refine sx_icmp_eq (tgt := 119) dX5_parseItem_114 rfl (fun c19 => ?_) (fun c19 => ?_)
      · have h := if_e c19 h
        refine sx_aload_n (i := 0) (j := 0) dX5_parseItem_119 rfl rfl ?_
        obtain ⟨z20, ez20, h⟩ := bd_e h
        refine sx_callV (avs := []) (rest := []) (st1 := []) dX5_parseItem_120 (mX5_nextToken h0 ez20) ciX5_nextToken (Or.inl wd_496) (X5_k h0) rfl rfl rfl rfl (rm_m rfl) rfl (Nat.le_of_ble_eq_true rfl) rfl ?_
        refine sx_iconst (v := (1 : Int32)) dX5_parseItem_123 (by decide) ?_
        obtain rfl := Option.some.inj h
        exact sx_iret dX5_parseItem_124 rfl (by decide) k3.1 k3.2
      · have h := if_n c19 h
        refine sx_iconst (v := (0 : Int32)) dX5_parseItem_117 (by decide) ?_
        obtain rfl := Option.some.inj h
        exact sx_iret dX5_parseItem_118 rfl (by decide) k3.1 k3.2
    · have e2 := Option.some.inj (q2 _ (c2 _ e).symm)
      subst e2
      exact k3
set_option maxRecDepth 100000 in
set_option maxHeartbeats 4000000 in
theorem tX5_parseItem_j16 {l : Launch} {E : Ev} {r : Option Value} {L' L : HL} {a0 : Nat} {v1 : Int32} {s0 : Int32} {z : Int32 × HL} (h0 : isX5 E a0) (h : fX5_parseItem_j16 a0 v1 s0 L = some z) (k3 : r = some (.int z.1) ∧ L' = z.2) : Sx l E yX5_parseItem cX5_parseItem 6 (some .boolean) (10) r L' 16 [(0, .ref a0), (1, .int v1)] [.int s0] L := by
  unfold fX5_parseItem_j16 at h
  refine sx_istore_n (i := 2) (lv' := [(0, .ref a0), (1, .int v1), (2, .int s0)]) dX5_parseItem_16 rfl (by decide) rfl ?_
  refine sx_iload_n (i := 1) (j := 1) dX5_parseItem_17 rfl rfl ?_
  refine sx_if_ne (tgt := 33) dX5_parseItem_18 rfl (fun c3 => ?_) (fun c3 => ?_)
  · have h := if_e c3 h
    refine sx_iload_n (i := 2) (j := 2) dX5_parseItem_21 rfl rfl ?_
    refine sx_if_ne (tgt := 29) dX5_parseItem_22 rfl (fun c4 => ?_) (fun c4 => ?_)
    · have h := if_e c4 h
      refine sx_iconst (v := (1 : Int32)) dX5_parseItem_25 (by decide) ?_
      refine sx_goto (tgt := 42) dX5_parseItem_26 rfl ?_
      exact sx_sub [0, 1, 2] rfl (tX5_parseItem_j42 h0 h k3)
    · have h := if_n c4 h
      refine sx_iconst (v := (0 : Int32)) dX5_parseItem_29 (by decide) ?_
      refine sx_goto (tgt := 42) dX5_parseItem_30 rfl ?_
      exact sx_sub [0, 1, 2] rfl (tX5_parseItem_j42 h0 h k3)
  · have h := if_n c3 h
    refine sx_iload_n (i := 2) (j := 2) dX5_parseItem_33 rfl rfl ?_
    refine sx_if_le (tgt := 41) dX5_parseItem_34 rfl (fun c22 => ?_) (fun c22 => ?_)
    · have h := if_e c22 h
      refine sx_iconst (v := (0 : Int32)) dX5_parseItem_41 (by decide) ?_
      exact sx_sub [0, 1, 2] rfl (tX5_parseItem_j42 h0 h k3)
    · have h := if_n c22 h
      refine sx_iconst (v := (1 : Int32)) dX5_parseItem_37 (by decide) ?_
      refine sx_goto (tgt := 42) dX5_parseItem_38 rfl ?_
      exact sx_sub [0, 1, 2] rfl (tX5_parseItem_j42 h0 h k3)
set_option maxRecDepth 100000 in
set_option maxHeartbeats 4000000 in
theorem mX5_parseItem {l : Launch} {E : Ev} {L : HL} {a0 : Nat} {v1 : Int32} {z : Int32 × HL} (h0 : isX5 E a0) (h : fX5_parseItem a0 v1 L = some z) : Mt l E yX5_parseItem cX5_parseItem 6 (some .boolean) (10) [.ref a0, .int v1] L (some (.int z.1)) (z.2) := by
  obtain ⟨r, hr⟩ : ∃ r : Option Value, r = some (.int z.1) := ⟨_, rfl⟩
  obtain ⟨L', hL'⟩ : ∃ L' : HL, L' = z.2 := ⟨_, rfl⟩
  have k3 : r = some (.int z.1) ∧ L' = z.2 := ⟨hr, hL'⟩
  refine mt_eq hr hL' ?_
  refine Mt.of (plainFor_of_name (by decide)) (Nat.le_of_ble_eq_true rfl) ?_
  refine sx_sub (lv' := [(0, .ref a0), (1, .int v1)]) [0, 1] rfl ?_
  unfold fX5_parseItem at h
  refine sx_aload_n (i := 0) (j := 0) dX5_parseItem_0 rfl rfl ?_
  refine sx_get (k := 5) (v := .int (L.1 a0 5)) dX5_parseItem_1 (X5_k h0) cf_5 (Or.inl wd_273) (by decide : 5 < 8) rfl ?_
  refine sx_iconst (v := (1 : Int32)) dX5_parseItem_4 (by decide) ?_
  refine sx_icmp_ne (tgt := 15) dX5_parseItem_5 rfl (fun c1 => ?_) (fun c1 => ?_)
  · have h := if_e c1 h
    refine sx_aload_n (i := 0) (j := 0) dX5_parseItem_8 rfl rfl ?_
    obtain ⟨z2, ez2, h⟩ := bd_e h
    refine sx_callV (avs := []) (rest := []) (st1 := [.int z2]) dX5_parseItem_9 (mX5_wordKind h0 ez2) ciX5_wordKind (Or.inl wd_514) (X5_k h0) rfl rfl rfl rfl (rm_m rfl) rfl (Nat.le_of_ble_eq_true rfl) rfl ?_
    refine sx_goto (tgt := 16) dX5_parseItem_12 rfl ?_
    exact sx_sub [0, 1] rfl (tX5_parseItem_j16 h0 h k3)
  · have h := if_n c1 h
    refine sx_iconst (v := (-1 : Int32)) dX5_parseItem_15 (by decide) ?_
    exact sx_sub [0, 1] rfl (tX5_parseItem_j16 h0 h k3)
set_option maxRecDepth 100000 in
set_option maxHeartbeats 4000000 in
theorem tX5_parse_j38 {l : Launch} {E : Ev} {r : Option Value} {L' L : HL} {a0 : Nat} {v1 : Int32} {z : Tn (Int32 × HL) (Int32 × HL)} (h0 : isX5 E a0) (h : fX5_parse_j38 a0 v1 L = some z) (k1 : ∀ s, z = .inl s → Sx l E yX5_parse cX5_parse 2 (some .int) (11) r L' 16 [(0, .ref a0), (1, .int s.1)] [] s.2) (k2 : ∀ s, z = .inr (.inl s) → Sx l E yX5_parse cX5_parse 2 (some .int) (11) r L' 67 [(0, .ref a0)] [] s.2) (k3 : ∀ v, z = .inr (.inr v) → r = some (.int v.1) ∧ L' = v.2) : Sx l E yX5_parse cX5_parse 2 (some .int) (11) r L' 38 [(0, .ref a0), (1, .int v1)] [] L := by
  unfold fX5_parse_j38 at h
  refine sx_aload_n (i := 0) (j := 0) dX5_parse_38 rfl rfl ?_
  refine sx_iload_n (i := 1) (j := 1) dX5_parse_39 rfl rfl ?_
  obtain ⟨z7, ez7, h⟩ := bd_e h
  refine sx_callV (avs := [.int v1]) (rest := []) (st1 := [.int z7.1]) dX5_parse_40 (mX5_parseItem h0 ez7) ciX5_parseItem (Or.inl wd_510) (X5_k h0) rfl rfl rfl rfl (rm_m rfl) rfl (Nat.le_of_ble_eq_true rfl) rfl ?_
  refine sx_if_ne (tgt := 51) dX5_parse_43 rfl (fun c8 => ?_) (fun c8 => ?_)
  · have h := if_e c8 h
    refine sx_aload_n (i := 0) (j := 0) dX5_parse_46 rfl rfl ?_
    refine sx_get (k := 6) (v := .int (z7.2.1 a0 6)) dX5_parse_47 (X5_k h0) cf_5 (Or.inl wd_274) (by decide : 6 < 8) rfl ?_
    obtain rfl := Option.some.inj h
    exact sx_iret dX5_parse_50 rfl rfl (k3 _ rfl).1 (k3 _ rfl).2
  · have h := if_n c8 h
    refine sx_aload_n (i := 0) (j := 0) dX5_parse_51 rfl rfl ?_
    refine sx_dup dX5_parse_52 rfl ?_
    refine sx_get (k := 4) (v := .int (z7.2.1 a0 4)) dX5_parse_53 (X5_k h0) cf_5 (Or.inl wd_271) (by decide : 4 < 8) rfl ?_
    refine sx_iconst (v := (1 : Int32)) dX5_parse_56 (by decide) ?_
    refine sx_iadd dX5_parse_57 ?_
    refine sx_putI (k := 4) dX5_parse_58 (X5_k h0) cf_5 (Or.inl wd_271) (by decide : 4 < 8) rfl rfl rfl rfl (fun L9 eL9 => ?_)
    have h := lt_e eL9 h
    obtain ⟨w10, ew10⟩ : ∃ w : Int32, w = v1 + (1 : Int32) := ⟨_, rfl⟩
    have h := lt_e ew10 h
    refine sx_iinc (j := 1) (v := w10) (lv' := [(0, .ref a0), (1, .int w10)]) dX5_parse_61 rfl (ii_1 ew10) (by decide) rfl ?_
    refine sx_goto (tgt := 16) dX5_parse_64 rfl ?_
    obtain rfl := Option.some.inj h
    exact sx_sub [0, 1] rfl (k1 _ rfl)
set_option maxRecDepth 100000 in
set_option maxHeartbeats 4000000 in
theorem tX5_parse_b16 {l : Launch} {E : Ev} {r : Option Value} {L' L : HL} {a0 : Nat} {v1 : Int32} {z : Tn (Int32 × HL) (Int32 × HL)} (h0 : isX5 E a0) (h : fX5_parse_b16 a0 v1 L = some z) (k1 : ∀ s, z = .inl s → Sx l E yX5_parse cX5_parse 2 (some .int) (11) r L' 16 [(0, .ref a0), (1, .int s.1)] [] s.2) (k2 : ∀ s, z = .inr (.inl s) → Sx l E yX5_parse cX5_parse 2 (some .int) (11) r L' 67 [(0, .ref a0)] [] s.2) (k3 : ∀ v, z = .inr (.inr v) → r = some (.int v.1) ∧ L' = v.2) : Sx l E yX5_parse cX5_parse 2 (some .int) (11) r L' 16 [(0, .ref a0), (1, .int v1)] [] L := by
  unfold fX5_parse_b16 at h
  refine sx_iload_n (i := 1) (j := 1) dX5_parse_16 rfl rfl ?_
  refine sx_bipush (v := (24 : Int32)) dX5_parse_17 (by decide) ?_
  refine sx_icmp_ge (tgt := 67) dX5_parse_19 rfl (fun c4 => ?_) (fun c4 => ?_)
  · have h := if_e c4 h
    obtain rfl := Option.some.inj h
    exact sx_sub [0] rfl (k2 _ rfl)
  · have h := if_n c4 h
    refine sx_aload_n (i := 0) (j := 0) dX5_parse_22 rfl rfl ?_
    refine sx_get (k := 5) (v := .int (L.1 a0 5)) dX5_parse_23 (X5_k h0) cf_5 (Or.inl wd_273) (by decide : 5 < 8) rfl ?_
    refine sx_if_ne (tgt := 38) dX5_parse_26 rfl (fun c5 => ?_) (fun c5 => ?_)
    · have h := if_e c5 h
      refine sx_aload_n (i := 0) (j := 0) dX5_parse_29 rfl rfl ?_
      refine sx_get (k := 4) (v := .int (L.1 a0 4)) dX5_parse_30 (X5_k h0) cf_5 (Or.inl wd_271) (by decide : 4 < 8) rfl ?_
      refine sx_if_le (tgt := 38) dX5_parse_33 rfl (fun c6 => ?_) (fun c6 => ?_)
      · have h := if_e c6 h
        exact sx_sub [0, 1] rfl (tX5_parse_j38 h0 h k1 k2 k3)
      · have h := if_n c6 h
        refine sx_iconst (v := (-1 : Int32)) dX5_parse_36 (by decide) ?_
        obtain rfl := Option.some.inj h
        exact sx_iret dX5_parse_37 rfl rfl (k3 _ rfl).1 (k3 _ rfl).2
    · have h := if_n c5 h
      exact sx_sub [0, 1] rfl (tX5_parse_j38 h0 h k1 k2 k3)
set_option maxRecDepth 100000 in
set_option maxHeartbeats 4000000 in
theorem mX5_parse {l : Launch} {E : Ev} {L : HL} {a0 : Nat} {z : Int32 × HL} (h0 : isX5 E a0) (h : fX5_parse a0 L = some z) : Mt l E yX5_parse cX5_parse 2 (some .int) (11) [.ref a0] L (some (.int z.1)) (z.2) := by
  obtain ⟨r, hr⟩ : ∃ r : Option Value, r = some (.int z.1) := ⟨_, rfl⟩
  obtain ⟨L', hL'⟩ : ∃ L' : HL, L' = z.2 := ⟨_, rfl⟩
  have k3 : r = some (.int z.1) ∧ L' = z.2 := ⟨hr, hL'⟩
  refine mt_eq hr hL' ?_
  refine Mt.of (plainFor_of_name (by decide)) (Nat.le_of_ble_eq_true rfl) ?_
  refine sx_sub (lv' := [(0, .ref a0)]) [0] rfl ?_
  unfold fX5_parse at h
  refine sx_aload_n (i := 0) (j := 0) dX5_parse_0 rfl rfl ?_
  refine sx_iconst (v := (0 : Int32)) dX5_parse_1 (by decide) ?_
  refine sx_putI (k := 4) dX5_parse_2 (X5_k h0) cf_5 (Or.inl wd_271) (by decide : 4 < 8) rfl rfl rfl rfl (fun L1 eL1 => ?_)
  have h := lt_e eL1 h
  refine sx_aload_n (i := 0) (j := 0) dX5_parse_5 rfl rfl ?_
  refine sx_iconst (v := (0 : Int32)) dX5_parse_6 (by decide) ?_
  refine sx_putI (k := 7) dX5_parse_7 (X5_k h0) cf_5 (Or.inl wd_275) (by decide : 7 < 8) rfl rfl rfl rfl (fun L2 eL2 => ?_)
  have h := lt_e eL2 h
  refine sx_aload_n (i := 0) (j := 0) dX5_parse_10 rfl rfl ?_
  obtain ⟨z3, ez3, h⟩ := bd_e h
  refine sx_callV (avs := []) (rest := []) (st1 := []) dX5_parse_11 (mX5_nextToken h0 ez3) ciX5_nextToken (Or.inl wd_496) (X5_k h0) rfl rfl rfl rfl (rm_m rfl) rfl (Nat.le_of_ble_eq_true rfl) rfl ?_
  refine sx_iconst (v := (0 : Int32)) dX5_parse_14 (by decide) ?_
  refine sx_istore_n (i := 1) (lv' := [(0, .ref a0), (1, .int (0 : Int32))]) dX5_parse_15 rfl (by decide) rfl ?_
  obtain ⟨x13, hx, q1, q2⟩ := lx_e h
  refine sx_sub (lv' := [(0, .ref a0), (1, .int (0 : Int32))]) [0, 1] rfl ?_
  refine lp_go (fun s11 => Sx l E yX5_parse cX5_parse 2 (some .int) (11) r L' 16 [(0, .ref a0), (1, .int s11.1)] [] s11.2) x13 (fun s11 z2 hz c1 c2 => ?_) FU _ hx
  refine tX5_parse_b16 h0 hz (fun s2 e => c1 s2 e) (fun s11 e => ?_) (fun v e => ?_)
  · have h := q1 _ (c2 _ e).symm
    refine sx_aload_n (i := 0) (j := 0) dX5_parse_67 rfl rfl ?_
    refine sx_get (k := 5) (v := .int (s11.2.1 a0 5)) dX5_parse_68 (X5_k h0) cf_5 (Or.inl wd_273) (by decide : 5 < 8) rfl ?_
    refine sx_if_ne (tgt := 78) dX5_parse_71 rfl (fun c12 => ?_) (fun c12 => ?_)
    · have h := if_e c12 h
      refine sx_iconst (v := (-1 : Int32)) dX5_parse_74 (by decide) ?_
      refine sx_goto (tgt := 82) dX5_parse_75 rfl ?_
      obtain rfl := Option.some.inj h
      exact sx_iret dX5_parse_82 rfl rfl k3.1 k3.2
    · have h := if_n c12 h
      refine sx_aload_n (i := 0) (j := 0) dX5_parse_78 rfl rfl ?_
      refine sx_get (k := 6) (v := .int (s11.2.1 a0 6)) dX5_parse_79 (X5_k h0) cf_5 (Or.inl wd_274) (by decide : 6 < 8) rfl ?_
      obtain rfl := Option.some.inj h
      exact sx_iret dX5_parse_82 rfl rfl k3.1 k3.2
  · have e2 := Option.some.inj (q2 _ (c2 _ e).symm)
    subst e2
    exact k3
set_option maxRecDepth 100000 in
set_option maxHeartbeats 4000000 in
theorem mX6_read {l : Launch} {E : Ev} {L : HL} {a0 : Nat} {z : Int32 × HL} (h0 : isX6 E a0) (h : fX6_read a0 L = some z) : Mt l E yX6_read cX6_read 3 (some .int) (12) [.ref a0] L (some (.int z.1)) (z.2) := by
  obtain ⟨r, hr⟩ : ∃ r : Option Value, r = some (.int z.1) := ⟨_, rfl⟩
  obtain ⟨L', hL'⟩ : ∃ L' : HL, L' = z.2 := ⟨_, rfl⟩
  have k3 : r = some (.int z.1) ∧ L' = z.2 := ⟨hr, hL'⟩
  refine mt_eq hr hL' ?_
  refine Mt.of (plainFor_of_name (by decide)) (Nat.le_of_ble_eq_true rfl) ?_
  refine sx_sub (lv' := [(0, .ref a0)]) [0] rfl ?_
  unfold fX6_read at h
  refine sx_aload_n (i := 0) (j := 0) dX6_read_0 rfl rfl ?_
  refine sx_get (k := 5) (v := .ref (a0 + 122)) dX6_read_1 (X6_k h0) cf_6 (Or.inl wd_345) (by decide : 5 < 13) (congrArg Value.ref (X6_r5 h0)) ?_
  obtain ⟨z1, ez1, h⟩ := bd_e h
  refine sx_callV (avs := []) (rest := []) (st1 := [.int z1.1]) dX6_read_4 (mX5_parse (X6_o5 h0) ez1) ciX5_parse (Or.inr ⟨_, nw_492⟩) (X5_k (X6_o5 h0)) rfl rfl rfl rfl (rm_m rfl) rfl (Nat.le_of_ble_eq_true rfl) rfl ?_
  refine sx_istore_n (i := 1) (lv' := [(0, .ref a0), (1, .int z1.1)]) dX6_read_7 rfl (by decide) rfl ?_
  refine sx_iload_n (i := 1) (j := 1) dX6_read_8 rfl rfl ?_
  refine sx_iconst (v := (-1 : Int32)) dX6_read_9 (by decide) ?_
  refine sx_icmp_eq (tgt := 18) dX6_read_10 rfl (fun c2 => ?_) (fun c2 => ?_)
  · have h := if_e c2 h
    refine sx_aload_n (i := 0) (j := 0) dX6_read_18 rfl rfl ?_
    refine sx_get (k := 5) (v := .ref (a0 + 122)) dX6_read_19 (X6_k h0) cf_6 (Or.inl wd_345) (by decide : 5 < 13) (congrArg Value.ref (X6_r5 h0)) ?_
    refine sx_aload_n (i := 0) (j := 0) dX6_read_22 rfl rfl ?_
    refine sx_get (k := 1) (v := .ref (a0 + 15)) dX6_read_23 (X6_k h0) cf_6 (Or.inl wd_341) (by decide : 1 < 13) (congrArg Value.ref (X6_r1 h0)) ?_
    obtain ⟨z3, ez3, h⟩ := bd_e h
    refine sx_callV (avs := [.ref (a0 + 15)]) (rest := []) (st1 := [.int z3.1]) dX6_read_26 (mX5_tellTo (X6_o5 h0) (X6_o1 h0) ez3) ciX5_tellTo (Or.inr ⟨_, nw_584⟩) (X5_k (X6_o5 h0)) rfl rfl rfl rfl (rm_m rfl) rfl (Nat.le_of_ble_eq_true rfl) rfl ?_
    refine sx_istore_n (i := 2) (lv' := [(0, .ref a0), (1, .int z1.1), (2, .int z3.1)]) dX6_read_29 rfl (by decide) rfl ?_
    refine sx_iload_n (i := 2) (j := 2) dX6_read_30 rfl rfl ?_
    refine sx_iconst (v := (-1 : Int32)) dX6_read_31 (by decide) ?_
    refine sx_icmp_eq (tgt := 41) dX6_read_32 rfl (fun c4 => ?_) (fun c4 => ?_)
    · have h := if_e c4 h
      refine sx_aload_n (i := 0) (j := 0) dX6_read_41 rfl rfl ?_
      refine sx_get (k := 0) (v := .ref (a0 + 1)) dX6_read_42 (X6_k h0) cf_6 (Or.inl wd_340) (by decide : 0 < 13) (congrArg Value.ref (X6_r0 h0)) ?_
      refine sx_aload_n (i := 0) (j := 0) dX6_read_45 rfl rfl ?_
      refine sx_get (k := 1) (v := .ref (a0 + 15)) dX6_read_46 (X6_k h0) cf_6 (Or.inl wd_341) (by decide : 1 < 13) (congrArg Value.ref (X6_r1 h0)) ?_
      obtain ⟨z5, ez5, h⟩ := bd_e h
      refine sx_callV (avs := [.ref (a0 + 15)]) (rest := []) (st1 := []) dX6_read_49 (mX4_takeFrom (X6_o0 h0) (X6_o1 h0) ez5) ciX4_takeFrom (Or.inr ⟨_, nw_598⟩) (X4_k (X6_o0 h0)) rfl rfl rfl rfl (rm_m rfl) rfl (Nat.le_of_ble_eq_true rfl) rfl ?_
      refine sx_aload_n (i := 0) (j := 0) dX6_read_52 rfl rfl ?_
      refine sx_get (k := 2) (v := .ref (a0 + 29)) dX6_read_53 (X6_k h0) cf_6 (Or.inl wd_342) (by decide : 2 < 13) (congrArg Value.ref (X6_r2 h0)) ?_
      obtain ⟨z6, ez6, h⟩ := bd_e h
      refine sx_callV (avs := []) (rest := []) (st1 := []) dX6_read_56 (mX3_forget (X6_o2 h0) ez6) ciX3_forget (Or.inr ⟨_, nw_388⟩) (X3_k (X6_o2 h0)) rfl rfl rfl rfl (rm_m rfl) rfl (Nat.le_of_ble_eq_true rfl) rfl ?_
      refine sx_aload_n (i := 0) (j := 0) dX6_read_59 rfl rfl ?_
      refine sx_get (k := 5) (v := .ref (a0 + 122)) dX6_read_60 (X6_k h0) cf_6 (Or.inl wd_345) (by decide : 5 < 13) (congrArg Value.ref (X6_r5 h0)) ?_
      refine sx_get (k := 4) (v := .int (z6.1 (a0 + 122) 4)) dX6_read_63 (X5_k (X6_o5 h0)) cf_5 (Or.inr ⟨_, nw_272⟩) (by decide : 4 < 8) rfl ?_
      obtain rfl := Option.some.inj h
      exact sx_iret dX6_read_66 rfl rfl k3.1 k3.2
    · have h := if_n c4 h
      refine sx_sipush (v := (-1000 : Int32)) dX6_read_35 (by decide) ?_
      refine sx_iload_n (i := 2) (j := 2) dX6_read_38 rfl rfl ?_
      refine sx_isub dX6_read_39 ?_
      obtain rfl := Option.some.inj h
      exact sx_iret dX6_read_40 rfl rfl k3.1 k3.2
  · have h := if_n c2 h
    refine sx_bipush (v := (-10 : Int32)) dX6_read_13 (by decide) ?_
    refine sx_iload_n (i := 1) (j := 1) dX6_read_15 rfl rfl ?_
    refine sx_isub dX6_read_16 ?_
    obtain rfl := Option.some.inj h
    exact sx_iret dX6_read_17 rfl rfl k3.1 k3.2
