
section SLW
variable {l : Launch} {E : Ev} {y : MethodName} {cc : ByteArray} {n : Nat} {ret : Option FieldType} {X : Xe} {L : HL} {pc : Nat} {lv : List (Nat × Value)} {st : List Value}
theorem ii_5 {w x : Int32} (h : w = x + (5 : Int32)) : x + Int32.ofInt 5 = w := by rw [h]; rfl
theorem rm_le {X : Xe} {a b : Nat} (h : RM X a) (hab : b ≤ a) : RM X b := ⟨by have := h.1; omega, by have := h.2.1; omega, h.2.2⟩
theorem sx_sld {b N : Nat} {xs : Nat → Int32} {i : Int32} (hX : ∀ s, X.2.2.2.2 s → va_X b N xs s s.heap ∧ b < s.heap.size) (hb : eK E b = none) (hd : decode cc pc = .ok (.iaload, 1)) (hin : vp_in i N) (kk : Sy l E y cc n ret X (pc + 1) lv (.int (xs i.toNatClampNeg) :: st) L) : Sy l E y cc n ret X pc lv (.int i :: .ref b :: st) L := by
  intro p e s m args below meth c0 H locs ls C hP hS hl
  have K := kk p e s m args below meth c0 H locs ls C hP hS hl
  obtain ⟨h1, h2⟩ := hX s C.2.2.2.2.2.2.1.2
  exact va_sld C.1 C.2.1 h1 h2 (show ¬ FA E b from fun ⟨k, q⟩ => by rw [hb] at q; cases q) (hs_va hS) hin hd K
theorem sx_scl {b N : Nat} {xs : Nat → Int32} (hX : ∀ s, X.2.2.2.2 s → va_X b N xs s s.heap ∧ b < s.heap.size) (hb : eK E b = none) (hd : decode cc pc = .ok (.arraylength, 1)) (kk : Sy l E y cc n ret X (pc + 1) lv (.int (Int32.ofNat N) :: st) L) : Sy l E y cc n ret X pc lv (.ref b :: st) L := by
  intro p e s m args below meth c0 H locs ls C hP hS hl
  have K := kk p e s m args below meth c0 H locs ls C hP hS hl
  obtain ⟨h1, h2⟩ := hX s C.2.2.2.2.2.2.1.2
  exact va_slen C.1 C.2.1 h1 h2 (show ¬ FA E b from fun ⟨k, q⟩ => by rw [hb] at q; cases q) (hs_va hS) hd K
end SLW
set_option maxRecDepth 100000 in
set_option maxHeartbeats 4000000 in
theorem tL_law_j381 {l : Launch} {E : Ev} {L : HL} {X : Xe} {a0 : Nat} {xs : Nat → Int32} {n0 : Nat} {a1 : Nat} {a2 : Nat} {v3 : Int32} {s0 : Int32} {s2 : Int32} {s3 : Int32} {s4 : Int32} {z : Tn (Int32 × HL) (Int32 × HL)} (hrm : RM X 20) (hend : ∀ (pc : Nat) (lv : List (Nat × Value)) (L : HL), decode cL_law pc = .ok (.ireturn, 1) → Sy l E yL_law cL_law 4 (some .boolean) X pc lv [.int 1] L) (hscr : ∀ s, X.2.2.2.2 s → va_X a0 n0 xs s s.heap ∧ a0 < s.heap.size) (hb : eK E a0 = none) (h1 : isX6 E a1) (h2 : isX7 E a2) (h : fL_law_j381 xs n0 a1 a2 v3 s0 s2 s3 s4 L = some z) (k1 : ∀ s, z = .inl s → Sy l E yL_law cL_law 4 (some .boolean) X 18 [(0, .ref a0), (1, .ref a1), (2, .ref a2), (3, .int s.1)] [] s.2) (k2 : ∀ s, z = .inr (.inl s) → Sy l E yL_law cL_law 4 (some .boolean) X 1388 [] [] s.2) (k3 : ∀ v, z = .inr (.inr v) → v.1 = 1) : Sy l E yL_law cL_law 4 (some .boolean) X 381 [(0, .ref a0), (1, .ref a1), (2, .ref a2), (3, .int v3)] [.int s4, .int s3, .int s2, .ref a2, .int s0] L := by
  unfold fL_law_j381 at h
  obtain ⟨z47, ez47, h⟩ := bd_e h
  refine sx_callV (avs := [.int s2, .int s3, .int s4]) (rest := [.int s0]) (st1 := [.int z47.1, .int s0]) dL_law_381 (mX7_wall h2 ez47) ciX7_wall (Or.inl wd_1061) (X7_k h2) rfl rfl rfl rfl (rm_le hrm (Nat.le_of_ble_eq_true rfl)) rfl (Nat.le_of_ble_eq_true rfl) rfl ?_
  refine sx_icmp_eq (tgt := 1382) dL_law_384 rfl (fun c48 => ?_) (fun c48 => ?_)
  · have h := if_e c48 h
    obtain ⟨w49, ew49⟩ : ∃ w : Int32, w = v3 + (5 : Int32) := ⟨_, rfl⟩
    have h := lt_e ew49 h
    refine sx_iinc (j := 3) (v := w49) (lv' := [(0, .ref a0), (1, .ref a1), (2, .ref a2), (3, .int w49)]) dL_law_1382 rfl (ii_5 ew49) (by decide) rfl ?_
    refine sx_goto (tgt := 18) dL_law_1385 rfl ?_
    obtain rfl := Option.some.inj h
    exact sx_sub [0, 1, 2, 3] rfl (k1 _ rfl)
  · have h := if_n c48 h
    refine sx_iconst (v := (0 : Int32)) dL_law_387 (by decide) ?_
    obtain rfl := Option.some.inj h
    exact absurd (k3 _ rfl) (show ¬ ((0 : Int32) = 1) from by decide)
set_option maxRecDepth 100000 in
set_option maxHeartbeats 4000000 in
theorem tL_law_j354 {l : Launch} {E : Ev} {L : HL} {X : Xe} {a0 : Nat} {xs : Nat → Int32} {n0 : Nat} {a1 : Nat} {a2 : Nat} {v3 : Int32} {s1 : Int32} {s2 : Int32} {s3 : Int32} {z : Tn (Int32 × HL) (Int32 × HL)} (hrm : RM X 20) (hend : ∀ (pc : Nat) (lv : List (Nat × Value)) (L : HL), decode cL_law pc = .ok (.ireturn, 1) → Sy l E yL_law cL_law 4 (some .boolean) X pc lv [.int 1] L) (hscr : ∀ s, X.2.2.2.2 s → va_X a0 n0 xs s s.heap ∧ a0 < s.heap.size) (hb : eK E a0 = none) (h1 : isX6 E a1) (h2 : isX7 E a2) (h : fL_law_j354 xs n0 a1 a2 v3 s1 s2 s3 L = some z) (k1 : ∀ s, z = .inl s → Sy l E yL_law cL_law 4 (some .boolean) X 18 [(0, .ref a0), (1, .ref a1), (2, .ref a2), (3, .int s.1)] [] s.2) (k2 : ∀ s, z = .inr (.inl s) → Sy l E yL_law cL_law 4 (some .boolean) X 1388 [] [] s.2) (k3 : ∀ v, z = .inr (.inr v) → v.1 = 1) : Sy l E yL_law cL_law 4 (some .boolean) X 354 [(0, .ref a0), (1, .ref a1), (2, .ref a2), (3, .int v3)] [.int s3, .int s2, .int s1, .ref a1] L := by
  unfold fL_law_j354 at h
  obtain ⟨z42, ez42, h⟩ := bd_e h
  refine sx_callV (avs := [.int s1, .int s2, .int s3]) (rest := []) (st1 := [.int z42.1]) dL_law_354 (mX6_wall h1 ez42) ciX6_wall (Or.inl wd_428) (X6_k h1) rfl rfl rfl rfl (rm_le hrm (Nat.le_of_ble_eq_true rfl)) rfl (Nat.le_of_ble_eq_true rfl) rfl ?_
  refine sx_aload_n (i := 2) (j := 2) dL_law_357 rfl rfl ?_
  refine sx_aload_n (i := 0) (j := 0) dL_law_358 rfl rfl ?_
  refine sx_iload_n (i := 3) (j := 3) dL_law_359 rfl rfl ?_
  refine sx_iconst (v := (1 : Int32)) dL_law_360 (by decide) ?_
  refine sx_iadd dL_law_361 ?_
  obtain ⟨c43, h⟩ := gd_e h
  refine sx_sld hscr hb dL_law_362 c43 ?_
  refine sx_aload_n (i := 0) (j := 0) dL_law_363 rfl rfl ?_
  refine sx_iload_n (i := 3) (j := 3) dL_law_364 rfl rfl ?_
  refine sx_iconst (v := (2 : Int32)) dL_law_365 (by decide) ?_
  refine sx_iadd dL_law_366 ?_
  obtain ⟨c44, h⟩ := gd_e h
  refine sx_sld hscr hb dL_law_367 c44 ?_
  refine sx_aload_n (i := 0) (j := 0) dL_law_368 rfl rfl ?_
  refine sx_iload_n (i := 3) (j := 3) dL_law_369 rfl rfl ?_
  refine sx_iconst (v := (3 : Int32)) dL_law_370 (by decide) ?_
  refine sx_iadd dL_law_371 ?_
  obtain ⟨c45, h⟩ := gd_e h
  refine sx_sld hscr hb dL_law_372 c45 ?_
  refine sx_if_eq (tgt := 380) dL_law_373 rfl (fun c46 => ?_) (fun c46 => ?_)
  · have h := if_e c46 h
    refine sx_iconst (v := (0 : Int32)) dL_law_380 (by decide) ?_
    exact sx_sub [0, 1, 2, 3] rfl (tL_law_j381 hrm hend hscr hb h1 h2 h k1 k2 k3)
  · have h := if_n c46 h
    refine sx_iconst (v := (1 : Int32)) dL_law_376 (by decide) ?_
    refine sx_goto (tgt := 381) dL_law_377 rfl ?_
    exact sx_sub [0, 1, 2, 3] rfl (tL_law_j381 hrm hend hscr hb h1 h2 h k1 k2 k3)
set_option maxRecDepth 100000 in
set_option maxHeartbeats 4000000 in
theorem tL_law_j473 {l : Launch} {E : Ev} {L : HL} {X : Xe} {a0 : Nat} {xs : Nat → Int32} {n0 : Nat} {a1 : Nat} {a2 : Nat} {v3 : Int32} {s0 : Int32} {s2 : Int32} {s3 : Int32} {s4 : Int32} {z : Tn (Int32 × HL) (Int32 × HL)} (hrm : RM X 20) (hend : ∀ (pc : Nat) (lv : List (Nat × Value)) (L : HL), decode cL_law pc = .ok (.ireturn, 1) → Sy l E yL_law cL_law 4 (some .boolean) X pc lv [.int 1] L) (hscr : ∀ s, X.2.2.2.2 s → va_X a0 n0 xs s s.heap ∧ a0 < s.heap.size) (hb : eK E a0 = none) (h1 : isX6 E a1) (h2 : isX7 E a2) (h : fL_law_j473 xs n0 a1 a2 v3 s0 s2 s3 s4 L = some z) (k1 : ∀ s, z = .inl s → Sy l E yL_law cL_law 4 (some .boolean) X 18 [(0, .ref a0), (1, .ref a1), (2, .ref a2), (3, .int s.1)] [] s.2) (k2 : ∀ s, z = .inr (.inl s) → Sy l E yL_law cL_law 4 (some .boolean) X 1388 [] [] s.2) (k3 : ∀ v, z = .inr (.inr v) → v.1 = 1) : Sy l E yL_law cL_law 4 (some .boolean) X 473 [(0, .ref a0), (1, .ref a1), (2, .ref a2), (3, .int v3)] [.int s4, .int s3, .int s2, .ref a2, .int s0] L := by
  unfold fL_law_j473 at h
  obtain ⟨z69, ez69, h⟩ := bd_e h
  refine sx_callV (avs := [.int s2, .int s3, .int s4]) (rest := [.int s0]) (st1 := [.int z69.1, .int s0]) dL_law_473 (mX7_feud h2 ez69) ciX7_feud (Or.inl wd_1081) (X7_k h2) rfl rfl rfl rfl (rm_le hrm (Nat.le_of_ble_eq_true rfl)) rfl (Nat.le_of_ble_eq_true rfl) rfl ?_
  refine sx_icmp_eq (tgt := 1382) dL_law_476 rfl (fun c70 => ?_) (fun c70 => ?_)
  · have h := if_e c70 h
    obtain ⟨w71, ew71⟩ : ∃ w : Int32, w = v3 + (5 : Int32) := ⟨_, rfl⟩
    have h := lt_e ew71 h
    refine sx_iinc (j := 3) (v := w71) (lv' := [(0, .ref a0), (1, .ref a1), (2, .ref a2), (3, .int w71)]) dL_law_1382 rfl (ii_5 ew71) (by decide) rfl ?_
    refine sx_goto (tgt := 18) dL_law_1385 rfl ?_
    obtain rfl := Option.some.inj h
    exact sx_sub [0, 1, 2, 3] rfl (k1 _ rfl)
  · have h := if_n c70 h
    refine sx_iconst (v := (0 : Int32)) dL_law_479 (by decide) ?_
    obtain rfl := Option.some.inj h
    exact absurd (k3 _ rfl) (show ¬ ((0 : Int32) = 1) from by decide)
set_option maxRecDepth 100000 in
set_option maxHeartbeats 4000000 in
theorem tL_law_j446 {l : Launch} {E : Ev} {L : HL} {X : Xe} {a0 : Nat} {xs : Nat → Int32} {n0 : Nat} {a1 : Nat} {a2 : Nat} {v3 : Int32} {s1 : Int32} {s2 : Int32} {s3 : Int32} {z : Tn (Int32 × HL) (Int32 × HL)} (hrm : RM X 20) (hend : ∀ (pc : Nat) (lv : List (Nat × Value)) (L : HL), decode cL_law pc = .ok (.ireturn, 1) → Sy l E yL_law cL_law 4 (some .boolean) X pc lv [.int 1] L) (hscr : ∀ s, X.2.2.2.2 s → va_X a0 n0 xs s s.heap ∧ a0 < s.heap.size) (hb : eK E a0 = none) (h1 : isX6 E a1) (h2 : isX7 E a2) (h : fL_law_j446 xs n0 a1 a2 v3 s1 s2 s3 L = some z) (k1 : ∀ s, z = .inl s → Sy l E yL_law cL_law 4 (some .boolean) X 18 [(0, .ref a0), (1, .ref a1), (2, .ref a2), (3, .int s.1)] [] s.2) (k2 : ∀ s, z = .inr (.inl s) → Sy l E yL_law cL_law 4 (some .boolean) X 1388 [] [] s.2) (k3 : ∀ v, z = .inr (.inr v) → v.1 = 1) : Sy l E yL_law cL_law 4 (some .boolean) X 446 [(0, .ref a0), (1, .ref a1), (2, .ref a2), (3, .int v3)] [.int s3, .int s2, .int s1, .ref a1] L := by
  unfold fL_law_j446 at h
  obtain ⟨z64, ez64, h⟩ := bd_e h
  refine sx_callV (avs := [.int s1, .int s2, .int s3]) (rest := []) (st1 := [.int z64.1]) dL_law_446 (mX6_feud h1 ez64) ciX6_feud (Or.inl wd_456) (X6_k h1) rfl rfl rfl rfl (rm_le hrm (Nat.le_of_ble_eq_true rfl)) rfl (Nat.le_of_ble_eq_true rfl) rfl ?_
  refine sx_aload_n (i := 2) (j := 2) dL_law_449 rfl rfl ?_
  refine sx_aload_n (i := 0) (j := 0) dL_law_450 rfl rfl ?_
  refine sx_iload_n (i := 3) (j := 3) dL_law_451 rfl rfl ?_
  refine sx_iconst (v := (1 : Int32)) dL_law_452 (by decide) ?_
  refine sx_iadd dL_law_453 ?_
  obtain ⟨c65, h⟩ := gd_e h
  refine sx_sld hscr hb dL_law_454 c65 ?_
  refine sx_aload_n (i := 0) (j := 0) dL_law_455 rfl rfl ?_
  refine sx_iload_n (i := 3) (j := 3) dL_law_456 rfl rfl ?_
  refine sx_iconst (v := (2 : Int32)) dL_law_457 (by decide) ?_
  refine sx_iadd dL_law_458 ?_
  obtain ⟨c66, h⟩ := gd_e h
  refine sx_sld hscr hb dL_law_459 c66 ?_
  refine sx_aload_n (i := 0) (j := 0) dL_law_460 rfl rfl ?_
  refine sx_iload_n (i := 3) (j := 3) dL_law_461 rfl rfl ?_
  refine sx_iconst (v := (3 : Int32)) dL_law_462 (by decide) ?_
  refine sx_iadd dL_law_463 ?_
  obtain ⟨c67, h⟩ := gd_e h
  refine sx_sld hscr hb dL_law_464 c67 ?_
  refine sx_if_eq (tgt := 472) dL_law_465 rfl (fun c68 => ?_) (fun c68 => ?_)
  · have h := if_e c68 h
    refine sx_iconst (v := (0 : Int32)) dL_law_472 (by decide) ?_
    exact sx_sub [0, 1, 2, 3] rfl (tL_law_j473 hrm hend hscr hb h1 h2 h k1 k2 k3)
  · have h := if_n c68 h
    refine sx_iconst (v := (1 : Int32)) dL_law_468 (by decide) ?_
    refine sx_goto (tgt := 473) dL_law_469 rfl ?_
    exact sx_sub [0, 1, 2, 3] rfl (tL_law_j473 hrm hend hscr hb h1 h2 h k1 k2 k3)
set_option maxRecDepth 100000 in
set_option maxHeartbeats 4000000 in
theorem tL_law_b18 {l : Launch} {E : Ev} {L : HL} {X : Xe} {a0 : Nat} {xs : Nat → Int32} {n0 : Nat} {a1 : Nat} {a2 : Nat} {v3 : Int32} {z : Tn (Int32 × HL) (Int32 × HL)} (hrm : RM X 20) (hend : ∀ (pc : Nat) (lv : List (Nat × Value)) (L : HL), decode cL_law pc = .ok (.ireturn, 1) → Sy l E yL_law cL_law 4 (some .boolean) X pc lv [.int 1] L) (hscr : ∀ s, X.2.2.2.2 s → va_X a0 n0 xs s s.heap ∧ a0 < s.heap.size) (hb : eK E a0 = none) (h1 : isX6 E a1) (h2 : isX7 E a2) (h : fL_law_b18 xs n0 a1 a2 v3 L = some z) (k1 : ∀ s, z = .inl s → Sy l E yL_law cL_law 4 (some .boolean) X 18 [(0, .ref a0), (1, .ref a1), (2, .ref a2), (3, .int s.1)] [] s.2) (k2 : ∀ s, z = .inr (.inl s) → Sy l E yL_law cL_law 4 (some .boolean) X 1388 [] [] s.2) (k3 : ∀ v, z = .inr (.inr v) → v.1 = 1) : Sy l E yL_law cL_law 4 (some .boolean) X 18 [(0, .ref a0), (1, .ref a1), (2, .ref a2), (3, .int v3)] [] L := by
  unfold fL_law_b18 at h
  refine sx_iload_n (i := 3) (j := 3) dL_law_18 rfl rfl ?_
  refine sx_aload_n (i := 0) (j := 0) dL_law_19 rfl rfl ?_
  refine sx_scl hscr hb dL_law_20 ?_
  refine sx_iconst (v := (5 : Int32)) dL_law_21 (by decide) ?_
  refine sx_isub dL_law_22 ?_
  refine sx_icmp_gt (tgt := 1388) dL_law_23 rfl (fun c1 => ?_) (fun c1 => ?_)
  · have h := if_e c1 h
    obtain rfl := Option.some.inj h
    exact sx_sub [] rfl (k2 _ rfl)
  · have h := if_n c1 h
    refine sx_aload_n (i := 0) (j := 0) dL_law_26 rfl rfl ?_
    refine sx_iload_n (i := 3) (j := 3) dL_law_27 rfl rfl ?_
    obtain ⟨c2, h⟩ := gd_e h
    refine sx_sld hscr hb dL_law_28 c2 ?_
    refine sx_bipush (v := (63 : Int32)) dL_law_29 (by decide) ?_
    refine sx_iand dL_law_31 ?_
    by_cases c3 : ((xs v3.toNatClampNeg) &&& (63 : Int32)) = (0 : Int32)
    · have h := if_e c3 h
      refine sx_swIn (tgt := 208) (0 : Int32) dL_law_32 c3 (by decide) (by decide) rfl rfl ?_
      refine sx_aload_n (i := 1) (j := 1) dL_law_208 rfl rfl ?_
      obtain ⟨z4, ez4, h⟩ := bd_e h
      refine sx_callV (avs := []) (rest := []) (st1 := [.int z4.1]) dL_law_209 (mX6_street h1 ez4) ciX6_street (Or.inl wd_380) (X6_k h1) rfl rfl rfl rfl (rm_le hrm (Nat.le_of_ble_eq_true rfl)) rfl (Nat.le_of_ble_eq_true rfl) rfl ?_
      refine sx_aload_n (i := 2) (j := 2) dL_law_212 rfl rfl ?_
      obtain ⟨z5, ez5, h⟩ := bd_e h
      refine sx_callV (avs := []) (rest := [.int z4.1]) (st1 := [.int z5.1, .int z4.1]) dL_law_213 (mX7_street h2 ez5) ciX7_street (Or.inl wd_1018) (X7_k h2) rfl rfl rfl rfl (rm_le hrm (Nat.le_of_ble_eq_true rfl)) rfl (Nat.le_of_ble_eq_true rfl) rfl ?_
      refine sx_icmp_eq (tgt := 1382) dL_law_216 rfl (fun c6 => ?_) (fun c6 => ?_)
      · have h := if_e c6 h
        obtain ⟨w7, ew7⟩ : ∃ w : Int32, w = v3 + (5 : Int32) := ⟨_, rfl⟩
        have h := lt_e ew7 h
        refine sx_iinc (j := 3) (v := w7) (lv' := [(0, .ref a0), (1, .ref a1), (2, .ref a2), (3, .int w7)]) dL_law_1382 rfl (ii_5 ew7) (by decide) rfl ?_
        refine sx_goto (tgt := 18) dL_law_1385 rfl ?_
        obtain rfl := Option.some.inj h
        exact sx_sub [0, 1, 2, 3] rfl (k1 _ rfl)
      · have h := if_n c6 h
        refine sx_iconst (v := (0 : Int32)) dL_law_219 (by decide) ?_
        obtain rfl := Option.some.inj h
        exact absurd (k3 _ rfl) (show ¬ ((0 : Int32) = 1) from by decide)
    have h := if_n c3 h
    by_cases c8 : ((xs v3.toNatClampNeg) &&& (63 : Int32)) = (1 : Int32)
    · have h := if_e c8 h
      refine sx_swIn (tgt := 221) (1 : Int32) dL_law_32 c8 (by decide) (by decide) rfl rfl ?_
      refine sx_aload_n (i := 1) (j := 1) dL_law_221 rfl rfl ?_
      refine sx_aload_n (i := 0) (j := 0) dL_law_222 rfl rfl ?_
      refine sx_iload_n (i := 3) (j := 3) dL_law_223 rfl rfl ?_
      refine sx_iconst (v := (1 : Int32)) dL_law_224 (by decide) ?_
      refine sx_iadd dL_law_225 ?_
      obtain ⟨c9, h⟩ := gd_e h
      refine sx_sld hscr hb dL_law_226 c9 ?_
      refine sx_aload_n (i := 0) (j := 0) dL_law_227 rfl rfl ?_
      refine sx_iload_n (i := 3) (j := 3) dL_law_228 rfl rfl ?_
      refine sx_iconst (v := (2 : Int32)) dL_law_229 (by decide) ?_
      refine sx_iadd dL_law_230 ?_
      obtain ⟨c10, h⟩ := gd_e h
      refine sx_sld hscr hb dL_law_231 c10 ?_
      refine sx_aload_n (i := 0) (j := 0) dL_law_232 rfl rfl ?_
      refine sx_iload_n (i := 3) (j := 3) dL_law_233 rfl rfl ?_
      refine sx_iconst (v := (3 : Int32)) dL_law_234 (by decide) ?_
      refine sx_iadd dL_law_235 ?_
      obtain ⟨c11, h⟩ := gd_e h
      refine sx_sld hscr hb dL_law_236 c11 ?_
      obtain ⟨z12, ez12, h⟩ := bd_e h
      refine sx_callV (avs := [.int (xs (v3 + (1 : Int32)).toNatClampNeg), .int (xs (v3 + (2 : Int32)).toNatClampNeg), .int (xs (v3 + (3 : Int32)).toNatClampNeg)]) (rest := []) (st1 := [.int z12.1]) dL_law_237 (mX6_house h1 ez12) ciX6_house (Or.inl wd_392) (X6_k h1) rfl rfl rfl rfl (rm_le hrm (Nat.le_of_ble_eq_true rfl)) rfl (Nat.le_of_ble_eq_true rfl) rfl ?_
      refine sx_aload_n (i := 2) (j := 2) dL_law_240 rfl rfl ?_
      refine sx_aload_n (i := 0) (j := 0) dL_law_241 rfl rfl ?_
      refine sx_iload_n (i := 3) (j := 3) dL_law_242 rfl rfl ?_
      refine sx_iconst (v := (1 : Int32)) dL_law_243 (by decide) ?_
      refine sx_iadd dL_law_244 ?_
      obtain ⟨c13, h⟩ := gd_e h
      refine sx_sld hscr hb dL_law_245 c13 ?_
      refine sx_aload_n (i := 0) (j := 0) dL_law_246 rfl rfl ?_
      refine sx_iload_n (i := 3) (j := 3) dL_law_247 rfl rfl ?_
      refine sx_iconst (v := (2 : Int32)) dL_law_248 (by decide) ?_
      refine sx_iadd dL_law_249 ?_
      obtain ⟨c14, h⟩ := gd_e h
      refine sx_sld hscr hb dL_law_250 c14 ?_
      refine sx_aload_n (i := 0) (j := 0) dL_law_251 rfl rfl ?_
      refine sx_iload_n (i := 3) (j := 3) dL_law_252 rfl rfl ?_
      refine sx_iconst (v := (3 : Int32)) dL_law_253 (by decide) ?_
      refine sx_iadd dL_law_254 ?_
      obtain ⟨c15, h⟩ := gd_e h
      refine sx_sld hscr hb dL_law_255 c15 ?_
      obtain ⟨z16, ez16, h⟩ := bd_e h
      refine sx_callV (avs := [.int (xs (v3 + (1 : Int32)).toNatClampNeg), .int (xs (v3 + (2 : Int32)).toNatClampNeg), .int (xs (v3 + (3 : Int32)).toNatClampNeg)]) (rest := [.int z12.1]) (st1 := [.int z16.1, .int z12.1]) dL_law_256 (mX7_house h2 ez16) ciX7_house (Or.inl wd_1022) (X7_k h2) rfl rfl rfl rfl (rm_le hrm (Nat.le_of_ble_eq_true rfl)) rfl (Nat.le_of_ble_eq_true rfl) rfl ?_
      refine sx_icmp_eq (tgt := 1382) dL_law_259 rfl (fun c17 => ?_) (fun c17 => ?_)
      · have h := if_e c17 h
        obtain ⟨w18, ew18⟩ : ∃ w : Int32, w = v3 + (5 : Int32) := ⟨_, rfl⟩
        have h := lt_e ew18 h
        refine sx_iinc (j := 3) (v := w18) (lv' := [(0, .ref a0), (1, .ref a1), (2, .ref a2), (3, .int w18)]) dL_law_1382 rfl (ii_5 ew18) (by decide) rfl ?_
        refine sx_goto (tgt := 18) dL_law_1385 rfl ?_
        obtain rfl := Option.some.inj h
        exact sx_sub [0, 1, 2, 3] rfl (k1 _ rfl)
      · have h := if_n c17 h
        refine sx_iconst (v := (0 : Int32)) dL_law_262 (by decide) ?_
        obtain rfl := Option.some.inj h
        exact absurd (k3 _ rfl) (show ¬ ((0 : Int32) = 1) from by decide)
    have h := if_n c8 h
    by_cases c19 : ((xs v3.toNatClampNeg) &&& (63 : Int32)) = (2 : Int32)
    · have h := if_e c19 h
      refine sx_swIn (tgt := 264) (2 : Int32) dL_law_32 c19 (by decide) (by decide) rfl rfl ?_
      refine sx_aload_n (i := 1) (j := 1) dL_law_264 rfl rfl ?_
      refine sx_aload_n (i := 0) (j := 0) dL_law_265 rfl rfl ?_
      refine sx_iload_n (i := 3) (j := 3) dL_law_266 rfl rfl ?_
      refine sx_iconst (v := (1 : Int32)) dL_law_267 (by decide) ?_
      refine sx_iadd dL_law_268 ?_
      obtain ⟨c20, h⟩ := gd_e h
      refine sx_sld hscr hb dL_law_269 c20 ?_
      refine sx_aload_n (i := 0) (j := 0) dL_law_270 rfl rfl ?_
      refine sx_iload_n (i := 3) (j := 3) dL_law_271 rfl rfl ?_
      refine sx_iconst (v := (2 : Int32)) dL_law_272 (by decide) ?_
      refine sx_iadd dL_law_273 ?_
      obtain ⟨c21, h⟩ := gd_e h
      refine sx_sld hscr hb dL_law_274 c21 ?_
      obtain ⟨z22, ez22, h⟩ := bd_e h
      refine sx_callV (avs := [.int (xs (v3 + (1 : Int32)).toNatClampNeg), .int (xs (v3 + (2 : Int32)).toNatClampNeg)]) (rest := []) (st1 := [.int z22.1]) dL_law_275 (mX6_builtFrom h1 ez22) ciX6_builtFrom (Or.inl wd_408) (X6_k h1) rfl rfl rfl rfl (rm_le hrm (Nat.le_of_ble_eq_true rfl)) rfl (Nat.le_of_ble_eq_true rfl) rfl ?_
      refine sx_aload_n (i := 2) (j := 2) dL_law_278 rfl rfl ?_
      refine sx_aload_n (i := 0) (j := 0) dL_law_279 rfl rfl ?_
      refine sx_iload_n (i := 3) (j := 3) dL_law_280 rfl rfl ?_
      refine sx_iconst (v := (1 : Int32)) dL_law_281 (by decide) ?_
      refine sx_iadd dL_law_282 ?_
      obtain ⟨c23, h⟩ := gd_e h
      refine sx_sld hscr hb dL_law_283 c23 ?_
      refine sx_aload_n (i := 0) (j := 0) dL_law_284 rfl rfl ?_
      refine sx_iload_n (i := 3) (j := 3) dL_law_285 rfl rfl ?_
      refine sx_iconst (v := (2 : Int32)) dL_law_286 (by decide) ?_
      refine sx_iadd dL_law_287 ?_
      obtain ⟨c24, h⟩ := gd_e h
      refine sx_sld hscr hb dL_law_288 c24 ?_
      obtain ⟨z25, ez25, h⟩ := bd_e h
      refine sx_callV (avs := [.int (xs (v3 + (1 : Int32)).toNatClampNeg), .int (xs (v3 + (2 : Int32)).toNatClampNeg)]) (rest := [.int z22.1]) (st1 := [.int z25.1, .int z22.1]) dL_law_289 (mX7_builtFrom h2 ez25) ciX7_builtFrom (Or.inl wd_1039) (X7_k h2) rfl rfl rfl rfl (rm_le hrm (Nat.le_of_ble_eq_true rfl)) rfl (Nat.le_of_ble_eq_true rfl) rfl ?_
      refine sx_icmp_eq (tgt := 1382) dL_law_292 rfl (fun c26 => ?_) (fun c26 => ?_)
      · have h := if_e c26 h
        obtain ⟨w27, ew27⟩ : ∃ w : Int32, w = v3 + (5 : Int32) := ⟨_, rfl⟩
        have h := lt_e ew27 h
        refine sx_iinc (j := 3) (v := w27) (lv' := [(0, .ref a0), (1, .ref a1), (2, .ref a2), (3, .int w27)]) dL_law_1382 rfl (ii_5 ew27) (by decide) rfl ?_
        refine sx_goto (tgt := 18) dL_law_1385 rfl ?_
        obtain rfl := Option.some.inj h
        exact sx_sub [0, 1, 2, 3] rfl (k1 _ rfl)
      · have h := if_n c26 h
        refine sx_iconst (v := (0 : Int32)) dL_law_295 (by decide) ?_
        obtain rfl := Option.some.inj h
        exact absurd (k3 _ rfl) (show ¬ ((0 : Int32) = 1) from by decide)
    have h := if_n c19 h
    by_cases c28 : ((xs v3.toNatClampNeg) &&& (63 : Int32)) = (3 : Int32)
    · have h := if_e c28 h
      refine sx_swIn (tgt := 297) (3 : Int32) dL_law_32 c28 (by decide) (by decide) rfl rfl ?_
      refine sx_aload_n (i := 1) (j := 1) dL_law_297 rfl rfl ?_
      refine sx_aload_n (i := 0) (j := 0) dL_law_298 rfl rfl ?_
      refine sx_iload_n (i := 3) (j := 3) dL_law_299 rfl rfl ?_
      refine sx_iconst (v := (1 : Int32)) dL_law_300 (by decide) ?_
      refine sx_iadd dL_law_301 ?_
      obtain ⟨c29, h⟩ := gd_e h
      refine sx_sld hscr hb dL_law_302 c29 ?_
      refine sx_aload_n (i := 0) (j := 0) dL_law_303 rfl rfl ?_
      refine sx_iload_n (i := 3) (j := 3) dL_law_304 rfl rfl ?_
      refine sx_iconst (v := (2 : Int32)) dL_law_305 (by decide) ?_
      refine sx_iadd dL_law_306 ?_
      obtain ⟨c30, h⟩ := gd_e h
      refine sx_sld hscr hb dL_law_307 c30 ?_
      obtain ⟨z31, ez31, h⟩ := bd_e h
      refine sx_callV (avs := [.int (xs (v3 + (1 : Int32)).toNatClampNeg), .int (xs (v3 + (2 : Int32)).toNatClampNeg)]) (rest := []) (st1 := [.int z31.1]) dL_law_308 (mX6_will h1 ez31) ciX6_will (Or.inl wd_420) (X6_k h1) rfl rfl rfl rfl (rm_le hrm (Nat.le_of_ble_eq_true rfl)) rfl (Nat.le_of_ble_eq_true rfl) rfl ?_
      refine sx_aload_n (i := 2) (j := 2) dL_law_311 rfl rfl ?_
      refine sx_aload_n (i := 0) (j := 0) dL_law_312 rfl rfl ?_
      refine sx_iload_n (i := 3) (j := 3) dL_law_313 rfl rfl ?_
      refine sx_iconst (v := (1 : Int32)) dL_law_314 (by decide) ?_
      refine sx_iadd dL_law_315 ?_
      obtain ⟨c32, h⟩ := gd_e h
      refine sx_sld hscr hb dL_law_316 c32 ?_
      refine sx_aload_n (i := 0) (j := 0) dL_law_317 rfl rfl ?_
      refine sx_iload_n (i := 3) (j := 3) dL_law_318 rfl rfl ?_
      refine sx_iconst (v := (2 : Int32)) dL_law_319 (by decide) ?_
      refine sx_iadd dL_law_320 ?_
      obtain ⟨c33, h⟩ := gd_e h
      refine sx_sld hscr hb dL_law_321 c33 ?_
      obtain ⟨z34, ez34, h⟩ := bd_e h
      refine sx_callV (avs := [.int (xs (v3 + (1 : Int32)).toNatClampNeg), .int (xs (v3 + (2 : Int32)).toNatClampNeg)]) (rest := [.int z31.1]) (st1 := [.int z34.1, .int z31.1]) dL_law_322 (mX7_will h2 ez34) ciX7_will (Or.inl wd_1052) (X7_k h2) rfl rfl rfl rfl (rm_le hrm (Nat.le_of_ble_eq_true rfl)) rfl (Nat.le_of_ble_eq_true rfl) rfl ?_
      refine sx_icmp_eq (tgt := 1382) dL_law_325 rfl (fun c35 => ?_) (fun c35 => ?_)
      · have h := if_e c35 h
        obtain ⟨w36, ew36⟩ : ∃ w : Int32, w = v3 + (5 : Int32) := ⟨_, rfl⟩
        have h := lt_e ew36 h
        refine sx_iinc (j := 3) (v := w36) (lv' := [(0, .ref a0), (1, .ref a1), (2, .ref a2), (3, .int w36)]) dL_law_1382 rfl (ii_5 ew36) (by decide) rfl ?_
        refine sx_goto (tgt := 18) dL_law_1385 rfl ?_
        obtain rfl := Option.some.inj h
        exact sx_sub [0, 1, 2, 3] rfl (k1 _ rfl)
      · have h := if_n c35 h
        refine sx_iconst (v := (0 : Int32)) dL_law_328 (by decide) ?_
        obtain rfl := Option.some.inj h
        exact absurd (k3 _ rfl) (show ¬ ((0 : Int32) = 1) from by decide)
    have h := if_n c28 h
    by_cases c37 : ((xs v3.toNatClampNeg) &&& (63 : Int32)) = (4 : Int32)
    · have h := if_e c37 h
      refine sx_swIn (tgt := 330) (4 : Int32) dL_law_32 c37 (by decide) (by decide) rfl rfl ?_
      refine sx_aload_n (i := 1) (j := 1) dL_law_330 rfl rfl ?_
      refine sx_aload_n (i := 0) (j := 0) dL_law_331 rfl rfl ?_
      refine sx_iload_n (i := 3) (j := 3) dL_law_332 rfl rfl ?_
      refine sx_iconst (v := (1 : Int32)) dL_law_333 (by decide) ?_
      refine sx_iadd dL_law_334 ?_
      obtain ⟨c38, h⟩ := gd_e h
      refine sx_sld hscr hb dL_law_335 c38 ?_
      refine sx_aload_n (i := 0) (j := 0) dL_law_336 rfl rfl ?_
      refine sx_iload_n (i := 3) (j := 3) dL_law_337 rfl rfl ?_
      refine sx_iconst (v := (2 : Int32)) dL_law_338 (by decide) ?_
      refine sx_iadd dL_law_339 ?_
      obtain ⟨c39, h⟩ := gd_e h
      refine sx_sld hscr hb dL_law_340 c39 ?_
      refine sx_aload_n (i := 0) (j := 0) dL_law_341 rfl rfl ?_
      refine sx_iload_n (i := 3) (j := 3) dL_law_342 rfl rfl ?_
      refine sx_iconst (v := (3 : Int32)) dL_law_343 (by decide) ?_
      refine sx_iadd dL_law_344 ?_
      obtain ⟨c40, h⟩ := gd_e h
      refine sx_sld hscr hb dL_law_345 c40 ?_
      refine sx_if_eq (tgt := 353) dL_law_346 rfl (fun c41 => ?_) (fun c41 => ?_)
      · have h := if_e c41 h
        refine sx_iconst (v := (0 : Int32)) dL_law_353 (by decide) ?_
        exact sx_sub [0, 1, 2, 3] rfl (tL_law_j354 hrm hend hscr hb h1 h2 h k1 k2 k3)
      · have h := if_n c41 h
        refine sx_iconst (v := (1 : Int32)) dL_law_349 (by decide) ?_
        refine sx_goto (tgt := 354) dL_law_350 rfl ?_
        exact sx_sub [0, 1, 2, 3] rfl (tL_law_j354 hrm hend hscr hb h1 h2 h k1 k2 k3)
    have h := if_n c37 h
    by_cases c50 : ((xs v3.toNatClampNeg) &&& (63 : Int32)) = (5 : Int32)
    · have h := if_e c50 h
      refine sx_swIn (tgt := 389) (5 : Int32) dL_law_32 c50 (by decide) (by decide) rfl rfl ?_
      refine sx_aload_n (i := 1) (j := 1) dL_law_389 rfl rfl ?_
      refine sx_aload_n (i := 0) (j := 0) dL_law_390 rfl rfl ?_
      refine sx_iload_n (i := 3) (j := 3) dL_law_391 rfl rfl ?_
      refine sx_iconst (v := (1 : Int32)) dL_law_392 (by decide) ?_
      refine sx_iadd dL_law_393 ?_
      obtain ⟨c51, h⟩ := gd_e h
      refine sx_sld hscr hb dL_law_394 c51 ?_
      refine sx_aload_n (i := 0) (j := 0) dL_law_395 rfl rfl ?_
      refine sx_iload_n (i := 3) (j := 3) dL_law_396 rfl rfl ?_
      refine sx_iconst (v := (2 : Int32)) dL_law_397 (by decide) ?_
      refine sx_iadd dL_law_398 ?_
      obtain ⟨c52, h⟩ := gd_e h
      refine sx_sld hscr hb dL_law_399 c52 ?_
      obtain ⟨z53, ez53, h⟩ := bd_e h
      refine sx_callV (avs := [.int (xs (v3 + (1 : Int32)).toNatClampNeg), .int (xs (v3 + (2 : Int32)).toNatClampNeg)]) (rest := []) (st1 := [.int z53.1]) dL_law_400 (mX6_one h1 ez53) ciX6_one (Or.inl wd_444) (X6_k h1) rfl rfl rfl rfl (rm_le hrm (Nat.le_of_ble_eq_true rfl)) rfl (Nat.le_of_ble_eq_true rfl) rfl ?_
      refine sx_aload_n (i := 2) (j := 2) dL_law_403 rfl rfl ?_
      refine sx_aload_n (i := 0) (j := 0) dL_law_404 rfl rfl ?_
      refine sx_iload_n (i := 3) (j := 3) dL_law_405 rfl rfl ?_
      refine sx_iconst (v := (1 : Int32)) dL_law_406 (by decide) ?_
      refine sx_iadd dL_law_407 ?_
      obtain ⟨c54, h⟩ := gd_e h
      refine sx_sld hscr hb dL_law_408 c54 ?_
      refine sx_aload_n (i := 0) (j := 0) dL_law_409 rfl rfl ?_
      refine sx_iload_n (i := 3) (j := 3) dL_law_410 rfl rfl ?_
      refine sx_iconst (v := (2 : Int32)) dL_law_411 (by decide) ?_
      refine sx_iadd dL_law_412 ?_
      obtain ⟨c55, h⟩ := gd_e h
      refine sx_sld hscr hb dL_law_413 c55 ?_
      obtain ⟨z56, ez56, h⟩ := bd_e h
      refine sx_callV (avs := [.int (xs (v3 + (1 : Int32)).toNatClampNeg), .int (xs (v3 + (2 : Int32)).toNatClampNeg)]) (rest := [.int z53.1]) (st1 := [.int z56.1, .int z53.1]) dL_law_414 (mX7_one h2 ez56) ciX7_one (Or.inl wd_1069) (X7_k h2) rfl rfl rfl rfl (rm_le hrm (Nat.le_of_ble_eq_true rfl)) rfl (Nat.le_of_ble_eq_true rfl) rfl ?_
      refine sx_icmp_eq (tgt := 1382) dL_law_417 rfl (fun c57 => ?_) (fun c57 => ?_)
      · have h := if_e c57 h
        obtain ⟨w58, ew58⟩ : ∃ w : Int32, w = v3 + (5 : Int32) := ⟨_, rfl⟩
        have h := lt_e ew58 h
        refine sx_iinc (j := 3) (v := w58) (lv' := [(0, .ref a0), (1, .ref a1), (2, .ref a2), (3, .int w58)]) dL_law_1382 rfl (ii_5 ew58) (by decide) rfl ?_
        refine sx_goto (tgt := 18) dL_law_1385 rfl ?_
        obtain rfl := Option.some.inj h
        exact sx_sub [0, 1, 2, 3] rfl (k1 _ rfl)
      · have h := if_n c57 h
        refine sx_iconst (v := (0 : Int32)) dL_law_420 (by decide) ?_
        obtain rfl := Option.some.inj h
        exact absurd (k3 _ rfl) (show ¬ ((0 : Int32) = 1) from by decide)
    have h := if_n c50 h
    by_cases c59 : ((xs v3.toNatClampNeg) &&& (63 : Int32)) = (6 : Int32)
    · have h := if_e c59 h
      refine sx_swIn (tgt := 422) (6 : Int32) dL_law_32 c59 (by decide) (by decide) rfl rfl ?_
      refine sx_aload_n (i := 1) (j := 1) dL_law_422 rfl rfl ?_
      refine sx_aload_n (i := 0) (j := 0) dL_law_423 rfl rfl ?_
      refine sx_iload_n (i := 3) (j := 3) dL_law_424 rfl rfl ?_
      refine sx_iconst (v := (1 : Int32)) dL_law_425 (by decide) ?_
      refine sx_iadd dL_law_426 ?_
      obtain ⟨c60, h⟩ := gd_e h
      refine sx_sld hscr hb dL_law_427 c60 ?_
      refine sx_aload_n (i := 0) (j := 0) dL_law_428 rfl rfl ?_
      refine sx_iload_n (i := 3) (j := 3) dL_law_429 rfl rfl ?_
      refine sx_iconst (v := (2 : Int32)) dL_law_430 (by decide) ?_
      refine sx_iadd dL_law_431 ?_
      obtain ⟨c61, h⟩ := gd_e h
      refine sx_sld hscr hb dL_law_432 c61 ?_
      refine sx_aload_n (i := 0) (j := 0) dL_law_433 rfl rfl ?_
      refine sx_iload_n (i := 3) (j := 3) dL_law_434 rfl rfl ?_
      refine sx_iconst (v := (3 : Int32)) dL_law_435 (by decide) ?_
      refine sx_iadd dL_law_436 ?_
      obtain ⟨c62, h⟩ := gd_e h
      refine sx_sld hscr hb dL_law_437 c62 ?_
      refine sx_if_eq (tgt := 445) dL_law_438 rfl (fun c63 => ?_) (fun c63 => ?_)
      · have h := if_e c63 h
        refine sx_iconst (v := (0 : Int32)) dL_law_445 (by decide) ?_
        exact sx_sub [0, 1, 2, 3] rfl (tL_law_j446 hrm hend hscr hb h1 h2 h k1 k2 k3)
      · have h := if_n c63 h
        refine sx_iconst (v := (1 : Int32)) dL_law_441 (by decide) ?_
        refine sx_goto (tgt := 446) dL_law_442 rfl ?_
        exact sx_sub [0, 1, 2, 3] rfl (tL_law_j446 hrm hend hscr hb h1 h2 h k1 k2 k3)
    have h := if_n c59 h
    by_cases c72 : ((xs v3.toNatClampNeg) &&& (63 : Int32)) = (7 : Int32)
    · have h := if_e c72 h
      refine sx_swIn (tgt := 481) (7 : Int32) dL_law_32 c72 (by decide) (by decide) rfl rfl ?_
      refine sx_aload_n (i := 1) (j := 1) dL_law_481 rfl rfl ?_
      refine sx_aload_n (i := 0) (j := 0) dL_law_482 rfl rfl ?_
      refine sx_iload_n (i := 3) (j := 3) dL_law_483 rfl rfl ?_
      refine sx_iconst (v := (1 : Int32)) dL_law_484 (by decide) ?_
      refine sx_iadd dL_law_485 ?_
      obtain ⟨c73, h⟩ := gd_e h
      refine sx_sld hscr hb dL_law_486 c73 ?_
      refine sx_aload_n (i := 0) (j := 0) dL_law_487 rfl rfl ?_
      refine sx_iload_n (i := 3) (j := 3) dL_law_488 rfl rfl ?_
      refine sx_iconst (v := (2 : Int32)) dL_law_489 (by decide) ?_
      refine sx_iadd dL_law_490 ?_
      obtain ⟨c74, h⟩ := gd_e h
      refine sx_sld hscr hb dL_law_491 c74 ?_
      obtain ⟨z75, ez75, h⟩ := bd_e h
      refine sx_callV (avs := [.int (xs (v3 + (1 : Int32)).toNatClampNeg), .int (xs (v3 + (2 : Int32)).toNatClampNeg)]) (rest := []) (st1 := [.int z75.1]) dL_law_492 (mX6_mark h1 ez75) ciX6_mark (Or.inl wd_468) (X6_k h1) rfl rfl rfl rfl (rm_le hrm (Nat.le_of_ble_eq_true rfl)) rfl (Nat.le_of_ble_eq_true rfl) rfl ?_
      refine sx_aload_n (i := 2) (j := 2) dL_law_495 rfl rfl ?_
      refine sx_aload_n (i := 0) (j := 0) dL_law_496 rfl rfl ?_
      refine sx_iload_n (i := 3) (j := 3) dL_law_497 rfl rfl ?_
      refine sx_iconst (v := (1 : Int32)) dL_law_498 (by decide) ?_
      refine sx_iadd dL_law_499 ?_
      obtain ⟨c76, h⟩ := gd_e h
      refine sx_sld hscr hb dL_law_500 c76 ?_
      refine sx_aload_n (i := 0) (j := 0) dL_law_501 rfl rfl ?_
      refine sx_iload_n (i := 3) (j := 3) dL_law_502 rfl rfl ?_
      refine sx_iconst (v := (2 : Int32)) dL_law_503 (by decide) ?_
      refine sx_iadd dL_law_504 ?_
      obtain ⟨c77, h⟩ := gd_e h
      refine sx_sld hscr hb dL_law_505 c77 ?_
      obtain ⟨z78, ez78, h⟩ := bd_e h
      refine sx_callV (avs := [.int (xs (v3 + (1 : Int32)).toNatClampNeg), .int (xs (v3 + (2 : Int32)).toNatClampNeg)]) (rest := [.int z75.1]) (st1 := [.int z78.1, .int z75.1]) dL_law_506 (mX7_mark h2 ez78) ciX7_mark (Or.inl wd_1089) (X7_k h2) rfl rfl rfl rfl (rm_le hrm (Nat.le_of_ble_eq_true rfl)) rfl (Nat.le_of_ble_eq_true rfl) rfl ?_
      refine sx_icmp_eq (tgt := 1382) dL_law_509 rfl (fun c79 => ?_) (fun c79 => ?_)
      · have h := if_e c79 h
        obtain ⟨w80, ew80⟩ : ∃ w : Int32, w = v3 + (5 : Int32) := ⟨_, rfl⟩
        have h := lt_e ew80 h
        refine sx_iinc (j := 3) (v := w80) (lv' := [(0, .ref a0), (1, .ref a1), (2, .ref a2), (3, .int w80)]) dL_law_1382 rfl (ii_5 ew80) (by decide) rfl ?_
        refine sx_goto (tgt := 18) dL_law_1385 rfl ?_
        obtain rfl := Option.some.inj h
        exact sx_sub [0, 1, 2, 3] rfl (k1 _ rfl)
      · have h := if_n c79 h
        refine sx_iconst (v := (0 : Int32)) dL_law_512 (by decide) ?_
        obtain rfl := Option.some.inj h
        exact absurd (k3 _ rfl) (show ¬ ((0 : Int32) = 1) from by decide)
    have h := if_n c72 h
    by_cases c81 : ((xs v3.toNatClampNeg) &&& (63 : Int32)) = (8 : Int32)
    · have h := if_e c81 h
      refine sx_swIn (tgt := 514) (8 : Int32) dL_law_32 c81 (by decide) (by decide) rfl rfl ?_
      refine sx_aload_n (i := 1) (j := 1) dL_law_514 rfl rfl ?_
      refine sx_aload_n (i := 0) (j := 0) dL_law_515 rfl rfl ?_
      refine sx_iload_n (i := 3) (j := 3) dL_law_516 rfl rfl ?_
      refine sx_iconst (v := (1 : Int32)) dL_law_517 (by decide) ?_
      refine sx_iadd dL_law_518 ?_
      obtain ⟨c82, h⟩ := gd_e h
      refine sx_sld hscr hb dL_law_519 c82 ?_
      obtain ⟨z83, ez83, h⟩ := bd_e h
      refine sx_callV (avs := [.int (xs (v3 + (1 : Int32)).toNatClampNeg)]) (rest := []) (st1 := [.int z83.1]) dL_law_520 (mX6_type h1 ez83) ciX6_type (Or.inl wd_476) (X6_k h1) rfl rfl rfl rfl (rm_le hrm (Nat.le_of_ble_eq_true rfl)) rfl (Nat.le_of_ble_eq_true rfl) rfl ?_
      refine sx_aload_n (i := 2) (j := 2) dL_law_523 rfl rfl ?_
      refine sx_aload_n (i := 0) (j := 0) dL_law_524 rfl rfl ?_
      refine sx_iload_n (i := 3) (j := 3) dL_law_525 rfl rfl ?_
      refine sx_iconst (v := (1 : Int32)) dL_law_526 (by decide) ?_
      refine sx_iadd dL_law_527 ?_
      obtain ⟨c84, h⟩ := gd_e h
      refine sx_sld hscr hb dL_law_528 c84 ?_
      obtain ⟨z85, ez85, h⟩ := bd_e h
      refine sx_callV (avs := [.int (xs (v3 + (1 : Int32)).toNatClampNeg)]) (rest := [.int z83.1]) (st1 := [.int z85.1, .int z83.1]) dL_law_529 (mX7_type h2 ez85) ciX7_type (Or.inl wd_1098) (X7_k h2) rfl rfl rfl rfl (rm_le hrm (Nat.le_of_ble_eq_true rfl)) rfl (Nat.le_of_ble_eq_true rfl) rfl ?_
      refine sx_icmp_eq (tgt := 1382) dL_law_532 rfl (fun c86 => ?_) (fun c86 => ?_)
      · have h := if_e c86 h
        obtain ⟨w87, ew87⟩ : ∃ w : Int32, w = v3 + (5 : Int32) := ⟨_, rfl⟩
        have h := lt_e ew87 h
        refine sx_iinc (j := 3) (v := w87) (lv' := [(0, .ref a0), (1, .ref a1), (2, .ref a2), (3, .int w87)]) dL_law_1382 rfl (ii_5 ew87) (by decide) rfl ?_
        refine sx_goto (tgt := 18) dL_law_1385 rfl ?_
        obtain rfl := Option.some.inj h
        exact sx_sub [0, 1, 2, 3] rfl (k1 _ rfl)
      · have h := if_n c86 h
        refine sx_iconst (v := (0 : Int32)) dL_law_535 (by decide) ?_
        obtain rfl := Option.some.inj h
        exact absurd (k3 _ rfl) (show ¬ ((0 : Int32) = 1) from by decide)
    have h := if_n c81 h
    by_cases c88 : ((xs v3.toNatClampNeg) &&& (63 : Int32)) = (9 : Int32)
    · have h := if_e c88 h
      refine sx_swIn (tgt := 537) (9 : Int32) dL_law_32 c88 (by decide) (by decide) rfl rfl ?_
      refine sx_aload_n (i := 1) (j := 1) dL_law_537 rfl rfl ?_
      obtain ⟨z89, ez89, h⟩ := bd_e h
      refine sx_callV (avs := []) (rest := []) (st1 := [.int z89.1]) dL_law_538 (mX6_clear h1 ez89) ciX6_clear (Or.inl wd_484) (X6_k h1) rfl rfl rfl rfl (rm_le hrm (Nat.le_of_ble_eq_true rfl)) rfl (Nat.le_of_ble_eq_true rfl) rfl ?_
      refine sx_aload_n (i := 2) (j := 2) dL_law_541 rfl rfl ?_
      obtain ⟨z90, ez90, h⟩ := bd_e h
      refine sx_callV (avs := []) (rest := [.int z89.1]) (st1 := [.int z90.1, .int z89.1]) dL_law_542 (mX7_clear h2 ez90) ciX7_clear (Or.inl wd_1103) (X7_k h2) rfl rfl rfl rfl (rm_le hrm (Nat.le_of_ble_eq_true rfl)) rfl (Nat.le_of_ble_eq_true rfl) rfl ?_
      refine sx_icmp_eq (tgt := 1382) dL_law_545 rfl (fun c91 => ?_) (fun c91 => ?_)
      · have h := if_e c91 h
        obtain ⟨w92, ew92⟩ : ∃ w : Int32, w = v3 + (5 : Int32) := ⟨_, rfl⟩
        have h := lt_e ew92 h
        refine sx_iinc (j := 3) (v := w92) (lv' := [(0, .ref a0), (1, .ref a1), (2, .ref a2), (3, .int w92)]) dL_law_1382 rfl (ii_5 ew92) (by decide) rfl ?_
        refine sx_goto (tgt := 18) dL_law_1385 rfl ?_
        obtain rfl := Option.some.inj h
        exact sx_sub [0, 1, 2, 3] rfl (k1 _ rfl)
      · have h := if_n c91 h
        refine sx_iconst (v := (0 : Int32)) dL_law_548 (by decide) ?_
        obtain rfl := Option.some.inj h
        exact absurd (k3 _ rfl) (show ¬ ((0 : Int32) = 1) from by decide)
    have h := if_n c88 h
    by_cases c93 : ((xs v3.toNatClampNeg) &&& (63 : Int32)) = (10 : Int32)
    · have h := if_e c93 h
      refine sx_swIn (tgt := 550) (10 : Int32) dL_law_32 c93 (by decide) (by decide) rfl rfl ?_
      refine sx_aload_n (i := 1) (j := 1) dL_law_550 rfl rfl ?_
      obtain ⟨z94, ez94, h⟩ := bd_e h
      refine sx_callV (avs := []) (rest := []) (st1 := [.int z94.1]) dL_law_551 (mX6_read h1 ez94) ciX6_read (Or.inl wd_488) (X6_k h1) rfl rfl rfl rfl (rm_le hrm (Nat.le_of_ble_eq_true rfl)) rfl (Nat.le_of_ble_eq_true rfl) rfl ?_
      refine sx_aload_n (i := 2) (j := 2) dL_law_554 rfl rfl ?_
      obtain ⟨z95, ez95, h⟩ := bd_e h
      refine sx_callV (avs := []) (rest := [.int z94.1]) (st1 := [.int z95.1, .int z94.1]) dL_law_555 (mX7_read h2 ez95) ciX7_read (Or.inl wd_1107) (X7_k h2) rfl rfl rfl rfl (rm_le hrm (Nat.le_of_ble_eq_true rfl)) rfl (Nat.le_of_ble_eq_true rfl) rfl ?_
      refine sx_icmp_eq (tgt := 1382) dL_law_558 rfl (fun c96 => ?_) (fun c96 => ?_)
      · have h := if_e c96 h
        obtain ⟨w97, ew97⟩ : ∃ w : Int32, w = v3 + (5 : Int32) := ⟨_, rfl⟩
        have h := lt_e ew97 h
        refine sx_iinc (j := 3) (v := w97) (lv' := [(0, .ref a0), (1, .ref a1), (2, .ref a2), (3, .int w97)]) dL_law_1382 rfl (ii_5 ew97) (by decide) rfl ?_
        refine sx_goto (tgt := 18) dL_law_1385 rfl ?_
        obtain rfl := Option.some.inj h
        exact sx_sub [0, 1, 2, 3] rfl (k1 _ rfl)
      · have h := if_n c96 h
        refine sx_iconst (v := (0 : Int32)) dL_law_561 (by decide) ?_
        obtain rfl := Option.some.inj h
        exact absurd (k3 _ rfl) (show ¬ ((0 : Int32) = 1) from by decide)
    have h := if_n c93 h
    by_cases c98 : ((xs v3.toNatClampNeg) &&& (63 : Int32)) = (11 : Int32)
    · have h := if_e c98 h
      refine sx_swIn (tgt := 563) (11 : Int32) dL_law_32 c98 (by decide) (by decide) rfl rfl ?_
      refine sx_aload_n (i := 1) (j := 1) dL_law_563 rfl rfl ?_
      refine sx_aload_n (i := 0) (j := 0) dL_law_564 rfl rfl ?_
      refine sx_iload_n (i := 3) (j := 3) dL_law_565 rfl rfl ?_
      refine sx_iconst (v := (1 : Int32)) dL_law_566 (by decide) ?_
      refine sx_iadd dL_law_567 ?_
      obtain ⟨c99, h⟩ := gd_e h
      refine sx_sld hscr hb dL_law_568 c99 ?_
      obtain ⟨z100, ez100, h⟩ := bd_e h
      refine sx_callV (avs := [.int (xs (v3 + (1 : Int32)).toNatClampNeg)]) (rest := []) (st1 := [.int z100.1]) dL_law_569 (mX6_fall h1 ez100) ciX6_fall (Or.inl wd_612) (X6_k h1) rfl rfl rfl rfl (rm_le hrm (Nat.le_of_ble_eq_true rfl)) rfl (Nat.le_of_ble_eq_true rfl) rfl ?_
      refine sx_aload_n (i := 2) (j := 2) dL_law_572 rfl rfl ?_
      refine sx_aload_n (i := 0) (j := 0) dL_law_573 rfl rfl ?_
      refine sx_iload_n (i := 3) (j := 3) dL_law_574 rfl rfl ?_
      refine sx_iconst (v := (1 : Int32)) dL_law_575 (by decide) ?_
      refine sx_iadd dL_law_576 ?_
      obtain ⟨c101, h⟩ := gd_e h
      refine sx_sld hscr hb dL_law_577 c101 ?_
      obtain ⟨z102, ez102, h⟩ := bd_e h
      refine sx_callV (avs := [.int (xs (v3 + (1 : Int32)).toNatClampNeg)]) (rest := [.int z100.1]) (st1 := [.int z102.1, .int z100.1]) dL_law_578 (mX7_fall h2 ez102) ciX7_fall (Or.inl wd_1141) (X7_k h2) rfl rfl rfl rfl (rm_le hrm (Nat.le_of_ble_eq_true rfl)) rfl (Nat.le_of_ble_eq_true rfl) rfl ?_
      refine sx_icmp_eq (tgt := 1382) dL_law_581 rfl (fun c103 => ?_) (fun c103 => ?_)
      · have h := if_e c103 h
        obtain ⟨w104, ew104⟩ : ∃ w : Int32, w = v3 + (5 : Int32) := ⟨_, rfl⟩
        have h := lt_e ew104 h
        refine sx_iinc (j := 3) (v := w104) (lv' := [(0, .ref a0), (1, .ref a1), (2, .ref a2), (3, .int w104)]) dL_law_1382 rfl (ii_5 ew104) (by decide) rfl ?_
        refine sx_goto (tgt := 18) dL_law_1385 rfl ?_
        obtain rfl := Option.some.inj h
        exact sx_sub [0, 1, 2, 3] rfl (k1 _ rfl)
      · have h := if_n c103 h
        refine sx_iconst (v := (0 : Int32)) dL_law_584 (by decide) ?_
        obtain rfl := Option.some.inj h
        exact absurd (k3 _ rfl) (show ¬ ((0 : Int32) = 1) from by decide)
    have h := if_n c98 h
    by_cases c105 : ((xs v3.toNatClampNeg) &&& (63 : Int32)) = (12 : Int32)
    · have h := if_e c105 h
      refine sx_swIn (tgt := 586) (12 : Int32) dL_law_32 c105 (by decide) (by decide) rfl rfl ?_
      refine sx_aload_n (i := 1) (j := 1) dL_law_586 rfl rfl ?_
      refine sx_aload_n (i := 0) (j := 0) dL_law_587 rfl rfl ?_
      refine sx_iload_n (i := 3) (j := 3) dL_law_588 rfl rfl ?_
      refine sx_iconst (v := (1 : Int32)) dL_law_589 (by decide) ?_
      refine sx_iadd dL_law_590 ?_
      obtain ⟨c106, h⟩ := gd_e h
      refine sx_sld hscr hb dL_law_591 c106 ?_
      obtain ⟨z107, ez107, h⟩ := bd_e h
      refine sx_callV (avs := [.int (xs (v3 + (1 : Int32)).toNatClampNeg)]) (rest := []) (st1 := [.int z107.1]) dL_law_592 (mX6_year h1 ez107) ciX6_year (Or.inl wd_655) (X6_k h1) rfl rfl rfl rfl (rm_le hrm (Nat.le_of_ble_eq_true rfl)) rfl (Nat.le_of_ble_eq_true rfl) rfl ?_
      refine sx_aload_n (i := 2) (j := 2) dL_law_595 rfl rfl ?_
      refine sx_aload_n (i := 0) (j := 0) dL_law_596 rfl rfl ?_
      refine sx_iload_n (i := 3) (j := 3) dL_law_597 rfl rfl ?_
      refine sx_iconst (v := (1 : Int32)) dL_law_598 (by decide) ?_
      refine sx_iadd dL_law_599 ?_
      obtain ⟨c108, h⟩ := gd_e h
      refine sx_sld hscr hb dL_law_600 c108 ?_
      obtain ⟨z109, ez109, h⟩ := bd_e h
      refine sx_callV (avs := [.int (xs (v3 + (1 : Int32)).toNatClampNeg)]) (rest := [.int z107.1]) (st1 := [.int z109.1, .int z107.1]) dL_law_601 (mX7_year h2 ez109) ciX7_year (Or.inl wd_1185) (X7_k h2) rfl rfl rfl rfl (rm_le hrm (Nat.le_of_ble_eq_true rfl)) rfl (Nat.le_of_ble_eq_true rfl) rfl ?_
      refine sx_icmp_eq (tgt := 1382) dL_law_604 rfl (fun c110 => ?_) (fun c110 => ?_)
      · have h := if_e c110 h
        obtain ⟨w111, ew111⟩ : ∃ w : Int32, w = v3 + (5 : Int32) := ⟨_, rfl⟩
        have h := lt_e ew111 h
        refine sx_iinc (j := 3) (v := w111) (lv' := [(0, .ref a0), (1, .ref a1), (2, .ref a2), (3, .int w111)]) dL_law_1382 rfl (ii_5 ew111) (by decide) rfl ?_
        refine sx_goto (tgt := 18) dL_law_1385 rfl ?_
        obtain rfl := Option.some.inj h
        exact sx_sub [0, 1, 2, 3] rfl (k1 _ rfl)
      · have h := if_n c110 h
        refine sx_iconst (v := (0 : Int32)) dL_law_607 (by decide) ?_
        obtain rfl := Option.some.inj h
        exact absurd (k3 _ rfl) (show ¬ ((0 : Int32) = 1) from by decide)
    have h := if_n c105 h
    by_cases c112 : ((xs v3.toNatClampNeg) &&& (63 : Int32)) = (13 : Int32)
    · have h := if_e c112 h
      refine sx_swIn (tgt := 609) (13 : Int32) dL_law_32 c112 (by decide) (by decide) rfl rfl ?_
      refine sx_aload_n (i := 1) (j := 1) dL_law_609 rfl rfl ?_
      refine sx_aload_n (i := 0) (j := 0) dL_law_610 rfl rfl ?_
      refine sx_iload_n (i := 3) (j := 3) dL_law_611 rfl rfl ?_
      refine sx_iconst (v := (1 : Int32)) dL_law_612 (by decide) ?_
      refine sx_iadd dL_law_613 ?_
      obtain ⟨c113, h⟩ := gd_e h
      refine sx_sld hscr hb dL_law_614 c113 ?_
      refine sx_aload_n (i := 0) (j := 0) dL_law_615 rfl rfl ?_
      refine sx_iload_n (i := 3) (j := 3) dL_law_616 rfl rfl ?_
      refine sx_iconst (v := (2 : Int32)) dL_law_617 (by decide) ?_
      refine sx_iadd dL_law_618 ?_
      obtain ⟨c114, h⟩ := gd_e h
      refine sx_sld hscr hb dL_law_619 c114 ?_
      obtain ⟨z115, ez115, h⟩ := bd_e h
      refine sx_callV (avs := [.int (xs (v3 + (1 : Int32)).toNatClampNeg), .int (xs (v3 + (2 : Int32)).toNatClampNeg)]) (rest := []) (st1 := [.int z115.1]) dL_law_620 (mX6_move h1 ez115) ciX6_move (Or.inl wd_678) (X6_k h1) rfl rfl rfl rfl (rm_le hrm (Nat.le_of_ble_eq_true rfl)) rfl (Nat.le_of_ble_eq_true rfl) rfl ?_
      refine sx_aload_n (i := 2) (j := 2) dL_law_623 rfl rfl ?_
      refine sx_aload_n (i := 0) (j := 0) dL_law_624 rfl rfl ?_
      refine sx_iload_n (i := 3) (j := 3) dL_law_625 rfl rfl ?_
      refine sx_iconst (v := (1 : Int32)) dL_law_626 (by decide) ?_
      refine sx_iadd dL_law_627 ?_
      obtain ⟨c116, h⟩ := gd_e h
      refine sx_sld hscr hb dL_law_628 c116 ?_
      refine sx_aload_n (i := 0) (j := 0) dL_law_629 rfl rfl ?_
      refine sx_iload_n (i := 3) (j := 3) dL_law_630 rfl rfl ?_
      refine sx_iconst (v := (2 : Int32)) dL_law_631 (by decide) ?_
      refine sx_iadd dL_law_632 ?_
      obtain ⟨c117, h⟩ := gd_e h
      refine sx_sld hscr hb dL_law_633 c117 ?_
      obtain ⟨z118, ez118, h⟩ := bd_e h
      refine sx_callV (avs := [.int (xs (v3 + (1 : Int32)).toNatClampNeg), .int (xs (v3 + (2 : Int32)).toNatClampNeg)]) (rest := [.int z115.1]) (st1 := [.int z118.1, .int z115.1]) dL_law_634 (mX7_move h2 ez118) ciX7_move (Or.inl wd_1200) (X7_k h2) rfl rfl rfl rfl (rm_le hrm (Nat.le_of_ble_eq_true rfl)) rfl (Nat.le_of_ble_eq_true rfl) rfl ?_
      refine sx_icmp_eq (tgt := 1382) dL_law_637 rfl (fun c119 => ?_) (fun c119 => ?_)
      · have h := if_e c119 h
        obtain ⟨w120, ew120⟩ : ∃ w : Int32, w = v3 + (5 : Int32) := ⟨_, rfl⟩
        have h := lt_e ew120 h
        refine sx_iinc (j := 3) (v := w120) (lv' := [(0, .ref a0), (1, .ref a1), (2, .ref a2), (3, .int w120)]) dL_law_1382 rfl (ii_5 ew120) (by decide) rfl ?_
        refine sx_goto (tgt := 18) dL_law_1385 rfl ?_
        obtain rfl := Option.some.inj h
        exact sx_sub [0, 1, 2, 3] rfl (k1 _ rfl)
      · have h := if_n c119 h
        refine sx_iconst (v := (0 : Int32)) dL_law_640 (by decide) ?_
        obtain rfl := Option.some.inj h
        exact absurd (k3 _ rfl) (show ¬ ((0 : Int32) = 1) from by decide)
    have h := if_n c112 h
    by_cases c121 : ((xs v3.toNatClampNeg) &&& (63 : Int32)) = (14 : Int32)
    · have h := if_e c121 h
      refine sx_swIn (tgt := 642) (14 : Int32) dL_law_32 c121 (by decide) (by decide) rfl rfl ?_
      refine sx_aload_n (i := 1) (j := 1) dL_law_642 rfl rfl ?_
      obtain ⟨z122, ez122, h⟩ := bd_e h
      refine sx_callV (avs := []) (rest := []) (st1 := [.int z122.1]) dL_law_643 (mX6_undo h1 ez122) ciX6_undo (Or.inl wd_686) (X6_k h1) rfl rfl rfl rfl (rm_le hrm (Nat.le_of_ble_eq_true rfl)) rfl (Nat.le_of_ble_eq_true rfl) rfl ?_
      refine sx_aload_n (i := 2) (j := 2) dL_law_646 rfl rfl ?_
      obtain ⟨z123, ez123, h⟩ := bd_e h
      refine sx_callV (avs := []) (rest := [.int z122.1]) (st1 := [.int z123.1, .int z122.1]) dL_law_647 (mX7_undo h2 ez123) ciX7_undo (Or.inl wd_1208) (X7_k h2) rfl rfl rfl rfl (rm_le hrm (Nat.le_of_ble_eq_true rfl)) rfl (Nat.le_of_ble_eq_true rfl) rfl ?_
      refine sx_icmp_eq (tgt := 1382) dL_law_650 rfl (fun c124 => ?_) (fun c124 => ?_)
      · have h := if_e c124 h
        obtain ⟨w125, ew125⟩ : ∃ w : Int32, w = v3 + (5 : Int32) := ⟨_, rfl⟩
        have h := lt_e ew125 h
        refine sx_iinc (j := 3) (v := w125) (lv' := [(0, .ref a0), (1, .ref a1), (2, .ref a2), (3, .int w125)]) dL_law_1382 rfl (ii_5 ew125) (by decide) rfl ?_
        refine sx_goto (tgt := 18) dL_law_1385 rfl ?_
        obtain rfl := Option.some.inj h
        exact sx_sub [0, 1, 2, 3] rfl (k1 _ rfl)
      · have h := if_n c124 h
        refine sx_iconst (v := (0 : Int32)) dL_law_653 (by decide) ?_
        obtain rfl := Option.some.inj h
        exact absurd (k3 _ rfl) (show ¬ ((0 : Int32) = 1) from by decide)
    have h := if_n c121 h
    by_cases c126 : ((xs v3.toNatClampNeg) &&& (63 : Int32)) = (15 : Int32)
    · have h := if_e c126 h
      refine sx_swIn (tgt := 655) (15 : Int32) dL_law_32 c126 (by decide) (by decide) rfl rfl ?_
      refine sx_aload_n (i := 1) (j := 1) dL_law_655 rfl rfl ?_
      refine sx_aload_n (i := 0) (j := 0) dL_law_656 rfl rfl ?_
      refine sx_iload_n (i := 3) (j := 3) dL_law_657 rfl rfl ?_
      refine sx_iconst (v := (1 : Int32)) dL_law_658 (by decide) ?_
      refine sx_iadd dL_law_659 ?_
      obtain ⟨c127, h⟩ := gd_e h
      refine sx_sld hscr hb dL_law_660 c127 ?_
      refine sx_aload_n (i := 0) (j := 0) dL_law_661 rfl rfl ?_
      refine sx_iload_n (i := 3) (j := 3) dL_law_662 rfl rfl ?_
      refine sx_iconst (v := (2 : Int32)) dL_law_663 (by decide) ?_
      refine sx_iadd dL_law_664 ?_
      obtain ⟨c128, h⟩ := gd_e h
      refine sx_sld hscr hb dL_law_665 c128 ?_
      obtain ⟨z129, ez129, h⟩ := bd_e h
      refine sx_callV (avs := [.int (xs (v3 + (1 : Int32)).toNatClampNeg), .int (xs (v3 + (2 : Int32)).toNatClampNeg)]) (rest := []) (st1 := [.int z129.1]) dL_law_666 (mX6_of h1 ez129) ciX6_of (Or.inl wd_694) (X6_k h1) rfl rfl rfl rfl (rm_le hrm (Nat.le_of_ble_eq_true rfl)) rfl (Nat.le_of_ble_eq_true rfl) rfl ?_
      refine sx_aload_n (i := 2) (j := 2) dL_law_669 rfl rfl ?_
      refine sx_aload_n (i := 0) (j := 0) dL_law_670 rfl rfl ?_
      refine sx_iload_n (i := 3) (j := 3) dL_law_671 rfl rfl ?_
      refine sx_iconst (v := (1 : Int32)) dL_law_672 (by decide) ?_
      refine sx_iadd dL_law_673 ?_
      obtain ⟨c130, h⟩ := gd_e h
      refine sx_sld hscr hb dL_law_674 c130 ?_
      refine sx_aload_n (i := 0) (j := 0) dL_law_675 rfl rfl ?_
      refine sx_iload_n (i := 3) (j := 3) dL_law_676 rfl rfl ?_
      refine sx_iconst (v := (2 : Int32)) dL_law_677 (by decide) ?_
      refine sx_iadd dL_law_678 ?_
      obtain ⟨c131, h⟩ := gd_e h
      refine sx_sld hscr hb dL_law_679 c131 ?_
      obtain ⟨z132, ez132, h⟩ := bd_e h
      refine sx_callV (avs := [.int (xs (v3 + (1 : Int32)).toNatClampNeg), .int (xs (v3 + (2 : Int32)).toNatClampNeg)]) (rest := [.int z129.1]) (st1 := [.int z132.1, .int z129.1]) dL_law_680 (mX7_of h2 ez132) ciX7_of (Or.inl wd_1212) (X7_k h2) rfl rfl rfl rfl (rm_le hrm (Nat.le_of_ble_eq_true rfl)) rfl (Nat.le_of_ble_eq_true rfl) rfl ?_
      refine sx_icmp_eq (tgt := 1382) dL_law_683 rfl (fun c133 => ?_) (fun c133 => ?_)
      · have h := if_e c133 h
        obtain ⟨w134, ew134⟩ : ∃ w : Int32, w = v3 + (5 : Int32) := ⟨_, rfl⟩
        have h := lt_e ew134 h
        refine sx_iinc (j := 3) (v := w134) (lv' := [(0, .ref a0), (1, .ref a1), (2, .ref a2), (3, .int w134)]) dL_law_1382 rfl (ii_5 ew134) (by decide) rfl ?_
        refine sx_goto (tgt := 18) dL_law_1385 rfl ?_
        obtain rfl := Option.some.inj h
        exact sx_sub [0, 1, 2, 3] rfl (k1 _ rfl)
      · have h := if_n c133 h
        refine sx_iconst (v := (0 : Int32)) dL_law_686 (by decide) ?_
        obtain rfl := Option.some.inj h
        exact absurd (k3 _ rfl) (show ¬ ((0 : Int32) = 1) from by decide)
    have h := if_n c126 h
    by_cases c135 : ((xs v3.toNatClampNeg) &&& (63 : Int32)) = (16 : Int32)
    · have h := if_e c135 h
      refine sx_swIn (tgt := 688) (16 : Int32) dL_law_32 c135 (by decide) (by decide) rfl rfl ?_
      refine sx_aload_n (i := 1) (j := 1) dL_law_688 rfl rfl ?_
      refine sx_aload_n (i := 0) (j := 0) dL_law_689 rfl rfl ?_
      refine sx_iload_n (i := 3) (j := 3) dL_law_690 rfl rfl ?_
      refine sx_iconst (v := (1 : Int32)) dL_law_691 (by decide) ?_
      refine sx_iadd dL_law_692 ?_
      obtain ⟨c136, h⟩ := gd_e h
      refine sx_sld hscr hb dL_law_693 c136 ?_
      refine sx_aload_n (i := 0) (j := 0) dL_law_694 rfl rfl ?_
      refine sx_iload_n (i := 3) (j := 3) dL_law_695 rfl rfl ?_
      refine sx_iconst (v := (2 : Int32)) dL_law_696 (by decide) ?_
      refine sx_iadd dL_law_697 ?_
      obtain ⟨c137, h⟩ := gd_e h
      refine sx_sld hscr hb dL_law_698 c137 ?_
      obtain ⟨z138, ez138, h⟩ := bd_e h
      refine sx_callV (avs := [.int (xs (v3 + (1 : Int32)).toNatClampNeg), .int (xs (v3 + (2 : Int32)).toNatClampNeg)]) (rest := []) (st1 := [.int z138.1]) dL_law_699 (mX6_who h1 ez138) ciX6_who (Or.inl wd_702) (X6_k h1) rfl rfl rfl rfl (rm_le hrm (Nat.le_of_ble_eq_true rfl)) rfl (Nat.le_of_ble_eq_true rfl) rfl ?_
      refine sx_aload_n (i := 2) (j := 2) dL_law_702 rfl rfl ?_
      refine sx_aload_n (i := 0) (j := 0) dL_law_703 rfl rfl ?_
      refine sx_iload_n (i := 3) (j := 3) dL_law_704 rfl rfl ?_
      refine sx_iconst (v := (1 : Int32)) dL_law_705 (by decide) ?_
      refine sx_iadd dL_law_706 ?_
      obtain ⟨c139, h⟩ := gd_e h
      refine sx_sld hscr hb dL_law_707 c139 ?_
      refine sx_aload_n (i := 0) (j := 0) dL_law_708 rfl rfl ?_
      refine sx_iload_n (i := 3) (j := 3) dL_law_709 rfl rfl ?_
      refine sx_iconst (v := (2 : Int32)) dL_law_710 (by decide) ?_
      refine sx_iadd dL_law_711 ?_
      obtain ⟨c140, h⟩ := gd_e h
      refine sx_sld hscr hb dL_law_712 c140 ?_
      obtain ⟨z141, ez141, h⟩ := bd_e h
      refine sx_callV (avs := [.int (xs (v3 + (1 : Int32)).toNatClampNeg), .int (xs (v3 + (2 : Int32)).toNatClampNeg)]) (rest := [.int z138.1]) (st1 := [.int z141.1, .int z138.1]) dL_law_713 (mX7_who h2 ez141) ciX7_who (Or.inl wd_1217) (X7_k h2) rfl rfl rfl rfl (rm_le hrm (Nat.le_of_ble_eq_true rfl)) rfl (Nat.le_of_ble_eq_true rfl) rfl ?_
      refine sx_icmp_eq (tgt := 1382) dL_law_716 rfl (fun c142 => ?_) (fun c142 => ?_)
      · have h := if_e c142 h
        obtain ⟨w143, ew143⟩ : ∃ w : Int32, w = v3 + (5 : Int32) := ⟨_, rfl⟩
        have h := lt_e ew143 h
        refine sx_iinc (j := 3) (v := w143) (lv' := [(0, .ref a0), (1, .ref a1), (2, .ref a2), (3, .int w143)]) dL_law_1382 rfl (ii_5 ew143) (by decide) rfl ?_
        refine sx_goto (tgt := 18) dL_law_1385 rfl ?_
        obtain rfl := Option.some.inj h
        exact sx_sub [0, 1, 2, 3] rfl (k1 _ rfl)
      · have h := if_n c142 h
        refine sx_iconst (v := (0 : Int32)) dL_law_719 (by decide) ?_
        obtain rfl := Option.some.inj h
        exact absurd (k3 _ rfl) (show ¬ ((0 : Int32) = 1) from by decide)
    have h := if_n c135 h
    by_cases c144 : ((xs v3.toNatClampNeg) &&& (63 : Int32)) = (17 : Int32)
    · have h := if_e c144 h
      refine sx_swIn (tgt := 721) (17 : Int32) dL_law_32 c144 (by decide) (by decide) rfl rfl ?_
      refine sx_aload_n (i := 1) (j := 1) dL_law_721 rfl rfl ?_
      refine sx_aload_n (i := 0) (j := 0) dL_law_722 rfl rfl ?_
      refine sx_iload_n (i := 3) (j := 3) dL_law_723 rfl rfl ?_
      refine sx_iconst (v := (1 : Int32)) dL_law_724 (by decide) ?_
      refine sx_iadd dL_law_725 ?_
      obtain ⟨c145, h⟩ := gd_e h
      refine sx_sld hscr hb dL_law_726 c145 ?_
      refine sx_aload_n (i := 0) (j := 0) dL_law_727 rfl rfl ?_
      refine sx_iload_n (i := 3) (j := 3) dL_law_728 rfl rfl ?_
      refine sx_iconst (v := (2 : Int32)) dL_law_729 (by decide) ?_
      refine sx_iadd dL_law_730 ?_
      obtain ⟨c146, h⟩ := gd_e h
      refine sx_sld hscr hb dL_law_731 c146 ?_
      obtain ⟨z147, ez147, h⟩ := bd_e h
      refine sx_callV (avs := [.int (xs (v3 + (1 : Int32)).toNatClampNeg), .int (xs (v3 + (2 : Int32)).toNatClampNeg)]) (rest := []) (st1 := [.int z147.1]) dL_law_732 (mX6_degree h1 ez147) ciX6_degree (Or.inl wd_706) (X6_k h1) rfl rfl rfl rfl (rm_le hrm (Nat.le_of_ble_eq_true rfl)) rfl (Nat.le_of_ble_eq_true rfl) rfl ?_
      refine sx_aload_n (i := 2) (j := 2) dL_law_735 rfl rfl ?_
      refine sx_aload_n (i := 0) (j := 0) dL_law_736 rfl rfl ?_
      refine sx_iload_n (i := 3) (j := 3) dL_law_737 rfl rfl ?_
      refine sx_iconst (v := (1 : Int32)) dL_law_738 (by decide) ?_
      refine sx_iadd dL_law_739 ?_
      obtain ⟨c148, h⟩ := gd_e h
      refine sx_sld hscr hb dL_law_740 c148 ?_
      refine sx_aload_n (i := 0) (j := 0) dL_law_741 rfl rfl ?_
      refine sx_iload_n (i := 3) (j := 3) dL_law_742 rfl rfl ?_
      refine sx_iconst (v := (2 : Int32)) dL_law_743 (by decide) ?_
      refine sx_iadd dL_law_744 ?_
      obtain ⟨c149, h⟩ := gd_e h
      refine sx_sld hscr hb dL_law_745 c149 ?_
      obtain ⟨z150, ez150, h⟩ := bd_e h
      refine sx_callV (avs := [.int (xs (v3 + (1 : Int32)).toNatClampNeg), .int (xs (v3 + (2 : Int32)).toNatClampNeg)]) (rest := [.int z147.1]) (st1 := [.int z150.1, .int z147.1]) dL_law_746 (mX7_degree h2 ez150) ciX7_degree (Or.inl wd_1224) (X7_k h2) rfl rfl rfl rfl (rm_le hrm (Nat.le_of_ble_eq_true rfl)) rfl (Nat.le_of_ble_eq_true rfl) rfl ?_
      refine sx_icmp_eq (tgt := 1382) dL_law_749 rfl (fun c151 => ?_) (fun c151 => ?_)
      · have h := if_e c151 h
        obtain ⟨w152, ew152⟩ : ∃ w : Int32, w = v3 + (5 : Int32) := ⟨_, rfl⟩
        have h := lt_e ew152 h
        refine sx_iinc (j := 3) (v := w152) (lv' := [(0, .ref a0), (1, .ref a1), (2, .ref a2), (3, .int w152)]) dL_law_1382 rfl (ii_5 ew152) (by decide) rfl ?_
        refine sx_goto (tgt := 18) dL_law_1385 rfl ?_
        obtain rfl := Option.some.inj h
        exact sx_sub [0, 1, 2, 3] rfl (k1 _ rfl)
      · have h := if_n c151 h
        refine sx_iconst (v := (0 : Int32)) dL_law_752 (by decide) ?_
        obtain rfl := Option.some.inj h
        exact absurd (k3 _ rfl) (show ¬ ((0 : Int32) = 1) from by decide)
    have h := if_n c144 h
    by_cases c153 : ((xs v3.toNatClampNeg) &&& (63 : Int32)) = (18 : Int32)
    · have h := if_e c153 h
      refine sx_swIn (tgt := 754) (18 : Int32) dL_law_32 c153 (by decide) (by decide) rfl rfl ?_
      refine sx_aload_n (i := 1) (j := 1) dL_law_754 rfl rfl ?_
      refine sx_aload_n (i := 0) (j := 0) dL_law_755 rfl rfl ?_
      refine sx_iload_n (i := 3) (j := 3) dL_law_756 rfl rfl ?_
      refine sx_iconst (v := (1 : Int32)) dL_law_757 (by decide) ?_
      refine sx_iadd dL_law_758 ?_
      obtain ⟨c154, h⟩ := gd_e h
      refine sx_sld hscr hb dL_law_759 c154 ?_
      refine sx_aload_n (i := 0) (j := 0) dL_law_760 rfl rfl ?_
      refine sx_iload_n (i := 3) (j := 3) dL_law_761 rfl rfl ?_
      refine sx_iconst (v := (2 : Int32)) dL_law_762 (by decide) ?_
      refine sx_iadd dL_law_763 ?_
      obtain ⟨c155, h⟩ := gd_e h
      refine sx_sld hscr hb dL_law_764 c155 ?_
      obtain ⟨z156, ez156, h⟩ := bd_e h
      refine sx_callV (avs := [.int (xs (v3 + (1 : Int32)).toNatClampNeg), .int (xs (v3 + (2 : Int32)).toNatClampNeg)]) (rest := []) (st1 := [.int z156.1]) dL_law_765 (mX6_rank h1 ez156) ciX6_rank (Or.inl wd_714) (X6_k h1) rfl rfl rfl rfl (rm_le hrm (Nat.le_of_ble_eq_true rfl)) rfl (Nat.le_of_ble_eq_true rfl) rfl ?_
      refine sx_aload_n (i := 2) (j := 2) dL_law_768 rfl rfl ?_
      refine sx_aload_n (i := 0) (j := 0) dL_law_769 rfl rfl ?_
      refine sx_iload_n (i := 3) (j := 3) dL_law_770 rfl rfl ?_
      refine sx_iconst (v := (1 : Int32)) dL_law_771 (by decide) ?_
      refine sx_iadd dL_law_772 ?_
      obtain ⟨c157, h⟩ := gd_e h
      refine sx_sld hscr hb dL_law_773 c157 ?_
      refine sx_aload_n (i := 0) (j := 0) dL_law_774 rfl rfl ?_
      refine sx_iload_n (i := 3) (j := 3) dL_law_775 rfl rfl ?_
      refine sx_iconst (v := (2 : Int32)) dL_law_776 (by decide) ?_
      refine sx_iadd dL_law_777 ?_
      obtain ⟨c158, h⟩ := gd_e h
      refine sx_sld hscr hb dL_law_778 c158 ?_
      obtain ⟨z159, ez159, h⟩ := bd_e h
      refine sx_callV (avs := [.int (xs (v3 + (1 : Int32)).toNatClampNeg), .int (xs (v3 + (2 : Int32)).toNatClampNeg)]) (rest := [.int z156.1]) (st1 := [.int z159.1, .int z156.1]) dL_law_779 (mX7_rank h2 ez159) ciX7_rank (Or.inl wd_1228) (X7_k h2) rfl rfl rfl rfl (rm_le hrm (Nat.le_of_ble_eq_true rfl)) rfl (Nat.le_of_ble_eq_true rfl) rfl ?_
      refine sx_icmp_eq (tgt := 1382) dL_law_782 rfl (fun c160 => ?_) (fun c160 => ?_)
      · have h := if_e c160 h
        obtain ⟨w161, ew161⟩ : ∃ w : Int32, w = v3 + (5 : Int32) := ⟨_, rfl⟩
        have h := lt_e ew161 h
        refine sx_iinc (j := 3) (v := w161) (lv' := [(0, .ref a0), (1, .ref a1), (2, .ref a2), (3, .int w161)]) dL_law_1382 rfl (ii_5 ew161) (by decide) rfl ?_
        refine sx_goto (tgt := 18) dL_law_1385 rfl ?_
        obtain rfl := Option.some.inj h
        exact sx_sub [0, 1, 2, 3] rfl (k1 _ rfl)
      · have h := if_n c160 h
        refine sx_iconst (v := (0 : Int32)) dL_law_785 (by decide) ?_
        obtain rfl := Option.some.inj h
        exact absurd (k3 _ rfl) (show ¬ ((0 : Int32) = 1) from by decide)
    have h := if_n c153 h
    by_cases c162 : ((xs v3.toNatClampNeg) &&& (63 : Int32)) = (19 : Int32)
    · have h := if_e c162 h
      refine sx_swIn (tgt := 787) (19 : Int32) dL_law_32 c162 (by decide) (by decide) rfl rfl ?_
      refine sx_aload_n (i := 1) (j := 1) dL_law_787 rfl rfl ?_
      refine sx_aload_n (i := 0) (j := 0) dL_law_788 rfl rfl ?_
      refine sx_iload_n (i := 3) (j := 3) dL_law_789 rfl rfl ?_
      refine sx_iconst (v := (1 : Int32)) dL_law_790 (by decide) ?_
      refine sx_iadd dL_law_791 ?_
      obtain ⟨c163, h⟩ := gd_e h
      refine sx_sld hscr hb dL_law_792 c163 ?_
      obtain ⟨z164, ez164, h⟩ := bd_e h
      refine sx_callV (avs := [.int (xs (v3 + (1 : Int32)).toNatClampNeg)]) (rest := []) (st1 := [.int z164.1]) dL_law_793 (mX6_heir h1 ez164) ciX6_heir (Or.inl wd_723) (X6_k h1) rfl rfl rfl rfl (rm_le hrm (Nat.le_of_ble_eq_true rfl)) rfl (Nat.le_of_ble_eq_true rfl) rfl ?_
      refine sx_aload_n (i := 2) (j := 2) dL_law_796 rfl rfl ?_
      refine sx_aload_n (i := 0) (j := 0) dL_law_797 rfl rfl ?_
      refine sx_iload_n (i := 3) (j := 3) dL_law_798 rfl rfl ?_
      refine sx_iconst (v := (1 : Int32)) dL_law_799 (by decide) ?_
      refine sx_iadd dL_law_800 ?_
      obtain ⟨c165, h⟩ := gd_e h
      refine sx_sld hscr hb dL_law_801 c165 ?_
      obtain ⟨z166, ez166, h⟩ := bd_e h
      refine sx_callV (avs := [.int (xs (v3 + (1 : Int32)).toNatClampNeg)]) (rest := [.int z164.1]) (st1 := [.int z166.1, .int z164.1]) dL_law_802 (mX7_heir h2 ez166) ciX7_heir (Or.inl wd_1232) (X7_k h2) rfl rfl rfl rfl (rm_le hrm (Nat.le_of_ble_eq_true rfl)) rfl (Nat.le_of_ble_eq_true rfl) rfl ?_
      refine sx_icmp_eq (tgt := 1382) dL_law_805 rfl (fun c167 => ?_) (fun c167 => ?_)
      · have h := if_e c167 h
        obtain ⟨w168, ew168⟩ : ∃ w : Int32, w = v3 + (5 : Int32) := ⟨_, rfl⟩
        have h := lt_e ew168 h
        refine sx_iinc (j := 3) (v := w168) (lv' := [(0, .ref a0), (1, .ref a1), (2, .ref a2), (3, .int w168)]) dL_law_1382 rfl (ii_5 ew168) (by decide) rfl ?_
        refine sx_goto (tgt := 18) dL_law_1385 rfl ?_
        obtain rfl := Option.some.inj h
        exact sx_sub [0, 1, 2, 3] rfl (k1 _ rfl)
      · have h := if_n c167 h
        refine sx_iconst (v := (0 : Int32)) dL_law_808 (by decide) ?_
        obtain rfl := Option.some.inj h
        exact absurd (k3 _ rfl) (show ¬ ((0 : Int32) = 1) from by decide)
    have h := if_n c162 h
    by_cases c169 : ((xs v3.toNatClampNeg) &&& (63 : Int32)) = (20 : Int32)
    · have h := if_e c169 h
      refine sx_swIn (tgt := 810) (20 : Int32) dL_law_32 c169 (by decide) (by decide) rfl rfl ?_
      refine sx_aload_n (i := 1) (j := 1) dL_law_810 rfl rfl ?_
      refine sx_aload_n (i := 0) (j := 0) dL_law_811 rfl rfl ?_
      refine sx_iload_n (i := 3) (j := 3) dL_law_812 rfl rfl ?_
      refine sx_iconst (v := (1 : Int32)) dL_law_813 (by decide) ?_
      refine sx_iadd dL_law_814 ?_
      obtain ⟨c170, h⟩ := gd_e h
      refine sx_sld hscr hb dL_law_815 c170 ?_
      refine sx_aload_n (i := 0) (j := 0) dL_law_816 rfl rfl ?_
      refine sx_iload_n (i := 3) (j := 3) dL_law_817 rfl rfl ?_
      refine sx_iconst (v := (2 : Int32)) dL_law_818 (by decide) ?_
      refine sx_iadd dL_law_819 ?_
      obtain ⟨c171, h⟩ := gd_e h
      refine sx_sld hscr hb dL_law_820 c171 ?_
      obtain ⟨z172, ez172, h⟩ := bd_e h
      refine sx_callV (avs := [.int (xs (v3 + (1 : Int32)).toNatClampNeg), .int (xs (v3 + (2 : Int32)).toNatClampNeg)]) (rest := []) (st1 := [.int z172.1]) dL_law_821 (mX6_wills h1 ez172) ciX6_wills (Or.inl wd_731) (X6_k h1) rfl rfl rfl rfl (rm_le hrm (Nat.le_of_ble_eq_true rfl)) rfl (Nat.le_of_ble_eq_true rfl) rfl ?_
      refine sx_aload_n (i := 2) (j := 2) dL_law_824 rfl rfl ?_
      refine sx_aload_n (i := 0) (j := 0) dL_law_825 rfl rfl ?_
      refine sx_iload_n (i := 3) (j := 3) dL_law_826 rfl rfl ?_
      refine sx_iconst (v := (1 : Int32)) dL_law_827 (by decide) ?_
      refine sx_iadd dL_law_828 ?_
      obtain ⟨c173, h⟩ := gd_e h
      refine sx_sld hscr hb dL_law_829 c173 ?_
      refine sx_aload_n (i := 0) (j := 0) dL_law_830 rfl rfl ?_
      refine sx_iload_n (i := 3) (j := 3) dL_law_831 rfl rfl ?_
      refine sx_iconst (v := (2 : Int32)) dL_law_832 (by decide) ?_
      refine sx_iadd dL_law_833 ?_
      obtain ⟨c174, h⟩ := gd_e h
      refine sx_sld hscr hb dL_law_834 c174 ?_
      obtain ⟨z175, ez175, h⟩ := bd_e h
      refine sx_callV (avs := [.int (xs (v3 + (1 : Int32)).toNatClampNeg), .int (xs (v3 + (2 : Int32)).toNatClampNeg)]) (rest := [.int z172.1]) (st1 := [.int z175.1, .int z172.1]) dL_law_835 (mX7_wills h2 ez175) ciX7_wills (Or.inl wd_1236) (X7_k h2) rfl rfl rfl rfl (rm_le hrm (Nat.le_of_ble_eq_true rfl)) rfl (Nat.le_of_ble_eq_true rfl) rfl ?_
      refine sx_icmp_eq (tgt := 1382) dL_law_838 rfl (fun c176 => ?_) (fun c176 => ?_)
      · have h := if_e c176 h
        obtain ⟨w177, ew177⟩ : ∃ w : Int32, w = v3 + (5 : Int32) := ⟨_, rfl⟩
        have h := lt_e ew177 h
        refine sx_iinc (j := 3) (v := w177) (lv' := [(0, .ref a0), (1, .ref a1), (2, .ref a2), (3, .int w177)]) dL_law_1382 rfl (ii_5 ew177) (by decide) rfl ?_
        refine sx_goto (tgt := 18) dL_law_1385 rfl ?_
        obtain rfl := Option.some.inj h
        exact sx_sub [0, 1, 2, 3] rfl (k1 _ rfl)
      · have h := if_n c176 h
        refine sx_iconst (v := (0 : Int32)) dL_law_841 (by decide) ?_
        obtain rfl := Option.some.inj h
        exact absurd (k3 _ rfl) (show ¬ ((0 : Int32) = 1) from by decide)
    have h := if_n c169 h
    by_cases c178 : ((xs v3.toNatClampNeg) &&& (63 : Int32)) = (21 : Int32)
    · have h := if_e c178 h
      refine sx_swIn (tgt := 843) (21 : Int32) dL_law_32 c178 (by decide) (by decide) rfl rfl ?_
      refine sx_aload_n (i := 1) (j := 1) dL_law_843 rfl rfl ?_
      refine sx_aload_n (i := 0) (j := 0) dL_law_844 rfl rfl ?_
      refine sx_iload_n (i := 3) (j := 3) dL_law_845 rfl rfl ?_
      refine sx_iconst (v := (1 : Int32)) dL_law_846 (by decide) ?_
      refine sx_iadd dL_law_847 ?_
      obtain ⟨c179, h⟩ := gd_e h
      refine sx_sld hscr hb dL_law_848 c179 ?_
      refine sx_aload_n (i := 0) (j := 0) dL_law_849 rfl rfl ?_
      refine sx_iload_n (i := 3) (j := 3) dL_law_850 rfl rfl ?_
      refine sx_iconst (v := (2 : Int32)) dL_law_851 (by decide) ?_
      refine sx_iadd dL_law_852 ?_
      obtain ⟨c180, h⟩ := gd_e h
      refine sx_sld hscr hb dL_law_853 c180 ?_
      obtain ⟨z181, ez181, h⟩ := bd_e h
      refine sx_callV (avs := [.int (xs (v3 + (1 : Int32)).toNatClampNeg), .int (xs (v3 + (2 : Int32)).toNatClampNeg)]) (rest := []) (st1 := [.int z181.1]) dL_law_854 (mX6_buildFor h1 ez181) ciX6_buildFor (Or.inl wd_736) (X6_k h1) rfl rfl rfl rfl (rm_le hrm (Nat.le_of_ble_eq_true rfl)) rfl (Nat.le_of_ble_eq_true rfl) rfl ?_
      refine sx_aload_n (i := 2) (j := 2) dL_law_857 rfl rfl ?_
      refine sx_aload_n (i := 0) (j := 0) dL_law_858 rfl rfl ?_
      refine sx_iload_n (i := 3) (j := 3) dL_law_859 rfl rfl ?_
      refine sx_iconst (v := (1 : Int32)) dL_law_860 (by decide) ?_
      refine sx_iadd dL_law_861 ?_
      obtain ⟨c182, h⟩ := gd_e h
      refine sx_sld hscr hb dL_law_862 c182 ?_
      refine sx_aload_n (i := 0) (j := 0) dL_law_863 rfl rfl ?_
      refine sx_iload_n (i := 3) (j := 3) dL_law_864 rfl rfl ?_
      refine sx_iconst (v := (2 : Int32)) dL_law_865 (by decide) ?_
      refine sx_iadd dL_law_866 ?_
      obtain ⟨c183, h⟩ := gd_e h
      refine sx_sld hscr hb dL_law_867 c183 ?_
      obtain ⟨z184, ez184, h⟩ := bd_e h
      refine sx_callV (avs := [.int (xs (v3 + (1 : Int32)).toNatClampNeg), .int (xs (v3 + (2 : Int32)).toNatClampNeg)]) (rest := [.int z181.1]) (st1 := [.int z184.1, .int z181.1]) dL_law_868 (mX7_buildFor h2 ez184) ciX7_buildFor (Or.inl wd_1240) (X7_k h2) rfl rfl rfl rfl (rm_le hrm (Nat.le_of_ble_eq_true rfl)) rfl (Nat.le_of_ble_eq_true rfl) rfl ?_
      refine sx_icmp_eq (tgt := 1382) dL_law_871 rfl (fun c185 => ?_) (fun c185 => ?_)
      · have h := if_e c185 h
        obtain ⟨w186, ew186⟩ : ∃ w : Int32, w = v3 + (5 : Int32) := ⟨_, rfl⟩
        have h := lt_e ew186 h
        refine sx_iinc (j := 3) (v := w186) (lv' := [(0, .ref a0), (1, .ref a1), (2, .ref a2), (3, .int w186)]) dL_law_1382 rfl (ii_5 ew186) (by decide) rfl ?_
        refine sx_goto (tgt := 18) dL_law_1385 rfl ?_
        obtain rfl := Option.some.inj h
        exact sx_sub [0, 1, 2, 3] rfl (k1 _ rfl)
      · have h := if_n c185 h
        refine sx_iconst (v := (0 : Int32)) dL_law_874 (by decide) ?_
        obtain rfl := Option.some.inj h
        exact absurd (k3 _ rfl) (show ¬ ((0 : Int32) = 1) from by decide)
    have h := if_n c178 h
    by_cases c187 : ((xs v3.toNatClampNeg) &&& (63 : Int32)) = (22 : Int32)
    · have h := if_e c187 h
      refine sx_swIn (tgt := 876) (22 : Int32) dL_law_32 c187 (by decide) (by decide) rfl rfl ?_
      refine sx_aload_n (i := 1) (j := 1) dL_law_876 rfl rfl ?_
      refine sx_aload_n (i := 0) (j := 0) dL_law_877 rfl rfl ?_
      refine sx_iload_n (i := 3) (j := 3) dL_law_878 rfl rfl ?_
      refine sx_iconst (v := (1 : Int32)) dL_law_879 (by decide) ?_
      refine sx_iadd dL_law_880 ?_
      obtain ⟨c188, h⟩ := gd_e h
      refine sx_sld hscr hb dL_law_881 c188 ?_
      refine sx_aload_n (i := 0) (j := 0) dL_law_882 rfl rfl ?_
      refine sx_iload_n (i := 3) (j := 3) dL_law_883 rfl rfl ?_
      refine sx_iconst (v := (2 : Int32)) dL_law_884 (by decide) ?_
      refine sx_iadd dL_law_885 ?_
      obtain ⟨c189, h⟩ := gd_e h
      refine sx_sld hscr hb dL_law_886 c189 ?_
      obtain ⟨z190, ez190, h⟩ := bd_e h
      refine sx_callV (avs := [.int (xs (v3 + (1 : Int32)).toNatClampNeg), .int (xs (v3 + (2 : Int32)).toNatClampNeg)]) (rest := []) (st1 := [.int z190.1]) dL_law_887 (mX6_adopts h1 ez190) ciX6_adopts (Or.inl wd_748) (X6_k h1) rfl rfl rfl rfl (rm_le hrm (Nat.le_of_ble_eq_true rfl)) rfl (Nat.le_of_ble_eq_true rfl) rfl ?_
      refine sx_aload_n (i := 2) (j := 2) dL_law_890 rfl rfl ?_
      refine sx_aload_n (i := 0) (j := 0) dL_law_891 rfl rfl ?_
      refine sx_iload_n (i := 3) (j := 3) dL_law_892 rfl rfl ?_
      refine sx_iconst (v := (1 : Int32)) dL_law_893 (by decide) ?_
      refine sx_iadd dL_law_894 ?_
      obtain ⟨c191, h⟩ := gd_e h
      refine sx_sld hscr hb dL_law_895 c191 ?_
      refine sx_aload_n (i := 0) (j := 0) dL_law_896 rfl rfl ?_
      refine sx_iload_n (i := 3) (j := 3) dL_law_897 rfl rfl ?_
      refine sx_iconst (v := (2 : Int32)) dL_law_898 (by decide) ?_
      refine sx_iadd dL_law_899 ?_
      obtain ⟨c192, h⟩ := gd_e h
      refine sx_sld hscr hb dL_law_900 c192 ?_
      obtain ⟨z193, ez193, h⟩ := bd_e h
      refine sx_callV (avs := [.int (xs (v3 + (1 : Int32)).toNatClampNeg), .int (xs (v3 + (2 : Int32)).toNatClampNeg)]) (rest := [.int z190.1]) (st1 := [.int z193.1, .int z190.1]) dL_law_901 (mX7_adopts h2 ez193) ciX7_adopts (Or.inl wd_1256) (X7_k h2) rfl rfl rfl rfl (rm_le hrm (Nat.le_of_ble_eq_true rfl)) rfl (Nat.le_of_ble_eq_true rfl) rfl ?_
      refine sx_icmp_eq (tgt := 1382) dL_law_904 rfl (fun c194 => ?_) (fun c194 => ?_)
      · have h := if_e c194 h
        obtain ⟨w195, ew195⟩ : ∃ w : Int32, w = v3 + (5 : Int32) := ⟨_, rfl⟩
        have h := lt_e ew195 h
        refine sx_iinc (j := 3) (v := w195) (lv' := [(0, .ref a0), (1, .ref a1), (2, .ref a2), (3, .int w195)]) dL_law_1382 rfl (ii_5 ew195) (by decide) rfl ?_
        refine sx_goto (tgt := 18) dL_law_1385 rfl ?_
        obtain rfl := Option.some.inj h
        exact sx_sub [0, 1, 2, 3] rfl (k1 _ rfl)
      · have h := if_n c194 h
        refine sx_iconst (v := (0 : Int32)) dL_law_907 (by decide) ?_
        obtain rfl := Option.some.inj h
        exact absurd (k3 _ rfl) (show ¬ ((0 : Int32) = 1) from by decide)
    have h := if_n c187 h
    by_cases c196 : ((xs v3.toNatClampNeg) &&& (63 : Int32)) = (23 : Int32)
    · have h := if_e c196 h
      refine sx_swIn (tgt := 909) (23 : Int32) dL_law_32 c196 (by decide) (by decide) rfl rfl ?_
      refine sx_aload_n (i := 1) (j := 1) dL_law_909 rfl rfl ?_
      refine sx_aload_n (i := 0) (j := 0) dL_law_910 rfl rfl ?_
      refine sx_iload_n (i := 3) (j := 3) dL_law_911 rfl rfl ?_
      refine sx_iconst (v := (1 : Int32)) dL_law_912 (by decide) ?_
      refine sx_iadd dL_law_913 ?_
      obtain ⟨c197, h⟩ := gd_e h
      refine sx_sld hscr hb dL_law_914 c197 ?_
      refine sx_aload_n (i := 0) (j := 0) dL_law_915 rfl rfl ?_
      refine sx_iload_n (i := 3) (j := 3) dL_law_916 rfl rfl ?_
      refine sx_iconst (v := (2 : Int32)) dL_law_917 (by decide) ?_
      refine sx_iadd dL_law_918 ?_
      obtain ⟨c198, h⟩ := gd_e h
      refine sx_sld hscr hb dL_law_919 c198 ?_
      obtain ⟨z199, ez199, h⟩ := bd_e h
      refine sx_callV (avs := [.int (xs (v3 + (1 : Int32)).toNatClampNeg), .int (xs (v3 + (2 : Int32)).toNatClampNeg)]) (rest := []) (st1 := [.int z199.1]) dL_law_920 (mX6_lives h1 ez199) ciX6_lives (Or.inl wd_752) (X6_k h1) rfl rfl rfl rfl (rm_le hrm (Nat.le_of_ble_eq_true rfl)) rfl (Nat.le_of_ble_eq_true rfl) rfl ?_
      refine sx_aload_n (i := 2) (j := 2) dL_law_923 rfl rfl ?_
      refine sx_aload_n (i := 0) (j := 0) dL_law_924 rfl rfl ?_
      refine sx_iload_n (i := 3) (j := 3) dL_law_925 rfl rfl ?_
      refine sx_iconst (v := (1 : Int32)) dL_law_926 (by decide) ?_
      refine sx_iadd dL_law_927 ?_
      obtain ⟨c200, h⟩ := gd_e h
      refine sx_sld hscr hb dL_law_928 c200 ?_
      refine sx_aload_n (i := 0) (j := 0) dL_law_929 rfl rfl ?_
      refine sx_iload_n (i := 3) (j := 3) dL_law_930 rfl rfl ?_
      refine sx_iconst (v := (2 : Int32)) dL_law_931 (by decide) ?_
      refine sx_iadd dL_law_932 ?_
      obtain ⟨c201, h⟩ := gd_e h
      refine sx_sld hscr hb dL_law_933 c201 ?_
      obtain ⟨z202, ez202, h⟩ := bd_e h
      refine sx_callV (avs := [.int (xs (v3 + (1 : Int32)).toNatClampNeg), .int (xs (v3 + (2 : Int32)).toNatClampNeg)]) (rest := [.int z199.1]) (st1 := [.int z202.1, .int z199.1]) dL_law_934 (mX7_lives h2 ez202) ciX7_lives (Or.inl wd_1260) (X7_k h2) rfl rfl rfl rfl (rm_le hrm (Nat.le_of_ble_eq_true rfl)) rfl (Nat.le_of_ble_eq_true rfl) rfl ?_
      refine sx_icmp_eq (tgt := 1382) dL_law_937 rfl (fun c203 => ?_) (fun c203 => ?_)
      · have h := if_e c203 h
        obtain ⟨w204, ew204⟩ : ∃ w : Int32, w = v3 + (5 : Int32) := ⟨_, rfl⟩
        have h := lt_e ew204 h
        refine sx_iinc (j := 3) (v := w204) (lv' := [(0, .ref a0), (1, .ref a1), (2, .ref a2), (3, .int w204)]) dL_law_1382 rfl (ii_5 ew204) (by decide) rfl ?_
        refine sx_goto (tgt := 18) dL_law_1385 rfl ?_
        obtain rfl := Option.some.inj h
        exact sx_sub [0, 1, 2, 3] rfl (k1 _ rfl)
      · have h := if_n c203 h
        refine sx_iconst (v := (0 : Int32)) dL_law_940 (by decide) ?_
        obtain rfl := Option.some.inj h
        exact absurd (k3 _ rfl) (show ¬ ((0 : Int32) = 1) from by decide)
    have h := if_n c196 h
    by_cases c205 : ((xs v3.toNatClampNeg) &&& (63 : Int32)) = (24 : Int32)
    · have h := if_e c205 h
      refine sx_swIn (tgt := 942) (24 : Int32) dL_law_32 c205 (by decide) (by decide) rfl rfl ?_
      refine sx_aload_n (i := 1) (j := 1) dL_law_942 rfl rfl ?_
      refine sx_aload_n (i := 0) (j := 0) dL_law_943 rfl rfl ?_
      refine sx_iload_n (i := 3) (j := 3) dL_law_944 rfl rfl ?_
      refine sx_iconst (v := (1 : Int32)) dL_law_945 (by decide) ?_
      refine sx_iadd dL_law_946 ?_
      obtain ⟨c206, h⟩ := gd_e h
      refine sx_sld hscr hb dL_law_947 c206 ?_
      obtain ⟨z207, ez207, h⟩ := bd_e h
      refine sx_callV (avs := [.int (xs (v3 + (1 : Int32)).toNatClampNeg)]) (rest := []) (st1 := [.int z207.1]) dL_law_948 (mX6_stand h1 ez207) ciX6_stand (Or.inl wd_760) (X6_k h1) rfl rfl rfl rfl (rm_le hrm (Nat.le_of_ble_eq_true rfl)) rfl (Nat.le_of_ble_eq_true rfl) rfl ?_
      refine sx_aload_n (i := 2) (j := 2) dL_law_951 rfl rfl ?_
      refine sx_aload_n (i := 0) (j := 0) dL_law_952 rfl rfl ?_
      refine sx_iload_n (i := 3) (j := 3) dL_law_953 rfl rfl ?_
      refine sx_iconst (v := (1 : Int32)) dL_law_954 (by decide) ?_
      refine sx_iadd dL_law_955 ?_
      obtain ⟨c208, h⟩ := gd_e h
      refine sx_sld hscr hb dL_law_956 c208 ?_
      obtain ⟨z209, ez209, h⟩ := bd_e h
      refine sx_callV (avs := [.int (xs (v3 + (1 : Int32)).toNatClampNeg)]) (rest := [.int z207.1]) (st1 := [.int z209.1, .int z207.1]) dL_law_957 (mX7_stand h2 ez209) ciX7_stand (Or.inl wd_1269) (X7_k h2) rfl rfl rfl rfl (rm_le hrm (Nat.le_of_ble_eq_true rfl)) rfl (Nat.le_of_ble_eq_true rfl) rfl ?_
      refine sx_icmp_eq (tgt := 1382) dL_law_960 rfl (fun c210 => ?_) (fun c210 => ?_)
      · have h := if_e c210 h
        obtain ⟨w211, ew211⟩ : ∃ w : Int32, w = v3 + (5 : Int32) := ⟨_, rfl⟩
        have h := lt_e ew211 h
        refine sx_iinc (j := 3) (v := w211) (lv' := [(0, .ref a0), (1, .ref a1), (2, .ref a2), (3, .int w211)]) dL_law_1382 rfl (ii_5 ew211) (by decide) rfl ?_
        refine sx_goto (tgt := 18) dL_law_1385 rfl ?_
        obtain rfl := Option.some.inj h
        exact sx_sub [0, 1, 2, 3] rfl (k1 _ rfl)
      · have h := if_n c210 h
        refine sx_iconst (v := (0 : Int32)) dL_law_963 (by decide) ?_
        obtain rfl := Option.some.inj h
        exact absurd (k3 _ rfl) (show ¬ ((0 : Int32) = 1) from by decide)
    have h := if_n c205 h
    by_cases c212 : ((xs v3.toNatClampNeg) &&& (63 : Int32)) = (25 : Int32)
    · have h := if_e c212 h
      refine sx_swIn (tgt := 965) (25 : Int32) dL_law_32 c212 (by decide) (by decide) rfl rfl ?_
      refine sx_aload_n (i := 1) (j := 1) dL_law_965 rfl rfl ?_
      refine sx_aload_n (i := 0) (j := 0) dL_law_966 rfl rfl ?_
      refine sx_iload_n (i := 3) (j := 3) dL_law_967 rfl rfl ?_
      refine sx_iconst (v := (1 : Int32)) dL_law_968 (by decide) ?_
      refine sx_iadd dL_law_969 ?_
      obtain ⟨c213, h⟩ := gd_e h
      refine sx_sld hscr hb dL_law_970 c213 ?_
      obtain ⟨z214, ez214, h⟩ := bd_e h
      refine sx_callV (avs := [.int (xs (v3 + (1 : Int32)).toNatClampNeg)]) (rest := []) (st1 := [.int z214.1]) dL_law_971 (mX6_overfull h1 ez214) ciX6_overfull (Or.inl wd_764) (X6_k h1) rfl rfl rfl rfl (rm_le hrm (Nat.le_of_ble_eq_true rfl)) rfl (Nat.le_of_ble_eq_true rfl) rfl ?_
      refine sx_aload_n (i := 2) (j := 2) dL_law_974 rfl rfl ?_
      refine sx_aload_n (i := 0) (j := 0) dL_law_975 rfl rfl ?_
      refine sx_iload_n (i := 3) (j := 3) dL_law_976 rfl rfl ?_
      refine sx_iconst (v := (1 : Int32)) dL_law_977 (by decide) ?_
      refine sx_iadd dL_law_978 ?_
      obtain ⟨c215, h⟩ := gd_e h
      refine sx_sld hscr hb dL_law_979 c215 ?_
      obtain ⟨z216, ez216, h⟩ := bd_e h
      refine sx_callV (avs := [.int (xs (v3 + (1 : Int32)).toNatClampNeg)]) (rest := [.int z214.1]) (st1 := [.int z216.1, .int z214.1]) dL_law_980 (mX7_overfull h2 ez216) ciX7_overfull (Or.inl wd_1273) (X7_k h2) rfl rfl rfl rfl (rm_le hrm (Nat.le_of_ble_eq_true rfl)) rfl (Nat.le_of_ble_eq_true rfl) rfl ?_
      refine sx_icmp_eq (tgt := 1382) dL_law_983 rfl (fun c217 => ?_) (fun c217 => ?_)
      · have h := if_e c217 h
        obtain ⟨w218, ew218⟩ : ∃ w : Int32, w = v3 + (5 : Int32) := ⟨_, rfl⟩
        have h := lt_e ew218 h
        refine sx_iinc (j := 3) (v := w218) (lv' := [(0, .ref a0), (1, .ref a1), (2, .ref a2), (3, .int w218)]) dL_law_1382 rfl (ii_5 ew218) (by decide) rfl ?_
        refine sx_goto (tgt := 18) dL_law_1385 rfl ?_
        obtain rfl := Option.some.inj h
        exact sx_sub [0, 1, 2, 3] rfl (k1 _ rfl)
      · have h := if_n c217 h
        refine sx_iconst (v := (0 : Int32)) dL_law_986 (by decide) ?_
        obtain rfl := Option.some.inj h
        exact absurd (k3 _ rfl) (show ¬ ((0 : Int32) = 1) from by decide)
    have h := if_n c212 h
    by_cases c219 : ((xs v3.toNatClampNeg) &&& (63 : Int32)) = (26 : Int32)
    · have h := if_e c219 h
      refine sx_swIn (tgt := 988) (26 : Int32) dL_law_32 c219 (by decide) (by decide) rfl rfl ?_
      refine sx_aload_n (i := 1) (j := 1) dL_law_988 rfl rfl ?_
      refine sx_aload_n (i := 0) (j := 0) dL_law_989 rfl rfl ?_
      refine sx_iload_n (i := 3) (j := 3) dL_law_990 rfl rfl ?_
      refine sx_iconst (v := (1 : Int32)) dL_law_991 (by decide) ?_
      refine sx_iadd dL_law_992 ?_
      obtain ⟨c220, h⟩ := gd_e h
      refine sx_sld hscr hb dL_law_993 c220 ?_
      refine sx_aload_n (i := 0) (j := 0) dL_law_994 rfl rfl ?_
      refine sx_iload_n (i := 3) (j := 3) dL_law_995 rfl rfl ?_
      refine sx_iconst (v := (2 : Int32)) dL_law_996 (by decide) ?_
      refine sx_iadd dL_law_997 ?_
      obtain ⟨c221, h⟩ := gd_e h
      refine sx_sld hscr hb dL_law_998 c221 ?_
      refine sx_aload_n (i := 0) (j := 0) dL_law_999 rfl rfl ?_
      refine sx_iload_n (i := 3) (j := 3) dL_law_1000 rfl rfl ?_
      refine sx_iconst (v := (3 : Int32)) dL_law_1001 (by decide) ?_
      refine sx_iadd dL_law_1002 ?_
      obtain ⟨c222, h⟩ := gd_e h
      refine sx_sld hscr hb dL_law_1003 c222 ?_
      refine sx_aload_n (i := 0) (j := 0) dL_law_1004 rfl rfl ?_
      refine sx_iload_n (i := 3) (j := 3) dL_law_1005 rfl rfl ?_
      refine sx_iconst (v := (4 : Int32)) dL_law_1006 (by decide) ?_
      refine sx_iadd dL_law_1007 ?_
      obtain ⟨c223, h⟩ := gd_e h
      refine sx_sld hscr hb dL_law_1008 c223 ?_
      obtain ⟨z224, ez224, h⟩ := bd_e h
      refine sx_callV (avs := [.int (xs (v3 + (1 : Int32)).toNatClampNeg), .int (xs (v3 + (2 : Int32)).toNatClampNeg), .int (xs (v3 + (3 : Int32)).toNatClampNeg), .int (xs (v3 + (4 : Int32)).toNatClampNeg)]) (rest := []) (st1 := [.int z224.1]) dL_law_1009 (mX6_orders h1 ez224) ciX6_orders (Or.inl wd_772) (X6_k h1) rfl rfl rfl rfl (rm_le hrm (Nat.le_of_ble_eq_true rfl)) rfl (Nat.le_of_ble_eq_true rfl) rfl ?_
      refine sx_aload_n (i := 2) (j := 2) dL_law_1012 rfl rfl ?_
      refine sx_aload_n (i := 0) (j := 0) dL_law_1013 rfl rfl ?_
      refine sx_iload_n (i := 3) (j := 3) dL_law_1014 rfl rfl ?_
      refine sx_iconst (v := (1 : Int32)) dL_law_1015 (by decide) ?_
      refine sx_iadd dL_law_1016 ?_
      obtain ⟨c225, h⟩ := gd_e h
      refine sx_sld hscr hb dL_law_1017 c225 ?_
      refine sx_aload_n (i := 0) (j := 0) dL_law_1018 rfl rfl ?_
      refine sx_iload_n (i := 3) (j := 3) dL_law_1019 rfl rfl ?_
      refine sx_iconst (v := (2 : Int32)) dL_law_1020 (by decide) ?_
      refine sx_iadd dL_law_1021 ?_
      obtain ⟨c226, h⟩ := gd_e h
      refine sx_sld hscr hb dL_law_1022 c226 ?_
      refine sx_aload_n (i := 0) (j := 0) dL_law_1023 rfl rfl ?_
      refine sx_iload_n (i := 3) (j := 3) dL_law_1024 rfl rfl ?_
      refine sx_iconst (v := (3 : Int32)) dL_law_1025 (by decide) ?_
      refine sx_iadd dL_law_1026 ?_
      obtain ⟨c227, h⟩ := gd_e h
      refine sx_sld hscr hb dL_law_1027 c227 ?_
      refine sx_aload_n (i := 0) (j := 0) dL_law_1028 rfl rfl ?_
      refine sx_iload_n (i := 3) (j := 3) dL_law_1029 rfl rfl ?_
      refine sx_iconst (v := (4 : Int32)) dL_law_1030 (by decide) ?_
      refine sx_iadd dL_law_1031 ?_
      obtain ⟨c228, h⟩ := gd_e h
      refine sx_sld hscr hb dL_law_1032 c228 ?_
      obtain ⟨z229, ez229, h⟩ := bd_e h
      refine sx_callV (avs := [.int (xs (v3 + (1 : Int32)).toNatClampNeg), .int (xs (v3 + (2 : Int32)).toNatClampNeg), .int (xs (v3 + (3 : Int32)).toNatClampNeg), .int (xs (v3 + (4 : Int32)).toNatClampNeg)]) (rest := [.int z224.1]) (st1 := [.int z229.1, .int z224.1]) dL_law_1033 (mX7_orders h2 ez229) ciX7_orders (Or.inl wd_1277) (X7_k h2) rfl rfl rfl rfl (rm_le hrm (Nat.le_of_ble_eq_true rfl)) rfl (Nat.le_of_ble_eq_true rfl) rfl ?_
      refine sx_icmp_eq (tgt := 1382) dL_law_1036 rfl (fun c230 => ?_) (fun c230 => ?_)
      · have h := if_e c230 h
        obtain ⟨w231, ew231⟩ : ∃ w : Int32, w = v3 + (5 : Int32) := ⟨_, rfl⟩
        have h := lt_e ew231 h
        refine sx_iinc (j := 3) (v := w231) (lv' := [(0, .ref a0), (1, .ref a1), (2, .ref a2), (3, .int w231)]) dL_law_1382 rfl (ii_5 ew231) (by decide) rfl ?_
        refine sx_goto (tgt := 18) dL_law_1385 rfl ?_
        obtain rfl := Option.some.inj h
        exact sx_sub [0, 1, 2, 3] rfl (k1 _ rfl)
      · have h := if_n c230 h
        refine sx_iconst (v := (0 : Int32)) dL_law_1039 (by decide) ?_
        obtain rfl := Option.some.inj h
        exact absurd (k3 _ rfl) (show ¬ ((0 : Int32) = 1) from by decide)
    have h := if_n c219 h
    by_cases c232 : ((xs v3.toNatClampNeg) &&& (63 : Int32)) = (27 : Int32)
    · have h := if_e c232 h
      refine sx_swIn (tgt := 1041) (27 : Int32) dL_law_32 c232 (by decide) (by decide) rfl rfl ?_
      refine sx_aload_n (i := 1) (j := 1) dL_law_1041 rfl rfl ?_
      refine sx_aload_n (i := 0) (j := 0) dL_law_1042 rfl rfl ?_
      refine sx_iload_n (i := 3) (j := 3) dL_law_1043 rfl rfl ?_
      refine sx_iconst (v := (1 : Int32)) dL_law_1044 (by decide) ?_
      refine sx_iadd dL_law_1045 ?_
      obtain ⟨c233, h⟩ := gd_e h
      refine sx_sld hscr hb dL_law_1046 c233 ?_
      obtain ⟨z234, ez234, h⟩ := bd_e h
      refine sx_callV (avs := [.int (xs (v3 + (1 : Int32)).toNatClampNeg)]) (rest := []) (st1 := [.int z234.1]) dL_law_1047 (mX6_safe h1 ez234) ciX6_safe (Or.inl wd_799) (X6_k h1) rfl rfl rfl rfl (rm_le hrm (Nat.le_of_ble_eq_true rfl)) rfl (Nat.le_of_ble_eq_true rfl) rfl ?_
      refine sx_aload_n (i := 2) (j := 2) dL_law_1050 rfl rfl ?_
      refine sx_aload_n (i := 0) (j := 0) dL_law_1051 rfl rfl ?_
      refine sx_iload_n (i := 3) (j := 3) dL_law_1052 rfl rfl ?_
      refine sx_iconst (v := (1 : Int32)) dL_law_1053 (by decide) ?_
      refine sx_iadd dL_law_1054 ?_
      obtain ⟨c235, h⟩ := gd_e h
      refine sx_sld hscr hb dL_law_1055 c235 ?_
      obtain ⟨z236, ez236, h⟩ := bd_e h
      refine sx_callV (avs := [.int (xs (v3 + (1 : Int32)).toNatClampNeg)]) (rest := [.int z234.1]) (st1 := [.int z236.1, .int z234.1]) dL_law_1056 (mX7_safe h2 ez236) ciX7_safe (Or.inl wd_1292) (X7_k h2) rfl rfl rfl rfl (rm_le hrm (Nat.le_of_ble_eq_true rfl)) rfl (Nat.le_of_ble_eq_true rfl) rfl ?_
      refine sx_icmp_eq (tgt := 1382) dL_law_1059 rfl (fun c237 => ?_) (fun c237 => ?_)
      · have h := if_e c237 h
        obtain ⟨w238, ew238⟩ : ∃ w : Int32, w = v3 + (5 : Int32) := ⟨_, rfl⟩
        have h := lt_e ew238 h
        refine sx_iinc (j := 3) (v := w238) (lv' := [(0, .ref a0), (1, .ref a1), (2, .ref a2), (3, .int w238)]) dL_law_1382 rfl (ii_5 ew238) (by decide) rfl ?_
        refine sx_goto (tgt := 18) dL_law_1385 rfl ?_
        obtain rfl := Option.some.inj h
        exact sx_sub [0, 1, 2, 3] rfl (k1 _ rfl)
      · have h := if_n c237 h
        refine sx_iconst (v := (0 : Int32)) dL_law_1062 (by decide) ?_
        obtain rfl := Option.some.inj h
        exact absurd (k3 _ rfl) (show ¬ ((0 : Int32) = 1) from by decide)
    have h := if_n c232 h
    by_cases c239 : ((xs v3.toNatClampNeg) &&& (63 : Int32)) = (28 : Int32)
    · have h := if_e c239 h
      refine sx_swIn (tgt := 1064) (28 : Int32) dL_law_32 c239 (by decide) (by decide) rfl rfl ?_
      refine sx_aload_n (i := 1) (j := 1) dL_law_1064 rfl rfl ?_
      refine sx_aload_n (i := 0) (j := 0) dL_law_1065 rfl rfl ?_
      refine sx_iload_n (i := 3) (j := 3) dL_law_1066 rfl rfl ?_
      refine sx_iconst (v := (1 : Int32)) dL_law_1067 (by decide) ?_
      refine sx_iadd dL_law_1068 ?_
      obtain ⟨c240, h⟩ := gd_e h
      refine sx_sld hscr hb dL_law_1069 c240 ?_
      obtain ⟨z241, ez241, h⟩ := bd_e h
      refine sx_callV (avs := [.int (xs (v3 + (1 : Int32)).toNatClampNeg)]) (rest := []) (st1 := [.int z241.1]) dL_law_1070 (mX6_moves h1 ez241) ciX6_moves (Or.inl wd_811) (X6_k h1) rfl rfl rfl rfl (rm_le hrm (Nat.le_of_ble_eq_true rfl)) rfl (Nat.le_of_ble_eq_true rfl) rfl ?_
      refine sx_aload_n (i := 2) (j := 2) dL_law_1073 rfl rfl ?_
      refine sx_aload_n (i := 0) (j := 0) dL_law_1074 rfl rfl ?_
      refine sx_iload_n (i := 3) (j := 3) dL_law_1075 rfl rfl ?_
      refine sx_iconst (v := (1 : Int32)) dL_law_1076 (by decide) ?_
      refine sx_iadd dL_law_1077 ?_
      obtain ⟨c242, h⟩ := gd_e h
      refine sx_sld hscr hb dL_law_1078 c242 ?_
      obtain ⟨z243, ez243, h⟩ := bd_e h
      refine sx_callV (avs := [.int (xs (v3 + (1 : Int32)).toNatClampNeg)]) (rest := [.int z241.1]) (st1 := [.int z243.1, .int z241.1]) dL_law_1079 (mX7_moves h2 ez243) ciX7_moves (Or.inl wd_1300) (X7_k h2) rfl rfl rfl rfl (rm_le hrm (Nat.le_of_ble_eq_true rfl)) rfl (Nat.le_of_ble_eq_true rfl) rfl ?_
      refine sx_icmp_eq (tgt := 1382) dL_law_1082 rfl (fun c244 => ?_) (fun c244 => ?_)
      · have h := if_e c244 h
        obtain ⟨w245, ew245⟩ : ∃ w : Int32, w = v3 + (5 : Int32) := ⟨_, rfl⟩
        have h := lt_e ew245 h
        refine sx_iinc (j := 3) (v := w245) (lv' := [(0, .ref a0), (1, .ref a1), (2, .ref a2), (3, .int w245)]) dL_law_1382 rfl (ii_5 ew245) (by decide) rfl ?_
        refine sx_goto (tgt := 18) dL_law_1385 rfl ?_
        obtain rfl := Option.some.inj h
        exact sx_sub [0, 1, 2, 3] rfl (k1 _ rfl)
      · have h := if_n c244 h
        refine sx_iconst (v := (0 : Int32)) dL_law_1085 (by decide) ?_
        obtain rfl := Option.some.inj h
        exact absurd (k3 _ rfl) (show ¬ ((0 : Int32) = 1) from by decide)
    have h := if_n c239 h
    by_cases c246 : ((xs v3.toNatClampNeg) &&& (63 : Int32)) = (29 : Int32)
    · have h := if_e c246 h
      refine sx_swIn (tgt := 1087) (29 : Int32) dL_law_32 c246 (by decide) (by decide) rfl rfl ?_
      refine sx_aload_n (i := 1) (j := 1) dL_law_1087 rfl rfl ?_
      refine sx_aload_n (i := 0) (j := 0) dL_law_1088 rfl rfl ?_
      refine sx_iload_n (i := 3) (j := 3) dL_law_1089 rfl rfl ?_
      refine sx_iconst (v := (1 : Int32)) dL_law_1090 (by decide) ?_
      refine sx_iadd dL_law_1091 ?_
      obtain ⟨c247, h⟩ := gd_e h
      refine sx_sld hscr hb dL_law_1092 c247 ?_
      obtain ⟨z248, ez248, h⟩ := bd_e h
      refine sx_callV (avs := [.int (xs (v3 + (1 : Int32)).toNatClampNeg)]) (rest := []) (st1 := [.int z248.1]) dL_law_1093 (mX6_share h1 ez248) ciX6_share (Or.inl wd_828) (X6_k h1) rfl rfl rfl rfl (rm_le hrm (Nat.le_of_ble_eq_true rfl)) rfl (Nat.le_of_ble_eq_true rfl) rfl ?_
      refine sx_aload_n (i := 2) (j := 2) dL_law_1096 rfl rfl ?_
      refine sx_aload_n (i := 0) (j := 0) dL_law_1097 rfl rfl ?_
      refine sx_iload_n (i := 3) (j := 3) dL_law_1098 rfl rfl ?_
      refine sx_iconst (v := (1 : Int32)) dL_law_1099 (by decide) ?_
      refine sx_iadd dL_law_1100 ?_
      obtain ⟨c249, h⟩ := gd_e h
      refine sx_sld hscr hb dL_law_1101 c249 ?_
      obtain ⟨z250, ez250, h⟩ := bd_e h
      refine sx_callV (avs := [.int (xs (v3 + (1 : Int32)).toNatClampNeg)]) (rest := [.int z248.1]) (st1 := [.int z250.1, .int z248.1]) dL_law_1102 (mX7_share h2 ez250) ciX7_share (Or.inl wd_1312) (X7_k h2) rfl rfl rfl rfl (rm_le hrm (Nat.le_of_ble_eq_true rfl)) rfl (Nat.le_of_ble_eq_true rfl) rfl ?_
      refine sx_icmp_eq (tgt := 1382) dL_law_1105 rfl (fun c251 => ?_) (fun c251 => ?_)
      · have h := if_e c251 h
        obtain ⟨w252, ew252⟩ : ∃ w : Int32, w = v3 + (5 : Int32) := ⟨_, rfl⟩
        have h := lt_e ew252 h
        refine sx_iinc (j := 3) (v := w252) (lv' := [(0, .ref a0), (1, .ref a1), (2, .ref a2), (3, .int w252)]) dL_law_1382 rfl (ii_5 ew252) (by decide) rfl ?_
        refine sx_goto (tgt := 18) dL_law_1385 rfl ?_
        obtain rfl := Option.some.inj h
        exact sx_sub [0, 1, 2, 3] rfl (k1 _ rfl)
      · have h := if_n c251 h
        refine sx_iconst (v := (0 : Int32)) dL_law_1108 (by decide) ?_
        obtain rfl := Option.some.inj h
        exact absurd (k3 _ rfl) (show ¬ ((0 : Int32) = 1) from by decide)
    have h := if_n c246 h
    by_cases c253 : ((xs v3.toNatClampNeg) &&& (63 : Int32)) = (30 : Int32)
    · have h := if_e c253 h
      refine sx_swIn (tgt := 1110) (30 : Int32) dL_law_32 c253 (by decide) (by decide) rfl rfl ?_
      refine sx_aload_n (i := 1) (j := 1) dL_law_1110 rfl rfl ?_
      refine sx_aload_n (i := 0) (j := 0) dL_law_1111 rfl rfl ?_
      refine sx_iload_n (i := 3) (j := 3) dL_law_1112 rfl rfl ?_
      refine sx_iconst (v := (1 : Int32)) dL_law_1113 (by decide) ?_
      refine sx_iadd dL_law_1114 ?_
      obtain ⟨c254, h⟩ := gd_e h
      refine sx_sld hscr hb dL_law_1115 c254 ?_
      refine sx_aload_n (i := 0) (j := 0) dL_law_1116 rfl rfl ?_
      refine sx_iload_n (i := 3) (j := 3) dL_law_1117 rfl rfl ?_
      refine sx_iconst (v := (2 : Int32)) dL_law_1118 (by decide) ?_
      refine sx_iadd dL_law_1119 ?_
      obtain ⟨c255, h⟩ := gd_e h
      refine sx_sld hscr hb dL_law_1120 c255 ?_
      obtain ⟨z256, ez256, h⟩ := bd_e h
      refine sx_callV (avs := [.int (xs (v3 + (1 : Int32)).toNatClampNeg), .int (xs (v3 + (2 : Int32)).toNatClampNeg)]) (rest := []) (st1 := [.int z256.1]) dL_law_1121 (mX6_plaster h1 ez256) ciX6_plaster (Or.inl wd_841) (X6_k h1) rfl rfl rfl rfl (rm_le hrm (Nat.le_of_ble_eq_true rfl)) rfl (Nat.le_of_ble_eq_true rfl) rfl ?_
      refine sx_aload_n (i := 2) (j := 2) dL_law_1124 rfl rfl ?_
      refine sx_aload_n (i := 0) (j := 0) dL_law_1125 rfl rfl ?_
      refine sx_iload_n (i := 3) (j := 3) dL_law_1126 rfl rfl ?_
      refine sx_iconst (v := (1 : Int32)) dL_law_1127 (by decide) ?_
      refine sx_iadd dL_law_1128 ?_
      obtain ⟨c257, h⟩ := gd_e h
      refine sx_sld hscr hb dL_law_1129 c257 ?_
      refine sx_aload_n (i := 0) (j := 0) dL_law_1130 rfl rfl ?_
      refine sx_iload_n (i := 3) (j := 3) dL_law_1131 rfl rfl ?_
      refine sx_iconst (v := (2 : Int32)) dL_law_1132 (by decide) ?_
      refine sx_iadd dL_law_1133 ?_
      obtain ⟨c258, h⟩ := gd_e h
      refine sx_sld hscr hb dL_law_1134 c258 ?_
      obtain ⟨z259, ez259, h⟩ := bd_e h
      refine sx_callV (avs := [.int (xs (v3 + (1 : Int32)).toNatClampNeg), .int (xs (v3 + (2 : Int32)).toNatClampNeg)]) (rest := [.int z256.1]) (st1 := [.int z259.1, .int z256.1]) dL_law_1135 (mX7_plaster h2 ez259) ciX7_plaster (Or.inl wd_1320) (X7_k h2) rfl rfl rfl rfl (rm_le hrm (Nat.le_of_ble_eq_true rfl)) rfl (Nat.le_of_ble_eq_true rfl) rfl ?_
      refine sx_icmp_eq (tgt := 1382) dL_law_1138 rfl (fun c260 => ?_) (fun c260 => ?_)
      · have h := if_e c260 h
        obtain ⟨w261, ew261⟩ : ∃ w : Int32, w = v3 + (5 : Int32) := ⟨_, rfl⟩
        have h := lt_e ew261 h
        refine sx_iinc (j := 3) (v := w261) (lv' := [(0, .ref a0), (1, .ref a1), (2, .ref a2), (3, .int w261)]) dL_law_1382 rfl (ii_5 ew261) (by decide) rfl ?_
        refine sx_goto (tgt := 18) dL_law_1385 rfl ?_
        obtain rfl := Option.some.inj h
        exact sx_sub [0, 1, 2, 3] rfl (k1 _ rfl)
      · have h := if_n c260 h
        refine sx_iconst (v := (0 : Int32)) dL_law_1141 (by decide) ?_
        obtain rfl := Option.some.inj h
        exact absurd (k3 _ rfl) (show ¬ ((0 : Int32) = 1) from by decide)
    have h := if_n c253 h
    by_cases c262 : ((xs v3.toNatClampNeg) &&& (63 : Int32)) = (31 : Int32)
    · have h := if_e c262 h
      refine sx_swIn (tgt := 1143) (31 : Int32) dL_law_32 c262 (by decide) (by decide) rfl rfl ?_
      refine sx_aload_n (i := 1) (j := 1) dL_law_1143 rfl rfl ?_
      refine sx_aload_n (i := 0) (j := 0) dL_law_1144 rfl rfl ?_
      refine sx_iload_n (i := 3) (j := 3) dL_law_1145 rfl rfl ?_
      refine sx_iconst (v := (1 : Int32)) dL_law_1146 (by decide) ?_
      refine sx_iadd dL_law_1147 ?_
      obtain ⟨c263, h⟩ := gd_e h
      refine sx_sld hscr hb dL_law_1148 c263 ?_
      obtain ⟨z264, ez264, h⟩ := bd_e h
      refine sx_callV (avs := [.int (xs (v3 + (1 : Int32)).toNatClampNeg)]) (rest := []) (st1 := [.int z264.1]) dL_law_1149 (mX6_gables h1 ez264) ciX6_gables (Or.inl wd_853) (X6_k h1) rfl rfl rfl rfl (rm_le hrm (Nat.le_of_ble_eq_true rfl)) rfl (Nat.le_of_ble_eq_true rfl) rfl ?_
      refine sx_aload_n (i := 2) (j := 2) dL_law_1152 rfl rfl ?_
      refine sx_aload_n (i := 0) (j := 0) dL_law_1153 rfl rfl ?_
      refine sx_iload_n (i := 3) (j := 3) dL_law_1154 rfl rfl ?_
      refine sx_iconst (v := (1 : Int32)) dL_law_1155 (by decide) ?_
      refine sx_iadd dL_law_1156 ?_
      obtain ⟨c265, h⟩ := gd_e h
      refine sx_sld hscr hb dL_law_1157 c265 ?_
      obtain ⟨z266, ez266, h⟩ := bd_e h
      refine sx_callV (avs := [.int (xs (v3 + (1 : Int32)).toNatClampNeg)]) (rest := [.int z264.1]) (st1 := [.int z266.1, .int z264.1]) dL_law_1158 (mX7_gables h2 ez266) ciX7_gables (Or.inl wd_1329) (X7_k h2) rfl rfl rfl rfl (rm_le hrm (Nat.le_of_ble_eq_true rfl)) rfl (Nat.le_of_ble_eq_true rfl) rfl ?_
      refine sx_icmp_eq (tgt := 1382) dL_law_1161 rfl (fun c267 => ?_) (fun c267 => ?_)
      · have h := if_e c267 h
        obtain ⟨w268, ew268⟩ : ∃ w : Int32, w = v3 + (5 : Int32) := ⟨_, rfl⟩
        have h := lt_e ew268 h
        refine sx_iinc (j := 3) (v := w268) (lv' := [(0, .ref a0), (1, .ref a1), (2, .ref a2), (3, .int w268)]) dL_law_1382 rfl (ii_5 ew268) (by decide) rfl ?_
        refine sx_goto (tgt := 18) dL_law_1385 rfl ?_
        obtain rfl := Option.some.inj h
        exact sx_sub [0, 1, 2, 3] rfl (k1 _ rfl)
      · have h := if_n c267 h
        refine sx_iconst (v := (0 : Int32)) dL_law_1164 (by decide) ?_
        obtain rfl := Option.some.inj h
        exact absurd (k3 _ rfl) (show ¬ ((0 : Int32) = 1) from by decide)
    have h := if_n c262 h
    by_cases c269 : ((xs v3.toNatClampNeg) &&& (63 : Int32)) = (32 : Int32)
    · have h := if_e c269 h
      refine sx_swIn (tgt := 1166) (32 : Int32) dL_law_32 c269 (by decide) (by decide) rfl rfl ?_
      refine sx_aload_n (i := 1) (j := 1) dL_law_1166 rfl rfl ?_
      refine sx_aload_n (i := 0) (j := 0) dL_law_1167 rfl rfl ?_
      refine sx_iload_n (i := 3) (j := 3) dL_law_1168 rfl rfl ?_
      refine sx_iconst (v := (1 : Int32)) dL_law_1169 (by decide) ?_
      refine sx_iadd dL_law_1170 ?_
      obtain ⟨c270, h⟩ := gd_e h
      refine sx_sld hscr hb dL_law_1171 c270 ?_
      refine sx_aload_n (i := 0) (j := 0) dL_law_1172 rfl rfl ?_
      refine sx_iload_n (i := 3) (j := 3) dL_law_1173 rfl rfl ?_
      refine sx_iconst (v := (2 : Int32)) dL_law_1174 (by decide) ?_
      refine sx_iadd dL_law_1175 ?_
      obtain ⟨c271, h⟩ := gd_e h
      refine sx_sld hscr hb dL_law_1176 c271 ?_
      refine sx_aload_n (i := 0) (j := 0) dL_law_1177 rfl rfl ?_
      refine sx_iload_n (i := 3) (j := 3) dL_law_1178 rfl rfl ?_
      refine sx_iconst (v := (3 : Int32)) dL_law_1179 (by decide) ?_
      refine sx_iadd dL_law_1180 ?_
      obtain ⟨c272, h⟩ := gd_e h
      refine sx_sld hscr hb dL_law_1181 c272 ?_
      refine sx_aload_n (i := 0) (j := 0) dL_law_1182 rfl rfl ?_
      refine sx_iload_n (i := 3) (j := 3) dL_law_1183 rfl rfl ?_
      refine sx_iconst (v := (4 : Int32)) dL_law_1184 (by decide) ?_
      refine sx_iadd dL_law_1185 ?_
      obtain ⟨c273, h⟩ := gd_e h
      refine sx_sld hscr hb dL_law_1186 c273 ?_
      obtain ⟨z274, ez274, h⟩ := bd_e h
      refine sx_callV (avs := [.int (xs (v3 + (1 : Int32)).toNatClampNeg), .int (xs (v3 + (2 : Int32)).toNatClampNeg), .int (xs (v3 + (3 : Int32)).toNatClampNeg), .int (xs (v3 + (4 : Int32)).toNatClampNeg)]) (rest := []) (st1 := [.int z274.1]) dL_law_1187 (mX6_doors h1 ez274) ciX6_doors (Or.inl wd_857) (X6_k h1) rfl rfl rfl rfl (rm_le hrm (Nat.le_of_ble_eq_true rfl)) rfl (Nat.le_of_ble_eq_true rfl) rfl ?_
      refine sx_aload_n (i := 2) (j := 2) dL_law_1190 rfl rfl ?_
      refine sx_aload_n (i := 0) (j := 0) dL_law_1191 rfl rfl ?_
      refine sx_iload_n (i := 3) (j := 3) dL_law_1192 rfl rfl ?_
      refine sx_iconst (v := (1 : Int32)) dL_law_1193 (by decide) ?_
      refine sx_iadd dL_law_1194 ?_
      obtain ⟨c275, h⟩ := gd_e h
      refine sx_sld hscr hb dL_law_1195 c275 ?_
      refine sx_aload_n (i := 0) (j := 0) dL_law_1196 rfl rfl ?_
      refine sx_iload_n (i := 3) (j := 3) dL_law_1197 rfl rfl ?_
      refine sx_iconst (v := (2 : Int32)) dL_law_1198 (by decide) ?_
      refine sx_iadd dL_law_1199 ?_
      obtain ⟨c276, h⟩ := gd_e h
      refine sx_sld hscr hb dL_law_1200 c276 ?_
      refine sx_aload_n (i := 0) (j := 0) dL_law_1201 rfl rfl ?_
      refine sx_iload_n (i := 3) (j := 3) dL_law_1202 rfl rfl ?_
      refine sx_iconst (v := (3 : Int32)) dL_law_1203 (by decide) ?_
      refine sx_iadd dL_law_1204 ?_
      obtain ⟨c277, h⟩ := gd_e h
      refine sx_sld hscr hb dL_law_1205 c277 ?_
      refine sx_aload_n (i := 0) (j := 0) dL_law_1206 rfl rfl ?_
      refine sx_iload_n (i := 3) (j := 3) dL_law_1207 rfl rfl ?_
      refine sx_iconst (v := (4 : Int32)) dL_law_1208 (by decide) ?_
      refine sx_iadd dL_law_1209 ?_
      obtain ⟨c278, h⟩ := gd_e h
      refine sx_sld hscr hb dL_law_1210 c278 ?_
      obtain ⟨z279, ez279, h⟩ := bd_e h
      refine sx_callV (avs := [.int (xs (v3 + (1 : Int32)).toNatClampNeg), .int (xs (v3 + (2 : Int32)).toNatClampNeg), .int (xs (v3 + (3 : Int32)).toNatClampNeg), .int (xs (v3 + (4 : Int32)).toNatClampNeg)]) (rest := [.int z274.1]) (st1 := [.int z279.1, .int z274.1]) dL_law_1211 (mX7_doors h2 ez279) ciX7_doors (Or.inl wd_1333) (X7_k h2) rfl rfl rfl rfl (rm_le hrm (Nat.le_of_ble_eq_true rfl)) rfl (Nat.le_of_ble_eq_true rfl) rfl ?_
      refine sx_icmp_eq (tgt := 1382) dL_law_1214 rfl (fun c280 => ?_) (fun c280 => ?_)
      · have h := if_e c280 h
        obtain ⟨w281, ew281⟩ : ∃ w : Int32, w = v3 + (5 : Int32) := ⟨_, rfl⟩
        have h := lt_e ew281 h
        refine sx_iinc (j := 3) (v := w281) (lv' := [(0, .ref a0), (1, .ref a1), (2, .ref a2), (3, .int w281)]) dL_law_1382 rfl (ii_5 ew281) (by decide) rfl ?_
        refine sx_goto (tgt := 18) dL_law_1385 rfl ?_
        obtain rfl := Option.some.inj h
        exact sx_sub [0, 1, 2, 3] rfl (k1 _ rfl)
      · have h := if_n c280 h
        refine sx_iconst (v := (0 : Int32)) dL_law_1217 (by decide) ?_
        obtain rfl := Option.some.inj h
        exact absurd (k3 _ rfl) (show ¬ ((0 : Int32) = 1) from by decide)
    have h := if_n c269 h
    by_cases c282 : ((xs v3.toNatClampNeg) &&& (63 : Int32)) = (33 : Int32)
    · have h := if_e c282 h
      refine sx_swIn (tgt := 1219) (33 : Int32) dL_law_32 c282 (by decide) (by decide) rfl rfl ?_
      refine sx_aload_n (i := 1) (j := 1) dL_law_1219 rfl rfl ?_
      refine sx_aload_n (i := 0) (j := 0) dL_law_1220 rfl rfl ?_
      refine sx_iload_n (i := 3) (j := 3) dL_law_1221 rfl rfl ?_
      refine sx_iconst (v := (1 : Int32)) dL_law_1222 (by decide) ?_
      refine sx_iadd dL_law_1223 ?_
      obtain ⟨c283, h⟩ := gd_e h
      refine sx_sld hscr hb dL_law_1224 c283 ?_
      refine sx_aload_n (i := 0) (j := 0) dL_law_1225 rfl rfl ?_
      refine sx_iload_n (i := 3) (j := 3) dL_law_1226 rfl rfl ?_
      refine sx_iconst (v := (2 : Int32)) dL_law_1227 (by decide) ?_
      refine sx_iadd dL_law_1228 ?_
      obtain ⟨c284, h⟩ := gd_e h
      refine sx_sld hscr hb dL_law_1229 c284 ?_
      obtain ⟨z285, ez285, h⟩ := bd_e h
      refine sx_callV (avs := [.int (xs (v3 + (1 : Int32)).toNatClampNeg), .int (xs (v3 + (2 : Int32)).toNatClampNeg)]) (rest := []) (st1 := [.int z285.1]) dL_law_1230 (mX6_drawn h1 ez285) ciX6_drawn (Or.inl wd_873) (X6_k h1) rfl rfl rfl rfl (rm_le hrm (Nat.le_of_ble_eq_true rfl)) rfl (Nat.le_of_ble_eq_true rfl) rfl ?_
      refine sx_aload_n (i := 2) (j := 2) dL_law_1233 rfl rfl ?_
      refine sx_aload_n (i := 0) (j := 0) dL_law_1234 rfl rfl ?_
      refine sx_iload_n (i := 3) (j := 3) dL_law_1235 rfl rfl ?_
      refine sx_iconst (v := (1 : Int32)) dL_law_1236 (by decide) ?_
      refine sx_iadd dL_law_1237 ?_
      obtain ⟨c286, h⟩ := gd_e h
      refine sx_sld hscr hb dL_law_1238 c286 ?_
      refine sx_aload_n (i := 0) (j := 0) dL_law_1239 rfl rfl ?_
      refine sx_iload_n (i := 3) (j := 3) dL_law_1240 rfl rfl ?_
      refine sx_iconst (v := (2 : Int32)) dL_law_1241 (by decide) ?_
      refine sx_iadd dL_law_1242 ?_
      obtain ⟨c287, h⟩ := gd_e h
      refine sx_sld hscr hb dL_law_1243 c287 ?_
      obtain ⟨z288, ez288, h⟩ := bd_e h
      refine sx_callV (avs := [.int (xs (v3 + (1 : Int32)).toNatClampNeg), .int (xs (v3 + (2 : Int32)).toNatClampNeg)]) (rest := [.int z285.1]) (st1 := [.int z288.1, .int z285.1]) dL_law_1244 (mX7_drawn h2 ez288) ciX7_drawn (Or.inl wd_1341) (X7_k h2) rfl rfl rfl rfl (rm_le hrm (Nat.le_of_ble_eq_true rfl)) rfl (Nat.le_of_ble_eq_true rfl) rfl ?_
      refine sx_icmp_eq (tgt := 1382) dL_law_1247 rfl (fun c289 => ?_) (fun c289 => ?_)
      · have h := if_e c289 h
        obtain ⟨w290, ew290⟩ : ∃ w : Int32, w = v3 + (5 : Int32) := ⟨_, rfl⟩
        have h := lt_e ew290 h
        refine sx_iinc (j := 3) (v := w290) (lv' := [(0, .ref a0), (1, .ref a1), (2, .ref a2), (3, .int w290)]) dL_law_1382 rfl (ii_5 ew290) (by decide) rfl ?_
        refine sx_goto (tgt := 18) dL_law_1385 rfl ?_
        obtain rfl := Option.some.inj h
        exact sx_sub [0, 1, 2, 3] rfl (k1 _ rfl)
      · have h := if_n c289 h
        refine sx_iconst (v := (0 : Int32)) dL_law_1250 (by decide) ?_
        obtain rfl := Option.some.inj h
        exact absurd (k3 _ rfl) (show ¬ ((0 : Int32) = 1) from by decide)
    have h := if_n c282 h
    by_cases c291 : ((xs v3.toNatClampNeg) &&& (63 : Int32)) = (34 : Int32)
    · have h := if_e c291 h
      refine sx_swIn (tgt := 1252) (34 : Int32) dL_law_32 c291 (by decide) (by decide) rfl rfl ?_
      refine sx_aload_n (i := 1) (j := 1) dL_law_1252 rfl rfl ?_
      refine sx_aload_n (i := 0) (j := 0) dL_law_1253 rfl rfl ?_
      refine sx_iload_n (i := 3) (j := 3) dL_law_1254 rfl rfl ?_
      refine sx_iconst (v := (1 : Int32)) dL_law_1255 (by decide) ?_
      refine sx_iadd dL_law_1256 ?_
      obtain ⟨c292, h⟩ := gd_e h
      refine sx_sld hscr hb dL_law_1257 c292 ?_
      obtain ⟨z293, ez293, h⟩ := bd_e h
      refine sx_callV (avs := [.int (xs (v3 + (1 : Int32)).toNatClampNeg)]) (rest := []) (st1 := [.long z293.1]) dL_law_1258 (mX6_part h1 ez293) ciX6_part (Or.inl wd_886) (X6_k h1) rfl rfl rfl rfl (rm_le hrm (Nat.le_of_ble_eq_true rfl)) rfl (Nat.le_of_ble_eq_true rfl) rfl ?_
      refine sx_aload_n (i := 2) (j := 2) dL_law_1261 rfl rfl ?_
      refine sx_aload_n (i := 0) (j := 0) dL_law_1262 rfl rfl ?_
      refine sx_iload_n (i := 3) (j := 3) dL_law_1263 rfl rfl ?_
      refine sx_iconst (v := (1 : Int32)) dL_law_1264 (by decide) ?_
      refine sx_iadd dL_law_1265 ?_
      obtain ⟨c294, h⟩ := gd_e h
      refine sx_sld hscr hb dL_law_1266 c294 ?_
      obtain ⟨z295, ez295, h⟩ := bd_e h
      refine sx_callV (avs := [.int (xs (v3 + (1 : Int32)).toNatClampNeg)]) (rest := [.long z293.1]) (st1 := [.long z295.1, .long z293.1]) dL_law_1267 (mX7_part h2 ez295) ciX7_part (Or.inl wd_1350) (X7_k h2) rfl rfl rfl rfl (rm_le hrm (Nat.le_of_ble_eq_true rfl)) rfl (Nat.le_of_ble_eq_true rfl) rfl ?_
      refine sx_lcmp dL_law_1270 ?_
      refine sx_if_eq (tgt := 1382) dL_law_1271 rfl (fun c296 => ?_) (fun c296 => ?_)
      · have h := if_e c296 h
        obtain ⟨w297, ew297⟩ : ∃ w : Int32, w = v3 + (5 : Int32) := ⟨_, rfl⟩
        have h := lt_e ew297 h
        refine sx_iinc (j := 3) (v := w297) (lv' := [(0, .ref a0), (1, .ref a1), (2, .ref a2), (3, .int w297)]) dL_law_1382 rfl (ii_5 ew297) (by decide) rfl ?_
        refine sx_goto (tgt := 18) dL_law_1385 rfl ?_
        obtain rfl := Option.some.inj h
        exact sx_sub [0, 1, 2, 3] rfl (k1 _ rfl)
      · have h := if_n c296 h
        refine sx_iconst (v := (0 : Int32)) dL_law_1274 (by decide) ?_
        obtain rfl := Option.some.inj h
        exact absurd (k3 _ rfl) (show ¬ ((0 : Int32) = 1) from by decide)
    have h := if_n c291 h
    by_cases c298 : ((xs v3.toNatClampNeg) &&& (63 : Int32)) = (35 : Int32)
    · have h := if_e c298 h
      refine sx_swIn (tgt := 1276) (35 : Int32) dL_law_32 c298 (by decide) (by decide) rfl rfl ?_
      refine sx_aload_n (i := 1) (j := 1) dL_law_1276 rfl rfl ?_
      refine sx_aload_n (i := 0) (j := 0) dL_law_1277 rfl rfl ?_
      refine sx_iload_n (i := 3) (j := 3) dL_law_1278 rfl rfl ?_
      refine sx_iconst (v := (1 : Int32)) dL_law_1279 (by decide) ?_
      refine sx_iadd dL_law_1280 ?_
      obtain ⟨c299, h⟩ := gd_e h
      refine sx_sld hscr hb dL_law_1281 c299 ?_
      obtain ⟨z300, ez300, h⟩ := bd_e h
      refine sx_callV (avs := [.int (xs (v3 + (1 : Int32)).toNatClampNeg)]) (rest := []) (st1 := [.int z300.1]) dL_law_1282 (mX6_image h1 ez300) ciX6_image (Or.inl wd_890) (X6_k h1) rfl rfl rfl rfl (rm_le hrm (Nat.le_of_ble_eq_true rfl)) rfl (Nat.le_of_ble_eq_true rfl) rfl ?_
      refine sx_aload_n (i := 2) (j := 2) dL_law_1285 rfl rfl ?_
      refine sx_aload_n (i := 0) (j := 0) dL_law_1286 rfl rfl ?_
      refine sx_iload_n (i := 3) (j := 3) dL_law_1287 rfl rfl ?_
      refine sx_iconst (v := (1 : Int32)) dL_law_1288 (by decide) ?_
      refine sx_iadd dL_law_1289 ?_
      obtain ⟨c301, h⟩ := gd_e h
      refine sx_sld hscr hb dL_law_1290 c301 ?_
      obtain ⟨z302, ez302, h⟩ := bd_e h
      refine sx_callV (avs := [.int (xs (v3 + (1 : Int32)).toNatClampNeg)]) (rest := [.int z300.1]) (st1 := [.int z302.1, .int z300.1]) dL_law_1291 (mX7_image h2 ez302) ciX7_image (Or.inl wd_1354) (X7_k h2) rfl rfl rfl rfl (rm_le hrm (Nat.le_of_ble_eq_true rfl)) rfl (Nat.le_of_ble_eq_true rfl) rfl ?_
      refine sx_icmp_eq (tgt := 1382) dL_law_1294 rfl (fun c303 => ?_) (fun c303 => ?_)
      · have h := if_e c303 h
        obtain ⟨w304, ew304⟩ : ∃ w : Int32, w = v3 + (5 : Int32) := ⟨_, rfl⟩
        have h := lt_e ew304 h
        refine sx_iinc (j := 3) (v := w304) (lv' := [(0, .ref a0), (1, .ref a1), (2, .ref a2), (3, .int w304)]) dL_law_1382 rfl (ii_5 ew304) (by decide) rfl ?_
        refine sx_goto (tgt := 18) dL_law_1385 rfl ?_
        obtain rfl := Option.some.inj h
        exact sx_sub [0, 1, 2, 3] rfl (k1 _ rfl)
      · have h := if_n c303 h
        refine sx_iconst (v := (0 : Int32)) dL_law_1297 (by decide) ?_
        obtain rfl := Option.some.inj h
        exact absurd (k3 _ rfl) (show ¬ ((0 : Int32) = 1) from by decide)
    have h := if_n c298 h
    by_cases c305 : ((xs v3.toNatClampNeg) &&& (63 : Int32)) = (36 : Int32)
    · have h := if_e c305 h
      refine sx_swIn (tgt := 1299) (36 : Int32) dL_law_32 c305 (by decide) (by decide) rfl rfl ?_
      refine sx_aload_n (i := 1) (j := 1) dL_law_1299 rfl rfl ?_
      refine sx_aload_n (i := 0) (j := 0) dL_law_1300 rfl rfl ?_
      refine sx_iload_n (i := 3) (j := 3) dL_law_1301 rfl rfl ?_
      refine sx_iconst (v := (1 : Int32)) dL_law_1302 (by decide) ?_
      refine sx_iadd dL_law_1303 ?_
      obtain ⟨c306, h⟩ := gd_e h
      refine sx_sld hscr hb dL_law_1304 c306 ?_
      obtain ⟨z307, ez307, h⟩ := bd_e h
      refine sx_callV (avs := [.int (xs (v3 + (1 : Int32)).toNatClampNeg)]) (rest := []) (st1 := [.int z307.1]) dL_law_1305 (mX6_from h1 ez307) ciX6_from (Or.inl wd_907) (X6_k h1) rfl rfl rfl rfl (rm_le hrm (Nat.le_of_ble_eq_true rfl)) rfl (Nat.le_of_ble_eq_true rfl) rfl ?_
      refine sx_aload_n (i := 2) (j := 2) dL_law_1308 rfl rfl ?_
      refine sx_aload_n (i := 0) (j := 0) dL_law_1309 rfl rfl ?_
      refine sx_iload_n (i := 3) (j := 3) dL_law_1310 rfl rfl ?_
      refine sx_iconst (v := (1 : Int32)) dL_law_1311 (by decide) ?_
      refine sx_iadd dL_law_1312 ?_
      obtain ⟨c308, h⟩ := gd_e h
      refine sx_sld hscr hb dL_law_1313 c308 ?_
      obtain ⟨z309, ez309, h⟩ := bd_e h
      refine sx_callV (avs := [.int (xs (v3 + (1 : Int32)).toNatClampNeg)]) (rest := [.int z307.1]) (st1 := [.int z309.1, .int z307.1]) dL_law_1314 (mX7_from h2 ez309) ciX7_from (Or.inl wd_1358) (X7_k h2) rfl rfl rfl rfl (rm_le hrm (Nat.le_of_ble_eq_true rfl)) rfl (Nat.le_of_ble_eq_true rfl) rfl ?_
      refine sx_icmp_eq (tgt := 1382) dL_law_1317 rfl (fun c310 => ?_) (fun c310 => ?_)
      · have h := if_e c310 h
        obtain ⟨w311, ew311⟩ : ∃ w : Int32, w = v3 + (5 : Int32) := ⟨_, rfl⟩
        have h := lt_e ew311 h
        refine sx_iinc (j := 3) (v := w311) (lv' := [(0, .ref a0), (1, .ref a1), (2, .ref a2), (3, .int w311)]) dL_law_1382 rfl (ii_5 ew311) (by decide) rfl ?_
        refine sx_goto (tgt := 18) dL_law_1385 rfl ?_
        obtain rfl := Option.some.inj h
        exact sx_sub [0, 1, 2, 3] rfl (k1 _ rfl)
      · have h := if_n c310 h
        refine sx_iconst (v := (0 : Int32)) dL_law_1320 (by decide) ?_
        obtain rfl := Option.some.inj h
        exact absurd (k3 _ rfl) (show ¬ ((0 : Int32) = 1) from by decide)
    have h := if_n c305 h
    by_cases c312 : ((xs v3.toNatClampNeg) &&& (63 : Int32)) = (37 : Int32)
    · have h := if_e c312 h
      refine sx_swIn (tgt := 1322) (37 : Int32) dL_law_32 c312 (by decide) (by decide) rfl rfl ?_
      refine sx_aload_n (i := 1) (j := 1) dL_law_1322 rfl rfl ?_
      refine sx_aload_n (i := 0) (j := 0) dL_law_1323 rfl rfl ?_
      refine sx_iload_n (i := 3) (j := 3) dL_law_1324 rfl rfl ?_
      refine sx_iconst (v := (1 : Int32)) dL_law_1325 (by decide) ?_
      refine sx_iadd dL_law_1326 ?_
      obtain ⟨c313, h⟩ := gd_e h
      refine sx_sld hscr hb dL_law_1327 c313 ?_
      obtain ⟨z314, ez314, h⟩ := bd_e h
      refine sx_callV (avs := [.int (xs (v3 + (1 : Int32)).toNatClampNeg)]) (rest := []) (st1 := [.int z314.1]) dL_law_1328 (mX6_status h1 ez314) ciX6_status (Or.inl wd_915) (X6_k h1) rfl rfl rfl rfl (rm_le hrm (Nat.le_of_ble_eq_true rfl)) rfl (Nat.le_of_ble_eq_true rfl) rfl ?_
      refine sx_aload_n (i := 2) (j := 2) dL_law_1331 rfl rfl ?_
      refine sx_aload_n (i := 0) (j := 0) dL_law_1332 rfl rfl ?_
      refine sx_iload_n (i := 3) (j := 3) dL_law_1333 rfl rfl ?_
      refine sx_iconst (v := (1 : Int32)) dL_law_1334 (by decide) ?_
      refine sx_iadd dL_law_1335 ?_
      obtain ⟨c315, h⟩ := gd_e h
      refine sx_sld hscr hb dL_law_1336 c315 ?_
      obtain ⟨z316, ez316, h⟩ := bd_e h
      refine sx_callV (avs := [.int (xs (v3 + (1 : Int32)).toNatClampNeg)]) (rest := [.int z314.1]) (st1 := [.int z316.1, .int z314.1]) dL_law_1337 (mX7_status h2 ez316) ciX7_status (Or.inl wd_1362) (X7_k h2) rfl rfl rfl rfl (rm_le hrm (Nat.le_of_ble_eq_true rfl)) rfl (Nat.le_of_ble_eq_true rfl) rfl ?_
      refine sx_icmp_eq (tgt := 1382) dL_law_1340 rfl (fun c317 => ?_) (fun c317 => ?_)
      · have h := if_e c317 h
        obtain ⟨w318, ew318⟩ : ∃ w : Int32, w = v3 + (5 : Int32) := ⟨_, rfl⟩
        have h := lt_e ew318 h
        refine sx_iinc (j := 3) (v := w318) (lv' := [(0, .ref a0), (1, .ref a1), (2, .ref a2), (3, .int w318)]) dL_law_1382 rfl (ii_5 ew318) (by decide) rfl ?_
        refine sx_goto (tgt := 18) dL_law_1385 rfl ?_
        obtain rfl := Option.some.inj h
        exact sx_sub [0, 1, 2, 3] rfl (k1 _ rfl)
      · have h := if_n c317 h
        refine sx_iconst (v := (0 : Int32)) dL_law_1343 (by decide) ?_
        obtain rfl := Option.some.inj h
        exact absurd (k3 _ rfl) (show ¬ ((0 : Int32) = 1) from by decide)
    have h := if_n c312 h
    by_cases c319 : ((xs v3.toNatClampNeg) &&& (63 : Int32)) = (38 : Int32)
    · have h := if_e c319 h
      refine sx_swIn (tgt := 1345) (38 : Int32) dL_law_32 c319 (by decide) (by decide) rfl rfl ?_
      refine sx_aload_n (i := 1) (j := 1) dL_law_1345 rfl rfl ?_
      refine sx_aload_n (i := 0) (j := 0) dL_law_1346 rfl rfl ?_
      refine sx_iload_n (i := 3) (j := 3) dL_law_1347 rfl rfl ?_
      refine sx_iconst (v := (1 : Int32)) dL_law_1348 (by decide) ?_
      refine sx_iadd dL_law_1349 ?_
      obtain ⟨c320, h⟩ := gd_e h
      refine sx_sld hscr hb dL_law_1350 c320 ?_
      obtain ⟨z321, ez321, h⟩ := bd_e h
      refine sx_callV (avs := [.int (xs (v3 + (1 : Int32)).toNatClampNeg)]) (rest := []) (st1 := [.int z321.1]) dL_law_1351 (mX6_count h1 ez321) ciX6_count (Or.inl wd_919) (X6_k h1) rfl rfl rfl rfl (rm_le hrm (Nat.le_of_ble_eq_true rfl)) rfl (Nat.le_of_ble_eq_true rfl) rfl ?_
      refine sx_aload_n (i := 2) (j := 2) dL_law_1354 rfl rfl ?_
      refine sx_aload_n (i := 0) (j := 0) dL_law_1355 rfl rfl ?_
      refine sx_iload_n (i := 3) (j := 3) dL_law_1356 rfl rfl ?_
      refine sx_iconst (v := (1 : Int32)) dL_law_1357 (by decide) ?_
      refine sx_iadd dL_law_1358 ?_
      obtain ⟨c322, h⟩ := gd_e h
      refine sx_sld hscr hb dL_law_1359 c322 ?_
      obtain ⟨z323, ez323, h⟩ := bd_e h
      refine sx_callV (avs := [.int (xs (v3 + (1 : Int32)).toNatClampNeg)]) (rest := [.int z321.1]) (st1 := [.int z323.1, .int z321.1]) dL_law_1360 (mX7_count h2 ez323) ciX7_count (Or.inl wd_1367) (X7_k h2) rfl rfl rfl rfl (rm_le hrm (Nat.le_of_ble_eq_true rfl)) rfl (Nat.le_of_ble_eq_true rfl) rfl ?_
      refine sx_icmp_eq (tgt := 1382) dL_law_1363 rfl (fun c324 => ?_) (fun c324 => ?_)
      · have h := if_e c324 h
        obtain ⟨w325, ew325⟩ : ∃ w : Int32, w = v3 + (5 : Int32) := ⟨_, rfl⟩
        have h := lt_e ew325 h
        refine sx_iinc (j := 3) (v := w325) (lv' := [(0, .ref a0), (1, .ref a1), (2, .ref a2), (3, .int w325)]) dL_law_1382 rfl (ii_5 ew325) (by decide) rfl ?_
        refine sx_goto (tgt := 18) dL_law_1385 rfl ?_
        obtain rfl := Option.some.inj h
        exact sx_sub [0, 1, 2, 3] rfl (k1 _ rfl)
      · have h := if_n c324 h
        refine sx_iconst (v := (0 : Int32)) dL_law_1366 (by decide) ?_
        obtain rfl := Option.some.inj h
        exact absurd (k3 _ rfl) (show ¬ ((0 : Int32) = 1) from by decide)
    have h := if_n c319 h
    by_cases c326 : ((xs v3.toNatClampNeg) &&& (63 : Int32)) = (39 : Int32)
    · have h := if_e c326 h
      refine sx_swIn (tgt := 1368) (39 : Int32) dL_law_32 c326 (by decide) (by decide) rfl rfl ?_
      refine sx_aload_n (i := 1) (j := 1) dL_law_1368 rfl rfl ?_
      obtain ⟨z327, ez327, h⟩ := bd_e h
      refine sx_callV (avs := []) (rest := []) (st1 := [.long z327]) dL_law_1369 (mX6_digest h1 ez327) ciX6_digest (Or.inl wd_935) (X6_k h1) rfl rfl rfl rfl (rm_le hrm (Nat.le_of_ble_eq_true rfl)) rfl (Nat.le_of_ble_eq_true rfl) rfl ?_
      refine sx_aload_n (i := 2) (j := 2) dL_law_1372 rfl rfl ?_
      obtain ⟨z328, ez328, h⟩ := bd_e h
      refine sx_callV (avs := []) (rest := [.long z327]) (st1 := [.long z328, .long z327]) dL_law_1373 (mX7_digest h2 ez328) ciX7_digest (Or.inl wd_1379) (X7_k h2) rfl rfl rfl rfl (rm_le hrm (Nat.le_of_ble_eq_true rfl)) rfl (Nat.le_of_ble_eq_true rfl) rfl ?_
      refine sx_lcmp dL_law_1376 ?_
      refine sx_if_eq (tgt := 1382) dL_law_1377 rfl (fun c329 => ?_) (fun c329 => ?_)
      · have h := if_e c329 h
        obtain ⟨w330, ew330⟩ : ∃ w : Int32, w = v3 + (5 : Int32) := ⟨_, rfl⟩
        have h := lt_e ew330 h
        refine sx_iinc (j := 3) (v := w330) (lv' := [(0, .ref a0), (1, .ref a1), (2, .ref a2), (3, .int w330)]) dL_law_1382 rfl (ii_5 ew330) (by decide) rfl ?_
        refine sx_goto (tgt := 18) dL_law_1385 rfl ?_
        obtain rfl := Option.some.inj h
        exact sx_sub [0, 1, 2, 3] rfl (k1 _ rfl)
      · have h := if_n c329 h
        refine sx_iconst (v := (0 : Int32)) dL_law_1380 (by decide) ?_
        obtain rfl := Option.some.inj h
        exact absurd (k3 _ rfl) (show ¬ ((0 : Int32) = 1) from by decide)
    have h := if_n c326 h
    refine sx_swOut (tgt := 1382) dL_law_32 (sw_out (lo := 0) (k := 40) [0, 1, 2, 3, 4, 5, 6, 7, 8, 9, 10, 11, 12, 13, 14, 15, 16, 17, 18, 19, 20, 21, 22, 23, 24, 25, 26, 27, 28, 29, 30, 31, 32, 33, 34, 35, 36, 37, 38, 39] (by decide +kernel) (List.forall_mem_cons.mpr ⟨c3, List.forall_mem_cons.mpr ⟨c8, List.forall_mem_cons.mpr ⟨c19, List.forall_mem_cons.mpr ⟨c28, List.forall_mem_cons.mpr ⟨c37, List.forall_mem_cons.mpr ⟨c50, List.forall_mem_cons.mpr ⟨c59, List.forall_mem_cons.mpr ⟨c72, List.forall_mem_cons.mpr ⟨c81, List.forall_mem_cons.mpr ⟨c88, List.forall_mem_cons.mpr ⟨c93, List.forall_mem_cons.mpr ⟨c98, List.forall_mem_cons.mpr ⟨c105, List.forall_mem_cons.mpr ⟨c112, List.forall_mem_cons.mpr ⟨c121, List.forall_mem_cons.mpr ⟨c126, List.forall_mem_cons.mpr ⟨c135, List.forall_mem_cons.mpr ⟨c144, List.forall_mem_cons.mpr ⟨c153, List.forall_mem_cons.mpr ⟨c162, List.forall_mem_cons.mpr ⟨c169, List.forall_mem_cons.mpr ⟨c178, List.forall_mem_cons.mpr ⟨c187, List.forall_mem_cons.mpr ⟨c196, List.forall_mem_cons.mpr ⟨c205, List.forall_mem_cons.mpr ⟨c212, List.forall_mem_cons.mpr ⟨c219, List.forall_mem_cons.mpr ⟨c232, List.forall_mem_cons.mpr ⟨c239, List.forall_mem_cons.mpr ⟨c246, List.forall_mem_cons.mpr ⟨c253, List.forall_mem_cons.mpr ⟨c262, List.forall_mem_cons.mpr ⟨c269, List.forall_mem_cons.mpr ⟨c282, List.forall_mem_cons.mpr ⟨c291, List.forall_mem_cons.mpr ⟨c298, List.forall_mem_cons.mpr ⟨c305, List.forall_mem_cons.mpr ⟨c312, List.forall_mem_cons.mpr ⟨c319, List.forall_mem_cons.mpr ⟨c326, fun _ q => absurd q List.not_mem_nil⟩⟩⟩⟩⟩⟩⟩⟩⟩⟩⟩⟩⟩⟩⟩⟩⟩⟩⟩⟩⟩⟩⟩⟩⟩⟩⟩⟩⟩⟩⟩⟩⟩⟩⟩⟩⟩⟩⟩⟩)) rfl ?_
    obtain ⟨w331, ew331⟩ : ∃ w : Int32, w = v3 + (5 : Int32) := ⟨_, rfl⟩
    have h := lt_e ew331 h
    refine sx_iinc (j := 3) (v := w331) (lv' := [(0, .ref a0), (1, .ref a1), (2, .ref a2), (3, .int w331)]) dL_law_1382 rfl (ii_5 ew331) (by decide) rfl ?_
    refine sx_goto (tgt := 18) dL_law_1385 rfl ?_
    obtain rfl := Option.some.inj h
    exact sx_sub [0, 1, 2, 3] rfl (k1 _ rfl)
set_option maxRecDepth 100000 in
set_option maxHeartbeats 4000000 in
theorem mL_law {l : Launch} {E : Ev} {L : HL} {X : Xe} {a0 : Nat} {xs : Nat → Int32} {n0 : Nat} {a1 : Nat} {a2 : Nat} {z : Int32 × HL} (hrm : RM X 20) (hend : ∀ (pc : Nat) (lv : List (Nat × Value)) (L : HL), decode cL_law pc = .ok (.ireturn, 1) → Sy l E yL_law cL_law 4 (some .boolean) X pc lv [.int 1] L) (hscr : ∀ s, X.2.2.2.2 s → va_X a0 n0 xs s s.heap ∧ a0 < s.heap.size) (hb : eK E a0 = none) (h1 : isX6 E a1) (h2 : isX7 E a2) (h : fL_law xs n0 a1 a2 L = some z) (k3 : z.1 = 1) : Sy l E yL_law cL_law 4 (some .boolean) X 16 [(0, .ref a0), (1, .ref a1), (2, .ref a2)] [] L := by
  unfold fL_law at h
  refine sx_iconst (v := (0 : Int32)) dL_law_16 (by decide) ?_
  refine sx_istore_n (i := 3) (lv' := [(0, .ref a0), (1, .ref a1), (2, .ref a2), (3, .int (0 : Int32))]) dL_law_17 rfl (by decide) rfl ?_
  obtain ⟨x333, hx, q1, q2⟩ := lx_e h
  refine sx_sub (lv' := [(0, .ref a0), (1, .ref a1), (2, .ref a2), (3, .int (0 : Int32))]) [0, 1, 2, 3] rfl ?_
  refine lp_go (fun s332 => Sy l E yL_law cL_law 4 (some .boolean) X 18 [(0, .ref a0), (1, .ref a1), (2, .ref a2), (3, .int s332.1)] [] s332.2) x333 (fun s332 z2 hz c1 c2 => ?_) FU _ hx
  refine tL_law_b18 hrm hend hscr hb h1 h2 hz (fun s2 e => c1 s2 e) (fun s332 e => ?_) (fun v e => ?_)
  · have h := q1 _ (c2 _ e).symm
    refine sx_iconst (v := (1 : Int32)) dL_law_1388 (by decide) ?_
    obtain rfl := Option.some.inj h
    exact hend _ _ _ dL_law_1389
  · have e2 := Option.some.inj (q2 _ (c2 _ e).symm)
    subst e2
    exact k3
