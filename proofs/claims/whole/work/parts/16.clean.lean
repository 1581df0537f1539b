set_option maxRecDepth 100000 in
set_option maxHeartbeats 4000000 in
theorem tX7_clean_b2 {l : Launch} {E : Ev} {r : Option Value} {L' L : HL} {a0 : Nat} {v1 : Int32} {z : Tn (Int32 × HL) (HL)} (h0 : isX7 E a0) (h : fX7_clean_b2 a0 v1 L = some z) (k1 : ∀ s, z = .inl s → Sx l E yX7_clean cX7_clean 2 (none) (1) r L' 2 [(0, .ref a0), (1, .int s.1)] [] s.2) (k2 : ∀ s, z = .inr (.inl s) → Sx l E yX7_clean cX7_clean 2 (none) (1) r L' 22 [] [] s.2) (k3 : ∀ v, z = .inr (.inr v) → r = none ∧ L' = v) : Sx l E yX7_clean cX7_clean 2 (none) (1) r L' 2 [(0, .ref a0), (1, .int v1)] [] L := by
  unfold fX7_clean_b2 at h
  refine sx_iload_n (i := 1) (j := 1) dX7_clean_2 rfl rfl ?_
  refine sx_sipush (v := (228 : Int32)) dX7_clean_3 (by decide) ?_
  refine sx_icmp_ge (tgt := 22) dX7_clean_6 rfl (fun c1 => ?_) (fun c1 => ?_)
  · have h := if_e c1 h
    obtain rfl := Option.some.inj h
    exact sx_sub [] rfl (k2 _ rfl)
  · have h := if_n c1 h
    refine sx_aload_n (i := 0) (j := 0) dX7_clean_9 rfl rfl ?_
    refine sx_get (k := 0) (v := .ref (a0 + 1)) dX7_clean_10 (X7_k h0) cf_7 (Or.inl wd_956) (by decide : 0 < 20) (congrArg Value.ref (X7_r0 h0)) ?_
    refine sx_iload_n (i := 1) (j := 1) dX7_clean_13 rfl rfl ?_
    refine sx_iconst (v := (0 : Int32)) dX7_clean_14 (by decide) ?_
    obtain ⟨c2, h⟩ := gd_e h
    refine sx_iast dX7_clean_15 (X7_a0 h0) c2 (fun L3 eL3 => ?_)
    have h := lt_e eL3 h
    obtain ⟨w4, ew4⟩ : ∃ w : Int32, w = v1 + (1 : Int32) := ⟨_, rfl⟩
    have h := lt_e ew4 h
    refine sx_iinc (j := 1) (v := w4) (lv' := [(0, .ref a0), (1, .int w4)]) dX7_clean_16 rfl (ii_1 ew4) (by decide) rfl ?_
    refine sx_goto (tgt := 2) dX7_clean_19 rfl ?_
    obtain rfl := Option.some.inj h
    exact sx_sub [0, 1] rfl (k1 _ rfl)
set_option maxRecDepth 100000 in
set_option maxHeartbeats 4000000 in
theorem mX7_clean {l : Launch} {E : Ev} {L : HL} {a0 : Nat} {z : HL} (h0 : isX7 E a0) (h : fX7_clean a0 L = some z) : Mt l E yX7_clean cX7_clean 2 (none) (1) [.ref a0] L (none) z := by
  obtain ⟨r, hr⟩ : ∃ r : Option Value, r = none := ⟨_, rfl⟩
  obtain ⟨L', hL'⟩ : ∃ L' : HL, L' = z := ⟨_, rfl⟩
  have k3 : r = none ∧ L' = z := ⟨hr, hL'⟩
  refine mt_eq hr hL' ?_
  refine Mt.of (plainFor_of_name (by decide)) (Nat.le_of_ble_eq_true rfl) ?_
  refine sx_sub (lv' := [(0, .ref a0)]) [0] rfl ?_
  unfold fX7_clean at h
  refine sx_iconst (v := (0 : Int32)) dX7_clean_0 (by decide) ?_
  refine sx_istore_n (i := 1) (lv' := [(0, .ref a0), (1, .int (0 : Int32))]) dX7_clean_1 rfl (by decide) rfl ?_
  obtain ⟨x6, hx, q1, q2⟩ := lx_e h
  refine sx_sub (lv' := [(0, .ref a0), (1, .int (0 : Int32))]) [0, 1] rfl ?_
  refine lp_go (fun s5 => Sx l E yX7_clean cX7_clean 2 (none) (1) r L' 2 [(0, .ref a0), (1, .int s5.1)] [] s5.2) x6 (fun s5 z2 hz c1 c2 => ?_) FU _ hx
  refine tX7_clean_b2 h0 hz (fun s2 e => c1 s2 e) (fun s5 e => ?_) (fun v e => ?_)
  · have h := q1 _ (c2 _ e).symm
    obtain rfl := Option.some.inj h
    exact sx_vret dX7_clean_22 rfl k3.1 k3.2
  · have e2 := Option.some.inj (q2 _ (c2 _ e).symm)
    subst e2
    exact k3
