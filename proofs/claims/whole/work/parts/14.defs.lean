def fX7_clean_b2 (a0 : Nat) (v1 : Int32) (L : HL) : Option (Tn (Int32 × HL) (HL)) :=
  if (228 : Int32) ≤ v1 then (
    some (.inr (.inl (v1, L))))
  else
    gd (vin v1 228) <|
    lt (wI L (a0 + 1) v1.toNatClampNeg (0 : Int32)) fun L3 =>
    lt (v1 + (1 : Int32)) fun w4 =>
    some (.inl (w4, L3))
def fX7_clean (a0 : Nat) (L : HL) : Option (HL) :=
  lx (lp (fun s5 : Int32 × HL => fX7_clean_b2 a0 s5.1 s5.2) FU ((0 : Int32), L)) (fun v => some v) fun s5 =>
  some s5.2
def fJ9_min_7cf53 (v0 : Int32) (v1 : Int32) : Option (Int32) :=
  if v1 < v0 then (
    some v1)
  else
    some v0
def fX6_copyRow (a0 : Nat) (n0 : Nat) (a1 : Nat) (n1 : Nat) (L : HL) : Option (HL) :=
  bd (fJ9_min_7cf53 (Int32.ofNat n0) (Int32.ofNat n1)) fun z1 =>
  gd (¬ a0 = a1 ∧ ¬ (0 : Int32) < 0 ∧ ¬ (0 : Int32) < 0 ∧ ¬ z1 < 0 ∧ (0 : Int32).toNatClampNeg + z1.toNatClampNeg ≤ n0 ∧ (0 : Int32).toNatClampNeg + z1.toNatClampNeg ≤ n1) <|
  lt (wC L a0 (0 : Int32).toNatClampNeg a1 (0 : Int32).toNatClampNeg z1.toNatClampNeg) fun L3 =>
  some L3
def fX4_takeFrom (a0 : Nat) (a1 : Nat) (L : HL) : Option (HL) :=
  lt (wI L a0 0 (L.1 a1 0)) fun L1 =>
  lt (wI L1 a0 1 (L1.1 a1 1)) fun L2 =>
  lt (wI L2 a0 2 (L2.1 a1 2)) fun L3 =>
  lt (wI L3 a0 3 (L3.1 a1 3)) fun L4 =>
  bd (fX6_copyRow (a1 + 1) 5 (a0 + 1) 5 L4) fun z5 =>
  bd (fX6_copyRow (a1 + 2) 5 (a0 + 2) 5 z5) fun z6 =>
  bd (fX6_copyRow (a1 + 3) 5 (a0 + 3) 5 z6) fun z7 =>
  bd (fX6_copyRow (a1 + 4) 5 (a0 + 4) 5 z7) fun z8 =>
  bd (fX6_copyRow (a1 + 5) 5 (a0 + 5) 5 z8) fun z9 =>
  bd (fX6_copyRow (a1 + 6) 5 (a0 + 6) 5 z9) fun z10 =>
  bd (fX6_copyRow (a1 + 7) 5 (a0 + 7) 5 z10) fun z11 =>
  bd (fX6_copyRow (a1 + 8) 6 (a0 + 8) 6 z11) fun z12 =>
  bd (fX6_copyRow (a1 + 9) 6 (a0 + 9) 6 z12) fun z13 =>
  bd (fX6_copyRow (a1 + 10) 4 (a0 + 10) 4 z13) fun z14 =>
  some z14
def fX3_takeFrom_b40 (a0 : Nat) (a1 : Nat) (v2 : Int32) (L : HL) : Option (Tn (Int32 × HL) (HL)) :=
  if (8 : Int32) ≤ v2 then (
    some (.inr (.inl (v2, L))))
  else
    gd (vin v2 8) <|
    gd (vin v2 8) <|
    bd (fX6_copyRow ((a1 + 3) + 1 + v2.toNatClampNeg) 5 ((a0 + 3) + 1 + v2.toNatClampNeg) 5 L) fun z8 =>
    gd (vin v2 8) <|
    gd (vin v2 8) <|
    bd (fX6_copyRow ((a1 + 12) + 1 + v2.toNatClampNeg) 6 ((a0 + 12) + 1 + v2.toNatClampNeg) 6 z8) fun z11 =>
    lt (v2 + (1 : Int32)) fun w12 =>
    some (.inl (w12, z11))
def fX3_takeFrom (a0 : Nat) (a1 : Nat) (L : HL) : Option (HL) :=
  lt (wI L a0 0 (L.1 a1 0)) fun L1 =>
  lt (wI L1 a0 1 (L1.1 a1 1)) fun L2 =>
  bd (fX6_copyRow (a1 + 1) 8 (a0 + 1) 8 L2) fun z3 =>
  bd (fX6_copyRow (a1 + 2) 8 (a0 + 2) 8 z3) fun z4 =>
  lx (lp (fun s13 : Int32 × HL => fX3_takeFrom_b40 a0 a1 s13.1 s13.2) FU ((0 : Int32), z4)) (fun v => some v) fun s13 =>
  some s13.2
def fX0_keep (a0 : Nat) (a1 : Nat) (a2 : Nat) (L : HL) : Option (HL) :=
  bd (fX4_takeFrom (a0 + 1) a1 L) fun z1 =>
  bd (fX3_takeFrom (a0 + 15) a2 z1) fun z2 =>
  lt (wI z2 a0 0 (1 : Int32)) fun L3 =>
  some L3
def fX0_giveBack (a0 : Nat) (a1 : Nat) (a2 : Nat) (L : HL) : Option (HL) :=
  bd (fX4_takeFrom a1 (a0 + 1) L) fun z1 =>
  bd (fX3_takeFrom a2 (a0 + 15) z1) fun z2 =>
  some z2
def fX4_stands (a0 : Nat) (v1 : Int32) (L : HL) : Option (Int32) :=
  if v1 < 0 then (
    some (0 : Int32))
  else
    if (5 : Int32) ≤ v1 then (
      some (0 : Int32))
    else
      if (((L.1 a0 1) >>> (v1 &&& 31)) &&& (1 : Int32)) = (1 : Int32) then (
        some (1 : Int32))
      else
        some (0 : Int32)
def fX4_isQuiet_b2 (a0 : Nat) (v1 : Int32) (v2 : Int32) (v3 : Int32) (L : HL) : Option (Tn (Int32) (Int32)) :=
  if (4 : Int32) ≤ v3 then (
    some (.inr (.inl v3)))
  else
    if ((v1 >>> (v3 &&& 31)) &&& (1 : Int32)) = (1 : Int32) then (
      gd (vin v3 4) <|
      if ((L.1 (a0 + 10) v3.toNatClampNeg) &&& v2) = 0 then (
        lt (v3 + (1 : Int32)) fun w5 =>
        some (.inl w5))
      else
        some (.inr (.inr (0 : Int32))))
    else
      lt (v3 + (1 : Int32)) fun w6 =>
      some (.inl w6)
def fX4_isQuiet (a0 : Nat) (v1 : Int32) (v2 : Int32) (L : HL) : Option (Int32) :=
  lx (lp (fun s7 : Int32 => fX4_isQuiet_b2 a0 v1 v2 s7 L) FU (0 : Int32)) (fun v => some v) fun s7 =>
  some (1 : Int32)
def fX1_mayLive (a0 : Nat) (a1 : Nat) (v2 : Int32) (v3 : Int32) (L : HL) : Option (Int32) :=
  bd (fX4_stands a1 v3 L) fun z1 =>
  if z1 = 0 then (
    some (0 : Int32))
  else
    gd (vin v3 5) <|
    gd (vin v3 5) <|
    if (L.1 (a1 + 1) v3.toNatClampNeg) ≤ (L.1 (a0 + 1) v3.toNatClampNeg) then (
      some (0 : Int32))
    else
      gd (vin v2 6) <|
      gd (vin v3 5) <|
      bd (fX4_isQuiet a1 ((1 : Int32) <<< ((L.1 (a1 + 8) v2.toNatClampNeg) &&& 31)) (L.1 (a0 + 2) v3.toNatClampNeg) L) fun z8 =>
      if z8 = 0 then (
        some (0 : Int32))
      else
        some (1 : Int32)
def fX1_lodge_j113 (rec : Nat → Nat → Int32 → Int32 → HL → Option (Int32 × HL)) (a0 : Nat) (a1 : Nat) (v2 : Int32) (v3 : Int32) (v4 : Int32) (v5 : Int32) (s2 : Int32) (s3 : Int32) (s4 : Int32) (L : HL) : Option (Tn (Int32 × HL) (Int32 × HL)) :=
  bd (rec a0 a1 s2 (s3 - s4) L) fun z21 =>
  if z21.1 = 0 then (
    gd (vin v4 5) <|
    gd (vin v4 5) <|
    lt (wI z21.2 (a0 + 1) v4.toNatClampNeg ((z21.2.1 (a0 + 1) v4.toNatClampNeg) - (1 : Int32))) fun L25 =>
    gd (vin v4 5) <|
    lt (wI L25 (a0 + 2) v4.toNatClampNeg v5) fun L27 =>
    lt (v4 + (1 : Int32)) fun w28 =>
    some (.inl (w28, L27)))
  else
    some (.inr (.inr ((1 : Int32), z21.2)))
def fX1_lodge_b25 (rec : Nat → Nat → Int32 → Int32 → HL → Option (Int32 × HL)) (a0 : Nat) (a1 : Nat) (v2 : Int32) (v3 : Int32) (v4 : Int32) (L : HL) : Option (Tn (Int32 × HL) (Int32 × HL)) :=
  if (L.1 a1 0) ≤ v4 then (
    some (.inr (.inl (v4, L))))
  else
    bd (fX1_mayLive a0 a1 v2 v4 L) fun z5 =>
    if z5 = 0 then (
      lt (v4 + (1 : Int32)) fun w7 =>
      some (.inl (w7, L)))
    else
      gd (vin v4 5) <|
      lt ((L.1 (a0 + 2) v4.toNatClampNeg)) fun w9 =>
      gd (vin v4 5) <|
      gd (vin v2 6) <|
      gd (vin v4 5) <|
      lt (wI L (a0 + 2) v4.toNatClampNeg ((L.1 (a0 + 2) v4.toNatClampNeg) ||| ((1 : Int32) <<< ((L.1 (a1 + 8) v2.toNatClampNeg) &&& 31)))) fun L13 =>
      gd (vin v4 5) <|
      gd (vin v4 5) <|
      lt (wI L13 (a0 + 1) v4.toNatClampNeg ((L13.1 (a0 + 1) v4.toNatClampNeg) + (1 : Int32))) fun L16 =>
      gd (vin v2 6) <|
      lt (wI L16 (a0 + 3) v2.toNatClampNeg v4) fun L18 =>
      gd (vin v2 6) <|
      if (L18.1 (a1 + 9) v2.toNatClampNeg) = v4 then (
        fX1_lodge_j113 rec a0 a1 v2 v3 v4 w9 (v2 + (1 : Int32)) v3 (0 : Int32) L18)
      else
        fX1_lodge_j113 rec a0 a1 v2 v3 v4 w9 (v2 + (1 : Int32)) v3 (1 : Int32) L18
def fX1_lodge_s (rec : Nat → Nat → Int32 → Int32 → HL → Option (Int32 × HL)) (a0 : Nat) (a1 : Nat) (v2 : Int32) (v3 : Int32) (L : HL) : Option (Int32 × HL) :=
  if 0 ≤ v3 then (
    if (L.1 a1 2) ≤ v2 then (
      some ((1 : Int32), L))
    else
      if v2 < (6 : Int32) then (
        lx (lp (fun s29 : Int32 × HL => fX1_lodge_b25 rec a0 a1 v2 v3 s29.1 s29.2) FU ((0 : Int32), L)) (fun v => some v) fun s29 =>
        some ((0 : Int32), s29.2))
      else
        some ((1 : Int32), L))
  else
    some ((0 : Int32), L)
def fX1_lodge : Nat → Nat → Nat → Int32 → Int32 → HL → Option (Int32 × HL)
  | 0 => fun _ _ _ _ _ => none
  | k + 1 => fX1_lodge_s (fX1_lodge k)
def fX1_seek_b2 (a0 : Nat) (a1 : Nat) (v2 : Int32) (L : HL) : Option (Tn (Int32 × HL) (Int32 × HL)) :=
  if (5 : Int32) ≤ v2 then (
    some (.inr (.inl (v2, L))))
  else
    gd (vin v2 5) <|
    lt (wI L (a0 + 1) v2.toNatClampNeg (0 : Int32)) fun L3 =>
    gd (vin v2 5) <|
    lt (wI L3 (a0 + 2) v2.toNatClampNeg (0 : Int32)) fun L5 =>
    lt (v2 + (1 : Int32)) fun w6 =>
    some (.inl (w6, L5))
def fX1_seek_b29 (a0 : Nat) (a1 : Nat) (v2 : Int32) (L : HL) : Option (Tn (Int32 × HL) (Int32 × HL)) :=
  if (L.1 a1 2) < v2 then (
    some (.inr (.inl (v2, L))))
  else
    bd (fX1_lodge 8 a0 a1 (0 : Int32) v2 L) fun z9 =>
    if z9.1 = 0 then (
      lt (v2 + (1 : Int32)) fun w11 =>
      some (.inl (w11, z9.2)))
    else
      some (.inr (.inr (v2, z9.2)))
def fX1_seek (a0 : Nat) (a1 : Nat) (L : HL) : Option (Int32 × HL) :=
  lx (lp (fun s7 : Int32 × HL => fX1_seek_b2 a0 a1 s7.1 s7.2) FU ((0 : Int32), L)) (fun v => some v) fun s7 =>
  lx (lp (fun s12 : Int32 × HL => fX1_seek_b29 a0 a1 s12.1 s12.2) FU ((0 : Int32), s7.2)) (fun v => some v) fun s12 =>
  some ((-1 : Int32), s12.2)
def fX4_hasOne (a0 : Nat) (v1 : Int32) (L : HL) : Option (Int32) :=
  if v1 < 0 then (
    some (0 : Int32))
  else
    if (L.1 a0 2) ≤ v1 then (
      some (0 : Int32))
    else
      if (6 : Int32) ≤ v1 then (
        some (0 : Int32))
      else
        some (1 : Int32)
def fX2_atLast_j31 (a0 : Nat) (L : HL) : Option (HL) :=
  lt (wI L a0 5 ((L.1 a0 5) + (1 : Int32))) fun L5 =>
  some L5
def fX2_atLast (a0 : Nat) (v1 : Int32) (v2 : Int32) (L : HL) : Option (HL) :=
  gd (vin v1 6) <|
  if (L.1 ((a0 + 1) + 9) v1.toNatClampNeg) = v2 then (
    if (L.1 a0 5) = 0 then (
      bd (fX6_copyRow (a0 + 22) 5 (a0 + 23) 5 L) fun z4 =>
      fX2_atLast_j31 a0 z4)
    else
      fX2_atLast_j31 a0 L)
  else
    some L
def fX2_keep (a0 : Nat) (v1 : Int32) (L : HL) : Option (HL) :=
  gd (vin v1 5) <|
  lt (wI L (a0 + 15) v1.toNatClampNeg (L.1 (a0 + 1) 1)) fun L2 =>
  gd (vin v1 5) <|
  bd (fX6_copyRow ((a0 + 1) + 9) 6 ((a0 + 16) + 1 + v1.toNatClampNeg) 6 L2) fun z4 =>
  some z4
def fX4_kinBits_j58 (a0 : Nat) (v1 : Int32) (v2 : Int32) (v3 : Int32) (L : HL) : Option (Tn (Int32 × Int32) (Int32)) :=
  lt ((v2 ||| ((1 : Int32) <<< (v3 &&& 31)))) fun w6 =>
  lt (v3 + (1 : Int32)) fun w7 =>
  some (.inl (w6, w7))
def fX4_kinBits_b30 (a0 : Nat) (v1 : Int32) (v2 : Int32) (v3 : Int32) (L : HL) : Option (Tn (Int32 × Int32) (Int32)) :=
  if (L.1 a0 0) ≤ v3 then (
    some (.inr (.inl (v2, v3))))
  else
    gd (vin v3 5) <|
    if (L.1 (a0 + 4) v3.toNatClampNeg) = v1 then (
      fX4_kinBits_j58 a0 v1 v2 v3 L)
    else
      gd (vin v1 5) <|
      if (L.1 (a0 + 4) v1.toNatClampNeg) = v3 then (
        fX4_kinBits_j58 a0 v1 v2 v3 L)
      else
        lt (v3 + (1 : Int32)) fun w10 =>
        some (.inl (v2, w10))
def fX4_kinBits_j27 (a0 : Nat) (v1 : Int32) (s0 : Int32) (L : HL) : Option (Int32) :=
  lx (lp (fun s11 : Int32 × Int32 => fX4_kinBits_b30 a0 v1 s11.1 s11.2 L) FU (s0, (0 : Int32))) (fun v => some v) fun s11 =>
  some s11.1
def fX4_kinBits (a0 : Nat) (v1 : Int32) (L : HL) : Option (Int32) :=
  if (((L.1 a0 1) >>> (v1 &&& 31)) &&& (1 : Int32)) = (1 : Int32) then (
    gd (vin v1 5) <|
    fX4_kinBits_j27 a0 v1 ((L.1 (a0 + 7) v1.toNatClampNeg) &&& (L.1 a0 1)) L)
  else
    fX4_kinBits_j27 a0 v1 (0 : Int32) L
def fX4_measureSteps_b2 (a0 : Nat) (v1 : Int32) (v2 : Int32) (L : HL) : Option (Tn (Int32 × HL) (HL)) :=
  if (5 : Int32) ≤ v2 then (
    some (.inr (.inl (v2, L))))
  else
    gd (vin v2 5) <|
    lt (wI L (a0 + 11) v2.toNatClampNeg (-1 : Int32)) fun L3 =>
    lt (v2 + (1 : Int32)) fun w4 =>
    some (.inl (w4, L3))
def fX4_measureSteps_b45 (a0 : Nat) (v2 : Int32) (v3 : Int32) (v4 : Int32) (v5 : Int32) (v6 : Int32) (L : HL) : Option (Tn (Int32 × Int32 × HL) (HL)) :=
  if (L.1 a0 0) ≤ v6 then (
    some (.inr (.inl (v5, v6, L))))
  else
    if ((v3 >>> (v6 &&& 31)) &&& (1 : Int32)) = (1 : Int32) then (
      gd (vin v6 5) <|
      lt (wI L (a0 + 11) v6.toNatClampNeg v4) fun L12 =>
      bd (fX4_kinBits a0 v6 L12) fun z13 =>
      lt ((v5 ||| z13)) fun w14 =>
      lt (v6 + (1 : Int32)) fun w15 =>
      some (.inl (w14, w15, L12)))
    else
      lt (v6 + (1 : Int32)) fun w16 =>
      some (.inl (v5, w16, L))
def fX4_measureSteps_b29 (a0 : Nat) (v2 : Int32) (v3 : Int32) (v4 : Int32) (L : HL) : Option (Tn (Int32 × Int32 × Int32 × HL) (HL)) :=
  if (5 : Int32) ≤ v4 then (
    some (.inr (.inl (v2, v3, v4, L))))
  else
    if v3 = 0 then (
      some (.inr (.inl (v2, v3, v4, L))))
    else
      lx (lp (fun s17 : Int32 × Int32 × HL => fX4_measureSteps_b45 a0 v2 v3 v4 s17.1 s17.2.1 s17.2.2) FU ((0 : Int32), (0 : Int32), L)) (fun v => some (.inr (.inr v))) fun s17 =>
      lt ((s17.1 &&& (v2 ^^^ (-1 : Int32)))) fun w18 =>
      lt ((v2 ||| s17.1)) fun w19 =>
      lt (v4 + (1 : Int32)) fun w20 =>
      some (.inl (w19, w18, w20, s17.2.2))
def fX4_measureSteps (a0 : Nat) (v1 : Int32) (L : HL) : Option (HL) :=
  lx (lp (fun s5 : Int32 × HL => fX4_measureSteps_b2 a0 v1 s5.1 s5.2) FU ((0 : Int32), L)) (fun v => some v) fun s5 =>
  lt (((1 : Int32) <<< (v1 &&& 31))) fun w6 =>
  lx (lp (fun s22 : Int32 × Int32 × Int32 × HL => fX4_measureSteps_b29 a0 s22.1 s22.2.1 s22.2.2.1 s22.2.2.2) FU (w6, w6, (0 : Int32), s5.2)) (fun v => some v) fun s22 =>
  some s22.2.2.2
def fX4_has (a0 : Nat) (v1 : Int32) (L : HL) : Option (Int32) :=
  if v1 < 0 then (
    some (0 : Int32))
  else
    if (L.1 a0 0) ≤ v1 then (
      some (0 : Int32))
    else
      if (5 : Int32) ≤ v1 then (
        some (0 : Int32))
      else
        some (1 : Int32)
def fX4_measureDwellers_b2 (a0 : Nat) (v1 : Int32) (L : HL) : Option (Tn (Int32 × HL) (HL)) :=
  if (5 : Int32) ≤ v1 then (
    some (.inr (.inl (v1, L))))
  else
    gd (vin v1 5) <|
    lt (wI L (a0 + 12) v1.toNatClampNeg (0 : Int32)) fun L3 =>
    gd (vin v1 5) <|
    lt (wI L3 (a0 + 13) v1.toNatClampNeg (0 : Int32)) fun L5 =>
    lt (v1 + (1 : Int32)) fun w6 =>
    some (.inl (w6, L5))
def fX4_measureDwellers_b29 (a0 : Nat) (v1 : Int32) (L : HL) : Option (Tn (Int32 × HL) (HL)) :=
  if (L.1 a0 2) ≤ v1 then (
    some (.inr (.inl (v1, L))))
  else
    gd (vin v1 6) <|
    lt ((L.1 (a0 + 9) v1.toNatClampNeg)) fun w10 =>
    bd (fX4_has a0 w10 L) fun z11 =>
    if z11 = 0 then (
      lt (v1 + (1 : Int32)) fun w13 =>
      some (.inl (w13, L)))
    else
      gd (vin w10 5) <|
      gd (vin w10 5) <|
      lt (wI L (a0 + 12) w10.toNatClampNeg ((L.1 (a0 + 12) w10.toNatClampNeg) + (1 : Int32))) fun L16 =>
      gd (vin w10 5) <|
      gd (vin v1 6) <|
      gd (vin w10 5) <|
      lt (wI L16 (a0 + 13) w10.toNatClampNeg ((L16.1 (a0 + 13) w10.toNatClampNeg) ||| ((1 : Int32) <<< ((L16.1 (a0 + 8) v1.toNatClampNeg) &&& 31)))) fun L20 =>
      lt (v1 + (1 : Int32)) fun w21 =>
      some (.inl (w21, L20))
def fX4_measureDwellers (a0 : Nat) (L : HL) : Option (HL) :=
  lx (lp (fun s7 : Int32 × HL => fX4_measureDwellers_b2 a0 s7.1 s7.2) FU ((0 : Int32), L)) (fun v => some v) fun s7 =>
  lx (lp (fun s22 : Int32 × HL => fX4_measureDwellers_b29 a0 s22.1 s22.2) FU ((0 : Int32), s7.2)) (fun v => some v) fun s22 =>
  some s22.2
def fX4_measuredRank_j68 (a0 : Nat) (v1 : Int32) (v2 : Int32) (v3 : Int32) (v4 : Int32) (v5 : Int32) (s0 : Int32) (L : HL) : Option (Int32) :=
  if v1 = (0 : Int32) then (
    some v4)
  else
  if v1 = (1 : Int32) then (
    if s0 = 0 then (
      some (1000 : Int32))
    else
      some v4)
  else
  if v1 = (2 : Int32) then (
    if v4 = (1000 : Int32) then (
      some (1000 : Int32))
    else
      gd (vin v3 5) <|
      some (((10 : Int32) * v4) - ((L.1 (a0 + 2) v3.toNatClampNeg) / (10 : Int32))))
  else
  if v1 = (3 : Int32) then (
    if s0 = 0 then (
      some (1000 : Int32))
    else
      gd (vin v2 5) <|
      gd (vin v3 5) <|
      bd (fX4_isQuiet a0 (L.1 (a0 + 13) v2.toNatClampNeg) (L.1 (a0 + 13) v3.toNatClampNeg) L) fun z18 =>
      if z18 = 0 then (
        some (1000 : Int32))
      else
        some v4)
  else
  if v1 = (4 : Int32) then (
    some v5)
  else
  if v1 = (5 : Int32) then (
    gd (vin v3 5) <|
    some (v5 - ((2 : Int32) * (L.1 (a0 + 12) v3.toNatClampNeg))))
  else
  some (1000 : Int32)
def fX4_measuredRank_j39 (a0 : Nat) (v1 : Int32) (v2 : Int32) (v3 : Int32) (v4 : Int32) (s0 : Int32) (L : HL) : Option (Int32) :=
  gd (vin v3 5) <|
  gd (vin v3 5) <|
  gd (vin v2 5) <|
  if ((L.1 (a0 + 1) v3.toNatClampNeg) - (L.1 (a0 + 12) v3.toNatClampNeg)) < (L.1 (a0 + 12) v2.toNatClampNeg) then (
    fX4_measuredRank_j68 a0 v1 v2 v3 v4 s0 (0 : Int32) L)
  else
    fX4_measuredRank_j68 a0 v1 v2 v3 v4 s0 (1 : Int32) L
def fX4_measuredRank_j22 (a0 : Nat) (v1 : Int32) (v2 : Int32) (v3 : Int32) (s0 : Int32) (L : HL) : Option (Int32) :=
  if s0 = (1000 : Int32) then (
    fX4_measuredRank_j39 a0 v1 v2 v3 s0 (9 : Int32) L)
  else
    fX4_measuredRank_j39 a0 v1 v2 v3 s0 s0 L
def fX4_measuredRank (a0 : Nat) (v1 : Int32) (v2 : Int32) (v3 : Int32) (L : HL) : Option (Int32) :=
  gd (vin v3 5) <|
  if (L.1 (a0 + 11) v3.toNatClampNeg) = (-1 : Int32) then (
    fX4_measuredRank_j22 a0 v1 v2 v3 (1000 : Int32) L)
  else
    gd (vin v3 5) <|
    fX4_measuredRank_j22 a0 v1 v2 v3 (L.1 (a0 + 11) v3.toNatClampNeg) L
def fX4_heirBy_j93 (a0 : Nat) (v1 : Int32) (v2 : Int32) (v3 : Int32) (v4 : Int32) (v5 : Int32) (v6 : Int32) (v7 : Int32) (L : HL) : Option (Tn (Int32 × Int32 × Int32) (Int32 × HL)) :=
  if v5 ≤ v7 then (
    lt (v6 + (1 : Int32)) fun w16 =>
    some (.inl (v4, v5, w16)))
  else
    lt (v6 + (1 : Int32)) fun w17 =>
    some (.inl (v6, v7, w17))
def fX4_heirBy_j89 (a0 : Nat) (v1 : Int32) (v2 : Int32) (v3 : Int32) (v4 : Int32) (v5 : Int32) (v6 : Int32) (s0 : Int32) (L : HL) : Option (Tn (Int32 × Int32 × Int32) (Int32 × HL)) :=
  lt ((s0 - (3 : Int32))) fun w14 =>
  fX4_heirBy_j93 a0 v1 v2 v3 v4 v5 v6 w14 L
def fX4_heirBy_b30 (a0 : Nat) (v1 : Int32) (v2 : Int32) (v3 : Int32) (v4 : Int32) (v5 : Int32) (v6 : Int32) (L : HL) : Option (Tn (Int32 × Int32 × Int32) (Int32 × HL)) :=
  if (L.1 a0 0) ≤ v6 then (
    some (.inr (.inl (v4, v5, v6))))
  else
    if v6 = v2 then (
      lt (v6 + (1 : Int32)) fun w7 =>
      some (.inl (v4, v5, w7)))
    else
      bd (fX4_stands a0 v6 L) fun z8 =>
      if z8 = 0 then (
        lt (v6 + (1 : Int32)) fun w10 =>
        some (.inl (v4, v5, w10)))
      else
        bd (fX4_measuredRank a0 v1 v2 v6 L) fun z11 =>
        if ((v3 >>> (v6 &&& 31)) &&& (1 : Int32)) = (1 : Int32) then (
          if z11 = (1000 : Int32) then (
            fX4_heirBy_j89 a0 v1 v2 v3 v4 v5 v6 (9 : Int32) L)
          else
            fX4_heirBy_j89 a0 v1 v2 v3 v4 v5 v6 z11 L)
        else
          fX4_heirBy_j93 a0 v1 v2 v3 v4 v5 v6 z11 L
def fX4_heirBy (a0 : Nat) (v1 : Int32) (v2 : Int32) (v3 : Int32) (L : HL) : Option (Int32 × HL) :=
  bd (fX4_stands a0 v2 L) fun z1 =>
  if z1 = 0 then (
    some ((-1 : Int32), L))
  else
    bd (fX4_measureSteps a0 v2 L) fun z3 =>
    bd (fX4_measureDwellers a0 z3) fun z4 =>
    lx (lp (fun s18 : Int32 × Int32 × Int32 => fX4_heirBy_b30 a0 v1 v2 v3 s18.1 s18.2.1 s18.2.2 z4) FU ((-1 : Int32), (1000 : Int32), (0 : Int32))) (fun v => some v) fun s18 =>
    some (s18.1, z4)
def fX4_letFall_b25 (a0 : Nat) (v1 : Int32) (v2 : Int32) (v3 : Int32) (L : HL) : Option (Tn (Int32 × HL) (Int32 × HL)) :=
  if (L.1 a0 2) ≤ v3 then (
    some (.inr (.inl (v3, L))))
  else
    gd (vin v3 6) <|
    if (L.1 (a0 + 9) v3.toNatClampNeg) = v1 then (
      gd (vin v3 6) <|
      lt (wI L (a0 + 9) v3.toNatClampNeg v2) fun L9 =>
      lt (v3 + (1 : Int32)) fun w10 =>
      some (.inl (w10, L9)))
    else
      lt (v3 + (1 : Int32)) fun w11 =>
      some (.inl (w11, L))
def fX4_letFall (a0 : Nat) (v1 : Int32) (L : HL) : Option (Int32 × HL) :=
  bd (fX4_stands a0 v1 L) fun z1 =>
  if z1 = 0 then (
    some ((-1 : Int32), L))
  else
    gd (vin v1 5) <|
    bd (fX4_heirBy a0 (L.1 (a0 + 5) v1.toNatClampNeg) v1 (0 : Int32) L) fun z4 =>
    lx (lp (fun s12 : Int32 × HL => fX4_letFall_b25 a0 v1 z4.1 s12.1 s12.2) FU ((0 : Int32), z4.2)) (fun v => some v) fun s12 =>
    lt (wI s12.2 a0 1 ((s12.2.1 a0 1) &&& (((1 : Int32) <<< (v1 &&& 31)) ^^^ (-1 : Int32)))) fun L13 =>
    some (z4.1, L13)
def fX2_bringBack (a0 : Nat) (v1 : Int32) (L : HL) : Option (HL) :=
  gd (vin v1 5) <|
  lt (wI L (a0 + 1) 1 (L.1 (a0 + 15) v1.toNatClampNeg)) fun L2 =>
  gd (vin v1 5) <|
  bd (fX6_copyRow ((a0 + 16) + 1 + v1.toNatClampNeg) 6 ((a0 + 1) + 9) 6 L2) fun z4 =>
  some z4
def fX2_tryOrders_b26 (rec : Nat → Int32 → Int32 → Int32 → Int32 → HL → Option (HL)) (a0 : Nat) (v1 : Int32) (v2 : Int32) (v3 : Int32) (v4 : Int32) (v5 : Int32) (L : HL) : Option (Tn (Int32 × HL) (HL)) :=
  if (5 : Int32) ≤ v5 then (
    some (.inr (.inl (v5, L))))
  else
    if ((v2 >>> (v5 &&& 31)) &&& (1 : Int32)) = (1 : Int32) then (
      gd (vin v1 5) <|
      lt (wI L (a0 + 22) v1.toNatClampNeg v5) fun L8 =>
      bd (fX4_letFall (a0 + 1) v5 L8) fun z9 =>
      bd (rec a0 (v1 + (1 : Int32)) (v2 &&& (((1 : Int32) <<< (v5 &&& 31)) ^^^ (-1 : Int32))) v3 v4 z9.2) fun z10 =>
      bd (fX2_bringBack a0 v1 z10) fun z11 =>
      lt (v5 + (1 : Int32)) fun w12 =>
      some (.inl (w12, z11)))
    else
      lt (v5 + (1 : Int32)) fun w13 =>
      some (.inl (w13, L))
def fX2_tryOrders_s (rec : Nat → Int32 → Int32 → Int32 → Int32 → HL → Option (HL)) (a0 : Nat) (v1 : Int32) (v2 : Int32) (v3 : Int32) (v4 : Int32) (L : HL) : Option (HL) :=
  if v2 = 0 then (
    bd (fX2_atLast a0 v3 v4 L) fun z2 =>
    some z2)
  else
    if v1 < (5 : Int32) then (
      bd (fX2_keep a0 v1 L) fun z4 =>
      lx (lp (fun s14 : Int32 × HL => fX2_tryOrders_b26 rec a0 v1 v2 v3 v4 s14.1 s14.2) FU ((0 : Int32), z4)) (fun v => some v) fun s14 =>
      some s14.2)
    else
      some L
def fX2_tryOrders : Nat → Nat → Int32 → Int32 → Int32 → Int32 → HL → Option (HL)
  | 0 => fun _ _ _ _ _ _ => none
  | k + 1 => fX2_tryOrders_s (fX2_tryOrders k)
def fX2_seek (a0 : Nat) (a1 : Nat) (v2 : Int32) (v3 : Int32) (v4 : Int32) (L : HL) : Option (HL) :=
  bd (fX4_takeFrom (a0 + 1) a1 L) fun z1 =>
  lt (wI z1 a0 5 (0 : Int32)) fun L2 =>
  bd (fX4_hasOne (a0 + 1) v3 L2) fun z3 =>
  if z3 = 0 then (
    some L2)
  else
    bd (fX2_tryOrders 8 a0 (0 : Int32) v2 v3 v4 L2) fun z5 =>
    some z5
def fJ6_bitCount_0f7a4 (v0 : Int32) : Option (Int32) :=
  lt ((v0 - (((v0.toUInt32 >>> ((1 : Int32).toUInt32 &&& Int32.toUInt32 31)).toInt32) &&& (1431655765 : Int32)))) fun w1 =>
  lt (((w1 &&& (858993459 : Int32)) + (((w1.toUInt32 >>> ((2 : Int32).toUInt32 &&& Int32.toUInt32 31)).toInt32) &&& (858993459 : Int32)))) fun w2 =>
  lt (((w2 + ((w2.toUInt32 >>> ((4 : Int32).toUInt32 &&& Int32.toUInt32 31)).toInt32)) &&& (252645135 : Int32))) fun w3 =>
  lt ((w3 + ((w3.toUInt32 >>> ((8 : Int32).toUInt32 &&& Int32.toUInt32 31)).toInt32))) fun w4 =>
  lt ((w4 + ((w4.toUInt32 >>> ((16 : Int32).toUInt32 &&& Int32.toUInt32 31)).toInt32))) fun w5 =>
  some (w5 &&& (63 : Int32))
def fX2_neverOut_b38 (rec : Nat → Int32 → Int32 → Int32 → HL → Option (Int32 × HL)) (a0 : Nat) (v1 : Int32) (v2 : Int32) (v3 : Int32) (v4 : Int32) (L : HL) : Option (Tn (Int32 × HL) (Int32 × HL)) :=
  if (5 : Int32) ≤ v4 then (
    some (.inr (.inl (v4, L))))
  else
    if ((v2 >>> (v4 &&& 31)) &&& (1 : Int32)) = (1 : Int32) then (
      bd (fX4_letFall (a0 + 1) v4 L) fun z9 =>
      bd (rec a0 (v1 + (1 : Int32)) (v2 &&& (((1 : Int32) <<< (v4 &&& 31)) ^^^ (-1 : Int32))) v3 z9.2) fun z10 =>
      if z10.1 = 0 then (
        some (.inr (.inr ((0 : Int32), z10.2))))
      else
        bd (fX2_bringBack a0 v1 z10.2) fun z12 =>
        lt (v4 + (1 : Int32)) fun w13 =>
        some (.inl (w13, z12)))
    else
      lt (v4 + (1 : Int32)) fun w14 =>
      some (.inl (w14, L))
def fX2_neverOut_s (rec : Nat → Int32 → Int32 → Int32 → HL → Option (Int32 × HL)) (a0 : Nat) (v1 : Int32) (v2 : Int32) (v3 : Int32) (L : HL) : Option (Int32 × HL) :=
  gd (vin v3 6) <|
  if (L.1 ((a0 + 1) + 9) v3.toNatClampNeg) = (-1 : Int32) then (
    some ((0 : Int32), L))
  else
    bd (fJ6_bitCount_0f7a4 v2) fun z3 =>
    if z3 ≤ (1 : Int32) then (
      some ((1 : Int32), L))
    else
      if v1 < (5 : Int32) then (
        bd (fX2_keep a0 v1 L) fun z6 =>
        lx (lp (fun s15 : Int32 × HL => fX2_neverOut_b38 rec a0 v1 v2 v3 s15.1 s15.2) FU ((0 : Int32), z6)) (fun v => some v) fun s15 =>
        some ((1 : Int32), s15.2))
      else
        some ((1 : Int32), L)
def fX2_neverOut : Nat → Nat → Int32 → Int32 → Int32 → HL → Option (Int32 × HL)
  | 0 => fun _ _ _ _ _ => none
  | k + 1 => fX2_neverOut_s (fX2_neverOut k)
def fX2_isSafe_b11 (a0 : Nat) (a1 : Nat) (v2 : Int32) (v3 : Int32) (v4 : Int32) (L : HL) : Option (Tn (Int32 × HL) (Int32 × HL)) :=
  if (5 : Int32) ≤ v4 then (
    some (.inr (.inl (v4, L))))
  else
    gd (vin v4 5) <|
    lt (wI L ((a0 + 1) + 5) v4.toNatClampNeg v2) fun L4 =>
    lt (v4 + (1 : Int32)) fun w5 =>
    some (.inl (w5, L4))
def fX2_isSafe (a0 : Nat) (a1 : Nat) (v2 : Int32) (v3 : Int32) (L : HL) : Option (Int32 × HL) :=
  bd (fX4_takeFrom (a0 + 1) a1 L) fun z1 =>
  lx (lp (fun s6 : Int32 × HL => fX2_isSafe_b11 a0 a1 v2 v3 s6.1 s6.2) FU ((0 : Int32), z1)) (fun v => some v) fun s6 =>
  bd (fX4_hasOne (a0 + 1) v3 s6.2) fun z7 =>
  if z7 = 0 then (
    some ((0 : Int32), s6.2))
  else
    bd (fX2_neverOut 8 a0 (0 : Int32) (s6.2.1 (a0 + 1) 1) v3 s6.2) fun z9 =>
    if z9.1 = 0 then (
      some ((0 : Int32), z9.2))
    else
      some ((1 : Int32), z9.2)
def fX3_forget (a0 : Nat) (L : HL) : Option (HL) :=
  lt (wI L a0 0 (0 : Int32)) fun L1 =>
  lt (wI L1 a0 1 (0 : Int32)) fun L2 =>
  some L2
def fJ9_floorMod_7cf53 (v0 : Int32) (v1 : Int32) : Option (Int32) :=
  gd (¬ v1 = 0) <|
  lt ((v0 - v0 / v1 * v1)) fun w2 =>
  if 0 ≤ (v0 ^^^ v1) then (
    some w2)
  else
    if w2 = 0 then (
      some w2)
    else
      some (w2 + v1)
def fX3_keep (a0 : Nat) (a1 : Nat) (L : HL) : Option (HL) :=
  bd (fJ9_floorMod_7cf53 (L.1 a0 1) (8 : Int32)) fun z1 =>
  gd (vin z1 8) <|
  lt (wI L (a0 + 1) z1.toNatClampNeg (L.1 a1 1)) fun L3 =>
  gd (vin z1 8) <|
  lt (wI L3 (a0 + 2) z1.toNatClampNeg (L3.1 a1 3)) fun L5 =>
  gd (vin z1 8) <|
  bd (fX6_copyRow (a1 + 3) 5 ((a0 + 3) + 1 + z1.toNatClampNeg) 5 L5) fun z7 =>
  gd (vin z1 8) <|
  bd (fX6_copyRow (a1 + 9) 6 ((a0 + 12) + 1 + z1.toNatClampNeg) 6 z7) fun z9 =>
  bd (fJ9_floorMod_7cf53 (z1 + (1 : Int32)) (8 : Int32)) fun z10 =>
  lt (wI z9 a0 1 z10) fun L11 =>
  bd (fJ9_min_7cf53 ((L11.1 a0 0) + (1 : Int32)) (8 : Int32)) fun z12 =>
  lt (wI L11 a0 0 z12) fun L13 =>
  some L13
def fX3_bringBack (a0 : Nat) (a1 : Nat) (L : HL) : Option (HL) :=
  if (L.1 a0 0) = 0 then (
    some L)
  else
    bd (fJ9_floorMod_7cf53 ((L.1 a0 1) - (1 : Int32)) (8 : Int32)) fun z2 =>
    gd (vin z2 8) <|
    lt (wI L a1 1 (L.1 (a0 + 1) z2.toNatClampNeg)) fun L4 =>
    gd (vin z2 8) <|
    lt (wI L4 a1 3 (L4.1 (a0 + 2) z2.toNatClampNeg)) fun L6 =>
    gd (vin z2 8) <|
    bd (fX6_copyRow ((a0 + 3) + 1 + z2.toNatClampNeg) 5 (a1 + 3) 5 L6) fun z8 =>
    gd (vin z2 8) <|
    bd (fX6_copyRow ((a0 + 12) + 1 + z2.toNatClampNeg) 6 (a1 + 9) 6 z8) fun z10 =>
    lt (wI z10 a0 1 z2) fun L11 =>
    lt (wI L11 a0 0 ((L11.1 a0 0) - (1 : Int32))) fun L12 =>
    some L12
def fX5_append (a0 : Nat) (v1 : Int32) (L : HL) : Option (Int32 × HL) :=
  if (L.1 a0 1) < (150 : Int32) then (
    gd (vin (L.1 a0 1) 150) <|
    lt (wI L (a0 + 1) (L.1 a0 1).toNatClampNeg v1) fun L3 =>
    lt (wI L3 a0 1 ((L3.1 a0 1) + (1 : Int32))) fun L4 =>
    some ((L4.1 a0 1), L4))
  else
    some ((-4 : Int32), L)
def fX5_isLetter (v0 : Int32) : Option (Int32) :=
  if v0 < (97 : Int32) then (
    some (0 : Int32))
  else
    if (122 : Int32) < v0 then (
      some (0 : Int32))
    else
      some (1 : Int32)
def fX5_isFigure (v0 : Int32) : Option (Int32) :=
  if v0 < (48 : Int32) then (
    some (0 : Int32))
  else
    if (57 : Int32) < v0 then (
      some (0 : Int32))
    else
      some (1 : Int32)
def fX5_runEnd_b5 (a0 : Nat) (v1 : Int32) (v2 : Int32) (L : HL) : Option (Tn (Int32) (Int32)) :=
  if (L.1 a0 1) ≤ v2 then (
    some (.inr (.inl v2)))
  else
    if v1 = 0 then (
      gd (vin v2 150) <|
      bd (fX5_isFigure (L.1 (a0 + 1) v2.toNatClampNeg)) fun z5 =>
      if z5 = 0 then (
        some (.inr (.inl v2)))
      else
        lt (v2 + (1 : Int32)) fun w7 =>
        some (.inl w7))
    else
      gd (vin v2 150) <|
      bd (fX5_isLetter (L.1 (a0 + 1) v2.toNatClampNeg)) fun z9 =>
      if z9 = 0 then (
        some (.inr (.inl v2)))
      else
        lt (v2 + (1 : Int32)) fun w11 =>
        some (.inl w11)
def fX5_runEnd (a0 : Nat) (v1 : Int32) (L : HL) : Option (Int32) :=
  lt ((L.1 a0 6)) fun w1 =>
  lx (lp (fun s12 : Int32 => fX5_runEnd_b5 a0 v1 s12 L) FU w1) (fun v => some v) fun s12 =>
  some s12
def fX5_nextToken_b5 (a0 : Nat) (v1 : Int32) (L : HL) : Option (Tn (Int32) (HL)) :=
  if (L.1 a0 1) ≤ v1 then (
    some (.inr (.inl v1)))
  else
    gd (vin v1 150) <|
    if (L.1 (a0 + 1) v1.toNatClampNeg) = (32 : Int32) then (
      lt (v1 + (1 : Int32)) fun w5 =>
      some (.inl w5))
    else
      some (.inr (.inl v1))
def fX5_nextToken_j148 (a0 : Nat) (v1 : Int32) (s1 : Int32) (L : HL) : Option (HL) :=
  lt (wI L a0 5 s1) fun L18 =>
  lt (wI L18 a0 7 (v1 + (1 : Int32))) fun L19 =>
  some L19
def fX5_nextToken_j125 (a0 : Nat) (s1 : Int32) (L : HL) : Option (HL) :=
  lt (wI L a0 5 s1) fun L23 =>
  some L23
def fX5_nextToken (a0 : Nat) (L : HL) : Option (HL) :=
  lt ((L.1 a0 7)) fun w1 =>
  lx (lp (fun s6 : Int32 => fX5_nextToken_b5 a0 s6 L) FU w1) (fun v => some v) fun s6 =>
  lt (wI L a0 6 s6) fun L7 =>
  lt (wI L7 a0 7 s6) fun L8 =>
  if s6 < (L8.1 a0 1) then (
    gd (vin s6 150) <|
    bd (fX5_isLetter (L8.1 (a0 + 1) s6.toNatClampNeg)) fun z11 =>
    if z11 = 0 then (
      gd (vin s6 150) <|
      bd (fX5_isFigure (L8.1 (a0 + 1) s6.toNatClampNeg)) fun z14 =>
      if z14 = 0 then (
        gd (vin s6 150) <|
        if (L8.1 (a0 + 1) s6.toNatClampNeg) = (59 : Int32) then (
          fX5_nextToken_j148 a0 s6 (3 : Int32) L8)
        else
          fX5_nextToken_j148 a0 s6 (4 : Int32) L8)
      else
        bd (fX5_runEnd a0 (0 : Int32) L8) fun z20 =>
        lt (wI L8 a0 7 z20) fun L21 =>
        if (2 : Int32) < ((L21.1 a0 7) - (L21.1 a0 6)) then (
          fX5_nextToken_j125 a0 (4 : Int32) L21)
        else
          fX5_nextToken_j125 a0 (2 : Int32) L21)
    else
      lt (wI L8 a0 5 (1 : Int32)) fun L24 =>
      bd (fX5_runEnd a0 (1 : Int32) L24) fun z25 =>
      lt (wI L24 a0 7 z25) fun L26 =>
      some L26)
  else
    lt (wI L8 a0 5 (0 : Int32)) fun L27 =>
    some L27
def fX5_isWord_b32 (a0 : Nat) (a1 : Nat) (v2 : Int32) (v3 : Int32) (L : HL) : Option (Tn (Int32) (Int32)) :=
  if v2 ≤ v3 then (
    some (.inr (.inl v3)))
  else
    gd (vin ((L.1 a0 6) + v3) 150) <|
    gd (vin v3 (slen.getD a1 0)) <|
    if (L.1 (a0 + 1) ((L.1 a0 6) + v3).toNatClampNeg) = (schr a1 v3.toNatClampNeg) then (
      lt (v3 + (1 : Int32)) fun w8 =>
      some (.inl w8))
    else
      some (.inr (.inr (0 : Int32)))
def fX5_isWord (a0 : Nat) (a1 : Nat) (L : HL) : Option (Int32) :=
  lt ((slenI a1)) fun w1 =>
  if ((L.1 a0 7) - (L.1 a0 6)) = w1 then (
    if (L.1 a0 7) ≤ (150 : Int32) then (
      lx (lp (fun s9 : Int32 => fX5_isWord_b32 a0 a1 w1 s9 L) FU (0 : Int32)) (fun v => some v) fun s9 =>
      some (1 : Int32))
    else
      some (0 : Int32))
  else
    some (0 : Int32)
def fX5_wordKind (a0 : Nat) (L : HL) : Option (Int32) :=
  bd (fX5_isWord a0 0 L) fun z1 =>
  if z1 = 0 then (
    bd (fX5_isWord a0 1 L) fun z3 =>
    if z3 = 0 then (
      bd (fX5_isWord a0 2 L) fun z5 =>
      if z5 = 0 then (
        bd (fX5_isWord a0 3 L) fun z7 =>
        if z7 = 0 then (
          bd (fX5_isWord a0 4 L) fun z9 =>
          if z9 = 0 then (
            bd (fX5_isWord a0 5 L) fun z11 =>
            if z11 = 0 then (
              bd (fX5_isWord a0 6 L) fun z13 =>
              if z13 = 0 then (
                some (-1 : Int32))
              else
                some (6 : Int32))
            else
              some (5 : Int32))
          else
            some (4 : Int32))
        else
          some (3 : Int32))
      else
        some (2 : Int32))
    else
      some (1 : Int32))
  else
    some (0 : Int32)
def fX5_numbersOf (v0 : Int32) : Option (Int32) :=
  if v0 = 0 then (
    some (0 : Int32))
  else
    if v0 = (1 : Int32) then (
      some (3 : Int32))
    else
      some (2 : Int32)
def fX5_tokenNumber_b7 (a0 : Nat) (v1 : Int32) (v2 : Int32) (L : HL) : Option (Tn (Int32 × Int32) (Int32)) :=
  if (L.1 a0 7) ≤ v2 then (
    some (.inr (.inl (v1, v2))))
  else
    if (150 : Int32) ≤ v2 then (
      some (.inr (.inl (v1, v2))))
    else
      gd (vin v2 150) <|
      lt (((((10 : Int32) * v1) + (L.1 (a0 + 1) v2.toNatClampNeg)) - (48 : Int32))) fun w5 =>
      lt (v2 + (1 : Int32)) fun w6 =>
      some (.inl (w5, w6))
def fX5_tokenNumber (a0 : Nat) (L : HL) : Option (Int32) :=
  lt ((L.1 a0 6)) fun w1 =>
  lx (lp (fun s7 : Int32 × Int32 => fX5_tokenNumber_b7 a0 s7.1 s7.2 L) FU ((0 : Int32), w1)) (fun v => some v) fun s7 =>
  some s7.1
def fX5_parseItem_b69 (a0 : Nat) (v1 : Int32) (v4 : Int32) (v5 : Int32) (L : HL) : Option (Tn (Int32 × HL) (Int32 × HL)) :=
  if v4 ≤ v5 then (
    some (.inr (.inl (v5, L))))
  else
    if (L.1 a0 5) = (2 : Int32) then (
      gd (vin v1 24) <|
      bd (fX5_tokenNumber a0 L) fun z13 =>
      gd (vin v5 3) <|
      lt (wI L ((a0 + 3) + 1 + v1.toNatClampNeg) v5.toNatClampNeg z13) fun L15 =>
      bd (fX5_nextToken a0 L15) fun z16 =>
      lt (v5 + (1 : Int32)) fun w17 =>
      some (.inl (w17, z16)))
    else
      some (.inr (.inr ((0 : Int32), L)))
def fX5_parseItem_j42 (a0 : Nat) (v1 : Int32) (v2 : Int32) (s0 : Int32) (L : HL) : Option (Int32 × HL) :=
  if s0 = 0 then (
    some ((0 : Int32), L))
  else
    gd (vin v1 24) <|
    lt (wI L (a0 + 2) v1.toNatClampNeg v2) fun L7 =>
    bd (fX5_nextToken a0 L7) fun z8 =>
    bd (fX5_numbersOf v2) fun z9 =>
    lx (lp (fun s18 : Int32 × HL => fX5_parseItem_b69 a0 v1 z9 s18.1 s18.2) FU ((0 : Int32), z8)) (fun v => some v) fun s18 =>
    if (s18.2.1 a0 5) = (3 : Int32) then (
      bd (fX5_nextToken a0 s18.2) fun z20 =>
      some ((1 : Int32), z20))
    else
      some ((0 : Int32), s18.2)
def fX5_parseItem_j16 (a0 : Nat) (v1 : Int32) (s0 : Int32) (L : HL) : Option (Int32 × HL) :=
  if v1 = 0 then (
    if s0 = 0 then (
      fX5_parseItem_j42 a0 v1 s0 (1 : Int32) L)
    else
      fX5_parseItem_j42 a0 v1 s0 (0 : Int32) L)
  else
    if s0 ≤ 0 then (
      fX5_parseItem_j42 a0 v1 s0 (0 : Int32) L)
    else
      fX5_parseItem_j42 a0 v1 s0 (1 : Int32) L
def fX5_parseItem (a0 : Nat) (v1 : Int32) (L : HL) : Option (Int32 × HL) :=
  if (L.1 a0 5) = (1 : Int32) then (
    bd (fX5_wordKind a0 L) fun z2 =>
    fX5_parseItem_j16 a0 v1 z2 L)
  else
    fX5_parseItem_j16 a0 v1 (-1 : Int32) L
def fX5_parse_j38 (a0 : Nat) (v1 : Int32) (L : HL) : Option (Tn (Int32 × HL) (Int32 × HL)) :=
  bd (fX5_parseItem a0 v1 L) fun z7 =>
  if z7.1 = 0 then (
    some (.inr (.inr ((z7.2.1 a0 6), z7.2))))
  else
    lt (wI z7.2 a0 4 ((z7.2.1 a0 4) + (1 : Int32))) fun L9 =>
    lt (v1 + (1 : Int32)) fun w10 =>
    some (.inl (w10, L9))
def fX5_parse_b16 (a0 : Nat) (v1 : Int32) (L : HL) : Option (Tn (Int32 × HL) (Int32 × HL)) :=
  if (24 : Int32) ≤ v1 then (
    some (.inr (.inl (v1, L))))
  else
    if (L.1 a0 5) = 0 then (
      if (L.1 a0 4) ≤ 0 then (
        fX5_parse_j38 a0 v1 L)
      else
        some (.inr (.inr ((-1 : Int32), L))))
    else
      fX5_parse_j38 a0 v1 L
def fX5_parse (a0 : Nat) (L : HL) : Option (Int32 × HL) :=
  lt (wI L a0 4 (0 : Int32)) fun L1 =>
  lt (wI L1 a0 7 (0 : Int32)) fun L2 =>
  bd (fX5_nextToken a0 L2) fun z3 =>
  lx (lp (fun s11 : Int32 × HL => fX5_parse_b16 a0 s11.1 s11.2) FU ((0 : Int32), z3)) (fun v => some v) fun s11 =>
  if (s11.2.1 a0 5) = 0 then (
    some ((-1 : Int32), s11.2))
  else
    some ((s11.2.1 a0 6), s11.2)
def fX4_empty_b22 (a0 : Nat) (v1 : Int32) (L : HL) : Option (Tn (Int32 × HL) (HL)) :=
  if (5 : Int32) ≤ v1 then (
    some (.inr (.inl (v1, L))))
  else
    gd (vin v1 5) <|
    lt (wI L (a0 + 7) v1.toNatClampNeg (0 : Int32)) fun L7 =>
    lt (v1 + (1 : Int32)) fun w8 =>
    some (.inl (w8, L7))
def fX4_empty_b42 (a0 : Nat) (v1 : Int32) (L : HL) : Option (Tn (Int32 × HL) (HL)) :=
  if (4 : Int32) ≤ v1 then (
    some (.inr (.inl (v1, L))))
  else
    gd (vin v1 4) <|
    lt (wI L (a0 + 10) v1.toNatClampNeg (0 : Int32)) fun L12 =>
    lt (v1 + (1 : Int32)) fun w13 =>
    some (.inl (w13, L12))
def fX4_empty (a0 : Nat) (L : HL) : Option (HL) :=
  lt (wI L a0 0 (0 : Int32)) fun L1 =>
  lt (wI L1 a0 1 (0 : Int32)) fun L2 =>
  lt (wI L2 a0 2 (0 : Int32)) fun L3 =>
  lt (wI L3 a0 3 (0 : Int32)) fun L4 =>
  lx (lp (fun s9 : Int32 × HL => fX4_empty_b22 a0 s9.1 s9.2) FU ((0 : Int32), L4)) (fun v => some v) fun s9 =>
  lx (lp (fun s14 : Int32 × HL => fX4_empty_b42 a0 s14.1 s14.2) FU ((0 : Int32), s9.2)) (fun v => some v) fun s14 =>
  some s14.2
def fX4_addHouse (a0 : Nat) (v1 : Int32) (v2 : Int32) (v3 : Int32) (L : HL) : Option (Int32 × HL) :=
  if v1 < (1 : Int32) then (
    some ((-2 : Int32), L))
  else
    if (9 : Int32) < v1 then (
      some ((-2 : Int32), L))
    else
      if v2 < 0 then (
        some ((-2 : Int32), L))
      else
        if (99 : Int32) < v2 then (
          some ((-2 : Int32), L))
        else
          if v3 < 0 then (
            some ((-2 : Int32), L))
          else
            if v3 ≤ (99 : Int32) then (
              if (L.1 a0 0) < (5 : Int32) then (
                lt ((L.1 a0 0)) fun w8 =>
                gd (vin w8 5) <|
                lt (wI L (a0 + 1) w8.toNatClampNeg v1) fun L10 =>
                gd (vin w8 5) <|
                lt (wI L10 (a0 + 2) w8.toNatClampNeg v2) fun L12 =>
                gd (vin w8 5) <|
                lt (wI L12 (a0 + 3) w8.toNatClampNeg v3) fun L14 =>
                gd (vin w8 5) <|
                lt (wI L14 (a0 + 4) w8.toNatClampNeg (-1 : Int32)) fun L16 =>
                gd (vin w8 5) <|
                lt (wI L16 (a0 + 5) w8.toNatClampNeg (0 : Int32)) fun L18 =>
                gd (vin w8 5) <|
                lt (wI L18 (a0 + 6) w8.toNatClampNeg (0 : Int32)) fun L20 =>
                lt (wI L20 a0 1 ((L20.1 a0 1) ||| ((1 : Int32) <<< (w8 &&& 31)))) fun L21 =>
                lt (wI L21 a0 0 ((L21.1 a0 0) + (1 : Int32))) fun L22 =>
                some (w8, L22))
              else
                some ((-4 : Int32), L))
            else
              some ((-2 : Int32), L)
def fX4_setFrom (a0 : Nat) (v1 : Int32) (v2 : Int32) (L : HL) : Option (Int32 × HL) :=
  bd (fX4_has a0 v1 L) fun z1 =>
  if z1 = 0 then (
    some ((-2 : Int32), L))
  else
    if v2 < (-1 : Int32) then (
      some ((-2 : Int32), L))
    else
      if v2 < v1 then (
        gd (vin v1 5) <|
        lt ((L.1 (a0 + 4) v1.toNatClampNeg)) fun w6 =>
        gd (vin v1 5) <|
        lt (wI L (a0 + 4) v1.toNatClampNeg v2) fun L8 =>
        some (w6, L8))
      else
        some ((-2 : Int32), L)
def fX4_setWill (a0 : Nat) (v1 : Int32) (v2 : Int32) (L : HL) : Option (Int32 × HL) :=
  bd (fX4_has a0 v1 L) fun z1 =>
  if z1 = 0 then (
    some ((-2 : Int32), L))
  else
    if v2 < 0 then (
      some ((-2 : Int32), L))
    else
      if v2 < (6 : Int32) then (
        gd (vin v1 5) <|
        lt ((L.1 (a0 + 5) v1.toNatClampNeg)) fun w6 =>
        gd (vin v1 5) <|
        lt (wI L (a0 + 5) v1.toNatClampNeg v2) fun L8 =>
        some (w6, L8))
      else
        some ((-2 : Int32), L)
def fX4_hasTwo (a0 : Nat) (v1 : Int32) (v2 : Int32) (L : HL) : Option (Int32) :=
  bd (fX4_has a0 v1 L) fun z1 =>
  if z1 = 0 then (
    some (0 : Int32))
  else
    bd (fX4_has a0 v2 L) fun z3 =>
    if z3 = 0 then (
      some (0 : Int32))
    else
      if v1 = v2 then (
        some (0 : Int32))
      else
        some (1 : Int32)
def fX4_hasWall (a0 : Nat) (v1 : Int32) (v2 : Int32) (L : HL) : Option (Int32) :=
  bd (fX4_has a0 v1 L) fun z1 =>
  if z1 = 0 then (
    some (0 : Int32))
  else
    bd (fX4_has a0 v2 L) fun z3 =>
    if z3 = 0 then (
      some (0 : Int32))
    else
      gd (vin v1 5) <|
      if (((L.1 (a0 + 7) v1.toNatClampNeg) >>> (v2 &&& 31)) &&& (1 : Int32)) = (1 : Int32) then (
        some (1 : Int32))
      else
        some (0 : Int32)
def fX4_setWall (a0 : Nat) (v1 : Int32) (v2 : Int32) (v3 : Int32) (L : HL) : Option (Int32 × HL) :=
  bd (fX4_hasTwo a0 v1 v2 L) fun z1 =>
  if z1 = 0 then (
    some ((-2 : Int32), L))
  else
    bd (fX4_hasWall a0 v1 v2 L) fun z3 =>
    if z3 = v3 then (
      some ((-3 : Int32), L))
    else
      gd (vin v1 5) <|
      gd (vin v1 5) <|
      lt (wI L (a0 + 7) v1.toNatClampNeg ((L.1 (a0 + 7) v1.toNatClampNeg) ^^^ ((1 : Int32) <<< (v2 &&& 31)))) fun L7 =>
      gd (vin v2 5) <|
      gd (vin v2 5) <|
      lt (wI L7 (a0 + 7) v2.toNatClampNeg ((L7.1 (a0 + 7) v2.toNatClampNeg) ^^^ ((1 : Int32) <<< (v1 &&& 31)))) fun L10 =>
      some ((1 : Int32), L10)
def fX4_addOne_j41 (a0 : Nat) (v1 : Int32) (v2 : Int32) (L : HL) : Option (Int32 × HL) :=
  if (L.1 a0 2) < (6 : Int32) then (
    gd (vin (L.1 a0 2) 6) <|
    lt (wI L (a0 + 8) (L.1 a0 2).toNatClampNeg v1) fun L7 =>
    gd (vin (L7.1 a0 2) 6) <|
    lt (wI L7 (a0 + 9) (L7.1 a0 2).toNatClampNeg v2) fun L9 =>
    lt (wI L9 a0 2 ((L9.1 a0 2) + (1 : Int32))) fun L10 =>
    some (((L10.1 a0 2) - (1 : Int32)), L10))
  else
    some ((-4 : Int32), L)
def fX4_addOne_j25 (a0 : Nat) (v1 : Int32) (v2 : Int32) (L : HL) : Option (Int32 × HL) :=
  if v2 = (-1 : Int32) then (
    fX4_addOne_j41 a0 v1 v2 L)
  else
    bd (fX4_stands a0 v2 L) fun z11 =>
    if z11 = 0 then (
      some ((-3 : Int32), L))
    else
      fX4_addOne_j41 a0 v1 v2 L
def fX4_addOne (a0 : Nat) (v1 : Int32) (v2 : Int32) (L : HL) : Option (Int32 × HL) :=
  if v1 < 0 then (
    some ((-2 : Int32), L))
  else
    if (4 : Int32) ≤ v1 then (
      some ((-2 : Int32), L))
    else
      if v2 = (-1 : Int32) then (
        fX4_addOne_j25 a0 v1 v2 L)
      else
        bd (fX4_has a0 v2 L) fun z13 =>
        if z13 = 0 then (
          some ((-2 : Int32), L))
        else
          fX4_addOne_j25 a0 v1 v2 L
def fX4_hasFeud (a0 : Nat) (v1 : Int32) (v2 : Int32) (L : HL) : Option (Int32) :=
  if v1 < 0 then (
    some (0 : Int32))
  else
    if (4 : Int32) ≤ v1 then (
      some (0 : Int32))
    else
      if v2 < 0 then (
        some (0 : Int32))
      else
        if (4 : Int32) ≤ v2 then (
          some (0 : Int32))
        else
          gd (vin v1 4) <|
          if (((L.1 (a0 + 10) v1.toNatClampNeg) >>> (v2 &&& 31)) &&& (1 : Int32)) = (1 : Int32) then (
            some (1 : Int32))
          else
            some (0 : Int32)
def fX4_setFeud (a0 : Nat) (v1 : Int32) (v2 : Int32) (v3 : Int32) (L : HL) : Option (Int32 × HL) :=
  if v1 < 0 then (
    some ((-2 : Int32), L))
  else
    if (4 : Int32) ≤ v1 then (
      some ((-2 : Int32), L))
    else
      if v2 < 0 then (
        some ((-2 : Int32), L))
      else
        if (4 : Int32) ≤ v2 then (
          some ((-2 : Int32), L))
        else
          if v1 = v2 then (
            some ((-2 : Int32), L))
          else
            bd (fX4_hasFeud a0 v1 v2 L) fun z6 =>
            if z6 = v3 then (
              some ((-3 : Int32), L))
            else
              gd (vin v1 4) <|
              gd (vin v1 4) <|
              lt (wI L (a0 + 10) v1.toNatClampNeg ((L.1 (a0 + 10) v1.toNatClampNeg) ^^^ ((1 : Int32) <<< (v2 &&& 31)))) fun L10 =>
              gd (vin v2 4) <|
              gd (vin v2 4) <|
              lt (wI L10 (a0 + 10) v2.toNatClampNeg ((L10.1 (a0 + 10) v2.toNatClampNeg) ^^^ ((1 : Int32) <<< (v1 &&& 31)))) fun L13 =>
              some ((1 : Int32), L13)
def fX5_tellItem (a0 : Nat) (v1 : Int32) (v2 : Int32) (v3 : Int32) (v4 : Int32) (L : HL) : Option (Int32 × HL) :=
  if v1 = (1 : Int32) then (
    bd (fX4_addHouse a0 v2 v3 v4 L) fun z2 =>
    some (z2.1, z2.2))
  else
  if v1 = (2 : Int32) then (
    bd (fX4_setFrom a0 v2 v3 L) fun z4 =>
    some (z4.1, z4.2))
  else
  if v1 = (3 : Int32) then (
    bd (fX4_setWill a0 v2 v3 L) fun z6 =>
    some (z6.1, z6.2))
  else
  if v1 = (4 : Int32) then (
    bd (fX4_setWall a0 v2 v3 (1 : Int32) L) fun z8 =>
    some (z8.1, z8.2))
  else
  if v1 = (5 : Int32) then (
    bd (fX4_addOne a0 v2 v3 L) fun z10 =>
    some (z10.1, z10.2))
  else
  if v1 = (6 : Int32) then (
    bd (fX4_setFeud a0 v2 v3 (1 : Int32) L) fun z12 =>
    some (z12.1, z12.2))
  else
  some ((0 : Int32), L)
def fX5_tellTo_b6 (a0 : Nat) (a1 : Nat) (v2 : Int32) (L : HL) : Option (Tn (Int32 × HL) (Int32 × HL)) :=
  if (L.1 a0 4) ≤ v2 then (
    some (.inr (.inl (v2, L))))
  else
    if (24 : Int32) ≤ v2 then (
      some (.inr (.inl (v2, L))))
    else
      gd (vin v2 24) <|
      gd (vin v2 24) <|
      bd (fX5_tellItem a1 (L.1 (a0 + 2) v2.toNatClampNeg) (L.1 ((a0 + 3) + 1 + v2.toNatClampNeg) (0 : Int32).toNatClampNeg) (L.1 ((a0 + 3) + 1 + v2.toNatClampNeg) (1 : Int32).toNatClampNeg) (L.1 ((a0 + 3) + 1 + v2.toNatClampNeg) (2 : Int32).toNatClampNeg) L) fun z6 =>
      if (-1 : Int32) ≤ z6.1 then (
        lt (v2 + (1 : Int32)) fun w8 =>
        some (.inl (w8, z6.2)))
      else
        some (.inr (.inr (v2, z6.2)))
def fX5_tellTo (a0 : Nat) (a1 : Nat) (L : HL) : Option (Int32 × HL) :=
  bd (fX4_empty a1 L) fun z1 =>
  lx (lp (fun s9 : Int32 × HL => fX5_tellTo_b6 a0 a1 s9.1 s9.2) FU ((0 : Int32), z1)) (fun v => some v) fun s9 =>
  some ((-1 : Int32), s9.2)
def fJ9_max_7cf53 (v0 : Int32) (v1 : Int32) : Option (Int32) :=
  if v0 < v1 then (
    some v1)
  else
    some v0
def fX4_setMarks (a0 : Nat) (v1 : Int32) (v2 : Int32) (L : HL) : Option (Int32 × HL) :=
  bd (fX4_has a0 v1 L) fun z1 =>
  if z1 = 0 then (
    some ((-2 : Int32), L))
  else
    if v2 < 0 then (
      some ((-2 : Int32), L))
    else
      if v2 ≤ (255 : Int32) then (
        gd (vin v1 5) <|
        lt ((L.1 (a0 + 6) v1.toNatClampNeg)) fun w6 =>
        gd (vin v1 5) <|
        lt (wI L (a0 + 6) v1.toNatClampNeg v2) fun L8 =>
        some (w6, L8))
      else
        some ((-2 : Int32), L)
def fX4_mayWall (a0 : Nat) (v1 : Int32) (v2 : Int32) (L : HL) : Option (Int32) :=
  bd (fX4_stands a0 v1 L) fun z1 =>
  if z1 = 0 then (
    some (0 : Int32))
  else
    bd (fX4_stands a0 v2 L) fun z3 =>
    if z3 = 0 then (
      some (0 : Int32))
    else
      bd (fX4_hasWall a0 v1 v2 L) fun z5 =>
      if z5 = 0 then (
        some (1 : Int32))
      else
        some (0 : Int32)
def fX4_dwellers_b4 (a0 : Nat) (v1 : Int32) (v2 : Int32) (v3 : Int32) (L : HL) : Option (Tn (Int32 × Int32) (Int32)) :=
  if (L.1 a0 2) ≤ v3 then (
    some (.inr (.inl (v2, v3))))
  else
    gd (vin v3 6) <|
    if (L.1 (a0 + 9) v3.toNatClampNeg) = v1 then (
      lt (v2 + (1 : Int32)) fun w4 =>
      lt (v3 + (1 : Int32)) fun w5 =>
      some (.inl (w4, w5)))
    else
      lt (v3 + (1 : Int32)) fun w6 =>
      some (.inl (v2, w6))
def fX4_dwellers (a0 : Nat) (v1 : Int32) (L : HL) : Option (Int32) :=
  lx (lp (fun s7 : Int32 × Int32 => fX4_dwellers_b4 a0 v1 s7.1 s7.2 L) FU ((0 : Int32), (0 : Int32))) (fun v => some v) fun s7 =>
  some s7.1
def fX4_dwellerBits_b4 (a0 : Nat) (v1 : Int32) (v2 : Int32) (v3 : Int32) (L : HL) : Option (Tn (Int32 × Int32) (Int32)) :=
  if (L.1 a0 2) ≤ v3 then (
    some (.inr (.inl (v2, v3))))
  else
    gd (vin v3 6) <|
    if (L.1 (a0 + 9) v3.toNatClampNeg) = v1 then (
      lt ((v2 ||| ((1 : Int32) <<< (v3 &&& 31)))) fun w4 =>
      lt (v3 + (1 : Int32)) fun w5 =>
      some (.inl (w4, w5)))
    else
      lt (v3 + (1 : Int32)) fun w6 =>
      some (.inl (v2, w6))
def fX4_dwellerBits (a0 : Nat) (v1 : Int32) (L : HL) : Option (Int32) :=
  lx (lp (fun s7 : Int32 × Int32 => fX4_dwellerBits_b4 a0 v1 s7.1 s7.2 L) FU ((0 : Int32), (0 : Int32))) (fun v => some v) fun s7 =>
  some s7.1
def fX4_isOverfull (a0 : Nat) (v1 : Int32) (L : HL) : Option (Int32) :=
  bd (fX4_stands a0 v1 L) fun z1 =>
  if z1 = 0 then (
    some (0 : Int32))
  else
    bd (fX4_dwellers a0 v1 L) fun z3 =>
    gd (vin v1 5) <|
    if z3 ≤ (L.1 (a0 + 1) v1.toNatClampNeg) then (
      some (0 : Int32))
    else
      some (1 : Int32)
def fX4_firstOverfull_b2 (a0 : Nat) (v1 : Int32) (L : HL) : Option (Tn (Int32) (Int32)) :=
  if (L.1 a0 0) ≤ v1 then (
    some (.inr (.inl v1)))
  else
    bd (fX4_isOverfull a0 v1 L) fun z2 =>
    if z2 = 0 then (
      lt (v1 + (1 : Int32)) fun w4 =>
      some (.inl w4))
    else
      some (.inr (.inr v1))
def fX4_firstOverfull (a0 : Nat) (L : HL) : Option (Int32) :=
  lx (lp (fun s5 : Int32 => fX4_firstOverfull_b2 a0 s5 L) FU (0 : Int32)) (fun v => some v) fun s5 =>
  some (-1 : Int32)
def fX4_nthStanding_b4 (a0 : Nat) (v1 : Int32) (v2 : Int32) (v3 : Int32) (L : HL) : Option (Tn (Int32 × Int32) (Int32)) :=
  if (L.1 a0 0) ≤ v3 then (
    some (.inr (.inl (v2, v3))))
  else
    bd (fX4_stands a0 v3 L) fun z2 =>
    if z2 = 0 then (
      lt (v3 + (1 : Int32)) fun w4 =>
      some (.inl (v2, w4)))
    else
      if v2 = v1 then (
        some (.inr (.inr v3)))
      else
        lt (v2 + (1 : Int32)) fun w6 =>
        lt (v3 + (1 : Int32)) fun w7 =>
        some (.inl (w6, w7))
def fX4_nthStanding (a0 : Nat) (v1 : Int32) (L : HL) : Option (Int32) :=
  lx (lp (fun s8 : Int32 × Int32 => fX4_nthStanding_b4 a0 v1 s8.1 s8.2 L) FU ((0 : Int32), (0 : Int32))) (fun v => some v) fun s8 =>
  some (-1 : Int32)
def fX4_wallsInAll_b4 (a0 : Nat) (v1 : Int32) (v2 : Int32) (L : HL) : Option (Tn (Int32 × Int32) (Int32)) :=
  if (L.1 a0 0) ≤ v2 then (
    some (.inr (.inl (v1, v2))))
  else
    gd (vin v2 5) <|
    bd (fJ6_bitCount_0f7a4 (L.1 (a0 + 7) v2.toNatClampNeg)) fun z3 =>
    lt ((v1 + z3)) fun w4 =>
    lt (v2 + (1 : Int32)) fun w5 =>
    some (.inl (w4, w5))
def fX4_wallsInAll (a0 : Nat) (L : HL) : Option (Int32) :=
  lx (lp (fun s6 : Int32 × Int32 => fX4_wallsInAll_b4 a0 s6.1 s6.2 L) FU ((0 : Int32), (0 : Int32))) (fun v => some v) fun s6 =>
  some (s6.1 / (2 : Int32))
def fX4_feudsInAll_b4 (a0 : Nat) (v1 : Int32) (v2 : Int32) (L : HL) : Option (Tn (Int32 × Int32) (Int32)) :=
  if (4 : Int32) ≤ v2 then (
    some (.inr (.inl (v1, v2))))
  else
    gd (vin v2 4) <|
    bd (fJ6_bitCount_0f7a4 (L.1 (a0 + 10) v2.toNatClampNeg)) fun z3 =>
    lt ((v1 + z3)) fun w4 =>
    lt (v2 + (1 : Int32)) fun w5 =>
    some (.inl (w4, w5))
def fX4_feudsInAll (a0 : Nat) (L : HL) : Option (Int32) :=
  lx (lp (fun s6 : Int32 × Int32 => fX4_feudsInAll_b4 a0 s6.1 s6.2 L) FU ((0 : Int32), (0 : Int32))) (fun v => some v) fun s6 =>
  some (s6.1 / (2 : Int32))
def fX4_degreeOf (a0 : Nat) (v1 : Int32) (v2 : Int32) (L : HL) : Option (Int32 × HL) :=
  bd (fX4_has a0 v1 L) fun z1 =>
  if z1 = 0 then (
    some ((-1 : Int32), L))
  else
    bd (fX4_has a0 v2 L) fun z3 =>
    if z3 = 0 then (
      some ((-1 : Int32), L))
    else
      bd (fX4_measureSteps a0 v1 L) fun z5 =>
      gd (vin v2 5) <|
      some ((z5.1 (a0 + 11) v2.toNatClampNeg), z5)
def fX4_rankOf (a0 : Nat) (v1 : Int32) (v2 : Int32) (L : HL) : Option (Int32 × HL) :=
  bd (fX4_stands a0 v1 L) fun z1 =>
  if z1 = 0 then (
    some ((1000 : Int32), L))
  else
    bd (fX4_stands a0 v2 L) fun z3 =>
    if z3 = 0 then (
      some ((1000 : Int32), L))
    else
      bd (fX4_measureSteps a0 v1 L) fun z5 =>
      bd (fX4_measureDwellers a0 z5) fun z6 =>
      gd (vin v1 5) <|
      bd (fX4_measuredRank a0 (z6.1 (a0 + 5) v1.toNatClampNeg) v1 v2 z6) fun z8 =>
      some (z8, z6)
def fX4_heirOf (a0 : Nat) (v1 : Int32) (L : HL) : Option (Int32 × HL) :=
  bd (fX4_has a0 v1 L) fun z1 =>
  if z1 = 0 then (
    some ((-1 : Int32), L))
  else
    gd (vin v1 5) <|
    bd (fX4_heirBy a0 (L.1 (a0 + 5) v1.toNatClampNeg) v1 (0 : Int32) L) fun z4 =>
    some (z4.1, z4.2)
def fX4_nearestKin_j86 (a0 : Nat) (v1 : Int32) (v2 : Int32) (v3 : Int32) (v4 : Int32) (s0 : Int32) (L : HL) : Option (Tn (Int32 × Int32 × Int32) (Int32 × HL)) :=
  gd (vin v4 5) <|
  lt ((L.1 (a0 + 11) v4.toNatClampNeg)) fun w19 =>
  lt (v4 + (1 : Int32)) fun w20 =>
  some (.inl (w19, s0, w20))
def fX4_nearestKin_b22 (a0 : Nat) (v1 : Int32) (v2 : Int32) (v3 : Int32) (v4 : Int32) (L : HL) : Option (Tn (Int32 × Int32 × Int32) (Int32 × HL)) :=
  if (L.1 a0 0) ≤ v4 then (
    some (.inr (.inl (v2, v3, v4))))
  else
    if v4 = v1 then (
      lt (v4 + (1 : Int32)) fun w6 =>
      some (.inl (v2, v3, w6)))
    else
      bd (fX4_stands a0 v4 L) fun z7 =>
      if z7 = 0 then (
        lt (v4 + (1 : Int32)) fun w9 =>
        some (.inl (v2, v3, w9)))
      else
        gd (vin v4 5) <|
        if (L.1 (a0 + 11) v4.toNatClampNeg) = (-1 : Int32) then (
          lt (v4 + (1 : Int32)) fun w12 =>
          some (.inl (v2, v3, w12)))
        else
          gd (vin v4 5) <|
          if v2 < (L.1 (a0 + 11) v4.toNatClampNeg) then (
            lt (v4 + (1 : Int32)) fun w15 =>
            some (.inl (v2, v3, w15)))
          else
            gd (vin v4 5) <|
            if v2 ≤ (L.1 (a0 + 11) v4.toNatClampNeg) then (
              fX4_nearestKin_j86 a0 v1 v2 v3 v4 (v3 + (1 : Int32)) L)
            else
              fX4_nearestKin_j86 a0 v1 v2 v3 v4 (1 : Int32) L
def fX4_nearestKin (a0 : Nat) (v1 : Int32) (L : HL) : Option (Int32 × HL) :=
  bd (fX4_has a0 v1 L) fun z1 =>
  if z1 = 0 then (
    some ((0 : Int32), L))
  else
    bd (fX4_measureSteps a0 v1 L) fun z3 =>
    lx (lp (fun s21 : Int32 × Int32 × Int32 => fX4_nearestKin_b22 a0 v1 s21.1 s21.2.1 s21.2.2 z3) FU ((5 : Int32), (0 : Int32), (0 : Int32))) (fun v => some v) fun s21 =>
    some (s21.2.1, z3)
def fX4_begetters_b5 (a0 : Nat) (v1 : Int32) (v2 : Int32) (v3 : Int32) (v4 : Int32) (L : HL) : Option (Tn (Int32 × Int32) (Int32)) :=
  if v1 ≤ v4 then (
    some (.inr (.inl (v3, v4))))
  else
    bd (fX4_has a0 v1 L) fun z2 =>
    if z2 = 0 then (
      some (.inr (.inl (v3, v4))))
    else
      gd (vin v4 5) <|
      gd (vin v1 5) <|
      bd (fJ6_bitCount_0f7a4 ((L.1 (a0 + 6) v4.toNatClampNeg) ^^^ (L.1 (a0 + 6) v1.toNatClampNeg))) fun z6 =>
      if v2 < z6 then (
        lt (v4 + (1 : Int32)) fun w8 =>
        some (.inl (v3, w8)))
      else
        lt ((v3 ||| ((1 : Int32) <<< (v4 &&& 31)))) fun w9 =>
        lt (v4 + (1 : Int32)) fun w10 =>
        some (.inl (w9, w10))
def fX4_begetters (a0 : Nat) (v1 : Int32) (v2 : Int32) (L : HL) : Option (Int32) :=
  lx (lp (fun s11 : Int32 × Int32 => fX4_begetters_b5 a0 v1 v2 s11.1 s11.2 L) FU ((0 : Int32), (0 : Int32))) (fun v => some v) fun s11 =>
  some s11.1
def fX4_passYear_j48 (a0 : Nat) (v1 : Int32) (s1 : Int32) (s2 : Int32) (s3 : Int32) (L : HL) : Option (Tn (Int32 × HL) (HL)) :=
  gd (vin s1 5) <|
  lt (wI L (a0 + 3) s1.toNatClampNeg (s2 + s3)) fun L10 =>
  lt (v1 + (1 : Int32)) fun w11 =>
  some (.inl (w11, L10))
def fX4_passYear_b12 (a0 : Nat) (v1 : Int32) (L : HL) : Option (Tn (Int32 × HL) (HL)) :=
  if (L.1 a0 0) ≤ v1 then (
    some (.inr (.inl (v1, L))))
  else
    bd (fX4_stands a0 v1 L) fun z3 =>
    if z3 = 0 then (
      lt (v1 + (1 : Int32)) fun w5 =>
      some (.inl (w5, L)))
    else
      gd (vin v1 5) <|
      bd (fX4_isOverfull a0 v1 L) fun z7 =>
      if z7 = 0 then (
        fX4_passYear_j48 a0 v1 v1 (L.1 (a0 + 3) v1.toNatClampNeg) (1 : Int32) L)
      else
        fX4_passYear_j48 a0 v1 v1 (L.1 (a0 + 3) v1.toNatClampNeg) (2 : Int32) L
def fX4_passYear_b58 (a0 : Nat) (v1 : Int32) (L : HL) : Option (Tn (Int32 × HL) (HL)) :=
  if (L.1 a0 0) ≤ v1 then (
    some (.inr (.inl (v1, L))))
  else
    bd (fX4_stands a0 v1 L) fun z14 =>
    if z14 = 0 then (
      lt (v1 + (1 : Int32)) fun w16 =>
      some (.inl (w16, L)))
    else
      gd (vin v1 5) <|
      if (L.1 (a0 + 3) v1.toNatClampNeg) < (100 : Int32) then (
        lt (v1 + (1 : Int32)) fun w19 =>
        some (.inl (w19, L)))
      else
        bd (fX4_letFall a0 v1 L) fun z20 =>
        lt (v1 + (1 : Int32)) fun w21 =>
        some (.inl (w21, z20.2))
def fX4_passYear (a0 : Nat) (L : HL) : Option (HL) :=
  lt (wI L a0 3 ((L.1 a0 3) + (1 : Int32))) fun L1 =>
  lx (lp (fun s12 : Int32 × HL => fX4_passYear_b12 a0 s12.1 s12.2) FU ((0 : Int32), L1)) (fun v => some v) fun s12 =>
  lx (lp (fun s22 : Int32 × HL => fX4_passYear_b58 a0 s22.1 s22.2) FU ((0 : Int32), s12.2)) (fun v => some v) fun s22 =>
  some s22.2
def fX4_addTo_j108 (a0 : Nat) (v3 : Int64) (v5 : Int32) (s0 : Int64) (s1 : Int32) (L : HL) : Option (Tn (Int64 × Int32) (Int64)) :=
  lt ((s0 + s1.toInt64)) fun w14 =>
  gd (vin v5 5) <|
  lt ((((31 : Int64) * w14) + (L.1 (a0 + 6) v5.toNatClampNeg).toInt64)) fun w16 =>
  lt (v5 + (1 : Int32)) fun w17 =>
  some (.inl (w16, w17))
def fX4_addTo_b5 (a0 : Nat) (v3 : Int64) (v5 : Int32) (L : HL) : Option (Tn (Int64 × Int32) (Int64)) :=
  if (L.1 a0 0) ≤ v5 then (
    some (.inr (.inl (v3, v5))))
  else
    gd (vin v5 5) <|
    lt ((((31 : Int64) * v3) + (L.1 (a0 + 1) v5.toNatClampNeg).toInt64)) fun w3 =>
    gd (vin v5 5) <|
    lt ((((31 : Int64) * w3) + (L.1 (a0 + 2) v5.toNatClampNeg).toInt64)) fun w5 =>
    gd (vin v5 5) <|
    lt ((((31 : Int64) * w5) + (L.1 (a0 + 3) v5.toNatClampNeg).toInt64)) fun w7 =>
    gd (vin v5 5) <|
    lt ((((31 : Int64) * w7) + (L.1 (a0 + 4) v5.toNatClampNeg).toInt64)) fun w9 =>
    gd (vin v5 5) <|
    lt ((((31 : Int64) * w9) + (L.1 (a0 + 5) v5.toNatClampNeg).toInt64)) fun w11 =>
    bd (fX4_stands a0 v5 L) fun z12 =>
    if z12 = 0 then (
      fX4_addTo_j108 a0 w11 v5 ((31 : Int64) * w11) (0 : Int32) L)
    else
      fX4_addTo_j108 a0 w11 v5 ((31 : Int64) * w11) (1 : Int32) L
def fX4_addTo_j180 (a0 : Nat) (v3 : Int64) (v5 : Int32) (v6 : Int32) (s0 : Int64) (s1 : Int32) (L : HL) : Option (Tn (Int64 × Int32) (Int64)) :=
  lt ((s0 + s1.toInt64)) fun w24 =>
  lt (v6 + (1 : Int32)) fun w25 =>
  some (.inl (w24, w25))
def fX4_addTo_b150 (a0 : Nat) (v3 : Int64) (v5 : Int32) (v6 : Int32) (L : HL) : Option (Tn (Int64 × Int32) (Int64)) :=
  if (L.1 a0 0) ≤ v6 then (
    some (.inr (.inl (v3, v6))))
  else
    bd (fX4_hasWall a0 v5 v6 L) fun z22 =>
    if z22 = 0 then (
      fX4_addTo_j180 a0 v3 v5 v6 ((31 : Int64) * v3) (0 : Int32) L)
    else
      fX4_addTo_j180 a0 v3 v5 v6 ((31 : Int64) * v3) (1 : Int32) L
def fX4_addTo_b135 (a0 : Nat) (v3 : Int64) (v5 : Int32) (L : HL) : Option (Tn (Int64 × Int32) (Int64)) :=
  if (L.1 a0 0) ≤ v5 then (
    some (.inr (.inl (v3, v5))))
  else
    lt ((v5 + (1 : Int32))) fun w20 =>
    lx (lp (fun s26 : Int64 × Int32 => fX4_addTo_b150 a0 s26.1 v5 s26.2 L) FU (v3, w20)) (fun v => some (.inr (.inr v))) fun s26 =>
    lt (v5 + (1 : Int32)) fun w27 =>
    some (.inl (s26.1, w27))
def fX4_addTo_b198 (a0 : Nat) (v3 : Int64) (v5 : Int32) (L : HL) : Option (Tn (Int64 × Int32) (Int64)) :=
  if (L.1 a0 2) ≤ v5 then (
    some (.inr (.inl (v3, v5))))
  else
    gd (vin v5 6) <|
    lt ((((31 : Int64) * v3) + (L.1 (a0 + 8) v5.toNatClampNeg).toInt64)) fun w32 =>
    gd (vin v5 6) <|
    lt ((((31 : Int64) * w32) + (L.1 (a0 + 9) v5.toNatClampNeg).toInt64)) fun w34 =>
    lt (v5 + (1 : Int32)) fun w35 =>
    some (.inl (w34, w35))
def fX4_addTo_j285 (a0 : Nat) (v3 : Int64) (v5 : Int32) (v6 : Int32) (s0 : Int64) (s1 : Int32) (L : HL) : Option (Tn (Int64 × Int32) (Int64)) :=
  lt ((s0 + s1.toInt64)) fun w42 =>
  lt (v6 + (1 : Int32)) fun w43 =>
  some (.inl (w42, w43))
def fX4_addTo_b258 (a0 : Nat) (v3 : Int64) (v5 : Int32) (v6 : Int32) (L : HL) : Option (Tn (Int64 × Int32) (Int64)) :=
  if (4 : Int32) ≤ v6 then (
    some (.inr (.inl (v3, v6))))
  else
    bd (fX4_hasFeud a0 v5 v6 L) fun z40 =>
    if z40 = 0 then (
      fX4_addTo_j285 a0 v3 v5 v6 ((31 : Int64) * v3) (0 : Int32) L)
    else
      fX4_addTo_j285 a0 v3 v5 v6 ((31 : Int64) * v3) (1 : Int32) L
def fX4_addTo_b246 (a0 : Nat) (v3 : Int64) (v5 : Int32) (L : HL) : Option (Tn (Int64 × Int32) (Int64)) :=
  if (4 : Int32) ≤ v5 then (
    some (.inr (.inl (v3, v5))))
  else
    lt ((v5 + (1 : Int32))) fun w38 =>
    lx (lp (fun s44 : Int64 × Int32 => fX4_addTo_b258 a0 s44.1 v5 s44.2 L) FU (v3, w38)) (fun v => some (.inr (.inr v))) fun s44 =>
    lt (v5 + (1 : Int32)) fun w45 =>
    some (.inl (s44.1, w45))
def fX4_addTo (a0 : Nat) (v1 : Int64) (L : HL) : Option (Int64) :=
  lx (lp (fun s18 : Int64 × Int32 => fX4_addTo_b5 a0 s18.1 s18.2 L) FU (v1, (0 : Int32))) (fun v => some v) fun s18 =>
  lx (lp (fun s29 : Int64 × Int32 => fX4_addTo_b135 a0 s29.1 s29.2 L) FU (s18.1, (0 : Int32))) (fun v => some v) fun s29 =>
  lx (lp (fun s36 : Int64 × Int32 => fX4_addTo_b198 a0 s36.1 s36.2 L) FU (s29.1, (0 : Int32))) (fun v => some v) fun s36 =>
  lx (lp (fun s47 : Int64 × Int32 => fX4_addTo_b246 a0 s47.1 s47.2 L) FU (s36.1, (0 : Int32))) (fun v => some v) fun s47 =>
  some s47.1
def fX6_street (a0 : Nat) (L : HL) : Option (Int32 × HL) :=
  lt ((L.1 (a0 + 1) 0)) fun w1 =>
  bd (fX4_empty (a0 + 1) L) fun z2 =>
  bd (fX3_forget (a0 + 29) z2) fun z3 =>
  some (w1, z3)
def fX6_refused (a0 : Nat) (v1 : Int32) (v2 : Int32) (L : HL) : Option (Int32 × HL) :=
  if v1 = (-2 : Int32) then (
    lt (wI L a0 10 ((L.1 a0 10) + (1 : Int32))) fun L2 =>
    some (v2, L2))
  else
    if v1 = (-3 : Int32) then (
      lt (wI L a0 11 ((L.1 a0 11) + (1 : Int32))) fun L4 =>
      some (v2, L4))
    else
      if v1 = (-4 : Int32) then (
        lt (wI L a0 12 ((L.1 a0 12) + (1 : Int32))) fun L6 =>
        some (v2, L6))
      else
        some (v2, L)
def fX6_told (a0 : Nat) (v1 : Int32) (v2 : Int32) (L : HL) : Option (Int32 × HL) :=
  if v1 = (-2 : Int32) then (
    bd (fX6_refused a0 (-2 : Int32) v2 L) fun z2 =>
    some (z2.1, z2.2))
  else
    if (-1 : Int32) ≤ v1 then (
      bd (fX3_forget (a0 + 29) L) fun z4 =>
      some (v1, z4))
    else
      bd (fX6_refused a0 v1 v1 L) fun z5 =>
      some (z5.1, z5.2)
def fX6_house (a0 : Nat) (v1 : Int32) (v2 : Int32) (v3 : Int32) (L : HL) : Option (Int32 × HL) :=
  bd (fX4_addHouse (a0 + 1) v1 v2 v3 L) fun z1 =>
  bd (fX6_told a0 z1.1 (-2 : Int32) z1.2) fun z2 =>
  some (z2.1, z2.2)
def fX6_builtFrom (a0 : Nat) (v1 : Int32) (v2 : Int32) (L : HL) : Option (Int32 × HL) :=
  bd (fX4_setFrom (a0 + 1) v1 v2 L) fun z1 =>
  bd (fX6_told a0 z1.1 (-10 : Int32) z1.2) fun z2 =>
  some (z2.1, z2.2)
def fX6_will (a0 : Nat) (v1 : Int32) (v2 : Int32) (L : HL) : Option (Int32 × HL) :=
  bd (fX4_setWill (a0 + 1) v1 v2 L) fun z1 =>
  bd (fX6_told a0 z1.1 (-2 : Int32) z1.2) fun z2 =>
  some (z2.1, z2.2)
def fX6_wall (a0 : Nat) (v1 : Int32) (v2 : Int32) (v3 : Int32) (L : HL) : Option (Int32 × HL) :=
  bd (fX4_setWall (a0 + 1) v1 v2 v3 L) fun z1 =>
  bd (fX6_told a0 z1.1 (-2 : Int32) z1.2) fun z2 =>
  some (z2.1, z2.2)
def fX6_one (a0 : Nat) (v1 : Int32) (v2 : Int32) (L : HL) : Option (Int32 × HL) :=
  bd (fX4_addOne (a0 + 1) v1 v2 L) fun z1 =>
  bd (fX6_told a0 z1.1 (-2 : Int32) z1.2) fun z2 =>
  some (z2.1, z2.2)
def fX6_feud (a0 : Nat) (v1 : Int32) (v2 : Int32) (v3 : Int32) (L : HL) : Option (Int32 × HL) :=
  bd (fX4_setFeud (a0 + 1) v1 v2 v3 L) fun z1 =>
  bd (fX6_told a0 z1.1 (-2 : Int32) z1.2) fun z2 =>
  some (z2.1, z2.2)
def fX6_mark (a0 : Nat) (v1 : Int32) (v2 : Int32) (L : HL) : Option (Int32 × HL) :=
  bd (fX4_setMarks (a0 + 1) v1 v2 L) fun z1 =>
  bd (fX6_told a0 z1.1 (-2 : Int32) z1.2) fun z2 =>
  some (z2.1, z2.2)
def fX6_type_j10 (a0 : Nat) (L : HL) : Option (Int32 × HL) :=
  bd (fX6_refused a0 (-2 : Int32) (-2 : Int32) L) fun z2 =>
  some (z2.1, z2.2)
def fX6_type (a0 : Nat) (v1 : Int32) (L : HL) : Option (Int32 × HL) :=
  if v1 < 0 then (
    fX6_type_j10 a0 L)
  else
    if v1 ≤ (127 : Int32) then (
      if (L.1 (a0 + 122) 1) < (150 : Int32) then (
        bd (fX5_append (a0 + 122) v1 L) fun z5 =>
        some (z5.1, z5.2))
      else
        bd (fX6_refused a0 (-4 : Int32) (-4 : Int32) L) fun z6 =>
        some (z6.1, z6.2))
    else
      fX6_type_j10 a0 L
def fX6_clear (a0 : Nat) (L : HL) : Option (Int32 × HL) :=
  lt ((L.1 (a0 + 122) 1)) fun w1 =>
  lt (wI L (a0 + 122) 1 (0 : Int32)) fun L2 =>
  some (w1, L2)
def fX6_read (a0 : Nat) (L : HL) : Option (Int32 × HL) :=
  bd (fX5_parse (a0 + 122) L) fun z1 =>
  if z1.1 = (-1 : Int32) then (
    bd (fX5_tellTo (a0 + 122) (a0 + 15) z1.2) fun z3 =>
    if z3.1 = (-1 : Int32) then (
      bd (fX4_takeFrom (a0 + 1) (a0 + 15) z3.2) fun z5 =>
      bd (fX3_forget (a0 + 29) z5) fun z6 =>
      some ((z6.1 (a0 + 122) 4), z6))
    else
      some (((-1000 : Int32) - z3.1), z3.2))
  else
    some (((-10 : Int32) - z1.1), z1.2)
def fX6_fall (a0 : Nat) (v1 : Int32) (L : HL) : Option (Int32 × HL) :=
  bd (fX4_has (a0 + 1) v1 L) fun z1 =>
  if z1 = 0 then (
    bd (fX6_refused a0 (-2 : Int32) (-10 : Int32) L) fun z3 =>
    some (z3.1, z3.2))
  else
    bd (fX4_stands (a0 + 1) v1 L) fun z4 =>
    if z4 = 0 then (
      bd (fX6_refused a0 (-3 : Int32) (-20 : Int32) L) fun z6 =>
      some (z6.1, z6.2))
    else
      bd (fX3_keep (a0 + 29) (a0 + 1) L) fun z7 =>
      bd (fX4_letFall (a0 + 1) v1 z7) fun z8 =>
      some (z8.1, z8.2)
def fX6_year_j11 (a0 : Nat) (L : HL) : Option (Int32 × HL) :=
  bd (fX6_refused a0 (-2 : Int32) (-2 : Int32) L) fun z2 =>
  some (z2.1, z2.2)
def fX6_year_b22 (a0 : Nat) (v1 : Int32) (v2 : Int32) (L : HL) : Option (Tn (Int32 × HL) (Int32 × HL)) :=
  if v1 ≤ v2 then (
    some (.inr (.inl (v2, L))))
  else
    bd (fX3_keep (a0 + 29) (a0 + 1) L) fun z5 =>
    bd (fX4_passYear (a0 + 1) z5) fun z6 =>
    lt (v2 + (1 : Int32)) fun w7 =>
    some (.inl (w7, z6))
def fX6_year (a0 : Nat) (v1 : Int32) (L : HL) : Option (Int32 × HL) :=
  if v1 < (1 : Int32) then (
    fX6_year_j11 a0 L)
  else
    if v1 ≤ (20 : Int32) then (
      lx (lp (fun s8 : Int32 × HL => fX6_year_b22 a0 v1 s8.1 s8.2) FU ((0 : Int32), L)) (fun v => some v) fun s8 =>
      bd (fJ6_bitCount_0f7a4 (s8.2.1 (a0 + 1) 1)) fun z9 =>
      some (z9, s8.2))
    else
      fX6_year_j11 a0 L
def fX6_move_j27 (a0 : Nat) (L : HL) : Option (Int32 × HL) :=
  bd (fX6_refused a0 (-2 : Int32) (-10 : Int32) L) fun z3 =>
  some (z3.1, z3.2)
def fX6_move_j65 (a0 : Nat) (L : HL) : Option (Int32 × HL) :=
  bd (fX6_refused a0 (-3 : Int32) (-20 : Int32) L) fun z8 =>
  some (z8.1, z8.2)
def fX6_move_j52 (a0 : Nat) (v1 : Int32) (v2 : Int32) (L : HL) : Option (Int32 × HL) :=
  gd (vin v1 6) <|
  if (L.1 ((a0 + 1) + 9) v1.toNatClampNeg) = v2 then (
    fX6_move_j65 a0 L)
  else
    gd (vin v1 6) <|
    lt ((L.1 ((a0 + 1) + 9) v1.toNatClampNeg)) fun w10 =>
    bd (fX3_keep (a0 + 29) (a0 + 1) L) fun z11 =>
    gd (vin v1 6) <|
    lt (wI z11 ((a0 + 1) + 9) v1.toNatClampNeg v2) fun L13 =>
    some (w10, L13)
def fX6_move_j36 (a0 : Nat) (v1 : Int32) (v2 : Int32) (L : HL) : Option (Int32 × HL) :=
  if v2 = (-1 : Int32) then (
    fX6_move_j52 a0 v1 v2 L)
  else
    bd (fX4_stands (a0 + 1) v2 L) fun z14 =>
    if z14 = 0 then (
      fX6_move_j65 a0 L)
    else
      fX6_move_j52 a0 v1 v2 L
def fX6_move (a0 : Nat) (v1 : Int32) (v2 : Int32) (L : HL) : Option (Int32 × HL) :=
  bd (fX4_hasOne (a0 + 1) v1 L) fun z1 =>
  if z1 = 0 then (
    fX6_move_j27 a0 L)
  else
    if v2 = (-1 : Int32) then (
      fX6_move_j36 a0 v1 v2 L)
    else
      bd (fX4_has (a0 + 1) v2 L) fun z16 =>
      if z16 = 0 then (
        fX6_move_j27 a0 L)
      else
        fX6_move_j36 a0 v1 v2 L
def fX6_undo (a0 : Nat) (L : HL) : Option (Int32 × HL) :=
  if (L.1 (a0 + 29) 0) = 0 then (
    bd (fX6_refused a0 (-3 : Int32) (-3 : Int32) L) fun z2 =>
    some (z2.1, z2.2))
  else
    bd (fX3_bringBack (a0 + 29) (a0 + 1) L) fun z3 =>
    some ((1 : Int32), z3)
def fX6_of (a0 : Nat) (v1 : Int32) (v2 : Int32) (L : HL) : Option (Int32 × HL) :=
  bd (fX4_has (a0 + 1) v1 L) fun z1 =>
  if z1 = 0 then (
    bd (fX6_refused a0 (-2 : Int32) (-10 : Int32) L) fun z3 =>
    some (z3.1, z3.2))
  else
    if v2 = (0 : Int32) then (
      gd (vin v1 5) <|
      some ((L.1 ((a0 + 1) + 1) v1.toNatClampNeg), L))
    else
    if v2 = (1 : Int32) then (
      gd (vin v1 5) <|
      some ((L.1 ((a0 + 1) + 2) v1.toNatClampNeg), L))
    else
    if v2 = (2 : Int32) then (
      gd (vin v1 5) <|
      some ((L.1 ((a0 + 1) + 3) v1.toNatClampNeg), L))
    else
    if v2 = (3 : Int32) then (
      gd (vin v1 5) <|
      some ((L.1 ((a0 + 1) + 4) v1.toNatClampNeg), L))
    else
    if v2 = (4 : Int32) then (
      gd (vin v1 5) <|
      some ((L.1 ((a0 + 1) + 5) v1.toNatClampNeg), L))
    else
    if v2 = (5 : Int32) then (
      bd (fX4_stands (a0 + 1) v1 L) fun z15 =>
      if z15 = 0 then (
        some ((0 : Int32), L))
      else
        some ((1 : Int32), L))
    else
    if v2 = (6 : Int32) then (
      bd (fX4_dwellerBits (a0 + 1) v1 L) fun z18 =>
      some (z18, L))
    else
    if v2 = (7 : Int32) then (
      gd (vin v1 5) <|
      some ((L.1 ((a0 + 1) + 6) v1.toNatClampNeg), L))
    else
    bd (fX6_refused a0 (-2 : Int32) (-10 : Int32) L) fun z21 =>
    some (z21.1, z21.2)
def fX6_who_j20 (a0 : Nat) (L : HL) : Option (Int32 × HL) :=
  bd (fX6_refused a0 (-2 : Int32) (-10 : Int32) L) fun z3 =>
  some (z3.1, z3.2)
def fX6_who (a0 : Nat) (v1 : Int32) (v2 : Int32) (L : HL) : Option (Int32 × HL) :=
  bd (fX4_hasOne (a0 + 1) v1 L) fun z1 =>
  if z1 = 0 then (
    fX6_who_j20 a0 L)
  else
    if v2 < 0 then (
      fX6_who_j20 a0 L)
    else
      if v2 ≤ (1 : Int32) then (
        if v2 = 0 then (
          gd (vin v1 6) <|
          some ((L.1 ((a0 + 1) + 8) v1.toNatClampNeg), L))
        else
          gd (vin v1 6) <|
          some ((L.1 ((a0 + 1) + 9) v1.toNatClampNeg), L))
      else
        fX6_who_j20 a0 L
def fX6_degree_j22 (a0 : Nat) (L : HL) : Option (Int32 × HL) :=
  bd (fX6_refused a0 (-2 : Int32) (-2 : Int32) L) fun z3 =>
  some (z3.1, z3.2)
def fX6_degree (a0 : Nat) (v1 : Int32) (v2 : Int32) (L : HL) : Option (Int32 × HL) :=
  bd (fX4_has (a0 + 1) v1 L) fun z1 =>
  if z1 = 0 then (
    fX6_degree_j22 a0 L)
  else
    bd (fX4_has (a0 + 1) v2 L) fun z4 =>
    if z4 = 0 then (
      fX6_degree_j22 a0 L)
    else
      bd (fX4_degreeOf (a0 + 1) v1 v2 L) fun z6 =>
      some (z6.1, z6.2)
def fX6_rank (a0 : Nat) (v1 : Int32) (v2 : Int32) (L : HL) : Option (Int32 × HL) :=
  bd (fX4_hasTwo (a0 + 1) v1 v2 L) fun z1 =>
  if z1 = 0 then (
    bd (fX6_refused a0 (-2 : Int32) (-1000 : Int32) L) fun z3 =>
    some (z3.1, z3.2))
  else
    bd (fX4_rankOf (a0 + 1) v1 v2 L) fun z4 =>
    some (z4.1, z4.2)
def fX6_heir (a0 : Nat) (v1 : Int32) (L : HL) : Option (Int32 × HL) :=
  bd (fX4_has (a0 + 1) v1 L) fun z1 =>
  if z1 = 0 then (
    bd (fX6_refused a0 (-2 : Int32) (-10 : Int32) L) fun z3 =>
    some (z3.1, z3.2))
  else
    bd (fX4_heirOf (a0 + 1) v1 L) fun z4 =>
    some (z4.1, z4.2)
def fX6_wills_b26 (a0 : Nat) (v1 : Int32) (v2 : Int32) (v3 : Int32) (v4 : Int32) (L : HL) : Option (Tn (Int32 × Int32 × HL) (Int32 × HL)) :=
  if (6 : Int32) ≤ v4 then (
    some (.inr (.inl (v3, v4, L))))
  else
    bd (fX4_heirBy (a0 + 1) v4 v1 (0 : Int32) L) fun z5 =>
    if z5.1 = v2 then (
      lt ((v3 ||| ((1 : Int32) <<< (v4 &&& 31)))) fun w7 =>
      lt (v4 + (1 : Int32)) fun w8 =>
      some (.inl (w7, w8, z5.2)))
    else
      lt (v4 + (1 : Int32)) fun w9 =>
      some (.inl (v3, w9, z5.2))
def fX6_wills (a0 : Nat) (v1 : Int32) (v2 : Int32) (L : HL) : Option (Int32 × HL) :=
  bd (fX4_hasTwo (a0 + 1) v1 v2 L) fun z1 =>
  if z1 = 0 then (
    bd (fX6_refused a0 (-2 : Int32) (-2 : Int32) L) fun z3 =>
    some (z3.1, z3.2))
  else
    lx (lp (fun s10 : Int32 × Int32 × HL => fX6_wills_b26 a0 v1 v2 s10.1 s10.2.1 s10.2.2) FU ((0 : Int32), (0 : Int32), L)) (fun v => some v) fun s10 =>
    some (s10.1, s10.2.2)
def fX6_heirByWall (a0 : Nat) (v1 : Int32) (v2 : Int32) (v3 : Int32) (L : HL) : Option (Int32 × HL) :=
  bd (fX4_setWall (a0 + 15) v2 v3 (1 : Int32) L) fun z1 =>
  bd (fX4_heirOf (a0 + 15) v1 z1.2) fun z2 =>
  bd (fX4_setWall (a0 + 15) v2 v3 (0 : Int32) z2.2) fun z3 =>
  some (z2.1, z3.2)
def fX6_buildFor_b65 (a0 : Nat) (v1 : Int32) (v2 : Int32) (v3 : Int32) (v4 : Int32) (L : HL) : Option (Tn (Int32 × HL) (Int32 × HL)) :=
  if (L.1 (a0 + 15) 0) ≤ v4 then (
    some (.inr (.inl (v4, L))))
  else
    bd (fX4_mayWall (a0 + 15) v3 v4 L) fun z10 =>
    if z10 = 0 then (
      lt (v4 + (1 : Int32)) fun w12 =>
      some (.inl (w12, L)))
    else
      bd (fX6_heirByWall a0 v1 v3 v4 L) fun z13 =>
      if z13.1 = v2 then (
        some (.inr (.inr ((((10 : Int32) * v3) + v4), z13.2))))
      else
        lt (v4 + (1 : Int32)) fun w15 =>
        some (.inl (w15, z13.2))
def fX6_buildFor_b49 (a0 : Nat) (v1 : Int32) (v2 : Int32) (v3 : Int32) (L : HL) : Option (Tn (Int32 × HL) (Int32 × HL)) :=
  if (L.1 (a0 + 15) 0) ≤ v3 then (
    some (.inr (.inl (v3, L))))
  else
    lt ((v3 + (1 : Int32))) fun w8 =>
    lx (lp (fun s16 : Int32 × HL => fX6_buildFor_b65 a0 v1 v2 v3 s16.1 s16.2) FU (w8, L)) (fun v => some (.inr (.inr v))) fun s16 =>
    lt (v3 + (1 : Int32)) fun w17 =>
    some (.inl (w17, s16.2))
def fX6_buildFor (a0 : Nat) (v1 : Int32) (v2 : Int32) (L : HL) : Option (Int32 × HL) :=
  bd (fX4_hasTwo (a0 + 1) v1 v2 L) fun z1 =>
  if z1 = 0 then (
    bd (fX6_refused a0 (-2 : Int32) (-2 : Int32) L) fun z3 =>
    some (z3.1, z3.2))
  else
    bd (fX4_heirOf (a0 + 1) v1 L) fun z4 =>
    if z4.1 = v2 then (
      some ((99 : Int32), z4.2))
    else
      bd (fX4_takeFrom (a0 + 15) (a0 + 1) z4.2) fun z6 =>
      lx (lp (fun s19 : Int32 × HL => fX6_buildFor_b49 a0 v1 v2 s19.1 s19.2) FU ((0 : Int32), z6)) (fun v => some v) fun s19 =>
      some ((-1 : Int32), s19.2)
def fX6_adopts_b58 (a0 : Nat) (v1 : Int32) (v2 : Int32) (v3 : Int32) (v4 : Int32) (L : HL) : Option (Tn (Int32 × Int32 × HL) (Int32 × HL)) :=
  if (L.1 (a0 + 1) 0) ≤ v4 then (
    some (.inr (.inl (v3, v4, L))))
  else
    bd (fX6_heirByWall a0 v4 v1 v2 L) fun z9 =>
    bd (fX4_heirOf (a0 + 1) v4 z9.2) fun z10 =>
    if z9.1 = z10.1 then (
      lt (v4 + (1 : Int32)) fun w12 =>
      some (.inl (v3, w12, z10.2)))
    else
      lt (v3 + (1 : Int32)) fun w13 =>
      lt (v4 + (1 : Int32)) fun w14 =>
      some (.inl (w13, w14, z10.2))
def fX6_adopts (a0 : Nat) (v1 : Int32) (v2 : Int32) (L : HL) : Option (Int32 × HL) :=
  bd (fX4_hasTwo (a0 + 1) v1 v2 L) fun z1 =>
  if z1 = 0 then (
    bd (fX6_refused a0 (-2 : Int32) (-2 : Int32) L) fun z3 =>
    some (z3.1, z3.2))
  else
    bd (fX4_mayWall (a0 + 1) v1 v2 L) fun z4 =>
    if z4 = 0 then (
      bd (fX6_refused a0 (-3 : Int32) (-3 : Int32) L) fun z6 =>
      some (z6.1, z6.2))
    else
      bd (fX4_takeFrom (a0 + 15) (a0 + 1) L) fun z7 =>
      lx (lp (fun s15 : Int32 × Int32 × HL => fX6_adopts_b58 a0 v1 v2 s15.1 s15.2.1 s15.2.2) FU ((0 : Int32), (0 : Int32), z7)) (fun v => some v) fun s15 =>
      some (s15.1, s15.2.2)
def fX6_lookAhead_b13 (a0 : Nat) (v1 : Int32) (v2 : Int32) (L : HL) : Option (Tn (Int32 × HL) (HL)) :=
  if v1 ≤ v2 then (
    some (.inr (.inl (v2, L))))
  else
    bd (fX4_passYear (a0 + 15) L) fun z3 =>
    lt (v2 + (1 : Int32)) fun w4 =>
    some (.inl (w4, z3))
def fX6_lookAhead (a0 : Nat) (v1 : Int32) (L : HL) : Option (HL) :=
  bd (fX4_takeFrom (a0 + 15) (a0 + 1) L) fun z1 =>
  lx (lp (fun s5 : Int32 × HL => fX6_lookAhead_b13 a0 v1 s5.1 s5.2) FU ((0 : Int32), z1)) (fun v => some v) fun s5 =>
  some s5.2
def fX6_lives_j21 (a0 : Nat) (L : HL) : Option (Int32 × HL) :=
  bd (fX6_refused a0 (-2 : Int32) (-10 : Int32) L) fun z3 =>
  some (z3.1, z3.2)
def fX6_lives (a0 : Nat) (v1 : Int32) (v2 : Int32) (L : HL) : Option (Int32 × HL) :=
  bd (fX4_hasOne (a0 + 1) v1 L) fun z1 =>
  if z1 = 0 then (
    fX6_lives_j21 a0 L)
  else
    if v2 < 0 then (
      fX6_lives_j21 a0 L)
    else
      if v2 ≤ (60 : Int32) then (
        bd (fX6_lookAhead a0 v2 L) fun z6 =>
        gd (vin v1 6) <|
        some ((z6.1 ((a0 + 15) + 9) v1.toNatClampNeg), z6))
      else
        fX6_lives_j21 a0 L
def fX6_stand_j10 (a0 : Nat) (L : HL) : Option (Int32 × HL) :=
  bd (fX6_refused a0 (-2 : Int32) (-2 : Int32) L) fun z2 =>
  some (z2.1, z2.2)
def fX6_stand (a0 : Nat) (v1 : Int32) (L : HL) : Option (Int32 × HL) :=
  if v1 < 0 then (
    fX6_stand_j10 a0 L)
  else
    if v1 ≤ (60 : Int32) then (
      bd (fX6_lookAhead a0 v1 L) fun z4 =>
      some ((z4.1 (a0 + 15) 1), z4))
    else
      fX6_stand_j10 a0 L
def fX6_overfull_j9 (a0 : Nat) (L : HL) : Option (Int32 × HL) :=
  bd (fX6_refused a0 (-2 : Int32) (-10 : Int32) L) fun z2 =>
  some (z2.1, z2.2)
def fX6_overfull_b31 (a0 : Nat) (v1 : Int32) (v2 : Int32) (L : HL) : Option (Tn (Int32 × HL) (Int32 × HL)) :=
  if (60 : Int32) < v2 then (
    some (.inr (.inl (v2, L))))
  else
    bd (fX4_firstOverfull (a0 + 15) L) fun z6 =>
    if z6 = (-1 : Int32) then (
      bd (fX4_passYear (a0 + 15) L) fun z8 =>
      lt (v2 + (1 : Int32)) fun w9 =>
      some (.inl (w9, z8)))
    else
      if v1 = 0 then (
        some (.inr (.inr (v2, L))))
      else
        some (.inr (.inr (z6, L)))
def fX6_overfull (a0 : Nat) (v1 : Int32) (L : HL) : Option (Int32 × HL) :=
  if v1 < 0 then (
    fX6_overfull_j9 a0 L)
  else
    if v1 ≤ (1 : Int32) then (
      bd (fX4_takeFrom (a0 + 15) (a0 + 1) L) fun z4 =>
      lx (lp (fun s11 : Int32 × HL => fX6_overfull_b31 a0 v1 s11.1 s11.2) FU ((0 : Int32), z4)) (fun v => some v) fun s11 =>
      some ((-1 : Int32), s11.2))
    else
      fX6_overfull_j9 a0 L
def fX6_orders_j59 (a0 : Nat) (L : HL) : Option (Int32 × HL) :=
  bd (fX6_refused a0 (-2 : Int32) (-10 : Int32) L) fun z5 =>
  some (z5.1, z5.2)
def fX6_orders_j53 (a0 : Nat) (v1 : Int32) (v2 : Int32) (v3 : Int32) (v4 : Int32) (L : HL) : Option (Int32 × HL) :=
  if (-1 : Int32) ≤ v4 then (
    bd (fX2_seek (a0 + 150) (a0 + 1) v1 v2 v3 L) fun z8 =>
    if v4 = (-1 : Int32) then (
      some ((z8.1 (a0 + 150) 5), z8))
    else
      if (z8.1 (a0 + 150) 5) = 0 then (
        some ((-1 : Int32), z8))
      else
        bd (fJ6_bitCount_0f7a4 v1) fun z11 =>
        if z11 ≤ v4 then (
          some ((-5 : Int32), z8))
        else
          if v4 < (5 : Int32) then (
            gd (vin v4 5) <|
            some ((z8.1 ((a0 + 150) + 23) v4.toNatClampNeg), z8))
          else
            some ((-5 : Int32), z8))
  else
    fX6_orders_j59 a0 L
def fX6_orders_j30 (a0 : Nat) (v1 : Int32) (v2 : Int32) (v3 : Int32) (v4 : Int32) (s0 : Int32) (L : HL) : Option (Int32 × HL) :=
  if s0 = 0 then (
    fX6_orders_j59 a0 L)
  else
    if v3 = (-1 : Int32) then (
      fX6_orders_j53 a0 v1 v2 v3 v4 L)
    else
      bd (fX4_has (a0 + 1) v3 L) fun z15 =>
      if z15 = 0 then (
        fX6_orders_j59 a0 L)
      else
        fX6_orders_j53 a0 v1 v2 v3 v4 L
def fX6_orders_j29 (a0 : Nat) (v1 : Int32) (v2 : Int32) (v3 : Int32) (v4 : Int32) (L : HL) : Option (Int32 × HL) :=
  fX6_orders_j30 a0 v1 v2 v3 v4 (0 : Int32) L
def fX6_orders (a0 : Nat) (v1 : Int32) (v2 : Int32) (v3 : Int32) (v4 : Int32) (L : HL) : Option (Int32 × HL) :=
  if (v1 &&& ((L.1 (a0 + 1) 1) ^^^ (-1 : Int32))) = 0 then (
    bd (fX4_hasOne (a0 + 1) v2 L) fun z2 =>
    if z2 = 0 then (
      fX6_orders_j29 a0 v1 v2 v3 v4 L)
    else
      fX6_orders_j30 a0 v1 v2 v3 v4 (1 : Int32) L)
  else
    fX6_orders_j29 a0 v1 v2 v3 v4 L
def fX6_safe_j56 (a0 : Nat) (v1 : Int32) (v2 : Int32) (v3 : Int32) (L : HL) : Option (Tn (Int32 × Int32 × HL) (Int32 × HL)) :=
  lt ((v2 ||| ((1 : Int32) <<< (v3 &&& 31)))) fun w6 =>
  lt (v3 + (1 : Int32)) fun w7 =>
  some (.inl (w6, w7, L))
def fX6_safe_b24 (a0 : Nat) (v1 : Int32) (v2 : Int32) (v3 : Int32) (L : HL) : Option (Tn (Int32 × Int32 × HL) (Int32 × HL)) :=
  if (6 : Int32) ≤ v3 then (
    some (.inr (.inl (v2, v3, L))))
  else
    if (L.1 (a0 + 1) 1) = 0 then (
      fX6_safe_j56 a0 v1 v2 v3 L)
    else
      bd (fX2_isSafe (a0 + 150) (a0 + 1) v3 v1 L) fun z8 =>
      if z8.1 = 0 then (
        lt (v3 + (1 : Int32)) fun w10 =>
        some (.inl (v2, w10, z8.2)))
      else
        fX6_safe_j56 a0 v1 v2 v3 z8.2
def fX6_safe (a0 : Nat) (v1 : Int32) (L : HL) : Option (Int32 × HL) :=
  bd (fX4_hasOne (a0 + 1) v1 L) fun z1 =>
  if z1 = 0 then (
    bd (fX6_refused a0 (-2 : Int32) (-2 : Int32) L) fun z3 =>
    some (z3.1, z3.2))
  else
    lx (lp (fun s11 : Int32 × Int32 × HL => fX6_safe_b24 a0 v1 s11.1 s11.2.1 s11.2.2) FU ((0 : Int32), (0 : Int32), L)) (fun v => some v) fun s11 =>
    some (s11.1, s11.2.2)
def fX6_moves (a0 : Nat) (v1 : Int32) (L : HL) : Option (Int32 × HL) :=
  if (-1 : Int32) ≤ v1 then (
    bd (fX1_seek (a0 + 174) (a0 + 1) L) fun z2 =>
    if z2.1 = (-1 : Int32) then (
      some (z2.1, z2.2))
    else
      if v1 = (-1 : Int32) then (
        some (z2.1, z2.2))
      else
        if (z2.2.1 (a0 + 1) 2) ≤ v1 then (
          some ((-5 : Int32), z2.2))
        else
          if v1 < (6 : Int32) then (
            gd (vin v1 6) <|
            some ((z2.2.1 ((a0 + 174) + 3) v1.toNatClampNeg), z2.2))
          else
            some ((-5 : Int32), z2.2))
  else
    bd (fX6_refused a0 (-2 : Int32) (-10 : Int32) L) fun z8 =>
    some (z8.1, z8.2)
def fX6_lowerFraction_j52 (a0 : Nat) (v1 : Int64) (L : HL) : Option (Tn (Int64 × HL) (HL)) :=
  lt ((v1 - (1 : Int64))) fun w10 =>
  some (.inl (w10, L))
def fX6_lowerFraction_b4 (a0 : Nat) (v1 : Int64) (L : HL) : Option (Tn (Int64 × HL) (HL)) :=
  if (lg_cmp v1 (1 : Int64)) ≤ 0 then (
    some (.inr (.inl (v1, L))))
  else
    gd (¬ v1 = 0) <|
    if (lg_cmp ((L.2 a0 8) - (L.2 a0 8) / v1 * v1) (0 : Int64)) = 0 then (
      gd (¬ v1 = 0) <|
      if (lg_cmp ((L.2 a0 9) - (L.2 a0 9) / v1 * v1) (0 : Int64)) = 0 then (
        gd (¬ v1 = 0) <|
        lt (wJ L a0 8 ((L.2 a0 8) / v1)) fun L7 =>
        gd (¬ v1 = 0) <|
        lt (wJ L7 a0 9 ((L7.2 a0 9) / v1)) fun L9 =>
        fX6_lowerFraction_j52 a0 v1 L9)
      else
        fX6_lowerFraction_j52 a0 v1 L)
    else
      fX6_lowerFraction_j52 a0 v1 L
def fX6_lowerFraction (a0 : Nat) (L : HL) : Option (HL) :=
  lx (lp (fun s11 : Int64 × HL => fX6_lowerFraction_b4 a0 s11.1 s11.2) FU ((5 : Int64), L)) (fun v => some v) fun s11 =>
  some s11.2
def fX6_share_j62 (a0 : Nat) (v2 : Int32) (s1 : Int64) (L : HL) : Option (Int32 × HL) :=
  lt (wJ L a0 9 s1) fun L8 =>
  bd (fX6_lowerFraction a0 L8) fun z9 =>
  some (v2, z9)
def fX6_share_j48 (a0 : Nat) (v2 : Int32) (s1 : Int64) (L : HL) : Option (Int32 × HL) :=
  lt (wJ L a0 8 s1) fun L6 =>
  if v2 = 0 then (
    fX6_share_j62 a0 v2 (1 : Int64) L6)
  else
    fX6_share_j62 a0 v2 v2.toInt64 L6
def fX6_share (a0 : Nat) (v1 : Int32) (L : HL) : Option (Int32 × HL) :=
  bd (fX4_has (a0 + 1) v1 L) fun z1 =>
  if z1 = 0 then (
    bd (fX6_refused a0 (-2 : Int32) (-2 : Int32) L) fun z3 =>
    some (z3.1, z3.2))
  else
    bd (fX4_nearestKin (a0 + 1) v1 L) fun z4 =>
    if z4.1 = 0 then (
      fX6_share_j48 a0 z4.1 (0 : Int64) z4.2)
    else
      gd (vin v1 5) <|
      fX6_share_j48 a0 z4.1 (z4.2.1 ((a0 + 1) + 2) v1.toNatClampNeg).toInt64 z4.2
def fX6_onlyBit_b2 (v0 : Int32) (v1 : Int32) : Option (Tn (Int32) (Int32)) :=
  if (5 : Int32) ≤ v1 then (
    some (.inr (.inl v1)))
  else
    if v0 = ((1 : Int32) <<< (v1 &&& 31)) then (
      some (.inr (.inr v1)))
    else
      lt (v1 + (1 : Int32)) fun w3 =>
      some (.inl w3)
def fX6_onlyBit (v0 : Int32) : Option (Int32) :=
  lx (lp (fun s4 : Int32 => fX6_onlyBit_b2 v0 s4) FU (0 : Int32)) (fun v => some v) fun s4 =>
  some (-1 : Int32)
def fX6_plaster_j26 (a0 : Nat) (L : HL) : Option (Int32 × HL) :=
  bd (fX6_refused a0 (-2 : Int32) (-10 : Int32) L) fun z2 =>
  some (z2.1, z2.2)
def fX6_plaster_b58 (a0 : Nat) (v1 : Int32) (v3 : Int32) (v4 : Int32) (L : HL) : Option (Tn (Int32 × Int32) (Int32 × HL)) :=
  if (L.1 (a0 + 1) 0) ≤ v4 then (
    some (.inr (.inl (v3, v4))))
  else
    bd (fX4_begetters (a0 + 1) v4 v1 L) fun z7 =>
    bd (fJ6_bitCount_0f7a4 z7) fun z8 =>
    lt ((v3 * z8)) fun w9 =>
    lt (v4 + (1 : Int32)) fun w10 =>
    some (.inl (w9, w10))
def fX6_plaster_j35 (a0 : Nat) (v1 : Int32) (v2 : Int32) (L : HL) : Option (Int32 × HL) :=
  if v2 = (-1 : Int32) then (
    lx (lp (fun s11 : Int32 × Int32 => fX6_plaster_b58 a0 v1 s11.1 s11.2 L) FU ((1 : Int32), (1 : Int32))) (fun v => some v) fun s11 =>
    some (s11.1, L))
  else
    bd (fX4_begetters (a0 + 1) v2 v1 L) fun z13 =>
    bd (fX6_onlyBit z13) fun z14 =>
    some (z14, L)
def fX6_plaster (a0 : Nat) (v1 : Int32) (v2 : Int32) (L : HL) : Option (Int32 × HL) :=
  if v1 < 0 then (
    fX6_plaster_j26 a0 L)
  else
    if (8 : Int32) < v1 then (
      fX6_plaster_j26 a0 L)
    else
      if v2 = (-1 : Int32) then (
        fX6_plaster_j35 a0 v1 v2 L)
      else
        bd (fX4_has (a0 + 1) v2 L) fun z15 =>
        if z15 = 0 then (
          fX6_plaster_j26 a0 L)
        else
          fX6_plaster_j35 a0 v1 v2 L
def fX6_gables_j10 (a0 : Nat) (L : HL) : Option (Int32 × HL) :=
  bd (fX6_refused a0 (-2 : Int32) (-2 : Int32) L) fun z2 =>
  some (z2.1, z2.2)
def fX6_gables_b23 (a0 : Nat) (v1 : Int32) (v2 : Int32) (v3 : Int32) (L : HL) : Option (Tn (Int32 × Int32) (Int32 × HL)) :=
  if (L.1 (a0 + 1) 0) ≤ v3 then (
    some (.inr (.inl (v2, v3))))
  else
    bd (fX4_begetters (a0 + 1) v3 v1 L) fun z5 =>
    if z5 = 0 then (
      lt ((v2 ||| ((1 : Int32) <<< (v3 &&& 31)))) fun w7 =>
      lt (v3 + (1 : Int32)) fun w8 =>
      some (.inl (w7, w8)))
    else
      lt (v3 + (1 : Int32)) fun w9 =>
      some (.inl (v2, w9))
def fX6_gables (a0 : Nat) (v1 : Int32) (L : HL) : Option (Int32 × HL) :=
  if v1 < 0 then (
    fX6_gables_j10 a0 L)
  else
    if v1 ≤ (8 : Int32) then (
      lx (lp (fun s10 : Int32 × Int32 => fX6_gables_b23 a0 v1 s10.1 s10.2 L) FU ((0 : Int32), (1 : Int32))) (fun v => some v) fun s10 =>
      some (s10.1, L))
    else
      fX6_gables_j10 a0 L
def fX6_gain_j46 (a0 : Nat) (v1 : Int32) (v3 : Int32) (s0 : Int32) (L : HL) : Option (Int32 × HL) :=
  bd (fX4_dwellers (a0 + 1) v1 L) fun z5 =>
  gd (vin v1 5) <|
  bd (fJ9_max_7cf53 (0 : Int32) ((z5 + s0) - (L.1 ((a0 + 1) + 1) v1.toNatClampNeg))) fun z7 =>
  some (((((2 : Int32) * s0) - z7) - ((v3 >>> (v1 &&& 31)) &&& (1 : Int32))), L)
def fX6_gain_j27 (a0 : Nat) (v1 : Int32) (v2 : Int32) (v3 : Int32) (s0 : Int32) (L : HL) : Option (Int32 × HL) :=
  if s0 = 0 then (
    fX6_gain_j46 a0 v1 v3 (0 : Int32) L)
  else
    bd (fX4_dwellers (a0 + 1) v2 L) fun z8 =>
    fX6_gain_j46 a0 v1 v3 z8 L
def fX6_gain (a0 : Nat) (v1 : Int32) (v2 : Int32) (v3 : Int32) (L : HL) : Option (Int32 × HL) :=
  gd (vin v2 5) <|
  bd (fX4_heirBy (a0 + 1) (L.1 ((a0 + 1) + 5) v2.toNatClampNeg) v2 v3 L) fun z2 =>
  if z2.1 = v1 then (
    fX6_gain_j27 a0 v1 v2 v3 (1 : Int32) z2.2)
  else
    fX6_gain_j27 a0 v1 v2 v3 (0 : Int32) z2.2
def fX6_rests (a0 : Nat) (v1 : Int32) (v2 : Int32) (v3 : Int32) (v4 : Int32) (v5 : Int32) (L : HL) : Option (Int32 × HL) :=
  lt (((v4 <<< (v1 &&& 31)) ||| (v5 <<< (v2 &&& 31)))) fun w1 =>
  lt ((w1 ^^^ ((1 : Int32) <<< (v1 &&& 31)))) fun w2 =>
  lt ((w1 ^^^ ((1 : Int32) <<< (v2 &&& 31)))) fun w3 =>
  bd (fX6_gain a0 v1 v3 w1 L) fun z4 =>
  bd (fX6_gain a0 v1 v3 w2 z4.2) fun z5 =>
  if z4.1 < z5.1 then (
    some ((0 : Int32), z5.2))
  else
    bd (fX6_gain a0 v2 v3 w1 z5.2) fun z7 =>
    bd (fX6_gain a0 v2 v3 w3 z7.2) fun z8 =>
    if z7.1 < z8.1 then (
      some ((0 : Int32), z8.2))
    else
      some ((1 : Int32), z8.2)
def fX6_doors_j56 (a0 : Nat) (L : HL) : Option (Int32 × HL) :=
  bd (fX6_refused a0 (-2 : Int32) (-10 : Int32) L) fun z3 =>
  some (z3.1, z3.2)
def fX6_doors_j98 (a0 : Nat) (L : HL) : Option (Int32 × HL) :=
  bd (fX6_refused a0 (-3 : Int32) (-20 : Int32) L) fun z8 =>
  some (z8.1, z8.2)
def fX6_doors_b116 (a0 : Nat) (v1 : Int32) (v2 : Int32) (v3 : Int32) (v4 : Int32) (v6 : Int32) (v7 : Int32) (v8 : Int32) (L : HL) : Option (Tn (Int32 × Int32 × Int32 × HL) (Int32 × HL)) :=
  if (4 : Int32) ≤ v8 then (
    some (.inr (.inl (v6, v7, v8, L))))
  else
    lt ((v8 >>> ((1 : Int32) &&& 31))) fun w14 =>
    lt ((v8 &&& (1 : Int32))) fun w15 =>
    bd (fX6_rests a0 v1 v2 v3 w14 w15 L) fun z16 =>
    if z16.1 = 0 then (
      lt (v8 + (1 : Int32)) fun w18 =>
      some (.inl (v6, v7, w18, z16.2)))
    else
      if v6 = 0 then (
        lt ((((10 : Int32) * w14) + w15)) fun w20 =>
        lt (v6 + (1 : Int32)) fun w21 =>
        lt (v8 + (1 : Int32)) fun w22 =>
        some (.inl (w21, w20, w22, z16.2)))
      else
        lt (v6 + (1 : Int32)) fun w23 =>
        lt (v8 + (1 : Int32)) fun w24 =>
        some (.inl (w23, v7, w24, z16.2))
def fX6_doors_j38 (a0 : Nat) (v1 : Int32) (v2 : Int32) (v3 : Int32) (v4 : Int32) (s0 : Int32) (L : HL) : Option (Int32 × HL) :=
  if s0 = 0 then (
    fX6_doors_j56 a0 L)
  else
    if v4 < 0 then (
      fX6_doors_j56 a0 L)
    else
      if v4 ≤ (1 : Int32) then (
        bd (fX4_stands (a0 + 1) v1 L) fun z6 =>
        if z6 = 0 then (
          fX6_doors_j98 a0 L)
        else
          bd (fX4_stands (a0 + 1) v2 L) fun z9 =>
          if z9 = 0 then (
            fX6_doors_j98 a0 L)
          else
            bd (fX4_stands (a0 + 1) v3 L) fun z11 =>
            if z11 = 0 then (
              fX6_doors_j98 a0 L)
            else
              lx (lp (fun s25 : Int32 × Int32 × Int32 × HL => fX6_doors_b116 a0 v1 v2 v3 v4 s25.1 s25.2.1 s25.2.2.1 s25.2.2.2) FU ((0 : Int32), (-1 : Int32), (0 : Int32), L)) (fun v => some v) fun s25 =>
              if v4 = 0 then (
                some (s25.1, s25.2.2.2))
              else
                some (s25.2.1, s25.2.2.2))
      else
        fX6_doors_j56 a0 L
def fX6_doors_j37 (a0 : Nat) (v1 : Int32) (v2 : Int32) (v3 : Int32) (v4 : Int32) (L : HL) : Option (Int32 × HL) :=
  fX6_doors_j38 a0 v1 v2 v3 v4 (0 : Int32) L
def fX6_doors (a0 : Nat) (v1 : Int32) (v2 : Int32) (v3 : Int32) (v4 : Int32) (L : HL) : Option (Int32 × HL) :=
  if v1 = v3 then (
    fX6_doors_j37 a0 v1 v2 v3 v4 L)
  else
    if v2 = v3 then (
      fX6_doors_j37 a0 v1 v2 v3 v4 L)
    else
      bd (fX4_hasTwo (a0 + 1) v1 v2 L) fun z29 =>
      if z29 = 0 then (
        fX6_doors_j37 a0 v1 v2 v3 v4 L)
      else
        bd (fX4_has (a0 + 1) v3 L) fun z31 =>
        if z31 = 0 then (
          fX6_doors_j37 a0 v1 v2 v3 v4 L)
        else
          fX6_doors_j38 a0 v1 v2 v3 v4 (1 : Int32) L
def fX6_drawn_j20 (a0 : Nat) (L : HL) : Option (Int32 × HL) :=
  bd (fX6_refused a0 (-2 : Int32) (-2 : Int32) L) fun z2 =>
  some (z2.1, z2.2)
def fX6_drawn_b46 (a0 : Nat) (v2 : Int32) (v3 : Int64) (v5 : Int32) (L : HL) : Option (Tn (Int64 × Int32 × HL) (Int32 × HL)) :=
  if v2 ≤ v5 then (
    some (.inr (.inl (v3, v5, L))))
  else
    bd (fJ6_bitCount_0f7a4 (L.1 (a0 + 15) 1)) fun z9 =>
    if z9 ≤ 0 then (
      lt (v5 + (1 : Int32)) fun w11 =>
      some (.inl (v3, w11, L)))
    else
      lt ((((v3 * (1103515245 : Int64)) + (12345 : Int64)) - ((v3 * (1103515245 : Int64)) + (12345 : Int64)) / (2147483648 : Int64) * (2147483648 : Int64))) fun w12 =>
      gd (¬ z9.toInt64 = 0) <|
      bd (fX4_nthStanding (a0 + 15) ((w12 / (65536 : Int64)) - (w12 / (65536 : Int64)) / z9.toInt64 * z9.toInt64).toInt32 L) fun z14 =>
      bd (fX4_letFall (a0 + 15) z14 L) fun z15 =>
      lt (v5 + (1 : Int32)) fun w16 =>
      some (.inl (w12, w16, z15.2))
def fX6_drawn (a0 : Nat) (v1 : Int32) (v2 : Int32) (L : HL) : Option (Int32 × HL) :=
  if v1 < 0 then (
    fX6_drawn_j20 a0 L)
  else
    if (999999 : Int32) < v1 then (
      fX6_drawn_j20 a0 L)
    else
      if v2 < 0 then (
        fX6_drawn_j20 a0 L)
      else
        if v2 ≤ (5 : Int32) then (
          bd (fX4_takeFrom (a0 + 15) (a0 + 1) L) fun z6 =>
          lt (v1.toInt64) fun w7 =>
          lx (lp (fun s17 : Int64 × Int32 × HL => fX6_drawn_b46 a0 v2 s17.1 s17.2.1 s17.2.2) FU (w7, (0 : Int32), z6)) (fun v => some v) fun s17 =>
          bd (fX4_dwellers (a0 + 15) (-1 : Int32) s17.2.2) fun z18 =>
          some (z18, s17.2.2))
        else
          fX6_drawn_j20 a0 L
def fX6_part_j9 (a0 : Nat) (L : HL) : Option (Int64 × HL) :=
  bd (fX6_refused a0 (-2 : Int32) (-2 : Int32) L) fun z2 =>
  some (z2.1.toInt64, z2.2)
def fX6_part (a0 : Nat) (v1 : Int32) (L : HL) : Option (Int64 × HL) :=
  if v1 < 0 then (
    fX6_part_j9 a0 L)
  else
    if v1 ≤ (1 : Int32) then (
      if v1 = 0 then (
        some ((L.2 a0 8), L))
      else
        some ((L.2 a0 9), L))
    else
      fX6_part_j9 a0 L
def fX6_image_j9 (a0 : Nat) (L : HL) : Option (Int32 × HL) :=
  bd (fX6_refused a0 (-2 : Int32) (-2 : Int32) L) fun z2 =>
  some (z2.1, z2.2)
def fX6_image (a0 : Nat) (v1 : Int32) (L : HL) : Option (Int32 × HL) :=
  if v1 < 0 then (
    fX6_image_j9 a0 L)
  else
    if v1 ≤ (1 : Int32) then (
      if v1 = 0 then (
        bd (fX0_keep (a0 + 50) (a0 + 1) (a0 + 29) L) fun z6 =>
        some ((1 : Int32), z6))
      else
        bd (fX0_keep (a0 + 86) (a0 + 1) (a0 + 29) L) fun z7 =>
        some ((1 : Int32), z7))
    else
      fX6_image_j9 a0 L
def fX6_from_j9 (a0 : Nat) (L : HL) : Option (Int32 × HL) :=
  bd (fX6_refused a0 (-2 : Int32) (-2 : Int32) L) fun z2 =>
  some (z2.1, z2.2)
def fX6_from (a0 : Nat) (v1 : Int32) (L : HL) : Option (Int32 × HL) :=
  if v1 < 0 then (
    fX6_from_j9 a0 L)
  else
    if v1 ≤ (1 : Int32) then (
      if v1 = 0 then (
        if (L.1 (a0 + 50) 0) = 0 then (
          bd (fX6_refused a0 (-3 : Int32) (-3 : Int32) L) fun z7 =>
          some (z7.1, z7.2))
        else
          if v1 = 0 then (
            bd (fX0_giveBack (a0 + 50) (a0 + 1) (a0 + 29) L) fun z10 =>
            some ((1 : Int32), z10))
          else
            bd (fX0_giveBack (a0 + 86) (a0 + 1) (a0 + 29) L) fun z11 =>
            some ((1 : Int32), z11))
      else
        if (L.1 (a0 + 86) 0) = 0 then (
          bd (fX6_refused a0 (-3 : Int32) (-3 : Int32) L) fun z13 =>
          some (z13.1, z13.2))
        else
          if v1 = 0 then (
            bd (fX0_giveBack (a0 + 50) (a0 + 1) (a0 + 29) L) fun z16 =>
            some ((1 : Int32), z16))
          else
            bd (fX0_giveBack (a0 + 86) (a0 + 1) (a0 + 29) L) fun z17 =>
            some ((1 : Int32), z17))
    else
      fX6_from_j9 a0 L
def fX6_status (a0 : Nat) (v1 : Int32) (L : HL) : Option (Int32 × HL) :=
  if v1 = (0 : Int32) then (
    some ((L.1 a0 10), L))
  else
  if v1 = (1 : Int32) then (
    some ((L.1 a0 11), L))
  else
  if v1 = (2 : Int32) then (
    some ((L.1 a0 12), L))
  else
  bd (fX6_refused a0 (-2 : Int32) (-1 : Int32) L) fun z4 =>
  some (z4.1, z4.2)
def fX6_amount (a0 : Nat) (v1 : Int32) (L : HL) : Option (Int32) :=
  if v1 = (0 : Int32) then (
    some (L.1 (a0 + 1) 0))
  else
  if v1 = (1 : Int32) then (
    bd (fJ6_bitCount_0f7a4 (L.1 (a0 + 1) 1)) fun z3 =>
    some z3)
  else
  if v1 = (2 : Int32) then (
    some (L.1 (a0 + 1) 2))
  else
  if v1 = (3 : Int32) then (
    bd (fX4_dwellers (a0 + 1) (-1 : Int32) L) fun z6 =>
    some z6)
  else
  if v1 = (4 : Int32) then (
    bd (fX4_wallsInAll (a0 + 1) L) fun z8 =>
    some z8)
  else
  if v1 = (5 : Int32) then (
    bd (fX4_feudsInAll (a0 + 1) L) fun z10 =>
    some z10)
  else
  if v1 = (6 : Int32) then (
    some (L.1 (a0 + 1) 3))
  else
  if v1 = (7 : Int32) then (
    some (L.1 (a0 + 29) 0))
  else
  if v1 = (8 : Int32) then (
    some (L.1 (a0 + 122) 1))
  else
  some (0 : Int32)
def fX6_count_j10 (a0 : Nat) (L : HL) : Option (Int32 × HL) :=
  bd (fX6_refused a0 (-2 : Int32) (-2 : Int32) L) fun z2 =>
  some (z2.1, z2.2)
def fX6_count (a0 : Nat) (v1 : Int32) (L : HL) : Option (Int32 × HL) :=
  if v1 < 0 then (
    fX6_count_j10 a0 L)
  else
    if v1 ≤ (8 : Int32) then (
      bd (fX6_amount a0 v1 L) fun z4 =>
      some (z4, L))
    else
      fX6_count_j10 a0 L
def fX6_digest_b6 (a0 : Nat) (v1 : Int64) (v3 : Int32) (L : HL) : Option (Tn (Int64 × Int32) (Int64)) :=
  if (8 : Int32) < v3 then (
    some (.inr (.inl (v1, v3))))
  else
    bd (fX6_amount a0 v3 L) fun z2 =>
    lt ((((31 : Int64) * v1) + z2.toInt64)) fun w3 =>
    lt (v3 + (1 : Int32)) fun w4 =>
    some (.inl (w3, w4))
def fX6_digest (a0 : Nat) (L : HL) : Option (Int64) :=
  lx (lp (fun s5 : Int64 × Int32 => fX6_digest_b6 a0 s5.1 s5.2 L) FU ((967 : Int64), (0 : Int32))) (fun v => some v) fun s5 =>
  bd (fX4_addTo (a0 + 1) s5.1 L) fun z6 =>
  lt ((((31 : Int64) * z6) + (L.2 a0 8))) fun w7 =>
  some (((31 : Int64) * w7) + (L.2 a0 9))
def fX7_in (v0 : Int64) (v2 : Int64) (v4 : Int64) : Option (Int32) :=
  if (lg_cmp v0 v2) < 0 then (
    some (0 : Int32))
  else
    if 0 < (lg_cmp v0 v4) then (
      some (0 : Int32))
    else
      some (1 : Int32)
def fX7_isTwo (v0 : Int32) : Option (Int32) :=
  bd (fX7_in v0.toInt64 (0 : Int64) (1 : Int64)) fun z1 =>
  gd (z1 = 0 ∨ z1 = 1) <|
  some z1
def fX7_tell_j12 (a0 : Nat) (v1 : Int32) (L : HL) : Option (Int32 × HL) :=
  lt (wI L (a0 + 5) (0 : Int32).toNatClampNeg ((L.1 (a0 + 5) (0 : Int32).toNatClampNeg) + (1 : Int32))) fun L2 =>
  some (v1, L2)
def fX7_tell_j58 (a0 : Nat) (v1 : Int32) (s1 : Int32) (L : HL) : Option (Int32 × HL) :=
  gd (vin s1 3) <|
  gd (vin s1 3) <|
  lt (wI L (a0 + 5) s1.toNatClampNeg ((L.1 (a0 + 5) s1.toNatClampNeg) + (1 : Int32))) fun L8 =>
  some (v1, L8)
def fX7_tell_j43 (a0 : Nat) (v1 : Int32) (L : HL) : Option (Int32 × HL) :=
  if v1 = (-4 : Int32) then (
    fX7_tell_j58 a0 v1 (2 : Int32) L)
  else
    fX7_tell_j58 a0 v1 (1 : Int32) L
def fX7_tell (a0 : Nat) (v1 : Int32) (L : HL) : Option (Int32 × HL) :=
  if v1 = (-2 : Int32) then (
    fX7_tell_j12 a0 v1 L)
  else
    if v1 = (-10 : Int32) then (
      fX7_tell_j12 a0 v1 L)
    else
      if v1 = (-3 : Int32) then (
        fX7_tell_j43 a0 v1 L)
      else
        if v1 = (-20 : Int32) then (
          fX7_tell_j43 a0 v1 L)
        else
          if v1 = (-4 : Int32) then (
            fX7_tell_j43 a0 v1 L)
          else
            some (v1, L)
def fX7_bad (a0 : Nat) (v1 : Int32) (L : HL) : Option (Int32 × HL) :=
  lt (wI L (a0 + 5) (0 : Int32).toNatClampNeg ((L.1 (a0 + 5) (0 : Int32).toNatClampNeg) + (1 : Int32))) fun L1 =>
  some (v1, L1)
def fX7_no (a0 : Nat) (v1 : Int32) (L : HL) : Option (Int32 × HL) :=
  lt (wI L (a0 + 5) (1 : Int32).toNatClampNeg ((L.1 (a0 + 5) (1 : Int32).toNatClampNeg) + (1 : Int32))) fun L1 =>
  some (v1, L1)
def fX7_bits_b4 (v1 : Int32) (v2 : Int32) : Option (Tn (Int32 × Int32) (Int32)) :=
  if v2 = 0 then (
    some (.inr (.inl (v1, v2))))
  else
    lt (v1 + (1 : Int32)) fun w2 =>
    lt ((v2 &&& (v2 - (1 : Int32)))) fun w3 =>
    some (.inl (w2, w3))
def fX7_bits (v0 : Int32) : Option (Int32) :=
  lx (lp (fun s4 : Int32 × Int32 => fX7_bits_b4 s4.1 s4.2) FU ((0 : Int32), v0)) (fun v => some v) fun s4 =>
  some s4.1
def fX7_holds (v0 : Int32) (v1 : Int32) : Option (Int32) :=
  if ((v0 >>> (v1 &&& 31)) &&& (1 : Int32)) = (1 : Int32) then (
    some (1 : Int32))
  else
    some (0 : Int32)
def fX7_copies_b3 (a0 : Nat) (n0 : Nat) (a2 : Nat) (n2 : Nat) (v1 : Int32) (v3 : Int32) (v4 : Int32) (v5 : Int32) (L : HL) : Option (Tn (Int32 × HL) (HL)) :=
  if v4 ≤ v5 then (
    some (.inr (.inl (v5, L))))
  else
    gd (vin (v1 + v5) n0) <|
    gd (vin (v3 + v5) n2) <|
    lt (wI L a2 (v3 + v5).toNatClampNeg (L.1 a0 (v1 + v5).toNatClampNeg)) fun L4 =>
    lt (v5 + (1 : Int32)) fun w5 =>
    some (.inl (w5, L4))
def fX7_copies (a0 : Nat) (n0 : Nat) (v1 : Int32) (a2 : Nat) (n2 : Nat) (v3 : Int32) (v4 : Int32) (L : HL) : Option (HL) :=
  lx (lp (fun s6 : Int32 × HL => fX7_copies_b3 a0 n0 a2 n2 v1 v3 v4 s6.1 s6.2) FU ((0 : Int32), L)) (fun v => some v) fun s6 =>
  some s6.2
def fX7_isHouse (a0 : Nat) (v1 : Int32) (L : HL) : Option (Int32) :=
  bd (fX7_in v1.toInt64 (0 : Int64) ((L.1 (a0 + 1) (0 : Int32).toNatClampNeg) - (1 : Int32)).toInt64) fun z1 =>
  gd (z1 = 0 ∨ z1 = 1) <|
  some z1
def fX7_isOne (a0 : Nat) (v1 : Int32) (L : HL) : Option (Int32) :=
  bd (fX7_in v1.toInt64 (0 : Int64) ((L.1 (a0 + 1) (1 : Int32).toNatClampNeg) - (1 : Int32)).toInt64) fun z1 =>
  gd (z1 = 0 ∨ z1 = 1) <|
  some z1
def fX7_isFamily (v0 : Int32) : Option (Int32) :=
  bd (fX7_in v0.toInt64 (0 : Int64) (3 : Int64)) fun z1 =>
  gd (z1 = 0 ∨ z1 = 1) <|
  some z1
def fX7_doHouse (a0 : Nat) (v1 : Int32) (v2 : Int32) (v3 : Int32) (L : HL) : Option (Int32 × HL) :=
  bd (fX7_in v1.toInt64 (1 : Int64) (9 : Int64)) fun z1 =>
  if z1 = 0 then (
    some ((-2 : Int32), L))
  else
    bd (fX7_in v2.toInt64 (0 : Int64) (99 : Int64)) fun z3 =>
    if z3 = 0 then (
      some ((-2 : Int32), L))
    else
      bd (fX7_in v3.toInt64 (0 : Int64) (99 : Int64)) fun z5 =>
      if z5 = 0 then (
        some ((-2 : Int32), L))
      else
        lt ((L.1 (a0 + 1) (0 : Int32).toNatClampNeg)) fun w7 =>
        if w7 = (5 : Int32) then (
          some ((-4 : Int32), L))
        else
          gd (vin ((4 : Int32) + w7) 228) <|
          lt (wI L (a0 + 1) ((4 : Int32) + w7).toNatClampNeg v1) fun L10 =>
          gd (vin ((9 : Int32) + w7) 228) <|
          lt (wI L10 (a0 + 1) ((9 : Int32) + w7).toNatClampNeg v2) fun L12 =>
          gd (vin ((14 : Int32) + w7) 228) <|
          lt (wI L12 (a0 + 1) ((14 : Int32) + w7).toNatClampNeg v3) fun L14 =>
          gd (vin ((19 : Int32) + w7) 228) <|
          lt (wI L14 (a0 + 1) ((19 : Int32) + w7).toNatClampNeg (-1 : Int32)) fun L16 =>
          gd (vin ((24 : Int32) + w7) 228) <|
          lt (wI L16 (a0 + 1) ((24 : Int32) + w7).toNatClampNeg (0 : Int32)) fun L18 =>
          gd (vin ((29 : Int32) + w7) 228) <|
          lt (wI L18 (a0 + 1) ((29 : Int32) + w7).toNatClampNeg (1 : Int32)) fun L20 =>
          gd (vin ((34 : Int32) + w7) 228) <|
          lt (wI L20 (a0 + 1) ((34 : Int32) + w7).toNatClampNeg (0 : Int32)) fun L22 =>
          lt (wI L22 (a0 + 1) (0 : Int32).toNatClampNeg ((L22.1 (a0 + 1) (0 : Int32).toNatClampNeg) + (1 : Int32))) fun L23 =>
          lt (wI L23 (a0 + 1) (3 : Int32).toNatClampNeg (0 : Int32)) fun L24 =>
          some (w7, L24)
def fX7_doFrom (a0 : Nat) (v1 : Int32) (v2 : Int32) (L : HL) : Option (Int32 × HL) :=
  bd (fX7_isHouse a0 v1 L) fun z1 =>
  if z1 = 0 then (
    some ((-10 : Int32), L))
  else
    bd (fX7_in v2.toInt64 (-1 : Int64) (v1 - (1 : Int32)).toInt64) fun z3 =>
    if z3 = 0 then (
      some ((-10 : Int32), L))
    else
      gd (vin ((19 : Int32) + v1) 228) <|
      lt ((L.1 (a0 + 1) ((19 : Int32) + v1).toNatClampNeg)) fun w6 =>
      gd (vin ((19 : Int32) + v1) 228) <|
      lt (wI L (a0 + 1) ((19 : Int32) + v1).toNatClampNeg v2) fun L8 =>
      lt (wI L8 (a0 + 1) (3 : Int32).toNatClampNeg (0 : Int32)) fun L9 =>
      some (w6, L9)
def fX7_doWill (a0 : Nat) (v1 : Int32) (v2 : Int32) (L : HL) : Option (Int32 × HL) :=
  bd (fX7_isHouse a0 v1 L) fun z1 =>
  if z1 = 0 then (
    some ((-2 : Int32), L))
  else
    bd (fX7_in v2.toInt64 (0 : Int64) (5 : Int64)) fun z3 =>
    if z3 = 0 then (
      some ((-2 : Int32), L))
    else
      gd (vin ((24 : Int32) + v1) 228) <|
      lt ((L.1 (a0 + 1) ((24 : Int32) + v1).toNatClampNeg)) fun w6 =>
      gd (vin ((24 : Int32) + v1) 228) <|
      lt (wI L (a0 + 1) ((24 : Int32) + v1).toNatClampNeg v2) fun L8 =>
      lt (wI L8 (a0 + 1) (3 : Int32).toNatClampNeg (0 : Int32)) fun L9 =>
      some (w6, L9)
def fX7_doWall_j96 (a0 : Nat) (s1 : Int32) (s2 : Int32) (L : HL) : Option (Int32 × HL) :=
  gd (vin s1 228) <|
  lt (wI L (a0 + 1) s1.toNatClampNeg s2) fun L14 =>
  lt (wI L14 (a0 + 1) (3 : Int32).toNatClampNeg (0 : Int32)) fun L15 =>
  some ((1 : Int32), L15)
def fX7_doWall_j74 (a0 : Nat) (v1 : Int32) (v2 : Int32) (v3 : Int32) (s1 : Int32) (s2 : Int32) (L : HL) : Option (Int32 × HL) :=
  gd (vin s1 228) <|
  lt (wI L (a0 + 1) s1.toNatClampNeg s2) fun L11 =>
  if v3 = 0 then (
    fX7_doWall_j96 a0 (((39 : Int32) + ((5 : Int32) * v2)) + v1) (0 : Int32) L11)
  else
    fX7_doWall_j96 a0 (((39 : Int32) + ((5 : Int32) * v2)) + v1) (1 : Int32) L11
def fX7_doWall_j46 (a0 : Nat) (v1 : Int32) (v2 : Int32) (v3 : Int32) (s0 : Int32) (L : HL) : Option (Int32 × HL) :=
  if s0 = v3 then (
    some ((-3 : Int32), L))
  else
    if v3 = 0 then (
      fX7_doWall_j74 a0 v1 v2 v3 (((39 : Int32) + ((5 : Int32) * v1)) + v2) (0 : Int32) L)
    else
      fX7_doWall_j74 a0 v1 v2 v3 (((39 : Int32) + ((5 : Int32) * v1)) + v2) (1 : Int32) L
def fX7_doWall (a0 : Nat) (v1 : Int32) (v2 : Int32) (v3 : Int32) (L : HL) : Option (Int32 × HL) :=
  bd (fX7_isHouse a0 v1 L) fun z1 =>
  if z1 = 0 then (
    some ((-2 : Int32), L))
  else
    bd (fX7_isHouse a0 v2 L) fun z3 =>
    if z3 = 0 then (
      some ((-2 : Int32), L))
    else
      if v1 = v2 then (
        some ((-2 : Int32), L))
      else
        gd (vin (((39 : Int32) + ((5 : Int32) * v1)) + v2) 228) <|
        if (L.1 (a0 + 1) (((39 : Int32) + ((5 : Int32) * v1)) + v2).toNatClampNeg) = (1 : Int32) then (
          fX7_doWall_j46 a0 v1 v2 v3 (1 : Int32) L)
        else
          fX7_doWall_j46 a0 v1 v2 v3 (0 : Int32) L
def fX7_doOne_j43 (a0 : Nat) (v1 : Int32) (v2 : Int32) (L : HL) : Option (Int32 × HL) :=
  lt ((L.1 (a0 + 1) (1 : Int32).toNatClampNeg)) fun w5 =>
  if w5 = (6 : Int32) then (
    some ((-4 : Int32), L))
  else
    gd (vin ((64 : Int32) + w5) 228) <|
    lt (wI L (a0 + 1) ((64 : Int32) + w5).toNatClampNeg v1) fun L8 =>
    gd (vin ((70 : Int32) + w5) 228) <|
    lt (wI L8 (a0 + 1) ((70 : Int32) + w5).toNatClampNeg v2) fun L10 =>
    lt (wI L10 (a0 + 1) (1 : Int32).toNatClampNeg ((L10.1 (a0 + 1) (1 : Int32).toNatClampNeg) + (1 : Int32))) fun L11 =>
    lt (wI L11 (a0 + 1) (3 : Int32).toNatClampNeg (0 : Int32)) fun L12 =>
    some (w5, L12)
def fX7_doOne_j23 (a0 : Nat) (v1 : Int32) (v2 : Int32) (L : HL) : Option (Int32 × HL) :=
  if v2 = (-1 : Int32) then (
    fX7_doOne_j43 a0 v1 v2 L)
  else
    gd (vin ((29 : Int32) + v2) 228) <|
    if (L.1 (a0 + 1) ((29 : Int32) + v2).toNatClampNeg) = 0 then (
      some ((-3 : Int32), L))
    else
      fX7_doOne_j43 a0 v1 v2 L
def fX7_doOne (a0 : Nat) (v1 : Int32) (v2 : Int32) (L : HL) : Option (Int32 × HL) :=
  bd (fX7_isFamily v1) fun z1 =>
  if z1 = 0 then (
    some ((-2 : Int32), L))
  else
    if v2 = (-1 : Int32) then (
      fX7_doOne_j23 a0 v1 v2 L)
    else
      bd (fX7_isHouse a0 v2 L) fun z15 =>
      if z15 = 0 then (
        some ((-2 : Int32), L))
      else
        fX7_doOne_j23 a0 v1 v2 L
def fX7_doFeud_j94 (a0 : Nat) (s1 : Int32) (s2 : Int32) (L : HL) : Option (Int32 × HL) :=
  gd (vin s1 228) <|
  lt (wI L (a0 + 1) s1.toNatClampNeg s2) fun L14 =>
  lt (wI L14 (a0 + 1) (3 : Int32).toNatClampNeg (0 : Int32)) fun L15 =>
  some ((1 : Int32), L15)
def fX7_doFeud_j72 (a0 : Nat) (v1 : Int32) (v2 : Int32) (v3 : Int32) (s1 : Int32) (s2 : Int32) (L : HL) : Option (Int32 × HL) :=
  gd (vin s1 228) <|
  lt (wI L (a0 + 1) s1.toNatClampNeg s2) fun L11 =>
  if v3 = 0 then (
    fX7_doFeud_j94 a0 (((76 : Int32) + ((4 : Int32) * v2)) + v1) (0 : Int32) L11)
  else
    fX7_doFeud_j94 a0 (((76 : Int32) + ((4 : Int32) * v2)) + v1) (1 : Int32) L11
def fX7_doFeud_j44 (a0 : Nat) (v1 : Int32) (v2 : Int32) (v3 : Int32) (s0 : Int32) (L : HL) : Option (Int32 × HL) :=
  if s0 = v3 then (
    some ((-3 : Int32), L))
  else
    if v3 = 0 then (
      fX7_doFeud_j72 a0 v1 v2 v3 (((76 : Int32) + ((4 : Int32) * v1)) + v2) (0 : Int32) L)
    else
      fX7_doFeud_j72 a0 v1 v2 v3 (((76 : Int32) + ((4 : Int32) * v1)) + v2) (1 : Int32) L
def fX7_doFeud (a0 : Nat) (v1 : Int32) (v2 : Int32) (v3 : Int32) (L : HL) : Option (Int32 × HL) :=
  bd (fX7_isFamily v1) fun z1 =>
  if z1 = 0 then (
    some ((-2 : Int32), L))
  else
    bd (fX7_isFamily v2) fun z3 =>
    if z3 = 0 then (
      some ((-2 : Int32), L))
    else
      if v1 = v2 then (
        some ((-2 : Int32), L))
      else
        gd (vin (((76 : Int32) + ((4 : Int32) * v1)) + v2) 228) <|
        if (L.1 (a0 + 1) (((76 : Int32) + ((4 : Int32) * v1)) + v2).toNatClampNeg) = (1 : Int32) then (
          fX7_doFeud_j44 a0 v1 v2 v3 (1 : Int32) L)
        else
          fX7_doFeud_j44 a0 v1 v2 v3 (0 : Int32) L
def fX7_street (a0 : Nat) (L : HL) : Option (Int32 × HL) :=
  lt ((L.1 (a0 + 1) (0 : Int32).toNatClampNeg)) fun w1 =>
  bd (fX7_clean a0 L) fun z2 =>
  some (w1, z2)
def fX7_house (a0 : Nat) (v1 : Int32) (v2 : Int32) (v3 : Int32) (L : HL) : Option (Int32 × HL) :=
  bd (fX7_doHouse a0 v1 v2 v3 L) fun z1 =>
  bd (fX7_tell a0 z1.1 z1.2) fun z2 =>
  some (z2.1, z2.2)
def fX7_builtFrom (a0 : Nat) (v1 : Int32) (v2 : Int32) (L : HL) : Option (Int32 × HL) :=
  bd (fX7_doFrom a0 v1 v2 L) fun z1 =>
  bd (fX7_tell a0 z1.1 z1.2) fun z2 =>
  some (z2.1, z2.2)
def fX7_will (a0 : Nat) (v1 : Int32) (v2 : Int32) (L : HL) : Option (Int32 × HL) :=
  bd (fX7_doWill a0 v1 v2 L) fun z1 =>
  bd (fX7_tell a0 z1.1 z1.2) fun z2 =>
  some (z2.1, z2.2)
def fX7_wall (a0 : Nat) (v1 : Int32) (v2 : Int32) (v3 : Int32) (L : HL) : Option (Int32 × HL) :=
  bd (fX7_doWall a0 v1 v2 v3 L) fun z1 =>
  bd (fX7_tell a0 z1.1 z1.2) fun z2 =>
  some (z2.1, z2.2)
def fX7_one (a0 : Nat) (v1 : Int32) (v2 : Int32) (L : HL) : Option (Int32 × HL) :=
  bd (fX7_doOne a0 v1 v2 L) fun z1 =>
  bd (fX7_tell a0 z1.1 z1.2) fun z2 =>
  some (z2.1, z2.2)
def fX7_feud (a0 : Nat) (v1 : Int32) (v2 : Int32) (v3 : Int32) (L : HL) : Option (Int32 × HL) :=
  bd (fX7_doFeud a0 v1 v2 v3 L) fun z1 =>
  bd (fX7_tell a0 z1.1 z1.2) fun z2 =>
  some (z2.1, z2.2)
def fX7_mark_j20 (a0 : Nat) (L : HL) : Option (Int32 × HL) :=
  bd (fX7_bad a0 (-2 : Int32) L) fun z3 =>
  some (z3.1, z3.2)
def fX7_mark (a0 : Nat) (v1 : Int32) (v2 : Int32) (L : HL) : Option (Int32 × HL) :=
  bd (fX7_isHouse a0 v1 L) fun z1 =>
  if z1 = 0 then (
    fX7_mark_j20 a0 L)
  else
    bd (fX7_in v2.toInt64 (0 : Int64) (255 : Int64)) fun z4 =>
    if z4 = 0 then (
      fX7_mark_j20 a0 L)
    else
      gd (vin ((34 : Int32) + v1) 228) <|
      lt ((L.1 (a0 + 1) ((34 : Int32) + v1).toNatClampNeg)) fun w7 =>
      gd (vin ((34 : Int32) + v1) 228) <|
      lt (wI L (a0 + 1) ((34 : Int32) + v1).toNatClampNeg v2) fun L9 =>
      lt (wI L9 (a0 + 1) (3 : Int32).toNatClampNeg (0 : Int32)) fun L10 =>
      some (w7, L10)
def fX7_type (a0 : Nat) (v1 : Int32) (L : HL) : Option (Int32 × HL) :=
  bd (fX7_in v1.toInt64 (0 : Int64) (127 : Int64)) fun z1 =>
  if z1 = 0 then (
    bd (fX7_bad a0 (-2 : Int32) L) fun z3 =>
    some (z3.1, z3.2))
  else
    if (L.1 a0 4) = (150 : Int32) then (
      bd (fX7_tell a0 (-4 : Int32) L) fun z5 =>
      some (z5.1, z5.2))
    else
      gd (vin (L.1 a0 4) 150) <|
      lt (wI L (a0 + 4) (L.1 a0 4).toNatClampNeg v1) fun L7 =>
      lt (wI L7 a0 4 ((L7.1 a0 4) + (1 : Int32))) fun L8 =>
      some ((L8.1 a0 4), L8)
def fX7_clear (a0 : Nat) (L : HL) : Option (Int32 × HL) :=
  lt ((L.1 a0 4)) fun w1 =>
  lt (wI L a0 4 (0 : Int32)) fun L2 =>
  some (w1, L2)
def fX7_next_b0 (a0 : Nat) (L : HL) : Option (Tn (HL) (HL)) :=
  if (L.1 a0 4) ≤ (L.1 a0 8) then (
    some (.inr (.inl L)))
  else
    gd (vin (L.1 a0 8) 150) <|
    if (L.1 (a0 + 4) (L.1 a0 8).toNatClampNeg) = (32 : Int32) then (
      lt (wI L a0 8 ((L.1 a0 8) + (1 : Int32))) fun L4 =>
      some (.inl L4))
    else
      some (.inr (.inl L))
def fX7_next_j243 (a0 : Nat) (s1 : Int64) (L : HL) : Option (Tn (HL) (HL)) :=
  lt (wJ L a0 12 s1) fun L25 =>
  lt (wI L25 a0 8 ((L25.1 a0 8) + (1 : Int32))) fun L26 =>
  some (.inl L26)
def fX7_next_b162 (a0 : Nat) (L : HL) : Option (Tn (HL) (HL)) :=
  if (L.1 a0 10) = (1 : Int32) then (
    if (L.1 a0 4) ≤ (L.1 a0 8) then (
      some (.inr (.inl L)))
    else
      gd (vin (L.1 a0 8) 150) <|
      bd (fX7_in (L.1 (a0 + 4) (L.1 a0 8).toNatClampNeg).toInt64 (97 : Int64) (122 : Int64)) fun z22 =>
      if z22 = 0 then (
        some (.inr (.inl L)))
      else
        if (7 : Int32) ≤ ((L.1 a0 8) - (L.1 a0 9)) then (
          fX7_next_j243 a0 (-1 : Int64) L)
        else
          gd (vin (L.1 a0 8) 150) <|
          fX7_next_j243 a0 (((L.2 a0 12) * (256 : Int64)) + (L.1 (a0 + 4) (L.1 a0 8).toNatClampNeg).toInt64) L)
  else
    some (.inr (.inl L))
def fX7_next_j341 (a0 : Nat) (s1 : Int32) (L : HL) : Option (Tn (HL) (HL)) :=
  lt (wI L a0 11 s1) fun L35 =>
  lt (wI L35 a0 8 ((L35.1 a0 8) + (1 : Int32))) fun L36 =>
  some (.inl L36)
def fX7_next_b259 (a0 : Nat) (L : HL) : Option (Tn (HL) (HL)) :=
  if (L.1 a0 10) = (2 : Int32) then (
    if (L.1 a0 4) ≤ (L.1 a0 8) then (
      some (.inr (.inl L)))
    else
      gd (vin (L.1 a0 8) 150) <|
      bd (fX7_in (L.1 (a0 + 4) (L.1 a0 8).toNatClampNeg).toInt64 (48 : Int64) (57 : Int64)) fun z32 =>
      if z32 = 0 then (
        some (.inr (.inl L)))
      else
        if (2 : Int32) ≤ ((L.1 a0 8) - (L.1 a0 9)) then (
          fX7_next_j341 a0 (L.1 a0 11) L)
        else
          gd (vin (L.1 a0 8) 150) <|
          fX7_next_j341 a0 ((((10 : Int32) * (L.1 a0 11)) + (L.1 (a0 + 4) (L.1 a0 8).toNatClampNeg)) - (48 : Int32)) L)
  else
    some (.inr (.inl L))
def fX7_next_j387 (a0 : Nat) (s1 : Int32) (L : HL) : Option (HL) :=
  lt (wI L a0 10 s1) fun L41 =>
  some L41
def fX7_next_j383 (a0 : Nat) (L : HL) : Option (HL) :=
  fX7_next_j387 a0 (L.1 a0 10) L
def fX7_next_j158 (a0 : Nat) (s1 : Int32) (s2 : Int32) (L : HL) : Option (HL) :=
  lt (wI L a0 8 (s1 + s2)) fun L18 =>
  lx (lp (fun s28 : HL => fX7_next_b162 a0 s28) FU L18) (fun v => some v) fun s28 =>
  lx (lp (fun s38 : HL => fX7_next_b259 a0 s38) FU s28) (fun v => some v) fun s38 =>
  if (s38.1 a0 10) = (2 : Int32) then (
    if ((s38.1 a0 8) - (s38.1 a0 9)) ≤ (2 : Int32) then (
      fX7_next_j383 a0 s38)
    else
      fX7_next_j387 a0 (4 : Int32) s38)
  else
    fX7_next_j383 a0 s38
def fX7_next_j127 (a0 : Nat) (s1 : Int32) (L : HL) : Option (HL) :=
  lt (wI L a0 10 s1) fun L14 =>
  lt (wI L14 a0 11 (0 : Int32)) fun L15 =>
  lt (wJ L15 a0 12 (0 : Int64)) fun L16 =>
  if (L16.1 a0 10) ≤ (2 : Int32) then (
    fX7_next_j158 a0 (L16.1 a0 8) (0 : Int32) L16)
  else
    fX7_next_j158 a0 (L16.1 a0 8) (1 : Int32) L16
def fX7_next_j70 (a0 : Nat) (s0 : Int32) (L : HL) : Option (HL) :=
  if 0 ≤ s0 then (
    bd (fX7_in s0.toInt64 (97 : Int64) (122 : Int64)) fun z9 =>
    if z9 = 0 then (
      bd (fX7_in s0.toInt64 (48 : Int64) (57 : Int64)) fun z11 =>
      if z11 = 0 then (
        if s0 = (59 : Int32) then (
          fX7_next_j127 a0 (3 : Int32) L)
        else
          fX7_next_j127 a0 (4 : Int32) L)
      else
        fX7_next_j127 a0 (2 : Int32) L)
    else
      fX7_next_j127 a0 (1 : Int32) L)
  else
    fX7_next_j127 a0 (0 : Int32) L
def fX7_next (a0 : Nat) (L : HL) : Option (HL) :=
  lx (lp (fun s5 : HL => fX7_next_b0 a0 s5) FU L) (fun v => some v) fun s5 =>
  lt (wI s5 a0 9 (s5.1 a0 8)) fun L6 =>
  if (L6.1 a0 4) ≤ (L6.1 a0 8) then (
    fX7_next_j70 a0 (-1 : Int32) L6)
  else
    gd (vin (L6.1 a0 8) 150) <|
    fX7_next_j70 a0 (L6.1 (a0 + 4) (L6.1 a0 8).toNatClampNeg) L6
def fX7_itemOf (v0 : Int64) : Option (Int32) :=
  if (lg_cmp v0 (126943972648308 : Int64)) = 0 then (
    some (0 : Int32))
  else
    if (lg_cmp v0 (448546567013 : Int64)) = 0 then (
      some (13 : Int32))
    else
      if (lg_cmp v0 (1718775661 : Int64)) = 0 then (
        some (22 : Int32))
      else
        if (lg_cmp v0 (2003397740 : Int64)) = 0 then (
          some (32 : Int32))
        else
          if (lg_cmp v0 (2002873452 : Int64)) = 0 then (
            some (42 : Int32))
          else
            if (lg_cmp v0 (7302757 : Int64)) = 0 then (
              some (52 : Int32))
            else
              if (lg_cmp v0 (1717925220 : Int64)) = 0 then (
                some (62 : Int32))
              else
                some (-1 : Int32)
def fX7_reads_b98 (a0 : Nat) (v1 : Int32) (v2 : Int32) (L : HL) : Option (Tn (Int32 × HL) (Int32 × HL)) :=
  if (v1 - v1 / (10 : Int32) * (10 : Int32)) ≤ v2 then (
    some (.inr (.inl (v2, L))))
  else
    bd (fX7_next a0 L) fun z15 =>
    if (z15.1 a0 10) = (2 : Int32) then (
      gd (vin ((((4 : Int32) * (z15.1 a0 14)) + (1 : Int32)) + v2) 200) <|
      lt (wI z15 (a0 + 6) ((((4 : Int32) * (z15.1 a0 14)) + (1 : Int32)) + v2).toNatClampNeg (z15.1 a0 11)) fun L18 =>
      lt (v2 + (1 : Int32)) fun w19 =>
      some (.inl (w19, L18)))
    else
      some (.inr (.inr ((z15.1 a0 9), z15)))
def fX7_reads_j73 (a0 : Nat) (v1 : Int32) (s0 : Int32) (s1 : Int32) (L : HL) : Option (Tn (HL) (Int32 × HL)) :=
  if s0 = s1 then (
    gd (vin ((4 : Int32) * (L.1 a0 14)) 200) <|
    lt (wI L (a0 + 6) ((4 : Int32) * (L.1 a0 14)).toNatClampNeg (v1 / (10 : Int32))) fun L13 =>
    lx (lp (fun s20 : Int32 × HL => fX7_reads_b98 a0 v1 s20.1 s20.2) FU ((0 : Int32), L13)) (fun v => some (.inr (.inr v))) fun s20 =>
    bd (fX7_next a0 s20.2) fun z21 =>
    if (z21.1 a0 10) = (3 : Int32) then (
      lt (wI z21 a0 14 ((z21.1 a0 14) + (1 : Int32))) fun L23 =>
      bd (fX7_next a0 L23) fun z24 =>
      some (.inl z24))
    else
      some (.inr (.inr ((z21.1 a0 9), z21))))
  else
    some (.inr (.inr ((L.1 a0 9), L)))
def fX7_reads_j61 (a0 : Nat) (v1 : Int32) (s0 : Int32) (L : HL) : Option (Tn (HL) (Int32 × HL)) :=
  if (L.1 a0 14) = 0 then (
    fX7_reads_j73 a0 v1 s0 (1 : Int32) L)
  else
    fX7_reads_j73 a0 v1 s0 (0 : Int32) L
def fX7_reads_j47 (a0 : Nat) (s0 : Int32) (L : HL) : Option (Tn (HL) (Int32 × HL)) :=
  if s0 < 0 then (
    some (.inr (.inr ((L.1 a0 9), L))))
  else
    if s0 = 0 then (
      fX7_reads_j61 a0 s0 (1 : Int32) L)
    else
      fX7_reads_j61 a0 s0 (0 : Int32) L
def fX7_reads_j28 (a0 : Nat) (L : HL) : Option (Tn (HL) (Int32 × HL)) :=
  if (L.1 a0 10) = (1 : Int32) then (
    bd (fX7_itemOf (L.2 a0 12)) fun z7 =>
    fX7_reads_j47 a0 z7 L)
  else
    fX7_reads_j47 a0 (-1 : Int32) L
def fX7_reads_b14 (a0 : Nat) (L : HL) : Option (Tn (HL) (Int32 × HL)) :=
  if (L.1 a0 10) = 0 then (
    if (L.1 a0 14) = 0 then (
      fX7_reads_j28 a0 L)
    else
      some (.inr (.inl L)))
  else
    fX7_reads_j28 a0 L
def fX7_reads (a0 : Nat) (L : HL) : Option (Int32 × HL) :=
  lt (wI L a0 8 (0 : Int32)) fun L1 =>
  lt (wI L1 a0 14 (0 : Int32)) fun L2 =>
  bd (fX7_next a0 L2) fun z3 =>
  lx (lp (fun s26 : HL => fX7_reads_b14 a0 s26) FU z3) (fun v => some v) fun s26 =>
  some ((-1 : Int32), s26)
def fX7_doItem (a0 : Nat) (v1 : Int32) (L : HL) : Option (Int32 × HL) :=
  gd (vin (((4 : Int32) * v1) + (1 : Int32)) 200) <|
  lt ((L.1 (a0 + 6) (((4 : Int32) * v1) + (1 : Int32)).toNatClampNeg)) fun w2 =>
  gd (vin (((4 : Int32) * v1) + (2 : Int32)) 200) <|
  lt ((L.1 (a0 + 6) (((4 : Int32) * v1) + (2 : Int32)).toNatClampNeg)) fun w4 =>
  gd (vin ((4 : Int32) * v1) 200) <|
  if (L.1 (a0 + 6) ((4 : Int32) * v1).toNatClampNeg) = (0 : Int32) then (
    bd (fX7_clean a0 L) fun z7 =>
    some ((0 : Int32), z7))
  else
  if (L.1 (a0 + 6) ((4 : Int32) * v1).toNatClampNeg) = (1 : Int32) then (
    gd (vin (((4 : Int32) * v1) + (3 : Int32)) 200) <|
    bd (fX7_doHouse a0 w2 w4 (L.1 (a0 + 6) (((4 : Int32) * v1) + (3 : Int32)).toNatClampNeg) L) fun z10 =>
    some (z10.1, z10.2))
  else
  if (L.1 (a0 + 6) ((4 : Int32) * v1).toNatClampNeg) = (2 : Int32) then (
    bd (fX7_doFrom a0 w2 w4 L) fun z12 =>
    some (z12.1, z12.2))
  else
  if (L.1 (a0 + 6) ((4 : Int32) * v1).toNatClampNeg) = (3 : Int32) then (
    bd (fX7_doWill a0 w2 w4 L) fun z14 =>
    some (z14.1, z14.2))
  else
  if (L.1 (a0 + 6) ((4 : Int32) * v1).toNatClampNeg) = (4 : Int32) then (
    bd (fX7_doWall a0 w2 w4 (1 : Int32) L) fun z16 =>
    some (z16.1, z16.2))
  else
  if (L.1 (a0 + 6) ((4 : Int32) * v1).toNatClampNeg) = (5 : Int32) then (
    bd (fX7_doOne a0 w2 w4 L) fun z18 =>
    some (z18.1, z18.2))
  else
  bd (fX7_doFeud a0 w2 w4 (1 : Int32) L) fun z19 =>
  some (z19.1, z19.2)
def fX7_read_b33 (a0 : Nat) (v2 : Int32) (L : HL) : Option (Tn (Int32 × HL) (Int32 × HL)) :=
  if (L.1 a0 14) ≤ v2 then (
    some (.inr (.inl (v2, L))))
  else
    bd (fX7_doItem a0 v2 L) fun z5 =>
    if (-1 : Int32) ≤ z5.1 then (
      lt (v2 + (1 : Int32)) fun w7 =>
      some (.inl (w7, z5.2)))
    else
      bd (fX7_copies (a0 + 7) 228 (0 : Int32) (a0 + 1) 228 (0 : Int32) (228 : Int32) z5.2) fun z8 =>
      some (.inr (.inr (((-1000 : Int32) - v2), z8)))
def fX7_read (a0 : Nat) (L : HL) : Option (Int32 × HL) :=
  bd (fX7_reads a0 L) fun z1 =>
  if z1.1 = (-1 : Int32) then (
    bd (fX7_copies (a0 + 1) 228 (0 : Int32) (a0 + 7) 228 (0 : Int32) (228 : Int32) z1.2) fun z3 =>
    lx (lp (fun s9 : Int32 × HL => fX7_read_b33 a0 s9.1 s9.2) FU ((0 : Int32), z3)) (fun v => some v) fun s9 =>
    some ((s9.2.1 a0 14), s9.2))
  else
    some (((-10 : Int32) - z1.1), z1.2)
def fX7_isKin_j64 (a0 : Nat) (n0 : Nat) (L : HL) : Option (Int32) :=
  some (1 : Int32)
def fX7_isKin_j39 (a0 : Nat) (n0 : Nat) (v1 : Int32) (v2 : Int32) (s0 : Int32) (L : HL) : Option (Int32) :=
  if s0 = 0 then (
    gd (vin ((19 : Int32) + v1) n0) <|
    if (L.1 a0 ((19 : Int32) + v1).toNatClampNeg) = v2 then (
      fX7_isKin_j64 a0 n0 L)
    else
      gd (vin ((19 : Int32) + v2) n0) <|
      if (L.1 a0 ((19 : Int32) + v2).toNatClampNeg) = v1 then (
        fX7_isKin_j64 a0 n0 L)
      else
        some (0 : Int32))
  else
    fX7_isKin_j64 a0 n0 L
def fX7_isKin_j38 (a0 : Nat) (n0 : Nat) (v1 : Int32) (v2 : Int32) (L : HL) : Option (Int32) :=
  fX7_isKin_j39 a0 n0 v1 v2 (0 : Int32) L
def fX7_isKin (a0 : Nat) (n0 : Nat) (v1 : Int32) (v2 : Int32) (L : HL) : Option (Int32) :=
  gd (vin (((39 : Int32) + ((5 : Int32) * v1)) + v2) n0) <|
  if (L.1 a0 (((39 : Int32) + ((5 : Int32) * v1)) + v2).toNatClampNeg) = (1 : Int32) then (
    gd (vin ((29 : Int32) + v1) n0) <|
    if (L.1 a0 ((29 : Int32) + v1).toNatClampNeg) = (1 : Int32) then (
      gd (vin ((29 : Int32) + v2) n0) <|
      if (L.1 a0 ((29 : Int32) + v2).toNatClampNeg) = (1 : Int32) then (
        fX7_isKin_j39 a0 n0 v1 v2 (1 : Int32) L)
      else
        fX7_isKin_j38 a0 n0 v1 v2 L)
    else
      fX7_isKin_j38 a0 n0 v1 v2 L)
  else
    fX7_isKin_j38 a0 n0 v1 v2 L
def fX7_degreeOn_j27 (a0 : Nat) (a1 : Nat) (n1 : Nat) (v2 : Int32) (v3 : Int32) (v4 : Int32) (s1 : Int32) (s2 : Int32) (L : HL) : Option (Tn (Int32 × HL) (Int32 × HL)) :=
  gd (vin s1 5) <|
  lt (wI L (a0 + 8) s1.toNatClampNeg s2) fun L4 =>
  lt (v4 + (1 : Int32)) fun w5 =>
  some (.inl (w5, L4))
def fX7_degreeOn_b3 (a0 : Nat) (a1 : Nat) (n1 : Nat) (v2 : Int32) (v3 : Int32) (v4 : Int32) (L : HL) : Option (Tn (Int32 × HL) (Int32 × HL)) :=
  if (5 : Int32) ≤ v4 then (
    some (.inr (.inl (v4, L))))
  else
    if v4 = v2 then (
      fX7_degreeOn_j27 a0 a1 n1 v2 v3 v4 v4 (0 : Int32) L)
    else
      fX7_degreeOn_j27 a0 a1 n1 v2 v3 v4 v4 (1000000 : Int32) L
def fX7_degreeOn_j127 (a0 : Nat) (a1 : Nat) (n1 : Nat) (v3 : Int32) (v4 : Int32) (v5 : Int32) (v6 : Int32) (s1 : Int32) (s2 : Int32) (L : HL) : Option (Tn (Int32 × HL) (Int32 × HL)) :=
  gd (vin s1 5) <|
  lt (wI L (a0 + 8) s1.toNatClampNeg s2) fun L15 =>
  lt (v6 + (1 : Int32)) fun w16 =>
  some (.inl (w16, L15))
def fX7_degreeOn_j120 (a0 : Nat) (a1 : Nat) (n1 : Nat) (v3 : Int32) (v4 : Int32) (v5 : Int32) (v6 : Int32) (s1 : Int32) (L : HL) : Option (Tn (Int32 × HL) (Int32 × HL)) :=
  gd (vin v6 5) <|
  fX7_degreeOn_j127 a0 a1 n1 v3 v4 v5 v6 s1 (L.1 (a0 + 8) v6.toNatClampNeg) L
def fX7_degreeOn_b57 (a0 : Nat) (a1 : Nat) (n1 : Nat) (v3 : Int32) (v4 : Int32) (v5 : Int32) (v6 : Int32) (L : HL) : Option (Tn (Int32 × HL) (Int32 × HL)) :=
  gd (vin (0 : Int32) n1) <|
  if (L.1 a1 (0 : Int32).toNatClampNeg) ≤ v6 then (
    some (.inr (.inl (v6, L))))
  else
    if v5 = v6 then (
      fX7_degreeOn_j120 a0 a1 n1 v3 v4 v5 v6 v6 L)
    else
      bd (fX7_isKin a1 n1 v5 v6 L) fun z17 =>
      if z17 = 0 then (
        fX7_degreeOn_j120 a0 a1 n1 v3 v4 v5 v6 v6 L)
      else
        gd (vin v5 5) <|
        gd (vin v6 5) <|
        if (L.1 (a0 + 8) v6.toNatClampNeg) ≤ ((L.1 (a0 + 8) v5.toNatClampNeg) + (1 : Int32)) then (
          fX7_degreeOn_j120 a0 a1 n1 v3 v4 v5 v6 v6 L)
        else
          gd (vin v5 5) <|
          fX7_degreeOn_j127 a0 a1 n1 v3 v4 v5 v6 v6 ((L.1 (a0 + 8) v5.toNatClampNeg) + (1 : Int32)) L
def fX7_degreeOn_b46 (a0 : Nat) (a1 : Nat) (n1 : Nat) (v3 : Int32) (v4 : Int32) (v5 : Int32) (L : HL) : Option (Tn (Int32 × HL) (Int32 × HL)) :=
  gd (vin (0 : Int32) n1) <|
  if (L.1 a1 (0 : Int32).toNatClampNeg) ≤ v5 then (
    some (.inr (.inl (v5, L))))
  else
    lx (lp (fun s23 : Int32 × HL => fX7_degreeOn_b57 a0 a1 n1 v3 v4 v5 s23.1 s23.2) FU ((0 : Int32), L)) (fun v => some (.inr (.inr v))) fun s23 =>
    lt (v5 + (1 : Int32)) fun w24 =>
    some (.inl (w24, s23.2))
def fX7_degreeOn_b37 (a0 : Nat) (a1 : Nat) (n1 : Nat) (v3 : Int32) (v4 : Int32) (L : HL) : Option (Tn (Int32 × HL) (Int32 × HL)) :=
  if (5 : Int32) ≤ v4 then (
    some (.inr (.inl (v4, L))))
  else
    lx (lp (fun s26 : Int32 × HL => fX7_degreeOn_b46 a0 a1 n1 v3 v4 s26.1 s26.2) FU ((0 : Int32), L)) (fun v => some (.inr (.inr v))) fun s26 =>
    lt (v4 + (1 : Int32)) fun w27 =>
    some (.inl (w27, s26.2))
def fX7_degreeOn (a0 : Nat) (a1 : Nat) (n1 : Nat) (v2 : Int32) (v3 : Int32) (L : HL) : Option (Int32 × HL) :=
  lx (lp (fun s6 : Int32 × HL => fX7_degreeOn_b3 a0 a1 n1 v2 v3 s6.1 s6.2) FU ((0 : Int32), L)) (fun v => some v) fun s6 =>
  lx (lp (fun s29 : Int32 × HL => fX7_degreeOn_b37 a0 a1 n1 v3 s29.1 s29.2) FU ((0 : Int32), s6.2)) (fun v => some v) fun s29 =>
  gd (vin v3 5) <|
  if (1000000 : Int32) ≤ (s29.2.1 (a0 + 8) v3.toNatClampNeg) then (
    some ((-1 : Int32), s29.2))
  else
    gd (vin v3 5) <|
    some ((s29.2.1 (a0 + 8) v3.toNatClampNeg), s29.2)
def fX7_livingIn_b4 (a0 : Nat) (n0 : Nat) (v1 : Int32) (v2 : Int32) (v3 : Int32) (L : HL) : Option (Tn (Int32 × Int32) (Int32)) :=
  gd (vin (1 : Int32) n0) <|
  if (L.1 a0 (1 : Int32).toNatClampNeg) ≤ v3 then (
    some (.inr (.inl (v2, v3))))
  else
    gd (vin ((70 : Int32) + v3) n0) <|
    if (L.1 a0 ((70 : Int32) + v3).toNatClampNeg) = v1 then (
      lt ((v2 ||| ((1 : Int32) <<< (v3 &&& 31)))) fun w5 =>
      lt (v3 + (1 : Int32)) fun w6 =>
      some (.inl (w5, w6)))
    else
      lt ((v2 ||| (0 : Int32))) fun w7 =>
      lt (v3 + (1 : Int32)) fun w8 =>
      some (.inl (w7, w8))
def fX7_livingIn (a0 : Nat) (n0 : Nat) (v1 : Int32) (L : HL) : Option (Int32) :=
  lx (lp (fun s9 : Int32 × Int32 => fX7_livingIn_b4 a0 n0 v1 s9.1 s9.2 L) FU ((0 : Int32), (0 : Int32))) (fun v => some v) fun s9 =>
  some s9.1
def fX7_isFeud_j72 (a0 : Nat) (n0 : Nat) (v1 : Int32) (v2 : Int32) (v3 : Int32) (v4 : Int32) (v5 : Int32) (L : HL) : Option (Tn (Int32 × Int32) (Int32)) :=
  lt (v5 + (1 : Int32)) fun w16 =>
  some (.inl ((1 : Int32), w16))
def fX7_isFeud_b16 (a0 : Nat) (n0 : Nat) (v1 : Int32) (v2 : Int32) (v3 : Int32) (v4 : Int32) (v5 : Int32) (L : HL) : Option (Tn (Int32 × Int32) (Int32)) :=
  gd (vin (1 : Int32) n0) <|
  if (L.1 a0 (1 : Int32).toNatClampNeg) ≤ v5 then (
    some (.inr (.inl (v3, v5))))
  else
    if v3 = 0 then (
      bd (fX7_holds v1 v4) fun z6 =>
      if z6 = 0 then (
        lt (v5 + (1 : Int32)) fun w8 =>
        some (.inl ((0 : Int32), w8)))
      else
        bd (fX7_holds v2 v5) fun z9 =>
        if z9 = 0 then (
          lt (v5 + (1 : Int32)) fun w11 =>
          some (.inl ((0 : Int32), w11)))
        else
          gd (vin ((64 : Int32) + v4) n0) <|
          gd (vin ((64 : Int32) + v5) n0) <|
          gd (vin (((76 : Int32) + ((4 : Int32) * (L.1 a0 ((64 : Int32) + v4).toNatClampNeg))) + (L.1 a0 ((64 : Int32) + v5).toNatClampNeg)) n0) <|
          if (L.1 a0 (((76 : Int32) + ((4 : Int32) * (L.1 a0 ((64 : Int32) + v4).toNatClampNeg))) + (L.1 a0 ((64 : Int32) + v5).toNatClampNeg)).toNatClampNeg) = (1 : Int32) then (
            fX7_isFeud_j72 a0 n0 v1 v2 v3 v4 v5 L)
          else
            lt (v5 + (1 : Int32)) fun w17 =>
            some (.inl ((0 : Int32), w17)))
    else
      fX7_isFeud_j72 a0 n0 v1 v2 v3 v4 v5 L
def fX7_isFeud_b5 (a0 : Nat) (n0 : Nat) (v1 : Int32) (v2 : Int32) (v3 : Int32) (v4 : Int32) (L : HL) : Option (Tn (Int32 × Int32) (Int32)) :=
  gd (vin (1 : Int32) n0) <|
  if (L.1 a0 (1 : Int32).toNatClampNeg) ≤ v4 then (
    some (.inr (.inl (v3, v4))))
  else
    lx (lp (fun s18 : Int32 × Int32 => fX7_isFeud_b16 a0 n0 v1 v2 s18.1 v4 s18.2 L) FU (v3, (0 : Int32))) (fun v => some (.inr (.inr v))) fun s18 =>
    lt (v4 + (1 : Int32)) fun w19 =>
    some (.inl (s18.1, w19))
def fX7_isFeud (a0 : Nat) (n0 : Nat) (v1 : Int32) (v2 : Int32) (L : HL) : Option (Int32) :=
  lx (lp (fun s21 : Int32 × Int32 => fX7_isFeud_b5 a0 n0 v1 v2 s21.1 s21.2 L) FU ((0 : Int32), (0 : Int32))) (fun v => some v) fun s21 =>
  gd (s21.1 = 0 ∨ s21.1 = 1) <|
  some s21.1
def fX7_rankOn_j215 (a0 : Nat) (a1 : Nat) (n1 : Nat) (v5 : Int32) (s0 : Int32) (L : HL) : Option (Int32 × HL) :=
  if s0 = 0 then (
    some (v5, L))
  else
    some ((1000 : Int32), L)
def fX7_rankOn_j210 (a0 : Nat) (a1 : Nat) (n1 : Nat) (v5 : Int32) (L : HL) : Option (Int32 × HL) :=
  fX7_rankOn_j215 a0 a1 n1 v5 (1 : Int32) L
def fX7_rankOn_j214 (a0 : Nat) (a1 : Nat) (n1 : Nat) (v5 : Int32) (L : HL) : Option (Int32 × HL) :=
  fX7_rankOn_j215 a0 a1 n1 v5 (0 : Int32) L
def fX7_rankOn_j115 (a0 : Nat) (a1 : Nat) (n1 : Nat) (v7 : Int32) (s0 : Int32) (L : HL) : Option (Int32 × HL) :=
  bd (fX7_bits v7) fun z36 =>
  some ((s0 - ((2 : Int32) * z36)), L)
def fX7_rankOn (a0 : Nat) (a1 : Nat) (n1 : Nat) (v2 : Int32) (v3 : Int32) (v4 : Int32) (L : HL) : Option (Int32 × HL) :=
  gd (vin ((29 : Int32) + v3) n1) <|
  if (L.1 a1 ((29 : Int32) + v3).toNatClampNeg) = 0 then (
    some ((1000 : Int32), L))
  else
    gd (vin ((29 : Int32) + v4) n1) <|
    if (L.1 a1 ((29 : Int32) + v4).toNatClampNeg) = 0 then (
      some ((1000 : Int32), L))
    else
      bd (fX7_degreeOn a0 a1 n1 v3 v4 L) fun z5 =>
      bd (fX7_livingIn a1 n1 v3 z5.2) fun z6 =>
      bd (fX7_livingIn a1 n1 v4 z5.2) fun z7 =>
      if v2 = (0 : Int32) then (
        if z5.1 = (-1 : Int32) then (
          some ((1000 : Int32), z5.2))
        else
          some (z5.1, z5.2))
      else
      if v2 = (1 : Int32) then (
        if z5.1 = (-1 : Int32) then (
          fX7_rankOn_j210 a0 a1 n1 z5.1 z5.2)
        else
          gd (vin ((4 : Int32) + v4) n1) <|
          bd (fX7_bits z7) fun z14 =>
          bd (fX7_bits z6) fun z15 =>
          if ((z5.2.1 a1 ((4 : Int32) + v4).toNatClampNeg) - z14) < z15 then (
            fX7_rankOn_j210 a0 a1 n1 z5.1 z5.2)
          else
            if v2 = (3 : Int32) then (
              bd (fX7_isFeud a1 n1 z6 z7 z5.2) fun z18 =>
              if z18 = 0 then (
                fX7_rankOn_j214 a0 a1 n1 z5.1 z5.2)
              else
                fX7_rankOn_j210 a0 a1 n1 z5.1 z5.2)
            else
              fX7_rankOn_j214 a0 a1 n1 z5.1 z5.2)
      else
      if v2 = (2 : Int32) then (
        if z5.1 = (-1 : Int32) then (
          some ((1000 : Int32), z5.2))
        else
          gd (vin ((9 : Int32) + v4) n1) <|
          some ((((10 : Int32) * z5.1) - ((z5.2.1 a1 ((9 : Int32) + v4).toNatClampNeg) / (10 : Int32))), z5.2))
      else
      if v2 = (3 : Int32) then (
        if z5.1 = (-1 : Int32) then (
          fX7_rankOn_j210 a0 a1 n1 z5.1 z5.2)
        else
          gd (vin ((4 : Int32) + v4) n1) <|
          bd (fX7_bits z7) fun z26 =>
          bd (fX7_bits z6) fun z27 =>
          if ((z5.2.1 a1 ((4 : Int32) + v4).toNatClampNeg) - z26) < z27 then (
            fX7_rankOn_j210 a0 a1 n1 z5.1 z5.2)
          else
            if v2 = (3 : Int32) then (
              bd (fX7_isFeud a1 n1 z6 z7 z5.2) fun z30 =>
              if z30 = 0 then (
                fX7_rankOn_j214 a0 a1 n1 z5.1 z5.2)
              else
                fX7_rankOn_j210 a0 a1 n1 z5.1 z5.2)
            else
              fX7_rankOn_j214 a0 a1 n1 z5.1 z5.2)
      else
      if v2 = (4 : Int32) then (
        if z5.1 = (-1 : Int32) then (
          some ((9 : Int32), z5.2))
        else
          some (z5.1, z5.2))
      else
      if v2 = (5 : Int32) then (
        if z5.1 = (-1 : Int32) then (
          fX7_rankOn_j115 a0 a1 n1 z7 (9 : Int32) z5.2)
        else
          fX7_rankOn_j115 a0 a1 n1 z7 z5.1 z5.2)
      else
      if z5.1 = (-1 : Int32) then (
        fX7_rankOn_j210 a0 a1 n1 z5.1 z5.2)
      else
        gd (vin ((4 : Int32) + v4) n1) <|
        bd (fX7_bits z7) fun z39 =>
        bd (fX7_bits z6) fun z40 =>
        if ((z5.2.1 a1 ((4 : Int32) + v4).toNatClampNeg) - z39) < z40 then (
          fX7_rankOn_j210 a0 a1 n1 z5.1 z5.2)
        else
          if v2 = (3 : Int32) then (
            bd (fX7_isFeud a1 n1 z6 z7 z5.2) fun z43 =>
            if z43 = 0 then (
              fX7_rankOn_j214 a0 a1 n1 z5.1 z5.2)
            else
              fX7_rankOn_j210 a0 a1 n1 z5.1 z5.2)
          else
            fX7_rankOn_j214 a0 a1 n1 z5.1 z5.2
def fX7_heirOn_j56 (a0 : Nat) (a1 : Nat) (n1 : Nat) (v2 : Int32) (v3 : Int32) (v4 : Int32) (v5 : Int32) (v6 : Int32) (v7 : Int32) (s0 : Int32) (L : HL) : Option (Tn (Int32 × Int32 × Int32 × HL) (Int32 × HL)) :=
  if v5 ≤ v7 then (
    lt (v6 + (1 : Int32)) fun w6 =>
    some (.inl (s0, v5, w6, L)))
  else
    lt (v6 + (1 : Int32)) fun w7 =>
    some (.inl (s0, v7, w7, L))
def fX7_heirOn_j40 (a0 : Nat) (a1 : Nat) (n1 : Nat) (v2 : Int32) (v3 : Int32) (v4 : Int32) (v5 : Int32) (v6 : Int32) (s0 : Int32) (L : HL) : Option (Tn (Int32 × Int32 × Int32 × HL) (Int32 × HL)) :=
  if v5 ≤ s0 then (
    fX7_heirOn_j56 a0 a1 n1 v2 v3 v4 v5 v6 s0 v4 L)
  else
    fX7_heirOn_j56 a0 a1 n1 v2 v3 v4 v5 v6 s0 v6 L
def fX7_heirOn_b11 (a0 : Nat) (a1 : Nat) (n1 : Nat) (v2 : Int32) (v3 : Int32) (v4 : Int32) (v5 : Int32) (v6 : Int32) (L : HL) : Option (Tn (Int32 × Int32 × Int32 × HL) (Int32 × HL)) :=
  gd (vin (0 : Int32) n1) <|
  if (L.1 a1 (0 : Int32).toNatClampNeg) ≤ v6 then (
    some (.inr (.inl (v4, v5, v6, L))))
  else
    if v6 = v3 then (
      fX7_heirOn_j40 a0 a1 n1 v2 v3 v4 v5 v6 (1000 : Int32) L)
    else
      bd (fX7_rankOn a0 a1 n1 v2 v3 v6 L) fun z8 =>
      fX7_heirOn_j40 a0 a1 n1 v2 v3 v4 v5 v6 z8.1 z8.2
def fX7_heirOn (a0 : Nat) (a1 : Nat) (n1 : Nat) (v2 : Int32) (v3 : Int32) (L : HL) : Option (Int32 × HL) :=
  lx (lp (fun s9 : Int32 × Int32 × Int32 × HL => fX7_heirOn_b11 a0 a1 n1 v2 v3 s9.1 s9.2.1 s9.2.2.1 s9.2.2.2) FU ((-1 : Int32), (1000 : Int32), (0 : Int32), L)) (fun v => some v) fun s9 =>
  some (s9.1, s9.2.2.2)
def fX7_falls_j52 (a0 : Nat) (a1 : Nat) (n1 : Nat) (v2 : Int32) (v3 : Int32) (v4 : Int32) (s1 : Int32) (s2 : Int32) (L : HL) : Option (Tn (Int32 × HL) (Int32 × HL)) :=
  gd (vin s1 n1) <|
  lt (wI L a1 s1.toNatClampNeg s2) fun L8 =>
  lt (v4 + (1 : Int32)) fun w9 =>
  some (.inl (w9, L8))
def fX7_falls_b16 (a0 : Nat) (a1 : Nat) (n1 : Nat) (v2 : Int32) (v3 : Int32) (v4 : Int32) (L : HL) : Option (Tn (Int32 × HL) (Int32 × HL)) :=
  gd (vin (1 : Int32) n1) <|
  if (L.1 a1 (1 : Int32).toNatClampNeg) ≤ v4 then (
    some (.inr (.inl (v4, L))))
  else
    gd (vin ((70 : Int32) + v4) n1) <|
    if (L.1 a1 ((70 : Int32) + v4).toNatClampNeg) = v2 then (
      fX7_falls_j52 a0 a1 n1 v2 v3 v4 ((70 : Int32) + v4) v3 L)
    else
      gd (vin ((70 : Int32) + v4) n1) <|
      fX7_falls_j52 a0 a1 n1 v2 v3 v4 ((70 : Int32) + v4) (L.1 a1 ((70 : Int32) + v4).toNatClampNeg) L
def fX7_falls (a0 : Nat) (a1 : Nat) (n1 : Nat) (v2 : Int32) (L : HL) : Option (Int32 × HL) :=
  gd (vin ((24 : Int32) + v2) n1) <|
  bd (fX7_heirOn a0 a1 n1 (L.1 a1 ((24 : Int32) + v2).toNatClampNeg) v2 L) fun z2 =>
  lx (lp (fun s11 : Int32 × HL => fX7_falls_b16 a0 a1 n1 v2 z2.1 s11.1 s11.2) FU ((0 : Int32), z2.2)) (fun v => some v) fun s11 =>
  gd (vin ((29 : Int32) + v2) n1) <|
  lt (wI s11.2 a1 ((29 : Int32) + v2).toNatClampNeg (0 : Int32)) fun L13 =>
  some (z2.1, L13)
def fX7_isOverfull (a0 : Nat) (n0 : Nat) (v1 : Int32) (L : HL) : Option (Int32) :=
  bd (fX7_livingIn a0 n0 v1 L) fun z1 =>
  bd (fX7_bits z1) fun z2 =>
  gd (vin ((4 : Int32) + v1) n0) <|
  if z2 ≤ (L.1 a0 ((4 : Int32) + v1).toNatClampNeg) then (
    some (0 : Int32))
  else
    some (1 : Int32)
def fX7_yearGoes_j42 (a0 : Nat) (a1 : Nat) (n1 : Nat) (v2 : Int32) (s1 : Int32) (s2 : Int32) (s3 : Int32) (L : HL) : Option (Tn (Int32 × HL) (HL)) :=
  gd (vin s1 n1) <|
  lt (wI L a1 s1.toNatClampNeg (s2 + s3)) fun L7 =>
  lt (v2 + (1 : Int32)) fun w8 =>
  some (.inl (w8, L7))
def fX7_yearGoes_b2 (a0 : Nat) (a1 : Nat) (n1 : Nat) (v2 : Int32) (L : HL) : Option (Tn (Int32 × HL) (HL)) :=
  gd (vin (0 : Int32) n1) <|
  if (L.1 a1 (0 : Int32).toNatClampNeg) ≤ v2 then (
    some (.inr (.inl (v2, L))))
  else
    gd (vin ((14 : Int32) + v2) n1) <|
    gd (vin ((29 : Int32) + v2) n1) <|
    if (L.1 a1 ((29 : Int32) + v2).toNatClampNeg) = 0 then (
      fX7_yearGoes_j42 a0 a1 n1 v2 ((14 : Int32) + v2) (L.1 a1 ((14 : Int32) + v2).toNatClampNeg) (0 : Int32) L)
    else
      bd (fX7_isOverfull a1 n1 v2 L) fun z9 =>
      if z9 = 0 then (
        fX7_yearGoes_j42 a0 a1 n1 v2 ((14 : Int32) + v2) (L.1 a1 ((14 : Int32) + v2).toNatClampNeg) (1 : Int32) L)
      else
        fX7_yearGoes_j42 a0 a1 n1 v2 ((14 : Int32) + v2) (L.1 a1 ((14 : Int32) + v2).toNatClampNeg) (2 : Int32) L
def fX7_yearGoes_b52 (a0 : Nat) (a1 : Nat) (n1 : Nat) (v2 : Int32) (L : HL) : Option (Tn (Int32 × HL) (HL)) :=
  gd (vin (0 : Int32) n1) <|
  if (L.1 a1 (0 : Int32).toNatClampNeg) ≤ v2 then (
    some (.inr (.inl (v2, L))))
  else
    gd (vin ((29 : Int32) + v2) n1) <|
    if (L.1 a1 ((29 : Int32) + v2).toNatClampNeg) = (1 : Int32) then (
      gd (vin ((14 : Int32) + v2) n1) <|
      if (L.1 a1 ((14 : Int32) + v2).toNatClampNeg) < (100 : Int32) then (
        lt (v2 + (1 : Int32)) fun w18 =>
        some (.inl (w18, L)))
      else
        bd (fX7_falls a0 a1 n1 v2 L) fun z19 =>
        lt (v2 + (1 : Int32)) fun w20 =>
        some (.inl (w20, z19.2)))
    else
      lt (v2 + (1 : Int32)) fun w21 =>
      some (.inl (w21, L))
def fX7_yearGoes (a0 : Nat) (a1 : Nat) (n1 : Nat) (L : HL) : Option (HL) :=
  lx (lp (fun s11 : Int32 × HL => fX7_yearGoes_b2 a0 a1 n1 s11.1 s11.2) FU ((0 : Int32), L)) (fun v => some v) fun s11 =>
  lx (lp (fun s22 : Int32 × HL => fX7_yearGoes_b52 a0 a1 n1 s22.1 s22.2) FU ((0 : Int32), s11.2)) (fun v => some v) fun s22 =>
  gd (vin (2 : Int32) n1) <|
  gd (vin (2 : Int32) n1) <|
  lt (wI s22.2 a1 (2 : Int32).toNatClampNeg ((s22.2.1 a1 (2 : Int32).toNatClampNeg) + (1 : Int32))) fun L25 =>
  some L25
def fX7_standing_b4 (a0 : Nat) (n0 : Nat) (v1 : Int32) (v2 : Int32) (L : HL) : Option (Tn (Int32 × Int32) (Int32)) :=
  gd (vin (0 : Int32) n0) <|
  if (L.1 a0 (0 : Int32).toNatClampNeg) ≤ v2 then (
    some (.inr (.inl (v1, v2))))
  else
    gd (vin ((29 : Int32) + v2) n0) <|
    lt ((v1 ||| ((L.1 a0 ((29 : Int32) + v2).toNatClampNeg) <<< (v2 &&& 31)))) fun w4 =>
    lt (v2 + (1 : Int32)) fun w5 =>
    some (.inl (w4, w5))
def fX7_standing (a0 : Nat) (n0 : Nat) (L : HL) : Option (Int32) :=
  lx (lp (fun s6 : Int32 × Int32 => fX7_standing_b4 a0 n0 s6.1 s6.2 L) FU ((0 : Int32), (0 : Int32))) (fun v => some v) fun s6 =>
  some s6.1
def fX7_remember_b13 (a0 : Nat) (v1 : Int32) (L : HL) : Option (Tn (Int32 × HL) (HL)) :=
  if (119 : Int32) ≤ v1 then (
    some (.inr (.inl (v1, L))))
  else
    gd (vin (((92 : Int32) + v1) + (17 : Int32)) 228) <|
    gd (vin ((92 : Int32) + v1) 228) <|
    lt (wI L (a0 + 1) ((92 : Int32) + v1).toNatClampNeg (L.1 (a0 + 1) (((92 : Int32) + v1) + (17 : Int32)).toNatClampNeg)) fun L5 =>
    lt (v1 + (1 : Int32)) fun w6 =>
    some (.inl (w6, L5))
def fX7_remember_j56 (a0 : Nat) (L : HL) : Option (HL) :=
  lt (((92 : Int32) + ((17 : Int32) * (L.1 (a0 + 1) (3 : Int32).toNatClampNeg)))) fun w9 =>
  bd (fX7_copies (a0 + 1) 228 (29 : Int32) (a0 + 1) 228 w9 (5 : Int32) L) fun z10 =>
  bd (fX7_copies (a0 + 1) 228 (14 : Int32) (a0 + 1) 228 (w9 + (5 : Int32)) (5 : Int32) z10) fun z11 =>
  bd (fX7_copies (a0 + 1) 228 (70 : Int32) (a0 + 1) 228 (w9 + (10 : Int32)) (6 : Int32) z11) fun z12 =>
  gd (vin (w9 + (16 : Int32)) 228) <|
  lt (wI z12 (a0 + 1) (w9 + (16 : Int32)).toNatClampNeg (z12.1 (a0 + 1) (2 : Int32).toNatClampNeg)) fun L14 =>
  lt (wI L14 (a0 + 1) (3 : Int32).toNatClampNeg ((L14.1 (a0 + 1) (3 : Int32).toNatClampNeg) + (1 : Int32))) fun L15 =>
  some L15
def fX7_remember (a0 : Nat) (L : HL) : Option (HL) :=
  if (L.1 (a0 + 1) (3 : Int32).toNatClampNeg) = (8 : Int32) then (
    lx (lp (fun s7 : Int32 × HL => fX7_remember_b13 a0 s7.1 s7.2) FU ((0 : Int32), L)) (fun v => some v) fun s7 =>
    lt (wI s7.2 (a0 + 1) (3 : Int32).toNatClampNeg ((s7.2.1 (a0 + 1) (3 : Int32).toNatClampNeg) - (1 : Int32))) fun L8 =>
    fX7_remember_j56 a0 L8)
  else
    fX7_remember_j56 a0 L
def fX7_fall (a0 : Nat) (v1 : Int32) (L : HL) : Option (Int32 × HL) :=
  bd (fX7_isHouse a0 v1 L) fun z1 =>
  if z1 = 0 then (
    bd (fX7_bad a0 (-10 : Int32) L) fun z3 =>
    some (z3.1, z3.2))
  else
    gd (vin ((29 : Int32) + v1) 228) <|
    if (L.1 (a0 + 1) ((29 : Int32) + v1).toNatClampNeg) = 0 then (
      bd (fX7_no a0 (-20 : Int32) L) fun z6 =>
      some (z6.1, z6.2))
    else
      bd (fX7_remember a0 L) fun z7 =>
      bd (fX7_falls a0 (a0 + 1) 228 v1 z7) fun z8 =>
      some (z8.1, z8.2)
def fX7_year_b21 (a0 : Nat) (v1 : Int32) (v2 : Int32) (L : HL) : Option (Tn (Int32 × HL) (Int32 × HL)) :=
  if v1 ≤ v2 then (
    some (.inr (.inl (v2, L))))
  else
    bd (fX7_remember a0 L) fun z5 =>
    bd (fX7_yearGoes a0 (a0 + 1) 228 z5) fun z6 =>
    lt (v2 + (1 : Int32)) fun w7 =>
    some (.inl (w7, z6))
def fX7_year (a0 : Nat) (v1 : Int32) (L : HL) : Option (Int32 × HL) :=
  bd (fX7_in v1.toInt64 (1 : Int64) (20 : Int64)) fun z1 =>
  if z1 = 0 then (
    bd (fX7_bad a0 (-2 : Int32) L) fun z3 =>
    some (z3.1, z3.2))
  else
    lx (lp (fun s8 : Int32 × HL => fX7_year_b21 a0 v1 s8.1 s8.2) FU ((0 : Int32), L)) (fun v => some v) fun s8 =>
    bd (fX7_standing (a0 + 1) 228 s8.2) fun z9 =>
    bd (fX7_bits z9) fun z10 =>
    some (z10, s8.2)
def fX7_move_j21 (a0 : Nat) (L : HL) : Option (Int32 × HL) :=
  bd (fX7_bad a0 (-10 : Int32) L) fun z3 =>
  some (z3.1, z3.2)
def fX7_move_j58 (a0 : Nat) (L : HL) : Option (Int32 × HL) :=
  bd (fX7_no a0 (-20 : Int32) L) fun z8 =>
  some (z8.1, z8.2)
def fX7_move_j45 (a0 : Nat) (v1 : Int32) (v2 : Int32) (L : HL) : Option (Int32 × HL) :=
  gd (vin ((70 : Int32) + v1) 228) <|
  if (L.1 (a0 + 1) ((70 : Int32) + v1).toNatClampNeg) = v2 then (
    fX7_move_j58 a0 L)
  else
    bd (fX7_remember a0 L) fun z9 =>
    gd (vin ((70 : Int32) + v1) 228) <|
    lt ((z9.1 (a0 + 1) ((70 : Int32) + v1).toNatClampNeg)) fun w11 =>
    gd (vin ((70 : Int32) + v1) 228) <|
    lt (wI z9 (a0 + 1) ((70 : Int32) + v1).toNatClampNeg v2) fun L13 =>
    some (w11, L13)
def fX7_move_j28 (a0 : Nat) (v1 : Int32) (v2 : Int32) (L : HL) : Option (Int32 × HL) :=
  if v2 = (-1 : Int32) then (
    fX7_move_j45 a0 v1 v2 L)
  else
    gd (vin ((29 : Int32) + v2) 228) <|
    if (L.1 (a0 + 1) ((29 : Int32) + v2).toNatClampNeg) = 0 then (
      fX7_move_j58 a0 L)
    else
      fX7_move_j45 a0 v1 v2 L
def fX7_move (a0 : Nat) (v1 : Int32) (v2 : Int32) (L : HL) : Option (Int32 × HL) :=
  bd (fX7_isOne a0 v1 L) fun z1 =>
  if z1 = 0 then (
    fX7_move_j21 a0 L)
  else
    if v2 = (-1 : Int32) then (
      fX7_move_j28 a0 v1 v2 L)
    else
      bd (fX7_isHouse a0 v2 L) fun z16 =>
      if z16 = 0 then (
        fX7_move_j21 a0 L)
      else
        fX7_move_j28 a0 v1 v2 L
def fX7_undo (a0 : Nat) (L : HL) : Option (Int32 × HL) :=
  if (L.1 (a0 + 1) (3 : Int32).toNatClampNeg) = 0 then (
    bd (fX7_no a0 (-3 : Int32) L) fun z2 =>
    some (z2.1, z2.2))
  else
    lt (wI L (a0 + 1) (3 : Int32).toNatClampNeg ((L.1 (a0 + 1) (3 : Int32).toNatClampNeg) - (1 : Int32))) fun L3 =>
    lt (((92 : Int32) + ((17 : Int32) * (L3.1 (a0 + 1) (3 : Int32).toNatClampNeg)))) fun w4 =>
    bd (fX7_copies (a0 + 1) 228 w4 (a0 + 1) 228 (29 : Int32) (5 : Int32) L3) fun z5 =>
    bd (fX7_copies (a0 + 1) 228 (w4 + (5 : Int32)) (a0 + 1) 228 (14 : Int32) (5 : Int32) z5) fun z6 =>
    bd (fX7_copies (a0 + 1) 228 (w4 + (10 : Int32)) (a0 + 1) 228 (70 : Int32) (6 : Int32) z6) fun z7 =>
    gd (vin (w4 + (16 : Int32)) 228) <|
    lt (wI z7 (a0 + 1) (2 : Int32).toNatClampNeg (z7.1 (a0 + 1) (w4 + (16 : Int32)).toNatClampNeg)) fun L9 =>
    some ((1 : Int32), L9)
def fX7_of_j20 (a0 : Nat) (L : HL) : Option (Int32 × HL) :=
  bd (fX7_bad a0 (-10 : Int32) L) fun z3 =>
  some (z3.1, z3.2)
def fX7_of_j62 (a0 : Nat) (v1 : Int32) (s1 : Int32) (s2 : Int32) (s3 : Int32) (L : HL) : Option (Int32 × HL) :=
  gd (vin ((s1 + (s2 * s3)) + v1) 228) <|
  some ((L.1 (a0 + 1) ((s1 + (s2 * s3)) + v1).toNatClampNeg), L)
def fX7_of (a0 : Nat) (v1 : Int32) (v2 : Int32) (L : HL) : Option (Int32 × HL) :=
  bd (fX7_isHouse a0 v1 L) fun z1 =>
  if z1 = 0 then (
    fX7_of_j20 a0 L)
  else
    bd (fX7_in v2.toInt64 (0 : Int64) (7 : Int64)) fun z4 =>
    if z4 = 0 then (
      fX7_of_j20 a0 L)
    else
      if v2 = (6 : Int32) then (
        bd (fX7_livingIn (a0 + 1) 228 v1 L) fun z7 =>
        some (z7, L))
      else
        if v2 = (7 : Int32) then (
          fX7_of_j62 a0 v1 (4 : Int32) (5 : Int32) (6 : Int32) L)
        else
          fX7_of_j62 a0 v1 (4 : Int32) (5 : Int32) v2 L
def fX7_who_j15 (a0 : Nat) (L : HL) : Option (Int32 × HL) :=
  bd (fX7_bad a0 (-10 : Int32) L) fun z3 =>
  some (z3.1, z3.2)
def fX7_who (a0 : Nat) (v1 : Int32) (v2 : Int32) (L : HL) : Option (Int32 × HL) :=
  bd (fX7_isOne a0 v1 L) fun z1 =>
  if z1 = 0 then (
    fX7_who_j15 a0 L)
  else
    bd (fX7_isTwo v2) fun z4 =>
    if z4 = 0 then (
      fX7_who_j15 a0 L)
    else
      gd (vin (((64 : Int32) + ((6 : Int32) * v2)) + v1) 228) <|
      some ((L.1 (a0 + 1) (((64 : Int32) + ((6 : Int32) * v2)) + v1).toNatClampNeg), L)
def fX7_degree_j29 (a0 : Nat) (L : HL) : Option (Int32 × HL) :=
  bd (fX7_bad a0 (-2 : Int32) L) fun z3 =>
  some (z3.1, z3.2)
def fX7_degree (a0 : Nat) (v1 : Int32) (v2 : Int32) (L : HL) : Option (Int32 × HL) :=
  bd (fX7_isHouse a0 v1 L) fun z1 =>
  if z1 = 0 then (
    fX7_degree_j29 a0 L)
  else
    bd (fX7_isHouse a0 v2 L) fun z4 =>
    if z4 = 0 then (
      fX7_degree_j29 a0 L)
    else
      bd (fX7_degreeOn a0 (a0 + 1) 228 v1 v2 L) fun z6 =>
      some (z6.1, z6.2)
def fX7_rank_j21 (a0 : Nat) (L : HL) : Option (Int32 × HL) :=
  bd (fX7_bad a0 (-1000 : Int32) L) fun z3 =>
  some (z3.1, z3.2)
def fX7_rank (a0 : Nat) (v1 : Int32) (v2 : Int32) (L : HL) : Option (Int32 × HL) :=
  bd (fX7_isHouse a0 v1 L) fun z1 =>
  if z1 = 0 then (
    fX7_rank_j21 a0 L)
  else
    bd (fX7_isHouse a0 v2 L) fun z4 =>
    if z4 = 0 then (
      fX7_rank_j21 a0 L)
    else
      if v1 = v2 then (
        fX7_rank_j21 a0 L)
      else
        gd (vin ((24 : Int32) + v1) 228) <|
        bd (fX7_rankOn a0 (a0 + 1) 228 (L.1 (a0 + 1) ((24 : Int32) + v1).toNatClampNeg) v1 v2 L) fun z8 =>
        some (z8.1, z8.2)
def fX7_heir (a0 : Nat) (v1 : Int32) (L : HL) : Option (Int32 × HL) :=
  bd (fX7_isHouse a0 v1 L) fun z1 =>
  if z1 = 0 then (
    bd (fX7_bad a0 (-10 : Int32) L) fun z3 =>
    some (z3.1, z3.2))
  else
    gd (vin ((24 : Int32) + v1) 228) <|
    bd (fX7_heirOn a0 (a0 + 1) 228 (L.1 (a0 + 1) ((24 : Int32) + v1).toNatClampNeg) v1 L) fun z5 =>
    some (z5.1, z5.2)
def fX7_wills_j21 (a0 : Nat) (L : HL) : Option (Int32 × HL) :=
  bd (fX7_bad a0 (-2 : Int32) L) fun z3 =>
  some (z3.1, z3.2)
def fX7_wills_b33 (a0 : Nat) (v1 : Int32) (v2 : Int32) (v3 : Int32) (v4 : Int32) (L : HL) : Option (Tn (Int32 × Int32 × HL) (Int32 × HL)) :=
  if (5 : Int32) < v4 then (
    some (.inr (.inl (v3, v4, L))))
  else
    bd (fX7_heirOn a0 (a0 + 1) 228 v4 v1 L) fun z8 =>
    if z8.1 = v2 then (
      lt ((v3 ||| ((1 : Int32) <<< (v4 &&& 31)))) fun w10 =>
      lt (v4 + (1 : Int32)) fun w11 =>
      some (.inl (w10, w11, z8.2)))
    else
      lt ((v3 ||| (0 : Int32))) fun w12 =>
      lt (v4 + (1 : Int32)) fun w13 =>
      some (.inl (w12, w13, z8.2))
def fX7_wills (a0 : Nat) (v1 : Int32) (v2 : Int32) (L : HL) : Option (Int32 × HL) :=
  bd (fX7_isHouse a0 v1 L) fun z1 =>
  if z1 = 0 then (
    fX7_wills_j21 a0 L)
  else
    bd (fX7_isHouse a0 v2 L) fun z4 =>
    if z4 = 0 then (
      fX7_wills_j21 a0 L)
    else
      if v1 = v2 then (
        fX7_wills_j21 a0 L)
      else
        lx (lp (fun s14 : Int32 × Int32 × HL => fX7_wills_b33 a0 v1 v2 s14.1 s14.2.1 s14.2.2) FU ((0 : Int32), (0 : Int32), L)) (fun v => some v) fun s14 =>
        some (s14.1, s14.2.2)
def fX7_layDay (a0 : Nat) (L : HL) : Option (HL) :=
  bd (fX7_copies (a0 + 1) 228 (0 : Int32) (a0 + 9) 92 (0 : Int32) (92 : Int32) L) fun z1 =>
  some z1
def fX7_mayHaveWall (a0 : Nat) (v1 : Int32) (v2 : Int32) (L : HL) : Option (Int32) :=
  gd (vin ((29 : Int32) + v1) 228) <|
  if (L.1 (a0 + 1) ((29 : Int32) + v1).toNatClampNeg) = (1 : Int32) then (
    gd (vin ((29 : Int32) + v2) 228) <|
    if (L.1 (a0 + 1) ((29 : Int32) + v2).toNatClampNeg) = (1 : Int32) then (
      gd (vin (((39 : Int32) + ((5 : Int32) * v1)) + v2) 228) <|
      if (L.1 (a0 + 1) (((39 : Int32) + ((5 : Int32) * v1)) + v2).toNatClampNeg) = 0 then (
        some (1 : Int32))
      else
        some (0 : Int32))
    else
      some (0 : Int32))
  else
    some (0 : Int32)
def fX7_layWall (a0 : Nat) (v1 : Int32) (v2 : Int32) (L : HL) : Option (HL) :=
  bd (fX7_layDay a0 L) fun z1 =>
  gd (vin (((39 : Int32) + ((5 : Int32) * v1)) + v2) 92) <|
  lt (wI z1 (a0 + 9) (((39 : Int32) + ((5 : Int32) * v1)) + v2).toNatClampNeg (1 : Int32)) fun L3 =>
  gd (vin (((39 : Int32) + ((5 : Int32) * v2)) + v1) 92) <|
  lt (wI L3 (a0 + 9) (((39 : Int32) + ((5 : Int32) * v2)) + v1).toNatClampNeg (1 : Int32)) fun L5 =>
  some L5
def fX7_buildFor_j21 (a0 : Nat) (L : HL) : Option (Int32 × HL) :=
  bd (fX7_bad a0 (-2 : Int32) L) fun z3 =>
  some (z3.1, z3.2)
def fX7_buildFor_b70 (a0 : Nat) (v1 : Int32) (v2 : Int32) (v3 : Int32) (v4 : Int32) (L : HL) : Option (Tn (Int32 × HL) (Int32 × HL)) :=
  if (L.1 (a0 + 1) (0 : Int32).toNatClampNeg) ≤ v4 then (
    some (.inr (.inl (v4, L))))
  else
    bd (fX7_mayHaveWall a0 v3 v4 L) fun z13 =>
    if z13 = 0 then (
      lt (v4 + (1 : Int32)) fun w15 =>
      some (.inl (w15, L)))
    else
      bd (fX7_layWall a0 v3 v4 L) fun z16 =>
      gd (vin ((24 : Int32) + v1) 92) <|
      bd (fX7_heirOn a0 (a0 + 9) 92 (z16.1 (a0 + 9) ((24 : Int32) + v1).toNatClampNeg) v1 z16) fun z18 =>
      if z18.1 = v2 then (
        some (.inr (.inr ((((10 : Int32) * v3) + v4), z18.2))))
      else
        lt (v4 + (1 : Int32)) fun w20 =>
        some (.inl (w20, z18.2))
def fX7_buildFor_b55 (a0 : Nat) (v1 : Int32) (v2 : Int32) (v3 : Int32) (L : HL) : Option (Tn (Int32 × HL) (Int32 × HL)) :=
  if (L.1 (a0 + 1) (0 : Int32).toNatClampNeg) ≤ v3 then (
    some (.inr (.inl (v3, L))))
  else
    lt ((v3 + (1 : Int32))) fun w11 =>
    lx (lp (fun s21 : Int32 × HL => fX7_buildFor_b70 a0 v1 v2 v3 s21.1 s21.2) FU (w11, L)) (fun v => some (.inr (.inr v))) fun s21 =>
    lt (v3 + (1 : Int32)) fun w22 =>
    some (.inl (w22, s21.2))
def fX7_buildFor (a0 : Nat) (v1 : Int32) (v2 : Int32) (L : HL) : Option (Int32 × HL) :=
  bd (fX7_isHouse a0 v1 L) fun z1 =>
  if z1 = 0 then (
    fX7_buildFor_j21 a0 L)
  else
    bd (fX7_isHouse a0 v2 L) fun z4 =>
    if z4 = 0 then (
      fX7_buildFor_j21 a0 L)
    else
      if v1 = v2 then (
        fX7_buildFor_j21 a0 L)
      else
        gd (vin ((24 : Int32) + v1) 228) <|
        bd (fX7_heirOn a0 (a0 + 1) 228 (L.1 (a0 + 1) ((24 : Int32) + v1).toNatClampNeg) v1 L) fun z8 =>
        if z8.1 = v2 then (
          some ((99 : Int32), z8.2))
        else
          lx (lp (fun s24 : Int32 × HL => fX7_buildFor_b55 a0 v1 v2 s24.1 s24.2) FU ((0 : Int32), z8.2)) (fun v => some v) fun s24 =>
          some ((-1 : Int32), s24.2)
def fX7_adopts_j21 (a0 : Nat) (L : HL) : Option (Int32 × HL) :=
  bd (fX7_bad a0 (-2 : Int32) L) fun z3 =>
  some (z3.1, z3.2)
def fX7_adopts_b55 (a0 : Nat) (v3 : Int32) (v4 : Int32) (L : HL) : Option (Tn (Int32 × Int32 × HL) (Int32 × HL)) :=
  if (L.1 (a0 + 1) (0 : Int32).toNatClampNeg) ≤ v4 then (
    some (.inr (.inl (v3, v4, L))))
  else
    gd (vin ((24 : Int32) + v4) 228) <|
    bd (fX7_heirOn a0 (a0 + 1) 228 (L.1 (a0 + 1) ((24 : Int32) + v4).toNatClampNeg) v4 L) fun z13 =>
    gd (vin ((24 : Int32) + v4) 228) <|
    bd (fX7_heirOn a0 (a0 + 9) 92 (z13.2.1 (a0 + 1) ((24 : Int32) + v4).toNatClampNeg) v4 z13.2) fun z15 =>
    if z13.1 = z15.1 then (
      lt ((v3 + (0 : Int32))) fun w17 =>
      lt (v4 + (1 : Int32)) fun w18 =>
      some (.inl (w17, w18, z15.2)))
    else
      lt ((v3 + (1 : Int32))) fun w19 =>
      lt (v4 + (1 : Int32)) fun w20 =>
      some (.inl (w19, w20, z15.2))
def fX7_adopts (a0 : Nat) (v1 : Int32) (v2 : Int32) (L : HL) : Option (Int32 × HL) :=
  bd (fX7_isHouse a0 v1 L) fun z1 =>
  if z1 = 0 then (
    fX7_adopts_j21 a0 L)
  else
    bd (fX7_isHouse a0 v2 L) fun z4 =>
    if z4 = 0 then (
      fX7_adopts_j21 a0 L)
    else
      if v1 = v2 then (
        fX7_adopts_j21 a0 L)
      else
        bd (fX7_mayHaveWall a0 v1 v2 L) fun z7 =>
        if z7 = 0 then (
          bd (fX7_no a0 (-3 : Int32) L) fun z9 =>
          some (z9.1, z9.2))
        else
          bd (fX7_layWall a0 v1 v2 L) fun z10 =>
          lx (lp (fun s21 : Int32 × Int32 × HL => fX7_adopts_b55 a0 s21.1 s21.2.1 s21.2.2) FU ((0 : Int32), (0 : Int32), z10)) (fun v => some v) fun s21 =>
          some (s21.1, s21.2.2)
def fX7_goYears_b6 (a0 : Nat) (v1 : Int32) (v2 : Int32) (L : HL) : Option (Tn (Int32 × HL) (HL)) :=
  if v1 ≤ v2 then (
    some (.inr (.inl (v2, L))))
  else
    bd (fX7_yearGoes a0 (a0 + 9) 92 L) fun z3 =>
    lt (v2 + (1 : Int32)) fun w4 =>
    some (.inl (w4, z3))
def fX7_goYears (a0 : Nat) (v1 : Int32) (L : HL) : Option (HL) :=
  bd (fX7_layDay a0 L) fun z1 =>
  lx (lp (fun s5 : Int32 × HL => fX7_goYears_b6 a0 v1 s5.1 s5.2) FU ((0 : Int32), z1)) (fun v => some v) fun s5 =>
  some s5.2
def fX7_lives_j20 (a0 : Nat) (L : HL) : Option (Int32 × HL) :=
  bd (fX7_bad a0 (-10 : Int32) L) fun z3 =>
  some (z3.1, z3.2)
def fX7_lives (a0 : Nat) (v1 : Int32) (v2 : Int32) (L : HL) : Option (Int32 × HL) :=
  bd (fX7_isOne a0 v1 L) fun z1 =>
  if z1 = 0 then (
    fX7_lives_j20 a0 L)
  else
    bd (fX7_in v2.toInt64 (0 : Int64) (60 : Int64)) fun z4 =>
    if z4 = 0 then (
      fX7_lives_j20 a0 L)
    else
      bd (fX7_goYears a0 v2 L) fun z6 =>
      gd (vin ((70 : Int32) + v1) 92) <|
      some ((z6.1 (a0 + 9) ((70 : Int32) + v1).toNatClampNeg), z6)
def fX7_stand (a0 : Nat) (v1 : Int32) (L : HL) : Option (Int32 × HL) :=
  bd (fX7_in v1.toInt64 (0 : Int64) (60 : Int64)) fun z1 =>
  if z1 = 0 then (
    bd (fX7_bad a0 (-2 : Int32) L) fun z3 =>
    some (z3.1, z3.2))
  else
    bd (fX7_goYears a0 v1 L) fun z4 =>
    bd (fX7_standing (a0 + 9) 92 z4) fun z5 =>
    some (z5, z4)
def fX7_overfull_b28 (a0 : Nat) (v1 : Int32) (v2 : Int32) (v3 : Int32) (L : HL) : Option (Tn (Int32) (Int32 × HL)) :=
  if (L.1 (a0 + 9) (0 : Int32).toNatClampNeg) ≤ v3 then (
    some (.inr (.inl v3)))
  else
    gd (vin ((29 : Int32) + v3) 92) <|
    if (L.1 (a0 + 9) ((29 : Int32) + v3).toNatClampNeg) = (1 : Int32) then (
      bd (fX7_isOverfull (a0 + 9) 92 v3 L) fun z9 =>
      if z9 = 0 then (
        lt (v3 + (1 : Int32)) fun w11 =>
        some (.inl w11))
      else
        if v1 = 0 then (
          some (.inr (.inr (v2, L))))
        else
          some (.inr (.inr (v3, L))))
    else
      lt (v3 + (1 : Int32)) fun w13 =>
      some (.inl w13)
def fX7_overfull_b20 (a0 : Nat) (v1 : Int32) (v2 : Int32) (L : HL) : Option (Tn (Int32 × HL) (Int32 × HL)) :=
  if (60 : Int32) < v2 then (
    some (.inr (.inl (v2, L))))
  else
    lx (lp (fun s14 : Int32 => fX7_overfull_b28 a0 v1 v2 s14 L) FU (0 : Int32)) (fun v => some (.inr (.inr v))) fun s14 =>
    bd (fX7_yearGoes a0 (a0 + 9) 92 L) fun z15 =>
    lt (v2 + (1 : Int32)) fun w16 =>
    some (.inl (w16, z15))
def fX7_overfull (a0 : Nat) (v1 : Int32) (L : HL) : Option (Int32 × HL) :=
  bd (fX7_isTwo v1) fun z1 =>
  if z1 = 0 then (
    bd (fX7_bad a0 (-10 : Int32) L) fun z3 =>
    some (z3.1, z3.2))
  else
    bd (fX7_layDay a0 L) fun z4 =>
    lx (lp (fun s18 : Int32 × HL => fX7_overfull_b20 a0 v1 s18.1 s18.2) FU ((0 : Int32), z4)) (fun v => some v) fun s18 =>
    some ((-1 : Int32), s18.2)
def fX7_layOrder_b11 (a0 : Nat) (v3 : Int32) (v4 : Int32) (v5 : Int32) (v6 : Int32) (L : HL) : Option (Tn (Int32 × Int32 × Int32 × HL) (Int32 × HL)) :=
  if v6 < 0 then (
    some (.inr (.inl (v4, v5, v6, L))))
  else
    gd (vin v6 5) <|
    lt (wI L (a0 + 10) v6.toNatClampNeg (v4 - v4 / (5 : Int32) * (5 : Int32))) fun L4 =>
    lt ((v4 / (5 : Int32))) fun w5 =>
    gd (vin v6 5) <|
    lt ((v5 ||| ((1 : Int32) <<< ((L4.1 (a0 + 10) v6.toNatClampNeg) &&& 31)))) fun w7 =>
    lt (v6 + (-1 : Int32)) fun w8 =>
    some (.inl (w5, w7, w8, L4))
def fX7_layOrder (a0 : Nat) (v1 : Int32) (v2 : Int32) (v3 : Int32) (L : HL) : Option (Int32 × HL) :=
  lt ((v2 - (1 : Int32))) fun w1 =>
  lx (lp (fun s9 : Int32 × Int32 × Int32 × HL => fX7_layOrder_b11 a0 v3 s9.1 s9.2.1 s9.2.2.1 s9.2.2.2) FU (v1, (0 : Int32), w1, L)) (fun v => some v) fun s9 =>
  if s9.2.1 = v3 then (
    some ((1 : Int32), s9.2.2.2))
  else
    some ((0 : Int32), s9.2.2.2)
def fX7_codes_b4 (v0 : Int32) (v1 : Int32) (v2 : Int32) : Option (Tn (Int32 × Int32) (Int32)) :=
  if v0 ≤ v2 then (
    some (.inr (.inl (v1, v2))))
  else
    lt ((v1 * (5 : Int32))) fun w2 =>
    lt (v2 + (1 : Int32)) fun w3 =>
    some (.inl (w2, w3))
def fX7_codes (v0 : Int32) : Option (Int32) :=
  lx (lp (fun s4 : Int32 × Int32 => fX7_codes_b4 v0 s4.1 s4.2) FU ((1 : Int32), (0 : Int32))) (fun v => some v) fun s4 =>
  some s4.1
def fX7_layFalls_j41 (a0 : Nat) (v1 : Int32) (v2 : Int32) (v3 : Int32) (s1 : Int32) (s2 : Int32) (L : HL) : Option (Tn (Int32 × HL) (HL)) :=
  gd (vin s1 92) <|
  lt (wI L (a0 + 9) s1.toNatClampNeg s2) fun L5 =>
  lt (v3 + (1 : Int32)) fun w6 =>
  some (.inl (w6, L5))
def fX7_layFalls_b6 (a0 : Nat) (v1 : Int32) (v2 : Int32) (v3 : Int32) (L : HL) : Option (Tn (Int32 × HL) (HL)) :=
  if (L.1 (a0 + 9) (0 : Int32).toNatClampNeg) ≤ v3 then (
    some (.inr (.inl (v3, L))))
  else
    if 0 ≤ v2 then (
      fX7_layFalls_j41 a0 v1 v2 v3 ((24 : Int32) + v3) v2 L)
    else
      gd (vin ((24 : Int32) + v3) 92) <|
      fX7_layFalls_j41 a0 v1 v2 v3 ((24 : Int32) + v3) (L.1 (a0 + 9) ((24 : Int32) + v3).toNatClampNeg) L
def fX7_layFalls_b50 (a0 : Nat) (v1 : Int32) (v3 : Int32) (L : HL) : Option (Tn (Int32 × HL) (HL)) :=
  if v1 ≤ v3 then (
    some (.inr (.inl (v3, L))))
  else
    gd (vin v3 5) <|
    bd (fX7_falls a0 (a0 + 9) 92 (L.1 (a0 + 10) v3.toNatClampNeg) L) fun z11 =>
    lt (v3 + (1 : Int32)) fun w12 =>
    some (.inl (w12, z11.2))
def fX7_layFalls (a0 : Nat) (v1 : Int32) (v2 : Int32) (L : HL) : Option (HL) :=
  bd (fX7_layDay a0 L) fun z1 =>
  lx (lp (fun s8 : Int32 × HL => fX7_layFalls_b6 a0 v1 v2 s8.1 s8.2) FU ((0 : Int32), z1)) (fun v => some v) fun s8 =>
  lx (lp (fun s13 : Int32 × HL => fX7_layFalls_b50 a0 v1 s13.1 s13.2) FU ((0 : Int32), s8.2)) (fun v => some v) fun s13 =>
  some s13.2
def fX7_orders_j73 (a0 : Nat) (L : HL) : Option (Int32 × HL) :=
  bd (fX7_bad a0 (-10 : Int32) L) fun z4 =>
  some (z4.1, z4.2)
def fX7_orders_j157 (a0 : Nat) (v1 : Int32) (v2 : Int32) (v3 : Int32) (v4 : Int32) (v6 : Int32) (v7 : Int32) (v8 : Int32) (v9 : Int32) (v10 : Int32) (s0 : Int32) (s1 : Int32) (L : HL) : Option (Tn (Int32 × Int32 × Int32 × HL) (Int32 × HL)) :=
  lt ((s0 + s1)) fun w20 =>
  if v10 = 0 then (
    lt (v9 + (-1 : Int32)) fun w22 =>
    some (.inl (w20, v8, w22, L)))
  else
    lt (v9 + (-1 : Int32)) fun w23 =>
    some (.inl (w20, v9, w23, L))
def fX7_orders_j143 (a0 : Nat) (v1 : Int32) (v2 : Int32) (v3 : Int32) (v4 : Int32) (v6 : Int32) (v7 : Int32) (v8 : Int32) (v9 : Int32) (s0 : Int32) (L : HL) : Option (Tn (Int32 × Int32 × Int32 × HL) (Int32 × HL)) :=
  if s0 = 0 then (
    fX7_orders_j157 a0 v1 v2 v3 v4 v6 v7 v8 v9 s0 v7 (0 : Int32) L)
  else
    fX7_orders_j157 a0 v1 v2 v3 v4 v6 v7 v8 v9 s0 v7 (1 : Int32) L
def fX7_orders_b101 (a0 : Nat) (v1 : Int32) (v2 : Int32) (v3 : Int32) (v4 : Int32) (v6 : Int32) (v7 : Int32) (v8 : Int32) (v9 : Int32) (L : HL) : Option (Tn (Int32 × Int32 × Int32 × HL) (Int32 × HL)) :=
  if v9 < 0 then (
    some (.inr (.inl (v7, v8, v9, L))))
  else
    bd (fX7_layOrder a0 v9 v6 v1 L) fun z13 =>
    if z13.1 = 0 then (
      lt (v9 + (-1 : Int32)) fun w15 =>
      some (.inl (v7, v8, w15, z13.2)))
    else
      bd (fX7_layFalls a0 v6 (-1 : Int32) z13.2) fun z16 =>
      gd (vin ((70 : Int32) + v2) 92) <|
      if (z16.1 (a0 + 9) ((70 : Int32) + v2).toNatClampNeg) = v3 then (
        fX7_orders_j143 a0 v1 v2 v3 v4 v6 v7 v8 v9 (1 : Int32) z16)
      else
        fX7_orders_j143 a0 v1 v2 v3 v4 v6 v7 v8 v9 (0 : Int32) z16
def fX7_orders_j67 (a0 : Nat) (v1 : Int32) (v2 : Int32) (v3 : Int32) (v4 : Int32) (L : HL) : Option (Int32 × HL) :=
  if (-1 : Int32) ≤ v4 then (
    bd (fX7_bits v1) fun z9 =>
    bd (fX7_codes z9) fun z10 =>
    lt ((z10 - (1 : Int32))) fun w11 =>
    lx (lp (fun s24 : Int32 × Int32 × Int32 × HL => fX7_orders_b101 a0 v1 v2 v3 v4 z9 s24.1 s24.2.1 s24.2.2.1 s24.2.2.2) FU ((0 : Int32), (-1 : Int32), w11, L)) (fun v => some v) fun s24 =>
    if v4 = (-1 : Int32) then (
      some (s24.1, s24.2.2.2))
    else
      if s24.1 = 0 then (
        some ((-1 : Int32), s24.2.2.2))
      else
        bd (fX7_layOrder a0 s24.2.1 z9 v1 s24.2.2.2) fun z27 =>
        if z27.1 = 0 then (
          some ((-5 : Int32), z27.2))
        else
          if z9 ≤ v4 then (
            some ((-5 : Int32), z27.2))
          else
            gd (vin v4 5) <|
            some ((z27.2.1 (a0 + 10) v4.toNatClampNeg), z27.2))
  else
    fX7_orders_j73 a0 L
def fX7_orders_j39 (a0 : Nat) (v1 : Int32) (v2 : Int32) (v3 : Int32) (v4 : Int32) (s0 : Int32) (L : HL) : Option (Int32 × HL) :=
  if s0 = 0 then (
    fX7_orders_j73 a0 L)
  else
    bd (fX7_isOne a0 v2 L) fun z5 =>
    if z5 = 0 then (
      fX7_orders_j73 a0 L)
    else
      if v3 = (-1 : Int32) then (
        fX7_orders_j67 a0 v1 v2 v3 v4 L)
      else
        bd (fX7_isHouse a0 v3 L) fun z32 =>
        if z32 = 0 then (
          fX7_orders_j73 a0 L)
        else
          fX7_orders_j67 a0 v1 v2 v3 v4 L
def fX7_orders_j38 (a0 : Nat) (v1 : Int32) (v2 : Int32) (v3 : Int32) (v4 : Int32) (L : HL) : Option (Int32 × HL) :=
  fX7_orders_j39 a0 v1 v2 v3 v4 (0 : Int32) L
def fX7_orders (a0 : Nat) (v1 : Int32) (v2 : Int32) (v3 : Int32) (v4 : Int32) (L : HL) : Option (Int32 × HL) :=
  bd (fX7_in v1.toInt64 (0 : Int64) (((1 : Int32) <<< ((L.1 (a0 + 1) (0 : Int32).toNatClampNeg) &&& 31)) - (1 : Int32)).toInt64) fun z1 =>
  if z1 = 0 then (
    fX7_orders_j38 a0 v1 v2 v3 v4 L)
  else
    bd (fX7_standing (a0 + 1) 228 L) fun z34 =>
    if (v1 &&& (z34 ^^^ (-1 : Int32))) = 0 then (
      fX7_orders_j39 a0 v1 v2 v3 v4 (1 : Int32) L)
    else
      fX7_orders_j38 a0 v1 v2 v3 v4 L
def fX7_isSafe_b20 (a0 : Nat) (v1 : Int32) (v2 : Int32) (v3 : Int32) (v4 : Int32) (v5 : Int32) (v6 : Int32) (L : HL) : Option (Tn (Int32 × Int32 × HL) (Int32 × HL)) :=
  bd (fX7_codes v4) fun z3 =>
  if z3 ≤ v6 then (
    some (.inr (.inl (v5, v6, L))))
  else
    if v5 = 0 then (
      some (.inr (.inl (v5, v6, L))))
    else
      bd (fX7_layOrder a0 v6 v4 v3 L) fun z6 =>
      if z6.1 = 0 then (
        lt (v6 + (1 : Int32)) fun w8 =>
        some (.inl (v5, w8, z6.2)))
      else
        bd (fX7_layFalls a0 (v4 - (1 : Int32)) v2 z6.2) fun z9 =>
        gd (vin ((70 : Int32) + v1) 92) <|
        if (z9.1 (a0 + 9) ((70 : Int32) + v1).toNatClampNeg) = (-1 : Int32) then (
          lt (v6 + (1 : Int32)) fun w12 =>
          some (.inl ((0 : Int32), w12, z9)))
        else
          lt (v6 + (1 : Int32)) fun w13 =>
          some (.inl ((1 : Int32), w13, z9))
def fX7_isSafe (a0 : Nat) (v1 : Int32) (v2 : Int32) (L : HL) : Option (Int32 × HL) :=
  bd (fX7_standing (a0 + 1) 228 L) fun z1 =>
  bd (fX7_bits z1) fun z2 =>
  lx (lp (fun s14 : Int32 × Int32 × HL => fX7_isSafe_b20 a0 v1 v2 z1 z2 s14.1 s14.2.1 s14.2.2) FU ((1 : Int32), (0 : Int32), L)) (fun v => some v) fun s14 =>
  gd (s14.1 = 0 ∨ s14.1 = 1) <|
  some (s14.1, s14.2.2)
def fX7_safe_j44 (a0 : Nat) (v1 : Int32) (v2 : Int32) (v3 : Int32) (s0 : Int32) (L : HL) : Option (Tn (Int32 × Int32 × HL) (Int32 × HL)) :=
  lt ((s0 ||| ((1 : Int32) <<< (v3 &&& 31)))) fun w7 =>
  lt (v3 + (1 : Int32)) fun w8 =>
  some (.inl (w7, w8, L))
def fX7_safe_b19 (a0 : Nat) (v1 : Int32) (v2 : Int32) (v3 : Int32) (L : HL) : Option (Tn (Int32 × Int32 × HL) (Int32 × HL)) :=
  if (5 : Int32) < v3 then (
    some (.inr (.inl (v2, v3, L))))
  else
    bd (fX7_standing (a0 + 1) 228 L) fun z5 =>
    if z5 = 0 then (
      fX7_safe_j44 a0 v1 v2 v3 v2 L)
    else
      bd (fX7_isSafe a0 v1 v3 L) fun z9 =>
      if z9.1 = 0 then (
        lt ((v2 ||| (0 : Int32))) fun w11 =>
        lt (v3 + (1 : Int32)) fun w12 =>
        some (.inl (w11, w12, z9.2)))
      else
        fX7_safe_j44 a0 v1 v2 v3 v2 z9.2
def fX7_safe (a0 : Nat) (v1 : Int32) (L : HL) : Option (Int32 × HL) :=
  bd (fX7_isOne a0 v1 L) fun z1 =>
  if z1 = 0 then (
    bd (fX7_bad a0 (-2 : Int32) L) fun z3 =>
    some (z3.1, z3.2))
  else
    lx (lp (fun s13 : Int32 × Int32 × HL => fX7_safe_b19 a0 v1 s13.1 s13.2.1 s13.2.2) FU ((0 : Int32), (0 : Int32), L)) (fun v => some v) fun s13 =>
    some (s13.1, s13.2.2)
def fX7_layHomes_b11 (a0 : Nat) (v2 : Int32) (v3 : Int32) (L : HL) : Option (Tn (Int32 × Int32 × HL) (HL)) :=
  if v3 < 0 then (
    some (.inr (.inl (v2, v3, L))))
  else
    gd (vin v3 6) <|
    lt (wI L (a0 + 11) v3.toNatClampNeg (v2 - v2 / (5 : Int32) * (5 : Int32))) fun L4 =>
    lt ((v2 / (5 : Int32))) fun w5 =>
    lt (v3 + (-1 : Int32)) fun w6 =>
    some (.inl (w5, w6, L4))
def fX7_layHomes (a0 : Nat) (v1 : Int32) (L : HL) : Option (HL) :=
  lt (((L.1 (a0 + 1) (1 : Int32).toNatClampNeg) - (1 : Int32))) fun w1 =>
  lx (lp (fun s7 : Int32 × Int32 × HL => fX7_layHomes_b11 a0 s7.1 s7.2.1 s7.2.2) FU (v1, w1, L)) (fun v => some v) fun s7 =>
  some s7.2.2
def fX7_moving_j85 (a0 : Nat) (v1 : Int32) (v2 : Int32) (v3 : Int32) (s0 : Int32) (s1 : Int32) (L : HL) : Option (Tn (Int32 × Int32 × Int32 × HL) (Int32 × HL)) :=
  lt ((s0 + s1)) fun w7 =>
  gd (vin v3 6) <|
  gd (vin ((70 : Int32) + v3) 92) <|
  lt (wI L (a0 + 9) ((70 : Int32) + v3).toNatClampNeg (L.1 (a0 + 11) v3.toNatClampNeg)) fun L10 =>
  lt (v3 + (1 : Int32)) fun w11 =>
  some (.inl (w7, v2, w11, L10))
def fX7_moving_j60 (a0 : Nat) (v1 : Int32) (v2 : Int32) (v3 : Int32) (s0 : Int32) (L : HL) : Option (Tn (Int32 × Int32 × Int32 × HL) (Int32 × HL)) :=
  gd (vin ((70 : Int32) + v3) 228) <|
  gd (vin v3 6) <|
  if (L.1 (a0 + 1) ((70 : Int32) + v3).toNatClampNeg) = (L.1 (a0 + 11) v3.toNatClampNeg) then (
    fX7_moving_j85 a0 v1 s0 v3 v1 (0 : Int32) L)
  else
    fX7_moving_j85 a0 v1 s0 v3 v1 (1 : Int32) L
def fX7_moving_j59 (a0 : Nat) (v1 : Int32) (v2 : Int32) (v3 : Int32) (L : HL) : Option (Tn (Int32 × Int32 × Int32 × HL) (Int32 × HL)) :=
  fX7_moving_j60 a0 v1 v2 v3 (0 : Int32) L
def fX7_moving_b10 (a0 : Nat) (v1 : Int32) (v2 : Int32) (v3 : Int32) (L : HL) : Option (Tn (Int32 × Int32 × Int32 × HL) (Int32 × HL)) :=
  if (L.1 (a0 + 1) (1 : Int32).toNatClampNeg) ≤ v3 then (
    some (.inr (.inl (v1, v2, v3, L))))
  else
    if v2 = 0 then (
      fX7_moving_j59 a0 v1 v2 v3 L)
    else
      gd (vin v3 6) <|
      bd (fX7_isHouse a0 (L.1 (a0 + 11) v3.toNatClampNeg) L) fun z13 =>
      if z13 = 0 then (
        fX7_moving_j59 a0 v1 v2 v3 L)
      else
        gd (vin v3 6) <|
        gd (vin ((29 : Int32) + (L.1 (a0 + 11) v3.toNatClampNeg)) 228) <|
        if (L.1 (a0 + 1) ((29 : Int32) + (L.1 (a0 + 11) v3.toNatClampNeg)).toNatClampNeg) = (1 : Int32) then (
          fX7_moving_j60 a0 v1 v2 v3 (1 : Int32) L)
        else
          fX7_moving_j59 a0 v1 v2 v3 L
def fX7_moving_b110 (a0 : Nat) (v1 : Int32) (v2 : Int32) (v3 : Int32) (L : HL) : Option (Tn (Int32 × Int32) (Int32 × HL)) :=
  if (L.1 (a0 + 1) (0 : Int32).toNatClampNeg) ≤ v3 then (
    some (.inr (.inl (v2, v3))))
  else
    if v2 = 0 then (
      some (.inr (.inl (v2, v3))))
    else
      bd (fX7_livingIn (a0 + 9) 92 v3 L) fun z21 =>
      bd (fX7_bits z21) fun z22 =>
      gd (vin ((4 : Int32) + v3) 92) <|
      if (L.1 (a0 + 9) ((4 : Int32) + v3).toNatClampNeg) < z22 then (
        lt (v3 + (1 : Int32)) fun w25 =>
        some (.inl ((0 : Int32), w25)))
      else
        bd (fX7_isFeud (a0 + 9) 92 z21 z21 L) fun z26 =>
        if z26 = 0 then (
          lt (v3 + (1 : Int32)) fun w28 =>
          some (.inl ((1 : Int32), w28)))
        else
          lt (v3 + (1 : Int32)) fun w29 =>
          some (.inl ((0 : Int32), w29))
def fX7_moving (a0 : Nat) (L : HL) : Option (Int32 × HL) :=
  bd (fX7_layDay a0 L) fun z1 =>
  lx (lp (fun s18 : Int32 × Int32 × Int32 × HL => fX7_moving_b10 a0 s18.1 s18.2.1 s18.2.2.1 s18.2.2.2) FU ((0 : Int32), (1 : Int32), (0 : Int32), z1)) (fun v => some v) fun s18 =>
  lx (lp (fun s30 : Int32 × Int32 => fX7_moving_b110 a0 s18.1 s30.1 s30.2 s18.2.2.2) FU (s18.2.1, (0 : Int32))) (fun v => some v) fun s30 =>
  if s30.1 = 0 then (
    some ((1000000 : Int32), s18.2.2.2))
  else
    some (s18.1, s18.2.2.2)
def fX7_moves_j58 (a0 : Nat) (v1 : Int32) (v2 : Int32) (v3 : Int32) (v4 : Int32) (v5 : Int32) (s0 : Int32) (L : HL) : Option (Tn (Int32 × Int32 × Int32 × HL) (Int32 × HL)) :=
  if v3 ≤ v5 then (
    lt (v4 + (1 : Int32)) fun w8 =>
    some (.inl (s0, v3, w8, L)))
  else
    lt (v4 + (1 : Int32)) fun w9 =>
    some (.inl (s0, v5, w9, L))
def fX7_moves_b20 (a0 : Nat) (v1 : Int32) (v2 : Int32) (v3 : Int32) (v4 : Int32) (L : HL) : Option (Tn (Int32 × Int32 × Int32 × HL) (Int32 × HL)) :=
  bd (fX7_codes (L.1 (a0 + 1) (1 : Int32).toNatClampNeg)) fun z2 =>
  if z2 ≤ v4 then (
    some (.inr (.inl (v2, v3, v4, L))))
  else
    bd (fX7_layHomes a0 v4 L) fun z4 =>
    bd (fX7_moving a0 z4) fun z5 =>
    if v3 ≤ z5.1 then (
      fX7_moves_j58 a0 v1 v2 v3 v4 z5.1 v2 z5.2)
    else
      fX7_moves_j58 a0 v1 v2 v3 v4 z5.1 v4 z5.2
def fX7_moves (a0 : Nat) (v1 : Int32) (L : HL) : Option (Int32 × HL) :=
  if (-1 : Int32) ≤ v1 then (
    lx (lp (fun s10 : Int32 × Int32 × Int32 × HL => fX7_moves_b20 a0 v1 s10.1 s10.2.1 s10.2.2.1 s10.2.2.2) FU ((-1 : Int32), (1000000 : Int32), (0 : Int32), L)) (fun v => some v) fun s10 =>
    if s10.1 = (-1 : Int32) then (
      some ((-1 : Int32), s10.2.2.2))
    else
      bd (fX7_layHomes a0 s10.1 s10.2.2.2) fun z12 =>
      if v1 = (-1 : Int32) then (
        some (s10.2.1, z12))
      else
        if (z12.1 (a0 + 1) (1 : Int32).toNatClampNeg) ≤ v1 then (
          some ((-5 : Int32), z12))
        else
          gd (vin v1 6) <|
          some ((z12.1 (a0 + 11) v1.toNatClampNeg), z12))
  else
    bd (fX7_bad a0 (-10 : Int32) L) fun z17 =>
    some (z17.1, z17.2)
def fX7_fraction_b6 (a0 : Nat) (v1 : Int64) (v3 : Int64) (v5 : Int64) (v7 : Int64) (L : HL) : Option (Tn (Int64 × Int64) (HL)) :=
  if (lg_cmp v7 (0 : Int64)) = 0 then (
    some (.inr (.inl (v5, v7))))
  else
    gd (¬ v7 = 0) <|
    lt ((v5 - v5 / v7 * v7)) fun w3 =>
    some (.inl (v7, w3))
def fX7_fraction (a0 : Nat) (v1 : Int64) (v3 : Int64) (L : HL) : Option (HL) :=
  lx (lp (fun s4 : Int64 × Int64 => fX7_fraction_b6 a0 v1 v3 s4.1 s4.2 L) FU (v1, v3)) (fun v => some v) fun s4 =>
  gd (¬ s4.1 = 0) <|
  lt (wJ L a0 5 (v1 / s4.1)) fun L6 =>
  gd (¬ s4.1 = 0) <|
  lt (wJ L6 a0 6 (v3 / s4.1)) fun L8 =>
  some L8
def fX7_share_j99 (a0 : Nat) (v1 : Int32) (v2 : Int32) (v3 : Int32) (v4 : Int32) (v5 : Int32) (s0 : Int32) (L : HL) : Option (Tn (Int32 × Int32 × Int32 × HL) (Int32 × HL)) :=
  if v2 ≤ v5 then (
    lt (v4 + (1 : Int32)) fun w11 =>
    some (.inl (v2, s0, w11, L)))
  else
    lt (v4 + (1 : Int32)) fun w12 =>
    some (.inl (v5, s0, w12, L))
def fX7_share_j68 (a0 : Nat) (v1 : Int32) (v2 : Int32) (v3 : Int32) (v4 : Int32) (s0 : Int32) (L : HL) : Option (Tn (Int32 × Int32 × Int32 × HL) (Int32 × HL)) :=
  if s0 = (-1 : Int32) then (
    lt (v4 + (1 : Int32)) fun w7 =>
    some (.inl (v2, v3, w7, L)))
  else
    if v2 ≤ s0 then (
      if s0 = v2 then (
        fX7_share_j99 a0 v1 v2 v3 v4 s0 (v3 + (1 : Int32)) L)
      else
        fX7_share_j99 a0 v1 v2 v3 v4 s0 v3 L)
    else
      fX7_share_j99 a0 v1 v2 v3 v4 s0 (1 : Int32) L
def fX7_share_j53 (a0 : Nat) (v1 : Int32) (v2 : Int32) (v3 : Int32) (v4 : Int32) (L : HL) : Option (Tn (Int32 × Int32 × Int32 × HL) (Int32 × HL)) :=
  fX7_share_j68 a0 v1 v2 v3 v4 (-1 : Int32) L
def fX7_share_b23 (a0 : Nat) (v1 : Int32) (v2 : Int32) (v3 : Int32) (v4 : Int32) (L : HL) : Option (Tn (Int32 × Int32 × Int32 × HL) (Int32 × HL)) :=
  if (L.1 (a0 + 1) (0 : Int32).toNatClampNeg) ≤ v4 then (
    some (.inr (.inl (v2, v3, v4, L))))
  else
    if v4 = v1 then (
      fX7_share_j53 a0 v1 v2 v3 v4 L)
    else
      gd (vin ((29 : Int32) + v4) 228) <|
      if (L.1 (a0 + 1) ((29 : Int32) + v4).toNatClampNeg) = 0 then (
        fX7_share_j53 a0 v1 v2 v3 v4 L)
      else
        bd (fX7_degreeOn a0 (a0 + 1) 228 v1 v4 L) fun z15 =>
        fX7_share_j68 a0 v1 v2 v3 v4 z15.1 z15.2
def fX7_share_j148 (a0 : Nat) (v3 : Int32) (s1 : Int64) (s2 : Int64) (L : HL) : Option (Int32 × HL) :=
  bd (fX7_fraction a0 s1 s2 L) fun z19 =>
  some (v3, z19)
def fX7_share_j138 (a0 : Nat) (v3 : Int32) (s1 : Int64) (L : HL) : Option (Int32 × HL) :=
  if v3 = 0 then (
    fX7_share_j148 a0 v3 s1 (1 : Int64) L)
  else
    fX7_share_j148 a0 v3 s1 v3.toInt64 L
def fX7_share (a0 : Nat) (v1 : Int32) (L : HL) : Option (Int32 × HL) :=
  bd (fX7_isHouse a0 v1 L) fun z1 =>
  if z1 = 0 then (
    bd (fX7_bad a0 (-2 : Int32) L) fun z3 =>
    some (z3.1, z3.2))
  else
    lx (lp (fun s16 : Int32 × Int32 × Int32 × HL => fX7_share_b23 a0 v1 s16.1 s16.2.1 s16.2.2.1 s16.2.2.2) FU ((1000000 : Int32), (0 : Int32), (0 : Int32), L)) (fun v => some v) fun s16 =>
    if s16.2.1 = 0 then (
      fX7_share_j138 a0 s16.2.1 (0 : Int64) s16.2.2.2)
    else
      gd (vin ((9 : Int32) + v1) 228) <|
      fX7_share_j138 a0 s16.2.1 (s16.2.2.2.1 (a0 + 1) ((9 : Int32) + v1).toNatClampNeg).toInt64 s16.2.2.2
def fX7_parents_b5 (a0 : Nat) (v1 : Int32) (v2 : Int32) (v3 : Int32) (v4 : Int32) (L : HL) : Option (Tn (Int32 × Int32) (Int32)) :=
  if v1 ≤ v4 then (
    some (.inr (.inl (v3, v4))))
  else
    gd (vin ((34 : Int32) + v4) 228) <|
    gd (vin ((34 : Int32) + v1) 228) <|
    bd (fX7_bits ((L.1 (a0 + 1) ((34 : Int32) + v4).toNatClampNeg) ^^^ (L.1 (a0 + 1) ((34 : Int32) + v1).toNatClampNeg))) fun z4 =>
    if v2 < z4 then (
      lt ((v3 ||| (0 : Int32))) fun w6 =>
      lt (v4 + (1 : Int32)) fun w7 =>
      some (.inl (w6, w7)))
    else
      lt ((v3 ||| ((1 : Int32) <<< (v4 &&& 31)))) fun w8 =>
      lt (v4 + (1 : Int32)) fun w9 =>
      some (.inl (w8, w9))
def fX7_parents (a0 : Nat) (v1 : Int32) (v2 : Int32) (L : HL) : Option (Int32) :=
  lx (lp (fun s10 : Int32 × Int32 => fX7_parents_b5 a0 v1 v2 s10.1 s10.2 L) FU ((0 : Int32), (0 : Int32))) (fun v => some v) fun s10 =>
  some s10.1
def fX7_plaster_j32 (a0 : Nat) (L : HL) : Option (Int32 × HL) :=
  bd (fX7_bad a0 (-10 : Int32) L) fun z3 =>
  some (z3.1, z3.2)
def fX7_plaster_b49 (a0 : Nat) (v1 : Int32) (v3 : Int32) (v4 : Int32) (L : HL) : Option (Tn (Int32 × Int32) (Int32 × HL)) :=
  if (L.1 (a0 + 1) (0 : Int32).toNatClampNeg) ≤ v4 then (
    some (.inr (.inl (v3, v4))))
  else
    bd (fX7_parents a0 v4 v1 L) fun z8 =>
    bd (fX7_bits z8) fun z9 =>
    lt ((v3 * z9)) fun w10 =>
    lt (v4 + (1 : Int32)) fun w11 =>
    some (.inl (w10, w11))
def fX7_plaster_b94 (a0 : Nat) (v2 : Int32) (v3 : Int32) (v4 : Int32) (v5 : Int32) (L : HL) : Option (Tn (Int32 × Int32) (Int32 × HL)) :=
  if v2 ≤ v5 then (
    some (.inr (.inl (v4, v5))))
  else
    if v3 = ((1 : Int32) <<< (v5 &&& 31)) then (
      lt (v5 + (1 : Int32)) fun w17 =>
      some (.inl (v5, w17)))
    else
      lt (v5 + (1 : Int32)) fun w18 =>
      some (.inl (v4, w18))
def fX7_plaster (a0 : Nat) (v1 : Int32) (v2 : Int32) (L : HL) : Option (Int32 × HL) :=
  bd (fX7_in v1.toInt64 (0 : Int64) (8 : Int64)) fun z1 =>
  if z1 = 0 then (
    fX7_plaster_j32 a0 L)
  else
    bd (fX7_in v2.toInt64 (-1 : Int64) ((L.1 (a0 + 1) (0 : Int32).toNatClampNeg) - (1 : Int32)).toInt64) fun z4 =>
    if z4 = 0 then (
      fX7_plaster_j32 a0 L)
    else
      if v2 = (-1 : Int32) then (
        lx (lp (fun s12 : Int32 × Int32 => fX7_plaster_b49 a0 v1 s12.1 s12.2 L) FU ((1 : Int32), (1 : Int32))) (fun v => some v) fun s12 =>
        some (s12.1, L))
      else
        bd (fX7_parents a0 v2 v1 L) fun z14 =>
        lx (lp (fun s19 : Int32 × Int32 => fX7_plaster_b94 a0 v2 z14 s19.1 s19.2 L) FU ((-1 : Int32), (0 : Int32))) (fun v => some v) fun s19 =>
        some (s19.1, L)
def fX7_gables_b23 (a0 : Nat) (v1 : Int32) (v2 : Int32) (v3 : Int32) (L : HL) : Option (Tn (Int32 × Int32) (Int32 × HL)) :=
  if (L.1 (a0 + 1) (0 : Int32).toNatClampNeg) ≤ v3 then (
    some (.inr (.inl (v2, v3))))
  else
    bd (fX7_parents a0 v3 v1 L) fun z5 =>
    if z5 = 0 then (
      lt ((v2 ||| ((1 : Int32) <<< (v3 &&& 31)))) fun w7 =>
      lt (v3 + (1 : Int32)) fun w8 =>
      some (.inl (w7, w8)))
    else
      lt ((v2 ||| (0 : Int32))) fun w9 =>
      lt (v3 + (1 : Int32)) fun w10 =>
      some (.inl (w9, w10))
def fX7_gables (a0 : Nat) (v1 : Int32) (L : HL) : Option (Int32 × HL) :=
  bd (fX7_in v1.toInt64 (0 : Int64) (8 : Int64)) fun z1 =>
  if z1 = 0 then (
    bd (fX7_bad a0 (-2 : Int32) L) fun z3 =>
    some (z3.1, z3.2))
  else
    lx (lp (fun s11 : Int32 × Int32 => fX7_gables_b23 a0 v1 s11.1 s11.2 L) FU ((0 : Int32), (1 : Int32))) (fun v => some v) fun s11 =>
    some (s11.1, L)
def fX7_getsBy_j130 (a0 : Nat) (v1 : Int32) (v2 : Int32) (v3 : Int32) (v4 : Int32) (v5 : Int32) (v6 : Int32) (v7 : Int32) (v8 : Int32) (v9 : Int32) (s0 : Int32) (L : HL) : Option (Tn (Int32 × Int32 × Int32 × HL) (Int32 × HL)) :=
  if v7 ≤ v9 then (
    lt (v8 + (1 : Int32)) fun w8 =>
    some (.inl (s0, v7, w8, L)))
  else
    lt (v8 + (1 : Int32)) fun w9 =>
    some (.inl (s0, v9, w9, L))
def fX7_getsBy_j114 (a0 : Nat) (v1 : Int32) (v2 : Int32) (v3 : Int32) (v4 : Int32) (v5 : Int32) (v6 : Int32) (v7 : Int32) (v8 : Int32) (s0 : Int32) (L : HL) : Option (Tn (Int32 × Int32 × Int32 × HL) (Int32 × HL)) :=
  if v7 ≤ s0 then (
    fX7_getsBy_j130 a0 v1 v2 v3 v4 v5 v6 v7 v8 s0 v6 L)
  else
    fX7_getsBy_j130 a0 v1 v2 v3 v4 v5 v6 v7 v8 s0 v8 L
def fX7_getsBy_j85 (a0 : Nat) (v1 : Int32) (v2 : Int32) (v3 : Int32) (v4 : Int32) (v5 : Int32) (v6 : Int32) (v7 : Int32) (v8 : Int32) (v9 : Int32) (s0 : Int32) (L : HL) : Option (Tn (Int32 × Int32 × Int32 × HL) (Int32 × HL)) :=
  if s0 = 0 then (
    fX7_getsBy_j114 a0 v1 v2 v3 v4 v5 v6 v7 v8 v9 L)
  else
    if v9 = (1000 : Int32) then (
      fX7_getsBy_j114 a0 v1 v2 v3 v4 v5 v6 v7 v8 (6 : Int32) L)
    else
      fX7_getsBy_j114 a0 v1 v2 v3 v4 v5 v6 v7 v8 (v9 - (3 : Int32)) L
def fX7_getsBy_j80 (a0 : Nat) (v1 : Int32) (v2 : Int32) (v3 : Int32) (v4 : Int32) (v5 : Int32) (v6 : Int32) (v7 : Int32) (v8 : Int32) (v9 : Int32) (L : HL) : Option (Tn (Int32 × Int32 × Int32 × HL) (Int32 × HL)) :=
  fX7_getsBy_j85 a0 v1 v2 v3 v4 v5 v6 v7 v8 v9 (1 : Int32) L
def fX7_getsBy_j84 (a0 : Nat) (v1 : Int32) (v2 : Int32) (v3 : Int32) (v4 : Int32) (v5 : Int32) (v6 : Int32) (v7 : Int32) (v8 : Int32) (v9 : Int32) (L : HL) : Option (Tn (Int32 × Int32 × Int32 × HL) (Int32 × HL)) :=
  fX7_getsBy_j85 a0 v1 v2 v3 v4 v5 v6 v7 v8 v9 (0 : Int32) L
def fX7_getsBy_j68 (a0 : Nat) (v1 : Int32) (v2 : Int32) (v3 : Int32) (v4 : Int32) (v5 : Int32) (v6 : Int32) (v7 : Int32) (v8 : Int32) (v9 : Int32) (L : HL) : Option (Tn (Int32 × Int32 × Int32 × HL) (Int32 × HL)) :=
  if v8 = v2 then (
    if v5 = (1 : Int32) then (
      fX7_getsBy_j80 a0 v1 v2 v3 v4 v5 v6 v7 v8 v9 L)
    else
      fX7_getsBy_j84 a0 v1 v2 v3 v4 v5 v6 v7 v8 v9 L)
  else
    fX7_getsBy_j84 a0 v1 v2 v3 v4 v5 v6 v7 v8 v9 L
def fX7_getsBy_j54 (a0 : Nat) (v1 : Int32) (v2 : Int32) (v3 : Int32) (v4 : Int32) (v5 : Int32) (v6 : Int32) (v7 : Int32) (v8 : Int32) (s0 : Int32) (L : HL) : Option (Tn (Int32 × Int32 × Int32 × HL) (Int32 × HL)) :=
  if v8 = v1 then (
    if v4 = (1 : Int32) then (
      fX7_getsBy_j80 a0 v1 v2 v3 v4 v5 v6 v7 v8 s0 L)
    else
      fX7_getsBy_j68 a0 v1 v2 v3 v4 v5 v6 v7 v8 s0 L)
  else
    fX7_getsBy_j68 a0 v1 v2 v3 v4 v5 v6 v7 v8 s0 L
def fX7_getsBy_b11 (a0 : Nat) (v1 : Int32) (v2 : Int32) (v3 : Int32) (v4 : Int32) (v5 : Int32) (v6 : Int32) (v7 : Int32) (v8 : Int32) (L : HL) : Option (Tn (Int32 × Int32 × Int32 × HL) (Int32 × HL)) :=
  if (L.1 (a0 + 1) (0 : Int32).toNatClampNeg) ≤ v8 then (
    some (.inr (.inl (v6, v7, v8, L))))
  else
    if v8 = v3 then (
      fX7_getsBy_j54 a0 v1 v2 v3 v4 v5 v6 v7 v8 (1000 : Int32) L)
    else
      gd (vin ((24 : Int32) + v3) 228) <|
      bd (fX7_rankOn a0 (a0 + 1) 228 (L.1 (a0 + 1) ((24 : Int32) + v3).toNatClampNeg) v3 v8 L) fun z14 =>
      fX7_getsBy_j54 a0 v1 v2 v3 v4 v5 v6 v7 v8 z14.1 z14.2
def fX7_getsBy_j175 (a0 : Nat) (v1 : Int32) (v4 : Int32) (s0 : Int32) (L : HL) : Option (Int32 × HL) :=
  bd (fX7_livingIn (a0 + 1) 228 v1 L) fun z19 =>
  bd (fX7_bits z19) fun z20 =>
  gd (vin ((4 : Int32) + v1) 228) <|
  lt (((z20 + s0) - (L.1 (a0 + 1) ((4 : Int32) + v1).toNatClampNeg))) fun w22 =>
  if w22 ≤ 0 then (
    some (((((2 : Int32) * s0) - (0 : Int32)) - v4), L))
  else
    some (((((2 : Int32) * s0) - w22) - v4), L)
def fX7_getsBy (a0 : Nat) (v1 : Int32) (v2 : Int32) (v3 : Int32) (v4 : Int32) (v5 : Int32) (L : HL) : Option (Int32 × HL) :=
  lx (lp (fun s15 : Int32 × Int32 × Int32 × HL => fX7_getsBy_b11 a0 v1 v2 v3 v4 v5 s15.1 s15.2.1 s15.2.2.1 s15.2.2.2) FU ((-1 : Int32), (1000 : Int32), (0 : Int32), L)) (fun v => some v) fun s15 =>
  if s15.1 = v1 then (
    bd (fX7_livingIn (a0 + 1) 228 v3 s15.2.2.2) fun z17 =>
    bd (fX7_bits z17) fun z18 =>
    fX7_getsBy_j175 a0 v1 v4 z18 s15.2.2.2)
  else
    fX7_getsBy_j175 a0 v1 v4 (0 : Int32) s15.2.2.2
def fX7_doors_j47 (a0 : Nat) (L : HL) : Option (Int32 × HL) :=
  bd (fX7_bad a0 (-10 : Int32) L) fun z3 =>
  some (z3.1, z3.2)
def fX7_doors_j90 (a0 : Nat) (L : HL) : Option (Int32 × HL) :=
  bd (fX7_no a0 (-20 : Int32) L) fun z15 =>
  some (z15.1, z15.2)
def fX7_doors_j196 (a0 : Nat) (v1 : Int32) (v2 : Int32) (v3 : Int32) (v4 : Int32) (v5 : Int32) (v6 : Int32) (v7 : Int32) (v8 : Int32) (v9 : Int32) (v10 : Int32) (s0 : Int32) (s1 : Int32) (L : HL) : Option (Tn (Int32 × Int32 × Int32 × HL) (Int32 × HL)) :=
  lt ((s0 + s1)) fun w27 =>
  if v10 = 0 then (
    lt (v7 + (-1 : Int32)) fun w29 =>
    some (.inl (w27, v6, w29, L)))
  else
    lt ((((10 : Int32) * v8) + v9)) fun w30 =>
    lt (v7 + (-1 : Int32)) fun w31 =>
    some (.inl (w27, w30, w31, L))
def fX7_doors_j182 (a0 : Nat) (v1 : Int32) (v2 : Int32) (v3 : Int32) (v4 : Int32) (v5 : Int32) (v6 : Int32) (v7 : Int32) (v8 : Int32) (v9 : Int32) (s0 : Int32) (L : HL) : Option (Tn (Int32 × Int32 × Int32 × HL) (Int32 × HL)) :=
  if s0 = 0 then (
    fX7_doors_j196 a0 v1 v2 v3 v4 v5 v6 v7 v8 v9 s0 v5 (0 : Int32) L)
  else
    fX7_doors_j196 a0 v1 v2 v3 v4 v5 v6 v7 v8 v9 s0 v5 (1 : Int32) L
def fX7_doors_j181 (a0 : Nat) (v1 : Int32) (v2 : Int32) (v3 : Int32) (v4 : Int32) (v5 : Int32) (v6 : Int32) (v7 : Int32) (v8 : Int32) (v9 : Int32) (L : HL) : Option (Tn (Int32 × Int32 × Int32 × HL) (Int32 × HL)) :=
  fX7_doors_j182 a0 v1 v2 v3 v4 v5 v6 v7 v8 v9 (0 : Int32) L
def fX7_doors_b106 (a0 : Nat) (v1 : Int32) (v2 : Int32) (v3 : Int32) (v4 : Int32) (v5 : Int32) (v6 : Int32) (v7 : Int32) (L : HL) : Option (Tn (Int32 × Int32 × Int32 × HL) (Int32 × HL)) :=
  if v7 < 0 then (
    some (.inr (.inl (v5, v6, v7, L))))
  else
    lt ((v7 / (2 : Int32))) fun w21 =>
    lt ((v7 - v7 / (2 : Int32) * (2 : Int32))) fun w22 =>
    bd (fX7_getsBy a0 v1 v2 v3 w21 w22 L) fun z23 =>
    bd (fX7_getsBy a0 v1 v2 v3 ((1 : Int32) - w21) w22 z23.2) fun z24 =>
    if z23.1 < z24.1 then (
      fX7_doors_j181 a0 v1 v2 v3 v4 v5 v6 v7 w21 w22 z24.2)
    else
      bd (fX7_getsBy a0 v2 v1 v3 w22 w21 z24.2) fun z32 =>
      bd (fX7_getsBy a0 v2 v1 v3 ((1 : Int32) - w22) w21 z32.2) fun z33 =>
      if z32.1 < z33.1 then (
        fX7_doors_j181 a0 v1 v2 v3 v4 v5 v6 v7 w21 w22 z33.2)
      else
        fX7_doors_j182 a0 v1 v2 v3 v4 v5 v6 v7 w21 w22 (1 : Int32) z33.2
def fX7_doors (a0 : Nat) (v1 : Int32) (v2 : Int32) (v3 : Int32) (v4 : Int32) (L : HL) : Option (Int32 × HL) :=
  bd (fX7_isHouse a0 v1 L) fun z1 =>
  if z1 = 0 then (
    fX7_doors_j47 a0 L)
  else
    bd (fX7_isHouse a0 v2 L) fun z4 =>
    if z4 = 0 then (
      fX7_doors_j47 a0 L)
    else
      bd (fX7_isHouse a0 v3 L) fun z6 =>
      if z6 = 0 then (
        fX7_doors_j47 a0 L)
      else
        if v1 = v2 then (
          fX7_doors_j47 a0 L)
        else
          if v1 = v3 then (
            fX7_doors_j47 a0 L)
          else
            if v2 = v3 then (
              fX7_doors_j47 a0 L)
            else
              bd (fX7_isTwo v4) fun z11 =>
              if z11 = 0 then (
                fX7_doors_j47 a0 L)
              else
                gd (vin ((29 : Int32) + v1) 228) <|
                if (L.1 (a0 + 1) ((29 : Int32) + v1).toNatClampNeg) = 0 then (
                  fX7_doors_j90 a0 L)
                else
                  gd (vin ((29 : Int32) + v2) 228) <|
                  if (L.1 (a0 + 1) ((29 : Int32) + v2).toNatClampNeg) = 0 then (
                    fX7_doors_j90 a0 L)
                  else
                    gd (vin ((29 : Int32) + v3) 228) <|
                    if (L.1 (a0 + 1) ((29 : Int32) + v3).toNatClampNeg) = 0 then (
                      fX7_doors_j90 a0 L)
                    else
                      lx (lp (fun s35 : Int32 × Int32 × Int32 × HL => fX7_doors_b106 a0 v1 v2 v3 v4 s35.1 s35.2.1 s35.2.2.1 s35.2.2.2) FU ((0 : Int32), (-1 : Int32), (3 : Int32), L)) (fun v => some v) fun s35 =>
                      if v4 = 0 then (
                        some (s35.1, s35.2.2.2))
                      else
                        some (s35.2.1, s35.2.2.2)
def fX7_drawn_j24 (a0 : Nat) (L : HL) : Option (Int32 × HL) :=
  bd (fX7_bad a0 (-2 : Int32) L) fun z3 =>
  some (z3.1, z3.2)
def fX7_drawn_j112 (a0 : Nat) (v2 : Int32) (v3 : Int64) (v5 : Int32) (v6 : Int32) (v7 : Int32) (L : HL) : Option (Tn (Int32 × Int32) (Int32 × HL)) :=
  gd (vin ((29 : Int32) + v7) 92) <|
  lt ((v6 - (L.1 (a0 + 9) ((29 : Int32) + v7).toNatClampNeg))) fun w19 =>
  lt (v7 + (1 : Int32)) fun w20 =>
  some (.inl (w19, w20))
def fX7_drawn_b94 (a0 : Nat) (v2 : Int32) (v3 : Int64) (v5 : Int32) (v6 : Int32) (v7 : Int32) (L : HL) : Option (Tn (Int32 × Int32) (Int32 × HL)) :=
  gd (vin ((29 : Int32) + v7) 92) <|
  if (L.1 (a0 + 9) ((29 : Int32) + v7).toNatClampNeg) = 0 then (
    fX7_drawn_j112 a0 v2 v3 v5 v6 v7 L)
  else
    if v6 ≤ 0 then (
      some (.inr (.inl (v6, v7))))
    else
      fX7_drawn_j112 a0 v2 v3 v5 v6 v7 L
def fX7_drawn_b41 (a0 : Nat) (v2 : Int32) (v3 : Int64) (v5 : Int32) (L : HL) : Option (Tn (Int64 × Int32 × HL) (Int32 × HL)) :=
  if v2 ≤ v5 then (
    some (.inr (.inl (v3, v5, L))))
  else
    bd (fX7_standing (a0 + 9) 92 L) fun z9 =>
    if z9 = 0 then (
      some (.inr (.inl (v3, v5, L))))
    else
      lt ((((v3 * (1103515245 : Int64)) + (12345 : Int64)) - ((v3 * (1103515245 : Int64)) + (12345 : Int64)) / (2147483648 : Int64) * (2147483648 : Int64))) fun w11 =>
      bd (fX7_standing (a0 + 9) 92 L) fun z12 =>
      bd (fX7_bits z12) fun z13 =>
      gd (¬ z13.toInt64 = 0) <|
      lt (((w11 / (65536 : Int64)) - (w11 / (65536 : Int64)) / z13.toInt64 * z13.toInt64).toInt32) fun w15 =>
      lx (lp (fun s22 : Int32 × Int32 => fX7_drawn_b94 a0 v2 w11 v5 s22.1 s22.2 L) FU (w15, (0 : Int32))) (fun v => some (.inr (.inr v))) fun s22 =>
      bd (fX7_falls a0 (a0 + 9) 92 s22.2 L) fun z23 =>
      lt (v5 + (1 : Int32)) fun w24 =>
      some (.inl (w11, w24, z23.2))
def fX7_drawn (a0 : Nat) (v1 : Int32) (v2 : Int32) (L : HL) : Option (Int32 × HL) :=
  bd (fX7_in v1.toInt64 (0 : Int64) (999999 : Int64)) fun z1 =>
  if z1 = 0 then (
    fX7_drawn_j24 a0 L)
  else
    bd (fX7_in v2.toInt64 (0 : Int64) (5 : Int64)) fun z4 =>
    if z4 = 0 then (
      fX7_drawn_j24 a0 L)
    else
      bd (fX7_layDay a0 L) fun z6 =>
      lt (v1.toInt64) fun w7 =>
      lx (lp (fun s26 : Int64 × Int32 × HL => fX7_drawn_b41 a0 v2 s26.1 s26.2.1 s26.2.2) FU (w7, (0 : Int32), z6)) (fun v => some v) fun s26 =>
      bd (fX7_livingIn (a0 + 9) 92 (-1 : Int32) s26.2.2) fun z27 =>
      bd (fX7_bits z27) fun z28 =>
      some (z28, s26.2.2)
def fX7_part (a0 : Nat) (v1 : Int32) (L : HL) : Option (Int64 × HL) :=
  if v1 = 0 then (
    some ((L.2 a0 5), L))
  else
    if v1 = (1 : Int32) then (
      some ((L.2 a0 6), L))
    else
      bd (fX7_bad a0 (-2 : Int32) L) fun z3 =>
      some (z3.1.toInt64, z3.2)
def fX7_image (a0 : Nat) (v1 : Int32) (L : HL) : Option (Int32 × HL) :=
  bd (fX7_isTwo v1) fun z1 =>
  if z1 = 0 then (
    bd (fX7_bad a0 (-2 : Int32) L) fun z3 =>
    some (z3.1, z3.2))
  else
    bd (fX7_copies (a0 + 1) 228 (0 : Int32) (a0 + 2) 456 ((228 : Int32) * v1) (228 : Int32) L) fun z4 =>
    gd (vin v1 2) <|
    lt (wI z4 (a0 + 3) v1.toNatClampNeg (1 : Int32)) fun L6 =>
    some ((1 : Int32), L6)
def fX7_from (a0 : Nat) (v1 : Int32) (L : HL) : Option (Int32 × HL) :=
  bd (fX7_isTwo v1) fun z1 =>
  if z1 = 0 then (
    bd (fX7_bad a0 (-2 : Int32) L) fun z3 =>
    some (z3.1, z3.2))
  else
    gd (vin v1 2) <|
    if (L.1 (a0 + 3) v1.toNatClampNeg) = 0 then (
      bd (fX7_no a0 (-3 : Int32) L) fun z6 =>
      some (z6.1, z6.2))
    else
      bd (fX7_copies (a0 + 2) 456 ((228 : Int32) * v1) (a0 + 1) 228 (0 : Int32) (228 : Int32) L) fun z7 =>
      some ((1 : Int32), z7)
def fX7_status (a0 : Nat) (v1 : Int32) (L : HL) : Option (Int32 × HL) :=
  bd (fX7_in v1.toInt64 (0 : Int64) (2 : Int64)) fun z1 =>
  if z1 = 0 then (
    bd (fX7_bad a0 (-1 : Int32) L) fun z3 =>
    some (z3.1, z3.2))
  else
    gd (vin v1 3) <|
    some ((L.1 (a0 + 5) v1.toNatClampNeg), L)
def fX7_sumOf_b5 (a0 : Nat) (v1 : Int32) (v2 : Int32) (v3 : Int32) (v4 : Int32) (L : HL) : Option (Tn (Int32 × Int32) (Int32)) :=
  if v2 ≤ v4 then (
    some (.inr (.inl (v3, v4))))
  else
    gd (vin (v1 + v4) 228) <|
    lt ((v3 + (L.1 (a0 + 1) (v1 + v4).toNatClampNeg))) fun w3 =>
    lt (v4 + (1 : Int32)) fun w4 =>
    some (.inl (w3, w4))
def fX7_sumOf (a0 : Nat) (v1 : Int32) (v2 : Int32) (L : HL) : Option (Int32) :=
  lx (lp (fun s5 : Int32 × Int32 => fX7_sumOf_b5 a0 v1 v2 s5.1 s5.2 L) FU ((0 : Int32), (0 : Int32))) (fun v => some v) fun s5 =>
  some s5.1
def fX7_counted (a0 : Nat) (v1 : Int32) (L : HL) : Option (Int32) :=
  if v1 = (0 : Int32) then (
    some (L.1 (a0 + 1) (0 : Int32).toNatClampNeg))
  else
  if v1 = (1 : Int32) then (
    bd (fX7_standing (a0 + 1) 228 L) fun z3 =>
    bd (fX7_bits z3) fun z4 =>
    some z4)
  else
  if v1 = (2 : Int32) then (
    some (L.1 (a0 + 1) (1 : Int32).toNatClampNeg))
  else
  if v1 = (3 : Int32) then (
    bd (fX7_livingIn (a0 + 1) 228 (-1 : Int32) L) fun z7 =>
    bd (fX7_bits z7) fun z8 =>
    some z8)
  else
  if v1 = (4 : Int32) then (
    bd (fX7_sumOf a0 (39 : Int32) (25 : Int32) L) fun z10 =>
    some (z10 / (2 : Int32)))
  else
  if v1 = (5 : Int32) then (
    bd (fX7_sumOf a0 (76 : Int32) (16 : Int32) L) fun z12 =>
    some (z12 / (2 : Int32)))
  else
  if v1 = (6 : Int32) then (
    some (L.1 (a0 + 1) (2 : Int32).toNatClampNeg))
  else
  if v1 = (7 : Int32) then (
    some (L.1 (a0 + 1) (3 : Int32).toNatClampNeg))
  else
  some (L.1 a0 4)
def fX7_count (a0 : Nat) (v1 : Int32) (L : HL) : Option (Int32 × HL) :=
  bd (fX7_in v1.toInt64 (0 : Int64) (8 : Int64)) fun z1 =>
  if z1 = 0 then (
    bd (fX7_bad a0 (-2 : Int32) L) fun z3 =>
    some (z3.1, z3.2))
  else
    bd (fX7_counted a0 v1 L) fun z4 =>
    some (z4, L)
def fX7_digest_b6 (a0 : Nat) (v1 : Int64) (v3 : Int32) (L : HL) : Option (Tn (Int64 × Int32) (Int64)) :=
  if (9 : Int32) ≤ v3 then (
    some (.inr (.inl (v1, v3))))
  else
    bd (fX7_counted a0 v3 L) fun z2 =>
    lt ((((31 : Int64) * v1) + z2.toInt64)) fun w3 =>
    lt (v3 + (1 : Int32)) fun w4 =>
    some (.inl (w3, w4))
def fX7_digest_b46 (a0 : Nat) (v1 : Int64) (v3 : Int32) (v4 : Int32) (L : HL) : Option (Tn (Int64 × Int32) (Int64)) :=
  if (7 : Int32) ≤ v4 then (
    some (.inr (.inl (v1, v4))))
  else
    gd (vin (((4 : Int32) + ((5 : Int32) * v4)) + v3) 228) <|
    lt ((((31 : Int64) * v1) + (L.1 (a0 + 1) (((4 : Int32) + ((5 : Int32) * v4)) + v3).toNatClampNeg).toInt64)) fun w9 =>
    lt (v4 + (1 : Int32)) fun w10 =>
    some (.inl (w9, w10))
def fX7_digest_b33 (a0 : Nat) (v1 : Int64) (v3 : Int32) (L : HL) : Option (Tn (Int64 × Int32) (Int64)) :=
  if (L.1 (a0 + 1) (0 : Int32).toNatClampNeg) ≤ v3 then (
    some (.inr (.inl (v1, v3))))
  else
    lx (lp (fun s11 : Int64 × Int32 => fX7_digest_b46 a0 s11.1 v3 s11.2 L) FU (v1, (0 : Int32))) (fun v => some (.inr (.inr v))) fun s11 =>
    lt (v3 + (1 : Int32)) fun w12 =>
    some (.inl (s11.1, w12))
def fX7_digest_b103 (a0 : Nat) (v1 : Int64) (v3 : Int32) (v4 : Int32) (L : HL) : Option (Tn (Int64 × Int32) (Int64)) :=
  if (L.1 (a0 + 1) (0 : Int32).toNatClampNeg) ≤ v4 then (
    some (.inr (.inl (v1, v4))))
  else
    gd (vin (((39 : Int32) + ((5 : Int32) * v3)) + v4) 228) <|
    lt ((((31 : Int64) * v1) + (L.1 (a0 + 1) (((39 : Int32) + ((5 : Int32) * v3)) + v4).toNatClampNeg).toInt64)) fun w19 =>
    lt (v4 + (1 : Int32)) fun w20 =>
    some (.inl (w19, w20))
def fX7_digest_b88 (a0 : Nat) (v1 : Int64) (v3 : Int32) (L : HL) : Option (Tn (Int64 × Int32) (Int64)) :=
  if (L.1 (a0 + 1) (0 : Int32).toNatClampNeg) ≤ v3 then (
    some (.inr (.inl (v1, v3))))
  else
    lt ((v3 + (1 : Int32))) fun w16 =>
    lx (lp (fun s21 : Int64 × Int32 => fX7_digest_b103 a0 s21.1 v3 s21.2 L) FU (v1, w16)) (fun v => some (.inr (.inr v))) fun s21 =>
    lt (v3 + (1 : Int32)) fun w22 =>
    some (.inl (s21.1, w22))
def fX7_digest_b150 (a0 : Nat) (v1 : Int64) (v3 : Int32) (L : HL) : Option (Tn (Int64 × Int32) (Int64)) :=
  if (L.1 (a0 + 1) (1 : Int32).toNatClampNeg) ≤ v3 then (
    some (.inr (.inl (v1, v3))))
  else
    gd (vin ((64 : Int32) + v3) 228) <|
    gd (vin ((70 : Int32) + v3) 228) <|
    lt ((((31 : Int64) * (((31 : Int64) * v1) + (L.1 (a0 + 1) ((64 : Int32) + v3).toNatClampNeg).toInt64)) + (L.1 (a0 + 1) ((70 : Int32) + v3).toNatClampNeg).toInt64)) fun w28 =>
    lt (v3 + (1 : Int32)) fun w29 =>
    some (.inl (w28, w29))
def fX7_digest_b210 (a0 : Nat) (v1 : Int64) (v3 : Int32) (v4 : Int32) (L : HL) : Option (Tn (Int64 × Int32) (Int64)) :=
  if (4 : Int32) ≤ v4 then (
    some (.inr (.inl (v1, v4))))
  else
    gd (vin (((76 : Int32) + ((4 : Int32) * v3)) + v4) 228) <|
    lt ((((31 : Int64) * v1) + (L.1 (a0 + 1) (((76 : Int32) + ((4 : Int32) * v3)) + v4).toNatClampNeg).toInt64)) fun w35 =>
    lt (v4 + (1 : Int32)) fun w36 =>
    some (.inl (w35, w36))
def fX7_digest_b200 (a0 : Nat) (v1 : Int64) (v3 : Int32) (L : HL) : Option (Tn (Int64 × Int32) (Int64)) :=
  if (4 : Int32) ≤ v3 then (
    some (.inr (.inl (v1, v3))))
  else
    lt ((v3 + (1 : Int32))) fun w32 =>
    lx (lp (fun s37 : Int64 × Int32 => fX7_digest_b210 a0 s37.1 v3 s37.2 L) FU (v1, w32)) (fun v => some (.inr (.inr v))) fun s37 =>
    lt (v3 + (1 : Int32)) fun w38 =>
    some (.inl (s37.1, w38))
def fX7_digest (a0 : Nat) (L : HL) : Option (Int64) :=
  lx (lp (fun s5 : Int64 × Int32 => fX7_digest_b6 a0 s5.1 s5.2 L) FU ((967 : Int64), (0 : Int32))) (fun v => some v) fun s5 =>
  lx (lp (fun s14 : Int64 × Int32 => fX7_digest_b33 a0 s14.1 s14.2 L) FU (s5.1, (0 : Int32))) (fun v => some v) fun s14 =>
  lx (lp (fun s24 : Int64 × Int32 => fX7_digest_b88 a0 s24.1 s24.2 L) FU (s14.1, (0 : Int32))) (fun v => some v) fun s24 =>
  lx (lp (fun s30 : Int64 × Int32 => fX7_digest_b150 a0 s30.1 s30.2 L) FU (s24.1, (0 : Int32))) (fun v => some v) fun s30 =>
  lx (lp (fun s40 : Int64 × Int32 => fX7_digest_b200 a0 s40.1 s40.2 L) FU (s30.1, (0 : Int32))) (fun v => some v) fun s40 =>
  some (((31 : Int64) * (((31 : Int64) * s40.1) + (L.2 a0 5))) + (L.2 a0 6))
def fL_law_j381 (xs : Nat → Int32) (n0 : Nat) (a1 : Nat) (a2 : Nat) (v3 : Int32) (s0 : Int32) (s2 : Int32) (s3 : Int32) (s4 : Int32) (L : HL) : Option (Tn (Int32 × HL) (Int32 × HL)) :=
  bd (fX7_wall a2 s2 s3 s4 L) fun z47 =>
  if s0 = z47.1 then (
    lt (v3 + (5 : Int32)) fun w49 =>
    some (.inl (w49, z47.2)))
  else
    some (.inr (.inr ((0 : Int32), z47.2)))
def fL_law_j354 (xs : Nat → Int32) (n0 : Nat) (a1 : Nat) (a2 : Nat) (v3 : Int32) (s1 : Int32) (s2 : Int32) (s3 : Int32) (L : HL) : Option (Tn (Int32 × HL) (Int32 × HL)) :=
  bd (fX6_wall a1 s1 s2 s3 L) fun z42 =>
  gd (vin (v3 + (1 : Int32)) n0) <|
  gd (vin (v3 + (2 : Int32)) n0) <|
  gd (vin (v3 + (3 : Int32)) n0) <|
  if (xs (v3 + (3 : Int32)).toNatClampNeg) = 0 then (
    fL_law_j381 xs n0 a1 a2 v3 z42.1 (xs (v3 + (1 : Int32)).toNatClampNeg) (xs (v3 + (2 : Int32)).toNatClampNeg) (0 : Int32) z42.2)
  else
    fL_law_j381 xs n0 a1 a2 v3 z42.1 (xs (v3 + (1 : Int32)).toNatClampNeg) (xs (v3 + (2 : Int32)).toNatClampNeg) (1 : Int32) z42.2
def fL_law_j473 (xs : Nat → Int32) (n0 : Nat) (a1 : Nat) (a2 : Nat) (v3 : Int32) (s0 : Int32) (s2 : Int32) (s3 : Int32) (s4 : Int32) (L : HL) : Option (Tn (Int32 × HL) (Int32 × HL)) :=
  bd (fX7_feud a2 s2 s3 s4 L) fun z69 =>
  if s0 = z69.1 then (
    lt (v3 + (5 : Int32)) fun w71 =>
    some (.inl (w71, z69.2)))
  else
    some (.inr (.inr ((0 : Int32), z69.2)))
def fL_law_j446 (xs : Nat → Int32) (n0 : Nat) (a1 : Nat) (a2 : Nat) (v3 : Int32) (s1 : Int32) (s2 : Int32) (s3 : Int32) (L : HL) : Option (Tn (Int32 × HL) (Int32 × HL)) :=
  bd (fX6_feud a1 s1 s2 s3 L) fun z64 =>
  gd (vin (v3 + (1 : Int32)) n0) <|
  gd (vin (v3 + (2 : Int32)) n0) <|
  gd (vin (v3 + (3 : Int32)) n0) <|
  if (xs (v3 + (3 : Int32)).toNatClampNeg) = 0 then (
    fL_law_j473 xs n0 a1 a2 v3 z64.1 (xs (v3 + (1 : Int32)).toNatClampNeg) (xs (v3 + (2 : Int32)).toNatClampNeg) (0 : Int32) z64.2)
  else
    fL_law_j473 xs n0 a1 a2 v3 z64.1 (xs (v3 + (1 : Int32)).toNatClampNeg) (xs (v3 + (2 : Int32)).toNatClampNeg) (1 : Int32) z64.2
def fL_law_b18 (xs : Nat → Int32) (n0 : Nat) (a1 : Nat) (a2 : Nat) (v3 : Int32) (L : HL) : Option (Tn (Int32 × HL) (Int32 × HL)) :=
  if ((Int32.ofNat n0) - (5 : Int32)) < v3 then (
    some (.inr (.inl (v3, L))))
  else
    gd (vin v3 n0) <|
    if ((xs v3.toNatClampNeg) &&& (63 : Int32)) = (0 : Int32) then (
      bd (fX6_street a1 L) fun z4 =>
      bd (fX7_street a2 z4.2) fun z5 =>
      if z4.1 = z5.1 then (
        lt (v3 + (5 : Int32)) fun w7 =>
        some (.inl (w7, z5.2)))
      else
        some (.inr (.inr ((0 : Int32), z5.2))))
    else
    if ((xs v3.toNatClampNeg) &&& (63 : Int32)) = (1 : Int32) then (
      gd (vin (v3 + (1 : Int32)) n0) <|
      gd (vin (v3 + (2 : Int32)) n0) <|
      gd (vin (v3 + (3 : Int32)) n0) <|
      bd (fX6_house a1 (xs (v3 + (1 : Int32)).toNatClampNeg) (xs (v3 + (2 : Int32)).toNatClampNeg) (xs (v3 + (3 : Int32)).toNatClampNeg) L) fun z12 =>
      gd (vin (v3 + (1 : Int32)) n0) <|
      gd (vin (v3 + (2 : Int32)) n0) <|
      gd (vin (v3 + (3 : Int32)) n0) <|
      bd (fX7_house a2 (xs (v3 + (1 : Int32)).toNatClampNeg) (xs (v3 + (2 : Int32)).toNatClampNeg) (xs (v3 + (3 : Int32)).toNatClampNeg) z12.2) fun z16 =>
      if z12.1 = z16.1 then (
        lt (v3 + (5 : Int32)) fun w18 =>
        some (.inl (w18, z16.2)))
      else
        some (.inr (.inr ((0 : Int32), z16.2))))
    else
    if ((xs v3.toNatClampNeg) &&& (63 : Int32)) = (2 : Int32) then (
      gd (vin (v3 + (1 : Int32)) n0) <|
      gd (vin (v3 + (2 : Int32)) n0) <|
      bd (fX6_builtFrom a1 (xs (v3 + (1 : Int32)).toNatClampNeg) (xs (v3 + (2 : Int32)).toNatClampNeg) L) fun z22 =>
      gd (vin (v3 + (1 : Int32)) n0) <|
      gd (vin (v3 + (2 : Int32)) n0) <|
      bd (fX7_builtFrom a2 (xs (v3 + (1 : Int32)).toNatClampNeg) (xs (v3 + (2 : Int32)).toNatClampNeg) z22.2) fun z25 =>
      if z22.1 = z25.1 then (
        lt (v3 + (5 : Int32)) fun w27 =>
        some (.inl (w27, z25.2)))
      else
        some (.inr (.inr ((0 : Int32), z25.2))))
    else
    if ((xs v3.toNatClampNeg) &&& (63 : Int32)) = (3 : Int32) then (
      gd (vin (v3 + (1 : Int32)) n0) <|
      gd (vin (v3 + (2 : Int32)) n0) <|
      bd (fX6_will a1 (xs (v3 + (1 : Int32)).toNatClampNeg) (xs (v3 + (2 : Int32)).toNatClampNeg) L) fun z31 =>
      gd (vin (v3 + (1 : Int32)) n0) <|
      gd (vin (v3 + (2 : Int32)) n0) <|
      bd (fX7_will a2 (xs (v3 + (1 : Int32)).toNatClampNeg) (xs (v3 + (2 : Int32)).toNatClampNeg) z31.2) fun z34 =>
      if z31.1 = z34.1 then (
        lt (v3 + (5 : Int32)) fun w36 =>
        some (.inl (w36, z34.2)))
      else
        some (.inr (.inr ((0 : Int32), z34.2))))
    else
    if ((xs v3.toNatClampNeg) &&& (63 : Int32)) = (4 : Int32) then (
      gd (vin (v3 + (1 : Int32)) n0) <|
      gd (vin (v3 + (2 : Int32)) n0) <|
      gd (vin (v3 + (3 : Int32)) n0) <|
      if (xs (v3 + (3 : Int32)).toNatClampNeg) = 0 then (
        fL_law_j354 xs n0 a1 a2 v3 (xs (v3 + (1 : Int32)).toNatClampNeg) (xs (v3 + (2 : Int32)).toNatClampNeg) (0 : Int32) L)
      else
        fL_law_j354 xs n0 a1 a2 v3 (xs (v3 + (1 : Int32)).toNatClampNeg) (xs (v3 + (2 : Int32)).toNatClampNeg) (1 : Int32) L)
    else
    if ((xs v3.toNatClampNeg) &&& (63 : Int32)) = (5 : Int32) then (
      gd (vin (v3 + (1 : Int32)) n0) <|
      gd (vin (v3 + (2 : Int32)) n0) <|
      bd (fX6_one a1 (xs (v3 + (1 : Int32)).toNatClampNeg) (xs (v3 + (2 : Int32)).toNatClampNeg) L) fun z53 =>
      gd (vin (v3 + (1 : Int32)) n0) <|
      gd (vin (v3 + (2 : Int32)) n0) <|
      bd (fX7_one a2 (xs (v3 + (1 : Int32)).toNatClampNeg) (xs (v3 + (2 : Int32)).toNatClampNeg) z53.2) fun z56 =>
      if z53.1 = z56.1 then (
        lt (v3 + (5 : Int32)) fun w58 =>
        some (.inl (w58, z56.2)))
      else
        some (.inr (.inr ((0 : Int32), z56.2))))
    else
    if ((xs v3.toNatClampNeg) &&& (63 : Int32)) = (6 : Int32) then (
      gd (vin (v3 + (1 : Int32)) n0) <|
      gd (vin (v3 + (2 : Int32)) n0) <|
      gd (vin (v3 + (3 : Int32)) n0) <|
      if (xs (v3 + (3 : Int32)).toNatClampNeg) = 0 then (
        fL_law_j446 xs n0 a1 a2 v3 (xs (v3 + (1 : Int32)).toNatClampNeg) (xs (v3 + (2 : Int32)).toNatClampNeg) (0 : Int32) L)
      else
        fL_law_j446 xs n0 a1 a2 v3 (xs (v3 + (1 : Int32)).toNatClampNeg) (xs (v3 + (2 : Int32)).toNatClampNeg) (1 : Int32) L)
    else
    if ((xs v3.toNatClampNeg) &&& (63 : Int32)) = (7 : Int32) then (
      gd (vin (v3 + (1 : Int32)) n0) <|
      gd (vin (v3 + (2 : Int32)) n0) <|
      bd (fX6_mark a1 (xs (v3 + (1 : Int32)).toNatClampNeg) (xs (v3 + (2 : Int32)).toNatClampNeg) L) fun z75 =>
      gd (vin (v3 + (1 : Int32)) n0) <|
      gd (vin (v3 + (2 : Int32)) n0) <|
      bd (fX7_mark a2 (xs (v3 + (1 : Int32)).toNatClampNeg) (xs (v3 + (2 : Int32)).toNatClampNeg) z75.2) fun z78 =>
      if z75.1 = z78.1 then (
        lt (v3 + (5 : Int32)) fun w80 =>
        some (.inl (w80, z78.2)))
      else
        some (.inr (.inr ((0 : Int32), z78.2))))
    else
    if ((xs v3.toNatClampNeg) &&& (63 : Int32)) = (8 : Int32) then (
      gd (vin (v3 + (1 : Int32)) n0) <|
      bd (fX6_type a1 (xs (v3 + (1 : Int32)).toNatClampNeg) L) fun z83 =>
      gd (vin (v3 + (1 : Int32)) n0) <|
      bd (fX7_type a2 (xs (v3 + (1 : Int32)).toNatClampNeg) z83.2) fun z85 =>
      if z83.1 = z85.1 then (
        lt (v3 + (5 : Int32)) fun w87 =>
        some (.inl (w87, z85.2)))
      else
        some (.inr (.inr ((0 : Int32), z85.2))))
    else
    if ((xs v3.toNatClampNeg) &&& (63 : Int32)) = (9 : Int32) then (
      bd (fX6_clear a1 L) fun z89 =>
      bd (fX7_clear a2 z89.2) fun z90 =>
      if z89.1 = z90.1 then (
        lt (v3 + (5 : Int32)) fun w92 =>
        some (.inl (w92, z90.2)))
      else
        some (.inr (.inr ((0 : Int32), z90.2))))
    else
    if ((xs v3.toNatClampNeg) &&& (63 : Int32)) = (10 : Int32) then (
      bd (fX6_read a1 L) fun z94 =>
      bd (fX7_read a2 z94.2) fun z95 =>
      if z94.1 = z95.1 then (
        lt (v3 + (5 : Int32)) fun w97 =>
        some (.inl (w97, z95.2)))
      else
        some (.inr (.inr ((0 : Int32), z95.2))))
    else
    if ((xs v3.toNatClampNeg) &&& (63 : Int32)) = (11 : Int32) then (
      gd (vin (v3 + (1 : Int32)) n0) <|
      bd (fX6_fall a1 (xs (v3 + (1 : Int32)).toNatClampNeg) L) fun z100 =>
      gd (vin (v3 + (1 : Int32)) n0) <|
      bd (fX7_fall a2 (xs (v3 + (1 : Int32)).toNatClampNeg) z100.2) fun z102 =>
      if z100.1 = z102.1 then (
        lt (v3 + (5 : Int32)) fun w104 =>
        some (.inl (w104, z102.2)))
      else
        some (.inr (.inr ((0 : Int32), z102.2))))
    else
    if ((xs v3.toNatClampNeg) &&& (63 : Int32)) = (12 : Int32) then (
      gd (vin (v3 + (1 : Int32)) n0) <|
      bd (fX6_year a1 (xs (v3 + (1 : Int32)).toNatClampNeg) L) fun z107 =>
      gd (vin (v3 + (1 : Int32)) n0) <|
      bd (fX7_year a2 (xs (v3 + (1 : Int32)).toNatClampNeg) z107.2) fun z109 =>
      if z107.1 = z109.1 then (
        lt (v3 + (5 : Int32)) fun w111 =>
        some (.inl (w111, z109.2)))
      else
        some (.inr (.inr ((0 : Int32), z109.2))))
    else
    if ((xs v3.toNatClampNeg) &&& (63 : Int32)) = (13 : Int32) then (
      gd (vin (v3 + (1 : Int32)) n0) <|
      gd (vin (v3 + (2 : Int32)) n0) <|
      bd (fX6_move a1 (xs (v3 + (1 : Int32)).toNatClampNeg) (xs (v3 + (2 : Int32)).toNatClampNeg) L) fun z115 =>
      gd (vin (v3 + (1 : Int32)) n0) <|
      gd (vin (v3 + (2 : Int32)) n0) <|
      bd (fX7_move a2 (xs (v3 + (1 : Int32)).toNatClampNeg) (xs (v3 + (2 : Int32)).toNatClampNeg) z115.2) fun z118 =>
      if z115.1 = z118.1 then (
        lt (v3 + (5 : Int32)) fun w120 =>
        some (.inl (w120, z118.2)))
      else
        some (.inr (.inr ((0 : Int32), z118.2))))
    else
    if ((xs v3.toNatClampNeg) &&& (63 : Int32)) = (14 : Int32) then (
      bd (fX6_undo a1 L) fun z122 =>
      bd (fX7_undo a2 z122.2) fun z123 =>
      if z122.1 = z123.1 then (
        lt (v3 + (5 : Int32)) fun w125 =>
        some (.inl (w125, z123.2)))
      else
        some (.inr (.inr ((0 : Int32), z123.2))))
    else
    if ((xs v3.toNatClampNeg) &&& (63 : Int32)) = (15 : Int32) then (
      gd (vin (v3 + (1 : Int32)) n0) <|
      gd (vin (v3 + (2 : Int32)) n0) <|
      bd (fX6_of a1 (xs (v3 + (1 : Int32)).toNatClampNeg) (xs (v3 + (2 : Int32)).toNatClampNeg) L) fun z129 =>
      gd (vin (v3 + (1 : Int32)) n0) <|
      gd (vin (v3 + (2 : Int32)) n0) <|
      bd (fX7_of a2 (xs (v3 + (1 : Int32)).toNatClampNeg) (xs (v3 + (2 : Int32)).toNatClampNeg) z129.2) fun z132 =>
      if z129.1 = z132.1 then (
        lt (v3 + (5 : Int32)) fun w134 =>
        some (.inl (w134, z132.2)))
      else
        some (.inr (.inr ((0 : Int32), z132.2))))
    else
    if ((xs v3.toNatClampNeg) &&& (63 : Int32)) = (16 : Int32) then (
      gd (vin (v3 + (1 : Int32)) n0) <|
      gd (vin (v3 + (2 : Int32)) n0) <|
      bd (fX6_who a1 (xs (v3 + (1 : Int32)).toNatClampNeg) (xs (v3 + (2 : Int32)).toNatClampNeg) L) fun z138 =>
      gd (vin (v3 + (1 : Int32)) n0) <|
      gd (vin (v3 + (2 : Int32)) n0) <|
      bd (fX7_who a2 (xs (v3 + (1 : Int32)).toNatClampNeg) (xs (v3 + (2 : Int32)).toNatClampNeg) z138.2) fun z141 =>
      if z138.1 = z141.1 then (
        lt (v3 + (5 : Int32)) fun w143 =>
        some (.inl (w143, z141.2)))
      else
        some (.inr (.inr ((0 : Int32), z141.2))))
    else
    if ((xs v3.toNatClampNeg) &&& (63 : Int32)) = (17 : Int32) then (
      gd (vin (v3 + (1 : Int32)) n0) <|
      gd (vin (v3 + (2 : Int32)) n0) <|
      bd (fX6_degree a1 (xs (v3 + (1 : Int32)).toNatClampNeg) (xs (v3 + (2 : Int32)).toNatClampNeg) L) fun z147 =>
      gd (vin (v3 + (1 : Int32)) n0) <|
      gd (vin (v3 + (2 : Int32)) n0) <|
      bd (fX7_degree a2 (xs (v3 + (1 : Int32)).toNatClampNeg) (xs (v3 + (2 : Int32)).toNatClampNeg) z147.2) fun z150 =>
      if z147.1 = z150.1 then (
        lt (v3 + (5 : Int32)) fun w152 =>
        some (.inl (w152, z150.2)))
      else
        some (.inr (.inr ((0 : Int32), z150.2))))
    else
    if ((xs v3.toNatClampNeg) &&& (63 : Int32)) = (18 : Int32) then (
      gd (vin (v3 + (1 : Int32)) n0) <|
      gd (vin (v3 + (2 : Int32)) n0) <|
      bd (fX6_rank a1 (xs (v3 + (1 : Int32)).toNatClampNeg) (xs (v3 + (2 : Int32)).toNatClampNeg) L) fun z156 =>
      gd (vin (v3 + (1 : Int32)) n0) <|
      gd (vin (v3 + (2 : Int32)) n0) <|
      bd (fX7_rank a2 (xs (v3 + (1 : Int32)).toNatClampNeg) (xs (v3 + (2 : Int32)).toNatClampNeg) z156.2) fun z159 =>
      if z156.1 = z159.1 then (
        lt (v3 + (5 : Int32)) fun w161 =>
        some (.inl (w161, z159.2)))
      else
        some (.inr (.inr ((0 : Int32), z159.2))))
    else
    if ((xs v3.toNatClampNeg) &&& (63 : Int32)) = (19 : Int32) then (
      gd (vin (v3 + (1 : Int32)) n0) <|
      bd (fX6_heir a1 (xs (v3 + (1 : Int32)).toNatClampNeg) L) fun z164 =>
      gd (vin (v3 + (1 : Int32)) n0) <|
      bd (fX7_heir a2 (xs (v3 + (1 : Int32)).toNatClampNeg) z164.2) fun z166 =>
      if z164.1 = z166.1 then (
        lt (v3 + (5 : Int32)) fun w168 =>
        some (.inl (w168, z166.2)))
      else
        some (.inr (.inr ((0 : Int32), z166.2))))
    else
    if ((xs v3.toNatClampNeg) &&& (63 : Int32)) = (20 : Int32) then (
      gd (vin (v3 + (1 : Int32)) n0) <|
      gd (vin (v3 + (2 : Int32)) n0) <|
      bd (fX6_wills a1 (xs (v3 + (1 : Int32)).toNatClampNeg) (xs (v3 + (2 : Int32)).toNatClampNeg) L) fun z172 =>
      gd (vin (v3 + (1 : Int32)) n0) <|
      gd (vin (v3 + (2 : Int32)) n0) <|
      bd (fX7_wills a2 (xs (v3 + (1 : Int32)).toNatClampNeg) (xs (v3 + (2 : Int32)).toNatClampNeg) z172.2) fun z175 =>
      if z172.1 = z175.1 then (
        lt (v3 + (5 : Int32)) fun w177 =>
        some (.inl (w177, z175.2)))
      else
        some (.inr (.inr ((0 : Int32), z175.2))))
    else
    if ((xs v3.toNatClampNeg) &&& (63 : Int32)) = (21 : Int32) then (
      gd (vin (v3 + (1 : Int32)) n0) <|
      gd (vin (v3 + (2 : Int32)) n0) <|
      bd (fX6_buildFor a1 (xs (v3 + (1 : Int32)).toNatClampNeg) (xs (v3 + (2 : Int32)).toNatClampNeg) L) fun z181 =>
      gd (vin (v3 + (1 : Int32)) n0) <|
      gd (vin (v3 + (2 : Int32)) n0) <|
      bd (fX7_buildFor a2 (xs (v3 + (1 : Int32)).toNatClampNeg) (xs (v3 + (2 : Int32)).toNatClampNeg) z181.2) fun z184 =>
      if z181.1 = z184.1 then (
        lt (v3 + (5 : Int32)) fun w186 =>
        some (.inl (w186, z184.2)))
      else
        some (.inr (.inr ((0 : Int32), z184.2))))
    else
    if ((xs v3.toNatClampNeg) &&& (63 : Int32)) = (22 : Int32) then (
      gd (vin (v3 + (1 : Int32)) n0) <|
      gd (vin (v3 + (2 : Int32)) n0) <|
      bd (fX6_adopts a1 (xs (v3 + (1 : Int32)).toNatClampNeg) (xs (v3 + (2 : Int32)).toNatClampNeg) L) fun z190 =>
      gd (vin (v3 + (1 : Int32)) n0) <|
      gd (vin (v3 + (2 : Int32)) n0) <|
      bd (fX7_adopts a2 (xs (v3 + (1 : Int32)).toNatClampNeg) (xs (v3 + (2 : Int32)).toNatClampNeg) z190.2) fun z193 =>
      if z190.1 = z193.1 then (
        lt (v3 + (5 : Int32)) fun w195 =>
        some (.inl (w195, z193.2)))
      else
        some (.inr (.inr ((0 : Int32), z193.2))))
    else
    if ((xs v3.toNatClampNeg) &&& (63 : Int32)) = (23 : Int32) then (
      gd (vin (v3 + (1 : Int32)) n0) <|
      gd (vin (v3 + (2 : Int32)) n0) <|
      bd (fX6_lives a1 (xs (v3 + (1 : Int32)).toNatClampNeg) (xs (v3 + (2 : Int32)).toNatClampNeg) L) fun z199 =>
      gd (vin (v3 + (1 : Int32)) n0) <|
      gd (vin (v3 + (2 : Int32)) n0) <|
      bd (fX7_lives a2 (xs (v3 + (1 : Int32)).toNatClampNeg) (xs (v3 + (2 : Int32)).toNatClampNeg) z199.2) fun z202 =>
      if z199.1 = z202.1 then (
        lt (v3 + (5 : Int32)) fun w204 =>
        some (.inl (w204, z202.2)))
      else
        some (.inr (.inr ((0 : Int32), z202.2))))
    else
    if ((xs v3.toNatClampNeg) &&& (63 : Int32)) = (24 : Int32) then (
      gd (vin (v3 + (1 : Int32)) n0) <|
      bd (fX6_stand a1 (xs (v3 + (1 : Int32)).toNatClampNeg) L) fun z207 =>
      gd (vin (v3 + (1 : Int32)) n0) <|
      bd (fX7_stand a2 (xs (v3 + (1 : Int32)).toNatClampNeg) z207.2) fun z209 =>
      if z207.1 = z209.1 then (
        lt (v3 + (5 : Int32)) fun w211 =>
        some (.inl (w211, z209.2)))
      else
        some (.inr (.inr ((0 : Int32), z209.2))))
    else
    if ((xs v3.toNatClampNeg) &&& (63 : Int32)) = (25 : Int32) then (
      gd (vin (v3 + (1 : Int32)) n0) <|
      bd (fX6_overfull a1 (xs (v3 + (1 : Int32)).toNatClampNeg) L) fun z214 =>
      gd (vin (v3 + (1 : Int32)) n0) <|
      bd (fX7_overfull a2 (xs (v3 + (1 : Int32)).toNatClampNeg) z214.2) fun z216 =>
      if z214.1 = z216.1 then (
        lt (v3 + (5 : Int32)) fun w218 =>
        some (.inl (w218, z216.2)))
      else
        some (.inr (.inr ((0 : Int32), z216.2))))
    else
    if ((xs v3.toNatClampNeg) &&& (63 : Int32)) = (26 : Int32) then (
      gd (vin (v3 + (1 : Int32)) n0) <|
      gd (vin (v3 + (2 : Int32)) n0) <|
      gd (vin (v3 + (3 : Int32)) n0) <|
      gd (vin (v3 + (4 : Int32)) n0) <|
      bd (fX6_orders a1 (xs (v3 + (1 : Int32)).toNatClampNeg) (xs (v3 + (2 : Int32)).toNatClampNeg) (xs (v3 + (3 : Int32)).toNatClampNeg) (xs (v3 + (4 : Int32)).toNatClampNeg) L) fun z224 =>
      gd (vin (v3 + (1 : Int32)) n0) <|
      gd (vin (v3 + (2 : Int32)) n0) <|
      gd (vin (v3 + (3 : Int32)) n0) <|
      gd (vin (v3 + (4 : Int32)) n0) <|
      bd (fX7_orders a2 (xs (v3 + (1 : Int32)).toNatClampNeg) (xs (v3 + (2 : Int32)).toNatClampNeg) (xs (v3 + (3 : Int32)).toNatClampNeg) (xs (v3 + (4 : Int32)).toNatClampNeg) z224.2) fun z229 =>
      if z224.1 = z229.1 then (
        lt (v3 + (5 : Int32)) fun w231 =>
        some (.inl (w231, z229.2)))
      else
        some (.inr (.inr ((0 : Int32), z229.2))))
    else
    if ((xs v3.toNatClampNeg) &&& (63 : Int32)) = (27 : Int32) then (
      gd (vin (v3 + (1 : Int32)) n0) <|
      bd (fX6_safe a1 (xs (v3 + (1 : Int32)).toNatClampNeg) L) fun z234 =>
      gd (vin (v3 + (1 : Int32)) n0) <|
      bd (fX7_safe a2 (xs (v3 + (1 : Int32)).toNatClampNeg) z234.2) fun z236 =>
      if z234.1 = z236.1 then (
        lt (v3 + (5 : Int32)) fun w238 =>
        some (.inl (w238, z236.2)))
      else
        some (.inr (.inr ((0 : Int32), z236.2))))
    else
    if ((xs v3.toNatClampNeg) &&& (63 : Int32)) = (28 : Int32) then (
      gd (vin (v3 + (1 : Int32)) n0) <|
      bd (fX6_moves a1 (xs (v3 + (1 : Int32)).toNatClampNeg) L) fun z241 =>
      gd (vin (v3 + (1 : Int32)) n0) <|
      bd (fX7_moves a2 (xs (v3 + (1 : Int32)).toNatClampNeg) z241.2) fun z243 =>
      if z241.1 = z243.1 then (
        lt (v3 + (5 : Int32)) fun w245 =>
        some (.inl (w245, z243.2)))
      else
        some (.inr (.inr ((0 : Int32), z243.2))))
    else
    if ((xs v3.toNatClampNeg) &&& (63 : Int32)) = (29 : Int32) then (
      gd (vin (v3 + (1 : Int32)) n0) <|
      bd (fX6_share a1 (xs (v3 + (1 : Int32)).toNatClampNeg) L) fun z248 =>
      gd (vin (v3 + (1 : Int32)) n0) <|
      bd (fX7_share a2 (xs (v3 + (1 : Int32)).toNatClampNeg) z248.2) fun z250 =>
      if z248.1 = z250.1 then (
        lt (v3 + (5 : Int32)) fun w252 =>
        some (.inl (w252, z250.2)))
      else
        some (.inr (.inr ((0 : Int32), z250.2))))
    else
    if ((xs v3.toNatClampNeg) &&& (63 : Int32)) = (30 : Int32) then (
      gd (vin (v3 + (1 : Int32)) n0) <|
      gd (vin (v3 + (2 : Int32)) n0) <|
      bd (fX6_plaster a1 (xs (v3 + (1 : Int32)).toNatClampNeg) (xs (v3 + (2 : Int32)).toNatClampNeg) L) fun z256 =>
      gd (vin (v3 + (1 : Int32)) n0) <|
      gd (vin (v3 + (2 : Int32)) n0) <|
      bd (fX7_plaster a2 (xs (v3 + (1 : Int32)).toNatClampNeg) (xs (v3 + (2 : Int32)).toNatClampNeg) z256.2) fun z259 =>
      if z256.1 = z259.1 then (
        lt (v3 + (5 : Int32)) fun w261 =>
        some (.inl (w261, z259.2)))
      else
        some (.inr (.inr ((0 : Int32), z259.2))))
    else
    if ((xs v3.toNatClampNeg) &&& (63 : Int32)) = (31 : Int32) then (
      gd (vin (v3 + (1 : Int32)) n0) <|
      bd (fX6_gables a1 (xs (v3 + (1 : Int32)).toNatClampNeg) L) fun z264 =>
      gd (vin (v3 + (1 : Int32)) n0) <|
      bd (fX7_gables a2 (xs (v3 + (1 : Int32)).toNatClampNeg) z264.2) fun z266 =>
      if z264.1 = z266.1 then (
        lt (v3 + (5 : Int32)) fun w268 =>
        some (.inl (w268, z266.2)))
      else
        some (.inr (.inr ((0 : Int32), z266.2))))
    else
    if ((xs v3.toNatClampNeg) &&& (63 : Int32)) = (32 : Int32) then (
      gd (vin (v3 + (1 : Int32)) n0) <|
      gd (vin (v3 + (2 : Int32)) n0) <|
      gd (vin (v3 + (3 : Int32)) n0) <|
      gd (vin (v3 + (4 : Int32)) n0) <|
      bd (fX6_doors a1 (xs (v3 + (1 : Int32)).toNatClampNeg) (xs (v3 + (2 : Int32)).toNatClampNeg) (xs (v3 + (3 : Int32)).toNatClampNeg) (xs (v3 + (4 : Int32)).toNatClampNeg) L) fun z274 =>
      gd (vin (v3 + (1 : Int32)) n0) <|
      gd (vin (v3 + (2 : Int32)) n0) <|
      gd (vin (v3 + (3 : Int32)) n0) <|
      gd (vin (v3 + (4 : Int32)) n0) <|
      bd (fX7_doors a2 (xs (v3 + (1 : Int32)).toNatClampNeg) (xs (v3 + (2 : Int32)).toNatClampNeg) (xs (v3 + (3 : Int32)).toNatClampNeg) (xs (v3 + (4 : Int32)).toNatClampNeg) z274.2) fun z279 =>
      if z274.1 = z279.1 then (
        lt (v3 + (5 : Int32)) fun w281 =>
        some (.inl (w281, z279.2)))
      else
        some (.inr (.inr ((0 : Int32), z279.2))))
    else
    if ((xs v3.toNatClampNeg) &&& (63 : Int32)) = (33 : Int32) then (
      gd (vin (v3 + (1 : Int32)) n0) <|
      gd (vin (v3 + (2 : Int32)) n0) <|
      bd (fX6_drawn a1 (xs (v3 + (1 : Int32)).toNatClampNeg) (xs (v3 + (2 : Int32)).toNatClampNeg) L) fun z285 =>
      gd (vin (v3 + (1 : Int32)) n0) <|
      gd (vin (v3 + (2 : Int32)) n0) <|
      bd (fX7_drawn a2 (xs (v3 + (1 : Int32)).toNatClampNeg) (xs (v3 + (2 : Int32)).toNatClampNeg) z285.2) fun z288 =>
      if z285.1 = z288.1 then (
        lt (v3 + (5 : Int32)) fun w290 =>
        some (.inl (w290, z288.2)))
      else
        some (.inr (.inr ((0 : Int32), z288.2))))
    else
    if ((xs v3.toNatClampNeg) &&& (63 : Int32)) = (34 : Int32) then (
      gd (vin (v3 + (1 : Int32)) n0) <|
      bd (fX6_part a1 (xs (v3 + (1 : Int32)).toNatClampNeg) L) fun z293 =>
      gd (vin (v3 + (1 : Int32)) n0) <|
      bd (fX7_part a2 (xs (v3 + (1 : Int32)).toNatClampNeg) z293.2) fun z295 =>
      if (lg_cmp z293.1 z295.1) = 0 then (
        lt (v3 + (5 : Int32)) fun w297 =>
        some (.inl (w297, z295.2)))
      else
        some (.inr (.inr ((0 : Int32), z295.2))))
    else
    if ((xs v3.toNatClampNeg) &&& (63 : Int32)) = (35 : Int32) then (
      gd (vin (v3 + (1 : Int32)) n0) <|
      bd (fX6_image a1 (xs (v3 + (1 : Int32)).toNatClampNeg) L) fun z300 =>
      gd (vin (v3 + (1 : Int32)) n0) <|
      bd (fX7_image a2 (xs (v3 + (1 : Int32)).toNatClampNeg) z300.2) fun z302 =>
      if z300.1 = z302.1 then (
        lt (v3 + (5 : Int32)) fun w304 =>
        some (.inl (w304, z302.2)))
      else
        some (.inr (.inr ((0 : Int32), z302.2))))
    else
    if ((xs v3.toNatClampNeg) &&& (63 : Int32)) = (36 : Int32) then (
      gd (vin (v3 + (1 : Int32)) n0) <|
      bd (fX6_from a1 (xs (v3 + (1 : Int32)).toNatClampNeg) L) fun z307 =>
      gd (vin (v3 + (1 : Int32)) n0) <|
      bd (fX7_from a2 (xs (v3 + (1 : Int32)).toNatClampNeg) z307.2) fun z309 =>
      if z307.1 = z309.1 then (
        lt (v3 + (5 : Int32)) fun w311 =>
        some (.inl (w311, z309.2)))
      else
        some (.inr (.inr ((0 : Int32), z309.2))))
    else
    if ((xs v3.toNatClampNeg) &&& (63 : Int32)) = (37 : Int32) then (
      gd (vin (v3 + (1 : Int32)) n0) <|
      bd (fX6_status a1 (xs (v3 + (1 : Int32)).toNatClampNeg) L) fun z314 =>
      gd (vin (v3 + (1 : Int32)) n0) <|
      bd (fX7_status a2 (xs (v3 + (1 : Int32)).toNatClampNeg) z314.2) fun z316 =>
      if z314.1 = z316.1 then (
        lt (v3 + (5 : Int32)) fun w318 =>
        some (.inl (w318, z316.2)))
      else
        some (.inr (.inr ((0 : Int32), z316.2))))
    else
    if ((xs v3.toNatClampNeg) &&& (63 : Int32)) = (38 : Int32) then (
      gd (vin (v3 + (1 : Int32)) n0) <|
      bd (fX6_count a1 (xs (v3 + (1 : Int32)).toNatClampNeg) L) fun z321 =>
      gd (vin (v3 + (1 : Int32)) n0) <|
      bd (fX7_count a2 (xs (v3 + (1 : Int32)).toNatClampNeg) z321.2) fun z323 =>
      if z321.1 = z323.1 then (
        lt (v3 + (5 : Int32)) fun w325 =>
        some (.inl (w325, z323.2)))
      else
        some (.inr (.inr ((0 : Int32), z323.2))))
    else
    if ((xs v3.toNatClampNeg) &&& (63 : Int32)) = (39 : Int32) then (
      bd (fX6_digest a1 L) fun z327 =>
      bd (fX7_digest a2 L) fun z328 =>
      if (lg_cmp z327 z328) = 0 then (
        lt (v3 + (5 : Int32)) fun w330 =>
        some (.inl (w330, L)))
      else
        some (.inr (.inr ((0 : Int32), L))))
    else
    lt (v3 + (5 : Int32)) fun w331 =>
    some (.inl (w331, L))
def fL_law (xs : Nat → Int32) (n0 : Nat) (a1 : Nat) (a2 : Nat) (L : HL) : Option (Int32 × HL) :=
  lx (lp (fun s332 : Int32 × HL => fL_law_b18 xs n0 a1 a2 s332.1 s332.2) FU ((0 : Int32), L)) (fun v => some v) fun s332 =>
  some ((1 : Int32), s332.2)
