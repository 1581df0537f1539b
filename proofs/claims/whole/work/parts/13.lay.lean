/-! ===== where things lie: an object and what it owns, cell behind cell ===== -/
def isX4 (E : Ev) (b : Nat) : Prop := (eK E b = some (.inl 4)) ∧ (eR E b 4 = b + 1) ∧ (eK E (b + 1) = some (.inr (0, 5))) ∧ (eR E b 5 = b + 2) ∧ (eK E (b + 2) = some (.inr (0, 5))) ∧ (eR E b 6 = b + 3) ∧ (eK E (b + 3) = some (.inr (0, 5))) ∧ (eR E b 7 = b + 4) ∧ (eK E (b + 4) = some (.inr (0, 5))) ∧ (eR E b 8 = b + 5) ∧ (eK E (b + 5) = some (.inr (0, 5))) ∧ (eR E b 9 = b + 6) ∧ (eK E (b + 6) = some (.inr (0, 5))) ∧ (eR E b 10 = b + 7) ∧ (eK E (b + 7) = some (.inr (0, 5))) ∧ (eR E b 11 = b + 8) ∧ (eK E (b + 8) = some (.inr (0, 6))) ∧ (eR E b 12 = b + 9) ∧ (eK E (b + 9) = some (.inr (0, 6))) ∧ (eR E b 13 = b + 10) ∧ (eK E (b + 10) = some (.inr (0, 4))) ∧ (eR E b 14 = b + 11) ∧ (eK E (b + 11) = some (.inr (0, 5))) ∧ (eR E b 15 = b + 12) ∧ (eK E (b + 12) = some (.inr (0, 5))) ∧ (eR E b 16 = b + 13) ∧ (eK E (b + 13) = some (.inr (0, 5)))
theorem X4_k {E : Ev} {b : Nat} (h : isX4 E b) : eK E b = some (.inl 4) := h.1
theorem X4_r4 {E : Ev} {b : Nat} (h : isX4 E b) : eR E b 4 = b + 1 := h.2.1
theorem X4_a4 {E : Ev} {b : Nat} (h : isX4 E b) : eK E (b + 1) = some (.inr (0, 5)) := h.2.2.1
theorem X4_r5 {E : Ev} {b : Nat} (h : isX4 E b) : eR E b 5 = b + 2 := h.2.2.2.1
theorem X4_a5 {E : Ev} {b : Nat} (h : isX4 E b) : eK E (b + 2) = some (.inr (0, 5)) := h.2.2.2.2.1
theorem X4_r6 {E : Ev} {b : Nat} (h : isX4 E b) : eR E b 6 = b + 3 := h.2.2.2.2.2.1
theorem X4_a6 {E : Ev} {b : Nat} (h : isX4 E b) : eK E (b + 3) = some (.inr (0, 5)) := h.2.2.2.2.2.2.1
theorem X4_r7 {E : Ev} {b : Nat} (h : isX4 E b) : eR E b 7 = b + 4 := h.2.2.2.2.2.2.2.1
theorem X4_a7 {E : Ev} {b : Nat} (h : isX4 E b) : eK E (b + 4) = some (.inr (0, 5)) := h.2.2.2.2.2.2.2.2.1
theorem X4_r8 {E : Ev} {b : Nat} (h : isX4 E b) : eR E b 8 = b + 5 := h.2.2.2.2.2.2.2.2.2.1
theorem X4_a8 {E : Ev} {b : Nat} (h : isX4 E b) : eK E (b + 5) = some (.inr (0, 5)) := h.2.2.2.2.2.2.2.2.2.2.1
theorem X4_r9 {E : Ev} {b : Nat} (h : isX4 E b) : eR E b 9 = b + 6 := h.2.2.2.2.2.2.2.2.2.2.2.1
theorem X4_a9 {E : Ev} {b : Nat} (h : isX4 E b) : eK E (b + 6) = some (.inr (0, 5)) := h.2.2.2.2.2.2.2.2.2.2.2.2.1
theorem X4_r10 {E : Ev} {b : Nat} (h : isX4 E b) : eR E b 10 = b + 7 := h.2.2.2.2.2.2.2.2.2.2.2.2.2.1
theorem X4_a10 {E : Ev} {b : Nat} (h : isX4 E b) : eK E (b + 7) = some (.inr (0, 5)) := h.2.2.2.2.2.2.2.2.2.2.2.2.2.2.1
theorem X4_r11 {E : Ev} {b : Nat} (h : isX4 E b) : eR E b 11 = b + 8 := h.2.2.2.2.2.2.2.2.2.2.2.2.2.2.2.1
theorem X4_a11 {E : Ev} {b : Nat} (h : isX4 E b) : eK E (b + 8) = some (.inr (0, 6)) := h.2.2.2.2.2.2.2.2.2.2.2.2.2.2.2.2.1
theorem X4_r12 {E : Ev} {b : Nat} (h : isX4 E b) : eR E b 12 = b + 9 := h.2.2.2.2.2.2.2.2.2.2.2.2.2.2.2.2.2.1
theorem X4_a12 {E : Ev} {b : Nat} (h : isX4 E b) : eK E (b + 9) = some (.inr (0, 6)) := h.2.2.2.2.2.2.2.2.2.2.2.2.2.2.2.2.2.2.1
theorem X4_r13 {E : Ev} {b : Nat} (h : isX4 E b) : eR E b 13 = b + 10 := h.2.2.2.2.2.2.2.2.2.2.2.2.2.2.2.2.2.2.2.1
theorem X4_a13 {E : Ev} {b : Nat} (h : isX4 E b) : eK E (b + 10) = some (.inr (0, 4)) := h.2.2.2.2.2.2.2.2.2.2.2.2.2.2.2.2.2.2.2.2.1
theorem X4_r14 {E : Ev} {b : Nat} (h : isX4 E b) : eR E b 14 = b + 11 := h.2.2.2.2.2.2.2.2.2.2.2.2.2.2.2.2.2.2.2.2.2.1
theorem X4_a14 {E : Ev} {b : Nat} (h : isX4 E b) : eK E (b + 11) = some (.inr (0, 5)) := h.2.2.2.2.2.2.2.2.2.2.2.2.2.2.2.2.2.2.2.2.2.2.1
theorem X4_r15 {E : Ev} {b : Nat} (h : isX4 E b) : eR E b 15 = b + 12 := h.2.2.2.2.2.2.2.2.2.2.2.2.2.2.2.2.2.2.2.2.2.2.2.1
theorem X4_a15 {E : Ev} {b : Nat} (h : isX4 E b) : eK E (b + 12) = some (.inr (0, 5)) := h.2.2.2.2.2.2.2.2.2.2.2.2.2.2.2.2.2.2.2.2.2.2.2.2.1
theorem X4_r16 {E : Ev} {b : Nat} (h : isX4 E b) : eR E b 16 = b + 13 := h.2.2.2.2.2.2.2.2.2.2.2.2.2.2.2.2.2.2.2.2.2.2.2.2.2.1
theorem X4_a16 {E : Ev} {b : Nat} (h : isX4 E b) : eK E (b + 13) = some (.inr (0, 5)) := h.2.2.2.2.2.2.2.2.2.2.2.2.2.2.2.2.2.2.2.2.2.2.2.2.2.2
def isX3 (E : Ev) (b : Nat) : Prop := (eK E b = some (.inl 3)) ∧ (eR E b 2 = b + 1) ∧ (eK E (b + 1) = some (.inr (0, 8))) ∧ (eR E b 3 = b + 2) ∧ (eK E (b + 2) = some (.inr (0, 8))) ∧ (eR E b 4 = b + 3) ∧ (eK E (b + 3) = some (.inr (2, 8))) ∧ (∀ j, j < 8 → eR E (b + 3) j = b + 3 + 1 + j ∧ eK E (b + 3 + 1 + j) = some (.inr (0, 5))) ∧ (eR E b 5 = b + 12) ∧ (eK E (b + 12) = some (.inr (2, 8))) ∧ (∀ j, j < 8 → eR E (b + 12) j = b + 12 + 1 + j ∧ eK E (b + 12 + 1 + j) = some (.inr (0, 6)))
theorem X3_k {E : Ev} {b : Nat} (h : isX3 E b) : eK E b = some (.inl 3) := h.1
theorem X3_r2 {E : Ev} {b : Nat} (h : isX3 E b) : eR E b 2 = b + 1 := h.2.1
theorem X3_a2 {E : Ev} {b : Nat} (h : isX3 E b) : eK E (b + 1) = some (.inr (0, 8)) := h.2.2.1
theorem X3_r3 {E : Ev} {b : Nat} (h : isX3 E b) : eR E b 3 = b + 2 := h.2.2.2.1
theorem X3_a3 {E : Ev} {b : Nat} (h : isX3 E b) : eK E (b + 2) = some (.inr (0, 8)) := h.2.2.2.2.1
theorem X3_r4 {E : Ev} {b : Nat} (h : isX3 E b) : eR E b 4 = b + 3 := h.2.2.2.2.2.1
theorem X3_a4 {E : Ev} {b : Nat} (h : isX3 E b) : eK E (b + 3) = some (.inr (2, 8)) := h.2.2.2.2.2.2.1
theorem X3_w4 {E : Ev} {b : Nat} (h : isX3 E b) : ∀ j, j < 8 → eR E (b + 3) j = b + 3 + 1 + j ∧ eK E (b + 3 + 1 + j) = some (.inr (0, 5)) := h.2.2.2.2.2.2.2.1
theorem X3_r5 {E : Ev} {b : Nat} (h : isX3 E b) : eR E b 5 = b + 12 := h.2.2.2.2.2.2.2.2.1
theorem X3_a5 {E : Ev} {b : Nat} (h : isX3 E b) : eK E (b + 12) = some (.inr (2, 8)) := h.2.2.2.2.2.2.2.2.2.1
theorem X3_w5 {E : Ev} {b : Nat} (h : isX3 E b) : ∀ j, j < 8 → eR E (b + 12) j = b + 12 + 1 + j ∧ eK E (b + 12 + 1 + j) = some (.inr (0, 6)) := h.2.2.2.2.2.2.2.2.2.2
def isX0 (E : Ev) (b : Nat) : Prop := (eK E b = some (.inl 0)) ∧ (eR E b 1 = b + 1) ∧ (isX4 E (b + 1)) ∧ (eR E b 2 = b + 15) ∧ (isX3 E (b + 15))
theorem X0_k {E : Ev} {b : Nat} (h : isX0 E b) : eK E b = some (.inl 0) := h.1
theorem X0_r1 {E : Ev} {b : Nat} (h : isX0 E b) : eR E b 1 = b + 1 := h.2.1
theorem X0_o1 {E : Ev} {b : Nat} (h : isX0 E b) : isX4 E (b + 1) := h.2.2.1
theorem X0_r2 {E : Ev} {b : Nat} (h : isX0 E b) : eR E b 2 = b + 15 := h.2.2.2.1
theorem X0_o2 {E : Ev} {b : Nat} (h : isX0 E b) : isX3 E (b + 15) := h.2.2.2.2
def isX1 (E : Ev) (b : Nat) : Prop := (eK E b = some (.inl 1)) ∧ (eR E b 0 = b + 1) ∧ (eK E (b + 1) = some (.inr (0, 5))) ∧ (eR E b 1 = b + 2) ∧ (eK E (b + 2) = some (.inr (0, 5))) ∧ (eR E b 2 = b + 3) ∧ (eK E (b + 3) = some (.inr (0, 6)))
theorem X1_k {E : Ev} {b : Nat} (h : isX1 E b) : eK E b = some (.inl 1) := h.1
theorem X1_r0 {E : Ev} {b : Nat} (h : isX1 E b) : eR E b 0 = b + 1 := h.2.1
theorem X1_a0 {E : Ev} {b : Nat} (h : isX1 E b) : eK E (b + 1) = some (.inr (0, 5)) := h.2.2.1
theorem X1_r1 {E : Ev} {b : Nat} (h : isX1 E b) : eR E b 1 = b + 2 := h.2.2.2.1
theorem X1_a1 {E : Ev} {b : Nat} (h : isX1 E b) : eK E (b + 2) = some (.inr (0, 5)) := h.2.2.2.2.1
theorem X1_r2 {E : Ev} {b : Nat} (h : isX1 E b) : eR E b 2 = b + 3 := h.2.2.2.2.2.1
theorem X1_a2 {E : Ev} {b : Nat} (h : isX1 E b) : eK E (b + 3) = some (.inr (0, 6)) := h.2.2.2.2.2.2
def isX2 (E : Ev) (b : Nat) : Prop := (eK E b = some (.inl 2)) ∧ (eR E b 0 = b + 1) ∧ (isX4 E (b + 1)) ∧ (eR E b 1 = b + 15) ∧ (eK E (b + 15) = some (.inr (0, 5))) ∧ (eR E b 2 = b + 16) ∧ (eK E (b + 16) = some (.inr (2, 5))) ∧ (∀ j, j < 5 → eR E (b + 16) j = b + 16 + 1 + j ∧ eK E (b + 16 + 1 + j) = some (.inr (0, 6))) ∧ (eR E b 3 = b + 22) ∧ (eK E (b + 22) = some (.inr (0, 5))) ∧ (eR E b 4 = b + 23) ∧ (eK E (b + 23) = some (.inr (0, 5)))
theorem X2_k {E : Ev} {b : Nat} (h : isX2 E b) : eK E b = some (.inl 2) := h.1
theorem X2_r0 {E : Ev} {b : Nat} (h : isX2 E b) : eR E b 0 = b + 1 := h.2.1
theorem X2_o0 {E : Ev} {b : Nat} (h : isX2 E b) : isX4 E (b + 1) := h.2.2.1
theorem X2_r1 {E : Ev} {b : Nat} (h : isX2 E b) : eR E b 1 = b + 15 := h.2.2.2.1
theorem X2_a1 {E : Ev} {b : Nat} (h : isX2 E b) : eK E (b + 15) = some (.inr (0, 5)) := h.2.2.2.2.1
theorem X2_r2 {E : Ev} {b : Nat} (h : isX2 E b) : eR E b 2 = b + 16 := h.2.2.2.2.2.1
theorem X2_a2 {E : Ev} {b : Nat} (h : isX2 E b) : eK E (b + 16) = some (.inr (2, 5)) := h.2.2.2.2.2.2.1
theorem X2_w2 {E : Ev} {b : Nat} (h : isX2 E b) : ∀ j, j < 5 → eR E (b + 16) j = b + 16 + 1 + j ∧ eK E (b + 16 + 1 + j) = some (.inr (0, 6)) := h.2.2.2.2.2.2.2.1
theorem X2_r3 {E : Ev} {b : Nat} (h : isX2 E b) : eR E b 3 = b + 22 := h.2.2.2.2.2.2.2.2.1
theorem X2_a3 {E : Ev} {b : Nat} (h : isX2 E b) : eK E (b + 22) = some (.inr (0, 5)) := h.2.2.2.2.2.2.2.2.2.1
theorem X2_r4 {E : Ev} {b : Nat} (h : isX2 E b) : eR E b 4 = b + 23 := h.2.2.2.2.2.2.2.2.2.2.1
theorem X2_a4 {E : Ev} {b : Nat} (h : isX2 E b) : eK E (b + 23) = some (.inr (0, 5)) := h.2.2.2.2.2.2.2.2.2.2.2
def isX5 (E : Ev) (b : Nat) : Prop := (eK E b = some (.inl 5)) ∧ (eR E b 0 = b + 1) ∧ (eK E (b + 1) = some (.inr (0, 150))) ∧ (eR E b 2 = b + 2) ∧ (eK E (b + 2) = some (.inr (0, 24))) ∧ (eR E b 3 = b + 3) ∧ (eK E (b + 3) = some (.inr (2, 24))) ∧ (∀ j, j < 24 → eR E (b + 3) j = b + 3 + 1 + j ∧ eK E (b + 3 + 1 + j) = some (.inr (0, 3)))
theorem X5_k {E : Ev} {b : Nat} (h : isX5 E b) : eK E b = some (.inl 5) := h.1
theorem X5_r0 {E : Ev} {b : Nat} (h : isX5 E b) : eR E b 0 = b + 1 := h.2.1
theorem X5_a0 {E : Ev} {b : Nat} (h : isX5 E b) : eK E (b + 1) = some (.inr (0, 150)) := h.2.2.1
theorem X5_r2 {E : Ev} {b : Nat} (h : isX5 E b) : eR E b 2 = b + 2 := h.2.2.2.1
theorem X5_a2 {E : Ev} {b : Nat} (h : isX5 E b) : eK E (b + 2) = some (.inr (0, 24)) := h.2.2.2.2.1
theorem X5_r3 {E : Ev} {b : Nat} (h : isX5 E b) : eR E b 3 = b + 3 := h.2.2.2.2.2.1
theorem X5_a3 {E : Ev} {b : Nat} (h : isX5 E b) : eK E (b + 3) = some (.inr (2, 24)) := h.2.2.2.2.2.2.1
theorem X5_w3 {E : Ev} {b : Nat} (h : isX5 E b) : ∀ j, j < 24 → eR E (b + 3) j = b + 3 + 1 + j ∧ eK E (b + 3 + 1 + j) = some (.inr (0, 3)) := h.2.2.2.2.2.2.2
def isX6 (E : Ev) (b : Nat) : Prop := (eK E b = some (.inl 6)) ∧ (eR E b 0 = b + 1) ∧ (isX4 E (b + 1)) ∧ (eR E b 1 = b + 15) ∧ (isX4 E (b + 15)) ∧ (eR E b 2 = b + 29) ∧ (isX3 E (b + 29)) ∧ (eR E b 3 = b + 50) ∧ (isX0 E (b + 50)) ∧ (eR E b 4 = b + 86) ∧ (isX0 E (b + 86)) ∧ (eR E b 5 = b + 122) ∧ (isX5 E (b + 122)) ∧ (eR E b 6 = b + 150) ∧ (isX2 E (b + 150)) ∧ (eR E b 7 = b + 174) ∧ (isX1 E (b + 174))
theorem X6_k {E : Ev} {b : Nat} (h : isX6 E b) : eK E b = some (.inl 6) := h.1
theorem X6_r0 {E : Ev} {b : Nat} (h : isX6 E b) : eR E b 0 = b + 1 := h.2.1
theorem X6_o0 {E : Ev} {b : Nat} (h : isX6 E b) : isX4 E (b + 1) := h.2.2.1
theorem X6_r1 {E : Ev} {b : Nat} (h : isX6 E b) : eR E b 1 = b + 15 := h.2.2.2.1
theorem X6_o1 {E : Ev} {b : Nat} (h : isX6 E b) : isX4 E (b + 15) := h.2.2.2.2.1
theorem X6_r2 {E : Ev} {b : Nat} (h : isX6 E b) : eR E b 2 = b + 29 := h.2.2.2.2.2.1
theorem X6_o2 {E : Ev} {b : Nat} (h : isX6 E b) : isX3 E (b + 29) := h.2.2.2.2.2.2.1
theorem X6_r3 {E : Ev} {b : Nat} (h : isX6 E b) : eR E b 3 = b + 50 := h.2.2.2.2.2.2.2.1
theorem X6_o3 {E : Ev} {b : Nat} (h : isX6 E b) : isX0 E (b + 50) := h.2.2.2.2.2.2.2.2.1
theorem X6_r4 {E : Ev} {b : Nat} (h : isX6 E b) : eR E b 4 = b + 86 := h.2.2.2.2.2.2.2.2.2.1
theorem X6_o4 {E : Ev} {b : Nat} (h : isX6 E b) : isX0 E (b + 86) := h.2.2.2.2.2.2.2.2.2.2.1
theorem X6_r5 {E : Ev} {b : Nat} (h : isX6 E b) : eR E b 5 = b + 122 := h.2.2.2.2.2.2.2.2.2.2.2.1
theorem X6_o5 {E : Ev} {b : Nat} (h : isX6 E b) : isX5 E (b + 122) := h.2.2.2.2.2.2.2.2.2.2.2.2.1
theorem X6_r6 {E : Ev} {b : Nat} (h : isX6 E b) : eR E b 6 = b + 150 := h.2.2.2.2.2.2.2.2.2.2.2.2.2.1
theorem X6_o6 {E : Ev} {b : Nat} (h : isX6 E b) : isX2 E (b + 150) := h.2.2.2.2.2.2.2.2.2.2.2.2.2.2.1
theorem X6_r7 {E : Ev} {b : Nat} (h : isX6 E b) : eR E b 7 = b + 174 := h.2.2.2.2.2.2.2.2.2.2.2.2.2.2.2.1
theorem X6_o7 {E : Ev} {b : Nat} (h : isX6 E b) : isX1 E (b + 174) := h.2.2.2.2.2.2.2.2.2.2.2.2.2.2.2.2
def isX7 (E : Ev) (b : Nat) : Prop := (eK E b = some (.inl 7)) ∧ (eR E b 0 = b + 1) ∧ (eK E (b + 1) = some (.inr (0, 228))) ∧ (eR E b 1 = b + 2) ∧ (eK E (b + 2) = some (.inr (0, 456))) ∧ (eR E b 2 = b + 3) ∧ (eK E (b + 3) = some (.inr (1, 2))) ∧ (eR E b 3 = b + 4) ∧ (eK E (b + 4) = some (.inr (0, 150))) ∧ (eR E b 7 = b + 5) ∧ (eK E (b + 5) = some (.inr (0, 3))) ∧ (eR E b 13 = b + 6) ∧ (eK E (b + 6) = some (.inr (0, 200))) ∧ (eR E b 15 = b + 7) ∧ (eK E (b + 7) = some (.inr (0, 228))) ∧ (eR E b 16 = b + 8) ∧ (eK E (b + 8) = some (.inr (0, 5))) ∧ (eR E b 17 = b + 9) ∧ (eK E (b + 9) = some (.inr (0, 92))) ∧ (eR E b 18 = b + 10) ∧ (eK E (b + 10) = some (.inr (0, 5))) ∧ (eR E b 19 = b + 11) ∧ (eK E (b + 11) = some (.inr (0, 6)))
theorem X7_k {E : Ev} {b : Nat} (h : isX7 E b) : eK E b = some (.inl 7) := h.1
theorem X7_r0 {E : Ev} {b : Nat} (h : isX7 E b) : eR E b 0 = b + 1 := h.2.1
theorem X7_a0 {E : Ev} {b : Nat} (h : isX7 E b) : eK E (b + 1) = some (.inr (0, 228)) := h.2.2.1
theorem X7_r1 {E : Ev} {b : Nat} (h : isX7 E b) : eR E b 1 = b + 2 := h.2.2.2.1
theorem X7_a1 {E : Ev} {b : Nat} (h : isX7 E b) : eK E (b + 2) = some (.inr (0, 456)) := h.2.2.2.2.1
theorem X7_r2 {E : Ev} {b : Nat} (h : isX7 E b) : eR E b 2 = b + 3 := h.2.2.2.2.2.1
theorem X7_a2 {E : Ev} {b : Nat} (h : isX7 E b) : eK E (b + 3) = some (.inr (1, 2)) := h.2.2.2.2.2.2.1
theorem X7_r3 {E : Ev} {b : Nat} (h : isX7 E b) : eR E b 3 = b + 4 := h.2.2.2.2.2.2.2.1
theorem X7_a3 {E : Ev} {b : Nat} (h : isX7 E b) : eK E (b + 4) = some (.inr (0, 150)) := h.2.2.2.2.2.2.2.2.1
theorem X7_r7 {E : Ev} {b : Nat} (h : isX7 E b) : eR E b 7 = b + 5 := h.2.2.2.2.2.2.2.2.2.1
theorem X7_a7 {E : Ev} {b : Nat} (h : isX7 E b) : eK E (b + 5) = some (.inr (0, 3)) := h.2.2.2.2.2.2.2.2.2.2.1
theorem X7_r13 {E : Ev} {b : Nat} (h : isX7 E b) : eR E b 13 = b + 6 := h.2.2.2.2.2.2.2.2.2.2.2.1
theorem X7_a13 {E : Ev} {b : Nat} (h : isX7 E b) : eK E (b + 6) = some (.inr (0, 200)) := h.2.2.2.2.2.2.2.2.2.2.2.2.1
theorem X7_r15 {E : Ev} {b : Nat} (h : isX7 E b) : eR E b 15 = b + 7 := h.2.2.2.2.2.2.2.2.2.2.2.2.2.1
theorem X7_a15 {E : Ev} {b : Nat} (h : isX7 E b) : eK E (b + 7) = some (.inr (0, 228)) := h.2.2.2.2.2.2.2.2.2.2.2.2.2.2.1
theorem X7_r16 {E : Ev} {b : Nat} (h : isX7 E b) : eR E b 16 = b + 8 := h.2.2.2.2.2.2.2.2.2.2.2.2.2.2.2.1
theorem X7_a16 {E : Ev} {b : Nat} (h : isX7 E b) : eK E (b + 8) = some (.inr (0, 5)) := h.2.2.2.2.2.2.2.2.2.2.2.2.2.2.2.2.1
theorem X7_r17 {E : Ev} {b : Nat} (h : isX7 E b) : eR E b 17 = b + 9 := h.2.2.2.2.2.2.2.2.2.2.2.2.2.2.2.2.2.1
theorem X7_a17 {E : Ev} {b : Nat} (h : isX7 E b) : eK E (b + 9) = some (.inr (0, 92)) := h.2.2.2.2.2.2.2.2.2.2.2.2.2.2.2.2.2.2.1
theorem X7_r18 {E : Ev} {b : Nat} (h : isX7 E b) : eR E b 18 = b + 10 := h.2.2.2.2.2.2.2.2.2.2.2.2.2.2.2.2.2.2.2.1
theorem X7_a18 {E : Ev} {b : Nat} (h : isX7 E b) : eK E (b + 10) = some (.inr (0, 5)) := h.2.2.2.2.2.2.2.2.2.2.2.2.2.2.2.2.2.2.2.2.1
theorem X7_r19 {E : Ev} {b : Nat} (h : isX7 E b) : eR E b 19 = b + 11 := h.2.2.2.2.2.2.2.2.2.2.2.2.2.2.2.2.2.2.2.2.2.1
theorem X7_a19 {E : Ev} {b : Nat} (h : isX7 E b) : eK E (b + 11) = some (.inr (0, 6)) := h.2.2.2.2.2.2.2.2.2.2.2.2.2.2.2.2.2.2.2.2.2.2

/-! ===== small rows that the printed proofs name ===== -/
abbrev vin (i : Int32) (N : Nat) : Prop := ¬ (i < 0 ∨ N ≤ i.toNatClampNeg)
/-- the turns that a loop is given: more than any needs -/
def FU : Nat := 20000
def slenI (i : Nat) : Int32 := Int32.ofNat (slen.getD i 0)
def schr (i j : Nat) : Int32 := (sbyt.getD i []).getD j 0
theorem ble_of {a b : Nat} (h : a ≤ b) : Nat.ble a b = true := by simpa using h
theorem nb_of {v : Int32} (h : v = 0 ∨ v = 1) : narrow .boolean (.int v) = .int v := by rcases h with rfl | rfl <;> decide
theorem ii_1 {w x : Int32} (h : w = x + (1 : Int32)) : x + Int32.ofInt 1 = w := by rw [h]; rfl
theorem ii_m1 {w x : Int32} (h : w = x + (-1 : Int32)) : x + Int32.ofInt (-1) = w := by rw [h]; rfl
theorem mt_eq {l : Launch} {E : Ev} {y : MethodName} {cc : ByteArray} {n : Nat} {ret : Option FieldType} {d : Nat} {av : List Value} {L L1 L2 : HL} {r1 r2 : Option Value} (h1 : r1 = r2) (h2 : L1 = L2) (h : Mt l E y cc n ret d av L r1 L1) : Mt l E y cc n ret d av L r2 L2 := by subst h1; subst h2; exact h
theorem ciX7_clean : CI yX7_clean cX7_clean 2 (none) 0 := ⟨⟨wd_955, wd_111, by decide, by decide, by decide +kernel⟩, wd_954, wd_68⟩
theorem ctJ9_min_7cf53 : CT yJ9_min_7cf53 cJ9_min_7cf53 2 (some .int) 2 := ⟨⟨wd_607, wd_116, by decide, by decide, by decide +kernel⟩, wd_606⟩
theorem ctX6_copyRow : CT yX6_copyRow cX6_copyRow 3 (none) 2 := ⟨⟨wd_604, wd_104, by decide, by decide, by decide +kernel⟩, wd_603⟩
theorem ciX4_takeFrom : CI yX4_takeFrom cX4_takeFrom 2 (none) 1 := ⟨⟨wd_601, wd_105, by decide, by decide, by decide +kernel⟩, wd_600, wd_25⟩
theorem ciX3_takeFrom : CI yX3_takeFrom cX3_takeFrom 3 (none) 1 := ⟨⟨wd_906, wd_106, by decide, by decide, by decide +kernel⟩, wd_905, wd_62⟩
theorem ciX0_keep : CI yX0_keep cX0_keep 3 (none) 2 := ⟨⟨wd_901, wd_107, by decide, by decide, by decide +kernel⟩, wd_900, wd_61⟩
theorem ciX0_giveBack : CI yX0_giveBack cX0_giveBack 3 (none) 2 := ⟨⟨wd_914, wd_107, by decide, by decide, by decide +kernel⟩, wd_913, wd_63⟩
theorem ciX4_stands : CI yX4_stands cX4_stands 2 (some .boolean) 1 := ⟨⟨wd_455, wd_105, by decide, by decide, by decide +kernel⟩, wd_454, wd_12⟩
theorem ciX4_isQuiet : CI yX4_isQuiet cX4_isQuiet 4 (some .boolean) 2 := ⟨⟨wd_654, wd_105, by decide, by decide, by decide +kernel⟩, wd_653, wd_33⟩
theorem ciX1_mayLive : CI yX1_mayLive cX1_mayLive 4 (some .boolean) 3 := ⟨⟨wd_825, wd_110, by decide, by decide, by decide +kernel⟩, wd_824, wd_53⟩
theorem ctX1_lodge : CT yX1_lodge cX1_lodge 6 (some .boolean) 4 := ⟨⟨wd_821, wd_110, by decide, by decide, by decide +kernel⟩, wd_820⟩
theorem ciX1_seek : CI yX1_seek cX1_seek 3 (some .int) 1 := ⟨⟨wd_818, wd_110, by decide, by decide, by decide +kernel⟩, wd_817, wd_52⟩
theorem ciX4_hasOne : CI yX4_hasOne cX4_hasOne 2 (some .boolean) 1 := ⟨⟨wd_685, wd_105, by decide, by decide, by decide +kernel⟩, wd_684, wd_37⟩
theorem ciX2_atLast : CI yX2_atLast cX2_atLast 3 (none) 2 := ⟨⟨wd_788, wd_109, by decide, by decide, by decide +kernel⟩, wd_787, wd_48⟩
theorem ciX2_keep : CI yX2_keep cX2_keep 2 (none) 1 := ⟨⟨wd_793, wd_109, by decide, by decide, by decide +kernel⟩, wd_792, wd_49⟩
theorem ciX4_kinBits : CI yX4_kinBits cX4_kinBits 4 (some .int) 1 := ⟨⟨wd_642, wd_105, by decide, by decide, by decide +kernel⟩, wd_641, wd_30⟩
theorem ciX4_measureSteps : CI yX4_measureSteps cX4_measureSteps 7 (none) 1 := ⟨⟨wd_638, wd_105, by decide, by decide, by decide +kernel⟩, wd_637, wd_29⟩
theorem ciX4_has : CI yX4_has cX4_has 2 (some .boolean) 1 := ⟨⟨wd_419, wd_105, by decide, by decide, by decide +kernel⟩, wd_418, wd_6⟩
theorem ciX4_measureDwellers : CI yX4_measureDwellers cX4_measureDwellers 3 (none) 0 := ⟨⟨wd_646, wd_105, by decide, by decide, by decide +kernel⟩, wd_645, wd_31⟩
theorem ciX4_measuredRank : CI yX4_measuredRank cX4_measuredRank 7 (some .int) 3 := ⟨⟨wd_650, wd_105, by decide, by decide, by decide +kernel⟩, wd_649, wd_32⟩
theorem ciX4_heirBy : CI yX4_heirBy cX4_heirBy 8 (some .int) 3 := ⟨⟨wd_634, wd_105, by decide, by decide, by decide +kernel⟩, wd_633, wd_28⟩
theorem ciX4_letFall : CI yX4_letFall cX4_letFall 4 (some .int) 1 := ⟨⟨wd_630, wd_105, by decide, by decide, by decide +kernel⟩, wd_629, wd_27⟩
theorem ciX2_bringBack : CI yX2_bringBack cX2_bringBack 2 (none) 1 := ⟨⟨wd_798, wd_109, by decide, by decide, by decide +kernel⟩, wd_797, wd_50⟩
theorem ctX2_tryOrders : CT yX2_tryOrders cX2_tryOrders 6 (none) 5 := ⟨⟨wd_784, wd_109, by decide, by decide, by decide +kernel⟩, wd_783⟩
theorem ciX2_seek : CI yX2_seek cX2_seek 5 (none) 4 := ⟨⟨wd_779, wd_109, by decide, by decide, by decide +kernel⟩, wd_778, wd_47⟩
theorem ctJ6_bitCount_0f7a4 : CT yJ6_bitCount_0f7a4 cJ6_bitCount_0f7a4 1 (some .int) 1 := ⟨⟨wd_674, wd_118, by decide, by decide, by decide +kernel⟩, wd_673⟩
theorem ctX2_neverOut : CT yX2_neverOut cX2_neverOut 5 (some .boolean) 4 := ⟨⟨wd_809, wd_109, by decide, by decide, by decide +kernel⟩, wd_808⟩
theorem ciX2_isSafe : CI yX2_isSafe cX2_isSafe 5 (some .boolean) 3 := ⟨⟨wd_806, wd_109, by decide, by decide, by decide +kernel⟩, wd_805, wd_51⟩
theorem ciX3_forget : CI yX3_forget cX3_forget 1 (none) 0 := ⟨⟨wd_391, wd_106, by decide, by decide, by decide +kernel⟩, wd_390, wd_1⟩
theorem ctJ9_floorMod_7cf53 : CT yJ9_floorMod_7cf53 cJ9_floorMod_7cf53 3 (some .int) 2 := ⟨⟨wd_624, wd_116, by decide, by decide, by decide +kernel⟩, wd_623⟩
theorem ciX3_keep : CI yX3_keep cX3_keep 3 (none) 1 := ⟨⟨wd_621, wd_106, by decide, by decide, by decide +kernel⟩, wd_620, wd_26⟩
theorem ciX3_bringBack : CI yX3_bringBack cX3_bringBack 3 (none) 1 := ⟨⟨wd_693, wd_106, by decide, by decide, by decide +kernel⟩, wd_692, wd_38⟩
theorem ciX5_append : CI yX5_append cX5_append 2 (some .int) 1 := ⟨⟨wd_483, wd_108, by decide, by decide, by decide +kernel⟩, wd_482, wd_16⟩
theorem ctX5_isLetter : CT yX5_isLetter cX5_isLetter 1 (some .boolean) 1 := ⟨⟨wd_502, wd_108, by decide, by decide, by decide +kernel⟩, wd_501⟩
theorem ctX5_isFigure : CT yX5_isFigure cX5_isFigure 1 (some .boolean) 1 := ⟨⟨wd_509, wd_108, by decide, by decide, by decide +kernel⟩, wd_508⟩
theorem ciX5_runEnd : CI yX5_runEnd cX5_runEnd 3 (some .int) 1 := ⟨⟨wd_506, wd_108, by decide, by decide, by decide +kernel⟩, wd_505, wd_19⟩
theorem ciX5_nextToken : CI yX5_nextToken cX5_nextToken 2 (none) 0 := ⟨⟨wd_499, wd_108, by decide, by decide, by decide +kernel⟩, wd_498, wd_18⟩
theorem ciX5_isWord : CI yX5_isWord cX5_isWord 4 (some .boolean) 1 := ⟨⟨wd_522, wd_108, by decide, by decide, by decide +kernel⟩, wd_521, wd_22⟩
theorem ciX5_wordKind : CI yX5_wordKind cX5_wordKind 1 (some .int) 0 := ⟨⟨wd_517, wd_108, by decide, by decide, by decide +kernel⟩, wd_516, wd_21⟩
theorem ctX5_numbersOf : CT yX5_numbersOf cX5_numbersOf 1 (some .int) 1 := ⟨⟨wd_579, wd_108, by decide, by decide, by decide +kernel⟩, wd_578⟩
theorem ciX5_tokenNumber : CI yX5_tokenNumber cX5_tokenNumber 3 (some .int) 0 := ⟨⟨wd_583, wd_108, by decide, by decide, by decide +kernel⟩, wd_582, wd_23⟩
theorem ciX5_parseItem : CI yX5_parseItem cX5_parseItem 6 (some .boolean) 1 := ⟨⟨wd_513, wd_108, by decide, by decide, by decide +kernel⟩, wd_512, wd_20⟩
theorem ciX5_parse : CI yX5_parse cX5_parse 2 (some .int) 0 := ⟨⟨wd_495, wd_108, by decide, by decide, by decide +kernel⟩, wd_494, wd_17⟩
theorem ciX4_empty : CI yX4_empty cX4_empty 2 (none) 0 := ⟨⟨wd_387, wd_105, by decide, by decide, by decide +kernel⟩, wd_386, wd_0⟩
theorem ciX4_addHouse : CI yX4_addHouse cX4_addHouse 5 (some .int) 3 := ⟨⟨wd_399, wd_105, by decide, by decide, by decide +kernel⟩, wd_398, wd_2⟩
theorem ciX4_setFrom : CI yX4_setFrom cX4_setFrom 4 (some .int) 2 := ⟨⟨wd_415, wd_105, by decide, by decide, by decide +kernel⟩, wd_414, wd_5⟩
theorem ciX4_setWill : CI yX4_setWill cX4_setWill 4 (some .int) 2 := ⟨⟨wd_427, wd_105, by decide, by decide, by decide +kernel⟩, wd_426, wd_7⟩
theorem ciX4_hasTwo : CI yX4_hasTwo cX4_hasTwo 3 (some .boolean) 2 := ⟨⟨wd_439, wd_105, by decide, by decide, by decide +kernel⟩, wd_438, wd_9⟩
theorem ciX4_hasWall : CI yX4_hasWall cX4_hasWall 3 (some .boolean) 2 := ⟨⟨wd_443, wd_105, by decide, by decide, by decide +kernel⟩, wd_442, wd_10⟩
theorem ciX4_setWall : CI yX4_setWall cX4_setWall 4 (some .int) 3 := ⟨⟨wd_435, wd_105, by decide, by decide, by decide +kernel⟩, wd_434, wd_8⟩
theorem ciX4_addOne : CI yX4_addOne cX4_addOne 3 (some .int) 2 := ⟨⟨wd_451, wd_105, by decide, by decide, by decide +kernel⟩, wd_450, wd_11⟩
theorem ciX4_hasFeud : CI yX4_hasFeud cX4_hasFeud 3 (some .boolean) 2 := ⟨⟨wd_467, wd_105, by decide, by decide, by decide +kernel⟩, wd_466, wd_14⟩
theorem ciX4_setFeud : CI yX4_setFeud cX4_setFeud 4 (some .int) 3 := ⟨⟨wd_463, wd_105, by decide, by decide, by decide +kernel⟩, wd_462, wd_13⟩
theorem ctX5_tellItem : CT yX5_tellItem cX5_tellItem 5 (some .int) 5 := ⟨⟨wd_591, wd_108, by decide, by decide, by decide +kernel⟩, wd_590⟩
theorem ciX5_tellTo : CI yX5_tellTo cX5_tellTo 4 (some .int) 1 := ⟨⟨wd_587, wd_108, by decide, by decide, by decide +kernel⟩, wd_586, wd_24⟩
theorem ctJ9_max_7cf53 : CT yJ9_max_7cf53 cJ9_max_7cf53 2 (some .int) 2 := ⟨⟨wd_872, wd_116, by decide, by decide, by decide +kernel⟩, wd_871⟩
theorem ciX4_setMarks : CI yX4_setMarks cX4_setMarks 4 (some .int) 2 := ⟨⟨wd_475, wd_105, by decide, by decide, by decide +kernel⟩, wd_474, wd_15⟩
theorem ciX4_mayWall : CI yX4_mayWall cX4_mayWall 3 (some .boolean) 2 := ⟨⟨wd_743, wd_105, by decide, by decide, by decide +kernel⟩, wd_742, wd_43⟩
theorem ciX4_dwellers : CI yX4_dwellers cX4_dwellers 4 (some .int) 1 := ⟨⟨wd_670, wd_105, by decide, by decide, by decide +kernel⟩, wd_669, wd_36⟩
theorem ciX4_dwellerBits : CI yX4_dwellerBits cX4_dwellerBits 4 (some .int) 1 := ⟨⟨wd_701, wd_105, by decide, by decide, by decide +kernel⟩, wd_700, wd_39⟩
theorem ciX4_isOverfull : CI yX4_isOverfull cX4_isOverfull 2 (some .boolean) 1 := ⟨⟨wd_666, wd_105, by decide, by decide, by decide +kernel⟩, wd_665, wd_35⟩
theorem ciX4_firstOverfull : CI yX4_firstOverfull cX4_firstOverfull 2 (some .int) 0 := ⟨⟨wd_771, wd_105, by decide, by decide, by decide +kernel⟩, wd_770, wd_46⟩
theorem ciX4_nthStanding : CI yX4_nthStanding cX4_nthStanding 4 (some .int) 1 := ⟨⟨wd_885, wd_105, by decide, by decide, by decide +kernel⟩, wd_884, wd_59⟩
theorem ciX4_wallsInAll : CI yX4_wallsInAll cX4_wallsInAll 3 (some .int) 0 := ⟨⟨wd_930, wd_105, by decide, by decide, by decide +kernel⟩, wd_929, wd_65⟩
theorem ciX4_feudsInAll : CI yX4_feudsInAll cX4_feudsInAll 3 (some .int) 0 := ⟨⟨wd_934, wd_105, by decide, by decide, by decide +kernel⟩, wd_933, wd_66⟩
theorem ciX4_degreeOf : CI yX4_degreeOf cX4_degreeOf 3 (some .int) 2 := ⟨⟨wd_713, wd_105, by decide, by decide, by decide +kernel⟩, wd_712, wd_40⟩
theorem ciX4_rankOf : CI yX4_rankOf cX4_rankOf 3 (some .int) 2 := ⟨⟨wd_722, wd_105, by decide, by decide, by decide +kernel⟩, wd_721, wd_41⟩
theorem ciX4_heirOf : CI yX4_heirOf cX4_heirOf 2 (some .int) 1 := ⟨⟨wd_730, wd_105, by decide, by decide, by decide +kernel⟩, wd_729, wd_42⟩
theorem ciX4_nearestKin : CI yX4_nearestKin cX4_nearestKin 5 (some .int) 1 := ⟨⟨wd_835, wd_105, by decide, by decide, by decide +kernel⟩, wd_834, wd_54⟩
theorem ciX4_begetters : CI yX4_begetters cX4_begetters 5 (some .int) 2 := ⟨⟨wd_848, wd_105, by decide, by decide, by decide +kernel⟩, wd_847, wd_56⟩
theorem ciX4_passYear : CI yX4_passYear cX4_passYear 2 (none) 0 := ⟨⟨wd_662, wd_105, by decide, by decide, by decide +kernel⟩, wd_661, wd_34⟩
theorem ciX4_addTo : CI yX4_addTo cX4_addTo 7 (some .long) 1 := ⟨⟨wd_944, wd_105, by decide, by decide, by decide +kernel⟩, wd_943, wd_67⟩
theorem ciX6_street : CI yX6_street cX6_street 2 (some .int) 0 := ⟨⟨wd_383, wd_104, by decide, by decide, by decide +kernel⟩, wd_381, wd_382⟩
theorem ciX6_refused : CI yX6_refused cX6_refused 3 (some .int) 2 := ⟨⟨wd_407, wd_104, by decide, by decide, by decide +kernel⟩, wd_406, wd_4⟩
theorem ciX6_told : CI yX6_told cX6_told 3 (some .int) 2 := ⟨⟨wd_403, wd_104, by decide, by decide, by decide +kernel⟩, wd_402, wd_3⟩
theorem ciX6_house : CI yX6_house cX6_house 4 (some .int) 3 := ⟨⟨wd_395, wd_104, by decide, by decide, by decide +kernel⟩, wd_393, wd_394⟩
theorem ciX6_builtFrom : CI yX6_builtFrom cX6_builtFrom 3 (some .int) 2 := ⟨⟨wd_411, wd_104, by decide, by decide, by decide +kernel⟩, wd_409, wd_410⟩
theorem ciX6_will : CI yX6_will cX6_will 3 (some .int) 2 := ⟨⟨wd_423, wd_104, by decide, by decide, by decide +kernel⟩, wd_421, wd_422⟩
theorem ciX6_wall : CI yX6_wall cX6_wall 4 (some .int) 3 := ⟨⟨wd_431, wd_104, by decide, by decide, by decide +kernel⟩, wd_429, wd_430⟩
theorem ciX6_one : CI yX6_one cX6_one 3 (some .int) 2 := ⟨⟨wd_447, wd_104, by decide, by decide, by decide +kernel⟩, wd_445, wd_446⟩
theorem ciX6_feud : CI yX6_feud cX6_feud 4 (some .int) 3 := ⟨⟨wd_459, wd_104, by decide, by decide, by decide +kernel⟩, wd_457, wd_458⟩
theorem ciX6_mark : CI yX6_mark cX6_mark 3 (some .int) 2 := ⟨⟨wd_471, wd_104, by decide, by decide, by decide +kernel⟩, wd_469, wd_470⟩
theorem ciX6_type : CI yX6_type cX6_type 2 (some .int) 1 := ⟨⟨wd_479, wd_104, by decide, by decide, by decide +kernel⟩, wd_477, wd_478⟩
theorem ciX6_clear : CI yX6_clear cX6_clear 2 (some .int) 0 := ⟨⟨wd_487, wd_104, by decide, by decide, by decide +kernel⟩, wd_485, wd_486⟩
theorem ciX6_read : CI yX6_read cX6_read 3 (some .int) 0 := ⟨⟨wd_491, wd_104, by decide, by decide, by decide +kernel⟩, wd_489, wd_490⟩
theorem ciX6_fall : CI yX6_fall cX6_fall 2 (some .int) 1 := ⟨⟨wd_615, wd_104, by decide, by decide, by decide +kernel⟩, wd_613, wd_614⟩
theorem ciX6_year : CI yX6_year cX6_year 3 (some .int) 1 := ⟨⟨wd_658, wd_104, by decide, by decide, by decide +kernel⟩, wd_656, wd_657⟩
theorem ciX6_move : CI yX6_move cX6_move 4 (some .int) 2 := ⟨⟨wd_681, wd_104, by decide, by decide, by decide +kernel⟩, wd_679, wd_680⟩
theorem ciX6_undo : CI yX6_undo cX6_undo 1 (some .int) 0 := ⟨⟨wd_689, wd_104, by decide, by decide, by decide +kernel⟩, wd_687, wd_688⟩
theorem ciX6_of : CI yX6_of cX6_of 3 (some .int) 2 := ⟨⟨wd_697, wd_104, by decide, by decide, by decide +kernel⟩, wd_695, wd_696⟩
theorem ciX6_who : CI yX6_who cX6_who 3 (some .int) 2 := ⟨⟨wd_705, wd_104, by decide, by decide, by decide +kernel⟩, wd_703, wd_704⟩
theorem ciX6_degree : CI yX6_degree cX6_degree 3 (some .int) 2 := ⟨⟨wd_709, wd_104, by decide, by decide, by decide +kernel⟩, wd_707, wd_708⟩
theorem ciX6_rank : CI yX6_rank cX6_rank 3 (some .int) 2 := ⟨⟨wd_717, wd_104, by decide, by decide, by decide +kernel⟩, wd_715, wd_716⟩
theorem ciX6_heir : CI yX6_heir cX6_heir 2 (some .int) 1 := ⟨⟨wd_726, wd_104, by decide, by decide, by decide +kernel⟩, wd_724, wd_725⟩
theorem ciX6_wills : CI yX6_wills cX6_wills 5 (some .int) 2 := ⟨⟨wd_734, wd_104, by decide, by decide, by decide +kernel⟩, wd_732, wd_733⟩
theorem ciX6_heirByWall : CI yX6_heirByWall cX6_heirByWall 5 (some .int) 3 := ⟨⟨wd_747, wd_104, by decide, by decide, by decide +kernel⟩, wd_746, wd_44⟩
theorem ciX6_buildFor : CI yX6_buildFor cX6_buildFor 5 (some .int) 2 := ⟨⟨wd_739, wd_104, by decide, by decide, by decide +kernel⟩, wd_737, wd_738⟩
theorem ciX6_adopts : CI yX6_adopts cX6_adopts 5 (some .int) 2 := ⟨⟨wd_751, wd_104, by decide, by decide, by decide +kernel⟩, wd_749, wd_750⟩
theorem ciX6_lookAhead : CI yX6_lookAhead cX6_lookAhead 3 (none) 1 := ⟨⟨wd_759, wd_104, by decide, by decide, by decide +kernel⟩, wd_758, wd_45⟩
theorem ciX6_lives : CI yX6_lives cX6_lives 3 (some .int) 2 := ⟨⟨wd_755, wd_104, by decide, by decide, by decide +kernel⟩, wd_753, wd_754⟩
theorem ciX6_stand : CI yX6_stand cX6_stand 2 (some .int) 1 := ⟨⟨wd_763, wd_104, by decide, by decide, by decide +kernel⟩, wd_761, wd_762⟩
theorem ciX6_overfull : CI yX6_overfull cX6_overfull 4 (some .int) 1 := ⟨⟨wd_767, wd_104, by decide, by decide, by decide +kernel⟩, wd_765, wd_766⟩
theorem ciX6_orders : CI yX6_orders cX6_orders 6 (some .int) 4 := ⟨⟨wd_775, wd_104, by decide, by decide, by decide +kernel⟩, wd_773, wd_774⟩
theorem ciX6_safe : CI yX6_safe cX6_safe 4 (some .int) 1 := ⟨⟨wd_802, wd_104, by decide, by decide, by decide +kernel⟩, wd_800, wd_801⟩
theorem ciX6_moves : CI yX6_moves cX6_moves 3 (some .int) 1 := ⟨⟨wd_814, wd_104, by decide, by decide, by decide +kernel⟩, wd_812, wd_813⟩
theorem ciX6_lowerFraction : CI yX6_lowerFraction cX6_lowerFraction 3 (none) 0 := ⟨⟨wd_839, wd_104, by decide, by decide, by decide +kernel⟩, wd_838, wd_55⟩
theorem ciX6_share : CI yX6_share cX6_share 3 (some .int) 1 := ⟨⟨wd_831, wd_104, by decide, by decide, by decide +kernel⟩, wd_829, wd_830⟩
theorem ctX6_onlyBit : CT yX6_onlyBit cX6_onlyBit 2 (some .int) 1 := ⟨⟨wd_852, wd_104, by decide, by decide, by decide +kernel⟩, wd_851⟩
theorem ciX6_plaster : CI yX6_plaster cX6_plaster 5 (some .int) 2 := ⟨⟨wd_844, wd_104, by decide, by decide, by decide +kernel⟩, wd_842, wd_843⟩
theorem ciX6_gables : CI yX6_gables cX6_gables 4 (some .int) 1 := ⟨⟨wd_856, wd_104, by decide, by decide, by decide +kernel⟩, wd_854, wd_855⟩
theorem ciX6_gain : CI yX6_gain cX6_gain 7 (some .int) 3 := ⟨⟨wd_868, wd_104, by decide, by decide, by decide +kernel⟩, wd_867, wd_58⟩
theorem ciX6_rests : CI yX6_rests cX6_rests 9 (some .boolean) 5 := ⟨⟨wd_864, wd_104, by decide, by decide, by decide +kernel⟩, wd_863, wd_57⟩
theorem ciX6_doors : CI yX6_doors cX6_doors 11 (some .int) 4 := ⟨⟨wd_860, wd_104, by decide, by decide, by decide +kernel⟩, wd_858, wd_859⟩
theorem ciX6_drawn : CI yX6_drawn cX6_drawn 7 (some .int) 2 := ⟨⟨wd_876, wd_104, by decide, by decide, by decide +kernel⟩, wd_874, wd_875⟩
theorem ciX6_part : CI yX6_part cX6_part 2 (some .long) 1 := ⟨⟨wd_889, wd_104, by decide, by decide, by decide +kernel⟩, wd_887, wd_888⟩
theorem ciX6_imageAt : CI yX6_imageAt cX6_imageAt 2 (some (.object "HouseHeirs$Image")) 1 := ⟨⟨wd_897, wd_104, by decide, by decide, by decide +kernel⟩, wd_896, wd_60⟩
theorem ciX6_image : CI yX6_image cX6_image 2 (some .int) 1 := ⟨⟨wd_893, wd_104, by decide, by decide, by decide +kernel⟩, wd_891, wd_892⟩
theorem ciX6_from : CI yX6_from cX6_from 2 (some .int) 1 := ⟨⟨wd_910, wd_104, by decide, by decide, by decide +kernel⟩, wd_908, wd_909⟩
theorem ciX6_status : CI yX6_status cX6_status 2 (some .int) 1 := ⟨⟨wd_918, wd_104, by decide, by decide, by decide +kernel⟩, wd_916, wd_917⟩
theorem ciX6_amount : CI yX6_amount cX6_amount 2 (some .int) 1 := ⟨⟨wd_926, wd_104, by decide, by decide, by decide +kernel⟩, wd_925, wd_64⟩
theorem ciX6_count : CI yX6_count cX6_count 2 (some .int) 1 := ⟨⟨wd_922, wd_104, by decide, by decide, by decide +kernel⟩, wd_920, wd_921⟩
theorem ciX6_digest : CI yX6_digest cX6_digest 4 (some .long) 0 := ⟨⟨wd_938, wd_104, by decide, by decide, by decide +kernel⟩, wd_936, wd_937⟩
theorem ctX7_in : CT yX7_in cX7_in 6 (some .boolean) 3 := ⟨⟨wd_1033, wd_111, by decide, by decide, by decide +kernel⟩, wd_1032⟩
theorem ctX7_isTwo : CT yX7_isTwo cX7_isTwo 1 (some .boolean) 1 := ⟨⟨wd_1223, wd_111, by decide, by decide, by decide +kernel⟩, wd_1222⟩
theorem ciX7_tell : CI yX7_tell cX7_tell 2 (some .int) 1 := ⟨⟨wd_1038, wd_111, by decide, by decide, by decide +kernel⟩, wd_1037, wd_70⟩
theorem ciX7_bad : CI yX7_bad cX7_bad 2 (some .int) 1 := ⟨⟨wd_1097, wd_111, by decide, by decide, by decide +kernel⟩, wd_1096, wd_77⟩
theorem ciX7_no : CI yX7_no cX7_no 2 (some .int) 1 := ⟨⟨wd_1148, wd_111, by decide, by decide, by decide +kernel⟩, wd_1147, wd_81⟩
theorem ctX7_bits : CT yX7_bits cX7_bits 3 (some .int) 1 := ⟨⟨wd_1178, wd_111, by decide, by decide, by decide +kernel⟩, wd_1177⟩
theorem ctX7_holds : CT yX7_holds cX7_holds 2 (some .boolean) 2 := ⟨⟨wd_1184, wd_111, by decide, by decide, by decide +kernel⟩, wd_1183⟩
theorem ctX7_copies : CT yX7_copies cX7_copies 6 (none) 5 := ⟨⟨wd_1136, wd_111, by decide, by decide, by decide +kernel⟩, wd_1135⟩
theorem ciX7_isHouse : CI yX7_isHouse cX7_isHouse 2 (some .boolean) 1 := ⟨⟨wd_1050, wd_111, by decide, by decide, by decide +kernel⟩, wd_1049, wd_72⟩
theorem ciX7_isOne : CI yX7_isOne cX7_isOne 2 (some .boolean) 1 := ⟨⟨wd_1207, wd_111, by decide, by decide, by decide +kernel⟩, wd_1206, wd_88⟩
theorem ctX7_isFamily : CT yX7_isFamily cX7_isFamily 1 (some .boolean) 1 := ⟨⟨wd_1079, wd_111, by decide, by decide, by decide +kernel⟩, wd_1078⟩
theorem ciX7_doHouse : CI yX7_doHouse cX7_doHouse 5 (some .int) 3 := ⟨⟨wd_1029, wd_111, by decide, by decide, by decide +kernel⟩, wd_1028, wd_69⟩
theorem ciX7_doFrom : CI yX7_doFrom cX7_doFrom 4 (some .int) 2 := ⟨⟨wd_1046, wd_111, by decide, by decide, by decide +kernel⟩, wd_1045, wd_71⟩
theorem ciX7_doWill : CI yX7_doWill cX7_doWill 4 (some .int) 2 := ⟨⟨wd_1059, wd_111, by decide, by decide, by decide +kernel⟩, wd_1058, wd_73⟩
theorem ciX7_doWall : CI yX7_doWall cX7_doWall 4 (some .int) 3 := ⟨⟨wd_1068, wd_111, by decide, by decide, by decide +kernel⟩, wd_1067, wd_74⟩
theorem ciX7_doOne : CI yX7_doOne cX7_doOne 4 (some .int) 2 := ⟨⟨wd_1076, wd_111, by decide, by decide, by decide +kernel⟩, wd_1075, wd_75⟩
theorem ciX7_doFeud : CI yX7_doFeud cX7_doFeud 4 (some .int) 3 := ⟨⟨wd_1088, wd_111, by decide, by decide, by decide +kernel⟩, wd_1087, wd_76⟩
theorem ciX7_street : CI yX7_street cX7_street 2 (some .int) 0 := ⟨⟨wd_1021, wd_111, by decide, by decide, by decide +kernel⟩, wd_1019, wd_1020⟩
theorem ciX7_house : CI yX7_house cX7_house 4 (some .int) 3 := ⟨⟨wd_1025, wd_111, by decide, by decide, by decide +kernel⟩, wd_1023, wd_1024⟩
theorem ciX7_builtFrom : CI yX7_builtFrom cX7_builtFrom 3 (some .int) 2 := ⟨⟨wd_1042, wd_111, by decide, by decide, by decide +kernel⟩, wd_1040, wd_1041⟩
theorem ciX7_will : CI yX7_will cX7_will 3 (some .int) 2 := ⟨⟨wd_1055, wd_111, by decide, by decide, by decide +kernel⟩, wd_1053, wd_1054⟩
theorem ciX7_wall : CI yX7_wall cX7_wall 4 (some .int) 3 := ⟨⟨wd_1064, wd_111, by decide, by decide, by decide +kernel⟩, wd_1062, wd_1063⟩
theorem ciX7_one : CI yX7_one cX7_one 3 (some .int) 2 := ⟨⟨wd_1072, wd_111, by decide, by decide, by decide +kernel⟩, wd_1070, wd_1071⟩
theorem ciX7_feud : CI yX7_feud cX7_feud 4 (some .int) 3 := ⟨⟨wd_1084, wd_111, by decide, by decide, by decide +kernel⟩, wd_1082, wd_1083⟩
theorem ciX7_mark : CI yX7_mark cX7_mark 4 (some .int) 2 := ⟨⟨wd_1092, wd_111, by decide, by decide, by decide +kernel⟩, wd_1090, wd_1091⟩
theorem ciX7_type : CI yX7_type cX7_type 2 (some .int) 1 := ⟨⟨wd_1101, wd_111, by decide, by decide, by decide +kernel⟩, wd_1099, wd_1100⟩
theorem ciX7_clear : CI yX7_clear cX7_clear 2 (some .int) 0 := ⟨⟨wd_1106, wd_111, by decide, by decide, by decide +kernel⟩, wd_1104, wd_1105⟩
theorem ciX7_next : CI yX7_next cX7_next 2 (none) 0 := ⟨⟨wd_1118, wd_111, by decide, by decide, by decide +kernel⟩, wd_1117, wd_79⟩
theorem ctX7_itemOf : CT yX7_itemOf cX7_itemOf 2 (some .int) 1 := ⟨⟨wd_1126, wd_111, by decide, by decide, by decide +kernel⟩, wd_1125⟩
theorem ciX7_reads : CI yX7_reads cX7_reads 3 (some .int) 0 := ⟨⟨wd_1114, wd_111, by decide, by decide, by decide +kernel⟩, wd_1113, wd_78⟩
theorem ciX7_doItem : CI yX7_doItem cX7_doItem 4 (some .int) 1 := ⟨⟨wd_1140, wd_111, by decide, by decide, by decide +kernel⟩, wd_1139, wd_80⟩
theorem ciX7_read : CI yX7_read cX7_read 3 (some .int) 0 := ⟨⟨wd_1110, wd_111, by decide, by decide, by decide +kernel⟩, wd_1108, wd_1109⟩
theorem ctX7_isKin : CT yX7_isKin cX7_isKin 4 (some .boolean) 3 := ⟨⟨wd_1172, wd_111, by decide, by decide, by decide +kernel⟩, wd_1171⟩
theorem ciX7_degreeOn : CI yX7_degreeOn cX7_degreeOn 7 (some .int) 3 := ⟨⟨wd_1168, wd_111, by decide, by decide, by decide +kernel⟩, wd_1167, wd_86⟩
theorem ctX7_livingIn : CT yX7_livingIn cX7_livingIn 4 (some .int) 2 := ⟨⟨wd_1175, wd_111, by decide, by decide, by decide +kernel⟩, wd_1174⟩
theorem ctX7_isFeud : CT yX7_isFeud cX7_isFeud 6 (some .boolean) 3 := ⟨⟨wd_1181, wd_111, by decide, by decide, by decide +kernel⟩, wd_1180⟩
theorem ciX7_rankOn : CI yX7_rankOn cX7_rankOn 9 (some .int) 4 := ⟨⟨wd_1164, wd_111, by decide, by decide, by decide +kernel⟩, wd_1163, wd_85⟩
theorem ciX7_heirOn : CI yX7_heirOn cX7_heirOn 8 (some .int) 3 := ⟨⟨wd_1160, wd_111, by decide, by decide, by decide +kernel⟩, wd_1159, wd_84⟩
theorem ciX7_falls : CI yX7_falls cX7_falls 5 (some .int) 2 := ⟨⟨wd_1156, wd_111, by decide, by decide, by decide +kernel⟩, wd_1155, wd_83⟩
theorem ctX7_isOverfull : CT yX7_isOverfull cX7_isOverfull 2 (some .boolean) 2 := ⟨⟨wd_1196, wd_111, by decide, by decide, by decide +kernel⟩, wd_1195⟩
theorem ciX7_yearGoes : CI yX7_yearGoes cX7_yearGoes 3 (none) 1 := ⟨⟨wd_1193, wd_111, by decide, by decide, by decide +kernel⟩, wd_1192, wd_87⟩
theorem ctX7_standing : CT yX7_standing cX7_standing 3 (some .int) 1 := ⟨⟨wd_1199, wd_111, by decide, by decide, by decide +kernel⟩, wd_1198⟩
theorem ciX7_remember : CI yX7_remember cX7_remember 2 (none) 0 := ⟨⟨wd_1152, wd_111, by decide, by decide, by decide +kernel⟩, wd_1151, wd_82⟩
theorem ciX7_fall : CI yX7_fall cX7_fall 2 (some .int) 1 := ⟨⟨wd_1144, wd_111, by decide, by decide, by decide +kernel⟩, wd_1142, wd_1143⟩
theorem ciX7_year : CI yX7_year cX7_year 3 (some .int) 1 := ⟨⟨wd_1188, wd_111, by decide, by decide, by decide +kernel⟩, wd_1186, wd_1187⟩
theorem ciX7_move : CI yX7_move cX7_move 4 (some .int) 2 := ⟨⟨wd_1203, wd_111, by decide, by decide, by decide +kernel⟩, wd_1201, wd_1202⟩
theorem ciX7_undo : CI yX7_undo cX7_undo 2 (some .int) 0 := ⟨⟨wd_1211, wd_111, by decide, by decide, by decide +kernel⟩, wd_1209, wd_1210⟩
theorem ciX7_of : CI yX7_of cX7_of 3 (some .int) 2 := ⟨⟨wd_1215, wd_111, by decide, by decide, by decide +kernel⟩, wd_1213, wd_1214⟩
theorem ciX7_who : CI yX7_who cX7_who 3 (some .int) 2 := ⟨⟨wd_1220, wd_111, by decide, by decide, by decide +kernel⟩, wd_1218, wd_1219⟩
theorem ciX7_degree : CI yX7_degree cX7_degree 3 (some .int) 2 := ⟨⟨wd_1227, wd_111, by decide, by decide, by decide +kernel⟩, wd_1225, wd_1226⟩
theorem ciX7_rank : CI yX7_rank cX7_rank 3 (some .int) 2 := ⟨⟨wd_1231, wd_111, by decide, by decide, by decide +kernel⟩, wd_1229, wd_1230⟩
theorem ciX7_heir : CI yX7_heir cX7_heir 2 (some .int) 1 := ⟨⟨wd_1235, wd_111, by decide, by decide, by decide +kernel⟩, wd_1233, wd_1234⟩
theorem ciX7_wills : CI yX7_wills cX7_wills 5 (some .int) 2 := ⟨⟨wd_1239, wd_111, by decide, by decide, by decide +kernel⟩, wd_1237, wd_1238⟩
theorem ciX7_layDay : CI yX7_layDay cX7_layDay 1 (none) 0 := ⟨⟨wd_1255, wd_111, by decide, by decide, by decide +kernel⟩, wd_1254, wd_91⟩
theorem ciX7_mayHaveWall : CI yX7_mayHaveWall cX7_mayHaveWall 3 (some .boolean) 2 := ⟨⟨wd_1247, wd_111, by decide, by decide, by decide +kernel⟩, wd_1246, wd_89⟩
theorem ciX7_layWall : CI yX7_layWall cX7_layWall 3 (none) 2 := ⟨⟨wd_1251, wd_111, by decide, by decide, by decide +kernel⟩, wd_1250, wd_90⟩
theorem ciX7_buildFor : CI yX7_buildFor cX7_buildFor 5 (some .int) 2 := ⟨⟨wd_1243, wd_111, by decide, by decide, by decide +kernel⟩, wd_1241, wd_1242⟩
theorem ciX7_adopts : CI yX7_adopts cX7_adopts 5 (some .int) 2 := ⟨⟨wd_1259, wd_111, by decide, by decide, by decide +kernel⟩, wd_1257, wd_1258⟩
theorem ciX7_goYears : CI yX7_goYears cX7_goYears 3 (none) 1 := ⟨⟨wd_1268, wd_111, by decide, by decide, by decide +kernel⟩, wd_1267, wd_92⟩
theorem ciX7_lives : CI yX7_lives cX7_lives 3 (some .int) 2 := ⟨⟨wd_1263, wd_111, by decide, by decide, by decide +kernel⟩, wd_1261, wd_1262⟩
theorem ciX7_stand : CI yX7_stand cX7_stand 2 (some .int) 1 := ⟨⟨wd_1272, wd_111, by decide, by decide, by decide +kernel⟩, wd_1270, wd_1271⟩
theorem ciX7_overfull : CI yX7_overfull cX7_overfull 4 (some .int) 1 := ⟨⟨wd_1276, wd_111, by decide, by decide, by decide +kernel⟩, wd_1274, wd_1275⟩
theorem ciX7_layOrder : CI yX7_layOrder cX7_layOrder 7 (some .boolean) 3 := ⟨⟨wd_1287, wd_111, by decide, by decide, by decide +kernel⟩, wd_1286, wd_93⟩
theorem ctX7_codes : CT yX7_codes cX7_codes 3 (some .int) 1 := ⟨⟨wd_1283, wd_111, by decide, by decide, by decide +kernel⟩, wd_1282⟩
theorem ciX7_layFalls : CI yX7_layFalls cX7_layFalls 4 (none) 2 := ⟨⟨wd_1291, wd_111, by decide, by decide, by decide +kernel⟩, wd_1290, wd_94⟩
theorem ciX7_orders : CI yX7_orders cX7_orders 11 (some .int) 4 := ⟨⟨wd_1280, wd_111, by decide, by decide, by decide +kernel⟩, wd_1278, wd_1279⟩
theorem ciX7_isSafe : CI yX7_isSafe cX7_isSafe 7 (some .boolean) 2 := ⟨⟨wd_1299, wd_111, by decide, by decide, by decide +kernel⟩, wd_1298, wd_95⟩
theorem ciX7_safe : CI yX7_safe cX7_safe 4 (some .int) 1 := ⟨⟨wd_1295, wd_111, by decide, by decide, by decide +kernel⟩, wd_1293, wd_1294⟩
theorem ciX7_layHomes : CI yX7_layHomes cX7_layHomes 4 (none) 1 := ⟨⟨wd_1307, wd_111, by decide, by decide, by decide +kernel⟩, wd_1306, wd_96⟩
theorem ciX7_moving : CI yX7_moving cX7_moving 5 (some .int) 0 := ⟨⟨wd_1311, wd_111, by decide, by decide, by decide +kernel⟩, wd_1310, wd_97⟩
theorem ciX7_moves : CI yX7_moves cX7_moves 6 (some .int) 1 := ⟨⟨wd_1303, wd_111, by decide, by decide, by decide +kernel⟩, wd_1301, wd_1302⟩
theorem ciX7_fraction : CI yX7_fraction cX7_fraction 11 (none) 2 := ⟨⟨wd_1319, wd_111, by decide, by decide, by decide +kernel⟩, wd_1318, wd_98⟩
theorem ciX7_share : CI yX7_share cX7_share 6 (some .int) 1 := ⟨⟨wd_1315, wd_111, by decide, by decide, by decide +kernel⟩, wd_1313, wd_1314⟩
theorem ciX7_parents : CI yX7_parents cX7_parents 5 (some .int) 2 := ⟨⟨wd_1328, wd_111, by decide, by decide, by decide +kernel⟩, wd_1327, wd_99⟩
theorem ciX7_plaster : CI yX7_plaster cX7_plaster 6 (some .int) 2 := ⟨⟨wd_1323, wd_111, by decide, by decide, by decide +kernel⟩, wd_1321, wd_1322⟩
theorem ciX7_gables : CI yX7_gables cX7_gables 4 (some .int) 1 := ⟨⟨wd_1332, wd_111, by decide, by decide, by decide +kernel⟩, wd_1330, wd_1331⟩
theorem ciX7_getsBy : CI yX7_getsBy cX7_getsBy 11 (some .int) 5 := ⟨⟨wd_1340, wd_111, by decide, by decide, by decide +kernel⟩, wd_1339, wd_100⟩
theorem ciX7_doors : CI yX7_doors cX7_doors 11 (some .int) 4 := ⟨⟨wd_1336, wd_111, by decide, by decide, by decide +kernel⟩, wd_1334, wd_1335⟩
theorem ciX7_drawn : CI yX7_drawn cX7_drawn 8 (some .int) 2 := ⟨⟨wd_1344, wd_111, by decide, by decide, by decide +kernel⟩, wd_1342, wd_1343⟩
theorem ciX7_part : CI yX7_part cX7_part 2 (some .long) 1 := ⟨⟨wd_1353, wd_111, by decide, by decide, by decide +kernel⟩, wd_1351, wd_1352⟩
theorem ciX7_image : CI yX7_image cX7_image 2 (some .int) 1 := ⟨⟨wd_1357, wd_111, by decide, by decide, by decide +kernel⟩, wd_1355, wd_1356⟩
theorem ciX7_from : CI yX7_from cX7_from 2 (some .int) 1 := ⟨⟨wd_1361, wd_111, by decide, by decide, by decide +kernel⟩, wd_1359, wd_1360⟩
theorem ciX7_status : CI yX7_status cX7_status 2 (some .int) 1 := ⟨⟨wd_1365, wd_111, by decide, by decide, by decide +kernel⟩, wd_1363, wd_1364⟩
theorem ciX7_sumOf : CI yX7_sumOf cX7_sumOf 5 (some .int) 2 := ⟨⟨wd_1378, wd_111, by decide, by decide, by decide +kernel⟩, wd_1377, wd_102⟩
theorem ciX7_counted : CI yX7_counted cX7_counted 2 (some .int) 1 := ⟨⟨wd_1374, wd_111, by decide, by decide, by decide +kernel⟩, wd_1373, wd_101⟩
theorem ciX7_count : CI yX7_count cX7_count 2 (some .int) 1 := ⟨⟨wd_1370, wd_111, by decide, by decide, by decide +kernel⟩, wd_1368, wd_1369⟩
theorem ciX7_digest : CI yX7_digest cX7_digest 5 (some .long) 0 := ⟨⟨wd_1382, wd_111, by decide, by decide, by decide +kernel⟩, wd_1380, wd_1381⟩
