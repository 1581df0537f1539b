/-! ===== the mathematics: the street's table, and how both sides hold it ===== -/
theorem Ok.eq {α : Type} {x : Option α} {r : α} (h : Ok x (fun v => v = r)) : x = Option.some r := by
  obtain ⟨z, h1, h2⟩ := h; rw [h1, h2]
theorem gd_true {α : Type} (k : Option α) : gd True k = k := if_pos trivial
theorem bd_some {α β : Type} (v : α) (k : α → Option β) : bd (some v) k = k v := rfl
theorem lx_inl {σ α β : Type} (s : σ) (kr : α → Option β) (k : σ → Option β) : lx (some (Sum.inl s)) kr k = k s := rfl
theorem lx_inr {σ α β : Type} (s : α) (kr : α → Option β) (k : σ → Option β) : lx (some (Sum.inr s)) kr k = kr s := rfl
theorem lt_eq {α β : Type} (e : α) (k : α → β) : lt e k = k e := rfl
theorem nI_toI {n : Nat} (h : n < 2147483648) : (nI n).toInt = n := by rw [← iI_nat, iI_toInt (by omega) (by omega)]
theorem nQ_eq {a b : Nat} (h1 : a < 2147483648) (h2 : b < 2147483648) : (nI a = nI b) = (a = b) := by
  rw [← Int32.toInt_inj, nI_toI h1, nI_toI h2]; exact propext ⟨fun h => by omega, fun h => by omega⟩
theorem nQ_le {a b : Nat} (h1 : a < 2147483648) (h2 : b < 2147483648) : (nI a ≤ nI b) = (a ≤ b) := by
  rw [Int32.le_iff_toInt_le, nI_toI h1, nI_toI h2]; exact propext ⟨fun h => by omega, fun h => by omega⟩
theorem nQ_lt {a b : Nat} (h1 : a < 2147483648) (h2 : b < 2147483648) : (nI a < nI b) = (a < b) := by
  rw [Int32.lt_iff_toInt_lt, nI_toI h1, nI_toI h2]; exact propext ⟨fun h => by omega, fun h => by omega⟩
theorem nQ_add (a b : Nat) : nI a + nI b = nI (a + b) := by rw [← iI_nat, ← iI_nat, ← iI_nat, iI_add]; rfl
theorem nQ_s (a : Nat) : nI a + (1 : Int32) = nI (a + 1) := nQ_add a 1
theorem nQ_mul (a b : Nat) : nI a * nI b = nI (a * b) := by rw [← iI_nat, ← iI_nat, ← iI_nat, iI_mul]; rfl
theorem nQ_sub {a b : Nat} (h : b ≤ a) : nI a - nI b = nI (a - b) := by rw [← iI_nat, ← iI_nat, ← iI_nat, iI_sub]; congr 1; omega
theorem nI_ne_neg {a : Nat} (h : a < 2147483648) : ((-1 : Int32) = nI a) = False := by
  rw [← Int32.toInt_inj, nI_toI h, tl_m1]; exact propext ⟨fun h => by omega, fun h => h.elim⟩
theorem nI_ne_neg' {a : Nat} (h : a < 2147483648) : (nI a = (-1 : Int32)) = False := by
  rw [← Int32.toInt_inj, nI_toI h, tl_m1]; exact propext ⟨fun h => by omega, fun h => h.elim⟩
theorem nI_nlt0 {a : Nat} (h : a < 2147483648) : (nI a < 0) = False := by
  rw [Int32.lt_iff_toInt_lt, nI_toI h, tl_0]; exact propext ⟨fun h => by omega, fun h => h.elim⟩
theorem vin_t {i N : Nat} (h1 : i < N) (h2 : N < 2147483648) : vin (nI i) N = True := eq_true (vin_nI h1 h2)
theorem l0 : (0 : Int32) = nI 0 := rfl
theorem l1 : (1 : Int32) = nI 1 := rfl
theorem l2 : (2 : Int32) = nI 2 := rfl
theorem l3 : (3 : Int32) = nI 3 := rfl
theorem l4 : (4 : Int32) = nI 4 := rfl
theorem l5 : (5 : Int32) = nI 5 := rfl
theorem l6 : (6 : Int32) = nI 6 := rfl
theorem l7 : (7 : Int32) = nI 7 := rfl
theorem l8 : (8 : Int32) = nI 8 := rfl
theorem l9 : (9 : Int32) = nI 9 := rfl
theorem l10 : (10 : Int32) = nI 10 := rfl
theorem l14 : (14 : Int32) = nI 14 := rfl
theorem l16 : (16 : Int32) = nI 16 := rfl
theorem l17 : (17 : Int32) = nI 17 := rfl
theorem l19 : (19 : Int32) = nI 19 := rfl
theorem l24 : (24 : Int32) = nI 24 := rfl
theorem l25 : (25 : Int32) = nI 25 := rfl
theorem l29 : (29 : Int32) = nI 29 := rfl
theorem l34 : (34 : Int32) = nI 34 := rfl
theorem l39 : (39 : Int32) = nI 39 := rfl
theorem l60 : (60 : Int32) = nI 60 := rfl
theorem l64 : (64 : Int32) = nI 64 := rfl
theorem l70 : (70 : Int32) = nI 70 := rfl
theorem l76 : (76 : Int32) = nI 76 := rfl
theorem l92 : (92 : Int32) = nI 92 := rfl
theorem l119 : (119 : Int32) = nI 119 := rfl
theorem l228 : (228 : Int32) = nI 228 := rfl
theorem l1000 : (1000 : Int32) = nI 1000 := rfl
theorem lM : (1000000 : Int32) = nI 1000000 := rfl
/-- a loop whose states are known turn by turn -/
theorem lp_for {σ α : Type} {f : σ → Option (σ ⊕ α)} (N : Nat) (St : Nat → σ) {out : α} (hN : N < FU) (h : ∀ i, i < N → f (St i) = some (.inl (St (i + 1)))) (hend : f (St N) = some (.inr out)) : lp f FU (St 0) = some out :=
  Ok.eq (Ok.lp (fun i s => s = St i) N (fun i s hi e => by
    subst e
    by_cases g : i < N
    · rw [h i g]; exact Ok.inl ⟨g, rfl⟩
    · have : i = N := by omega
      subst this
      rw [hend]; exact Ok.inr rfl) FU 0 _ (Nat.zero_le _) (by omega) rfl)
/-- a loop that leaves with the state it has -/
theorem lx_for {σ α β : Type} {f : σ → Option (σ ⊕ (σ ⊕ α))} {s0 : σ} {kr : α → Option β} {k : σ → Option β} (N : Nat) (St : Nat → σ) (h0 : s0 = St 0) (hN : N < FU) (h : ∀ i, i < N → f (St i) = some (.inl (St (i + 1)))) (hend : f (St N) = some (.inr (.inl (St N)))) : lx (lp f FU s0) kr k = k (St N) := by
  rw [h0, lp_for N St hN h hend]; rfl
/-- a loop that leaves in turn N by another way -/
theorem lx_out {σ α β : Type} {f : σ → Option (σ ⊕ (σ ⊕ α))} {s0 : σ} {kr : α → Option β} {k : σ → Option β} {v : α} (N : Nat) (St : Nat → σ) (h0 : s0 = St 0) (hN : N < FU) (h : ∀ i, i < N → f (St i) = some (.inl (St (i + 1)))) (hend : f (St N) = some (.inr (.inr v))) : lx (lp f FU s0) kr k = kr v := by
  rw [h0, lp_for N St hN h hend]; rfl
/-- a loop that leaves with the state it has, of which something is known -/
theorem lx_inv {σ α β : Type} {f : σ → Option (σ ⊕ (σ ⊕ α))} {s0 : σ} {kr : α → Option β} {k : σ → Option β} {P : β → Prop} (N : Nat) (I : Nat → σ → Prop) (hN : N < FU) (h0 : I 0 s0) (h : ∀ i s, i < N → I i s → ∃ s', f s = some (.inl s') ∧ I (i + 1) s') (hend : ∀ s, I N s → f s = some (.inr (.inl s))) (hk : ∀ s, I N s → ∃ x, k s = some x ∧ P x) : ∃ x, lx (lp f FU s0) kr k = some x ∧ P x := by
  obtain ⟨x, h1, s, h2, h3⟩ : ∃ x, lp f FU s0 = some x ∧ ∃ s, x = .inl s ∧ I N s :=
    Ok.lp I N (fun i s hi e => by
      by_cases g : i < N
      · obtain ⟨s', e1, e2⟩ := h i s g e
        rw [e1]; exact Ok.inl ⟨g, e2⟩
      · have : i = N := by omega
        subst this
        rw [hend s e]; exact Ok.inr ⟨s, rfl, e⟩) FU 0 _ (Nat.zero_le _) (by omega) h0
  subst h2
  rw [h1]
  exact hk s h3
/-- a loop of N turns with what holds at its head -/
theorem lp_inv {σ α : Type} {f : σ → Option (σ ⊕ α)} {s0 : σ} (N : Nat) (I : Nat → σ → Prop) {P : α → Prop} (hN : N < FU) (h0 : I 0 s0) (h : ∀ i s, i < N → I i s → ∃ s', f s = some (.inl s') ∧ I (i + 1) s') (hend : ∀ s, I N s → ∃ x, f s = some (.inr x) ∧ P x) : ∃ x, lp f FU s0 = some x ∧ P x :=
  Ok.lp I N (fun i s hi e => by
    by_cases g : i < N
    · obtain ⟨s', e1, e2⟩ := h i s g e
      rw [e1]; exact Ok.inl ⟨g, e2⟩
    · have : i = N := by omega
      subst this
      obtain ⟨x, e1, e2⟩ := hend s e
      rw [e1]; exact Ok.inr e2) FU 0 _ (Nat.zero_le _) (by omega) h0
/-! what a call leaves as it was -/
def Fr (A : Nat → Prop) (L L' : HL) : Prop := (∀ a, ¬ A a → L'.1 a = L.1 a) ∧ L'.2 = L.2
theorem Fr.refl {A : Nat → Prop} (L : HL) : Fr A L L := ⟨fun _ _ => rfl, rfl⟩
theorem Fr.trans {A : Nat → Prop} {L L' L'' : HL} (h : Fr A L L') (h' : Fr A L' L'') : Fr A L L'' := ⟨fun a ha => (h'.1 a ha).trans (h.1 a ha), h'.2.trans h.2⟩
theorem Fr.mono {A A' : Nat → Prop} {L L' : HL} (h : Fr A L L') (hA : ∀ a, A a → A' a) : Fr A' L L' := ⟨fun a ha => h.1 a (fun g => ha (hA a g)), h.2⟩
theorem wQ_at (L : HL) (a i : Nat) (v : Int32) (c j : Nat) : (wI L a i v).1 c j = if c = a then (if j = i then v else L.1 c j) else L.1 c j := rfl
theorem wQ_same (L : HL) (a i : Nat) (v : Int32) : (wI L a i v).1 a i = v := by rw [wQ_at, if_pos rfl, if_pos rfl]
theorem wQ_other {L : HL} {a i : Nat} {v : Int32} {j : Nat} (h : j ≠ i) : (wI L a i v).1 a j = L.1 a j := by rw [wQ_at, if_pos rfl, if_neg h]
theorem wQ_ne {L : HL} {a i : Nat} {v : Int32} {c : Nat} (h : c ≠ a) : (wI L a i v).1 c = L.1 c := by
  funext j; rw [wQ_at, if_neg h]
theorem Fr.wI {A : Nat → Prop} {L L' : HL} (h : Fr A L L') {a : Nat} (ha : A a) (i : Nat) (v : Int32) : Fr A L (wI L' a i v) := ⟨fun c hc => (wQ_ne (fun e => hc (by rw [e]; exact ha))).trans (h.1 c hc), h.2⟩
theorem wD_at (L : HL) (b sp a dp n : Nat) (c j : Nat) : (wC L b sp a dp n).1 c j = if c = a then (if dp ≤ j ∧ j < dp + n then L.1 b (sp + (j - dp)) else L.1 c j) else L.1 c j := rfl
theorem wD_ne {L : HL} {b sp a dp n : Nat} {c : Nat} (h : c ≠ a) : (wC L b sp a dp n).1 c = L.1 c := by
  funext j; rw [wD_at, if_neg h]
theorem Fr.wC {A : Nat → Prop} {L L' : HL} (h : Fr A L L') {a : Nat} (ha : A a) (b sp dp n : Nat) : Fr A L (wC L' b sp a dp n) := ⟨fun c hc => (wD_ne (fun e => hc (by rw [e]; exact ha))).trans (h.1 c hc), h.2⟩
/-! the street's table -/
def Sv : Type := (Nat) × (Nat) × (Nat) × (Int32) × (Nat → Int32) × (Nat → Int32) × (Nat → Int32) × (Nat → Int32) × (Nat → Int32) × (Nat → Int32) × (Nat → Bool) × (Nat → Nat → Bool) × (Nat → Int32) × (Nat → Int32) × (Nat → Nat → Bool)
def Sv.H (S : Sv) : Nat := S.1
def Sv.P (S : Sv) : Nat := S.2.1
def Sv.un (S : Sv) : Nat := S.2.2.1
def Sv.yr (S : Sv) : Int32 := S.2.2.2.1
def Sv.rm (S : Sv) : Nat → Int32 := S.2.2.2.2.1
def Sv.wo (S : Sv) : Nat → Int32 := S.2.2.2.2.2.1
def Sv.be (S : Sv) : Nat → Int32 := S.2.2.2.2.2.2.1
def Sv.fr (S : Sv) : Nat → Int32 := S.2.2.2.2.2.2.2.1
def Sv.wl (S : Sv) : Nat → Int32 := S.2.2.2.2.2.2.2.2.1
def Sv.mk (S : Sv) : Nat → Int32 := S.2.2.2.2.2.2.2.2.2.1
def Sv.st (S : Sv) : Nat → Bool := S.2.2.2.2.2.2.2.2.2.2.1
def Sv.wa (S : Sv) : Nat → Nat → Bool := S.2.2.2.2.2.2.2.2.2.2.2.1
def Sv.fa (S : Sv) : Nat → Int32 := S.2.2.2.2.2.2.2.2.2.2.2.2.1
def Sv.wh (S : Sv) : Nat → Int32 := S.2.2.2.2.2.2.2.2.2.2.2.2.2.1
def Sv.fe (S : Sv) : Nat → Nat → Bool := S.2.2.2.2.2.2.2.2.2.2.2.2.2.2
def Sv.of (x0 : Nat) (x1 : Nat) (x2 : Nat) (x3 : Int32) (x4 : Nat → Int32) (x5 : Nat → Int32) (x6 : Nat → Int32) (x7 : Nat → Int32) (x8 : Nat → Int32) (x9 : Nat → Int32) (x10 : Nat → Bool) (x11 : Nat → Nat → Bool) (x12 : Nat → Int32) (x13 : Nat → Int32) (x14 : Nat → Nat → Bool) : Sv := (x0, x1, x2, x3, x4, x5, x6, x7, x8, x9, x10, x11, x12, x13, x14)
def Sv.set_H (S : Sv) (v : Nat) : Sv := (v, S.P, S.un, S.yr, S.rm, S.wo, S.be, S.fr, S.wl, S.mk, S.st, S.wa, S.fa, S.wh, S.fe)
def Sv.set_P (S : Sv) (v : Nat) : Sv := (S.H, v, S.un, S.yr, S.rm, S.wo, S.be, S.fr, S.wl, S.mk, S.st, S.wa, S.fa, S.wh, S.fe)
def Sv.set_un (S : Sv) (v : Nat) : Sv := (S.H, S.P, v, S.yr, S.rm, S.wo, S.be, S.fr, S.wl, S.mk, S.st, S.wa, S.fa, S.wh, S.fe)
def Sv.set_yr (S : Sv) (v : Int32) : Sv := (S.H, S.P, S.un, v, S.rm, S.wo, S.be, S.fr, S.wl, S.mk, S.st, S.wa, S.fa, S.wh, S.fe)
def Sv.set_rm (S : Sv) (v : Nat → Int32) : Sv := (S.H, S.P, S.un, S.yr, v, S.wo, S.be, S.fr, S.wl, S.mk, S.st, S.wa, S.fa, S.wh, S.fe)
def Sv.set_wo (S : Sv) (v : Nat → Int32) : Sv := (S.H, S.P, S.un, S.yr, S.rm, v, S.be, S.fr, S.wl, S.mk, S.st, S.wa, S.fa, S.wh, S.fe)
def Sv.set_be (S : Sv) (v : Nat → Int32) : Sv := (S.H, S.P, S.un, S.yr, S.rm, S.wo, v, S.fr, S.wl, S.mk, S.st, S.wa, S.fa, S.wh, S.fe)
def Sv.set_fr (S : Sv) (v : Nat → Int32) : Sv := (S.H, S.P, S.un, S.yr, S.rm, S.wo, S.be, v, S.wl, S.mk, S.st, S.wa, S.fa, S.wh, S.fe)
def Sv.set_wl (S : Sv) (v : Nat → Int32) : Sv := (S.H, S.P, S.un, S.yr, S.rm, S.wo, S.be, S.fr, v, S.mk, S.st, S.wa, S.fa, S.wh, S.fe)
def Sv.set_mk (S : Sv) (v : Nat → Int32) : Sv := (S.H, S.P, S.un, S.yr, S.rm, S.wo, S.be, S.fr, S.wl, v, S.st, S.wa, S.fa, S.wh, S.fe)
def Sv.set_st (S : Sv) (v : Nat → Bool) : Sv := (S.H, S.P, S.un, S.yr, S.rm, S.wo, S.be, S.fr, S.wl, S.mk, v, S.wa, S.fa, S.wh, S.fe)
def Sv.set_wa (S : Sv) (v : Nat → Nat → Bool) : Sv := (S.H, S.P, S.un, S.yr, S.rm, S.wo, S.be, S.fr, S.wl, S.mk, S.st, v, S.fa, S.wh, S.fe)
def Sv.set_fa (S : Sv) (v : Nat → Int32) : Sv := (S.H, S.P, S.un, S.yr, S.rm, S.wo, S.be, S.fr, S.wl, S.mk, S.st, S.wa, v, S.wh, S.fe)
def Sv.set_wh (S : Sv) (v : Nat → Int32) : Sv := (S.H, S.P, S.un, S.yr, S.rm, S.wo, S.be, S.fr, S.wl, S.mk, S.st, S.wa, S.fa, v, S.fe)
def Sv.set_fe (S : Sv) (v : Nat → Nat → Bool) : Sv := (S.H, S.P, S.un, S.yr, S.rm, S.wo, S.be, S.fr, S.wl, S.mk, S.st, S.wa, S.fa, S.wh, v)
theorem Sv.H_set_H (S : Sv) (v : Nat) : (S.set_H v).H = v := rfl
theorem Sv.P_set_H (S : Sv) (v : Nat) : (S.set_H v).P = S.P := rfl
theorem Sv.un_set_H (S : Sv) (v : Nat) : (S.set_H v).un = S.un := rfl
theorem Sv.yr_set_H (S : Sv) (v : Nat) : (S.set_H v).yr = S.yr := rfl
theorem Sv.rm_set_H (S : Sv) (v : Nat) : (S.set_H v).rm = S.rm := rfl
theorem Sv.wo_set_H (S : Sv) (v : Nat) : (S.set_H v).wo = S.wo := rfl
theorem Sv.be_set_H (S : Sv) (v : Nat) : (S.set_H v).be = S.be := rfl
theorem Sv.fr_set_H (S : Sv) (v : Nat) : (S.set_H v).fr = S.fr := rfl
theorem Sv.wl_set_H (S : Sv) (v : Nat) : (S.set_H v).wl = S.wl := rfl
theorem Sv.mk_set_H (S : Sv) (v : Nat) : (S.set_H v).mk = S.mk := rfl
theorem Sv.st_set_H (S : Sv) (v : Nat) : (S.set_H v).st = S.st := rfl
theorem Sv.wa_set_H (S : Sv) (v : Nat) : (S.set_H v).wa = S.wa := rfl
theorem Sv.fa_set_H (S : Sv) (v : Nat) : (S.set_H v).fa = S.fa := rfl
theorem Sv.wh_set_H (S : Sv) (v : Nat) : (S.set_H v).wh = S.wh := rfl
theorem Sv.fe_set_H (S : Sv) (v : Nat) : (S.set_H v).fe = S.fe := rfl
theorem Sv.H_set_P (S : Sv) (v : Nat) : (S.set_P v).H = S.H := rfl
theorem Sv.P_set_P (S : Sv) (v : Nat) : (S.set_P v).P = v := rfl
theorem Sv.un_set_P (S : Sv) (v : Nat) : (S.set_P v).un = S.un := rfl
theorem Sv.yr_set_P (S : Sv) (v : Nat) : (S.set_P v).yr = S.yr := rfl
theorem Sv.rm_set_P (S : Sv) (v : Nat) : (S.set_P v).rm = S.rm := rfl
theorem Sv.wo_set_P (S : Sv) (v : Nat) : (S.set_P v).wo = S.wo := rfl
theorem Sv.be_set_P (S : Sv) (v : Nat) : (S.set_P v).be = S.be := rfl
theorem Sv.fr_set_P (S : Sv) (v : Nat) : (S.set_P v).fr = S.fr := rfl
theorem Sv.wl_set_P (S : Sv) (v : Nat) : (S.set_P v).wl = S.wl := rfl
theorem Sv.mk_set_P (S : Sv) (v : Nat) : (S.set_P v).mk = S.mk := rfl
theorem Sv.st_set_P (S : Sv) (v : Nat) : (S.set_P v).st = S.st := rfl
theorem Sv.wa_set_P (S : Sv) (v : Nat) : (S.set_P v).wa = S.wa := rfl
theorem Sv.fa_set_P (S : Sv) (v : Nat) : (S.set_P v).fa = S.fa := rfl
theorem Sv.wh_set_P (S : Sv) (v : Nat) : (S.set_P v).wh = S.wh := rfl
theorem Sv.fe_set_P (S : Sv) (v : Nat) : (S.set_P v).fe = S.fe := rfl
theorem Sv.H_set_un (S : Sv) (v : Nat) : (S.set_un v).H = S.H := rfl
theorem Sv.P_set_un (S : Sv) (v : Nat) : (S.set_un v).P = S.P := rfl
theorem Sv.un_set_un (S : Sv) (v : Nat) : (S.set_un v).un = v := rfl
theorem Sv.yr_set_un (S : Sv) (v : Nat) : (S.set_un v).yr = S.yr := rfl
theorem Sv.rm_set_un (S : Sv) (v : Nat) : (S.set_un v).rm = S.rm := rfl
theorem Sv.wo_set_un (S : Sv) (v : Nat) : (S.set_un v).wo = S.wo := rfl
theorem Sv.be_set_un (S : Sv) (v : Nat) : (S.set_un v).be = S.be := rfl
theorem Sv.fr_set_un (S : Sv) (v : Nat) : (S.set_un v).fr = S.fr := rfl
theorem Sv.wl_set_un (S : Sv) (v : Nat) : (S.set_un v).wl = S.wl := rfl
theorem Sv.mk_set_un (S : Sv) (v : Nat) : (S.set_un v).mk = S.mk := rfl
theorem Sv.st_set_un (S : Sv) (v : Nat) : (S.set_un v).st = S.st := rfl
theorem Sv.wa_set_un (S : Sv) (v : Nat) : (S.set_un v).wa = S.wa := rfl
theorem Sv.fa_set_un (S : Sv) (v : Nat) : (S.set_un v).fa = S.fa := rfl
theorem Sv.wh_set_un (S : Sv) (v : Nat) : (S.set_un v).wh = S.wh := rfl
theorem Sv.fe_set_un (S : Sv) (v : Nat) : (S.set_un v).fe = S.fe := rfl
theorem Sv.H_set_yr (S : Sv) (v : Int32) : (S.set_yr v).H = S.H := rfl
theorem Sv.P_set_yr (S : Sv) (v : Int32) : (S.set_yr v).P = S.P := rfl
theorem Sv.un_set_yr (S : Sv) (v : Int32) : (S.set_yr v).un = S.un := rfl
theorem Sv.yr_set_yr (S : Sv) (v : Int32) : (S.set_yr v).yr = v := rfl
theorem Sv.rm_set_yr (S : Sv) (v : Int32) : (S.set_yr v).rm = S.rm := rfl
theorem Sv.wo_set_yr (S : Sv) (v : Int32) : (S.set_yr v).wo = S.wo := rfl
theorem Sv.be_set_yr (S : Sv) (v : Int32) : (S.set_yr v).be = S.be := rfl
theorem Sv.fr_set_yr (S : Sv) (v : Int32) : (S.set_yr v).fr = S.fr := rfl
theorem Sv.wl_set_yr (S : Sv) (v : Int32) : (S.set_yr v).wl = S.wl := rfl
theorem Sv.mk_set_yr (S : Sv) (v : Int32) : (S.set_yr v).mk = S.mk := rfl
theorem Sv.st_set_yr (S : Sv) (v : Int32) : (S.set_yr v).st = S.st := rfl
theorem Sv.wa_set_yr (S : Sv) (v : Int32) : (S.set_yr v).wa = S.wa := rfl
theorem Sv.fa_set_yr (S : Sv) (v : Int32) : (S.set_yr v).fa = S.fa := rfl
theorem Sv.wh_set_yr (S : Sv) (v : Int32) : (S.set_yr v).wh = S.wh := rfl
theorem Sv.fe_set_yr (S : Sv) (v : Int32) : (S.set_yr v).fe = S.fe := rfl
theorem Sv.H_set_rm (S : Sv) (v : Nat → Int32) : (S.set_rm v).H = S.H := rfl
theorem Sv.P_set_rm (S : Sv) (v : Nat → Int32) : (S.set_rm v).P = S.P := rfl
theorem Sv.un_set_rm (S : Sv) (v : Nat → Int32) : (S.set_rm v).un = S.un := rfl
theorem Sv.yr_set_rm (S : Sv) (v : Nat → Int32) : (S.set_rm v).yr = S.yr := rfl
theorem Sv.rm_set_rm (S : Sv) (v : Nat → Int32) : (S.set_rm v).rm = v := rfl
theorem Sv.wo_set_rm (S : Sv) (v : Nat → Int32) : (S.set_rm v).wo = S.wo := rfl
theorem Sv.be_set_rm (S : Sv) (v : Nat → Int32) : (S.set_rm v).be = S.be := rfl
theorem Sv.fr_set_rm (S : Sv) (v : Nat → Int32) : (S.set_rm v).fr = S.fr := rfl
theorem Sv.wl_set_rm (S : Sv) (v : Nat → Int32) : (S.set_rm v).wl = S.wl := rfl
theorem Sv.mk_set_rm (S : Sv) (v : Nat → Int32) : (S.set_rm v).mk = S.mk := rfl
theorem Sv.st_set_rm (S : Sv) (v : Nat → Int32) : (S.set_rm v).st = S.st := rfl
theorem Sv.wa_set_rm (S : Sv) (v : Nat → Int32) : (S.set_rm v).wa = S.wa := rfl
theorem Sv.fa_set_rm (S : Sv) (v : Nat → Int32) : (S.set_rm v).fa = S.fa := rfl
theorem Sv.wh_set_rm (S : Sv) (v : Nat → Int32) : (S.set_rm v).wh = S.wh := rfl
theorem Sv.fe_set_rm (S : Sv) (v : Nat → Int32) : (S.set_rm v).fe = S.fe := rfl
theorem Sv.H_set_wo (S : Sv) (v : Nat → Int32) : (S.set_wo v).H = S.H := rfl
theorem Sv.P_set_wo (S : Sv) (v : Nat → Int32) : (S.set_wo v).P = S.P := rfl
theorem Sv.un_set_wo (S : Sv) (v : Nat → Int32) : (S.set_wo v).un = S.un := rfl
theorem Sv.yr_set_wo (S : Sv) (v : Nat → Int32) : (S.set_wo v).yr = S.yr := rfl
theorem Sv.rm_set_wo (S : Sv) (v : Nat → Int32) : (S.set_wo v).rm = S.rm := rfl
theorem Sv.wo_set_wo (S : Sv) (v : Nat → Int32) : (S.set_wo v).wo = v := rfl
theorem Sv.be_set_wo (S : Sv) (v : Nat → Int32) : (S.set_wo v).be = S.be := rfl
theorem Sv.fr_set_wo (S : Sv) (v : Nat → Int32) : (S.set_wo v).fr = S.fr := rfl
theorem Sv.wl_set_wo (S : Sv) (v : Nat → Int32) : (S.set_wo v).wl = S.wl := rfl
theorem Sv.mk_set_wo (S : Sv) (v : Nat → Int32) : (S.set_wo v).mk = S.mk := rfl
theorem Sv.st_set_wo (S : Sv) (v : Nat → Int32) : (S.set_wo v).st = S.st := rfl
theorem Sv.wa_set_wo (S : Sv) (v : Nat → Int32) : (S.set_wo v).wa = S.wa := rfl
theorem Sv.fa_set_wo (S : Sv) (v : Nat → Int32) : (S.set_wo v).fa = S.fa := rfl
theorem Sv.wh_set_wo (S : Sv) (v : Nat → Int32) : (S.set_wo v).wh = S.wh := rfl
theorem Sv.fe_set_wo (S : Sv) (v : Nat → Int32) : (S.set_wo v).fe = S.fe := rfl
theorem Sv.H_set_be (S : Sv) (v : Nat → Int32) : (S.set_be v).H = S.H := rfl
theorem Sv.P_set_be (S : Sv) (v : Nat → Int32) : (S.set_be v).P = S.P := rfl
theorem Sv.un_set_be (S : Sv) (v : Nat → Int32) : (S.set_be v).un = S.un := rfl
theorem Sv.yr_set_be (S : Sv) (v : Nat → Int32) : (S.set_be v).yr = S.yr := rfl
theorem Sv.rm_set_be (S : Sv) (v : Nat → Int32) : (S.set_be v).rm = S.rm := rfl
theorem Sv.wo_set_be (S : Sv) (v : Nat → Int32) : (S.set_be v).wo = S.wo := rfl
theorem Sv.be_set_be (S : Sv) (v : Nat → Int32) : (S.set_be v).be = v := rfl
theorem Sv.fr_set_be (S : Sv) (v : Nat → Int32) : (S.set_be v).fr = S.fr := rfl
theorem Sv.wl_set_be (S : Sv) (v : Nat → Int32) : (S.set_be v).wl = S.wl := rfl
theorem Sv.mk_set_be (S : Sv) (v : Nat → Int32) : (S.set_be v).mk = S.mk := rfl
theorem Sv.st_set_be (S : Sv) (v : Nat → Int32) : (S.set_be v).st = S.st := rfl
theorem Sv.wa_set_be (S : Sv) (v : Nat → Int32) : (S.set_be v).wa = S.wa := rfl
theorem Sv.fa_set_be (S : Sv) (v : Nat → Int32) : (S.set_be v).fa = S.fa := rfl
theorem Sv.wh_set_be (S : Sv) (v : Nat → Int32) : (S.set_be v).wh = S.wh := rfl
theorem Sv.fe_set_be (S : Sv) (v : Nat → Int32) : (S.set_be v).fe = S.fe := rfl
theorem Sv.H_set_fr (S : Sv) (v : Nat → Int32) : (S.set_fr v).H = S.H := rfl
theorem Sv.P_set_fr (S : Sv) (v : Nat → Int32) : (S.set_fr v).P = S.P := rfl
theorem Sv.un_set_fr (S : Sv) (v : Nat → Int32) : (S.set_fr v).un = S.un := rfl
theorem Sv.yr_set_fr (S : Sv) (v : Nat → Int32) : (S.set_fr v).yr = S.yr := rfl
theorem Sv.rm_set_fr (S : Sv) (v : Nat → Int32) : (S.set_fr v).rm = S.rm := rfl
theorem Sv.wo_set_fr (S : Sv) (v : Nat → Int32) : (S.set_fr v).wo = S.wo := rfl
theorem Sv.be_set_fr (S : Sv) (v : Nat → Int32) : (S.set_fr v).be = S.be := rfl
theorem Sv.fr_set_fr (S : Sv) (v : Nat → Int32) : (S.set_fr v).fr = v := rfl
theorem Sv.wl_set_fr (S : Sv) (v : Nat → Int32) : (S.set_fr v).wl = S.wl := rfl
theorem Sv.mk_set_fr (S : Sv) (v : Nat → Int32) : (S.set_fr v).mk = S.mk := rfl
theorem Sv.st_set_fr (S : Sv) (v : Nat → Int32) : (S.set_fr v).st = S.st := rfl
theorem Sv.wa_set_fr (S : Sv) (v : Nat → Int32) : (S.set_fr v).wa = S.wa := rfl
theorem Sv.fa_set_fr (S : Sv) (v : Nat → Int32) : (S.set_fr v).fa = S.fa := rfl
theorem Sv.wh_set_fr (S : Sv) (v : Nat → Int32) : (S.set_fr v).wh = S.wh := rfl
theorem Sv.fe_set_fr (S : Sv) (v : Nat → Int32) : (S.set_fr v).fe = S.fe := rfl
theorem Sv.H_set_wl (S : Sv) (v : Nat → Int32) : (S.set_wl v).H = S.H := rfl
theorem Sv.P_set_wl (S : Sv) (v : Nat → Int32) : (S.set_wl v).P = S.P := rfl
theorem Sv.un_set_wl (S : Sv) (v : Nat → Int32) : (S.set_wl v).un = S.un := rfl
theorem Sv.yr_set_wl (S : Sv) (v : Nat → Int32) : (S.set_wl v).yr = S.yr := rfl
theorem Sv.rm_set_wl (S : Sv) (v : Nat → Int32) : (S.set_wl v).rm = S.rm := rfl
theorem Sv.wo_set_wl (S : Sv) (v : Nat → Int32) : (S.set_wl v).wo = S.wo := rfl
theorem Sv.be_set_wl (S : Sv) (v : Nat → Int32) : (S.set_wl v).be = S.be := rfl
theorem Sv.fr_set_wl (S : Sv) (v : Nat → Int32) : (S.set_wl v).fr = S.fr := rfl
theorem Sv.wl_set_wl (S : Sv) (v : Nat → Int32) : (S.set_wl v).wl = v := rfl
theorem Sv.mk_set_wl (S : Sv) (v : Nat → Int32) : (S.set_wl v).mk = S.mk := rfl
theorem Sv.st_set_wl (S : Sv) (v : Nat → Int32) : (S.set_wl v).st = S.st := rfl
theorem Sv.wa_set_wl (S : Sv) (v : Nat → Int32) : (S.set_wl v).wa = S.wa := rfl
theorem Sv.fa_set_wl (S : Sv) (v : Nat → Int32) : (S.set_wl v).fa = S.fa := rfl
theorem Sv.wh_set_wl (S : Sv) (v : Nat → Int32) : (S.set_wl v).wh = S.wh := rfl
theorem Sv.fe_set_wl (S : Sv) (v : Nat → Int32) : (S.set_wl v).fe = S.fe := rfl
theorem Sv.H_set_mk (S : Sv) (v : Nat → Int32) : (S.set_mk v).H = S.H := rfl
theorem Sv.P_set_mk (S : Sv) (v : Nat → Int32) : (S.set_mk v).P = S.P := rfl
theorem Sv.un_set_mk (S : Sv) (v : Nat → Int32) : (S.set_mk v).un = S.un := rfl
theorem Sv.yr_set_mk (S : Sv) (v : Nat → Int32) : (S.set_mk v).yr = S.yr := rfl
theorem Sv.rm_set_mk (S : Sv) (v : Nat → Int32) : (S.set_mk v).rm = S.rm := rfl
theorem Sv.wo_set_mk (S : Sv) (v : Nat → Int32) : (S.set_mk v).wo = S.wo := rfl
theorem Sv.be_set_mk (S : Sv) (v : Nat → Int32) : (S.set_mk v).be = S.be := rfl
theorem Sv.fr_set_mk (S : Sv) (v : Nat → Int32) : (S.set_mk v).fr = S.fr := rfl
theorem Sv.wl_set_mk (S : Sv) (v : Nat → Int32) : (S.set_mk v).wl = S.wl := rfl
theorem Sv.mk_set_mk (S : Sv) (v : Nat → Int32) : (S.set_mk v).mk = v := rfl
theorem Sv.st_set_mk (S : Sv) (v : Nat → Int32) : (S.set_mk v).st = S.st := rfl
theorem Sv.wa_set_mk (S : Sv) (v : Nat → Int32) : (S.set_mk v).wa = S.wa := rfl
theorem Sv.fa_set_mk (S : Sv) (v : Nat → Int32) : (S.set_mk v).fa = S.fa := rfl
theorem Sv.wh_set_mk (S : Sv) (v : Nat → Int32) : (S.set_mk v).wh = S.wh := rfl
theorem Sv.fe_set_mk (S : Sv) (v : Nat → Int32) : (S.set_mk v).fe = S.fe := rfl
theorem Sv.H_set_st (S : Sv) (v : Nat → Bool) : (S.set_st v).H = S.H := rfl
theorem Sv.P_set_st (S : Sv) (v : Nat → Bool) : (S.set_st v).P = S.P := rfl
theorem Sv.un_set_st (S : Sv) (v : Nat → Bool) : (S.set_st v).un = S.un := rfl
theorem Sv.yr_set_st (S : Sv) (v : Nat → Bool) : (S.set_st v).yr = S.yr := rfl
theorem Sv.rm_set_st (S : Sv) (v : Nat → Bool) : (S.set_st v).rm = S.rm := rfl
theorem Sv.wo_set_st (S : Sv) (v : Nat → Bool) : (S.set_st v).wo = S.wo := rfl
theorem Sv.be_set_st (S : Sv) (v : Nat → Bool) : (S.set_st v).be = S.be := rfl
theorem Sv.fr_set_st (S : Sv) (v : Nat → Bool) : (S.set_st v).fr = S.fr := rfl
theorem Sv.wl_set_st (S : Sv) (v : Nat → Bool) : (S.set_st v).wl = S.wl := rfl
theorem Sv.mk_set_st (S : Sv) (v : Nat → Bool) : (S.set_st v).mk = S.mk := rfl
theorem Sv.st_set_st (S : Sv) (v : Nat → Bool) : (S.set_st v).st = v := rfl
theorem Sv.wa_set_st (S : Sv) (v : Nat → Bool) : (S.set_st v).wa = S.wa := rfl
theorem Sv.fa_set_st (S : Sv) (v : Nat → Bool) : (S.set_st v).fa = S.fa := rfl
theorem Sv.wh_set_st (S : Sv) (v : Nat → Bool) : (S.set_st v).wh = S.wh := rfl
theorem Sv.fe_set_st (S : Sv) (v : Nat → Bool) : (S.set_st v).fe = S.fe := rfl
theorem Sv.H_set_wa (S : Sv) (v : Nat → Nat → Bool) : (S.set_wa v).H = S.H := rfl
theorem Sv.P_set_wa (S : Sv) (v : Nat → Nat → Bool) : (S.set_wa v).P = S.P := rfl
theorem Sv.un_set_wa (S : Sv) (v : Nat → Nat → Bool) : (S.set_wa v).un = S.un := rfl
theorem Sv.yr_set_wa (S : Sv) (v : Nat → Nat → Bool) : (S.set_wa v).yr = S.yr := rfl
theorem Sv.rm_set_wa (S : Sv) (v : Nat → Nat → Bool) : (S.set_wa v).rm = S.rm := rfl
theorem Sv.wo_set_wa (S : Sv) (v : Nat → Nat → Bool) : (S.set_wa v).wo = S.wo := rfl
theorem Sv.be_set_wa (S : Sv) (v : Nat → Nat → Bool) : (S.set_wa v).be = S.be := rfl
theorem Sv.fr_set_wa (S : Sv) (v : Nat → Nat → Bool) : (S.set_wa v).fr = S.fr := rfl
theorem Sv.wl_set_wa (S : Sv) (v : Nat → Nat → Bool) : (S.set_wa v).wl = S.wl := rfl
theorem Sv.mk_set_wa (S : Sv) (v : Nat → Nat → Bool) : (S.set_wa v).mk = S.mk := rfl
theorem Sv.st_set_wa (S : Sv) (v : Nat → Nat → Bool) : (S.set_wa v).st = S.st := rfl
theorem Sv.wa_set_wa (S : Sv) (v : Nat → Nat → Bool) : (S.set_wa v).wa = v := rfl
theorem Sv.fa_set_wa (S : Sv) (v : Nat → Nat → Bool) : (S.set_wa v).fa = S.fa := rfl
theorem Sv.wh_set_wa (S : Sv) (v : Nat → Nat → Bool) : (S.set_wa v).wh = S.wh := rfl
theorem Sv.fe_set_wa (S : Sv) (v : Nat → Nat → Bool) : (S.set_wa v).fe = S.fe := rfl
theorem Sv.H_set_fa (S : Sv) (v : Nat → Int32) : (S.set_fa v).H = S.H := rfl
theorem Sv.P_set_fa (S : Sv) (v : Nat → Int32) : (S.set_fa v).P = S.P := rfl
theorem Sv.un_set_fa (S : Sv) (v : Nat → Int32) : (S.set_fa v).un = S.un := rfl
theorem Sv.yr_set_fa (S : Sv) (v : Nat → Int32) : (S.set_fa v).yr = S.yr := rfl
theorem Sv.rm_set_fa (S : Sv) (v : Nat → Int32) : (S.set_fa v).rm = S.rm := rfl
theorem Sv.wo_set_fa (S : Sv) (v : Nat → Int32) : (S.set_fa v).wo = S.wo := rfl
theorem Sv.be_set_fa (S : Sv) (v : Nat → Int32) : (S.set_fa v).be = S.be := rfl
theorem Sv.fr_set_fa (S : Sv) (v : Nat → Int32) : (S.set_fa v).fr = S.fr := rfl
theorem Sv.wl_set_fa (S : Sv) (v : Nat → Int32) : (S.set_fa v).wl = S.wl := rfl
theorem Sv.mk_set_fa (S : Sv) (v : Nat → Int32) : (S.set_fa v).mk = S.mk := rfl
theorem Sv.st_set_fa (S : Sv) (v : Nat → Int32) : (S.set_fa v).st = S.st := rfl
theorem Sv.wa_set_fa (S : Sv) (v : Nat → Int32) : (S.set_fa v).wa = S.wa := rfl
theorem Sv.fa_set_fa (S : Sv) (v : Nat → Int32) : (S.set_fa v).fa = v := rfl
theorem Sv.wh_set_fa (S : Sv) (v : Nat → Int32) : (S.set_fa v).wh = S.wh := rfl
theorem Sv.fe_set_fa (S : Sv) (v : Nat → Int32) : (S.set_fa v).fe = S.fe := rfl
theorem Sv.H_set_wh (S : Sv) (v : Nat → Int32) : (S.set_wh v).H = S.H := rfl
theorem Sv.P_set_wh (S : Sv) (v : Nat → Int32) : (S.set_wh v).P = S.P := rfl
theorem Sv.un_set_wh (S : Sv) (v : Nat → Int32) : (S.set_wh v).un = S.un := rfl
theorem Sv.yr_set_wh (S : Sv) (v : Nat → Int32) : (S.set_wh v).yr = S.yr := rfl
theorem Sv.rm_set_wh (S : Sv) (v : Nat → Int32) : (S.set_wh v).rm = S.rm := rfl
theorem Sv.wo_set_wh (S : Sv) (v : Nat → Int32) : (S.set_wh v).wo = S.wo := rfl
theorem Sv.be_set_wh (S : Sv) (v : Nat → Int32) : (S.set_wh v).be = S.be := rfl
theorem Sv.fr_set_wh (S : Sv) (v : Nat → Int32) : (S.set_wh v).fr = S.fr := rfl
theorem Sv.wl_set_wh (S : Sv) (v : Nat → Int32) : (S.set_wh v).wl = S.wl := rfl
theorem Sv.mk_set_wh (S : Sv) (v : Nat → Int32) : (S.set_wh v).mk = S.mk := rfl
theorem Sv.st_set_wh (S : Sv) (v : Nat → Int32) : (S.set_wh v).st = S.st := rfl
theorem Sv.wa_set_wh (S : Sv) (v : Nat → Int32) : (S.set_wh v).wa = S.wa := rfl
theorem Sv.fa_set_wh (S : Sv) (v : Nat → Int32) : (S.set_wh v).fa = S.fa := rfl
theorem Sv.wh_set_wh (S : Sv) (v : Nat → Int32) : (S.set_wh v).wh = v := rfl
theorem Sv.fe_set_wh (S : Sv) (v : Nat → Int32) : (S.set_wh v).fe = S.fe := rfl
theorem Sv.H_set_fe (S : Sv) (v : Nat → Nat → Bool) : (S.set_fe v).H = S.H := rfl
theorem Sv.P_set_fe (S : Sv) (v : Nat → Nat → Bool) : (S.set_fe v).P = S.P := rfl
theorem Sv.un_set_fe (S : Sv) (v : Nat → Nat → Bool) : (S.set_fe v).un = S.un := rfl
theorem Sv.yr_set_fe (S : Sv) (v : Nat → Nat → Bool) : (S.set_fe v).yr = S.yr := rfl
theorem Sv.rm_set_fe (S : Sv) (v : Nat → Nat → Bool) : (S.set_fe v).rm = S.rm := rfl
theorem Sv.wo_set_fe (S : Sv) (v : Nat → Nat → Bool) : (S.set_fe v).wo = S.wo := rfl
theorem Sv.be_set_fe (S : Sv) (v : Nat → Nat → Bool) : (S.set_fe v).be = S.be := rfl
theorem Sv.fr_set_fe (S : Sv) (v : Nat → Nat → Bool) : (S.set_fe v).fr = S.fr := rfl
theorem Sv.wl_set_fe (S : Sv) (v : Nat → Nat → Bool) : (S.set_fe v).wl = S.wl := rfl
theorem Sv.mk_set_fe (S : Sv) (v : Nat → Nat → Bool) : (S.set_fe v).mk = S.mk := rfl
theorem Sv.st_set_fe (S : Sv) (v : Nat → Nat → Bool) : (S.set_fe v).st = S.st := rfl
theorem Sv.wa_set_fe (S : Sv) (v : Nat → Nat → Bool) : (S.set_fe v).wa = S.wa := rfl
theorem Sv.fa_set_fe (S : Sv) (v : Nat → Nat → Bool) : (S.set_fe v).fa = S.fa := rfl
theorem Sv.wh_set_fe (S : Sv) (v : Nat → Nat → Bool) : (S.set_fe v).wh = S.wh := rfl
theorem Sv.fe_set_fe (S : Sv) (v : Nat → Nat → Bool) : (S.set_fe v).fe = v := rfl
def WF (S : Sv) : Prop := (S.H ≤ 5) ∧ (S.P ≤ 6) ∧ (∀ h, S.st h = true → h < S.H) ∧ (∀ a b, S.wa a b = true → a < S.H ∧ b < S.H ∧ a ≠ b) ∧ (∀ a b, S.wa a b = S.wa b a) ∧ (∀ f, S.fe f f = false) ∧ (∀ a b, S.fe a b = S.fe b a) ∧ (∀ a b, S.fe a b = true → a < 4 ∧ b < 4) ∧ (∀ p, p < S.P → ∃ f, f < 4 ∧ S.fa p = nI f) ∧ (∀ p, p < S.P → S.wh p = -1 ∨ ∃ h, h < S.H ∧ S.wh p = nI h) ∧ (∀ h, h < S.H → ∃ k, k < 6 ∧ S.wl h = nI k) ∧ (∀ h, h < S.H → ∃ k, k < 256 ∧ S.mk h = nI k) ∧ (∀ h, h < S.H → -1 ≤ (S.fr h).toInt) ∧ (∀ h, h < S.H → ∃ k, k < 100 ∧ S.wo h = nI k) ∧ (∀ h, h < S.H → ∃ k, k < 10 ∧ S.rm h = nI k)
theorem WF.H5 {S : Sv} (h : WF S ) : S.H ≤ 5 := h.1
theorem WF.P6 {S : Sv} (h : WF S ) : S.P ≤ 6 := h.2.1
theorem WF.st {S : Sv} (h : WF S ) : ∀ h, S.st h = true → h < S.H := h.2.2.1
theorem WF.wa {S : Sv} (h : WF S ) : ∀ a b, S.wa a b = true → a < S.H ∧ b < S.H ∧ a ≠ b := h.2.2.2.1
theorem WF.ws {S : Sv} (h : WF S ) : ∀ a b, S.wa a b = S.wa b a := h.2.2.2.2.1
theorem WF.fi {S : Sv} (h : WF S ) : ∀ f, S.fe f f = false := h.2.2.2.2.2.1
theorem WF.fs {S : Sv} (h : WF S ) : ∀ a b, S.fe a b = S.fe b a := h.2.2.2.2.2.2.1
theorem WF.fm {S : Sv} (h : WF S ) : ∀ a b, S.fe a b = true → a < 4 ∧ b < 4 := h.2.2.2.2.2.2.2.1
theorem WF.fa {S : Sv} (h : WF S ) : ∀ p, p < S.P → ∃ f, f < 4 ∧ S.fa p = nI f := h.2.2.2.2.2.2.2.2.1
theorem WF.wh {S : Sv} (h : WF S ) : ∀ p, p < S.P → S.wh p = -1 ∨ ∃ h, h < S.H ∧ S.wh p = nI h := h.2.2.2.2.2.2.2.2.2.1
theorem WF.wl {S : Sv} (h : WF S ) : ∀ h, h < S.H → ∃ k, k < 6 ∧ S.wl h = nI k := h.2.2.2.2.2.2.2.2.2.2.1
theorem WF.mk {S : Sv} (h : WF S ) : ∀ h, h < S.H → ∃ k, k < 256 ∧ S.mk h = nI k := h.2.2.2.2.2.2.2.2.2.2.2.1
theorem WF.fr {S : Sv} (h : WF S ) : ∀ h, h < S.H → -1 ≤ (S.fr h).toInt := h.2.2.2.2.2.2.2.2.2.2.2.2.1
theorem WF.wo {S : Sv} (h : WF S ) : ∀ h, h < S.H → ∃ k, k < 100 ∧ S.wo h = nI k := h.2.2.2.2.2.2.2.2.2.2.2.2.2.1
theorem WF.rm {S : Sv} (h : WF S ) : ∀ h, h < S.H → ∃ k, k < 10 ∧ S.rm h = nI k := h.2.2.2.2.2.2.2.2.2.2.2.2.2.2
theorem WF.of {S : Sv} (x0 : S.H ≤ 5) (x1 : S.P ≤ 6) (x2 : ∀ h, S.st h = true → h < S.H) (x3 : ∀ a b, S.wa a b = true → a < S.H ∧ b < S.H ∧ a ≠ b) (x4 : ∀ a b, S.wa a b = S.wa b a) (x5 : ∀ f, S.fe f f = false) (x6 : ∀ a b, S.fe a b = S.fe b a) (x7 : ∀ a b, S.fe a b = true → a < 4 ∧ b < 4) (x8 : ∀ p, p < S.P → ∃ f, f < 4 ∧ S.fa p = nI f) (x9 : ∀ p, p < S.P → S.wh p = -1 ∨ ∃ h, h < S.H ∧ S.wh p = nI h) (x10 : ∀ h, h < S.H → ∃ k, k < 6 ∧ S.wl h = nI k) (x11 : ∀ h, h < S.H → ∃ k, k < 256 ∧ S.mk h = nI k) (x12 : ∀ h, h < S.H → -1 ≤ (S.fr h).toInt) (x13 : ∀ h, h < S.H → ∃ k, k < 100 ∧ S.wo h = nI k) (x14 : ∀ h, h < S.H → ∃ k, k < 10 ∧ S.rm h = nI k) : WF S  := ⟨x0, x1, x2, x3, x4, x5, x6, x7, x8, x9, x10, x11, x12, x13, x14⟩
def SC (L : HL) (b : Nat) (S : Sv) : Prop := (L.1 b 0 = nI S.H) ∧ (L.1 b 1 = nI (mask S.st 5)) ∧ (L.1 b 2 = nI S.P) ∧ (L.1 b 3 = S.yr) ∧ (∀ h, h < S.H → L.1 (b + 1) h = S.rm h) ∧ (∀ h, h < S.H → L.1 (b + 2) h = S.wo h) ∧ (∀ h, h < S.H → L.1 (b + 3) h = S.be h) ∧ (∀ h, h < S.H → L.1 (b + 4) h = S.fr h) ∧ (∀ h, h < S.H → L.1 (b + 5) h = S.wl h) ∧ (∀ h, h < S.H → L.1 (b + 6) h = S.mk h) ∧ (∀ h, h < 5 → L.1 (b + 7) h = nI (mask (S.wa h) 5)) ∧ (∀ p, p < S.P → L.1 (b + 8) p = S.fa p) ∧ (∀ p, p < S.P → L.1 (b + 9) p = S.wh p) ∧ (∀ f, f < 4 → L.1 (b + 10) f = nI (mask (S.fe f) 4))
theorem SC.H {L : HL} {b : Nat} {S : Sv} (h : SC L  b  S ) : L.1 b 0 = nI S.H := h.1
theorem SC.st {L : HL} {b : Nat} {S : Sv} (h : SC L  b  S ) : L.1 b 1 = nI (mask S.st 5) := h.2.1
theorem SC.P {L : HL} {b : Nat} {S : Sv} (h : SC L  b  S ) : L.1 b 2 = nI S.P := h.2.2.1
theorem SC.yr {L : HL} {b : Nat} {S : Sv} (h : SC L  b  S ) : L.1 b 3 = S.yr := h.2.2.2.1
theorem SC.rm {L : HL} {b : Nat} {S : Sv} (h : SC L  b  S ) : ∀ h, h < S.H → L.1 (b + 1) h = S.rm h := h.2.2.2.2.1
theorem SC.wo {L : HL} {b : Nat} {S : Sv} (h : SC L  b  S ) : ∀ h, h < S.H → L.1 (b + 2) h = S.wo h := h.2.2.2.2.2.1
theorem SC.be {L : HL} {b : Nat} {S : Sv} (h : SC L  b  S ) : ∀ h, h < S.H → L.1 (b + 3) h = S.be h := h.2.2.2.2.2.2.1
theorem SC.fr {L : HL} {b : Nat} {S : Sv} (h : SC L  b  S ) : ∀ h, h < S.H → L.1 (b + 4) h = S.fr h := h.2.2.2.2.2.2.2.1
theorem SC.wl {L : HL} {b : Nat} {S : Sv} (h : SC L  b  S ) : ∀ h, h < S.H → L.1 (b + 5) h = S.wl h := h.2.2.2.2.2.2.2.2.1
theorem SC.mk {L : HL} {b : Nat} {S : Sv} (h : SC L  b  S ) : ∀ h, h < S.H → L.1 (b + 6) h = S.mk h := h.2.2.2.2.2.2.2.2.2.1
theorem SC.wa {L : HL} {b : Nat} {S : Sv} (h : SC L  b  S ) : ∀ h, h < 5 → L.1 (b + 7) h = nI (mask (S.wa h) 5) := h.2.2.2.2.2.2.2.2.2.2.1
theorem SC.fa {L : HL} {b : Nat} {S : Sv} (h : SC L  b  S ) : ∀ p, p < S.P → L.1 (b + 8) p = S.fa p := h.2.2.2.2.2.2.2.2.2.2.2.1
theorem SC.wh {L : HL} {b : Nat} {S : Sv} (h : SC L  b  S ) : ∀ p, p < S.P → L.1 (b + 9) p = S.wh p := h.2.2.2.2.2.2.2.2.2.2.2.2.1
theorem SC.fe {L : HL} {b : Nat} {S : Sv} (h : SC L  b  S ) : ∀ f, f < 4 → L.1 (b + 10) f = nI (mask (S.fe f) 4) := h.2.2.2.2.2.2.2.2.2.2.2.2.2
theorem SC.of {L : HL} {b : Nat} {S : Sv} (x0 : L.1 b 0 = nI S.H) (x1 : L.1 b 1 = nI (mask S.st 5)) (x2 : L.1 b 2 = nI S.P) (x3 : L.1 b 3 = S.yr) (x4 : ∀ h, h < S.H → L.1 (b + 1) h = S.rm h) (x5 : ∀ h, h < S.H → L.1 (b + 2) h = S.wo h) (x6 : ∀ h, h < S.H → L.1 (b + 3) h = S.be h) (x7 : ∀ h, h < S.H → L.1 (b + 4) h = S.fr h) (x8 : ∀ h, h < S.H → L.1 (b + 5) h = S.wl h) (x9 : ∀ h, h < S.H → L.1 (b + 6) h = S.mk h) (x10 : ∀ h, h < 5 → L.1 (b + 7) h = nI (mask (S.wa h) 5)) (x11 : ∀ p, p < S.P → L.1 (b + 8) p = S.fa p) (x12 : ∀ p, p < S.P → L.1 (b + 9) p = S.wh p) (x13 : ∀ f, f < 4 → L.1 (b + 10) f = nI (mask (S.fe f) 4)) : SC L  b  S  := ⟨x0, x1, x2, x3, x4, x5, x6, x7, x8, x9, x10, x11, x12, x13⟩
def RC (L : HL) (t : Nat) (S : Sv) : Prop := (L.1 t 0 = nI S.H) ∧ (L.1 t 1 = nI S.P) ∧ (L.1 t 2 = S.yr) ∧ (∀ h, h < 5 → L.1 t (4 + h) = S.rm h) ∧ (∀ h, h < 5 → L.1 t (9 + h) = S.wo h) ∧ (∀ h, h < 5 → L.1 t (14 + h) = S.be h) ∧ (∀ h, h < 5 → L.1 t (19 + h) = S.fr h) ∧ (∀ h, h < 5 → L.1 t (24 + h) = S.wl h) ∧ (∀ h, h < 5 → L.1 t (29 + h) = bI (S.st h)) ∧ (∀ h, h < 5 → L.1 t (34 + h) = S.mk h) ∧ (∀ a, a < 5 → ∀ b, b < 5 → L.1 t (39 + 5 * a + b) = bI (S.wa a b)) ∧ (∀ p, p < 6 → L.1 t (64 + p) = S.fa p) ∧ (∀ p, p < 6 → L.1 t (70 + p) = S.wh p) ∧ (∀ a, a < 4 → ∀ b, b < 4 → L.1 t (76 + 4 * a + b) = bI (S.fe a b))
theorem RC.H {L : HL} {t : Nat} {S : Sv} (h : RC L  t  S ) : L.1 t 0 = nI S.H := h.1
theorem RC.P {L : HL} {t : Nat} {S : Sv} (h : RC L  t  S ) : L.1 t 1 = nI S.P := h.2.1
theorem RC.yr {L : HL} {t : Nat} {S : Sv} (h : RC L  t  S ) : L.1 t 2 = S.yr := h.2.2.1
theorem RC.rm {L : HL} {t : Nat} {S : Sv} (h : RC L  t  S ) : ∀ h, h < 5 → L.1 t (4 + h) = S.rm h := h.2.2.2.1
theorem RC.wo {L : HL} {t : Nat} {S : Sv} (h : RC L  t  S ) : ∀ h, h < 5 → L.1 t (9 + h) = S.wo h := h.2.2.2.2.1
theorem RC.be {L : HL} {t : Nat} {S : Sv} (h : RC L  t  S ) : ∀ h, h < 5 → L.1 t (14 + h) = S.be h := h.2.2.2.2.2.1
theorem RC.fr {L : HL} {t : Nat} {S : Sv} (h : RC L  t  S ) : ∀ h, h < 5 → L.1 t (19 + h) = S.fr h := h.2.2.2.2.2.2.1
theorem RC.wl {L : HL} {t : Nat} {S : Sv} (h : RC L  t  S ) : ∀ h, h < 5 → L.1 t (24 + h) = S.wl h := h.2.2.2.2.2.2.2.1
theorem RC.st {L : HL} {t : Nat} {S : Sv} (h : RC L  t  S ) : ∀ h, h < 5 → L.1 t (29 + h) = bI (S.st h) := h.2.2.2.2.2.2.2.2.1
theorem RC.mk {L : HL} {t : Nat} {S : Sv} (h : RC L  t  S ) : ∀ h, h < 5 → L.1 t (34 + h) = S.mk h := h.2.2.2.2.2.2.2.2.2.1
theorem RC.wa {L : HL} {t : Nat} {S : Sv} (h : RC L  t  S ) : ∀ a, a < 5 → ∀ b, b < 5 → L.1 t (39 + 5 * a + b) = bI (S.wa a b) := h.2.2.2.2.2.2.2.2.2.2.1
theorem RC.fa {L : HL} {t : Nat} {S : Sv} (h : RC L  t  S ) : ∀ p, p < 6 → L.1 t (64 + p) = S.fa p := h.2.2.2.2.2.2.2.2.2.2.2.1
theorem RC.wh {L : HL} {t : Nat} {S : Sv} (h : RC L  t  S ) : ∀ p, p < 6 → L.1 t (70 + p) = S.wh p := h.2.2.2.2.2.2.2.2.2.2.2.2.1
theorem RC.fe {L : HL} {t : Nat} {S : Sv} (h : RC L  t  S ) : ∀ a, a < 4 → ∀ b, b < 4 → L.1 t (76 + 4 * a + b) = bI (S.fe a b) := h.2.2.2.2.2.2.2.2.2.2.2.2.2
theorem RC.of {L : HL} {t : Nat} {S : Sv} (x0 : L.1 t 0 = nI S.H) (x1 : L.1 t 1 = nI S.P) (x2 : L.1 t 2 = S.yr) (x3 : ∀ h, h < 5 → L.1 t (4 + h) = S.rm h) (x4 : ∀ h, h < 5 → L.1 t (9 + h) = S.wo h) (x5 : ∀ h, h < 5 → L.1 t (14 + h) = S.be h) (x6 : ∀ h, h < 5 → L.1 t (19 + h) = S.fr h) (x7 : ∀ h, h < 5 → L.1 t (24 + h) = S.wl h) (x8 : ∀ h, h < 5 → L.1 t (29 + h) = bI (S.st h)) (x9 : ∀ h, h < 5 → L.1 t (34 + h) = S.mk h) (x10 : ∀ a, a < 5 → ∀ b, b < 5 → L.1 t (39 + 5 * a + b) = bI (S.wa a b)) (x11 : ∀ p, p < 6 → L.1 t (64 + p) = S.fa p) (x12 : ∀ p, p < 6 → L.1 t (70 + p) = S.wh p) (x13 : ∀ a, a < 4 → ∀ b, b < 4 → L.1 t (76 + 4 * a + b) = bI (S.fe a b)) : RC L  t  S  := ⟨x0, x1, x2, x3, x4, x5, x6, x7, x8, x9, x10, x11, x12, x13⟩
theorem SC.frame {L L' : HL} {b : Nat} {S : Sv} (h : SC L b S) (e : ∀ a, b ≤ a → a ≤ b + 10 → L'.1 a = L.1 a) : SC L' b S := by
  obtain ⟨h1, h2, h3, h4, h5, h6, h7, h8, h9, h10, h11, h12, h13, h14⟩ := h
  have e0 := e b (by omega) (by omega)
  have e1 := e (b + 1) (by omega) (by omega)
  have e2 := e (b + 2) (by omega) (by omega)
  have e3 := e (b + 3) (by omega) (by omega)
  have e4 := e (b + 4) (by omega) (by omega)
  have e5 := e (b + 5) (by omega) (by omega)
  have e6 := e (b + 6) (by omega) (by omega)
  have e7 := e (b + 7) (by omega) (by omega)
  have e8 := e (b + 8) (by omega) (by omega)
  have e9 := e (b + 9) (by omega) (by omega)
  have e10 := e (b + 10) (by omega) (by omega)
  refine SC.of ?_ ?_ ?_ ?_ ?_ ?_ ?_ ?_ ?_ ?_ ?_ ?_ ?_ ?_ <;> simp only [e0, e1, e2, e3, e4, e5, e6, e7, e8, e9, e10] <;> assumption
theorem RC.frame {L L' : HL} {t : Nat} {S : Sv} (h : RC L t S) (e : L'.1 t = L.1 t) : RC L' t S := by
  obtain ⟨h1, h2, h3, h4, h5, h6, h7, h8, h9, h10, h11, h12, h13, h14⟩ := h
  refine RC.of ?_ ?_ ?_ ?_ ?_ ?_ ?_ ?_ ?_ ?_ ?_ ?_ ?_ ?_ <;> simp only [e] <;> assumption
/-! bits -/
theorem tb_ext : ∀ a, a < 64 → ∀ b, b < 64 → (∀ i, i < 6 → tb a i = tb b i) → a = b := by decide +kernel
theorem mask64 {n : Nat} (p : Nat → Bool) (hn : n ≤ 6) : mask p n < 64 := Nat.lt_of_lt_of_le (mask_lt p n) (Nat.pow_le_pow_right (by omega) hn)
theorem tb_mask {p : Nat → Bool} {n : Nat} (hn : n ≤ 6) {i : Nat} (hi : i < 6) : tb (mask p n) i = (decide (i < n) && p i) := by
  by_cases h : i < n
  · rw [mask_tb h]; simp [h]
  · have := mask_lt p n
    unfold tb
    rw [Nat.div_eq_of_lt (Nat.lt_of_lt_of_le this (Nat.pow_le_pow_right (by omega) (by omega)))]
    simp [h]
theorem mask_ext {p q : Nat → Bool} {n : Nat} (hn : n ≤ 6) : mask p n = mask q n ↔ ∀ i, i < n → p i = q i := by
  constructor
  · intro h i hi
    rw [← mask_tb (p := p) hi, h, mask_tb hi]
  · exact mask_congr n
theorem mask_sn (p : Nat → Bool) (n : Nat) : mask p (n + 1) = mask p n + (if p n then 2 ^ n else 0) := rfl
theorem mask_or {p q : Nat → Bool} {n : Nat} (hn : n ≤ 6) : mask p n ||| mask q n = mask (fun i => p i || q i) n := by
  have h1 := mask64 p hn
  have h2 := mask64 q hn
  have h3 : mask p n ||| mask q n < 64 := Nat.or_lt_two_pow (n := 6) h1 h2
  refine tb_ext _ h3 _ (mask64 _ hn) fun i hi => ?_
  rw [tb_or _ h1 _ h2 i hi, tb_mask hn hi, tb_mask hn hi, tb_mask hn hi]
  cases decide (i < n) <;> simp
theorem mask_and {p q : Nat → Bool} {n : Nat} (hn : n ≤ 6) : mask p n &&& mask q n = mask (fun i => p i && q i) n := by
  have h1 := mask64 p hn
  have h2 := mask64 q hn
  have h3 : mask p n &&& mask q n < 64 := Nat.lt_of_le_of_lt Nat.and_le_left h1
  refine tb_ext _ h3 _ (mask64 _ hn) fun i hi => ?_
  rw [tb_and _ h1 _ h2 i hi, tb_mask hn hi, tb_mask hn hi, tb_mask hn hi]
  cases decide (i < n) <;> simp
theorem mask_one {n x : Nat} (hn : n ≤ 6) (hx : x < n) : 2 ^ x = mask (fun i => i == x) n := by
  have h0 : 2 ^ x < 64 := Nat.lt_of_lt_of_le (Nat.pow_lt_pow_right (by omega) (show x < 6 by omega)) (by omega)
  refine tb_ext _ h0 _ (mask64 _ hn) fun i hi => ?_
  rw [tb_pow x (by omega) i hi, tb_mask hn hi]
  by_cases e : i = x
  · subst e; simp [hx]
  · simp [e]
theorem mask_zero (n : Nat) : mask (fun _ => false) n = 0 := by
  induction n with
  | zero => rfl
  | succ n ih => rw [mask_sn, ih]; rfl
theorem i_or {p q : Nat → Bool} {n : Nat} (hn : n ≤ 6) : nI (mask p n) ||| nI (mask q n) = nI (mask (fun i => p i || q i) n) := by
  rw [or_c _ (mask64 p hn) _ (mask64 q hn), mask_or hn]
theorem i_and {p q : Nat → Bool} {n : Nat} (hn : n ≤ 6) : nI (mask p n) &&& nI (mask q n) = nI (mask (fun i => p i && q i) n) := by
  rw [and_c _ (mask64 p hn) _ (mask64 q hn), mask_and hn]
theorem i_shl {n x : Nat} (hn : n ≤ 6) (hx : x < n) : (1 : Int32) <<< (nI x &&& 31) = nI (mask (fun i => i == x) n) := by
  rw [shl_c x (by omega), mask_one hn hx]
theorem i_andn {p q : Nat → Bool} {n : Nat} (hn : n ≤ 6) : nI (mask p n) &&& (nI (mask q n) ^^^ (-1 : Int32)) = nI (mask (fun i => p i && !q i) n) := by
  have h1 := mask64 p hn
  have h2 := mask64 q hn
  rw [not_c _ h1 _ h2]
  congr 1
  have h4 : 63 ^^^ mask q n < 64 := Nat.xor_lt_two_pow (n := 6) (by omega) h2
  have h3 : mask p n &&& (63 ^^^ mask q n) < 64 := Nat.lt_of_le_of_lt Nat.and_le_left h1
  refine tb_ext _ h3 _ (mask64 _ hn) fun i hi => ?_
  rw [tb_and _ h1 _ h4 i hi, tb_xor 63 (by omega) _ h2 i hi, tb_mask hn hi, tb_mask hn hi, tb_mask hn hi]
  have h63 : tb 63 i = true := (show ∀ i, i < 6 → tb 63 i = true by decide) i hi
  rw [h63]
  by_cases e : i < n
  · simp only [e, decide_true, Bool.true_and]
    cases p i <;> cases q i <;> rfl
  · simp [e]
theorem i_xor {p q : Nat → Bool} {n : Nat} (hn : n ≤ 6) : nI (mask p n) ^^^ nI (mask q n) = nI (mask (fun i => p i != q i) n) := by
  have h1 := mask64 p hn
  have h2 := mask64 q hn
  rw [xor_c _ h1 _ h2]
  congr 1
  have h3 : mask p n ^^^ mask q n < 64 := Nat.xor_lt_two_pow (n := 6) h1 h2
  refine tb_ext _ h3 _ (mask64 _ hn) fun i hi => ?_
  rw [tb_xor _ h1 _ h2 i hi, tb_mask hn hi, tb_mask hn hi, tb_mask hn hi]
  cases decide (i < n) <;> simp
theorem i_zero {p : Nat → Bool} {n : Nat} (hn : n ≤ 6) : (nI (mask p n) = 0) = ∀ i, i < n → p i = false := by
  rw [l0, nQ_eq (by have := mask64 p hn; omega) (by omega), ← mask_zero n]
  exact propext (mask_ext hn)
theorem i_bit {p : Nat → Bool} {n h : Nat} (hn : n ≤ 6) (hh : h < n) : (((nI (mask p n) >>> (nI h &&& 31)) &&& 1) = 1) = (p h = true) := propext (mask_bit hn hh)
theorem bI_t : bI true = 1 := rfl
theorem bI_f : bI false = 0 := rfl
theorem bI_e0 (p : Bool) : (bI p = 0) = (p = false) := propext (bI_0 p)
theorem bI_e1 (p : Bool) : (bI p = 1) = (p = true) := propext (bI_1 p)
