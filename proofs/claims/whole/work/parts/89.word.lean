/-! ===== words, numbers ===== -/
def sbT : List (List Nat) := [[115, 116, 114, 101, 101, 116], [104, 111, 117, 115, 101], [102, 114, 111, 109], [119, 105, 108, 108], [119, 97, 108, 108], [111, 110, 101], [102, 101, 117, 100]]
def sbN (j i : Nat) : Nat := (sbT.getD j []).getD i 0
def slN (j : Nat) : Nat := slen.getD j 0
theorem sb_c : ∀ j, j < 7 → ∀ i, i < slN j → schr j i = nI (sbN j i) ∧ sbN j i < 128 := by decide +kernel
theorem sl_c : ∀ j, j < 7 → slenI j = nI (slN j) ∧ 1 ≤ slN j ∧ slN j ≤ 6 := by decide +kernel
def isW (T : Nat × (Nat → Nat)) (b e j : Nat) : Bool := decide (e - b = slN j) && alb (fun i => decide (T.2 (b + i) = sbN j i)) (slN j)
def wkc (T : Nat × (Nat → Nat)) (b e : Nat) : Nat := if isW T b e 0 then 0 else if isW T b e 1 then 1 else if isW T b e 2 then 2 else if isW T b e 3 then 3 else if isW T b e 4 then 4 else if isW T b e 5 then 5 else if isW T b e 6 then 6 else 7
def kI (k : Nat) : Int32 := if k = 7 then -1 else nI k
def itI (k : Nat) : Int32 := if k = 7 then -1 else if k = 0 then 0 else if k = 1 then 13 else nI (10 * k + 2)
def NV (T : Nat × (Nat → Nat)) (b : Nat) : Nat → Nat
  | 0 => 0
  | k + 1 => 10 * NV T b k + T.2 (b + k) - 48
def WV (T : Nat × (Nat → Nat)) (b : Nat) : Nat → Nat
  | 0 => 0
  | k + 1 => WV T b k * 256 + T.2 (b + k)
theorem WV_lt {T : Nat × (Nat → Nat)} {b : Nat} : ∀ k, (∀ i, i < k → T.2 (b + i) < 128) → WV T b k < 256 ^ k
  | 0, _ => by show 0 < 1; omega
  | k + 1, h => by
    have h1 := WV_lt k (fun i hi => h i (by omega))
    have h2 := h k (by omega)
    show WV T b k * 256 + T.2 (b + k) < 256 ^ (k + 1)
    rw [Nat.pow_succ]
    omega
def gW (T : Nat × (Nat → Nat)) (b j i : Nat) : Option Unit := if T.2 (b + i) = sbN j i then none else some ()
theorem gW_t {T : Nat × (Nat → Nat)} {b j i : Nat} (h : T.2 (b + i) = sbN j i) : gW T b j i = none := if_pos h
theorem gW_f {T : Nat × (Nat → Nat)} {b j i : Nat} (h : ¬ T.2 (b + i) = sbN j i) : gW T b j i = some () := if_neg h
section WRD
variable {L : HL} {a : Nat} {T : Nat × (Nat → Nat)}
theorem isWordF (hX : XT L a T) (hT : WT T) {b e j : Nat} (hj : j < 7) (hb : b ≤ e) (he : e ≤ T.1) (h6 : L.1 a 6 = nI b) (h7 : L.1 a 7 = nI e) : fX5_isWord a j L = some (bI (isW T b e j)) := by
  have h15 := hT.1
  obtain ⟨s1, s2, s3⟩ := sl_c j hj
  unfold fX5_isWord isW
  rw [s1, lt_eq, h6, h7, nQ_sub hb]
  by_cases c1 : e - b = slN j
  · rw [if_pos (by rw [c1]), if_pos (by rw [show (150 : Int32) = nI 150 from rfl, nQ_le (by omega) (by omega)]; omega), decide_eq_true c1, Bool.true_and]
    have lpr := lp_fnd (f := fun s9 : Int32 => fX5_isWord_b32 a j (nI (slN j)) s9 L) (s0 := (0 : Int32)) (slN j) (fun i t => t = nI i) (gW T b j) (fun _ y => y = (0 : Int32)) (by rw [FU_20000]; omega) rfl (by
      rintro i _ hi rfl
      obtain ⟨q1, q2⟩ := sb_c j hj i hi
      have h8 := hT.2 (b + i) (by omega)
      have rd : L.1 (a + 1) (nI b + nI i).toNatClampNeg = nI (T.2 (b + i)) := by rw [nQ_add, nI_cl (by omega)]; exact hX.2 _ (by omega)
      have rs : schr j (nI i).toNatClampNeg = nI (sbN j i) := by rw [nI_cl (by omega)]; exact q1
      unfold fX5_isWord_b32
      rw [if_neg (by rw [nQ_le (by omega) (by omega)]; omega), h6, gd_of (by rw [nQ_add]; exact vin_nI (by omega) (by omega)), gd_of (show vin (nI i) (slen.getD j 0) from vin_nI hi (by show slN j < _; omega))]
      by_cases c : T.2 (b + i) = sbN j i
      · rw [if_pos (by rw [rd, rs, c]), gW_t c, lt_eq, nQ_s]; exact .inl ⟨rfl, _, rfl, rfl⟩
      · rw [if_neg (by rw [rd, rs, nQ_eq (by omega) (by omega)]; exact c), gW_f c]; exact .inr ⟨(), _, rfl, rfl, rfl⟩) (by
      rintro _ rfl
      unfold fX5_isWord_b32
      rw [if_pos (by rw [nQ_le (by omega) (by omega)]; omega)])
    rcases lpr with ⟨s, e1, -, hn⟩ | ⟨v, y, e1, hv, rfl⟩
    · rw [e1, lx_inl]
      have : alb (fun i => decide (T.2 (b + i) = sbN j i)) (slN j) = true := alb_t.mpr fun i hi => by
        have := (fnd_no _).mp hn i hi
        by_cases c : T.2 (b + i) = sbN j i
        · exact decide_eq_true c
        · rw [gW_f c] at this; cases this
      rw [this]; rfl
    · rw [e1, lx_inr]
      cases k : alb (fun i => decide (T.2 (b + i) = sbN j i)) (slN j)
      · rfl
      · have k := alb_t.mp k
        have : fnd (gW T b j) (slN j) = none := (fnd_no _).mpr fun i hi => gW_t (of_decide_eq_true (k i hi))
        rw [this] at hv; cases hv
  · rw [if_neg (by rw [nQ_eq (by omega) (by omega)]; exact c1), decide_eq_false c1]; rfl
theorem wordKindF (hX : XT L a T) (hT : WT T) {b e : Nat} (hb : b ≤ e) (he : e ≤ T.1) (h6 : L.1 a 6 = nI b) (h7 : L.1 a 7 = nI e) : fX5_wordKind a L = some (kI (wkc T b e)) := by
  have w : ∀ j, j < 7 → fX5_isWord a j L = some (bI (isW T b e j)) := fun j hj => isWordF hX hT hj hb he h6 h7
  unfold fX5_wordKind wkc
  rw [w 0 (by omega), bd_some]
  cases isW T b e 0
  rotate_left
  · rw [if_neg (by decide)]; rfl
  rw [if_pos (by decide), w 1 (by omega), bd_some]
  cases isW T b e 1
  rotate_left
  · rw [if_neg (by decide)]; rfl
  rw [if_pos (by decide), w 2 (by omega), bd_some]
  cases isW T b e 2
  rotate_left
  · rw [if_neg (by decide)]; rfl
  rw [if_pos (by decide), w 3 (by omega), bd_some]
  cases isW T b e 3
  rotate_left
  · rw [if_neg (by decide)]; rfl
  rw [if_pos (by decide), w 4 (by omega), bd_some]
  cases isW T b e 4
  rotate_left
  · rw [if_neg (by decide)]; rfl
  rw [if_pos (by decide), w 5 (by omega), bd_some]
  cases isW T b e 5
  rotate_left
  · rw [if_neg (by decide)]; rfl
  rw [if_pos (by decide), w 6 (by omega), bd_some]
  cases isW T b e 6
  · rw [if_pos (by decide)]; rfl
  · rw [if_neg (by decide)]; rfl
theorem tokenNumberF (hX : XT L a T) (hT : WT T) {b e : Nat} (hb : b ≤ e) (he : e ≤ T.1) (hd : ∀ j, b ≤ j → j < e → cF (T.2 j) = true) (h2 : e - b ≤ 2) (h6 : L.1 a 6 = nI b) (h7 : L.1 a 7 = nI e) : fX5_tokenNumber a L = some (nI (NV T b (e - b))) ∧ NV T b (e - b) < 100 := by
  have h15 := hT.1
  have hc : ∀ k, k < e - b → 48 ≤ T.2 (b + k) ∧ T.2 (b + k) ≤ 57 := fun k hk => by
    have := hd (b + k) (by omega) (by omega)
    unfold cF at this
    rw [Bool.and_eq_true, decide_eq_true_eq, decide_eq_true_eq] at this
    exact this
  have hv : ∀ k, k ≤ e - b → NV T b k < 100 ∧ (k ≤ 1 → NV T b k < 10) := by
    intro k hk
    rcases (show k = 0 ∨ k = 1 ∨ k = 2 by omega) with rfl | rfl | rfl
    · exact ⟨by show 0 < 100; omega, fun _ => by show 0 < 10; omega⟩
    · have := hc 0 (by omega)
      have e1 : NV T b 1 = 10 * 0 + T.2 (b + 0) - 48 := rfl
      exact ⟨by omega, fun _ => by omega⟩
    · have q0 := hc 0 (by omega)
      have q1 := hc 1 (by omega)
      have e2 : NV T b 2 = 10 * (10 * 0 + T.2 (b + 0) - 48) + T.2 (b + 1) - 48 := rfl
      exact ⟨by omega, fun h => by omega⟩
  refine ⟨?_, (hv _ (Nat.le_refl _)).1⟩
  unfold fX5_tokenNumber
  rw [h6, lt_eq]
  refine (lx_for (e - b) (fun i => (nI (NV T b i), nI (b + i))) rfl (by rw [FU_20000]; omega) ?_ ?_).trans rfl
  · intro i hi
    have q := hc i hi
    have v := hv i (by omega)
    unfold fX5_tokenNumber_b7
    dsimp only
    rw [h7, if_neg (by rw [nQ_le (by omega) (by omega)]; omega), if_neg (by rw [show (150 : Int32) = nI 150 from rfl, nQ_le (by omega) (by omega)]; omega), gd_of (vin_nI (by omega) (by omega)), nI_cl (by omega), hX.2 _ (by omega), lt_eq, lt_eq, l10, nQ_mul, nQ_add, show (48 : Int32) = nI 48 from rfl, nQ_sub (by omega), nQ_s]
    rfl
  · unfold fX5_tokenNumber_b7
    dsimp only
    rw [h7, if_pos (by rw [nQ_le (by omega) (by omega)]; omega)]
end WRD
