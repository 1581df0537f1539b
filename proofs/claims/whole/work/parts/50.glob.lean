/-! ===== the whole state ===== -/
def Uv : Type := (Nat → Bool) × (Nat → Int32) × (Nat → Int32) × (Int32)
def Uv.st (S : Uv) : Nat → Bool := S.1
def Uv.be (S : Uv) : Nat → Int32 := S.2.1
def Uv.wh (S : Uv) : Nat → Int32 := S.2.2.1
def Uv.yr (S : Uv) : Int32 := S.2.2.2
def Uv.of (x0 : Nat → Bool) (x1 : Nat → Int32) (x2 : Nat → Int32) (x3 : Int32) : Uv := (x0, x1, x2, x3)
def Uv.set_st (S : Uv) (v : Nat → Bool) : Uv := (v, S.be, S.wh, S.yr)
def Uv.set_be (S : Uv) (v : Nat → Int32) : Uv := (S.st, v, S.wh, S.yr)
def Uv.set_wh (S : Uv) (v : Nat → Int32) : Uv := (S.st, S.be, v, S.yr)
def Uv.set_yr (S : Uv) (v : Int32) : Uv := (S.st, S.be, S.wh, v)
theorem Uv.st_set_st (S : Uv) (v : Nat → Bool) : (S.set_st v).st = v := rfl
theorem Uv.be_set_st (S : Uv) (v : Nat → Bool) : (S.set_st v).be = S.be := rfl
theorem Uv.wh_set_st (S : Uv) (v : Nat → Bool) : (S.set_st v).wh = S.wh := rfl
theorem Uv.yr_set_st (S : Uv) (v : Nat → Bool) : (S.set_st v).yr = S.yr := rfl
theorem Uv.st_set_be (S : Uv) (v : Nat → Int32) : (S.set_be v).st = S.st := rfl
theorem Uv.be_set_be (S : Uv) (v : Nat → Int32) : (S.set_be v).be = v := rfl
theorem Uv.wh_set_be (S : Uv) (v : Nat → Int32) : (S.set_be v).wh = S.wh := rfl
theorem Uv.yr_set_be (S : Uv) (v : Nat → Int32) : (S.set_be v).yr = S.yr := rfl
theorem Uv.st_set_wh (S : Uv) (v : Nat → Int32) : (S.set_wh v).st = S.st := rfl
theorem Uv.be_set_wh (S : Uv) (v : Nat → Int32) : (S.set_wh v).be = S.be := rfl
theorem Uv.wh_set_wh (S : Uv) (v : Nat → Int32) : (S.set_wh v).wh = v := rfl
theorem Uv.yr_set_wh (S : Uv) (v : Nat → Int32) : (S.set_wh v).yr = S.yr := rfl
theorem Uv.st_set_yr (S : Uv) (v : Int32) : (S.set_yr v).st = S.st := rfl
theorem Uv.be_set_yr (S : Uv) (v : Int32) : (S.set_yr v).be = S.be := rfl
theorem Uv.wh_set_yr (S : Uv) (v : Int32) : (S.set_yr v).wh = S.wh := rfl
theorem Uv.yr_set_yr (S : Uv) (v : Int32) : (S.set_yr v).yr = v := rfl
def Gv : Type := (Sv) × (Nat → Uv) × (Nat → Bool) × (Nat → Sv) × (Nat → Nat → Uv) × (Nat) × (Nat → Nat) × (Int64) × (Int64) × (Int32) × (Int32) × (Int32)
def Gv.S (S : Gv) : Sv := S.1
def Gv.U (S : Gv) : Nat → Uv := S.2.1
def Gv.kp (S : Gv) : Nat → Bool := S.2.2.1
def Gv.IS (S : Gv) : Nat → Sv := S.2.2.2.1
def Gv.IU (S : Gv) : Nat → Nat → Uv := S.2.2.2.2.1
def Gv.ln (S : Gv) : Nat := S.2.2.2.2.2.1
def Gv.by (S : Gv) : Nat → Nat := S.2.2.2.2.2.2.1
def Gv.ab (S : Gv) : Int64 := S.2.2.2.2.2.2.2.1
def Gv.bl (S : Gv) : Int64 := S.2.2.2.2.2.2.2.2.1
def Gv.r0 (S : Gv) : Int32 := S.2.2.2.2.2.2.2.2.2.1
def Gv.r1 (S : Gv) : Int32 := S.2.2.2.2.2.2.2.2.2.2.1
def Gv.r2 (S : Gv) : Int32 := S.2.2.2.2.2.2.2.2.2.2.2
def Gv.of (x0 : Sv) (x1 : Nat → Uv) (x2 : Nat → Bool) (x3 : Nat → Sv) (x4 : Nat → Nat → Uv) (x5 : Nat) (x6 : Nat → Nat) (x7 : Int64) (x8 : Int64) (x9 : Int32) (x10 : Int32) (x11 : Int32) : Gv := (x0, x1, x2, x3, x4, x5, x6, x7, x8, x9, x10, x11)
def Gv.set_S (S : Gv) (v : Sv) : Gv := (v, S.U, S.kp, S.IS, S.IU, S.ln, S.by, S.ab, S.bl, S.r0, S.r1, S.r2)
def Gv.set_U (S : Gv) (v : Nat → Uv) : Gv := (S.S, v, S.kp, S.IS, S.IU, S.ln, S.by, S.ab, S.bl, S.r0, S.r1, S.r2)
def Gv.set_kp (S : Gv) (v : Nat → Bool) : Gv := (S.S, S.U, v, S.IS, S.IU, S.ln, S.by, S.ab, S.bl, S.r0, S.r1, S.r2)
def Gv.set_IS (S : Gv) (v : Nat → Sv) : Gv := (S.S, S.U, S.kp, v, S.IU, S.ln, S.by, S.ab, S.bl, S.r0, S.r1, S.r2)
def Gv.set_IU (S : Gv) (v : Nat → Nat → Uv) : Gv := (S.S, S.U, S.kp, S.IS, v, S.ln, S.by, S.ab, S.bl, S.r0, S.r1, S.r2)
def Gv.set_ln (S : Gv) (v : Nat) : Gv := (S.S, S.U, S.kp, S.IS, S.IU, v, S.by, S.ab, S.bl, S.r0, S.r1, S.r2)
def Gv.set_by (S : Gv) (v : Nat → Nat) : Gv := (S.S, S.U, S.kp, S.IS, S.IU, S.ln, v, S.ab, S.bl, S.r0, S.r1, S.r2)
def Gv.set_ab (S : Gv) (v : Int64) : Gv := (S.S, S.U, S.kp, S.IS, S.IU, S.ln, S.by, v, S.bl, S.r0, S.r1, S.r2)
def Gv.set_bl (S : Gv) (v : Int64) : Gv := (S.S, S.U, S.kp, S.IS, S.IU, S.ln, S.by, S.ab, v, S.r0, S.r1, S.r2)
def Gv.set_r0 (S : Gv) (v : Int32) : Gv := (S.S, S.U, S.kp, S.IS, S.IU, S.ln, S.by, S.ab, S.bl, v, S.r1, S.r2)
def Gv.set_r1 (S : Gv) (v : Int32) : Gv := (S.S, S.U, S.kp, S.IS, S.IU, S.ln, S.by, S.ab, S.bl, S.r0, v, S.r2)
def Gv.set_r2 (S : Gv) (v : Int32) : Gv := (S.S, S.U, S.kp, S.IS, S.IU, S.ln, S.by, S.ab, S.bl, S.r0, S.r1, v)
theorem Gv.S_set_S (S : Gv) (v : Sv) : (S.set_S v).S = v := rfl
theorem Gv.U_set_S (S : Gv) (v : Sv) : (S.set_S v).U = S.U := rfl
theorem Gv.kp_set_S (S : Gv) (v : Sv) : (S.set_S v).kp = S.kp := rfl
theorem Gv.IS_set_S (S : Gv) (v : Sv) : (S.set_S v).IS = S.IS := rfl
theorem Gv.IU_set_S (S : Gv) (v : Sv) : (S.set_S v).IU = S.IU := rfl
theorem Gv.ln_set_S (S : Gv) (v : Sv) : (S.set_S v).ln = S.ln := rfl
theorem Gv.by_set_S (S : Gv) (v : Sv) : (S.set_S v).by = S.by := rfl
theorem Gv.ab_set_S (S : Gv) (v : Sv) : (S.set_S v).ab = S.ab := rfl
theorem Gv.bl_set_S (S : Gv) (v : Sv) : (S.set_S v).bl = S.bl := rfl
theorem Gv.r0_set_S (S : Gv) (v : Sv) : (S.set_S v).r0 = S.r0 := rfl
theorem Gv.r1_set_S (S : Gv) (v : Sv) : (S.set_S v).r1 = S.r1 := rfl
theorem Gv.r2_set_S (S : Gv) (v : Sv) : (S.set_S v).r2 = S.r2 := rfl
theorem Gv.S_set_U (S : Gv) (v : Nat → Uv) : (S.set_U v).S = S.S := rfl
theorem Gv.U_set_U (S : Gv) (v : Nat → Uv) : (S.set_U v).U = v := rfl
theorem Gv.kp_set_U (S : Gv) (v : Nat → Uv) : (S.set_U v).kp = S.kp := rfl
theorem Gv.IS_set_U (S : Gv) (v : Nat → Uv) : (S.set_U v).IS = S.IS := rfl
theorem Gv.IU_set_U (S : Gv) (v : Nat → Uv) : (S.set_U v).IU = S.IU := rfl
theorem Gv.ln_set_U (S : Gv) (v : Nat → Uv) : (S.set_U v).ln = S.ln := rfl
theorem Gv.by_set_U (S : Gv) (v : Nat → Uv) : (S.set_U v).by = S.by := rfl
theorem Gv.ab_set_U (S : Gv) (v : Nat → Uv) : (S.set_U v).ab = S.ab := rfl
theorem Gv.bl_set_U (S : Gv) (v : Nat → Uv) : (S.set_U v).bl = S.bl := rfl
theorem Gv.r0_set_U (S : Gv) (v : Nat → Uv) : (S.set_U v).r0 = S.r0 := rfl
theorem Gv.r1_set_U (S : Gv) (v : Nat → Uv) : (S.set_U v).r1 = S.r1 := rfl
theorem Gv.r2_set_U (S : Gv) (v : Nat → Uv) : (S.set_U v).r2 = S.r2 := rfl
theorem Gv.S_set_kp (S : Gv) (v : Nat → Bool) : (S.set_kp v).S = S.S := rfl
theorem Gv.U_set_kp (S : Gv) (v : Nat → Bool) : (S.set_kp v).U = S.U := rfl
theorem Gv.kp_set_kp (S : Gv) (v : Nat → Bool) : (S.set_kp v).kp = v := rfl
theorem Gv.IS_set_kp (S : Gv) (v : Nat → Bool) : (S.set_kp v).IS = S.IS := rfl
theorem Gv.IU_set_kp (S : Gv) (v : Nat → Bool) : (S.set_kp v).IU = S.IU := rfl
theorem Gv.ln_set_kp (S : Gv) (v : Nat → Bool) : (S.set_kp v).ln = S.ln := rfl
theorem Gv.by_set_kp (S : Gv) (v : Nat → Bool) : (S.set_kp v).by = S.by := rfl
theorem Gv.ab_set_kp (S : Gv) (v : Nat → Bool) : (S.set_kp v).ab = S.ab := rfl
theorem Gv.bl_set_kp (S : Gv) (v : Nat → Bool) : (S.set_kp v).bl = S.bl := rfl
theorem Gv.r0_set_kp (S : Gv) (v : Nat → Bool) : (S.set_kp v).r0 = S.r0 := rfl
theorem Gv.r1_set_kp (S : Gv) (v : Nat → Bool) : (S.set_kp v).r1 = S.r1 := rfl
theorem Gv.r2_set_kp (S : Gv) (v : Nat → Bool) : (S.set_kp v).r2 = S.r2 := rfl
theorem Gv.S_set_IS (S : Gv) (v : Nat → Sv) : (S.set_IS v).S = S.S := rfl
theorem Gv.U_set_IS (S : Gv) (v : Nat → Sv) : (S.set_IS v).U = S.U := rfl
theorem Gv.kp_set_IS (S : Gv) (v : Nat → Sv) : (S.set_IS v).kp = S.kp := rfl
theorem Gv.IS_set_IS (S : Gv) (v : Nat → Sv) : (S.set_IS v).IS = v := rfl
theorem Gv.IU_set_IS (S : Gv) (v : Nat → Sv) : (S.set_IS v).IU = S.IU := rfl
theorem Gv.ln_set_IS (S : Gv) (v : Nat → Sv) : (S.set_IS v).ln = S.ln := rfl
theorem Gv.by_set_IS (S : Gv) (v : Nat → Sv) : (S.set_IS v).by = S.by := rfl
theorem Gv.ab_set_IS (S : Gv) (v : Nat → Sv) : (S.set_IS v).ab = S.ab := rfl
theorem Gv.bl_set_IS (S : Gv) (v : Nat → Sv) : (S.set_IS v).bl = S.bl := rfl
theorem Gv.r0_set_IS (S : Gv) (v : Nat → Sv) : (S.set_IS v).r0 = S.r0 := rfl
theorem Gv.r1_set_IS (S : Gv) (v : Nat → Sv) : (S.set_IS v).r1 = S.r1 := rfl
theorem Gv.r2_set_IS (S : Gv) (v : Nat → Sv) : (S.set_IS v).r2 = S.r2 := rfl
theorem Gv.S_set_IU (S : Gv) (v : Nat → Nat → Uv) : (S.set_IU v).S = S.S := rfl
theorem Gv.U_set_IU (S : Gv) (v : Nat → Nat → Uv) : (S.set_IU v).U = S.U := rfl
theorem Gv.kp_set_IU (S : Gv) (v : Nat → Nat → Uv) : (S.set_IU v).kp = S.kp := rfl
theorem Gv.IS_set_IU (S : Gv) (v : Nat → Nat → Uv) : (S.set_IU v).IS = S.IS := rfl
theorem Gv.IU_set_IU (S : Gv) (v : Nat → Nat → Uv) : (S.set_IU v).IU = v := rfl
theorem Gv.ln_set_IU (S : Gv) (v : Nat → Nat → Uv) : (S.set_IU v).ln = S.ln := rfl
theorem Gv.by_set_IU (S : Gv) (v : Nat → Nat → Uv) : (S.set_IU v).by = S.by := rfl
theorem Gv.ab_set_IU (S : Gv) (v : Nat → Nat → Uv) : (S.set_IU v).ab = S.ab := rfl
theorem Gv.bl_set_IU (S : Gv) (v : Nat → Nat → Uv) : (S.set_IU v).bl = S.bl := rfl
theorem Gv.r0_set_IU (S : Gv) (v : Nat → Nat → Uv) : (S.set_IU v).r0 = S.r0 := rfl
theorem Gv.r1_set_IU (S : Gv) (v : Nat → Nat → Uv) : (S.set_IU v).r1 = S.r1 := rfl
theorem Gv.r2_set_IU (S : Gv) (v : Nat → Nat → Uv) : (S.set_IU v).r2 = S.r2 := rfl
theorem Gv.S_set_ln (S : Gv) (v : Nat) : (S.set_ln v).S = S.S := rfl
theorem Gv.U_set_ln (S : Gv) (v : Nat) : (S.set_ln v).U = S.U := rfl
theorem Gv.kp_set_ln (S : Gv) (v : Nat) : (S.set_ln v).kp = S.kp := rfl
theorem Gv.IS_set_ln (S : Gv) (v : Nat) : (S.set_ln v).IS = S.IS := rfl
theorem Gv.IU_set_ln (S : Gv) (v : Nat) : (S.set_ln v).IU = S.IU := rfl
theorem Gv.ln_set_ln (S : Gv) (v : Nat) : (S.set_ln v).ln = v := rfl
theorem Gv.by_set_ln (S : Gv) (v : Nat) : (S.set_ln v).by = S.by := rfl
theorem Gv.ab_set_ln (S : Gv) (v : Nat) : (S.set_ln v).ab = S.ab := rfl
theorem Gv.bl_set_ln (S : Gv) (v : Nat) : (S.set_ln v).bl = S.bl := rfl
theorem Gv.r0_set_ln (S : Gv) (v : Nat) : (S.set_ln v).r0 = S.r0 := rfl
theorem Gv.r1_set_ln (S : Gv) (v : Nat) : (S.set_ln v).r1 = S.r1 := rfl
theorem Gv.r2_set_ln (S : Gv) (v : Nat) : (S.set_ln v).r2 = S.r2 := rfl
theorem Gv.S_set_by (S : Gv) (v : Nat → Nat) : (S.set_by v).S = S.S := rfl
theorem Gv.U_set_by (S : Gv) (v : Nat → Nat) : (S.set_by v).U = S.U := rfl
theorem Gv.kp_set_by (S : Gv) (v : Nat → Nat) : (S.set_by v).kp = S.kp := rfl
theorem Gv.IS_set_by (S : Gv) (v : Nat → Nat) : (S.set_by v).IS = S.IS := rfl
theorem Gv.IU_set_by (S : Gv) (v : Nat → Nat) : (S.set_by v).IU = S.IU := rfl
theorem Gv.ln_set_by (S : Gv) (v : Nat → Nat) : (S.set_by v).ln = S.ln := rfl
theorem Gv.by_set_by (S : Gv) (v : Nat → Nat) : (S.set_by v).by = v := rfl
theorem Gv.ab_set_by (S : Gv) (v : Nat → Nat) : (S.set_by v).ab = S.ab := rfl
theorem Gv.bl_set_by (S : Gv) (v : Nat → Nat) : (S.set_by v).bl = S.bl := rfl
theorem Gv.r0_set_by (S : Gv) (v : Nat → Nat) : (S.set_by v).r0 = S.r0 := rfl
theorem Gv.r1_set_by (S : Gv) (v : Nat → Nat) : (S.set_by v).r1 = S.r1 := rfl
theorem Gv.r2_set_by (S : Gv) (v : Nat → Nat) : (S.set_by v).r2 = S.r2 := rfl
theorem Gv.S_set_ab (S : Gv) (v : Int64) : (S.set_ab v).S = S.S := rfl
theorem Gv.U_set_ab (S : Gv) (v : Int64) : (S.set_ab v).U = S.U := rfl
theorem Gv.kp_set_ab (S : Gv) (v : Int64) : (S.set_ab v).kp = S.kp := rfl
theorem Gv.IS_set_ab (S : Gv) (v : Int64) : (S.set_ab v).IS = S.IS := rfl
theorem Gv.IU_set_ab (S : Gv) (v : Int64) : (S.set_ab v).IU = S.IU := rfl
theorem Gv.ln_set_ab (S : Gv) (v : Int64) : (S.set_ab v).ln = S.ln := rfl
theorem Gv.by_set_ab (S : Gv) (v : Int64) : (S.set_ab v).by = S.by := rfl
theorem Gv.ab_set_ab (S : Gv) (v : Int64) : (S.set_ab v).ab = v := rfl
theorem Gv.bl_set_ab (S : Gv) (v : Int64) : (S.set_ab v).bl = S.bl := rfl
theorem Gv.r0_set_ab (S : Gv) (v : Int64) : (S.set_ab v).r0 = S.r0 := rfl
theorem Gv.r1_set_ab (S : Gv) (v : Int64) : (S.set_ab v).r1 = S.r1 := rfl
theorem Gv.r2_set_ab (S : Gv) (v : Int64) : (S.set_ab v).r2 = S.r2 := rfl
theorem Gv.S_set_bl (S : Gv) (v : Int64) : (S.set_bl v).S = S.S := rfl
theorem Gv.U_set_bl (S : Gv) (v : Int64) : (S.set_bl v).U = S.U := rfl
theorem Gv.kp_set_bl (S : Gv) (v : Int64) : (S.set_bl v).kp = S.kp := rfl
theorem Gv.IS_set_bl (S : Gv) (v : Int64) : (S.set_bl v).IS = S.IS := rfl
theorem Gv.IU_set_bl (S : Gv) (v : Int64) : (S.set_bl v).IU = S.IU := rfl
theorem Gv.ln_set_bl (S : Gv) (v : Int64) : (S.set_bl v).ln = S.ln := rfl
theorem Gv.by_set_bl (S : Gv) (v : Int64) : (S.set_bl v).by = S.by := rfl
theorem Gv.ab_set_bl (S : Gv) (v : Int64) : (S.set_bl v).ab = S.ab := rfl
theorem Gv.bl_set_bl (S : Gv) (v : Int64) : (S.set_bl v).bl = v := rfl
theorem Gv.r0_set_bl (S : Gv) (v : Int64) : (S.set_bl v).r0 = S.r0 := rfl
theorem Gv.r1_set_bl (S : Gv) (v : Int64) : (S.set_bl v).r1 = S.r1 := rfl
theorem Gv.r2_set_bl (S : Gv) (v : Int64) : (S.set_bl v).r2 = S.r2 := rfl
theorem Gv.S_set_r0 (S : Gv) (v : Int32) : (S.set_r0 v).S = S.S := rfl
theorem Gv.U_set_r0 (S : Gv) (v : Int32) : (S.set_r0 v).U = S.U := rfl
theorem Gv.kp_set_r0 (S : Gv) (v : Int32) : (S.set_r0 v).kp = S.kp := rfl
theorem Gv.IS_set_r0 (S : Gv) (v : Int32) : (S.set_r0 v).IS = S.IS := rfl
theorem Gv.IU_set_r0 (S : Gv) (v : Int32) : (S.set_r0 v).IU = S.IU := rfl
theorem Gv.ln_set_r0 (S : Gv) (v : Int32) : (S.set_r0 v).ln = S.ln := rfl
theorem Gv.by_set_r0 (S : Gv) (v : Int32) : (S.set_r0 v).by = S.by := rfl
theorem Gv.ab_set_r0 (S : Gv) (v : Int32) : (S.set_r0 v).ab = S.ab := rfl
theorem Gv.bl_set_r0 (S : Gv) (v : Int32) : (S.set_r0 v).bl = S.bl := rfl
theorem Gv.r0_set_r0 (S : Gv) (v : Int32) : (S.set_r0 v).r0 = v := rfl
theorem Gv.r1_set_r0 (S : Gv) (v : Int32) : (S.set_r0 v).r1 = S.r1 := rfl
theorem Gv.r2_set_r0 (S : Gv) (v : Int32) : (S.set_r0 v).r2 = S.r2 := rfl
theorem Gv.S_set_r1 (S : Gv) (v : Int32) : (S.set_r1 v).S = S.S := rfl
theorem Gv.U_set_r1 (S : Gv) (v : Int32) : (S.set_r1 v).U = S.U := rfl
theorem Gv.kp_set_r1 (S : Gv) (v : Int32) : (S.set_r1 v).kp = S.kp := rfl
theorem Gv.IS_set_r1 (S : Gv) (v : Int32) : (S.set_r1 v).IS = S.IS := rfl
theorem Gv.IU_set_r1 (S : Gv) (v : Int32) : (S.set_r1 v).IU = S.IU := rfl
theorem Gv.ln_set_r1 (S : Gv) (v : Int32) : (S.set_r1 v).ln = S.ln := rfl
theorem Gv.by_set_r1 (S : Gv) (v : Int32) : (S.set_r1 v).by = S.by := rfl
theorem Gv.ab_set_r1 (S : Gv) (v : Int32) : (S.set_r1 v).ab = S.ab := rfl
theorem Gv.bl_set_r1 (S : Gv) (v : Int32) : (S.set_r1 v).bl = S.bl := rfl
theorem Gv.r0_set_r1 (S : Gv) (v : Int32) : (S.set_r1 v).r0 = S.r0 := rfl
theorem Gv.r1_set_r1 (S : Gv) (v : Int32) : (S.set_r1 v).r1 = v := rfl
theorem Gv.r2_set_r1 (S : Gv) (v : Int32) : (S.set_r1 v).r2 = S.r2 := rfl
theorem Gv.S_set_r2 (S : Gv) (v : Int32) : (S.set_r2 v).S = S.S := rfl
theorem Gv.U_set_r2 (S : Gv) (v : Int32) : (S.set_r2 v).U = S.U := rfl
theorem Gv.kp_set_r2 (S : Gv) (v : Int32) : (S.set_r2 v).kp = S.kp := rfl
theorem Gv.IS_set_r2 (S : Gv) (v : Int32) : (S.set_r2 v).IS = S.IS := rfl
theorem Gv.IU_set_r2 (S : Gv) (v : Int32) : (S.set_r2 v).IU = S.IU := rfl
theorem Gv.ln_set_r2 (S : Gv) (v : Int32) : (S.set_r2 v).ln = S.ln := rfl
theorem Gv.by_set_r2 (S : Gv) (v : Int32) : (S.set_r2 v).by = S.by := rfl
theorem Gv.ab_set_r2 (S : Gv) (v : Int32) : (S.set_r2 v).ab = S.ab := rfl
theorem Gv.bl_set_r2 (S : Gv) (v : Int32) : (S.set_r2 v).bl = S.bl := rfl
theorem Gv.r0_set_r2 (S : Gv) (v : Int32) : (S.set_r2 v).r0 = S.r0 := rfl
theorem Gv.r1_set_r2 (S : Gv) (v : Int32) : (S.set_r2 v).r1 = S.r1 := rfl
theorem Gv.r2_set_r2 (S : Gv) (v : Int32) : (S.set_r2 v).r2 = v := rfl
def PCs (L : HL) (b : Nat) (S : Sv) (u : Uv) (s : Nat) : Prop := (L.1 (b + 1) s = nI (mask u.st 5)) ∧ (L.1 (b + 2) s = u.yr) ∧ (∀ h, h < S.H → L.1 (b + 4 + s) h = u.be h) ∧ (∀ p, p < S.P → L.1 (b + 13 + s) p = u.wh p)
theorem PCs.st {L : HL} {b : Nat} {S : Sv} {u : Uv} {s : Nat} (h : PCs L  b  S  u  s ) : L.1 (b + 1) s = nI (mask u.st 5) := h.1
theorem PCs.yr {L : HL} {b : Nat} {S : Sv} {u : Uv} {s : Nat} (h : PCs L  b  S  u  s ) : L.1 (b + 2) s = u.yr := h.2.1
theorem PCs.be {L : HL} {b : Nat} {S : Sv} {u : Uv} {s : Nat} (h : PCs L  b  S  u  s ) : ∀ h, h < S.H → L.1 (b + 4 + s) h = u.be h := h.2.2.1
theorem PCs.wh {L : HL} {b : Nat} {S : Sv} {u : Uv} {s : Nat} (h : PCs L  b  S  u  s ) : ∀ p, p < S.P → L.1 (b + 13 + s) p = u.wh p := h.2.2.2
theorem PCs.of {L : HL} {b : Nat} {S : Sv} {u : Uv} {s : Nat} (x0 : L.1 (b + 1) s = nI (mask u.st 5)) (x1 : L.1 (b + 2) s = u.yr) (x2 : ∀ h, h < S.H → L.1 (b + 4 + s) h = u.be h) (x3 : ∀ p, p < S.P → L.1 (b + 13 + s) p = u.wh p) : PCs L  b  S  u  s  := ⟨x0, x1, x2, x3⟩
def slot (nx un i : Nat) : Nat := (nx + 8 - un + i) % 8
def PCc (L : HL) (b : Nat) (S : Sv) (U : Nat → Uv) : Prop := L.1 b 0 = nI S.un ∧ ∃ nx, nx < 8 ∧ L.1 b 1 = nI nx ∧ ∀ i, i < S.un → PCs L b S (U i) (slot nx S.un i)
def PRs (L : HL) (t : Nat) (i : Nat) (u : Uv) : Prop := (∀ h, h < 5 → L.1 t (92 + 17 * i + h) = bI (u.st h)) ∧ (∀ h, h < 5 → L.1 t (92 + 17 * i + 5 + h) = u.be h) ∧ (∀ p, p < 6 → L.1 t (92 + 17 * i + 10 + p) = u.wh p) ∧ (L.1 t (92 + 17 * i + 16) = u.yr)
theorem PRs.st {L : HL} {t : Nat} {i : Nat} {u : Uv} (h : PRs L  t  i  u ) : ∀ h, h < 5 → L.1 t (92 + 17 * i + h) = bI (u.st h) := h.1
theorem PRs.be {L : HL} {t : Nat} {i : Nat} {u : Uv} (h : PRs L  t  i  u ) : ∀ h, h < 5 → L.1 t (92 + 17 * i + 5 + h) = u.be h := h.2.1
theorem PRs.wh {L : HL} {t : Nat} {i : Nat} {u : Uv} (h : PRs L  t  i  u ) : ∀ p, p < 6 → L.1 t (92 + 17 * i + 10 + p) = u.wh p := h.2.2.1
theorem PRs.yr {L : HL} {t : Nat} {i : Nat} {u : Uv} (h : PRs L  t  i  u ) : L.1 t (92 + 17 * i + 16) = u.yr := h.2.2.2
theorem PRs.of {L : HL} {t : Nat} {i : Nat} {u : Uv} (x0 : ∀ h, h < 5 → L.1 t (92 + 17 * i + h) = bI (u.st h)) (x1 : ∀ h, h < 5 → L.1 t (92 + 17 * i + 5 + h) = u.be h) (x2 : ∀ p, p < 6 → L.1 t (92 + 17 * i + 10 + p) = u.wh p) (x3 : L.1 t (92 + 17 * i + 16) = u.yr) : PRs L  t  i  u  := ⟨x0, x1, x2, x3⟩
def WU (S : Sv) (u : Uv) : Prop := (∀ h, u.st h = true → h < S.H) ∧ (∀ p, p < S.P → u.wh p = -1 ∨ ∃ h, h < S.H ∧ u.wh p = nI h)
theorem WU.st {S : Sv} {u : Uv} (h : WU S  u ) : ∀ h, u.st h = true → h < S.H := h.1
theorem WU.wh {S : Sv} {u : Uv} (h : WU S  u ) : ∀ p, p < S.P → u.wh p = -1 ∨ ∃ h, h < S.H ∧ u.wh p = nI h := h.2
theorem WU.of {S : Sv} {u : Uv} (x0 : ∀ h, u.st h = true → h < S.H) (x1 : ∀ p, p < S.P → u.wh p = -1 ∨ ∃ h, h < S.H ∧ u.wh p = nI h) : WU S  u  := ⟨x0, x1⟩
def WQ (S : Sv) (U : Nat → Uv) : Prop := (WF S) ∧ (S.un ≤ 8) ∧ (∀ i, i < S.un → WU S (U i))
theorem WQ.W {S : Sv} {U : Nat → Uv} (h : WQ S  U ) : WF S := h.1
theorem WQ.un {S : Sv} {U : Nat → Uv} (h : WQ S  U ) : S.un ≤ 8 := h.2.1
theorem WQ.U {S : Sv} {U : Nat → Uv} (h : WQ S  U ) : ∀ i, i < S.un → WU S (U i) := h.2.2
theorem WQ.of {S : Sv} {U : Nat → Uv} (x0 : WF S) (x1 : S.un ≤ 8) (x2 : ∀ i, i < S.un → WU S (U i)) : WQ S  U  := ⟨x0, x1, x2⟩
def CQ (L : HL) (s : Nat) (p : Nat) (S : Sv) (U : Nat → Uv) : Prop := (SC L s S) ∧ (PCc L p S U)
theorem CQ.S {L : HL} {s : Nat} {p : Nat} {S : Sv} {U : Nat → Uv} (h : CQ L  s  p  S  U ) : SC L s S := h.1
theorem CQ.U {L : HL} {s : Nat} {p : Nat} {S : Sv} {U : Nat → Uv} (h : CQ L  s  p  S  U ) : PCc L p S U := h.2
theorem CQ.of {L : HL} {s : Nat} {p : Nat} {S : Sv} {U : Nat → Uv} (x0 : SC L s S) (x1 : PCc L p S U) : CQ L  s  p  S  U  := ⟨x0, x1⟩
def RQ (L : HL) (t : Nat) (S : Sv) (U : Nat → Uv) : Prop := (RC L t S) ∧ (L.1 t 3 = nI S.un) ∧ (∀ i, i < S.un → PRs L t i (U i))
theorem RQ.S {L : HL} {t : Nat} {S : Sv} {U : Nat → Uv} (h : RQ L  t  S  U ) : RC L t S := h.1
theorem RQ.un {L : HL} {t : Nat} {S : Sv} {U : Nat → Uv} (h : RQ L  t  S  U ) : L.1 t 3 = nI S.un := h.2.1
theorem RQ.U {L : HL} {t : Nat} {S : Sv} {U : Nat → Uv} (h : RQ L  t  S  U ) : ∀ i, i < S.un → PRs L t i (U i) := h.2.2
theorem RQ.of {L : HL} {t : Nat} {S : Sv} {U : Nat → Uv} (x0 : RC L t S) (x1 : L.1 t 3 = nI S.un) (x2 : ∀ i, i < S.un → PRs L t i (U i)) : RQ L  t  S  U  := ⟨x0, x1, x2⟩
def im (L : HL) (m i : Nat) : HL := (fun _ k => L.1 (m + 2) (228 * i + k), L.2)
def KI (L : HL) (B : Nat) (G : Gv) : Prop := (CQ L (B + 1) (B + 29) G.S G.U) ∧ (L.1 (B + 50) 0 = bI (G.kp 0)) ∧ (L.1 (B + 86) 0 = bI (G.kp 1)) ∧ (G.kp 0 = true → CQ L (B + 51) (B + 65) (G.IS 0) (G.IU 0)) ∧ (G.kp 1 = true → CQ L (B + 87) (B + 101) (G.IS 1) (G.IU 1)) ∧ (L.1 (B + 122) 1 = nI G.ln) ∧ (∀ j, j < G.ln → L.1 (B + 123) j = nI (G.by j)) ∧ (L.2 B 8 = G.ab) ∧ (L.2 B 9 = G.bl) ∧ (L.1 B 10 = G.r0) ∧ (L.1 B 11 = G.r1) ∧ (L.1 B 12 = G.r2)
theorem KI.Q {L : HL} {B : Nat} {G : Gv} (h : KI L  B  G ) : CQ L (B + 1) (B + 29) G.S G.U := h.1
theorem KI.k0 {L : HL} {B : Nat} {G : Gv} (h : KI L  B  G ) : L.1 (B + 50) 0 = bI (G.kp 0) := h.2.1
theorem KI.k1 {L : HL} {B : Nat} {G : Gv} (h : KI L  B  G ) : L.1 (B + 86) 0 = bI (G.kp 1) := h.2.2.1
theorem KI.i0 {L : HL} {B : Nat} {G : Gv} (h : KI L  B  G ) : G.kp 0 = true → CQ L (B + 51) (B + 65) (G.IS 0) (G.IU 0) := h.2.2.2.1
theorem KI.i1 {L : HL} {B : Nat} {G : Gv} (h : KI L  B  G ) : G.kp 1 = true → CQ L (B + 87) (B + 101) (G.IS 1) (G.IU 1) := h.2.2.2.2.1
theorem KI.ln {L : HL} {B : Nat} {G : Gv} (h : KI L  B  G ) : L.1 (B + 122) 1 = nI G.ln := h.2.2.2.2.2.1
theorem KI.by {L : HL} {B : Nat} {G : Gv} (h : KI L  B  G ) : ∀ j, j < G.ln → L.1 (B + 123) j = nI (G.by j) := h.2.2.2.2.2.2.1
theorem KI.ab {L : HL} {B : Nat} {G : Gv} (h : KI L  B  G ) : L.2 B 8 = G.ab := h.2.2.2.2.2.2.2.1
theorem KI.bl {L : HL} {B : Nat} {G : Gv} (h : KI L  B  G ) : L.2 B 9 = G.bl := h.2.2.2.2.2.2.2.2.1
theorem KI.r0 {L : HL} {B : Nat} {G : Gv} (h : KI L  B  G ) : L.1 B 10 = G.r0 := h.2.2.2.2.2.2.2.2.2.1
theorem KI.r1 {L : HL} {B : Nat} {G : Gv} (h : KI L  B  G ) : L.1 B 11 = G.r1 := h.2.2.2.2.2.2.2.2.2.2.1
theorem KI.r2 {L : HL} {B : Nat} {G : Gv} (h : KI L  B  G ) : L.1 B 12 = G.r2 := h.2.2.2.2.2.2.2.2.2.2.2
theorem KI.of {L : HL} {B : Nat} {G : Gv} (x0 : CQ L (B + 1) (B + 29) G.S G.U) (x1 : L.1 (B + 50) 0 = bI (G.kp 0)) (x2 : L.1 (B + 86) 0 = bI (G.kp 1)) (x3 : G.kp 0 = true → CQ L (B + 51) (B + 65) (G.IS 0) (G.IU 0)) (x4 : G.kp 1 = true → CQ L (B + 87) (B + 101) (G.IS 1) (G.IU 1)) (x5 : L.1 (B + 122) 1 = nI G.ln) (x6 : ∀ j, j < G.ln → L.1 (B + 123) j = nI (G.by j)) (x7 : L.2 B 8 = G.ab) (x8 : L.2 B 9 = G.bl) (x9 : L.1 B 10 = G.r0) (x10 : L.1 B 11 = G.r1) (x11 : L.1 B 12 = G.r2) : KI L  B  G  := ⟨x0, x1, x2, x3, x4, x5, x6, x7, x8, x9, x10, x11⟩
def JI (L : HL) (m : Nat) (G : Gv) : Prop := (RQ L (m + 1) G.S G.U) ∧ (∀ i, i < 2 → L.1 (m + 3) i = bI (G.kp i)) ∧ (∀ i, i < 2 → G.kp i = true → RQ (im L m i) 0 (G.IS i) (G.IU i)) ∧ (L.1 m 4 = nI G.ln) ∧ (∀ j, j < G.ln → L.1 (m + 4) j = nI (G.by j)) ∧ (L.2 m 5 = G.ab) ∧ (L.2 m 6 = G.bl) ∧ (L.1 (m + 5) 0 = G.r0) ∧ (L.1 (m + 5) 1 = G.r1) ∧ (L.1 (m + 5) 2 = G.r2)
theorem JI.Q {L : HL} {m : Nat} {G : Gv} (h : JI L  m  G ) : RQ L (m + 1) G.S G.U := h.1
theorem JI.k {L : HL} {m : Nat} {G : Gv} (h : JI L  m  G ) : ∀ i, i < 2 → L.1 (m + 3) i = bI (G.kp i) := h.2.1
theorem JI.I {L : HL} {m : Nat} {G : Gv} (h : JI L  m  G ) : ∀ i, i < 2 → G.kp i = true → RQ (im L m i) 0 (G.IS i) (G.IU i) := h.2.2.1
theorem JI.ln {L : HL} {m : Nat} {G : Gv} (h : JI L  m  G ) : L.1 m 4 = nI G.ln := h.2.2.2.1
theorem JI.by {L : HL} {m : Nat} {G : Gv} (h : JI L  m  G ) : ∀ j, j < G.ln → L.1 (m + 4) j = nI (G.by j) := h.2.2.2.2.1
theorem JI.ab {L : HL} {m : Nat} {G : Gv} (h : JI L  m  G ) : L.2 m 5 = G.ab := h.2.2.2.2.2.1
theorem JI.bl {L : HL} {m : Nat} {G : Gv} (h : JI L  m  G ) : L.2 m 6 = G.bl := h.2.2.2.2.2.2.1
theorem JI.r0 {L : HL} {m : Nat} {G : Gv} (h : JI L  m  G ) : L.1 (m + 5) 0 = G.r0 := h.2.2.2.2.2.2.2.1
theorem JI.r1 {L : HL} {m : Nat} {G : Gv} (h : JI L  m  G ) : L.1 (m + 5) 1 = G.r1 := h.2.2.2.2.2.2.2.2.1
theorem JI.r2 {L : HL} {m : Nat} {G : Gv} (h : JI L  m  G ) : L.1 (m + 5) 2 = G.r2 := h.2.2.2.2.2.2.2.2.2
theorem JI.of {L : HL} {m : Nat} {G : Gv} (x0 : RQ L (m + 1) G.S G.U) (x1 : ∀ i, i < 2 → L.1 (m + 3) i = bI (G.kp i)) (x2 : ∀ i, i < 2 → G.kp i = true → RQ (im L m i) 0 (G.IS i) (G.IU i)) (x3 : L.1 m 4 = nI G.ln) (x4 : ∀ j, j < G.ln → L.1 (m + 4) j = nI (G.by j)) (x5 : L.2 m 5 = G.ab) (x6 : L.2 m 6 = G.bl) (x7 : L.1 (m + 5) 0 = G.r0) (x8 : L.1 (m + 5) 1 = G.r1) (x9 : L.1 (m + 5) 2 = G.r2) : JI L  m  G  := ⟨x0, x1, x2, x3, x4, x5, x6, x7, x8, x9⟩
def WG (G : Gv) : Prop := (WQ G.S G.U) ∧ (∀ i, i < 2 → G.kp i = true → WQ (G.IS i) (G.IU i)) ∧ (G.ln ≤ 150) ∧ (∀ j, j < G.ln → G.by j < 128)
theorem WG.Q {G : Gv} (h : WG G ) : WQ G.S G.U := h.1
theorem WG.I {G : Gv} (h : WG G ) : ∀ i, i < 2 → G.kp i = true → WQ (G.IS i) (G.IU i) := h.2.1
theorem WG.ln {G : Gv} (h : WG G ) : G.ln ≤ 150 := h.2.2.1
theorem WG.by {G : Gv} (h : WG G ) : ∀ j, j < G.ln → G.by j < 128 := h.2.2.2
theorem WG.of {G : Gv} (x0 : WQ G.S G.U) (x1 : ∀ i, i < 2 → G.kp i = true → WQ (G.IS i) (G.IU i)) (x2 : G.ln ≤ 150) (x3 : ∀ j, j < G.ln → G.by j < 128) : WG G  := ⟨x0, x1, x2, x3⟩
/-! frames -/
theorem PCs.frame {L L' : HL} {b s : Nat} {S : Sv} {u : Uv} (h : PCs L b S u s) (hs : s < 8) (e : ∀ a, b ≤ a → a < b + 21 → L'.1 a = L.1 a) : PCs L' b S u s := by
  obtain ⟨h1, h2, h3, h4⟩ := h
  exact PCs.of (by rw [e (b + 1) (by omega) (by omega)]; exact h1) (by rw [e (b + 2) (by omega) (by omega)]; exact h2) (by rw [e (b + 4 + s) (by omega) (by omega)]; exact h3) (by rw [e (b + 13 + s) (by omega) (by omega)]; exact h4)
theorem slot_lt {nx un i : Nat} : slot nx un i < 8 := Nat.mod_lt _ (by omega)
theorem PCc.frame {L L' : HL} {b : Nat} {S : Sv} {U : Nat → Uv} (h : PCc L b S U) (e : ∀ a, b ≤ a → a < b + 21 → L'.1 a = L.1 a) : PCc L' b S U := by
  obtain ⟨h1, nx, h2, h3, h4⟩ := h
  refine ⟨by rw [e b (by omega) (by omega)]; exact h1, nx, h2, by rw [e b (by omega) (by omega)]; exact h3, fun i hi => (h4 i hi).frame slot_lt e⟩
theorem CQ.frame {L L' : HL} {s p : Nat} {S : Sv} {U : Nat → Uv} (h : CQ L s p S U) (e1 : ∀ a, s ≤ a → a ≤ s + 10 → L'.1 a = L.1 a) (e2 : ∀ a, p ≤ a → a < p + 21 → L'.1 a = L.1 a) : CQ L' s p S U := CQ.of (h.S.frame e1) (h.U.frame e2)
theorem PRs.frame {L L' : HL} {t i : Nat} {u : Uv} (h : PRs L t i u) (e : L'.1 t = L.1 t) : PRs L' t i u := by
  obtain ⟨h1, h2, h3, h4⟩ := h
  exact PRs.of (by rw [e]; exact h1) (by rw [e]; exact h2) (by rw [e]; exact h3) (by rw [e]; exact h4)
theorem RQ.frame {L L' : HL} {t : Nat} {S : Sv} {U : Nat → Uv} (h : RQ L t S U) (e : L'.1 t = L.1 t) : RQ L' t S U := RQ.of (h.S.frame e) (by rw [e]; exact h.un) (fun i hi => (h.U i hi).frame e)
theorem RQ.copy {L L' : HL} {t t' : Nat} {S : Sv} {U : Nat → Uv} (h : RQ L t S U) (hu : S.un ≤ 8) (e : ∀ k, k < 228 → L'.1 t' k = L.1 t k) : RQ L' t' S U := by
  refine RQ.of (h.S.copy fun k hk => e k (by omega)) (by rw [e _ (by omega)]; exact h.un) (fun i hi => ?_)
  obtain ⟨h1, h2, h3, h4⟩ := h.U i hi
  exact PRs.of (fun x hx => by rw [e _ (by omega)]; exact h1 x hx) (fun x hx => by rw [e _ (by omega)]; exact h2 x hx) (fun x hx => by rw [e _ (by omega)]; exact h3 x hx) (by rw [e _ (by omega)]; exact h4)
/-- what a call of the class may use as it likes -/
def scr (B a : Nat) : Prop := (B + 12 ≤ a ∧ a < B + 29) ∨ (B + 61 < a ∧ a < B + 65) ∨ (B + 97 < a ∧ a < B + 101) ∨ (B + 124 ≤ a ∧ a < B + 178)
theorem KI.frame {L L' : HL} {B : Nat} {G : Gv} (h : KI L B G) (e : ∀ a, B ≤ a → a < B + 178 → a ≠ B + 122 → ¬ scr B a → L'.1 a = L.1 a) (e1 : L'.1 (B + 122) 1 = L.1 (B + 122) 1) (e2 : L'.2 B = L.2 B) : KI L' B G := by
  obtain ⟨h1, h2, h3, h4, h5, h6, h7, h8, h9, h10, h11, h12⟩ := h
  have E : ∀ a, B ≤ a → a < B + 178 → a ≠ B + 122 → ¬ ((B + 12 ≤ a ∧ a < B + 29) ∨ (B + 61 < a ∧ a < B + 65) ∨ (B + 97 < a ∧ a < B + 101) ∨ (B + 124 ≤ a ∧ a < B + 178)) → L'.1 a = L.1 a := e
  have eB := E B (by omega) (by omega) (by omega) (by omega)
  refine KI.of (h1.frame (fun a _ _ => E a (by omega) (by omega) (by omega) (by omega)) (fun a _ _ => E a (by omega) (by omega) (by omega) (by omega))) ?_ ?_ (fun k => (h4 k).frame (fun a _ _ => E a (by omega) (by omega) (by omega) (by omega)) (fun a _ _ => E a (by omega) (by omega) (by omega) (by omega))) (fun k => (h5 k).frame (fun a _ _ => E a (by omega) (by omega) (by omega) (by omega)) (fun a _ _ => E a (by omega) (by omega) (by omega) (by omega))) ?_ ?_ ?_ ?_ ?_ ?_ ?_
  · rw [E _ (by omega) (by omega) (by omega) (by omega)]; exact h2
  · rw [E _ (by omega) (by omega) (by omega) (by omega)]; exact h3
  · rw [e1]; exact h6
  · rw [E _ (by omega) (by omega) (by omega) (by omega)]; exact h7
  · rw [e2]; exact h8
  · rw [e2]; exact h9
  · rw [eB]; exact h10
  · rw [eB]; exact h11
  · rw [eB]; exact h12
/-- the reference's cells that last -/
theorem JI.frame {L L' : HL} {m : Nat} {G : Gv} (h : JI L m G) (e : ∀ a, a = m + 1 ∨ a = m + 2 ∨ a = m + 3 ∨ a = m + 4 ∨ a = m + 5 → L'.1 a = L.1 a) (e4 : L'.1 m 4 = L.1 m 4) (e2 : L'.2 m = L.2 m) : JI L' m G := by
  obtain ⟨h1, h2, h3, h4, h5, h6, h7, h8, h9, h10⟩ := h
  have E1 := e (m + 1) (by omega)
  have E2 := e (m + 2) (by omega)
  have E3 := e (m + 3) (by omega)
  have E4 := e (m + 4) (by omega)
  have E5 := e (m + 5) (by omega)
  refine JI.of (h1.frame E1) (by rw [E3]; exact h2) (fun i hi k => ?_) (by rw [e4]; exact h4) (by rw [E4]; exact h5) (by rw [e2]; exact h6) (by rw [e2]; exact h7) (by rw [E5]; exact h8) (by rw [E5]; exact h9) (by rw [E5]; exact h10)
  have := h3 i hi k
  refine this.frame ?_
  show (fun k => L'.1 (m + 2) (228 * i + k)) = fun k => L.1 (m + 2) (228 * i + k)
  rw [E2]
/-! ranges -/
def inb (v : Int32) (lo hi : Int) : Bool := decide (lo ≤ v.toInt) && decide (v.toInt ≤ hi)
theorem lg_lt (x y : Int64) : (lg_cmp x y < 0) = (x.toInt < y.toInt) := by
  unfold lg_cmp
  by_cases c : x > y
  · rw [if_pos c]
    have : y.toInt < x.toInt := Int64.lt_iff_toInt_lt.mp c
    exact propext ⟨fun h => absurd h (by decide), fun h => by omega⟩
  · rw [if_neg c]
    have c1 : ¬ y.toInt < x.toInt := fun z => c (Int64.lt_iff_toInt_lt.mpr z)
    by_cases c2 : x = y
    · rw [if_pos c2, c2]; exact propext ⟨fun h => absurd h (by decide), fun h => by omega⟩
    · rw [if_neg c2]
      have c3 : x.toInt ≠ y.toInt := fun z => c2 (Int64.toInt_inj.mp z)
      exact propext ⟨fun _ => by omega, fun _ => by decide⟩
theorem lg_gt (x y : Int64) : (0 < lg_cmp x y) = (y.toInt < x.toInt) := by
  unfold lg_cmp
  by_cases c : x > y
  · rw [if_pos c]
    have : y.toInt < x.toInt := Int64.lt_iff_toInt_lt.mp c
    exact propext ⟨fun _ => this, fun _ => by decide⟩
  · rw [if_neg c]
    have c1 : ¬ y.toInt < x.toInt := fun z => c (Int64.lt_iff_toInt_lt.mpr z)
    by_cases c2 : x = y
    · rw [if_pos c2]; exact propext ⟨fun h => absurd h (by decide), fun h => absurd h c1⟩
    · rw [if_neg c2]
      exact propext ⟨fun h => absurd h (by decide), fun h => absurd h c1⟩
theorem inF (v : Int32) (lo hi : Int64) : fX7_in v.toInt64 lo hi = some (bI (inb v lo.toInt hi.toInt)) := by
  unfold fX7_in inb
  have e : v.toInt64.toInt = v.toInt := Int32.toInt_toInt64 v
  simp only [lg_lt, lg_gt, e]
  by_cases c1 : v.toInt < lo.toInt
  · rw [if_pos c1, decide_eq_false (by omega)]; rfl
  · rw [if_neg c1, decide_eq_true (show lo.toInt ≤ v.toInt by omega)]
    by_cases c2 : hi.toInt < v.toInt
    · rw [if_pos c2, decide_eq_false (by omega)]; rfl
    · rw [if_neg c2, decide_eq_true (by omega)]; rfl
section INS
variable {L : HL} {m : Nat} {S : Sv}
theorem RC.isHouseF (h : RC L (m + 1) S) (hW : WF S) (v : Int32) : fX7_isHouse m v L = some (bI (hasI S v)) := by
  have h5 := hW.H5
  unfold fX7_isHouse
  rw [inF, bd_some, gd_of (bI_01 _), show (0 : Int32).toNatClampNeg = 0 from rfl, h.H]
  have e : (nI S.H - 1).toInt64.toInt = (S.H : Int) - 1 := by
    rw [Int32.toInt_toInt64, ← iI_nat, show (1 : Int32) = iI 1 from rfl, iI_sub, iI_toInt (by omega) (by omega)]
  rw [e]
  congr 2
  unfold inb hasI
  congr 1
  exact decide_eq_decide.mpr (by omega)
theorem RC.isOneF (h : RC L (m + 1) S) (hW : WF S) (v : Int32) : fX7_isOne m v L = some (bI (oneI S v)) := by
  have h6 := hW.P6
  unfold fX7_isOne
  rw [inF, bd_some, gd_of (bI_01 _), show (1 : Int32).toNatClampNeg = 1 from rfl, h.P]
  have e : (nI S.P - 1).toInt64.toInt = (S.P : Int) - 1 := by
    rw [Int32.toInt_toInt64, ← iI_nat, show (1 : Int32) = iI 1 from rfl, iI_sub, iI_toInt (by omega) (by omega)]
  rw [e]
  congr 2
  unfold inb oneI
  congr 1
  exact decide_eq_decide.mpr (by omega)
end INS
theorem isFamilyF (v : Int32) : fX7_isFamily v = some (bI (inb v 0 3)) := by
  unfold fX7_isFamily
  rw [inF, bd_some, gd_of (bI_01 _)]; rfl
theorem isTwoF (v : Int32) : fX7_isTwo v = some (bI (inb v 0 1)) := by
  unfold fX7_isTwo
  rw [inF, bd_some, gd_of (bI_01 _)]; rfl
