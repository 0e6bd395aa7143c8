/-! ===== every instruction ===== -/
section ALL
variable {ms : Int32} {mn S : Nat} {g rg hq mf : Nat → Int32} {cd : Int32} {fg : Nat → Int32} {dd bm rr kt : Nat → Int32} {w : Int32}
theorem op_64 (w : Int32) : ∃ j : Nat, j < 64 ∧ zz_ushr w 26 = nI j := by
  refine ⟨w.toBitVec.toNat / 2 ^ 26, ?_, ?_⟩
  · have := w.toBitVec.isLt
    omega
  · apply Int32.toBitVec_inj.mp
    apply BitVec.eq_of_toNat_eq
    have h := w.toBitVec.isLt
    unfold zz_ushr
    rw [pk_ushr w 26 26 (by decide), pk_tn (by omega)]
theorem fn_64 (w : Int32) : ∃ j : Nat, j < 64 ∧ w &&& 63 = nI j := pk_andE w 6 (by decide)

theorem all_sp (H : pre mn g rg hq mf cd fg w dd bm rr kt) (ho : zz_ushr w 26 = 0) : pfx ms mn g rg hq mf cd fg w dd bm rr kt := by
  obtain ⟨j, hj, hf⟩ := fn_64 w
  by_cases e0 : j = 0
  · subst e0; exact i_sll H ho hf
  by_cases e1 : j = 1
  · subst e1; exact i_movci H ho hf
  by_cases e2 : j = 2
  · subst e2; exact i_srl H ho hf
  by_cases e3 : j = 3
  · subst e3; exact i_sra H ho hf
  by_cases e4 : j = 4
  · subst e4; exact i_sllv H ho hf
  by_cases e5 : j = 5
  · subst e5; exact i_s5 H ho hf
  by_cases e6 : j = 6
  · subst e6; exact i_srlv H ho hf
  by_cases e7 : j = 7
  · subst e7; exact i_srav H ho hf
  by_cases e8 : j = 8
  · subst e8; exact i_jr H ho hf
  by_cases e9 : j = 9
  · subst e9; exact i_jalr H ho hf
  by_cases e10 : j = 10
  · subst e10; exact i_movz H ho hf
  by_cases e11 : j = 11
  · subst e11; exact i_movn H ho hf
  by_cases e12 : j = 12
  · subst e12; exact i_syscall H ho hf
  by_cases e13 : j = 13
  · subst e13; exact i_break H ho hf
  by_cases e14 : j = 14
  · subst e14; exact i_s14 H ho hf
  by_cases e15 : j = 15
  · subst e15; exact i_sync H ho hf
  by_cases e16 : j = 16
  · subst e16; exact i_mfhi H ho hf
  by_cases e17 : j = 17
  · subst e17; exact i_mthi H ho hf
  by_cases e18 : j = 18
  · subst e18; exact i_mflo H ho hf
  by_cases e19 : j = 19
  · subst e19; exact i_mtlo H ho hf
  by_cases e20 : j = 20
  · subst e20; exact i_s20 H ho hf
  by_cases e21 : j = 21
  · subst e21; exact i_s21 H ho hf
  by_cases e22 : j = 22
  · subst e22; exact i_s22 H ho hf
  by_cases e23 : j = 23
  · subst e23; exact i_s23 H ho hf
  by_cases e24 : j = 24
  · subst e24; exact i_mult H ho hf
  by_cases e25 : j = 25
  · subst e25; exact i_multu H ho hf
  by_cases e26 : j = 26
  · subst e26; exact i_div H ho hf
  by_cases e27 : j = 27
  · subst e27; exact i_divu H ho hf
  by_cases e28 : j = 28
  · subst e28; exact i_s28 H ho hf
  by_cases e29 : j = 29
  · subst e29; exact i_s29 H ho hf
  by_cases e30 : j = 30
  · subst e30; exact i_s30 H ho hf
  by_cases e31 : j = 31
  · subst e31; exact i_s31 H ho hf
  by_cases e32 : j = 32
  · subst e32; exact i_add H ho hf
  by_cases e33 : j = 33
  · subst e33; exact i_addu H ho hf
  by_cases e34 : j = 34
  · subst e34; exact i_sub H ho hf
  by_cases e35 : j = 35
  · subst e35; exact i_subu H ho hf
  by_cases e36 : j = 36
  · subst e36; exact i_and H ho hf
  by_cases e37 : j = 37
  · subst e37; exact i_or H ho hf
  by_cases e38 : j = 38
  · subst e38; exact i_xor H ho hf
  by_cases e39 : j = 39
  · subst e39; exact i_nor H ho hf
  by_cases e40 : j = 40
  · subst e40; exact i_s40 H ho hf
  by_cases e41 : j = 41
  · subst e41; exact i_s41 H ho hf
  by_cases e42 : j = 42
  · subst e42; exact i_slt H ho hf
  by_cases e43 : j = 43
  · subst e43; exact i_sltu H ho hf
  by_cases e44 : j = 44
  · subst e44; exact i_s44 H ho hf
  by_cases e45 : j = 45
  · subst e45; exact i_s45 H ho hf
  by_cases e46 : j = 46
  · subst e46; exact i_s46 H ho hf
  by_cases e47 : j = 47
  · subst e47; exact i_s47 H ho hf
  by_cases e48 : j = 48
  · subst e48; exact i_t0 H ho hf
  by_cases e49 : j = 49
  · subst e49; exact i_t1 H ho hf
  by_cases e50 : j = 50
  · subst e50; exact i_t2 H ho hf
  by_cases e51 : j = 51
  · subst e51; exact i_t3 H ho hf
  by_cases e52 : j = 52
  · subst e52; exact i_t4 H ho hf
  by_cases e53 : j = 53
  · subst e53; exact i_s53 H ho hf
  by_cases e54 : j = 54
  · subst e54; exact i_t6 H ho hf
  by_cases e55 : j = 55
  · subst e55; exact i_s55 H ho hf
  by_cases e56 : j = 56
  · subst e56; exact i_s56 H ho hf
  by_cases e57 : j = 57
  · subst e57; exact i_s57 H ho hf
  by_cases e58 : j = 58
  · subst e58; exact i_s58 H ho hf
  by_cases e59 : j = 59
  · subst e59; exact i_s59 H ho hf
  by_cases e60 : j = 60
  · subst e60; exact i_s60 H ho hf
  by_cases e61 : j = 61
  · subst e61; exact i_s61 H ho hf
  by_cases e62 : j = 62
  · subst e62; exact i_s62 H ho hf
  by_cases e63 : j = 63
  · subst e63; exact i_s63 H ho hf
  omega

theorem all_ri (H : pre mn g rg hq mf cd fg w dd bm rr kt) (ho : zz_ushr w 26 = 1) : pfx ms mn g rg hq mf cd fg w dd bm rr kt := by
  obtain ⟨j, hj, hr⟩ := fI_n w 16
  by_cases e0 : j = 0
  · subst e0; exact i_r0 H ho hr
  by_cases e1 : j = 1
  · subst e1; exact i_r1 H ho hr
  by_cases e2 : j = 2
  · subst e2; exact i_r2 H ho hr
  by_cases e3 : j = 3
  · subst e3; exact i_r3 H ho hr
  by_cases e4 : j = 4
  · subst e4; exact i_r4 H ho hr
  by_cases e5 : j = 5
  · subst e5; exact i_r5 H ho hr
  by_cases e6 : j = 6
  · subst e6; exact i_r6 H ho hr
  by_cases e7 : j = 7
  · subst e7; exact i_r7 H ho hr
  by_cases e8 : j = 8
  · subst e8; exact i_ti0 H ho hr
  by_cases e9 : j = 9
  · subst e9; exact i_ti1 H ho hr
  by_cases e10 : j = 10
  · subst e10; exact i_ti2 H ho hr
  by_cases e11 : j = 11
  · subst e11; exact i_ti3 H ho hr
  by_cases e12 : j = 12
  · subst e12; exact i_ti4 H ho hr
  by_cases e13 : j = 13
  · subst e13; exact i_r13 H ho hr
  by_cases e14 : j = 14
  · subst e14; exact i_ti6 H ho hr
  by_cases e15 : j = 15
  · subst e15; exact i_r15 H ho hr
  by_cases e16 : j = 16
  · subst e16; exact i_r16 H ho hr
  by_cases e17 : j = 17
  · subst e17; exact i_r17 H ho hr
  by_cases e18 : j = 18
  · subst e18; exact i_r18 H ho hr
  by_cases e19 : j = 19
  · subst e19; exact i_r19 H ho hr
  by_cases e20 : j = 20
  · subst e20; exact i_r20 H ho hr
  by_cases e21 : j = 21
  · subst e21; exact i_r21 H ho hr
  by_cases e22 : j = 22
  · subst e22; exact i_r22 H ho hr
  by_cases e23 : j = 23
  · subst e23; exact i_r23 H ho hr
  by_cases e24 : j = 24
  · subst e24; exact i_r24 H ho hr
  by_cases e25 : j = 25
  · subst e25; exact i_r25 H ho hr
  by_cases e26 : j = 26
  · subst e26; exact i_r26 H ho hr
  by_cases e27 : j = 27
  · subst e27; exact i_r27 H ho hr
  by_cases e28 : j = 28
  · subst e28; exact i_r28 H ho hr
  by_cases e29 : j = 29
  · subst e29; exact i_r29 H ho hr
  by_cases e30 : j = 30
  · subst e30; exact i_r30 H ho hr
  by_cases e31 : j = 31
  · subst e31; exact i_r31 H ho hr
  omega

theorem all_s2 (H : pre mn g rg hq mf cd fg w dd bm rr kt) (ho : zz_ushr w 26 = 28) : pfx ms mn g rg hq mf cd fg w dd bm rr kt := by
  obtain ⟨j, hj, hf⟩ := fn_64 w
  by_cases e0 : j = 0
  · subst e0; exact i_madd H ho hf
  by_cases e1 : j = 1
  · subst e1; exact i_maddu H ho hf
  by_cases e2 : j = 2
  · subst e2; exact i_mul H ho hf
  by_cases e3 : j = 3
  · subst e3; exact i_z3 H ho hf
  by_cases e4 : j = 4
  · subst e4; exact i_msub H ho hf
  by_cases e5 : j = 5
  · subst e5; exact i_msubu H ho hf
  by_cases e6 : j = 6
  · subst e6; exact i_z6 H ho hf
  by_cases e7 : j = 7
  · subst e7; exact i_z7 H ho hf
  by_cases e8 : j = 8
  · subst e8; exact i_z8 H ho hf
  by_cases e9 : j = 9
  · subst e9; exact i_z9 H ho hf
  by_cases e10 : j = 10
  · subst e10; exact i_z10 H ho hf
  by_cases e11 : j = 11
  · subst e11; exact i_z11 H ho hf
  by_cases e12 : j = 12
  · subst e12; exact i_z12 H ho hf
  by_cases e13 : j = 13
  · subst e13; exact i_z13 H ho hf
  by_cases e14 : j = 14
  · subst e14; exact i_z14 H ho hf
  by_cases e15 : j = 15
  · subst e15; exact i_z15 H ho hf
  by_cases e16 : j = 16
  · subst e16; exact i_z16 H ho hf
  by_cases e17 : j = 17
  · subst e17; exact i_z17 H ho hf
  by_cases e18 : j = 18
  · subst e18; exact i_z18 H ho hf
  by_cases e19 : j = 19
  · subst e19; exact i_z19 H ho hf
  by_cases e20 : j = 20
  · subst e20; exact i_z20 H ho hf
  by_cases e21 : j = 21
  · subst e21; exact i_z21 H ho hf
  by_cases e22 : j = 22
  · subst e22; exact i_z22 H ho hf
  by_cases e23 : j = 23
  · subst e23; exact i_z23 H ho hf
  by_cases e24 : j = 24
  · subst e24; exact i_z24 H ho hf
  by_cases e25 : j = 25
  · subst e25; exact i_z25 H ho hf
  by_cases e26 : j = 26
  · subst e26; exact i_z26 H ho hf
  by_cases e27 : j = 27
  · subst e27; exact i_z27 H ho hf
  by_cases e28 : j = 28
  · subst e28; exact i_z28 H ho hf
  by_cases e29 : j = 29
  · subst e29; exact i_z29 H ho hf
  by_cases e30 : j = 30
  · subst e30; exact i_z30 H ho hf
  by_cases e31 : j = 31
  · subst e31; exact i_z31 H ho hf
  by_cases e32 : j = 32
  · subst e32; exact i_clz H ho hf
  by_cases e33 : j = 33
  · subst e33; exact i_clo H ho hf
  by_cases e34 : j = 34
  · subst e34; exact i_z34 H ho hf
  by_cases e35 : j = 35
  · subst e35; exact i_z35 H ho hf
  by_cases e36 : j = 36
  · subst e36; exact i_z36 H ho hf
  by_cases e37 : j = 37
  · subst e37; exact i_z37 H ho hf
  by_cases e38 : j = 38
  · subst e38; exact i_z38 H ho hf
  by_cases e39 : j = 39
  · subst e39; exact i_z39 H ho hf
  by_cases e40 : j = 40
  · subst e40; exact i_z40 H ho hf
  by_cases e41 : j = 41
  · subst e41; exact i_z41 H ho hf
  by_cases e42 : j = 42
  · subst e42; exact i_z42 H ho hf
  by_cases e43 : j = 43
  · subst e43; exact i_z43 H ho hf
  by_cases e44 : j = 44
  · subst e44; exact i_z44 H ho hf
  by_cases e45 : j = 45
  · subst e45; exact i_z45 H ho hf
  by_cases e46 : j = 46
  · subst e46; exact i_z46 H ho hf
  by_cases e47 : j = 47
  · subst e47; exact i_z47 H ho hf
  by_cases e48 : j = 48
  · subst e48; exact i_z48 H ho hf
  by_cases e49 : j = 49
  · subst e49; exact i_z49 H ho hf
  by_cases e50 : j = 50
  · subst e50; exact i_z50 H ho hf
  by_cases e51 : j = 51
  · subst e51; exact i_z51 H ho hf
  by_cases e52 : j = 52
  · subst e52; exact i_z52 H ho hf
  by_cases e53 : j = 53
  · subst e53; exact i_z53 H ho hf
  by_cases e54 : j = 54
  · subst e54; exact i_z54 H ho hf
  by_cases e55 : j = 55
  · subst e55; exact i_z55 H ho hf
  by_cases e56 : j = 56
  · subst e56; exact i_z56 H ho hf
  by_cases e57 : j = 57
  · subst e57; exact i_z57 H ho hf
  by_cases e58 : j = 58
  · subst e58; exact i_z58 H ho hf
  by_cases e59 : j = 59
  · subst e59; exact i_z59 H ho hf
  by_cases e60 : j = 60
  · subst e60; exact i_z60 H ho hf
  by_cases e61 : j = 61
  · subst e61; exact i_z61 H ho hf
  by_cases e62 : j = 62
  · subst e62; exact i_z62 H ho hf
  by_cases e63 : j = 63
  · subst e63; exact i_z63 H ho hf
  omega

theorem all_f16 (H : pre mn g rg hq mf cd fg w dd bm rr kt) (ho : zz_ushr w 26 = 17) (hr : fI w 21 = 16) : pfx ms mn g rg hq mf cd fg w dd bm rr kt := by
  obtain ⟨j, hj, hf⟩ := fn_64 w
  by_cases e0 : j = 0
  · subst e0; exact i_addf_s H ho hr hf
  by_cases e1 : j = 1
  · subst e1; exact i_subf_s H ho hr hf
  by_cases e2 : j = 2
  · subst e2; exact i_mulf_s H ho hr hf
  by_cases e3 : j = 3
  · subst e3; exact i_divf_s H ho hr hf
  by_cases e4 : j = 4
  · subst e4; exact i_sqrtf_s H ho hr hf
  by_cases e5 : j = 5
  · subst e5; exact i_absf_s H ho hr hf
  by_cases e6 : j = 6
  · subst e6; exact i_movf_s H ho hr hf
  by_cases e7 : j = 7
  · subst e7; exact i_negf_s H ho hr hf
  by_cases e8 : j = 8
  · subst e8; exact i_x8_s H ho hr hf
  by_cases e9 : j = 9
  · subst e9; exact i_x9_s H ho hr hf
  by_cases e10 : j = 10
  · subst e10; exact i_x10_s H ho hr hf
  by_cases e11 : j = 11
  · subst e11; exact i_x11_s H ho hr hf
  by_cases e12 : j = 12
  · subst e12; exact i_w12_s H ho hr hf
  by_cases e13 : j = 13
  · subst e13; exact i_w13_s H ho hr hf
  by_cases e14 : j = 14
  · subst e14; exact i_w14_s H ho hr hf
  by_cases e15 : j = 15
  · subst e15; exact i_w15_s H ho hr hf
  by_cases e16 : j = 16
  · subst e16; exact i_x16_s H ho hr hf
  by_cases e17 : j = 17
  · subst e17; exact i_movcf_s H ho hr hf
  by_cases e18 : j = 18
  · subst e18; exact i_movzf_s H ho hr hf
  by_cases e19 : j = 19
  · subst e19; exact i_movnf_s H ho hr hf
  by_cases e20 : j = 20
  · subst e20; exact i_x20_s H ho hr hf
  by_cases e21 : j = 21
  · subst e21; exact i_x21_s H ho hr hf
  by_cases e22 : j = 22
  · subst e22; exact i_x22_s H ho hr hf
  by_cases e23 : j = 23
  · subst e23; exact i_x23_s H ho hr hf
  by_cases e24 : j = 24
  · subst e24; exact i_x24_s H ho hr hf
  by_cases e25 : j = 25
  · subst e25; exact i_x25_s H ho hr hf
  by_cases e26 : j = 26
  · subst e26; exact i_x26_s H ho hr hf
  by_cases e27 : j = 27
  · subst e27; exact i_x27_s H ho hr hf
  by_cases e28 : j = 28
  · subst e28; exact i_x28_s H ho hr hf
  by_cases e29 : j = 29
  · subst e29; exact i_x29_s H ho hr hf
  by_cases e30 : j = 30
  · subst e30; exact i_x30_s H ho hr hf
  by_cases e31 : j = 31
  · subst e31; exact i_x31_s H ho hr hf
  by_cases e32 : j = 32
  · subst e32; exact i_x32_s H ho hr hf
  by_cases e33 : j = 33
  · subst e33; exact i_cvtd_s H ho hr hf
  by_cases e34 : j = 34
  · subst e34; exact i_x34_s H ho hr hf
  by_cases e35 : j = 35
  · subst e35; exact i_x35_s H ho hr hf
  by_cases e36 : j = 36
  · subst e36; exact i_w36_s H ho hr hf
  by_cases e37 : j = 37
  · subst e37; exact i_x37_s H ho hr hf
  by_cases e38 : j = 38
  · subst e38; exact i_x38_s H ho hr hf
  by_cases e39 : j = 39
  · subst e39; exact i_x39_s H ho hr hf
  by_cases e40 : j = 40
  · subst e40; exact i_x40_s H ho hr hf
  by_cases e41 : j = 41
  · subst e41; exact i_x41_s H ho hr hf
  by_cases e42 : j = 42
  · subst e42; exact i_x42_s H ho hr hf
  by_cases e43 : j = 43
  · subst e43; exact i_x43_s H ho hr hf
  by_cases e44 : j = 44
  · subst e44; exact i_x44_s H ho hr hf
  by_cases e45 : j = 45
  · subst e45; exact i_x45_s H ho hr hf
  by_cases e46 : j = 46
  · subst e46; exact i_x46_s H ho hr hf
  by_cases e47 : j = 47
  · subst e47; exact i_x47_s H ho hr hf
  by_cases e48 : j = 48
  · subst e48; exact i_c48_s H ho hr hf
  by_cases e49 : j = 49
  · subst e49; exact i_c49_s H ho hr hf
  by_cases e50 : j = 50
  · subst e50; exact i_c50_s H ho hr hf
  by_cases e51 : j = 51
  · subst e51; exact i_c51_s H ho hr hf
  by_cases e52 : j = 52
  · subst e52; exact i_c52_s H ho hr hf
  by_cases e53 : j = 53
  · subst e53; exact i_c53_s H ho hr hf
  by_cases e54 : j = 54
  · subst e54; exact i_c54_s H ho hr hf
  by_cases e55 : j = 55
  · subst e55; exact i_c55_s H ho hr hf
  by_cases e56 : j = 56
  · subst e56; exact i_c56_s H ho hr hf
  by_cases e57 : j = 57
  · subst e57; exact i_c57_s H ho hr hf
  by_cases e58 : j = 58
  · subst e58; exact i_c58_s H ho hr hf
  by_cases e59 : j = 59
  · subst e59; exact i_c59_s H ho hr hf
  by_cases e60 : j = 60
  · subst e60; exact i_c60_s H ho hr hf
  by_cases e61 : j = 61
  · subst e61; exact i_c61_s H ho hr hf
  by_cases e62 : j = 62
  · subst e62; exact i_c62_s H ho hr hf
  by_cases e63 : j = 63
  · subst e63; exact i_c63_s H ho hr hf
  omega

theorem all_f17 (H : pre mn g rg hq mf cd fg w dd bm rr kt) (ho : zz_ushr w 26 = 17) (hr : fI w 21 = 17) : pfx ms mn g rg hq mf cd fg w dd bm rr kt := by
  obtain ⟨j, hj, hf⟩ := fn_64 w
  by_cases e0 : j = 0
  · subst e0; exact i_addf_d H ho hr hf
  by_cases e1 : j = 1
  · subst e1; exact i_subf_d H ho hr hf
  by_cases e2 : j = 2
  · subst e2; exact i_mulf_d H ho hr hf
  by_cases e3 : j = 3
  · subst e3; exact i_divf_d H ho hr hf
  by_cases e4 : j = 4
  · subst e4; exact i_sqrtf_d H ho hr hf
  by_cases e5 : j = 5
  · subst e5; exact i_absf_d H ho hr hf
  by_cases e6 : j = 6
  · subst e6; exact i_movf_d H ho hr hf
  by_cases e7 : j = 7
  · subst e7; exact i_negf_d H ho hr hf
  by_cases e8 : j = 8
  · subst e8; exact i_x8_d H ho hr hf
  by_cases e9 : j = 9
  · subst e9; exact i_x9_d H ho hr hf
  by_cases e10 : j = 10
  · subst e10; exact i_x10_d H ho hr hf
  by_cases e11 : j = 11
  · subst e11; exact i_x11_d H ho hr hf
  by_cases e12 : j = 12
  · subst e12; exact i_w12_d H ho hr hf
  by_cases e13 : j = 13
  · subst e13; exact i_w13_d H ho hr hf
  by_cases e14 : j = 14
  · subst e14; exact i_w14_d H ho hr hf
  by_cases e15 : j = 15
  · subst e15; exact i_w15_d H ho hr hf
  by_cases e16 : j = 16
  · subst e16; exact i_x16_d H ho hr hf
  by_cases e17 : j = 17
  · subst e17; exact i_movcf_d H ho hr hf
  by_cases e18 : j = 18
  · subst e18; exact i_movzf_d H ho hr hf
  by_cases e19 : j = 19
  · subst e19; exact i_movnf_d H ho hr hf
  by_cases e20 : j = 20
  · subst e20; exact i_x20_d H ho hr hf
  by_cases e21 : j = 21
  · subst e21; exact i_x21_d H ho hr hf
  by_cases e22 : j = 22
  · subst e22; exact i_x22_d H ho hr hf
  by_cases e23 : j = 23
  · subst e23; exact i_x23_d H ho hr hf
  by_cases e24 : j = 24
  · subst e24; exact i_x24_d H ho hr hf
  by_cases e25 : j = 25
  · subst e25; exact i_x25_d H ho hr hf
  by_cases e26 : j = 26
  · subst e26; exact i_x26_d H ho hr hf
  by_cases e27 : j = 27
  · subst e27; exact i_x27_d H ho hr hf
  by_cases e28 : j = 28
  · subst e28; exact i_x28_d H ho hr hf
  by_cases e29 : j = 29
  · subst e29; exact i_x29_d H ho hr hf
  by_cases e30 : j = 30
  · subst e30; exact i_x30_d H ho hr hf
  by_cases e31 : j = 31
  · subst e31; exact i_x31_d H ho hr hf
  by_cases e32 : j = 32
  · subst e32; exact i_cvts_d H ho hr hf
  by_cases e33 : j = 33
  · subst e33; exact i_x33_d H ho hr hf
  by_cases e34 : j = 34
  · subst e34; exact i_x34_d H ho hr hf
  by_cases e35 : j = 35
  · subst e35; exact i_x35_d H ho hr hf
  by_cases e36 : j = 36
  · subst e36; exact i_w36_d H ho hr hf
  by_cases e37 : j = 37
  · subst e37; exact i_x37_d H ho hr hf
  by_cases e38 : j = 38
  · subst e38; exact i_x38_d H ho hr hf
  by_cases e39 : j = 39
  · subst e39; exact i_x39_d H ho hr hf
  by_cases e40 : j = 40
  · subst e40; exact i_x40_d H ho hr hf
  by_cases e41 : j = 41
  · subst e41; exact i_x41_d H ho hr hf
  by_cases e42 : j = 42
  · subst e42; exact i_x42_d H ho hr hf
  by_cases e43 : j = 43
  · subst e43; exact i_x43_d H ho hr hf
  by_cases e44 : j = 44
  · subst e44; exact i_x44_d H ho hr hf
  by_cases e45 : j = 45
  · subst e45; exact i_x45_d H ho hr hf
  by_cases e46 : j = 46
  · subst e46; exact i_x46_d H ho hr hf
  by_cases e47 : j = 47
  · subst e47; exact i_x47_d H ho hr hf
  by_cases e48 : j = 48
  · subst e48; exact i_c48_d H ho hr hf
  by_cases e49 : j = 49
  · subst e49; exact i_c49_d H ho hr hf
  by_cases e50 : j = 50
  · subst e50; exact i_c50_d H ho hr hf
  by_cases e51 : j = 51
  · subst e51; exact i_c51_d H ho hr hf
  by_cases e52 : j = 52
  · subst e52; exact i_c52_d H ho hr hf
  by_cases e53 : j = 53
  · subst e53; exact i_c53_d H ho hr hf
  by_cases e54 : j = 54
  · subst e54; exact i_c54_d H ho hr hf
  by_cases e55 : j = 55
  · subst e55; exact i_c55_d H ho hr hf
  by_cases e56 : j = 56
  · subst e56; exact i_c56_d H ho hr hf
  by_cases e57 : j = 57
  · subst e57; exact i_c57_d H ho hr hf
  by_cases e58 : j = 58
  · subst e58; exact i_c58_d H ho hr hf
  by_cases e59 : j = 59
  · subst e59; exact i_c59_d H ho hr hf
  by_cases e60 : j = 60
  · subst e60; exact i_c60_d H ho hr hf
  by_cases e61 : j = 61
  · subst e61; exact i_c61_d H ho hr hf
  by_cases e62 : j = 62
  · subst e62; exact i_c62_d H ho hr hf
  by_cases e63 : j = 63
  · subst e63; exact i_c63_d H ho hr hf
  omega

theorem all_f20 (H : pre mn g rg hq mf cd fg w dd bm rr kt) (ho : zz_ushr w 26 = 17) (hr : fI w 21 = 20) : pfx ms mn g rg hq mf cd fg w dd bm rr kt := by
  obtain ⟨j, hj, hf⟩ := fn_64 w
  by_cases e0 : j = 0
  · subst e0; exact i_y0 H ho hr hf
  by_cases e1 : j = 1
  · subst e1; exact i_y1 H ho hr hf
  by_cases e2 : j = 2
  · subst e2; exact i_y2 H ho hr hf
  by_cases e3 : j = 3
  · subst e3; exact i_y3 H ho hr hf
  by_cases e4 : j = 4
  · subst e4; exact i_y4 H ho hr hf
  by_cases e5 : j = 5
  · subst e5; exact i_y5 H ho hr hf
  by_cases e6 : j = 6
  · subst e6; exact i_y6 H ho hr hf
  by_cases e7 : j = 7
  · subst e7; exact i_y7 H ho hr hf
  by_cases e8 : j = 8
  · subst e8; exact i_y8 H ho hr hf
  by_cases e9 : j = 9
  · subst e9; exact i_y9 H ho hr hf
  by_cases e10 : j = 10
  · subst e10; exact i_y10 H ho hr hf
  by_cases e11 : j = 11
  · subst e11; exact i_y11 H ho hr hf
  by_cases e12 : j = 12
  · subst e12; exact i_y12 H ho hr hf
  by_cases e13 : j = 13
  · subst e13; exact i_y13 H ho hr hf
  by_cases e14 : j = 14
  · subst e14; exact i_y14 H ho hr hf
  by_cases e15 : j = 15
  · subst e15; exact i_y15 H ho hr hf
  by_cases e16 : j = 16
  · subst e16; exact i_y16 H ho hr hf
  by_cases e17 : j = 17
  · subst e17; exact i_y17 H ho hr hf
  by_cases e18 : j = 18
  · subst e18; exact i_y18 H ho hr hf
  by_cases e19 : j = 19
  · subst e19; exact i_y19 H ho hr hf
  by_cases e20 : j = 20
  · subst e20; exact i_y20 H ho hr hf
  by_cases e21 : j = 21
  · subst e21; exact i_y21 H ho hr hf
  by_cases e22 : j = 22
  · subst e22; exact i_y22 H ho hr hf
  by_cases e23 : j = 23
  · subst e23; exact i_y23 H ho hr hf
  by_cases e24 : j = 24
  · subst e24; exact i_y24 H ho hr hf
  by_cases e25 : j = 25
  · subst e25; exact i_y25 H ho hr hf
  by_cases e26 : j = 26
  · subst e26; exact i_y26 H ho hr hf
  by_cases e27 : j = 27
  · subst e27; exact i_y27 H ho hr hf
  by_cases e28 : j = 28
  · subst e28; exact i_y28 H ho hr hf
  by_cases e29 : j = 29
  · subst e29; exact i_y29 H ho hr hf
  by_cases e30 : j = 30
  · subst e30; exact i_y30 H ho hr hf
  by_cases e31 : j = 31
  · subst e31; exact i_y31 H ho hr hf
  by_cases e32 : j = 32
  · subst e32; exact i_cvts_w H ho hr hf
  by_cases e33 : j = 33
  · subst e33; exact i_cvtd_w H ho hr hf
  by_cases e34 : j = 34
  · subst e34; exact i_y34 H ho hr hf
  by_cases e35 : j = 35
  · subst e35; exact i_y35 H ho hr hf
  by_cases e36 : j = 36
  · subst e36; exact i_y36 H ho hr hf
  by_cases e37 : j = 37
  · subst e37; exact i_y37 H ho hr hf
  by_cases e38 : j = 38
  · subst e38; exact i_y38 H ho hr hf
  by_cases e39 : j = 39
  · subst e39; exact i_y39 H ho hr hf
  by_cases e40 : j = 40
  · subst e40; exact i_y40 H ho hr hf
  by_cases e41 : j = 41
  · subst e41; exact i_y41 H ho hr hf
  by_cases e42 : j = 42
  · subst e42; exact i_y42 H ho hr hf
  by_cases e43 : j = 43
  · subst e43; exact i_y43 H ho hr hf
  by_cases e44 : j = 44
  · subst e44; exact i_y44 H ho hr hf
  by_cases e45 : j = 45
  · subst e45; exact i_y45 H ho hr hf
  by_cases e46 : j = 46
  · subst e46; exact i_y46 H ho hr hf
  by_cases e47 : j = 47
  · subst e47; exact i_y47 H ho hr hf
  by_cases e48 : j = 48
  · subst e48; exact i_y48 H ho hr hf
  by_cases e49 : j = 49
  · subst e49; exact i_y49 H ho hr hf
  by_cases e50 : j = 50
  · subst e50; exact i_y50 H ho hr hf
  by_cases e51 : j = 51
  · subst e51; exact i_y51 H ho hr hf
  by_cases e52 : j = 52
  · subst e52; exact i_y52 H ho hr hf
  by_cases e53 : j = 53
  · subst e53; exact i_y53 H ho hr hf
  by_cases e54 : j = 54
  · subst e54; exact i_y54 H ho hr hf
  by_cases e55 : j = 55
  · subst e55; exact i_y55 H ho hr hf
  by_cases e56 : j = 56
  · subst e56; exact i_y56 H ho hr hf
  by_cases e57 : j = 57
  · subst e57; exact i_y57 H ho hr hf
  by_cases e58 : j = 58
  · subst e58; exact i_y58 H ho hr hf
  by_cases e59 : j = 59
  · subst e59; exact i_y59 H ho hr hf
  by_cases e60 : j = 60
  · subst e60; exact i_y60 H ho hr hf
  by_cases e61 : j = 61
  · subst e61; exact i_y61 H ho hr hf
  by_cases e62 : j = 62
  · subst e62; exact i_y62 H ho hr hf
  by_cases e63 : j = 63
  · subst e63; exact i_y63 H ho hr hf
  omega

theorem all_cp (H : pre mn g rg hq mf cd fg w dd bm rr kt) (ho : zz_ushr w 26 = 17) : pfx ms mn g rg hq mf cd fg w dd bm rr kt := by
  obtain ⟨j, hj, hr⟩ := fI_n w 21
  by_cases e0 : j = 0
  · subst e0; exact i_mfc1 H ho hr
  by_cases e1 : j = 1
  · subst e1; exact i_f1 H ho hr
  by_cases e2 : j = 2
  · subst e2; exact i_f2 H ho hr
  by_cases e3 : j = 3
  · subst e3; exact i_f3 H ho hr
  by_cases e4 : j = 4
  · subst e4; exact i_mtc1 H ho hr
  by_cases e5 : j = 5
  · subst e5; exact i_f5 H ho hr
  by_cases e6 : j = 6
  · subst e6; exact i_f6 H ho hr
  by_cases e7 : j = 7
  · subst e7; exact i_f7 H ho hr
  by_cases e8 : j = 8
  · subst e8; exact i_bc1 H ho hr
  by_cases e9 : j = 9
  · subst e9; exact i_f9 H ho hr
  by_cases e10 : j = 10
  · subst e10; exact i_f10 H ho hr
  by_cases e11 : j = 11
  · subst e11; exact i_f11 H ho hr
  by_cases e12 : j = 12
  · subst e12; exact i_f12 H ho hr
  by_cases e13 : j = 13
  · subst e13; exact i_f13 H ho hr
  by_cases e14 : j = 14
  · subst e14; exact i_f14 H ho hr
  by_cases e15 : j = 15
  · subst e15; exact i_f15 H ho hr
  by_cases e16 : j = 16
  · subst e16; exact all_f16 H ho hr
  by_cases e17 : j = 17
  · subst e17; exact all_f17 H ho hr
  by_cases e18 : j = 18
  · subst e18; exact i_f18 H ho hr
  by_cases e19 : j = 19
  · subst e19; exact i_f19 H ho hr
  by_cases e20 : j = 20
  · subst e20; exact all_f20 H ho hr
  by_cases e21 : j = 21
  · subst e21; exact i_f21 H ho hr
  by_cases e22 : j = 22
  · subst e22; exact i_f22 H ho hr
  by_cases e23 : j = 23
  · subst e23; exact i_f23 H ho hr
  by_cases e24 : j = 24
  · subst e24; exact i_f24 H ho hr
  by_cases e25 : j = 25
  · subst e25; exact i_f25 H ho hr
  by_cases e26 : j = 26
  · subst e26; exact i_f26 H ho hr
  by_cases e27 : j = 27
  · subst e27; exact i_f27 H ho hr
  by_cases e28 : j = 28
  · subst e28; exact i_f28 H ho hr
  by_cases e29 : j = 29
  · subst e29; exact i_f29 H ho hr
  by_cases e30 : j = 30
  · subst e30; exact i_f30 H ho hr
  by_cases e31 : j = 31
  · subst e31; exact i_f31 H ho hr
  omega

theorem all_op (H : pre mn g rg hq mf cd fg w dd bm rr kt) (M : mem ms mn S) : pfx ms mn g rg hq mf cd fg w dd bm rr kt := by
  obtain ⟨j, hj, ho⟩ := op_64 w
  by_cases e0 : j = 0
  · subst e0; exact all_sp H ho
  by_cases e1 : j = 1
  · subst e1; exact all_ri H ho
  by_cases e2 : j = 2
  · subst e2; exact i_j H ho
  by_cases e3 : j = 3
  · subst e3; exact i_jal H ho
  by_cases e4 : j = 4
  · subst e4; exact i_beq H ho
  by_cases e5 : j = 5
  · subst e5; exact i_bne H ho
  by_cases e6 : j = 6
  · subst e6; exact i_blez H ho
  by_cases e7 : j = 7
  · subst e7; exact i_bgtz H ho
  by_cases e8 : j = 8
  · subst e8; exact i_addi H ho
  by_cases e9 : j = 9
  · subst e9; exact i_addiu H ho
  by_cases e10 : j = 10
  · subst e10; exact i_slti H ho
  by_cases e11 : j = 11
  · subst e11; exact i_sltiu H ho
  by_cases e12 : j = 12
  · subst e12; exact i_andi H ho
  by_cases e13 : j = 13
  · subst e13; exact i_ori H ho
  by_cases e14 : j = 14
  · subst e14; exact i_xori H ho
  by_cases e15 : j = 15
  · subst e15; exact i_lui H ho
  by_cases e16 : j = 16
  · subst e16; exact i_o16 H ho
  by_cases e17 : j = 17
  · subst e17; exact all_cp H ho
  by_cases e18 : j = 18
  · subst e18; exact i_o18 H ho
  by_cases e19 : j = 19
  · subst e19; exact i_o19 H ho
  by_cases e20 : j = 20
  · subst e20; exact i_beql H ho
  by_cases e21 : j = 21
  · subst e21; exact i_bnel H ho
  by_cases e22 : j = 22
  · subst e22; exact i_blezl H ho
  by_cases e23 : j = 23
  · subst e23; exact i_bgtzl H ho
  by_cases e24 : j = 24
  · subst e24; exact i_o24 H ho
  by_cases e25 : j = 25
  · subst e25; exact i_o25 H ho
  by_cases e26 : j = 26
  · subst e26; exact i_o26 H ho
  by_cases e27 : j = 27
  · subst e27; exact i_o27 H ho
  by_cases e28 : j = 28
  · subst e28; exact all_s2 H ho
  by_cases e29 : j = 29
  · subst e29; exact i_o29 H ho
  by_cases e30 : j = 30
  · subst e30; exact i_o30 H ho
  by_cases e31 : j = 31
  · subst e31; exact i_o31 H ho
  by_cases e32 : j = 32
  · subst e32; exact i_lb H M ho
  by_cases e33 : j = 33
  · subst e33; exact i_lh H M ho
  by_cases e34 : j = 34
  · subst e34; exact i_lwl H M ho
  by_cases e35 : j = 35
  · subst e35; exact i_lw H M ho
  by_cases e36 : j = 36
  · subst e36; exact i_lbu H M ho
  by_cases e37 : j = 37
  · subst e37; exact i_lhu H M ho
  by_cases e38 : j = 38
  · subst e38; exact i_lwr H M ho
  by_cases e39 : j = 39
  · subst e39; exact i_o39 H ho
  by_cases e40 : j = 40
  · subst e40; exact i_sb H M ho
  by_cases e41 : j = 41
  · subst e41; exact i_sh H M ho
  by_cases e42 : j = 42
  · subst e42; exact i_swl H M ho
  by_cases e43 : j = 43
  · subst e43; exact i_sw H M ho
  by_cases e44 : j = 44
  · subst e44; exact i_o44 H ho
  by_cases e45 : j = 45
  · subst e45; exact i_o45 H ho
  by_cases e46 : j = 46
  · subst e46; exact i_swr H M ho
  by_cases e47 : j = 47
  · subst e47; exact i_o47 H ho
  by_cases e48 : j = 48
  · subst e48; exact i_ll H M ho
  by_cases e49 : j = 49
  · subst e49; exact i_lwc1 H M ho
  by_cases e50 : j = 50
  · subst e50; exact i_o50 H ho
  by_cases e51 : j = 51
  · subst e51; exact i_pref H ho
  by_cases e52 : j = 52
  · subst e52; exact i_o52 H ho
  by_cases e53 : j = 53
  · subst e53; exact i_ldc1 H M ho
  by_cases e54 : j = 54
  · subst e54; exact i_o54 H ho
  by_cases e55 : j = 55
  · subst e55; exact i_o55 H ho
  by_cases e56 : j = 56
  · subst e56; exact i_sc H M ho
  by_cases e57 : j = 57
  · subst e57; exact i_swc1 H M ho
  by_cases e58 : j = 58
  · subst e58; exact i_o58 H ho
  by_cases e59 : j = 59
  · subst e59; exact i_o59 H ho
  by_cases e60 : j = 60
  · subst e60; exact i_o60 H ho
  by_cases e61 : j = 61
  · subst e61; exact i_sdc1 H M ho
  by_cases e62 : j = 62
  · subst e62; exact i_o62 H ho
  by_cases e63 : j = 63
  · subst e63; exact i_o63 H ho
  omega

end ALL
