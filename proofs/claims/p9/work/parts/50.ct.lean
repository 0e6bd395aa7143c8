theorem d_Fr_init_0 : decode b_Fr_init 0 = .ok (.aload_n 0, 1) := by decide +kernel
theorem d_Fr_init_1 : decode b_Fr_init 1 = .ok (.invokespecial 1, 3) := by decide +kernel
theorem d_Fr_init_4 : decode b_Fr_init 4 = .ok (.return_, 1) := by decide +kernel
theorem d_Fu_init_0 : decode b_Fu_init 0 = .ok (.aload_n 0, 1) := by decide +kernel
theorem d_Fu_init_1 : decode b_Fu_init 1 = .ok (.invokespecial 3, 3) := by decide +kernel
theorem d_Fu_init_4 : decode b_Fu_init 4 = .ok (.aload_n 0, 1) := by decide +kernel
theorem d_Fu_init_5 : decode b_Fu_init 5 = .ok (.bipush 32, 2) := by decide +kernel
theorem d_Fu_init_7 : decode b_Fu_init 7 = .ok (.newarray .int, 2) := by decide +kernel
theorem d_Fu_init_9 : decode b_Fu_init 9 = .ok (.putfield 9, 3) := by decide +kernel
theorem d_Fu_init_12 : decode b_Fu_init 12 = .ok (.aload_n 0, 1) := by decide +kernel
theorem d_Fu_init_13 : decode b_Fu_init 13 = .ok (.new 15, 3) := by decide +kernel
theorem d_Fu_init_16 : decode b_Fu_init 16 = .ok (.dup, 1) := by decide +kernel
theorem d_Fu_init_17 : decode b_Fu_init 17 = .ok (.invokespecial 17, 3) := by decide +kernel
theorem d_Fu_init_20 : decode b_Fu_init 20 = .ok (.putfield 18, 3) := by decide +kernel
theorem d_Fu_init_23 : decode b_Fu_init 23 = .ok (.aload_n 0, 1) := by decide +kernel
theorem d_Fu_init_24 : decode b_Fu_init 24 = .ok (.new 15, 3) := by decide +kernel
theorem d_Fu_init_27 : decode b_Fu_init 27 = .ok (.dup, 1) := by decide +kernel
theorem d_Fu_init_28 : decode b_Fu_init 28 = .ok (.invokespecial 17, 3) := by decide +kernel
theorem d_Fu_init_31 : decode b_Fu_init 31 = .ok (.putfield 22, 3) := by decide +kernel
theorem d_Fu_init_34 : decode b_Fu_init 34 = .ok (.return_, 1) := by decide +kernel
theorem d_Hl_init_0 : decode b_Hl_init 0 = .ok (.aload_n 0, 1) := by decide +kernel
theorem d_Hl_init_1 : decode b_Hl_init 1 = .ok (.invokespecial 1, 3) := by decide +kernel
theorem d_Hl_init_4 : decode b_Hl_init 4 = .ok (.aload_n 0, 1) := by decide +kernel
theorem d_Hl_init_5 : decode b_Hl_init 5 = .ok (.iconst 1, 1) := by decide +kernel
theorem d_Hl_init_6 : decode b_Hl_init 6 = .ok (.putfield 7, 3) := by decide +kernel
theorem d_Hl_init_9 : decode b_Hl_init 9 = .ok (.aload_n 0, 1) := by decide +kernel
theorem d_Hl_init_10 : decode b_Hl_init 10 = .ok (.iconst 1, 1) := by decide +kernel
theorem d_Hl_init_11 : decode b_Hl_init 11 = .ok (.putfield 13, 3) := by decide +kernel
theorem d_Hl_init_14 : decode b_Hl_init 14 = .ok (.return_, 1) := by decide +kernel
theorem d_Me_init_0 : decode b_Me_init 0 = .ok (.aload_n 0, 1) := by decide +kernel
theorem d_Me_init_1 : decode b_Me_init 1 = .ok (.invokespecial 1, 3) := by decide +kernel
theorem d_Me_init_4 : decode b_Me_init 4 = .ok (.aload_n 0, 1) := by decide +kernel
theorem d_Me_init_5 : decode b_Me_init 5 = .ok (.sipush 1024, 3) := by decide +kernel
theorem d_Me_init_8 : decode b_Me_init 8 = .ok (.ldc 9, 2) := by decide +kernel
theorem d_Me_init_10 : decode b_Me_init 10 = .ok (.iload_n 1, 1) := by decide +kernel
theorem d_Me_init_11 : decode b_Me_init 11 = .ok (.invokestatic 10, 3) := by decide +kernel
theorem d_Me_init_14 : decode b_Me_init 14 = .ok (.invokestatic 16, 3) := by decide +kernel
theorem d_Me_init_17 : decode b_Me_init 17 = .ok (.bipush (-8), 2) := by decide +kernel
theorem d_Me_init_19 : decode b_Me_init 19 = .ok (.iand, 1) := by decide +kernel
theorem d_Me_init_20 : decode b_Me_init 20 = .ok (.putfield 19, 3) := by decide +kernel
theorem d_Me_init_23 : decode b_Me_init 23 = .ok (.aload_n 0, 1) := by decide +kernel
theorem d_Me_init_24 : decode b_Me_init 24 = .ok (.aload_n 0, 1) := by decide +kernel
theorem d_Me_init_25 : decode b_Me_init 25 = .ok (.getfield 19, 3) := by decide +kernel
theorem d_Me_init_28 : decode b_Me_init 28 = .ok (.iconst 4, 1) := by decide +kernel
theorem d_Me_init_29 : decode b_Me_init 29 = .ok (.idiv, 1) := by decide +kernel
theorem d_Me_init_30 : decode b_Me_init 30 = .ok (.newarray .int, 2) := by decide +kernel
theorem d_Me_init_32 : decode b_Me_init 32 = .ok (.putfield 23, 3) := by decide +kernel
theorem d_Me_init_35 : decode b_Me_init 35 = .ok (.return_, 1) := by decide +kernel
theorem d_Pr_init_0 : decode b_Pr_init 0 = .ok (.aload_n 0, 1) := by decide +kernel
theorem d_Pr_init_1 : decode b_Pr_init 1 = .ok (.invokespecial 3, 3) := by decide +kernel
theorem d_Pr_init_4 : decode b_Pr_init 4 = .ok (.aload_n 0, 1) := by decide +kernel
theorem d_Pr_init_5 : decode b_Pr_init 5 = .ok (.bipush 32, 2) := by decide +kernel
theorem d_Pr_init_7 : decode b_Pr_init 7 = .ok (.newarray .int, 2) := by decide +kernel
theorem d_Pr_init_9 : decode b_Pr_init 9 = .ok (.putfield 9, 3) := by decide +kernel
theorem d_Pr_init_12 : decode b_Pr_init 12 = .ok (.aload_n 0, 1) := by decide +kernel
theorem d_Pr_init_13 : decode b_Pr_init 13 = .ok (.new 15, 3) := by decide +kernel
theorem d_Pr_init_16 : decode b_Pr_init 16 = .ok (.dup, 1) := by decide +kernel
theorem d_Pr_init_17 : decode b_Pr_init 17 = .ok (.invokespecial 17, 3) := by decide +kernel
theorem d_Pr_init_20 : decode b_Pr_init 20 = .ok (.putfield 18, 3) := by decide +kernel
theorem d_Pr_init_23 : decode b_Pr_init 23 = .ok (.aload_n 0, 1) := by decide +kernel
theorem d_Pr_init_24 : decode b_Pr_init 24 = .ok (.new 22, 3) := by decide +kernel
theorem d_Pr_init_27 : decode b_Pr_init 27 = .ok (.dup, 1) := by decide +kernel
theorem d_Pr_init_28 : decode b_Pr_init 28 = .ok (.invokespecial 24, 3) := by decide +kernel
theorem d_Pr_init_31 : decode b_Pr_init 31 = .ok (.putfield 25, 3) := by decide +kernel
theorem d_Pr_init_34 : decode b_Pr_init 34 = .ok (.aload_n 0, 1) := by decide +kernel
theorem d_Pr_init_35 : decode b_Pr_init 35 = .ok (.iconst 4, 1) := by decide +kernel
theorem d_Pr_init_36 : decode b_Pr_init 36 = .ok (.putfield 29, 3) := by decide +kernel
theorem d_Pr_init_39 : decode b_Pr_init 39 = .ok (.aload_n 0, 1) := by decide +kernel
theorem d_Pr_init_40 : decode b_Pr_init 40 = .ok (.aload_n 1, 1) := by decide +kernel
theorem d_Pr_init_41 : decode b_Pr_init 41 = .ok (.putfield 33, 3) := by decide +kernel
theorem d_Pr_init_44 : decode b_Pr_init 44 = .ok (.return_, 1) := by decide +kernel
theorem d_Co_init_0 : decode b_Co_init 0 = .ok (.aload_n 0, 1) := by decide +kernel
theorem d_Co_init_1 : decode b_Co_init 1 = .ok (.invokespecial 1, 3) := by decide +kernel
theorem d_Co_init_4 : decode b_Co_init 4 = .ok (.aload_n 0, 1) := by decide +kernel
theorem d_Co_init_5 : decode b_Co_init 5 = .ok (.new 7, 3) := by decide +kernel
theorem d_Co_init_8 : decode b_Co_init 8 = .ok (.dup, 1) := by decide +kernel
theorem d_Co_init_9 : decode b_Co_init 9 = .ok (.iload_n 1, 1) := by decide +kernel
theorem d_Co_init_10 : decode b_Co_init 10 = .ok (.invokespecial 9, 3) := by decide +kernel
theorem d_Co_init_13 : decode b_Co_init 13 = .ok (.putfield 12, 3) := by decide +kernel
theorem d_Co_init_16 : decode b_Co_init 16 = .ok (.aload_n 0, 1) := by decide +kernel
theorem d_Co_init_17 : decode b_Co_init 17 = .ok (.new 18, 3) := by decide +kernel
theorem d_Co_init_20 : decode b_Co_init 20 = .ok (.dup, 1) := by decide +kernel
theorem d_Co_init_21 : decode b_Co_init 21 = .ok (.aload_n 0, 1) := by decide +kernel
theorem d_Co_init_22 : decode b_Co_init 22 = .ok (.getfield 12, 3) := by decide +kernel
theorem d_Co_init_25 : decode b_Co_init 25 = .ok (.invokespecial 20, 3) := by decide +kernel
theorem d_Co_init_28 : decode b_Co_init 28 = .ok (.putfield 23, 3) := by decide +kernel
theorem d_Co_init_31 : decode b_Co_init 31 = .ok (.return_, 1) := by decide +kernel
theorem d_Md_init_0 : decode b_Md_init 0 = .ok (.aload_n 0, 1) := by decide +kernel
theorem d_Md_init_1 : decode b_Md_init 1 = .ok (.invokespecial 1, 3) := by decide +kernel
theorem d_Md_init_4 : decode b_Md_init 4 = .ok (.aload_n 0, 1) := by decide +kernel
theorem d_Md_init_5 : decode b_Md_init 5 = .ok (.ldc 7, 2) := by decide +kernel
theorem d_Md_init_7 : decode b_Md_init 7 = .ok (.newarray .byte, 2) := by decide +kernel
theorem d_Md_init_9 : decode b_Md_init 9 = .ok (.putfield 8, 3) := by decide +kernel
theorem d_Md_init_12 : decode b_Md_init 12 = .ok (.aload_n 0, 1) := by decide +kernel
theorem d_Md_init_13 : decode b_Md_init 13 = .ok (.bipush 67, 2) := by decide +kernel
theorem d_Md_init_15 : decode b_Md_init 15 = .ok (.newarray .int, 2) := by decide +kernel
theorem d_Md_init_17 : decode b_Md_init 17 = .ok (.putfield 14, 3) := by decide +kernel
theorem d_Md_init_20 : decode b_Md_init 20 = .ok (.aload_n 0, 1) := by decide +kernel
theorem d_Md_init_21 : decode b_Md_init 21 = .ok (.iconst 1, 1) := by decide +kernel
theorem d_Md_init_22 : decode b_Md_init 22 = .ok (.putfield 18, 3) := by decide +kernel
theorem d_Md_init_25 : decode b_Md_init 25 = .ok (.aload_n 0, 1) := by decide +kernel
theorem d_Md_init_26 : decode b_Md_init 26 = .ok (.iconst 1, 1) := by decide +kernel
theorem d_Md_init_27 : decode b_Md_init 27 = .ok (.putfield 22, 3) := by decide +kernel
theorem d_Md_init_30 : decode b_Md_init 30 = .ok (.aload_n 0, 1) := by decide +kernel
theorem d_Md_init_31 : decode b_Md_init 31 = .ok (.iconst 4, 1) := by decide +kernel
theorem d_Md_init_32 : decode b_Md_init 32 = .ok (.putfield 25, 3) := by decide +kernel
theorem d_Md_init_35 : decode b_Md_init 35 = .ok (.aload_n 0, 1) := by decide +kernel
theorem d_Md_init_36 : decode b_Md_init 36 = .ok (.iconst 5, 1) := by decide +kernel
theorem d_Md_init_37 : decode b_Md_init 37 = .ok (.newarray .int, 2) := by decide +kernel
theorem d_Md_init_39 : decode b_Md_init 39 = .ok (.putfield 29, 3) := by decide +kernel
theorem d_Md_init_42 : decode b_Md_init 42 = .ok (.aload_n 0, 1) := by decide +kernel
theorem d_Md_init_43 : decode b_Md_init 43 = .ok (.iload_n 1, 1) := by decide +kernel
theorem d_Md_init_44 : decode b_Md_init 44 = .ok (.sipush 1024, 3) := by decide +kernel
theorem d_Md_init_47 : decode b_Md_init 47 = .ok (.if_icmp .ge 9, 3) := by decide +kernel
theorem d_Md_init_50 : decode b_Md_init 50 = .ok (.sipush 1024, 3) := by decide +kernel
theorem d_Md_init_53 : decode b_Md_init 53 = .ok (.goto 15, 3) := by decide +kernel
theorem d_Md_init_56 : decode b_Md_init 56 = .ok (.iload_n 1, 1) := by decide +kernel
theorem d_Md_init_57 : decode b_Md_init 57 = .ok (.ldc 7, 2) := by decide +kernel
theorem d_Md_init_59 : decode b_Md_init 59 = .ok (.if_icmp .le 8, 3) := by decide +kernel
theorem d_Md_init_62 : decode b_Md_init 62 = .ok (.ldc 7, 2) := by decide +kernel
theorem d_Md_init_64 : decode b_Md_init 64 = .ok (.goto 4, 3) := by decide +kernel
theorem d_Md_init_67 : decode b_Md_init 67 = .ok (.iload_n 1, 1) := by decide +kernel
theorem d_Md_init_68 : decode b_Md_init 68 = .ok (.bipush (-8), 2) := by decide +kernel
theorem d_Md_init_70 : decode b_Md_init 70 = .ok (.iand, 1) := by decide +kernel
theorem d_Md_init_71 : decode b_Md_init 71 = .ok (.putfield 32, 3) := by decide +kernel
theorem d_Md_init_74 : decode b_Md_init 74 = .ok (.return_, 1) := by decide +kernel
theorem ja_int : Cond.arrayClass .int ∈ zz_all := zz_mem (by decide +kernel) (by decide +kernel)
theorem ja_byte : Cond.arrayClass .byte ∈ zz_all := zz_mem (by decide +kernel) (by decide +kernel)
theorem ja_long : Cond.arrayClass .long ∈ zz_all := zz_mem (by decide +kernel) (by decide +kernel)
def zz_nw (U : State) : Prop := va_Nw (.methodLinkNest R_Pr 17 y_Hl_init "DelayCore") U ∧ va_Nw (.methodLinkNest R_Pr 24 y_Fu_init "DelayCore") U ∧ va_Nw (.methodLinkNest R_Fu 17 y_Fr_init "DelayCore") U
theorem zz_nwok {s : State} (h : zz_nw s) : zz_Zok s zz_nw := ⟨fun U hW => ⟨va_Nw.warmM hW h.1, va_Nw.warmM hW h.2.1, va_Nw.warmM hW h.2.2⟩, fun U V e h => ⟨va_Nw.same rfl e h.1, va_Nw.same rfl e h.2.1, va_Nw.same rfl e h.2.2⟩⟩
/-- the memory's size: below 1,024 that, above 262,144 that, a multiple of 8 -/
def zz_size (a0 : Int32) : Int32 := ((if (1024 : Int32) < (if a0 < (262144 : Int32) then a0 else (262144 : Int32)) then (if a0 < (262144 : Int32) then a0 else (262144 : Int32)) else (1024 : Int32)) &&& (-8 : Int32))
theorem zz_t1024 : (1024 : Int32).toInt = 1024 := by decide
theorem zz_t262144 : (262144 : Int32).toInt = 262144 := by decide
theorem zz_size_lo {a0 : Int32} (h : ¬ (1024 : Int32) ≤ a0) : zz_size a0 = (1024 : Int32) &&& (-8 : Int32) := by
  have h1 : ¬ (1024 : Int32).toInt ≤ a0.toInt := fun q => h (Int32.le_iff_toInt_le.mpr q)
  have e1 : a0 < (262144 : Int32) := Int32.lt_iff_toInt_lt.mpr (by rw [zz_t1024] at h1; rw [zz_t262144]; omega)
  have e2 : ¬ (1024 : Int32) < a0 := fun q => h1 (Int.le_of_lt (Int32.lt_iff_toInt_lt.mp q))
  unfold zz_size
  rw [if_pos e1, if_neg e2]
theorem zz_size_hi {a0 : Int32} (h : ¬ a0 ≤ (262144 : Int32)) : zz_size a0 = (262144 : Int32) &&& (-8 : Int32) := by
  have e1 : ¬ a0 < (262144 : Int32) := fun q => h (Int32.le_iff_toInt_le.mpr (Int.le_of_lt (Int32.lt_iff_toInt_lt.mp q)))
  unfold zz_size
  rw [if_neg e1, if_pos (by decide)]
theorem zz_size_mid {a0 : Int32} (h : (1024 : Int32) ≤ a0) (h2 : a0 ≤ (262144 : Int32)) : zz_size a0 = a0 &&& (-8 : Int32) := by
  have h1 := Int32.le_iff_toInt_le.mp h
  have h3 := Int32.le_iff_toInt_le.mp h2
  rw [zz_t1024] at h1
  rw [zz_t262144] at h3
  unfold zz_size
  by_cases e1 : a0 < (262144 : Int32)
  · rw [if_pos e1]
    by_cases e2 : (1024 : Int32) < a0
    · rw [if_pos e2]
    · rw [if_neg e2]
      have e3 : ¬ (1024 : Int32).toInt < a0.toInt := fun q => e2 (Int32.lt_iff_toInt_lt.mpr q)
      rw [zz_t1024] at e3
      have e4 : a0 = 1024 := Int32.toInt_inj.mp (by rw [zz_t1024]; omega)
      rw [e4]
  · have e3 : ¬ a0.toInt < (262144 : Int32).toInt := fun q => e1 (Int32.lt_iff_toInt_lt.mpr q)
    rw [zz_t262144] at e3
    have e4 : a0 = 262144 := Int32.toInt_inj.mp (by rw [zz_t262144]; omega)
    rw [if_neg e1, if_pos (by decide), e4]

theorem k_Fr_1 : Cond.methodLink R_Fr 1 objectInit ∈ zz_all := zz_mem (List.mem_of_getElem? (i := 200) (by decide +kernel)) (by decide +kernel)
theorem jo_i : Cond.instanceMethod objectInit ∈ zz_all := zz_mem (List.mem_of_getElem? (i := 133) (by decide +kernel)) (by decide +kernel)
theorem jo_c : Cond.code objectInit ⟨#[0xb1]⟩ 1 none ∈ zz_all := zz_mem (List.mem_of_getElem? (i := 134) (by decide +kernel)) (by decide +kernel)
theorem k_Hl_1 : Cond.methodLink R_Hl 1 objectInit ∈ zz_all := zz_mem (List.mem_of_getElem? (i := 167) (by decide +kernel)) (by decide +kernel)
theorem k_Fu_3 : Cond.methodLink R_Fu 3 objectInit ∈ zz_all := zz_mem (List.mem_of_getElem? (i := 194) (by decide +kernel)) (by decide +kernel)
theorem l_Fu_15 : Cond.classLink R_Fu 15 R_Fr ∈ zz_all := zz_mem (List.mem_of_getElem? (i := 195) (by decide +kernel)) (by decide +kernel)
theorem li_Fr : Cond.instantiable R_Fr 4 ∈ zz_all := zz_mem (List.mem_of_getElem? (i := 196) (by decide +kernel)) (by decide +kernel)
theorem lz_Fr : Cond.initialized R_Fr ∈ zz_all := zz_mem (List.mem_of_getElem? (i := 117) (by decide +kernel)) (by decide +kernel)
theorem m_Fr_init : zz_Mc y_Fr_init b_Fr_init 1 0 := ⟨(zz_mem (List.mem_of_getElem? (i := 198) (by decide +kernel)) (by decide +kernel)), (zz_mem (List.mem_of_getElem? (i := 117) (by decide +kernel)) (by decide +kernel)), (zz_mem (List.mem_of_getElem? (i := 199) (by decide +kernel)) (by decide +kernel)), rfl, by decide +kernel, by decide +kernel, by decide +kernel⟩
theorem k_Pr_3 : Cond.methodLink R_Pr 3 objectInit ∈ zz_all := zz_mem (List.mem_of_getElem? (i := 161) (by decide +kernel)) (by decide +kernel)
theorem l_Pr_15 : Cond.classLink R_Pr 15 R_Hl ∈ zz_all := zz_mem (List.mem_of_getElem? (i := 162) (by decide +kernel)) (by decide +kernel)
theorem li_Hl : Cond.instantiable R_Hl 4 ∈ zz_all := zz_mem (List.mem_of_getElem? (i := 163) (by decide +kernel)) (by decide +kernel)
theorem lz_Hl : Cond.initialized R_Hl ∈ zz_all := zz_mem (List.mem_of_getElem? (i := 115) (by decide +kernel)) (by decide +kernel)
theorem m_Hl_init : zz_Mc y_Hl_init b_Hl_init 1 0 := ⟨(zz_mem (List.mem_of_getElem? (i := 165) (by decide +kernel)) (by decide +kernel)), (zz_mem (List.mem_of_getElem? (i := 115) (by decide +kernel)) (by decide +kernel)), (zz_mem (List.mem_of_getElem? (i := 166) (by decide +kernel)) (by decide +kernel)), rfl, by decide +kernel, by decide +kernel, by decide +kernel⟩
theorem l_Pr_22 : Cond.classLink R_Pr 22 R_Fu ∈ zz_all := zz_mem (List.mem_of_getElem? (i := 189) (by decide +kernel)) (by decide +kernel)
theorem li_Fu : Cond.instantiable R_Fu 4 ∈ zz_all := zz_mem (List.mem_of_getElem? (i := 190) (by decide +kernel)) (by decide +kernel)
theorem lz_Fu : Cond.initialized R_Fu ∈ zz_all := zz_mem (List.mem_of_getElem? (i := 116) (by decide +kernel)) (by decide +kernel)
theorem m_Fu_init : zz_Mc y_Fu_init b_Fu_init 1 0 := ⟨(zz_mem (List.mem_of_getElem? (i := 192) (by decide +kernel)) (by decide +kernel)), (zz_mem (List.mem_of_getElem? (i := 116) (by decide +kernel)) (by decide +kernel)), (zz_mem (List.mem_of_getElem? (i := 193) (by decide +kernel)) (by decide +kernel)), rfl, by decide +kernel, by decide +kernel, by decide +kernel⟩
theorem k_Me_1 : Cond.methodLink R_Me 1 objectInit ∈ zz_all := zz_mem (List.mem_of_getElem? (i := 140) (by decide +kernel)) (by decide +kernel)
theorem k_Co_1 : Cond.methodLink R_Co 1 objectInit ∈ zz_all := zz_mem (List.mem_of_getElem? (i := 132) (by decide +kernel)) (by decide +kernel)
theorem l_Co_7 : Cond.classLink R_Co 7 R_Me ∈ zz_all := zz_mem (List.mem_of_getElem? (i := 135) (by decide +kernel)) (by decide +kernel)
theorem li_Me : Cond.instantiable R_Me 2 ∈ zz_all := zz_mem (List.mem_of_getElem? (i := 136) (by decide +kernel)) (by decide +kernel)
theorem lz_Me : Cond.initialized R_Me ∈ zz_all := zz_mem (List.mem_of_getElem? (i := 112) (by decide +kernel)) (by decide +kernel)
theorem m_Me_init : zz_Mc y_Me_init b_Me_init 2 1 := ⟨(zz_mem (List.mem_of_getElem? (i := 138) (by decide +kernel)) (by decide +kernel)), (zz_mem (List.mem_of_getElem? (i := 112) (by decide +kernel)) (by decide +kernel)), (zz_mem (List.mem_of_getElem? (i := 139) (by decide +kernel)) (by decide +kernel)), rfl, by decide +kernel, by decide +kernel, by decide +kernel⟩
theorem l_Co_18 : Cond.classLink R_Co 18 R_Pr ∈ zz_all := zz_mem (List.mem_of_getElem? (i := 156) (by decide +kernel)) (by decide +kernel)
theorem li_Pr : Cond.instantiable R_Pr 16 ∈ zz_all := zz_mem (List.mem_of_getElem? (i := 157) (by decide +kernel)) (by decide +kernel)
theorem lz_Pr : Cond.initialized R_Pr ∈ zz_all := zz_mem (List.mem_of_getElem? (i := 114) (by decide +kernel)) (by decide +kernel)
theorem m_Pr_init : zz_Mc y_Pr_init b_Pr_init 2 1 := ⟨(zz_mem (List.mem_of_getElem? (i := 159) (by decide +kernel)) (by decide +kernel)), (zz_mem (List.mem_of_getElem? (i := 114) (by decide +kernel)) (by decide +kernel)), (zz_mem (List.mem_of_getElem? (i := 160) (by decide +kernel)) (by decide +kernel)), rfl, by decide +kernel, by decide +kernel, by decide +kernel⟩
theorem k_Md_1 : Cond.methodLink R_Md 1 objectInit ∈ zz_all := zz_mem (List.mem_of_getElem? (i := 910) (by decide +kernel)) (by decide +kernel)
abbrev rm_Fr_init : Room := { frames := 1, cells := 0, slots := 0, locals := 12 }
set_option maxHeartbeats 4000000 in
set_option maxRecDepth 100000 in
theorem c_Fr_init (l : Launch) (D : va_G) (cI : ClassId) (q : Nat)  (sz : Nat) : Met l y_Fr_init (zz_ws y_Fr_init b_Fr_init 1 none) rm_Fr_init (va_Pc [.ref q] (zz_pz D [(cI, .int)] [(q, .inr (0, [.int 0, .int 0, .int 0, .long 0]))] sz (fun _ => True))) (va_Qv (fun _ : Unit => True) (zz_qw D (fun u => wF1 q (0, 0, 0, 0)) (va_A [(q, .inr (0, [.int 0, .int 0, .int 0, .long 0]))] sz)) (va_A [(q, .inr (0, [.int 0, .int 0, .int 0, .long 0]))] sz)) 0 0 (va_A [(q, .inr (0, [.int 0, .int 0, .int 0, .long 0]))] sz) := by
  refine Met.ofW (cc := b_Fr_init) (maxL := 1) (ret := none) (by decide) rfl ?_
  intro p e s m args below meth c s₁ B hml hv
  obtain ⟨rfl, ⟨hsz, hP, hK, hD0⟩, hZ⟩ := hv
  have hx := B.exec
  have hb := B.bytes
  have hr := B.returns
  have hts := atoms_spec (ws := (zz_ws y_Fr_init b_Fr_init 1 none)) B.pre
  have hown : s.vm.findClass R_Fr = some m.cls := findClass_of_methodNamed B.named
  have hlocks := B.notSynchronized
  have hin : meth.name = "<init>" := (name_of_methodNamed B.named B.method).1
  have hT := zz_hts hts
  have X : CallFix p m c b_Fr_init 1 s ([.ref q] : List Value).toArray (zz_ws y_Fr_init b_Fr_init 1 none) R_Fr := ⟨hx, hb, hml, hown, hts⟩
  subst hsz
  have hD := hD0.self (sz := s.heap.size)
  generalize hAe : va_A [(q, .inr (0, [.int 0, .int 0, .int 0, .long 0]))] s.heap.size = A at hD ⊢
  have hA : ∀ q : Nat, s.heap.size ≤ q → A q := fun q h => by rw [← hAe]; exact Or.inr h
  have hS : va_S A s.heap s.heap [] := va_S.rf
  have hl := lv_entry ([.ref q]) (n := 1) (Nat.le_of_ble_eq_true rfl)
  rw [lg_entry_eq]
  generalize (lg_sl ([.ref q]) ++ List.replicate (1 - (lg_sl ([.ref q])).length) Slot.unset).toArray = ls at hl ⊢
  have hl : lv_has ls 1 [(0, .ref q)] := hl
  refine lv_aload_n hx hb d_Fr_init_0 rfl (lv_at hl 0 rfl) ?_
  refine W.objInit hx hb hown (hT _ k_Fr_1) (hT _ jo_i) (hT _ jo_c) rfl (by rw [hml]; exact hl.1) rfl d_Fr_init_1 (Nat.le_of_ble_eq_true rfl) (Nat.le_of_ble_eq_true rfl) ?_
  refine W.eq (g2 := F0 m 4 ls []) rfl ?_
  have hP : va_P D vwCl (wF1 q (0, 0, 0, 0)) _ := hP.sub [0] rfl
  have hD : va_D A (wF1 q (0, 0, 0, 0)) := hD.sub [0] (by decide) rfl
  refine W.widen (k := 0) (n := 0) (by omega) (by omega) ?_
  exact W.vret hx hb hr (fun t ht hW => ⟨⟨(), rfl, trivial, by rw [ht]; exact hP, hD⟩, hS.F ht⟩) hS.2.2 d_Fr_init_4
abbrev rm_Hl_init : Room := { frames := 1, cells := 0, slots := 0, locals := 12 }
set_option maxHeartbeats 4000000 in
set_option maxRecDepth 100000 in
theorem c_Hl_init (l : Launch) (D : va_G) (cI : ClassId) (q : Nat)  (sz : Nat) : Met l y_Hl_init (zz_ws y_Hl_init b_Hl_init 1 none) rm_Hl_init (va_Pc [.ref q] (zz_pz D [(cI, .int)] [(q, .inr (2, [.int 0, .int 0, .int 0, .int 0]))] sz (fun _ => True))) (va_Qv (fun _ : Unit => True) (zz_qw D (fun u => wH q (upd (upd (fun _ => 0) 2 1) 3 1)) (va_A [(q, .inr (2, [.int 0, .int 0, .int 0, .int 0]))] sz)) (va_A [(q, .inr (2, [.int 0, .int 0, .int 0, .int 0]))] sz)) 0 0 (va_A [(q, .inr (2, [.int 0, .int 0, .int 0, .int 0]))] sz) := by
  refine Met.ofW (cc := b_Hl_init) (maxL := 1) (ret := none) (by decide) rfl ?_
  intro p e s m args below meth c s₁ B hml hv
  obtain ⟨rfl, ⟨hsz, hP, hK, hD0⟩, hZ⟩ := hv
  have hx := B.exec
  have hb := B.bytes
  have hr := B.returns
  have hts := atoms_spec (ws := (zz_ws y_Hl_init b_Hl_init 1 none)) B.pre
  have hown : s.vm.findClass R_Hl = some m.cls := findClass_of_methodNamed B.named
  have hlocks := B.notSynchronized
  have hin : meth.name = "<init>" := (name_of_methodNamed B.named B.method).1
  have hT := zz_hts hts
  have X : CallFix p m c b_Hl_init 1 s ([.ref q] : List Value).toArray (zz_ws y_Hl_init b_Hl_init 1 none) R_Hl := ⟨hx, hb, hml, hown, hts⟩
  subst hsz
  have hD := hD0.self (sz := s.heap.size)
  generalize hAe : va_A [(q, .inr (2, [.int 0, .int 0, .int 0, .int 0]))] s.heap.size = A at hD ⊢
  have hA : ∀ q : Nat, s.heap.size ≤ q → A q := fun q h => by rw [← hAe]; exact Or.inr h
  have hS : va_S A s.heap s.heap [] := va_S.rf
  have hl := lv_entry ([.ref q]) (n := 1) (Nat.le_of_ble_eq_true rfl)
  rw [lg_entry_eq]
  generalize (lg_sl ([.ref q]) ++ List.replicate (1 - (lg_sl ([.ref q])).length) Slot.unset).toArray = ls at hl ⊢
  have hl : lv_has ls 1 [(0, .ref q)] := hl
  refine lv_aload_n hx hb d_Hl_init_0 rfl (lv_at hl 0 rfl) ?_
  refine W.objInit hx hb hown (hT _ k_Hl_1) (hT _ jo_i) (hT _ jo_c) rfl (by rw [hml]; exact hl.1) rfl d_Hl_init_1 (Nat.le_of_ble_eq_true rfl) (Nat.le_of_ble_eq_true rfl) ?_
  refine W.eq (g2 := F0 m 4 ls []) rfl ?_
  refine lv_aload_n hx hb d_Hl_init_4 rfl (lv_at hl 0 rfl) ?_
  refine lv_iconst (v := 1) hx hb d_Hl_init_5 (by decide) ?_
  refine p_Hl_7 hx hb hT hown hK hP hD hS 0 rfl rfl (Or.inr rfl) d_Hl_init_6 (fun H locs hP hD hS => ?_)
  have hP : va_P D vwCl [(q, .inr (2, [.int 0, .int 0, .int (1 : Int32), .int 0]))] H := hP
  have hD : va_D A [(q, .inr (2, [.int 0, .int 0, .int (1 : Int32), .int 0]))] := hD
  refine lv_aload_n hx hb d_Hl_init_9 rfl (lv_at hl 0 rfl) ?_
  refine lv_iconst (v := 1) hx hb d_Hl_init_10 (by decide) ?_
  refine p_Hl_13 hx hb hT hown hK hP hD hS 0 rfl rfl (Or.inr rfl) d_Hl_init_11 (fun H locs hP hD hS => ?_)
  have hP : va_P D vwCl [(q, .inr (2, [.int 0, .int 0, .int (1 : Int32), .int (1 : Int32)]))] H := hP
  have hD : va_D A [(q, .inr (2, [.int 0, .int 0, .int (1 : Int32), .int (1 : Int32)]))] := hD
  have hP : va_P D vwCl (wH q (upd (upd (fun _ => 0) 2 1) 3 1)) _ := hP.sub [0] rfl
  have hD : va_D A (wH q (upd (upd (fun _ => 0) 2 1) 3 1)) := hD.sub [0] (by decide) rfl
  refine W.widen (k := 0) (n := 0) (by omega) (by omega) ?_
  exact W.vret hx hb hr (fun t ht hW => ⟨⟨(), rfl, trivial, by rw [ht]; exact hP, hD⟩, hS.F ht⟩) hS.2.2 d_Hl_init_14
abbrev rm_Fu_init : Room := { frames := 2, cells := 3, slots := 40, locals := 32 }
set_option maxHeartbeats 4000000 in
set_option maxRecDepth 100000 in
theorem c_Fu_init (l : Launch) (D : va_G) (cI : ClassId) (q : Nat)  (sz : Nat) : Met l y_Fu_init (zz_ws y_Fu_init b_Fu_init 1 none) rm_Fu_init (va_Pc [.ref q] (zz_pz D [(cI, .int)] [(q, .inr (1, [.null, .int 0, .null, .null]))] sz zz_nw)) (va_Qv (fun _ : Nat × Nat × Nat => True) (zz_qw D (fun u => wU q u.1 u.2.1 u.2.2 cI 0 (fun _ => 0) (0, 0, 0, 0) (0, 0, 0, 0)) (va_A [(q, .inr (1, [.null, .int 0, .null, .null]))] sz)) (va_A [(q, .inr (1, [.null, .int 0, .null, .null]))] sz)) 3 40 (va_A [(q, .inr (1, [.null, .int 0, .null, .null]))] sz) := by
  refine Met.ofW (cc := b_Fu_init) (maxL := 1) (ret := none) (by decide) rfl ?_
  intro p e s m args below meth c s₁ B hml hv
  obtain ⟨rfl, ⟨hsz, hP, hK, hD0⟩, hZ⟩ := hv
  have hx := B.exec
  have hb := B.bytes
  have hr := B.returns
  have hts := atoms_spec (ws := (zz_ws y_Fu_init b_Fu_init 1 none)) B.pre
  have hown : s.vm.findClass R_Fu = some m.cls := findClass_of_methodNamed B.named
  have hlocks := B.notSynchronized
  have hin : meth.name = "<init>" := (name_of_methodNamed B.named B.method).1
  have hT := zz_hts hts
  have X : CallFix p m c b_Fu_init 1 s ([.ref q] : List Value).toArray (zz_ws y_Fu_init b_Fu_init 1 none) R_Fu := ⟨hx, hb, hml, hown, hts⟩
  subst hsz
  have hD := hD0.self (sz := s.heap.size)
  generalize hAe : va_A [(q, .inr (1, [.null, .int 0, .null, .null]))] s.heap.size = A at hD ⊢
  have hA : ∀ q : Nat, s.heap.size ≤ q → A q := fun q h => by rw [← hAe]; exact Or.inr h
  have hS : va_S A s.heap s.heap [] := va_S.rf
  have hl := lv_entry ([.ref q]) (n := 1) (Nat.le_of_ble_eq_true rfl)
  rw [lg_entry_eq]
  generalize (lg_sl ([.ref q]) ++ List.replicate (1 - (lg_sl ([.ref q])).length) Slot.unset).toArray = ls at hl ⊢
  have hl : lv_has ls 1 [(0, .ref q)] := hl
  refine lv_aload_n hx hb d_Fu_init_0 rfl (lv_at hl 0 rfl) ?_
  refine W.objInit hx hb hown (hT _ k_Fu_3) (hT _ jo_i) (hT _ jo_c) rfl (by rw [hml]; exact hl.1) rfl d_Fu_init_1 (Nat.le_of_ble_eq_true rfl) (Nat.le_of_ble_eq_true rfl) ?_
  refine W.eq (g2 := F0 m 4 ls []) rfl ?_
  refine lv_aload_n hx hb d_Fu_init_4 rfl (lv_at hl 0 rfl) ?_
  refine lv_bipush (v := 32) hx hb d_Fu_init_5 (by decide) ?_
  refine zz_newi (N := 32) hx hb hT ja_int hK 0 rfl hP hD hS hA (by decide) (by decide) (by decide) (Nat.le_of_ble_eq_true rfl) (by first | exact Nat.le_of_ble_eq_true rfl | (show _ + _ ≤ 40; omega)) d_Fu_init_7 (fun q7 H hP hD hS => ?_)
  have hP : va_P D vwCl [(q, .inr (1, [.null, .int 0, .null, .null])), (q7, .inl (cI, 32, .inl (fun _ => 0)))] H := hP
  have hD : va_D A [(q, .inr (1, [.null, .int 0, .null, .null])), (q7, .inl (cI, 32, .inl (fun _ => 0)))] := hD
  refine W.widen (k := 1) (n := 32) (by omega) (by omega) ?_
  refine va_putF (D := D) (ci := 1) (v := .ref q7) (ty := .array (.int)) (C := R_Fu) (T := T_Fu) (N := 4) hx hb hT u_Fu t_Fu ut_Fu un_Fu hown hK hP hD hS 0 rfl rfl 0 (by decide) (hT _ f_Fu_9) (fun _ h9 => h9) rfl hin rfl (by decide +kernel) rfl rfl (Nat.le_of_ble_eq_true rfl) d_Fu_init_9 (fun H locs hP hD hS => ?_)
  have hP : va_P D vwCl [(q, .inr (1, [.ref q7, .int 0, .null, .null])), (q7, .inl (cI, 32, .inl (fun _ => 0)))] H := hP
  have hD : va_D A [(q, .inr (1, [.ref q7, .int 0, .null, .null])), (q7, .inl (cI, 32, .inl (fun _ => 0)))] := hD
  refine lv_aload_n hx hb d_Fu_init_12 rfl (lv_at hl 0 rfl) ?_
  refine va_new (ci := 0) (fs := [.int 0, .int 0, .int 0, .long 0]) (C := R_Fr) (T := T_Fr) (N := 4) hx hb hT u_Fr t_Fr ut_Fr hown (hT _ l_Fu_15) (hT _ li_Fr) (hT _ lz_Fr) hK hP hD hS hA rfl (fun j hj => match j, hj with | 0, _ => rfl | 1, _ => rfl | 2, _ => rfl | 3, _ => rfl | (k + 4), h => absurd h (by omega)) (Nat.le_of_ble_eq_true rfl) (Nat.le_of_ble_eq_true rfl) d_Fu_init_13 (fun q13 H hP hD hS => ?_)
  have hP : va_P D vwCl [(q, .inr (1, [.ref q7, .int 0, .null, .null])), (q7, .inl (cI, 32, .inl (fun _ => 0))), (q13, .inr (0, [.int 0, .int 0, .int 0, .long 0]))] H := hP
  have hD : va_D A [(q, .inr (1, [.ref q7, .int 0, .null, .null])), (q7, .inl (cI, 32, .inl (fun _ => 0))), (q13, .inr (0, [.int 0, .int 0, .int 0, .long 0]))] := hD
  refine W.widen (k := 2) (n := 36) (by omega) (by omega) ?_
  refine lv_dup hx hb d_Fu_init_16 rfl ?_
  refine zz_In (As := []) (rest := [.ref q13, .ref q]) (wc := [(q13, .inr (0, [.int 0, .int 0, .int 0, .long 0]))]) (wr := [(q, .inr (1, [.ref q7, .int 0, .null, .null])), (q7, .inl (cI, 32, .inl (fun _ => 0)))]) X hK hP hD hS hA (c_Fr_init l D cI q13  _) ⟨rfl, rfl⟩ ⟨fun _ _ => trivial, fun _ _ _ _ => trivial⟩ m_Fr_init hZ.2.2 ⟨Nat.le_of_ble_eq_true rfl, Nat.le_of_ble_eq_true rfl⟩ [2] [0, 1] rfl rfl (by decide) (by decide) (by decide) rfl hl.1 rfl (Nat.le_of_ble_eq_true rfl) d_Fu_init_17 ⟨Nat.le_of_ble_eq_true rfl, Nat.le_of_ble_eq_true rfl⟩ (fun u_1 H locs _ hP hD hS => ?_)
  have hP : va_P D vwCl [(q, .inr (1, [.ref q7, .int 0, .null, .null])), (q7, .inl (cI, 32, .inl (fun _ => 0))), (q13, .inr (0, [.int 0, .int 0, .int 0, .long 0]))] H := hP
  have hD : va_D A [(q, .inr (1, [.ref q7, .int 0, .null, .null])), (q7, .inl (cI, 32, .inl (fun _ => 0))), (q13, .inr (0, [.int 0, .int 0, .int 0, .long 0]))] := hD
  refine W.widen (k := 2) (n := 36) (by omega) (by omega) ?_
  refine va_putF (D := D) (ci := 1) (v := .ref q13) (ty := .object "DelayCore$Fraction") (C := R_Fu) (T := T_Fu) (N := 4) hx hb hT u_Fu t_Fu ut_Fu un_Fu hown hK hP hD hS 0 rfl rfl 2 (by decide) (hT _ f_Fu_18) (fun _ h9 => h9) rfl hin rfl (by decide +kernel) rfl rfl (Nat.le_of_ble_eq_true rfl) d_Fu_init_20 (fun H locs hP hD hS => ?_)
  have hP : va_P D vwCl [(q, .inr (1, [.ref q7, .int 0, .ref q13, .null])), (q7, .inl (cI, 32, .inl (fun _ => 0))), (q13, .inr (0, [.int 0, .int 0, .int 0, .long 0]))] H := hP
  have hD : va_D A [(q, .inr (1, [.ref q7, .int 0, .ref q13, .null])), (q7, .inl (cI, 32, .inl (fun _ => 0))), (q13, .inr (0, [.int 0, .int 0, .int 0, .long 0]))] := hD
  refine lv_aload_n hx hb d_Fu_init_23 rfl (lv_at hl 0 rfl) ?_
  refine va_new (ci := 0) (fs := [.int 0, .int 0, .int 0, .long 0]) (C := R_Fr) (T := T_Fr) (N := 4) hx hb hT u_Fr t_Fr ut_Fr hown (hT _ l_Fu_15) (hT _ li_Fr) (hT _ lz_Fr) hK hP hD hS hA rfl (fun j hj => match j, hj with | 0, _ => rfl | 1, _ => rfl | 2, _ => rfl | 3, _ => rfl | (k + 4), h => absurd h (by omega)) (Nat.le_of_ble_eq_true rfl) (Nat.le_of_ble_eq_true rfl) d_Fu_init_24 (fun q24 H hP hD hS => ?_)
  have hP : va_P D vwCl [(q, .inr (1, [.ref q7, .int 0, .ref q13, .null])), (q7, .inl (cI, 32, .inl (fun _ => 0))), (q13, .inr (0, [.int 0, .int 0, .int 0, .long 0])), (q24, .inr (0, [.int 0, .int 0, .int 0, .long 0]))] H := hP
  have hD : va_D A [(q, .inr (1, [.ref q7, .int 0, .ref q13, .null])), (q7, .inl (cI, 32, .inl (fun _ => 0))), (q13, .inr (0, [.int 0, .int 0, .int 0, .long 0])), (q24, .inr (0, [.int 0, .int 0, .int 0, .long 0]))] := hD
  refine W.widen (k := 3) (n := 40) (by omega) (by omega) ?_
  refine lv_dup hx hb d_Fu_init_27 rfl ?_
  refine zz_In (As := []) (rest := [.ref q24, .ref q]) (wc := [(q24, .inr (0, [.int 0, .int 0, .int 0, .long 0]))]) (wr := [(q, .inr (1, [.ref q7, .int 0, .ref q13, .null])), (q7, .inl (cI, 32, .inl (fun _ => 0))), (q13, .inr (0, [.int 0, .int 0, .int 0, .long 0]))]) X hK hP hD hS hA (c_Fr_init l D cI q24  _) ⟨rfl, rfl⟩ ⟨fun _ _ => trivial, fun _ _ _ _ => trivial⟩ m_Fr_init hZ.2.2 ⟨Nat.le_of_ble_eq_true rfl, Nat.le_of_ble_eq_true rfl⟩ [3] [0, 1, 2] rfl rfl (by decide) (by decide) (by decide) rfl hl.1 rfl (Nat.le_of_ble_eq_true rfl) d_Fu_init_28 ⟨Nat.le_of_ble_eq_true rfl, Nat.le_of_ble_eq_true rfl⟩ (fun u_2 H locs _ hP hD hS => ?_)
  have hP : va_P D vwCl [(q, .inr (1, [.ref q7, .int 0, .ref q13, .null])), (q7, .inl (cI, 32, .inl (fun _ => 0))), (q13, .inr (0, [.int 0, .int 0, .int 0, .long 0])), (q24, .inr (0, [.int 0, .int 0, .int 0, .long 0]))] H := hP
  have hD : va_D A [(q, .inr (1, [.ref q7, .int 0, .ref q13, .null])), (q7, .inl (cI, 32, .inl (fun _ => 0))), (q13, .inr (0, [.int 0, .int 0, .int 0, .long 0])), (q24, .inr (0, [.int 0, .int 0, .int 0, .long 0]))] := hD
  refine W.widen (k := 3) (n := 40) (by omega) (by omega) ?_
  refine va_putF (D := D) (ci := 1) (v := .ref q24) (ty := .object "DelayCore$Fraction") (C := R_Fu) (T := T_Fu) (N := 4) hx hb hT u_Fu t_Fu ut_Fu un_Fu hown hK hP hD hS 0 rfl rfl 3 (by decide) (hT _ f_Fu_22) (fun _ h9 => h9) rfl hin rfl (by decide +kernel) rfl rfl (Nat.le_of_ble_eq_true rfl) d_Fu_init_31 (fun H locs hP hD hS => ?_)
  have hP : va_P D vwCl [(q, .inr (1, [.ref q7, .int 0, .ref q13, .ref q24])), (q7, .inl (cI, 32, .inl (fun _ => 0))), (q13, .inr (0, [.int 0, .int 0, .int 0, .long 0])), (q24, .inr (0, [.int 0, .int 0, .int 0, .long 0]))] H := hP
  have hD : va_D A [(q, .inr (1, [.ref q7, .int 0, .ref q13, .ref q24])), (q7, .inl (cI, 32, .inl (fun _ => 0))), (q13, .inr (0, [.int 0, .int 0, .int 0, .long 0])), (q24, .inr (0, [.int 0, .int 0, .int 0, .long 0]))] := hD
  have hP : va_P D vwCl (wU q q7 q13 q24 cI 0 (fun _ => 0) (0, 0, 0, 0) (0, 0, 0, 0)) _ := hP.sub [0, 1, 2, 3] rfl
  have hD : va_D A (wU q q7 q13 q24 cI 0 (fun _ => 0) (0, 0, 0, 0) (0, 0, 0, 0)) := hD.sub [0, 1, 2, 3] (by decide) rfl
  refine W.widen (k := 3) (n := 40) (by omega) (by omega) ?_
  exact W.vret hx hb hr (fun t ht hW => ⟨⟨(q7, q13, q24), rfl, trivial, by rw [ht]; exact hP, hD⟩, hS.F ht⟩) hS.2.2 d_Fu_init_34
abbrev rm_Pr_init : Room := { frames := 3, cells := 6, slots := 80, locals := 52 }
set_option maxHeartbeats 4000000 in
set_option maxRecDepth 100000 in
theorem c_Pr_init (l : Launch) (D : va_G) (cI : ClassId) (q : Nat) (qm : Nat) (sz : Nat) : Met l y_Pr_init (zz_ws y_Pr_init b_Pr_init 2 none) rm_Pr_init (va_Pc [.ref q, .ref qm] (zz_pz D [(cI, .int)] [(q, .inr (4, [.null, .null, .null, .null, .int 0, .int 0, .int 0, .int 0, .int 0, .int 0, .int 0, .int 0, .int 0, .int 0, .int 0, .int 0]))] sz zz_nw)) (va_Qv (fun _ : Nat × Nat × Nat × Nat × Nat × Nat => True) (zz_qw D (fun u => [(q, .inr (4, [.ref qm, .ref u.1, .ref u.2.1, .ref u.2.2.1, .int 0, .int 4, .int 0, .int 0, .int 0, .int 0, .int 0, .int 0, .int 0, .int 0, .int 0, .int 0])), (u.1, .inl (cI, 32, .inl (fun _ => 0))), (u.2.1, .inr (2, [.int 0, .int 0, .int 1, .int 1])), (u.2.2.1, .inr (1, [.ref u.2.2.2.1, .int 0, .ref u.2.2.2.2.1, .ref u.2.2.2.2.2])), (u.2.2.2.1, .inl (cI, 32, .inl (fun _ => 0))), (u.2.2.2.2.1, .inr (0, [.int 0, .int 0, .int 0, .long 0])), (u.2.2.2.2.2, .inr (0, [.int 0, .int 0, .int 0, .long 0]))]) (va_A [(q, .inr (4, [.null, .null, .null, .null, .int 0, .int 0, .int 0, .int 0, .int 0, .int 0, .int 0, .int 0, .int 0, .int 0, .int 0, .int 0]))] sz)) (va_A [(q, .inr (4, [.null, .null, .null, .null, .int 0, .int 0, .int 0, .int 0, .int 0, .int 0, .int 0, .int 0, .int 0, .int 0, .int 0, .int 0]))] sz)) 6 80 (va_A [(q, .inr (4, [.null, .null, .null, .null, .int 0, .int 0, .int 0, .int 0, .int 0, .int 0, .int 0, .int 0, .int 0, .int 0, .int 0, .int 0]))] sz) := by
  refine Met.ofW (cc := b_Pr_init) (maxL := 2) (ret := none) (by decide) rfl ?_
  intro p e s m args below meth c s₁ B hml hv
  obtain ⟨rfl, ⟨hsz, hP, hK, hD0⟩, hZ⟩ := hv
  have hx := B.exec
  have hb := B.bytes
  have hr := B.returns
  have hts := atoms_spec (ws := (zz_ws y_Pr_init b_Pr_init 2 none)) B.pre
  have hown : s.vm.findClass R_Pr = some m.cls := findClass_of_methodNamed B.named
  have hlocks := B.notSynchronized
  have hin : meth.name = "<init>" := (name_of_methodNamed B.named B.method).1
  have hT := zz_hts hts
  have X : CallFix p m c b_Pr_init 2 s ([.ref q, .ref qm] : List Value).toArray (zz_ws y_Pr_init b_Pr_init 2 none) R_Pr := ⟨hx, hb, hml, hown, hts⟩
  subst hsz
  have hD := hD0.self (sz := s.heap.size)
  generalize hAe : va_A [(q, .inr (4, [.null, .null, .null, .null, .int 0, .int 0, .int 0, .int 0, .int 0, .int 0, .int 0, .int 0, .int 0, .int 0, .int 0, .int 0]))] s.heap.size = A at hD ⊢
  have hA : ∀ q : Nat, s.heap.size ≤ q → A q := fun q h => by rw [← hAe]; exact Or.inr h
  have hS : va_S A s.heap s.heap [] := va_S.rf
  have hl := lv_entry ([.ref q, .ref qm]) (n := 2) (Nat.le_of_ble_eq_true rfl)
  rw [lg_entry_eq]
  generalize (lg_sl ([.ref q, .ref qm]) ++ List.replicate (2 - (lg_sl ([.ref q, .ref qm])).length) Slot.unset).toArray = ls at hl ⊢
  have hl : lv_has ls 2 [(0, .ref q), (1, .ref qm)] := hl
  refine lv_aload_n hx hb d_Pr_init_0 rfl (lv_at hl 0 rfl) ?_
  refine W.objInit hx hb hown (hT _ k_Pr_3) (hT _ jo_i) (hT _ jo_c) rfl (by rw [hml]; exact hl.1) rfl d_Pr_init_1 (Nat.le_of_ble_eq_true rfl) (Nat.le_of_ble_eq_true rfl) ?_
  refine W.eq (g2 := F0 m 4 ls []) rfl ?_
  refine lv_aload_n hx hb d_Pr_init_4 rfl (lv_at hl 0 rfl) ?_
  refine lv_bipush (v := 32) hx hb d_Pr_init_5 (by decide) ?_
  refine zz_newi (N := 32) hx hb hT ja_int hK 0 rfl hP hD hS hA (by decide) (by decide) (by decide) (Nat.le_of_ble_eq_true rfl) (by first | exact Nat.le_of_ble_eq_true rfl | (show _ + _ ≤ 80; omega)) d_Pr_init_7 (fun q7 H hP hD hS => ?_)
  have hP : va_P D vwCl [(q, .inr (4, [.null, .null, .null, .null, .int 0, .int 0, .int 0, .int 0, .int 0, .int 0, .int 0, .int 0, .int 0, .int 0, .int 0, .int 0])), (q7, .inl (cI, 32, .inl (fun _ => 0)))] H := hP
  have hD : va_D A [(q, .inr (4, [.null, .null, .null, .null, .int 0, .int 0, .int 0, .int 0, .int 0, .int 0, .int 0, .int 0, .int 0, .int 0, .int 0, .int 0])), (q7, .inl (cI, 32, .inl (fun _ => 0)))] := hD
  refine W.widen (k := 1) (n := 32) (by omega) (by omega) ?_
  refine va_putF (D := D) (ci := 4) (v := .ref q7) (ty := .array (.int)) (C := R_Pr) (T := T_Pr) (N := 16) hx hb hT u_Pr t_Pr ut_Pr un_Pr hown hK hP hD hS 0 rfl rfl 1 (by decide) (hT _ f_Pr_9) (fun _ h9 => h9) rfl hin rfl (by decide +kernel) rfl rfl (Nat.le_of_ble_eq_true rfl) d_Pr_init_9 (fun H locs hP hD hS => ?_)
  have hP : va_P D vwCl [(q, .inr (4, [.null, .ref q7, .null, .null, .int 0, .int 0, .int 0, .int 0, .int 0, .int 0, .int 0, .int 0, .int 0, .int 0, .int 0, .int 0])), (q7, .inl (cI, 32, .inl (fun _ => 0)))] H := hP
  have hD : va_D A [(q, .inr (4, [.null, .ref q7, .null, .null, .int 0, .int 0, .int 0, .int 0, .int 0, .int 0, .int 0, .int 0, .int 0, .int 0, .int 0, .int 0])), (q7, .inl (cI, 32, .inl (fun _ => 0)))] := hD
  refine lv_aload_n hx hb d_Pr_init_12 rfl (lv_at hl 0 rfl) ?_
  refine va_new (ci := 2) (fs := [.int 0, .int 0, .int 0, .int 0]) (C := R_Hl) (T := T_Hl) (N := 4) hx hb hT u_Hl t_Hl ut_Hl hown (hT _ l_Pr_15) (hT _ li_Hl) (hT _ lz_Hl) hK hP hD hS hA rfl (fun j hj => match j, hj with | 0, _ => rfl | 1, _ => rfl | 2, _ => rfl | 3, _ => rfl | (k + 4), h => absurd h (by omega)) (Nat.le_of_ble_eq_true rfl) (Nat.le_of_ble_eq_true rfl) d_Pr_init_13 (fun q13 H hP hD hS => ?_)
  have hP : va_P D vwCl [(q, .inr (4, [.null, .ref q7, .null, .null, .int 0, .int 0, .int 0, .int 0, .int 0, .int 0, .int 0, .int 0, .int 0, .int 0, .int 0, .int 0])), (q7, .inl (cI, 32, .inl (fun _ => 0))), (q13, .inr (2, [.int 0, .int 0, .int 0, .int 0]))] H := hP
  have hD : va_D A [(q, .inr (4, [.null, .ref q7, .null, .null, .int 0, .int 0, .int 0, .int 0, .int 0, .int 0, .int 0, .int 0, .int 0, .int 0, .int 0, .int 0])), (q7, .inl (cI, 32, .inl (fun _ => 0))), (q13, .inr (2, [.int 0, .int 0, .int 0, .int 0]))] := hD
  refine W.widen (k := 2) (n := 36) (by omega) (by omega) ?_
  refine lv_dup hx hb d_Pr_init_16 rfl ?_
  refine zz_In (As := []) (rest := [.ref q13, .ref q]) (wc := [(q13, .inr (2, [.int 0, .int 0, .int 0, .int 0]))]) (wr := [(q, .inr (4, [.null, .ref q7, .null, .null, .int 0, .int 0, .int 0, .int 0, .int 0, .int 0, .int 0, .int 0, .int 0, .int 0, .int 0, .int 0])), (q7, .inl (cI, 32, .inl (fun _ => 0)))]) X hK hP hD hS hA (c_Hl_init l D cI q13  _) ⟨rfl, rfl⟩ ⟨fun _ _ => trivial, fun _ _ _ _ => trivial⟩ m_Hl_init hZ.1 ⟨Nat.le_of_ble_eq_true rfl, Nat.le_of_ble_eq_true rfl⟩ [2] [0, 1] rfl rfl (by decide) (by decide) (by decide) rfl hl.1 rfl (Nat.le_of_ble_eq_true rfl) d_Pr_init_17 ⟨Nat.le_of_ble_eq_true rfl, Nat.le_of_ble_eq_true rfl⟩ (fun u_1 H locs _ hP hD hS => ?_)
  have hP : va_P D vwCl [(q, .inr (4, [.null, .ref q7, .null, .null, .int 0, .int 0, .int 0, .int 0, .int 0, .int 0, .int 0, .int 0, .int 0, .int 0, .int 0, .int 0])), (q7, .inl (cI, 32, .inl (fun _ => 0))), (q13, .inr (2, [.int 0, .int 0, .int 1, .int 1]))] H := hP
  have hD : va_D A [(q, .inr (4, [.null, .ref q7, .null, .null, .int 0, .int 0, .int 0, .int 0, .int 0, .int 0, .int 0, .int 0, .int 0, .int 0, .int 0, .int 0])), (q7, .inl (cI, 32, .inl (fun _ => 0))), (q13, .inr (2, [.int 0, .int 0, .int 1, .int 1]))] := hD
  refine W.widen (k := 2) (n := 36) (by omega) (by omega) ?_
  refine va_putF (D := D) (ci := 4) (v := .ref q13) (ty := .object "DelayCore$HiLo") (C := R_Pr) (T := T_Pr) (N := 16) hx hb hT u_Pr t_Pr ut_Pr un_Pr hown hK hP hD hS 0 rfl rfl 2 (by decide) (hT _ f_Pr_18) (fun _ h9 => h9) rfl hin rfl (by decide +kernel) rfl rfl (Nat.le_of_ble_eq_true rfl) d_Pr_init_20 (fun H locs hP hD hS => ?_)
  have hP : va_P D vwCl [(q, .inr (4, [.null, .ref q7, .ref q13, .null, .int 0, .int 0, .int 0, .int 0, .int 0, .int 0, .int 0, .int 0, .int 0, .int 0, .int 0, .int 0])), (q7, .inl (cI, 32, .inl (fun _ => 0))), (q13, .inr (2, [.int 0, .int 0, .int 1, .int 1]))] H := hP
  have hD : va_D A [(q, .inr (4, [.null, .ref q7, .ref q13, .null, .int 0, .int 0, .int 0, .int 0, .int 0, .int 0, .int 0, .int 0, .int 0, .int 0, .int 0, .int 0])), (q7, .inl (cI, 32, .inl (fun _ => 0))), (q13, .inr (2, [.int 0, .int 0, .int 1, .int 1]))] := hD
  refine lv_aload_n hx hb d_Pr_init_23 rfl (lv_at hl 0 rfl) ?_
  refine va_new (ci := 1) (fs := [.null, .int 0, .null, .null]) (C := R_Fu) (T := T_Fu) (N := 4) hx hb hT u_Fu t_Fu ut_Fu hown (hT _ l_Pr_22) (hT _ li_Fu) (hT _ lz_Fu) hK hP hD hS hA rfl (fun j hj => match j, hj with | 0, _ => rfl | 1, _ => rfl | 2, _ => rfl | 3, _ => rfl | (k + 4), h => absurd h (by omega)) (Nat.le_of_ble_eq_true rfl) (Nat.le_of_ble_eq_true rfl) d_Pr_init_24 (fun q24 H hP hD hS => ?_)
  have hP : va_P D vwCl [(q, .inr (4, [.null, .ref q7, .ref q13, .null, .int 0, .int 0, .int 0, .int 0, .int 0, .int 0, .int 0, .int 0, .int 0, .int 0, .int 0, .int 0])), (q7, .inl (cI, 32, .inl (fun _ => 0))), (q13, .inr (2, [.int 0, .int 0, .int 1, .int 1])), (q24, .inr (1, [.null, .int 0, .null, .null]))] H := hP
  have hD : va_D A [(q, .inr (4, [.null, .ref q7, .ref q13, .null, .int 0, .int 0, .int 0, .int 0, .int 0, .int 0, .int 0, .int 0, .int 0, .int 0, .int 0, .int 0])), (q7, .inl (cI, 32, .inl (fun _ => 0))), (q13, .inr (2, [.int 0, .int 0, .int 1, .int 1])), (q24, .inr (1, [.null, .int 0, .null, .null]))] := hD
  refine W.widen (k := 3) (n := 40) (by omega) (by omega) ?_
  refine lv_dup hx hb d_Pr_init_27 rfl ?_
  refine zz_In (As := []) (rest := [.ref q24, .ref q]) (wc := [(q24, .inr (1, [.null, .int 0, .null, .null]))]) (wr := [(q, .inr (4, [.null, .ref q7, .ref q13, .null, .int 0, .int 0, .int 0, .int 0, .int 0, .int 0, .int 0, .int 0, .int 0, .int 0, .int 0, .int 0])), (q7, .inl (cI, 32, .inl (fun _ => 0))), (q13, .inr (2, [.int 0, .int 0, .int 1, .int 1]))]) X hK hP hD hS hA (c_Fu_init l D cI q24  _) ⟨rfl, rfl⟩ (zz_nwok hZ) m_Fu_init hZ.2.1 ⟨Nat.le_of_ble_eq_true rfl, Nat.le_of_ble_eq_true rfl⟩ [3] [0, 1, 2] rfl rfl (by decide) (by decide) (by decide) rfl hl.1 rfl (Nat.le_of_ble_eq_true rfl) d_Pr_init_28 ⟨Nat.le_of_ble_eq_true rfl, Nat.le_of_ble_eq_true rfl⟩ (fun u_2 H locs _ hP hD hS => ?_)
  have hP : va_P D vwCl [(q, .inr (4, [.null, .ref q7, .ref q13, .null, .int 0, .int 0, .int 0, .int 0, .int 0, .int 0, .int 0, .int 0, .int 0, .int 0, .int 0, .int 0])), (q7, .inl (cI, 32, .inl (fun _ => 0))), (q13, .inr (2, [.int 0, .int 0, .int 1, .int 1])), (q24, .inr (1, [.ref u_2.1, .int 0, .ref u_2.2.1, .ref u_2.2.2])), (u_2.1, .inl (cI, 32, .inl (fun _ => 0))), (u_2.2.1, .inr (0, [.int 0, .int 0, .int 0, .long 0])), (u_2.2.2, .inr (0, [.int 0, .int 0, .int 0, .long 0]))] H := hP
  have hD : va_D A [(q, .inr (4, [.null, .ref q7, .ref q13, .null, .int 0, .int 0, .int 0, .int 0, .int 0, .int 0, .int 0, .int 0, .int 0, .int 0, .int 0, .int 0])), (q7, .inl (cI, 32, .inl (fun _ => 0))), (q13, .inr (2, [.int 0, .int 0, .int 1, .int 1])), (q24, .inr (1, [.ref u_2.1, .int 0, .ref u_2.2.1, .ref u_2.2.2])), (u_2.1, .inl (cI, 32, .inl (fun _ => 0))), (u_2.2.1, .inr (0, [.int 0, .int 0, .int 0, .long 0])), (u_2.2.2, .inr (0, [.int 0, .int 0, .int 0, .long 0]))] := hD
  refine W.widen (k := 6) (n := 80) (by omega) (by omega) ?_
  refine va_putF (D := D) (ci := 4) (v := .ref q24) (ty := .object "DelayCore$FractionUnit") (C := R_Pr) (T := T_Pr) (N := 16) hx hb hT u_Pr t_Pr ut_Pr un_Pr hown hK hP hD hS 0 rfl rfl 3 (by decide) (hT _ f_Pr_25) (fun _ h9 => h9) rfl hin rfl (by decide +kernel) rfl rfl (Nat.le_of_ble_eq_true rfl) d_Pr_init_31 (fun H locs hP hD hS => ?_)
  have hP : va_P D vwCl [(q, .inr (4, [.null, .ref q7, .ref q13, .ref q24, .int 0, .int 0, .int 0, .int 0, .int 0, .int 0, .int 0, .int 0, .int 0, .int 0, .int 0, .int 0])), (q7, .inl (cI, 32, .inl (fun _ => 0))), (q13, .inr (2, [.int 0, .int 0, .int 1, .int 1])), (q24, .inr (1, [.ref u_2.1, .int 0, .ref u_2.2.1, .ref u_2.2.2])), (u_2.1, .inl (cI, 32, .inl (fun _ => 0))), (u_2.2.1, .inr (0, [.int 0, .int 0, .int 0, .long 0])), (u_2.2.2, .inr (0, [.int 0, .int 0, .int 0, .long 0]))] H := hP
  have hD : va_D A [(q, .inr (4, [.null, .ref q7, .ref q13, .ref q24, .int 0, .int 0, .int 0, .int 0, .int 0, .int 0, .int 0, .int 0, .int 0, .int 0, .int 0, .int 0])), (q7, .inl (cI, 32, .inl (fun _ => 0))), (q13, .inr (2, [.int 0, .int 0, .int 1, .int 1])), (q24, .inr (1, [.ref u_2.1, .int 0, .ref u_2.2.1, .ref u_2.2.2])), (u_2.1, .inl (cI, 32, .inl (fun _ => 0))), (u_2.2.1, .inr (0, [.int 0, .int 0, .int 0, .long 0])), (u_2.2.2, .inr (0, [.int 0, .int 0, .int 0, .long 0]))] := hD
  refine lv_aload_n hx hb d_Pr_init_34 rfl (lv_at hl 0 rfl) ?_
  refine lv_iconst (v := 4) hx hb d_Pr_init_35 (by decide) ?_
  refine p_Pr_29 hx hb hT hown hK hP hD hS 0 rfl rfl d_Pr_init_36 (fun H locs hP hD hS => ?_)
  have hP : va_P D vwCl [(q, .inr (4, [.null, .ref q7, .ref q13, .ref q24, .int 0, .int (4 : Int32), .int 0, .int 0, .int 0, .int 0, .int 0, .int 0, .int 0, .int 0, .int 0, .int 0])), (q7, .inl (cI, 32, .inl (fun _ => 0))), (q13, .inr (2, [.int 0, .int 0, .int 1, .int 1])), (q24, .inr (1, [.ref u_2.1, .int 0, .ref u_2.2.1, .ref u_2.2.2])), (u_2.1, .inl (cI, 32, .inl (fun _ => 0))), (u_2.2.1, .inr (0, [.int 0, .int 0, .int 0, .long 0])), (u_2.2.2, .inr (0, [.int 0, .int 0, .int 0, .long 0]))] H := hP
  have hD : va_D A [(q, .inr (4, [.null, .ref q7, .ref q13, .ref q24, .int 0, .int (4 : Int32), .int 0, .int 0, .int 0, .int 0, .int 0, .int 0, .int 0, .int 0, .int 0, .int 0])), (q7, .inl (cI, 32, .inl (fun _ => 0))), (q13, .inr (2, [.int 0, .int 0, .int 1, .int 1])), (q24, .inr (1, [.ref u_2.1, .int 0, .ref u_2.2.1, .ref u_2.2.2])), (u_2.1, .inl (cI, 32, .inl (fun _ => 0))), (u_2.2.1, .inr (0, [.int 0, .int 0, .int 0, .long 0])), (u_2.2.2, .inr (0, [.int 0, .int 0, .int 0, .long 0]))] := hD
  refine lv_aload_n hx hb d_Pr_init_39 rfl (lv_at hl 0 rfl) ?_
  refine lv_aload_n hx hb d_Pr_init_40 rfl (lv_at hl 1 rfl) ?_
  refine va_putF (D := D) (ci := 4) (v := .ref qm) (ty := .object "DelayCore$Memory") (C := R_Pr) (T := T_Pr) (N := 16) hx hb hT u_Pr t_Pr ut_Pr un_Pr hown hK hP hD hS 0 rfl rfl 0 (by decide) (hT _ f_Pr_33) (fun _ h9 => h9) rfl hin rfl (by decide +kernel) rfl rfl (Nat.le_of_ble_eq_true rfl) d_Pr_init_41 (fun H locs hP hD hS => ?_)
  have hP : va_P D vwCl [(q, .inr (4, [.ref qm, .ref q7, .ref q13, .ref q24, .int 0, .int (4 : Int32), .int 0, .int 0, .int 0, .int 0, .int 0, .int 0, .int 0, .int 0, .int 0, .int 0])), (q7, .inl (cI, 32, .inl (fun _ => 0))), (q13, .inr (2, [.int 0, .int 0, .int 1, .int 1])), (q24, .inr (1, [.ref u_2.1, .int 0, .ref u_2.2.1, .ref u_2.2.2])), (u_2.1, .inl (cI, 32, .inl (fun _ => 0))), (u_2.2.1, .inr (0, [.int 0, .int 0, .int 0, .long 0])), (u_2.2.2, .inr (0, [.int 0, .int 0, .int 0, .long 0]))] H := hP
  have hD : va_D A [(q, .inr (4, [.ref qm, .ref q7, .ref q13, .ref q24, .int 0, .int (4 : Int32), .int 0, .int 0, .int 0, .int 0, .int 0, .int 0, .int 0, .int 0, .int 0, .int 0])), (q7, .inl (cI, 32, .inl (fun _ => 0))), (q13, .inr (2, [.int 0, .int 0, .int 1, .int 1])), (q24, .inr (1, [.ref u_2.1, .int 0, .ref u_2.2.1, .ref u_2.2.2])), (u_2.1, .inl (cI, 32, .inl (fun _ => 0))), (u_2.2.1, .inr (0, [.int 0, .int 0, .int 0, .long 0])), (u_2.2.2, .inr (0, [.int 0, .int 0, .int 0, .long 0]))] := hD
  have hP : va_P D vwCl ([(q, .inr (4, [.ref qm, .ref q7, .ref q13, .ref q24, .int 0, .int 4, .int 0, .int 0, .int 0, .int 0, .int 0, .int 0, .int 0, .int 0, .int 0, .int 0])), (q7, .inl (cI, 32, .inl (fun _ => 0))), (q13, .inr (2, [.int 0, .int 0, .int 1, .int 1])), (q24, .inr (1, [.ref u_2.1, .int 0, .ref u_2.2.1, .ref u_2.2.2])), (u_2.1, .inl (cI, 32, .inl (fun _ => 0))), (u_2.2.1, .inr (0, [.int 0, .int 0, .int 0, .long 0])), (u_2.2.2, .inr (0, [.int 0, .int 0, .int 0, .long 0]))]) _ := hP.sub [0, 1, 2, 3, 4, 5, 6] rfl
  have hD : va_D A ([(q, .inr (4, [.ref qm, .ref q7, .ref q13, .ref q24, .int 0, .int 4, .int 0, .int 0, .int 0, .int 0, .int 0, .int 0, .int 0, .int 0, .int 0, .int 0])), (q7, .inl (cI, 32, .inl (fun _ => 0))), (q13, .inr (2, [.int 0, .int 0, .int 1, .int 1])), (q24, .inr (1, [.ref u_2.1, .int 0, .ref u_2.2.1, .ref u_2.2.2])), (u_2.1, .inl (cI, 32, .inl (fun _ => 0))), (u_2.2.1, .inr (0, [.int 0, .int 0, .int 0, .long 0])), (u_2.2.2, .inr (0, [.int 0, .int 0, .int 0, .long 0]))]) := hD.sub [0, 1, 2, 3, 4, 5, 6] (by decide) rfl
  refine W.widen (k := 6) (n := 80) (by omega) (by omega) ?_
  exact W.vret hx hb hr (fun t ht hW => ⟨⟨(q7, q13, q24, u_2.1, u_2.2.1, u_2.2.2), rfl, trivial, by rw [ht]; exact hP, hD⟩, hS.F ht⟩) hS.2.2 d_Pr_init_44
abbrev rm_Me_init : Room := { frames := 1, cells := 1, slots := 65536, locals := 21 }
set_option maxHeartbeats 4000000 in
set_option maxRecDepth 100000 in
theorem c_Me_init (l : Launch) (D : va_G) (cI : ClassId) (q : Nat) (a0 : Int32) (hn0 : ¬ zz_size a0 / 4 < 0) (hn1 : (zz_size a0 / 4).toNatClampNeg ≤ 65536) (sz : Nat) : Met l y_Me_init (zz_ws y_Me_init b_Me_init 2 none) rm_Me_init (va_Pc [.ref q, .int a0] (zz_pz D [(cI, .int)] [(q, .inr (3, [.int 0, .null]))] sz (fun _ => True))) (va_Qv (fun _ : Nat => True) (zz_qw D (fun u => wM q u cI (zz_size a0) (zz_size a0 / 4).toNatClampNeg (fun _ => 0)) (va_A [(q, .inr (3, [.int 0, .null]))] sz)) (va_A [(q, .inr (3, [.int 0, .null]))] sz)) 1 65536 (va_A [(q, .inr (3, [.int 0, .null]))] sz) := by
  refine Met.ofW (cc := b_Me_init) (maxL := 2) (ret := none) (by decide) rfl ?_
  intro p e s m args below meth c s₁ B hml hv
  obtain ⟨rfl, ⟨hsz, hP, hK, hD0⟩, hZ⟩ := hv
  have hx := B.exec
  have hb := B.bytes
  have hr := B.returns
  have hts := atoms_spec (ws := (zz_ws y_Me_init b_Me_init 2 none)) B.pre
  have hown : s.vm.findClass R_Me = some m.cls := findClass_of_methodNamed B.named
  have hlocks := B.notSynchronized
  have hin : meth.name = "<init>" := (name_of_methodNamed B.named B.method).1
  have hT := zz_hts hts
  have X : CallFix p m c b_Me_init 2 s ([.ref q, .int a0] : List Value).toArray (zz_ws y_Me_init b_Me_init 2 none) R_Me := ⟨hx, hb, hml, hown, hts⟩
  subst hsz
  have hD := hD0.self (sz := s.heap.size)
  generalize hAe : va_A [(q, .inr (3, [.int 0, .null]))] s.heap.size = A at hD ⊢
  have hA : ∀ q : Nat, s.heap.size ≤ q → A q := fun q h => by rw [← hAe]; exact Or.inr h
  have hS : va_S A s.heap s.heap [] := va_S.rf
  have hl := lv_entry ([.ref q, .int a0]) (n := 2) (Nat.le_of_ble_eq_true rfl)
  rw [lg_entry_eq]
  generalize (lg_sl ([.ref q, .int a0]) ++ List.replicate (2 - (lg_sl ([.ref q, .int a0])).length) Slot.unset).toArray = ls at hl ⊢
  have hl : lv_has ls 2 [(0, .ref q), (1, .int a0)] := hl
  refine lv_aload_n hx hb d_Me_init_0 rfl (lv_at hl 0 rfl) ?_
  refine W.objInit hx hb hown (hT _ k_Me_1) (hT _ jo_i) (hT _ jo_c) rfl (by rw [hml]; exact hl.1) rfl d_Me_init_1 (Nat.le_of_ble_eq_true rfl) (Nat.le_of_ble_eq_true rfl) ?_
  refine W.eq (g2 := F0 m 4 ls []) rfl ?_
  refine lv_aload_n hx hb d_Me_init_4 rfl (lv_at hl 0 rfl) ?_
  refine lv_sipush (v := 1024) hx hb d_Me_init_5 (by decide) ?_
  refine lv_ldc (v := 262144) hx hb hown (hT _ n_Me_9) d_Me_init_8 ?_
  refine lv_iload_n hx hb d_Me_init_10 rfl (lv_at hl 1 rfl) ?_
  refine va_mmin hx hb (hml.trans hl.1.symm) hown (hT _ k_Me_10) (hT _ jm_min_s) (hT _ jm_i) (hT _ jm_min_c) (Nat.le_of_ble_eq_true rfl) (Nat.le_of_ble_eq_true rfl) (Nat.le_of_ble_eq_true rfl) (Nat.le_of_ble_eq_true rfl) d_Me_init_11 ?_
  refine va_mmax hx hb (hml.trans hl.1.symm) hown (hT _ k_Me_16) (hT _ jm_max_s) (hT _ jm_i) (hT _ jm_max_c) (Nat.le_of_ble_eq_true rfl) (Nat.le_of_ble_eq_true rfl) (Nat.le_of_ble_eq_true rfl) (Nat.le_of_ble_eq_true rfl) d_Me_init_14 ?_
  refine lv_bipush (v := -8) hx hb d_Me_init_17 (by decide) ?_
  refine lv_iand hx hb d_Me_init_19 ?_
  refine lv_topi (fun x9 ex9 => ?_)
  have ez9 : x9 = zz_size a0 := by rw [ex9]; first | rfl | exact (zz_size_lo c_1).symm | exact (zz_size_hi c_2).symm | exact (zz_size_mid c_1 c_2).symm
  subst ez9
  refine va_putF (D := D) (ci := 3) (v := .int (zz_size a0)) (ty := .int) (C := R_Me) (T := T_Me) (N := 2) hx hb hT u_Me t_Me ut_Me un_Me hown hK hP hD hS 0 rfl rfl 0 (by decide) (hT _ f_Me_19) (fun _ h9 => h9) rfl hin rfl (by decide +kernel) rfl rfl (Nat.le_of_ble_eq_true rfl) d_Me_init_20 (fun H locs hP hD hS => ?_)
  have hP : va_P D vwCl [(q, .inr (3, [.int (zz_size a0), .null]))] H := hP
  have hD : va_D A [(q, .inr (3, [.int (zz_size a0), .null]))] := hD
  refine lv_aload_n hx hb d_Me_init_23 rfl (lv_at hl 0 rfl) ?_
  refine lv_aload_n hx hb d_Me_init_24 rfl (lv_at hl 0 rfl) ?_
  refine g_Me_19 (v := .int (zz_size a0)) hx hb hT hown hK hP 0 rfl rfl d_Me_init_25 ?_
  refine lv_iconst (v := 4) hx hb d_Me_init_28 (by decide) ?_
  refine lv_idiv hx hb d_Me_init_29 (by decide) ?_
  refine zz_newi (N := (((zz_size a0) / (4 : Int32))).toNatClampNeg) hx hb hT ja_int hK 0 rfl hP hD hS hA hn0 rfl (Nat.le_trans hn1 (by decide)) (Nat.le_of_ble_eq_true rfl) (by first | exact Nat.le_of_ble_eq_true rfl | (show _ + _ ≤ 65536; omega)) d_Me_init_30 (fun q30 H hP hD hS => ?_)
  have hP : va_P D vwCl [(q, .inr (3, [.int (zz_size a0), .null])), (q30, .inl (cI, (((zz_size a0) / (4 : Int32))).toNatClampNeg, .inl (fun _ => 0)))] H := hP
  have hD : va_D A [(q, .inr (3, [.int (zz_size a0), .null])), (q30, .inl (cI, (((zz_size a0) / (4 : Int32))).toNatClampNeg, .inl (fun _ => 0)))] := hD
  refine W.widen (k := 1) (n := 65536) (by omega) (by omega) ?_
  refine va_putF (D := D) (ci := 3) (v := .ref q30) (ty := .array (.int)) (C := R_Me) (T := T_Me) (N := 2) hx hb hT u_Me t_Me ut_Me un_Me hown hK hP hD hS 0 rfl rfl 1 (by decide) (hT _ f_Me_23) (fun _ h9 => h9) rfl hin rfl (by decide +kernel) rfl rfl (Nat.le_of_ble_eq_true rfl) d_Me_init_32 (fun H locs hP hD hS => ?_)
  have hP : va_P D vwCl [(q, .inr (3, [.int (zz_size a0), .ref q30])), (q30, .inl (cI, (((zz_size a0) / (4 : Int32))).toNatClampNeg, .inl (fun _ => 0)))] H := hP
  have hD : va_D A [(q, .inr (3, [.int (zz_size a0), .ref q30])), (q30, .inl (cI, (((zz_size a0) / (4 : Int32))).toNatClampNeg, .inl (fun _ => 0)))] := hD
  have hP : va_P D vwCl (wM q q30 cI (zz_size a0) (zz_size a0 / 4).toNatClampNeg (fun _ => 0)) _ := hP.sub [0, 1] rfl
  have hD : va_D A (wM q q30 cI (zz_size a0) (zz_size a0 / 4).toNatClampNeg (fun _ => 0)) := hD.sub [0, 1] (by decide) rfl
  refine W.widen (k := 1) (n := 65536) (by omega) (by omega) ?_
  exact W.vret hx hb hr (fun t ht hW => ⟨⟨q30, rfl, trivial, by rw [ht]; exact hP, hD⟩, hS.F ht⟩) hS.2.2 d_Me_init_35
abbrev rm_Co_init : Room := { frames := 4, cells := 9, slots := 65634, locals := 78 }
set_option maxHeartbeats 4000000 in
set_option maxRecDepth 100000 in
theorem c_Co_init (l : Launch) (D : va_G) (cI : ClassId) (q : Nat) (a0 : Int32) (hn0 : ¬ zz_size a0 / 4 < 0) (hn1 : (zz_size a0 / 4).toNatClampNeg ≤ 65536) (sz : Nat) : Met l y_Co_init (zz_ws y_Co_init b_Co_init 2 none) rm_Co_init (va_Pc [.ref q, .int a0] (zz_pz D [(cI, .int)] [(q, .inr (5, [.null, .null]))] sz zz_nw)) (va_Qv (fun _ : Nat × Nat × Nat × Nat × Nat × Nat × Nat × Nat × Nat => True) (zz_qw D (fun u => wC q u.1 u.2.1 u.2.2.1 u.2.2.2.1 u.2.2.2.2.1 u.2.2.2.2.2.1 u.2.2.2.2.2.2.1 u.2.2.2.2.2.2.2.1 u.2.2.2.2.2.2.2.2 cI (zz_size a0) (zz_size a0 / 4).toNatClampNeg (fun k => if k = 1 then 4 else 0) (fun _ => 0) (upd (upd (fun _ => 0) 2 1) 3 1) (fun _ => 0) 0 (fun _ => 0) (0, 0, 0, 0) (0, 0, 0, 0)) (va_A [(q, .inr (5, [.null, .null]))] sz)) (va_A [(q, .inr (5, [.null, .null]))] sz)) 9 65634 (va_A [(q, .inr (5, [.null, .null]))] sz) := by
  refine Met.ofW (cc := b_Co_init) (maxL := 2) (ret := none) (by decide) rfl ?_
  intro p e s m args below meth c s₁ B hml hv
  obtain ⟨rfl, ⟨hsz, hP, hK, hD0⟩, hZ⟩ := hv
  have hx := B.exec
  have hb := B.bytes
  have hr := B.returns
  have hts := atoms_spec (ws := (zz_ws y_Co_init b_Co_init 2 none)) B.pre
  have hown : s.vm.findClass R_Co = some m.cls := findClass_of_methodNamed B.named
  have hlocks := B.notSynchronized
  have hin : meth.name = "<init>" := (name_of_methodNamed B.named B.method).1
  have hT := zz_hts hts
  have X : CallFix p m c b_Co_init 2 s ([.ref q, .int a0] : List Value).toArray (zz_ws y_Co_init b_Co_init 2 none) R_Co := ⟨hx, hb, hml, hown, hts⟩
  subst hsz
  have hD := hD0.self (sz := s.heap.size)
  generalize hAe : va_A [(q, .inr (5, [.null, .null]))] s.heap.size = A at hD ⊢
  have hA : ∀ q : Nat, s.heap.size ≤ q → A q := fun q h => by rw [← hAe]; exact Or.inr h
  have hS : va_S A s.heap s.heap [] := va_S.rf
  have hl := lv_entry ([.ref q, .int a0]) (n := 2) (Nat.le_of_ble_eq_true rfl)
  rw [lg_entry_eq]
  generalize (lg_sl ([.ref q, .int a0]) ++ List.replicate (2 - (lg_sl ([.ref q, .int a0])).length) Slot.unset).toArray = ls at hl ⊢
  have hl : lv_has ls 2 [(0, .ref q), (1, .int a0)] := hl
  refine lv_aload_n hx hb d_Co_init_0 rfl (lv_at hl 0 rfl) ?_
  refine W.objInit hx hb hown (hT _ k_Co_1) (hT _ jo_i) (hT _ jo_c) rfl (by rw [hml]; exact hl.1) rfl d_Co_init_1 (Nat.le_of_ble_eq_true rfl) (Nat.le_of_ble_eq_true rfl) ?_
  refine W.eq (g2 := F0 m 4 ls []) rfl ?_
  refine lv_aload_n hx hb d_Co_init_4 rfl (lv_at hl 0 rfl) ?_
  refine va_new (ci := 3) (fs := [.int 0, .null]) (C := R_Me) (T := T_Me) (N := 2) hx hb hT u_Me t_Me ut_Me hown (hT _ l_Co_7) (hT _ li_Me) (hT _ lz_Me) hK hP hD hS hA rfl (fun j hj => match j, hj with | 0, _ => rfl | 1, _ => rfl | (k + 2), h => absurd h (by omega)) (Nat.le_of_ble_eq_true rfl) (Nat.le_of_ble_eq_true rfl) d_Co_init_5 (fun q5 H hP hD hS => ?_)
  have hP : va_P D vwCl [(q, .inr (5, [.null, .null])), (q5, .inr (3, [.int 0, .null]))] H := hP
  have hD : va_D A [(q, .inr (5, [.null, .null])), (q5, .inr (3, [.int 0, .null]))] := hD
  refine W.widen (k := 1) (n := 2) (by omega) (by omega) ?_
  refine lv_dup hx hb d_Co_init_8 rfl ?_
  refine lv_iload_n hx hb d_Co_init_9 rfl (lv_at hl 1 rfl) ?_
  refine zz_Iv (As := [.int a0]) (rest := [.ref q5, .ref q]) (wc := [(q5, .inr (3, [.int 0, .null]))]) (wr := [(q, .inr (5, [.null, .null]))]) X hK hP hD hS hA (c_Me_init l D cI q5 a0 hn0 hn1 _) ⟨rfl, rfl⟩ ⟨fun _ _ => trivial, fun _ _ _ _ => trivial⟩ m_Me_init k_Co_9 ⟨Nat.le_of_ble_eq_true rfl, Nat.le_of_ble_eq_true rfl⟩ [1] [0] rfl rfl (by decide) (by decide) (by decide) rfl hl.1 rfl (Nat.le_of_ble_eq_true rfl) d_Co_init_10 ⟨Nat.le_of_ble_eq_true rfl, Nat.le_of_ble_eq_true rfl⟩ (fun u_1 H locs _ hP hD hS => ?_)
  have hP : va_P D vwCl [(q, .inr (5, [.null, .null])), (q5, .inr (3, [.int (zz_size a0), .ref u_1])), (u_1, .inl (cI, (zz_size a0 / 4).toNatClampNeg, .inl (fun _ => 0)))] H := hP
  have hD : va_D A [(q, .inr (5, [.null, .null])), (q5, .inr (3, [.int (zz_size a0), .ref u_1])), (u_1, .inl (cI, (zz_size a0 / 4).toNatClampNeg, .inl (fun _ => 0)))] := hD
  refine W.widen (k := 2) (n := 65538) (by omega) (by omega) ?_
  refine va_putF (D := D) (ci := 5) (v := .ref q5) (ty := .object "DelayCore$Memory") (C := R_Co) (T := T_Co) (N := 2) hx hb hT u_Co t_Co ut_Co un_Co hown hK hP hD hS 0 rfl rfl 0 (by decide) (hT _ f_Co_12) (fun _ h9 => h9) rfl hin rfl (by decide +kernel) rfl rfl (Nat.le_of_ble_eq_true rfl) d_Co_init_13 (fun H locs hP hD hS => ?_)
  have hP : va_P D vwCl [(q, .inr (5, [.ref q5, .null])), (q5, .inr (3, [.int (zz_size a0), .ref u_1])), (u_1, .inl (cI, (zz_size a0 / 4).toNatClampNeg, .inl (fun _ => 0)))] H := hP
  have hD : va_D A [(q, .inr (5, [.ref q5, .null])), (q5, .inr (3, [.int (zz_size a0), .ref u_1])), (u_1, .inl (cI, (zz_size a0 / 4).toNatClampNeg, .inl (fun _ => 0)))] := hD
  refine lv_aload_n hx hb d_Co_init_16 rfl (lv_at hl 0 rfl) ?_
  refine va_new (ci := 4) (fs := [.null, .null, .null, .null, .int 0, .int 0, .int 0, .int 0, .int 0, .int 0, .int 0, .int 0, .int 0, .int 0, .int 0, .int 0]) (C := R_Pr) (T := T_Pr) (N := 16) hx hb hT u_Pr t_Pr ut_Pr hown (hT _ l_Co_18) (hT _ li_Pr) (hT _ lz_Pr) hK hP hD hS hA rfl (fun j hj => match j, hj with | 0, _ => rfl | 1, _ => rfl | 2, _ => rfl | 3, _ => rfl | 4, _ => rfl | 5, _ => rfl | 6, _ => rfl | 7, _ => rfl | 8, _ => rfl | 9, _ => rfl | 10, _ => rfl | 11, _ => rfl | 12, _ => rfl | 13, _ => rfl | 14, _ => rfl | 15, _ => rfl | (k + 16), h => absurd h (by omega)) (Nat.le_of_ble_eq_true rfl) (Nat.le_of_ble_eq_true rfl) d_Co_init_17 (fun q17 H hP hD hS => ?_)
  have hP : va_P D vwCl [(q, .inr (5, [.ref q5, .null])), (q5, .inr (3, [.int (zz_size a0), .ref u_1])), (u_1, .inl (cI, (zz_size a0 / 4).toNatClampNeg, .inl (fun _ => 0))), (q17, .inr (4, [.null, .null, .null, .null, .int 0, .int 0, .int 0, .int 0, .int 0, .int 0, .int 0, .int 0, .int 0, .int 0, .int 0, .int 0]))] H := hP
  have hD : va_D A [(q, .inr (5, [.ref q5, .null])), (q5, .inr (3, [.int (zz_size a0), .ref u_1])), (u_1, .inl (cI, (zz_size a0 / 4).toNatClampNeg, .inl (fun _ => 0))), (q17, .inr (4, [.null, .null, .null, .null, .int 0, .int 0, .int 0, .int 0, .int 0, .int 0, .int 0, .int 0, .int 0, .int 0, .int 0, .int 0]))] := hD
  refine W.widen (k := 3) (n := 65554) (by omega) (by omega) ?_
  refine lv_dup hx hb d_Co_init_20 rfl ?_
  refine lv_aload_n hx hb d_Co_init_21 rfl (lv_at hl 0 rfl) ?_
  refine g_Co_12 (v := .ref q5) hx hb hT hown hK hP 0 rfl rfl d_Co_init_22 ?_
  refine zz_Iv (As := [.ref q5]) (rest := [.ref q17, .ref q]) (wc := [(q17, .inr (4, [.null, .null, .null, .null, .int 0, .int 0, .int 0, .int 0, .int 0, .int 0, .int 0, .int 0, .int 0, .int 0, .int 0, .int 0]))]) (wr := [(q, .inr (5, [.ref q5, .null])), (q5, .inr (3, [.int (zz_size a0), .ref u_1])), (u_1, .inl (cI, (zz_size a0 / 4).toNatClampNeg, .inl (fun _ => 0)))]) X hK hP hD hS hA (c_Pr_init l D cI q17 q5 _) ⟨rfl, rfl⟩ (zz_nwok hZ) m_Pr_init k_Co_20 ⟨Nat.le_of_ble_eq_true rfl, Nat.le_of_ble_eq_true rfl⟩ [3] [0, 1, 2] rfl rfl (by decide) (by decide) (by decide) rfl hl.1 rfl (Nat.le_of_ble_eq_true rfl) d_Co_init_25 ⟨Nat.le_of_ble_eq_true rfl, Nat.le_of_ble_eq_true rfl⟩ (fun u_2 H locs _ hP hD hS => ?_)
  have hP : va_P D vwCl [(q, .inr (5, [.ref q5, .null])), (q5, .inr (3, [.int (zz_size a0), .ref u_1])), (u_1, .inl (cI, (zz_size a0 / 4).toNatClampNeg, .inl (fun _ => 0))), (q17, .inr (4, [.ref q5, .ref u_2.1, .ref u_2.2.1, .ref u_2.2.2.1, .int 0, .int 4, .int 0, .int 0, .int 0, .int 0, .int 0, .int 0, .int 0, .int 0, .int 0, .int 0])), (u_2.1, .inl (cI, 32, .inl (fun _ => 0))), (u_2.2.1, .inr (2, [.int 0, .int 0, .int 1, .int 1])), (u_2.2.2.1, .inr (1, [.ref u_2.2.2.2.1, .int 0, .ref u_2.2.2.2.2.1, .ref u_2.2.2.2.2.2])), (u_2.2.2.2.1, .inl (cI, 32, .inl (fun _ => 0))), (u_2.2.2.2.2.1, .inr (0, [.int 0, .int 0, .int 0, .long 0])), (u_2.2.2.2.2.2, .inr (0, [.int 0, .int 0, .int 0, .long 0]))] H := hP
  have hD : va_D A [(q, .inr (5, [.ref q5, .null])), (q5, .inr (3, [.int (zz_size a0), .ref u_1])), (u_1, .inl (cI, (zz_size a0 / 4).toNatClampNeg, .inl (fun _ => 0))), (q17, .inr (4, [.ref q5, .ref u_2.1, .ref u_2.2.1, .ref u_2.2.2.1, .int 0, .int 4, .int 0, .int 0, .int 0, .int 0, .int 0, .int 0, .int 0, .int 0, .int 0, .int 0])), (u_2.1, .inl (cI, 32, .inl (fun _ => 0))), (u_2.2.1, .inr (2, [.int 0, .int 0, .int 1, .int 1])), (u_2.2.2.1, .inr (1, [.ref u_2.2.2.2.1, .int 0, .ref u_2.2.2.2.2.1, .ref u_2.2.2.2.2.2])), (u_2.2.2.2.1, .inl (cI, 32, .inl (fun _ => 0))), (u_2.2.2.2.2.1, .inr (0, [.int 0, .int 0, .int 0, .long 0])), (u_2.2.2.2.2.2, .inr (0, [.int 0, .int 0, .int 0, .long 0]))] := hD
  refine W.widen (k := 9) (n := 65634) (by omega) (by omega) ?_
  refine va_putF (D := D) (ci := 5) (v := .ref q17) (ty := .object "DelayCore$Processor") (C := R_Co) (T := T_Co) (N := 2) hx hb hT u_Co t_Co ut_Co un_Co hown hK hP hD hS 0 rfl rfl 1 (by decide) (hT _ f_Co_23) (fun _ h9 => h9) rfl hin rfl (by decide +kernel) rfl rfl (Nat.le_of_ble_eq_true rfl) d_Co_init_28 (fun H locs hP hD hS => ?_)
  have hP : va_P D vwCl [(q, .inr (5, [.ref q5, .ref q17])), (q5, .inr (3, [.int (zz_size a0), .ref u_1])), (u_1, .inl (cI, (zz_size a0 / 4).toNatClampNeg, .inl (fun _ => 0))), (q17, .inr (4, [.ref q5, .ref u_2.1, .ref u_2.2.1, .ref u_2.2.2.1, .int 0, .int 4, .int 0, .int 0, .int 0, .int 0, .int 0, .int 0, .int 0, .int 0, .int 0, .int 0])), (u_2.1, .inl (cI, 32, .inl (fun _ => 0))), (u_2.2.1, .inr (2, [.int 0, .int 0, .int 1, .int 1])), (u_2.2.2.1, .inr (1, [.ref u_2.2.2.2.1, .int 0, .ref u_2.2.2.2.2.1, .ref u_2.2.2.2.2.2])), (u_2.2.2.2.1, .inl (cI, 32, .inl (fun _ => 0))), (u_2.2.2.2.2.1, .inr (0, [.int 0, .int 0, .int 0, .long 0])), (u_2.2.2.2.2.2, .inr (0, [.int 0, .int 0, .int 0, .long 0]))] H := hP
  have hD : va_D A [(q, .inr (5, [.ref q5, .ref q17])), (q5, .inr (3, [.int (zz_size a0), .ref u_1])), (u_1, .inl (cI, (zz_size a0 / 4).toNatClampNeg, .inl (fun _ => 0))), (q17, .inr (4, [.ref q5, .ref u_2.1, .ref u_2.2.1, .ref u_2.2.2.1, .int 0, .int 4, .int 0, .int 0, .int 0, .int 0, .int 0, .int 0, .int 0, .int 0, .int 0, .int 0])), (u_2.1, .inl (cI, 32, .inl (fun _ => 0))), (u_2.2.1, .inr (2, [.int 0, .int 0, .int 1, .int 1])), (u_2.2.2.1, .inr (1, [.ref u_2.2.2.2.1, .int 0, .ref u_2.2.2.2.2.1, .ref u_2.2.2.2.2.2])), (u_2.2.2.2.1, .inl (cI, 32, .inl (fun _ => 0))), (u_2.2.2.2.2.1, .inr (0, [.int 0, .int 0, .int 0, .long 0])), (u_2.2.2.2.2.2, .inr (0, [.int 0, .int 0, .int 0, .long 0]))] := hD
  have hP : va_P D vwCl (wC q q17 u_2.1 u_2.2.1 q5 u_1 u_2.2.2.1 u_2.2.2.2.1 u_2.2.2.2.2.1 u_2.2.2.2.2.2 cI (zz_size a0) (zz_size a0 / 4).toNatClampNeg (fun k => if k = 1 then 4 else 0) (fun _ => 0) (upd (upd (fun _ => 0) 2 1) 3 1) (fun _ => 0) 0 (fun _ => 0) (0, 0, 0, 0) (0, 0, 0, 0)) _ := hP.sub [0, 3, 4, 5, 1, 2, 6, 7, 8, 9] rfl
  have hD : va_D A (wC q q17 u_2.1 u_2.2.1 q5 u_1 u_2.2.2.1 u_2.2.2.2.1 u_2.2.2.2.2.1 u_2.2.2.2.2.2 cI (zz_size a0) (zz_size a0 / 4).toNatClampNeg (fun k => if k = 1 then 4 else 0) (fun _ => 0) (upd (upd (fun _ => 0) 2 1) 3 1) (fun _ => 0) 0 (fun _ => 0) (0, 0, 0, 0) (0, 0, 0, 0)) := hD.sub [0, 3, 4, 5, 1, 2, 6, 7, 8, 9] (by decide) rfl
  refine W.widen (k := 9) (n := 65634) (by omega) (by omega) ?_
  exact W.vret hx hb hr (fun t ht hW => ⟨⟨(q17, u_2.1, u_2.2.1, q5, u_1, u_2.2.2.1, u_2.2.2.2.1, u_2.2.2.2.2.1, u_2.2.2.2.2.2), rfl, trivial, by rw [ht]; exact hP, hD⟩, hS.F ht⟩) hS.2.2 d_Co_init_31
abbrev rm_Md_init : Room := { frames := 1, cells := 3, slots := 262216, locals := 12 }
set_option maxHeartbeats 4000000 in
set_option maxRecDepth 100000 in
theorem c_Md_init (l : Launch) (D : va_G) (cI : ClassId) (cB : ClassId) (q : Nat) (a0 : Int32) (sz : Nat) : Met l y_Md_init (zz_ws y_Md_init b_Md_init 2 none) rm_Md_init (va_Pc [.ref q, .int a0] (zz_pz D [(cI, .int), (cB, .byte)] [(q, .inr (6, [.int 0, .null, .int 0, .null, .int 0, .int 0, .int 0, .int 0, .int 0, .int 0, .int 0, .int 0, .null, .int 0, .int 0, .int 0, .int 0, .int 0, .int 0, .int 0, .int 0, .int 0, .int 0, .int 0, .long 0, .long 0]))] sz (fun _ => True))) (va_Qv (fun _ : Nat × Nat × Nat => True) (zz_qw D (fun u => wD q u.1 u.2.1 u.2.2 cI cB (zz_size a0) (fun k => if k = 1 ∨ k = 2 then 1 else if k = 4 then 4 else 0) 0 0 (fun _ => 0) (fun _ => 0) (fun _ => 0)) (va_A [(q, .inr (6, [.int 0, .null, .int 0, .null, .int 0, .int 0, .int 0, .int 0, .int 0, .int 0, .int 0, .int 0, .null, .int 0, .int 0, .int 0, .int 0, .int 0, .int 0, .int 0, .int 0, .int 0, .int 0, .int 0, .long 0, .long 0]))] sz)) (va_A [(q, .inr (6, [.int 0, .null, .int 0, .null, .int 0, .int 0, .int 0, .int 0, .int 0, .int 0, .int 0, .int 0, .null, .int 0, .int 0, .int 0, .int 0, .int 0, .int 0, .int 0, .int 0, .int 0, .int 0, .int 0, .long 0, .long 0]))] sz)) 3 262216 (va_A [(q, .inr (6, [.int 0, .null, .int 0, .null, .int 0, .int 0, .int 0, .int 0, .int 0, .int 0, .int 0, .int 0, .null, .int 0, .int 0, .int 0, .int 0, .int 0, .int 0, .int 0, .int 0, .int 0, .int 0, .int 0, .long 0, .long 0]))] sz) := by
  refine Met.ofW (cc := b_Md_init) (maxL := 2) (ret := none) (by decide) rfl ?_
  intro p e s m args below meth c s₁ B hml hv
  obtain ⟨rfl, ⟨hsz, hP, hK, hD0⟩, hZ⟩ := hv
  have hx := B.exec
  have hb := B.bytes
  have hr := B.returns
  have hts := atoms_spec (ws := (zz_ws y_Md_init b_Md_init 2 none)) B.pre
  have hown : s.vm.findClass R_Md = some m.cls := findClass_of_methodNamed B.named
  have hlocks := B.notSynchronized
  have hin : meth.name = "<init>" := (name_of_methodNamed B.named B.method).1
  have hT := zz_hts hts
  have X : CallFix p m c b_Md_init 2 s ([.ref q, .int a0] : List Value).toArray (zz_ws y_Md_init b_Md_init 2 none) R_Md := ⟨hx, hb, hml, hown, hts⟩
  subst hsz
  have hD := hD0.self (sz := s.heap.size)
  generalize hAe : va_A [(q, .inr (6, [.int 0, .null, .int 0, .null, .int 0, .int 0, .int 0, .int 0, .int 0, .int 0, .int 0, .int 0, .null, .int 0, .int 0, .int 0, .int 0, .int 0, .int 0, .int 0, .int 0, .int 0, .int 0, .int 0, .long 0, .long 0]))] s.heap.size = A at hD ⊢
  have hA : ∀ q : Nat, s.heap.size ≤ q → A q := fun q h => by rw [← hAe]; exact Or.inr h
  have hS : va_S A s.heap s.heap [] := va_S.rf
  have hl := lv_entry ([.ref q, .int a0]) (n := 2) (Nat.le_of_ble_eq_true rfl)
  rw [lg_entry_eq]
  generalize (lg_sl ([.ref q, .int a0]) ++ List.replicate (2 - (lg_sl ([.ref q, .int a0])).length) Slot.unset).toArray = ls at hl ⊢
  have hl : lv_has ls 2 [(0, .ref q), (1, .int a0)] := hl
  refine lv_aload_n hx hb d_Md_init_0 rfl (lv_at hl 0 rfl) ?_
  refine W.objInit hx hb hown (hT _ k_Md_1) (hT _ jo_i) (hT _ jo_c) rfl (by rw [hml]; exact hl.1) rfl d_Md_init_1 (Nat.le_of_ble_eq_true rfl) (Nat.le_of_ble_eq_true rfl) ?_
  refine W.eq (g2 := F0 m 4 ls []) rfl ?_
  refine lv_aload_n hx hb d_Md_init_4 rfl (lv_at hl 0 rfl) ?_
  refine lv_ldc (v := 262144) hx hb hown (hT _ n_Md_7) d_Md_init_5 ?_
  refine zz_newb (N := 262144) hx hb hT ja_byte hK 1 rfl hP hD hS hA (by decide) (by decide) (by decide) (Nat.le_of_ble_eq_true rfl) (by first | exact Nat.le_of_ble_eq_true rfl | (show _ + _ ≤ 262216; omega)) d_Md_init_7 (fun q7 H hP hD hS => ?_)
  have hP : va_P D vwCl [(q, .inr (6, [.int 0, .null, .int 0, .null, .int 0, .int 0, .int 0, .int 0, .int 0, .int 0, .int 0, .int 0, .null, .int 0, .int 0, .int 0, .int 0, .int 0, .int 0, .int 0, .int 0, .int 0, .int 0, .int 0, .long 0, .long 0])), (q7, .inl (cB, 262144, .inl (fun _ => 0)))] H := hP
  have hD : va_D A [(q, .inr (6, [.int 0, .null, .int 0, .null, .int 0, .int 0, .int 0, .int 0, .int 0, .int 0, .int 0, .int 0, .null, .int 0, .int 0, .int 0, .int 0, .int 0, .int 0, .int 0, .int 0, .int 0, .int 0, .int 0, .long 0, .long 0])), (q7, .inl (cB, 262144, .inl (fun _ => 0)))] := hD
  refine W.widen (k := 1) (n := 262144) (by omega) (by omega) ?_
  refine va_putF (D := D) (ci := 6) (v := .ref q7) (ty := .array (.byte)) (C := R_Md) (T := T_Md) (N := 26) hx hb hT u_Md t_Md ut_Md un_Md hown hK hP hD hS 0 rfl rfl 1 (by decide) (hT _ f_Md_8) (fun _ h9 => h9) rfl hin rfl (by decide +kernel) rfl rfl (Nat.le_of_ble_eq_true rfl) d_Md_init_9 (fun H locs hP hD hS => ?_)
  have hP : va_P D vwCl [(q, .inr (6, [.int 0, .ref q7, .int 0, .null, .int 0, .int 0, .int 0, .int 0, .int 0, .int 0, .int 0, .int 0, .null, .int 0, .int 0, .int 0, .int 0, .int 0, .int 0, .int 0, .int 0, .int 0, .int 0, .int 0, .long 0, .long 0])), (q7, .inl (cB, 262144, .inl (fun _ => 0)))] H := hP
  have hD : va_D A [(q, .inr (6, [.int 0, .ref q7, .int 0, .null, .int 0, .int 0, .int 0, .int 0, .int 0, .int 0, .int 0, .int 0, .null, .int 0, .int 0, .int 0, .int 0, .int 0, .int 0, .int 0, .int 0, .int 0, .int 0, .int 0, .long 0, .long 0])), (q7, .inl (cB, 262144, .inl (fun _ => 0)))] := hD
  refine lv_aload_n hx hb d_Md_init_12 rfl (lv_at hl 0 rfl) ?_
  refine lv_bipush (v := 67) hx hb d_Md_init_13 (by decide) ?_
  refine zz_newi (N := 67) hx hb hT ja_int hK 0 rfl hP hD hS hA (by decide) (by decide) (by decide) (Nat.le_of_ble_eq_true rfl) (by first | exact Nat.le_of_ble_eq_true rfl | (show _ + _ ≤ 262216; omega)) d_Md_init_15 (fun q15 H hP hD hS => ?_)
  have hP : va_P D vwCl [(q, .inr (6, [.int 0, .ref q7, .int 0, .null, .int 0, .int 0, .int 0, .int 0, .int 0, .int 0, .int 0, .int 0, .null, .int 0, .int 0, .int 0, .int 0, .int 0, .int 0, .int 0, .int 0, .int 0, .int 0, .int 0, .long 0, .long 0])), (q7, .inl (cB, 262144, .inl (fun _ => 0))), (q15, .inl (cI, 67, .inl (fun _ => 0)))] H := hP
  have hD : va_D A [(q, .inr (6, [.int 0, .ref q7, .int 0, .null, .int 0, .int 0, .int 0, .int 0, .int 0, .int 0, .int 0, .int 0, .null, .int 0, .int 0, .int 0, .int 0, .int 0, .int 0, .int 0, .int 0, .int 0, .int 0, .int 0, .long 0, .long 0])), (q7, .inl (cB, 262144, .inl (fun _ => 0))), (q15, .inl (cI, 67, .inl (fun _ => 0)))] := hD
  refine W.widen (k := 2) (n := 262211) (by omega) (by omega) ?_
  refine va_putF (D := D) (ci := 6) (v := .ref q15) (ty := .array (.int)) (C := R_Md) (T := T_Md) (N := 26) hx hb hT u_Md t_Md ut_Md un_Md hown hK hP hD hS 0 rfl rfl 3 (by decide) (hT _ f_Md_14) (fun _ h9 => h9) rfl hin rfl (by decide +kernel) rfl rfl (Nat.le_of_ble_eq_true rfl) d_Md_init_17 (fun H locs hP hD hS => ?_)
  have hP : va_P D vwCl [(q, .inr (6, [.int 0, .ref q7, .int 0, .ref q15, .int 0, .int 0, .int 0, .int 0, .int 0, .int 0, .int 0, .int 0, .null, .int 0, .int 0, .int 0, .int 0, .int 0, .int 0, .int 0, .int 0, .int 0, .int 0, .int 0, .long 0, .long 0])), (q7, .inl (cB, 262144, .inl (fun _ => 0))), (q15, .inl (cI, 67, .inl (fun _ => 0)))] H := hP
  have hD : va_D A [(q, .inr (6, [.int 0, .ref q7, .int 0, .ref q15, .int 0, .int 0, .int 0, .int 0, .int 0, .int 0, .int 0, .int 0, .null, .int 0, .int 0, .int 0, .int 0, .int 0, .int 0, .int 0, .int 0, .int 0, .int 0, .int 0, .long 0, .long 0])), (q7, .inl (cB, 262144, .inl (fun _ => 0))), (q15, .inl (cI, 67, .inl (fun _ => 0)))] := hD
  refine lv_aload_n hx hb d_Md_init_20 rfl (lv_at hl 0 rfl) ?_
  refine lv_iconst (v := 1) hx hb d_Md_init_21 (by decide) ?_
  refine p_Md_18 hx hb hT hown hK hP hD hS 0 rfl rfl (Or.inr rfl) d_Md_init_22 (fun H locs hP hD hS => ?_)
  have hP : va_P D vwCl [(q, .inr (6, [.int 0, .ref q7, .int 0, .ref q15, .int (1 : Int32), .int 0, .int 0, .int 0, .int 0, .int 0, .int 0, .int 0, .null, .int 0, .int 0, .int 0, .int 0, .int 0, .int 0, .int 0, .int 0, .int 0, .int 0, .int 0, .long 0, .long 0])), (q7, .inl (cB, 262144, .inl (fun _ => 0))), (q15, .inl (cI, 67, .inl (fun _ => 0)))] H := hP
  have hD : va_D A [(q, .inr (6, [.int 0, .ref q7, .int 0, .ref q15, .int (1 : Int32), .int 0, .int 0, .int 0, .int 0, .int 0, .int 0, .int 0, .null, .int 0, .int 0, .int 0, .int 0, .int 0, .int 0, .int 0, .int 0, .int 0, .int 0, .int 0, .long 0, .long 0])), (q7, .inl (cB, 262144, .inl (fun _ => 0))), (q15, .inl (cI, 67, .inl (fun _ => 0)))] := hD
  refine lv_aload_n hx hb d_Md_init_25 rfl (lv_at hl 0 rfl) ?_
  refine lv_iconst (v := 1) hx hb d_Md_init_26 (by decide) ?_
  refine p_Md_22 hx hb hT hown hK hP hD hS 0 rfl rfl (Or.inr rfl) d_Md_init_27 (fun H locs hP hD hS => ?_)
  have hP : va_P D vwCl [(q, .inr (6, [.int 0, .ref q7, .int 0, .ref q15, .int (1 : Int32), .int (1 : Int32), .int 0, .int 0, .int 0, .int 0, .int 0, .int 0, .null, .int 0, .int 0, .int 0, .int 0, .int 0, .int 0, .int 0, .int 0, .int 0, .int 0, .int 0, .long 0, .long 0])), (q7, .inl (cB, 262144, .inl (fun _ => 0))), (q15, .inl (cI, 67, .inl (fun _ => 0)))] H := hP
  have hD : va_D A [(q, .inr (6, [.int 0, .ref q7, .int 0, .ref q15, .int (1 : Int32), .int (1 : Int32), .int 0, .int 0, .int 0, .int 0, .int 0, .int 0, .null, .int 0, .int 0, .int 0, .int 0, .int 0, .int 0, .int 0, .int 0, .int 0, .int 0, .int 0, .long 0, .long 0])), (q7, .inl (cB, 262144, .inl (fun _ => 0))), (q15, .inl (cI, 67, .inl (fun _ => 0)))] := hD
  refine lv_aload_n hx hb d_Md_init_30 rfl (lv_at hl 0 rfl) ?_
  refine lv_iconst (v := 4) hx hb d_Md_init_31 (by decide) ?_
  refine p_Md_25 hx hb hT hown hK hP hD hS 0 rfl rfl d_Md_init_32 (fun H locs hP hD hS => ?_)
  have hP : va_P D vwCl [(q, .inr (6, [.int 0, .ref q7, .int 0, .ref q15, .int (1 : Int32), .int (1 : Int32), .int 0, .int (4 : Int32), .int 0, .int 0, .int 0, .int 0, .null, .int 0, .int 0, .int 0, .int 0, .int 0, .int 0, .int 0, .int 0, .int 0, .int 0, .int 0, .long 0, .long 0])), (q7, .inl (cB, 262144, .inl (fun _ => 0))), (q15, .inl (cI, 67, .inl (fun _ => 0)))] H := hP
  have hD : va_D A [(q, .inr (6, [.int 0, .ref q7, .int 0, .ref q15, .int (1 : Int32), .int (1 : Int32), .int 0, .int (4 : Int32), .int 0, .int 0, .int 0, .int 0, .null, .int 0, .int 0, .int 0, .int 0, .int 0, .int 0, .int 0, .int 0, .int 0, .int 0, .int 0, .long 0, .long 0])), (q7, .inl (cB, 262144, .inl (fun _ => 0))), (q15, .inl (cI, 67, .inl (fun _ => 0)))] := hD
  refine lv_aload_n hx hb d_Md_init_35 rfl (lv_at hl 0 rfl) ?_
  refine lv_iconst (v := 5) hx hb d_Md_init_36 (by decide) ?_
  refine zz_newi (N := 5) hx hb hT ja_int hK 0 rfl hP hD hS hA (by decide) (by decide) (by decide) (Nat.le_of_ble_eq_true rfl) (by first | exact Nat.le_of_ble_eq_true rfl | (show _ + _ ≤ 262216; omega)) d_Md_init_37 (fun q37 H hP hD hS => ?_)
  have hP : va_P D vwCl [(q, .inr (6, [.int 0, .ref q7, .int 0, .ref q15, .int (1 : Int32), .int (1 : Int32), .int 0, .int (4 : Int32), .int 0, .int 0, .int 0, .int 0, .null, .int 0, .int 0, .int 0, .int 0, .int 0, .int 0, .int 0, .int 0, .int 0, .int 0, .int 0, .long 0, .long 0])), (q7, .inl (cB, 262144, .inl (fun _ => 0))), (q15, .inl (cI, 67, .inl (fun _ => 0))), (q37, .inl (cI, 5, .inl (fun _ => 0)))] H := hP
  have hD : va_D A [(q, .inr (6, [.int 0, .ref q7, .int 0, .ref q15, .int (1 : Int32), .int (1 : Int32), .int 0, .int (4 : Int32), .int 0, .int 0, .int 0, .int 0, .null, .int 0, .int 0, .int 0, .int 0, .int 0, .int 0, .int 0, .int 0, .int 0, .int 0, .int 0, .long 0, .long 0])), (q7, .inl (cB, 262144, .inl (fun _ => 0))), (q15, .inl (cI, 67, .inl (fun _ => 0))), (q37, .inl (cI, 5, .inl (fun _ => 0)))] := hD
  refine W.widen (k := 3) (n := 262216) (by omega) (by omega) ?_
  refine va_putF (D := D) (ci := 6) (v := .ref q37) (ty := .array (.int)) (C := R_Md) (T := T_Md) (N := 26) hx hb hT u_Md t_Md ut_Md un_Md hown hK hP hD hS 0 rfl rfl 12 (by decide) (hT _ f_Md_29) (fun _ h9 => h9) rfl hin rfl (by decide +kernel) rfl rfl (Nat.le_of_ble_eq_true rfl) d_Md_init_39 (fun H locs hP hD hS => ?_)
  have hP : va_P D vwCl [(q, .inr (6, [.int 0, .ref q7, .int 0, .ref q15, .int (1 : Int32), .int (1 : Int32), .int 0, .int (4 : Int32), .int 0, .int 0, .int 0, .int 0, .ref q37, .int 0, .int 0, .int 0, .int 0, .int 0, .int 0, .int 0, .int 0, .int 0, .int 0, .int 0, .long 0, .long 0])), (q7, .inl (cB, 262144, .inl (fun _ => 0))), (q15, .inl (cI, 67, .inl (fun _ => 0))), (q37, .inl (cI, 5, .inl (fun _ => 0)))] H := hP
  have hD : va_D A [(q, .inr (6, [.int 0, .ref q7, .int 0, .ref q15, .int (1 : Int32), .int (1 : Int32), .int 0, .int (4 : Int32), .int 0, .int 0, .int 0, .int 0, .ref q37, .int 0, .int 0, .int 0, .int 0, .int 0, .int 0, .int 0, .int 0, .int 0, .int 0, .int 0, .long 0, .long 0])), (q7, .inl (cB, 262144, .inl (fun _ => 0))), (q15, .inl (cI, 67, .inl (fun _ => 0))), (q37, .inl (cI, 5, .inl (fun _ => 0)))] := hD
  refine lv_aload_n hx hb d_Md_init_42 rfl (lv_at hl 0 rfl) ?_
  refine lv_iload_n hx hb d_Md_init_43 rfl (lv_at hl 1 rfl) ?_
  refine lv_sipush (v := 1024) hx hb d_Md_init_44 (by decide) ?_
  refine lv_icmp_ge (tgt := 56) hx hb d_Md_init_47 (by decide) (fun c_1 => ?_) (fun c_1 => ?_)
  · skip
    refine lv_iload_n hx hb d_Md_init_56 rfl (lv_at hl 1 rfl) ?_
    refine lv_ldc (v := 262144) hx hb hown (hT _ n_Md_7) d_Md_init_57 ?_
    refine lv_icmp_le (tgt := 67) hx hb d_Md_init_59 (by decide) (fun c_2 => ?_) (fun c_2 => ?_)
    · skip
      refine lv_iload_n hx hb d_Md_init_67 rfl (lv_at hl 1 rfl) ?_
      refine lv_bipush (v := -8) hx hb d_Md_init_68 (by decide) ?_
      refine lv_iand hx hb d_Md_init_70 ?_
      refine lv_topi (fun x9 ex9 => ?_)
      have ez9 : x9 = zz_size a0 := by rw [ex9]; first | rfl | exact (zz_size_lo c_1).symm | exact (zz_size_hi c_2).symm | exact (zz_size_mid c_1 c_2).symm
      subst ez9
      refine va_putF (D := D) (ci := 6) (v := .int (zz_size a0)) (ty := .int) (C := R_Md) (T := T_Md) (N := 26) hx hb hT u_Md t_Md ut_Md un_Md hown hK hP hD hS 0 rfl rfl 2 (by decide) (hT _ f_Md_32) (fun _ h9 => h9) rfl hin rfl (by decide +kernel) rfl rfl (Nat.le_of_ble_eq_true rfl) d_Md_init_71 (fun H locs hP hD hS => ?_)
      have hP : va_P D vwCl [(q, .inr (6, [.int 0, .ref q7, .int (zz_size a0), .ref q15, .int (1 : Int32), .int (1 : Int32), .int 0, .int (4 : Int32), .int 0, .int 0, .int 0, .int 0, .ref q37, .int 0, .int 0, .int 0, .int 0, .int 0, .int 0, .int 0, .int 0, .int 0, .int 0, .int 0, .long 0, .long 0])), (q7, .inl (cB, 262144, .inl (fun _ => 0))), (q15, .inl (cI, 67, .inl (fun _ => 0))), (q37, .inl (cI, 5, .inl (fun _ => 0)))] H := hP
      have hD : va_D A [(q, .inr (6, [.int 0, .ref q7, .int (zz_size a0), .ref q15, .int (1 : Int32), .int (1 : Int32), .int 0, .int (4 : Int32), .int 0, .int 0, .int 0, .int 0, .ref q37, .int 0, .int 0, .int 0, .int 0, .int 0, .int 0, .int 0, .int 0, .int 0, .int 0, .int 0, .long 0, .long 0])), (q7, .inl (cB, 262144, .inl (fun _ => 0))), (q15, .inl (cI, 67, .inl (fun _ => 0))), (q37, .inl (cI, 5, .inl (fun _ => 0)))] := hD
      have hP : va_P D vwCl (wD q q7 q15 q37 cI cB (zz_size a0) (fun k => if k = 1 ∨ k = 2 then 1 else if k = 4 then 4 else 0) 0 0 (fun _ => 0) (fun _ => 0) (fun _ => 0)) _ := hP.sub [0, 1, 2, 3] rfl
      have hD : va_D A (wD q q7 q15 q37 cI cB (zz_size a0) (fun k => if k = 1 ∨ k = 2 then 1 else if k = 4 then 4 else 0) 0 0 (fun _ => 0) (fun _ => 0) (fun _ => 0)) := hD.sub [0, 1, 2, 3] (by decide) rfl
      refine W.widen (k := 3) (n := 262216) (by omega) (by omega) ?_
      exact W.vret hx hb hr (fun t ht hW => ⟨⟨(q7, q15, q37), rfl, trivial, by rw [ht]; exact hP, hD⟩, hS.F ht⟩) hS.2.2 d_Md_init_74
    · skip
      refine lv_ldc (v := 262144) hx hb hown (hT _ n_Md_7) d_Md_init_62 ?_
      refine lv_goto (tgt := 68) hx hb d_Md_init_64 (by decide) ?_
      refine lv_bipush (v := -8) hx hb d_Md_init_68 (by decide) ?_
      refine lv_iand hx hb d_Md_init_70 ?_
      refine lv_topi (fun x9 ex9 => ?_)
      have ez9 : x9 = zz_size a0 := by rw [ex9]; first | rfl | exact (zz_size_lo c_1).symm | exact (zz_size_hi c_2).symm | exact (zz_size_mid c_1 c_2).symm
      subst ez9
      refine va_putF (D := D) (ci := 6) (v := .int (zz_size a0)) (ty := .int) (C := R_Md) (T := T_Md) (N := 26) hx hb hT u_Md t_Md ut_Md un_Md hown hK hP hD hS 0 rfl rfl 2 (by decide) (hT _ f_Md_32) (fun _ h9 => h9) rfl hin rfl (by decide +kernel) rfl rfl (Nat.le_of_ble_eq_true rfl) d_Md_init_71 (fun H locs hP hD hS => ?_)
      have hP : va_P D vwCl [(q, .inr (6, [.int 0, .ref q7, .int (zz_size a0), .ref q15, .int (1 : Int32), .int (1 : Int32), .int 0, .int (4 : Int32), .int 0, .int 0, .int 0, .int 0, .ref q37, .int 0, .int 0, .int 0, .int 0, .int 0, .int 0, .int 0, .int 0, .int 0, .int 0, .int 0, .long 0, .long 0])), (q7, .inl (cB, 262144, .inl (fun _ => 0))), (q15, .inl (cI, 67, .inl (fun _ => 0))), (q37, .inl (cI, 5, .inl (fun _ => 0)))] H := hP
      have hD : va_D A [(q, .inr (6, [.int 0, .ref q7, .int (zz_size a0), .ref q15, .int (1 : Int32), .int (1 : Int32), .int 0, .int (4 : Int32), .int 0, .int 0, .int 0, .int 0, .ref q37, .int 0, .int 0, .int 0, .int 0, .int 0, .int 0, .int 0, .int 0, .int 0, .int 0, .int 0, .long 0, .long 0])), (q7, .inl (cB, 262144, .inl (fun _ => 0))), (q15, .inl (cI, 67, .inl (fun _ => 0))), (q37, .inl (cI, 5, .inl (fun _ => 0)))] := hD
      have hP : va_P D vwCl (wD q q7 q15 q37 cI cB (zz_size a0) (fun k => if k = 1 ∨ k = 2 then 1 else if k = 4 then 4 else 0) 0 0 (fun _ => 0) (fun _ => 0) (fun _ => 0)) _ := hP.sub [0, 1, 2, 3] rfl
      have hD : va_D A (wD q q7 q15 q37 cI cB (zz_size a0) (fun k => if k = 1 ∨ k = 2 then 1 else if k = 4 then 4 else 0) 0 0 (fun _ => 0) (fun _ => 0) (fun _ => 0)) := hD.sub [0, 1, 2, 3] (by decide) rfl
      refine W.widen (k := 3) (n := 262216) (by omega) (by omega) ?_
      exact W.vret hx hb hr (fun t ht hW => ⟨⟨(q7, q15, q37), rfl, trivial, by rw [ht]; exact hP, hD⟩, hS.F ht⟩) hS.2.2 d_Md_init_74
  · skip
    refine lv_sipush (v := 1024) hx hb d_Md_init_50 (by decide) ?_
    refine lv_goto (tgt := 68) hx hb d_Md_init_53 (by decide) ?_
    refine lv_bipush (v := -8) hx hb d_Md_init_68 (by decide) ?_
    refine lv_iand hx hb d_Md_init_70 ?_
    refine lv_topi (fun x9 ex9 => ?_)
    have ez9 : x9 = zz_size a0 := by rw [ex9]; first | rfl | exact (zz_size_lo c_1).symm | exact (zz_size_hi c_2).symm | exact (zz_size_mid c_1 c_2).symm
    subst ez9
    refine va_putF (D := D) (ci := 6) (v := .int (zz_size a0)) (ty := .int) (C := R_Md) (T := T_Md) (N := 26) hx hb hT u_Md t_Md ut_Md un_Md hown hK hP hD hS 0 rfl rfl 2 (by decide) (hT _ f_Md_32) (fun _ h9 => h9) rfl hin rfl (by decide +kernel) rfl rfl (Nat.le_of_ble_eq_true rfl) d_Md_init_71 (fun H locs hP hD hS => ?_)
    have hP : va_P D vwCl [(q, .inr (6, [.int 0, .ref q7, .int (zz_size a0), .ref q15, .int (1 : Int32), .int (1 : Int32), .int 0, .int (4 : Int32), .int 0, .int 0, .int 0, .int 0, .ref q37, .int 0, .int 0, .int 0, .int 0, .int 0, .int 0, .int 0, .int 0, .int 0, .int 0, .int 0, .long 0, .long 0])), (q7, .inl (cB, 262144, .inl (fun _ => 0))), (q15, .inl (cI, 67, .inl (fun _ => 0))), (q37, .inl (cI, 5, .inl (fun _ => 0)))] H := hP
    have hD : va_D A [(q, .inr (6, [.int 0, .ref q7, .int (zz_size a0), .ref q15, .int (1 : Int32), .int (1 : Int32), .int 0, .int (4 : Int32), .int 0, .int 0, .int 0, .int 0, .ref q37, .int 0, .int 0, .int 0, .int 0, .int 0, .int 0, .int 0, .int 0, .int 0, .int 0, .int 0, .long 0, .long 0])), (q7, .inl (cB, 262144, .inl (fun _ => 0))), (q15, .inl (cI, 67, .inl (fun _ => 0))), (q37, .inl (cI, 5, .inl (fun _ => 0)))] := hD
    have hP : va_P D vwCl (wD q q7 q15 q37 cI cB (zz_size a0) (fun k => if k = 1 ∨ k = 2 then 1 else if k = 4 then 4 else 0) 0 0 (fun _ => 0) (fun _ => 0) (fun _ => 0)) _ := hP.sub [0, 1, 2, 3] rfl
    have hD : va_D A (wD q q7 q15 q37 cI cB (zz_size a0) (fun k => if k = 1 ∨ k = 2 then 1 else if k = 4 then 4 else 0) 0 0 (fun _ => 0) (fun _ => 0) (fun _ => 0)) := hD.sub [0, 1, 2, 3] (by decide) rfl
    refine W.widen (k := 3) (n := 262216) (by omega) (by omega) ?_
    exact W.vret hx hb hr (fun t ht hW => ⟨⟨(q7, q15, q37), rfl, trivial, by rw [ht]; exact hP, hD⟩, hS.F ht⟩) hS.2.2 d_Md_init_74
