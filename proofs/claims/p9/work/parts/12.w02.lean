def wp_Fr_multiply (L : Int32 × Int32 × Int32 × Int64) (O : Int32 × Int32 × Int32 × Int64) (P : ((Int32 × Int32 × Int32 × Int64) × (Int32 × Int32 × Int32 × Int64)) → Prop) : Prop := ((L.1 = O.1 → ((L.2.1 = (1 : Int32) → ((O.2.1 = (1 : Int32) → wp_Fr_multiplyFinite ((0 : Int32), L.2.1, L.2.2.1, L.2.2.2) O.2.2.2 O.2.2.1 (fun u_44 => P (u_44, O))) ∧ (¬ O.2.1 = (1 : Int32) → ((L.2.1 = (0 : Int32) → ((O.2.1 = (2 : Int32) → P (((0 : Int32), (3 : Int32), L.2.2.1, L.2.2.2), O)) ∧ (¬ O.2.1 = (2 : Int32) → ((L.2.1 = (2 : Int32) → ((O.2.1 = (0 : Int32) → P (((0 : Int32), (3 : Int32), L.2.2.1, L.2.2.2), O)) ∧ (¬ O.2.1 = (0 : Int32) → ∀ x_42 : Int32, x_42 = (if L.2.1 < O.2.1 then O.2.1 else L.2.1) → ((x_42 = (3 : Int32) → P (((0 : Int32), (3 : Int32), L.2.2.1, L.2.2.2), O)) ∧ (¬ x_42 = (3 : Int32) → P (((0 : Int32), (0 : Int32), L.2.2.1, L.2.2.2), O)))))) ∧ (¬ L.2.1 = (2 : Int32) → ∀ x_38 : Int32, x_38 = (if L.2.1 < O.2.1 then O.2.1 else L.2.1) → ((x_38 = (3 : Int32) → P (((0 : Int32), (3 : Int32), L.2.2.1, L.2.2.2), O)) ∧ (¬ x_38 = (3 : Int32) → P (((0 : Int32), (0 : Int32), L.2.2.1, L.2.2.2), O)))))))) ∧ (¬ L.2.1 = (0 : Int32) → ((L.2.1 = (2 : Int32) → ((O.2.1 = (0 : Int32) → P (((0 : Int32), (3 : Int32), L.2.2.1, L.2.2.2), O)) ∧ (¬ O.2.1 = (0 : Int32) → ∀ x_34 : Int32, x_34 = (if L.2.1 < O.2.1 then O.2.1 else L.2.1) → P (((0 : Int32), x_34, L.2.2.1, L.2.2.2), O)))) ∧ (¬ L.2.1 = (2 : Int32) → ((O.2.1 = (0 : Int32) → ∀ x_29 : Int32, x_29 = (if L.2.1 < O.2.1 then O.2.1 else L.2.1) → ((x_29 = (3 : Int32) → P (((0 : Int32), (3 : Int32), L.2.2.1, L.2.2.2), O)) ∧ (¬ x_29 = (3 : Int32) → P (((0 : Int32), (0 : Int32), L.2.2.1, L.2.2.2), O)))) ∧ (¬ O.2.1 = (0 : Int32) → ∀ x_28 : Int32, x_28 = (if L.2.1 < O.2.1 then O.2.1 else L.2.1) → P (((0 : Int32), x_28, L.2.2.1, L.2.2.2), O)))))))))) ∧ (¬ L.2.1 = (1 : Int32) → ((L.2.1 = (0 : Int32) → ((O.2.1 = (2 : Int32) → P (((0 : Int32), (3 : Int32), L.2.2.1, L.2.2.2), O)) ∧ (¬ O.2.1 = (2 : Int32) → ((L.2.1 = (2 : Int32) → ((O.2.1 = (0 : Int32) → P (((0 : Int32), (3 : Int32), L.2.2.1, L.2.2.2), O)) ∧ (¬ O.2.1 = (0 : Int32) → ∀ x_21 : Int32, x_21 = (if L.2.1 < O.2.1 then O.2.1 else L.2.1) → ((x_21 = (3 : Int32) → P (((0 : Int32), (3 : Int32), L.2.2.1, L.2.2.2), O)) ∧ (¬ x_21 = (3 : Int32) → P (((0 : Int32), (0 : Int32), L.2.2.1, L.2.2.2), O)))))) ∧ (¬ L.2.1 = (2 : Int32) → ∀ x_17 : Int32, x_17 = (if L.2.1 < O.2.1 then O.2.1 else L.2.1) → ((x_17 = (3 : Int32) → P (((0 : Int32), (3 : Int32), L.2.2.1, L.2.2.2), O)) ∧ (¬ x_17 = (3 : Int32) → P (((0 : Int32), (0 : Int32), L.2.2.1, L.2.2.2), O)))))))) ∧ (¬ L.2.1 = (0 : Int32) → ((L.2.1 = (2 : Int32) → ((O.2.1 = (0 : Int32) → P (((0 : Int32), (3 : Int32), L.2.2.1, L.2.2.2), O)) ∧ (¬ O.2.1 = (0 : Int32) → ∀ x_13 : Int32, x_13 = (if L.2.1 < O.2.1 then O.2.1 else L.2.1) → P (((0 : Int32), x_13, L.2.2.1, L.2.2.2), O)))) ∧ (¬ L.2.1 = (2 : Int32) → ((O.2.1 = (0 : Int32) → ∀ x_8 : Int32, x_8 = (if L.2.1 < O.2.1 then O.2.1 else L.2.1) → ((x_8 = (3 : Int32) → P (((0 : Int32), (3 : Int32), L.2.2.1, L.2.2.2), O)) ∧ (¬ x_8 = (3 : Int32) → P (((0 : Int32), (0 : Int32), L.2.2.1, L.2.2.2), O)))) ∧ (¬ O.2.1 = (0 : Int32) → ∀ x_7 : Int32, x_7 = (if L.2.1 < O.2.1 then O.2.1 else L.2.1) → P (((0 : Int32), x_7, L.2.2.1, L.2.2.2), O)))))))))) ∧ (¬ L.1 = O.1 → ((L.2.1 = (1 : Int32) → ((O.2.1 = (1 : Int32) → wp_Fr_multiplyFinite ((1 : Int32), L.2.1, L.2.2.1, L.2.2.2) O.2.2.2 O.2.2.1 (fun u_88 => P (u_88, O))) ∧ (¬ O.2.1 = (1 : Int32) → ((L.2.1 = (0 : Int32) → ((O.2.1 = (2 : Int32) → P (((1 : Int32), (3 : Int32), L.2.2.1, L.2.2.2), O)) ∧ (¬ O.2.1 = (2 : Int32) → ((L.2.1 = (2 : Int32) → ((O.2.1 = (0 : Int32) → P (((1 : Int32), (3 : Int32), L.2.2.1, L.2.2.2), O)) ∧ (¬ O.2.1 = (0 : Int32) → ∀ x_86 : Int32, x_86 = (if L.2.1 < O.2.1 then O.2.1 else L.2.1) → ((x_86 = (3 : Int32) → P (((1 : Int32), (3 : Int32), L.2.2.1, L.2.2.2), O)) ∧ (¬ x_86 = (3 : Int32) → P (((1 : Int32), (0 : Int32), L.2.2.1, L.2.2.2), O)))))) ∧ (¬ L.2.1 = (2 : Int32) → ∀ x_82 : Int32, x_82 = (if L.2.1 < O.2.1 then O.2.1 else L.2.1) → ((x_82 = (3 : Int32) → P (((1 : Int32), (3 : Int32), L.2.2.1, L.2.2.2), O)) ∧ (¬ x_82 = (3 : Int32) → P (((1 : Int32), (0 : Int32), L.2.2.1, L.2.2.2), O)))))))) ∧ (¬ L.2.1 = (0 : Int32) → ((L.2.1 = (2 : Int32) → ((O.2.1 = (0 : Int32) → P (((1 : Int32), (3 : Int32), L.2.2.1, L.2.2.2), O)) ∧ (¬ O.2.1 = (0 : Int32) → ∀ x_78 : Int32, x_78 = (if L.2.1 < O.2.1 then O.2.1 else L.2.1) → P (((1 : Int32), x_78, L.2.2.1, L.2.2.2), O)))) ∧ (¬ L.2.1 = (2 : Int32) → ((O.2.1 = (0 : Int32) → ∀ x_73 : Int32, x_73 = (if L.2.1 < O.2.1 then O.2.1 else L.2.1) → ((x_73 = (3 : Int32) → P (((1 : Int32), (3 : Int32), L.2.2.1, L.2.2.2), O)) ∧ (¬ x_73 = (3 : Int32) → P (((1 : Int32), (0 : Int32), L.2.2.1, L.2.2.2), O)))) ∧ (¬ O.2.1 = (0 : Int32) → ∀ x_72 : Int32, x_72 = (if L.2.1 < O.2.1 then O.2.1 else L.2.1) → P (((1 : Int32), x_72, L.2.2.1, L.2.2.2), O)))))))))) ∧ (¬ L.2.1 = (1 : Int32) → ((L.2.1 = (0 : Int32) → ((O.2.1 = (2 : Int32) → P (((1 : Int32), (3 : Int32), L.2.2.1, L.2.2.2), O)) ∧ (¬ O.2.1 = (2 : Int32) → ((L.2.1 = (2 : Int32) → ((O.2.1 = (0 : Int32) → P (((1 : Int32), (3 : Int32), L.2.2.1, L.2.2.2), O)) ∧ (¬ O.2.1 = (0 : Int32) → ∀ x_65 : Int32, x_65 = (if L.2.1 < O.2.1 then O.2.1 else L.2.1) → ((x_65 = (3 : Int32) → P (((1 : Int32), (3 : Int32), L.2.2.1, L.2.2.2), O)) ∧ (¬ x_65 = (3 : Int32) → P (((1 : Int32), (0 : Int32), L.2.2.1, L.2.2.2), O)))))) ∧ (¬ L.2.1 = (2 : Int32) → ∀ x_61 : Int32, x_61 = (if L.2.1 < O.2.1 then O.2.1 else L.2.1) → ((x_61 = (3 : Int32) → P (((1 : Int32), (3 : Int32), L.2.2.1, L.2.2.2), O)) ∧ (¬ x_61 = (3 : Int32) → P (((1 : Int32), (0 : Int32), L.2.2.1, L.2.2.2), O)))))))) ∧ (¬ L.2.1 = (0 : Int32) → ((L.2.1 = (2 : Int32) → ((O.2.1 = (0 : Int32) → P (((1 : Int32), (3 : Int32), L.2.2.1, L.2.2.2), O)) ∧ (¬ O.2.1 = (0 : Int32) → ∀ x_57 : Int32, x_57 = (if L.2.1 < O.2.1 then O.2.1 else L.2.1) → P (((1 : Int32), x_57, L.2.2.1, L.2.2.2), O)))) ∧ (¬ L.2.1 = (2 : Int32) → ((O.2.1 = (0 : Int32) → ∀ x_52 : Int32, x_52 = (if L.2.1 < O.2.1 then O.2.1 else L.2.1) → ((x_52 = (3 : Int32) → P (((1 : Int32), (3 : Int32), L.2.2.1, L.2.2.2), O)) ∧ (¬ x_52 = (3 : Int32) → P (((1 : Int32), (0 : Int32), L.2.2.1, L.2.2.2), O)))) ∧ (¬ O.2.1 = (0 : Int32) → ∀ x_51 : Int32, x_51 = (if L.2.1 < O.2.1 then O.2.1 else L.2.1) → P (((1 : Int32), x_51, L.2.2.1, L.2.2.2), O)))))))))))
abbrev rm_Fr_multiply : Room := { frames := 2, cells := 0, slots := 0, locals := 65 }
set_option maxHeartbeats 4000000 in
set_option maxRecDepth 100000 in
theorem c_Fr_multiply (l : Launch) (D : va_G) (cI : ClassId) (q : Nat) (qo : Nat) (L : Int32 × Int32 × Int32 × Int64) (O : Int32 × Int32 × Int32 × Int64) (P : ((Int32 × Int32 × Int32 × Int64) × (Int32 × Int32 × Int32 × Int64)) → Prop) (h : wp_Fr_multiply L O P) (sz : Nat) : Met l y_Fr_multiply (zz_ws y_Fr_multiply b_Fr_multiply 2 none) rm_Fr_multiply (va_Pc [.ref q, .ref qo] (zz_pw D [(cI, .int)] (wF2 q qo L O) sz)) (va_Qv P (zz_qw D (fun u => wF2 q qo u.1 u.2) (va_A (wF2 q qo L O) sz)) (va_A (wF2 q qo L O) sz)) 0 0 (va_A (wF2 q qo L O) sz) := by
  refine Met.ofW (cc := b_Fr_multiply) (maxL := 2) (ret := none) (by decide) rfl ?_
  intro p e s m args below meth c s₁ B hml hv
  obtain ⟨rfl, hsz, hP, hK, hD0⟩ := hv
  have hx := B.exec
  have hb := B.bytes
  have hr := B.returns
  have hts := atoms_spec (ws := (zz_ws y_Fr_multiply b_Fr_multiply 2 none)) B.pre
  have hown : s.vm.findClass R_Fr = some m.cls := findClass_of_methodNamed B.named
  have hlocks := B.notSynchronized
  have hT := zz_hts hts
  have X : CallFix p m c b_Fr_multiply 2 s ([.ref q, .ref qo] : List Value).toArray (zz_ws y_Fr_multiply b_Fr_multiply 2 none) R_Fr := ⟨hx, hb, hml, hown, hts⟩
  have hf0 : 0 + 0 ≤ (headSpec (zz_ws y_Fr_multiply b_Fr_multiply 2 none) rm_Fr_multiply).room.cells ∧ 0 + 0 ≤ (headSpec (zz_ws y_Fr_multiply b_Fr_multiply 2 none) rm_Fr_multiply).room.slots := ⟨Nat.le_of_ble_eq_true rfl, Nat.le_of_ble_eq_true rfl⟩
  subst hsz
  have hD := hD0.self (sz := s.heap.size)
  generalize hAe : va_A (wF2 q qo L O) s.heap.size = A at hD ⊢
  have hA : ∀ q : Nat, s.heap.size ≤ q → A q := fun q h => by rw [← hAe]; exact Or.inr h
  have hS : va_S A s.heap s.heap [] := va_S.rf
  have hl := lv_entry ([.ref q, .ref qo]) (n := 2) (Nat.le_of_ble_eq_true rfl)
  rw [lg_entry_eq]
  generalize (lg_sl ([.ref q, .ref qo]) ++ List.replicate (2 - (lg_sl ([.ref q, .ref qo])).length) Slot.unset).toArray = ls at hl ⊢
  have hl : lv_has ls 2 [(0, .ref q), (1, .ref qo)] := hl
  refine lv_aload_n hx hb d_Fr_multiply_0 rfl (lv_at hl 0 rfl) ?_
  refine lv_aload_n hx hb d_Fr_multiply_1 rfl (lv_at hl 0 rfl) ?_
  refine g_Fr_13 (v := .int L.1) hx hb hT hown hK hP 0 rfl rfl d_Fr_multiply_2 ?_
  refine lv_aload_n hx hb d_Fr_multiply_5 rfl (lv_at hl 1 rfl) ?_
  refine g_Fr_13 (v := .int O.1) hx hb hT hown hK hP 1 rfl rfl d_Fr_multiply_6 ?_
  refine lv_icmp_eq (tgt := 16) hx hb d_Fr_multiply_9 (by decide) (fun c_1 => ?_) (fun c_1 => ?_)
  · skip
    have h := h.1 c_1
    refine lv_iconst (v := 0) hx hb d_Fr_multiply_16 (by decide) ?_
    refine p_Fr_13 hx hb hT hown hK hP hD hS 0 rfl rfl (Or.inl rfl) d_Fr_multiply_17 (fun H locs (hP : va_P D vwCl (wF2 q qo ((0 : Int32), L.2.1, L.2.2.1, L.2.2.2) O) H) (hD : va_D A (wF2 q qo ((0 : Int32), L.2.1, L.2.2.1, L.2.2.2) O)) hS => ?_)
    refine lv_aload_n hx hb d_Fr_multiply_20 rfl (lv_at hl 0 rfl) ?_
    refine g_Fr_17 (v := .int L.2.1) hx hb hT hown hK hP 0 rfl rfl d_Fr_multiply_21 ?_
    refine lv_iconst (v := 1) hx hb d_Fr_multiply_24 (by decide) ?_
    refine lv_icmp_ne (tgt := 51) hx hb d_Fr_multiply_25 (by decide) (fun c_2 => ?_) (fun c_2 => ?_)
    · skip
      have h := h.2 c_2
      refine lv_aload_n hx hb d_Fr_multiply_51 rfl (lv_at hl 0 rfl) ?_
      refine g_Fr_17 (v := .int L.2.1) hx hb hT hown hK hP 0 rfl rfl d_Fr_multiply_52 ?_
      refine lv_if_ne (tgt := 66) hx hb d_Fr_multiply_55 (by decide) (fun c_3 => ?_) (fun c_3 => ?_)
      · skip
        have h := h.2 c_3
        refine lv_aload_n hx hb d_Fr_multiply_66 rfl (lv_at hl 0 rfl) ?_
        refine g_Fr_17 (v := .int L.2.1) hx hb hT hown hK hP 0 rfl rfl d_Fr_multiply_67 ?_
        refine lv_iconst (v := 2) hx hb d_Fr_multiply_70 (by decide) ?_
        refine lv_icmp_ne (tgt := 89) hx hb d_Fr_multiply_71 (by decide) (fun c_4 => ?_) (fun c_4 => ?_)
        · skip
          have h := h.2 c_4
          refine lv_aload_n hx hb d_Fr_multiply_89 rfl (lv_at hl 0 rfl) ?_
          refine g_Fr_17 (v := .int L.2.1) hx hb hT hown hK hP 0 rfl rfl d_Fr_multiply_90 ?_
          refine lv_if_eq (tgt := 103) hx hb d_Fr_multiply_93 (by decide) (fun c_5 => ?_) (fun c_5 => ?_)
          · exact absurd c_5 c_3
          · skip
            refine lv_aload_n hx hb d_Fr_multiply_96 rfl (lv_at hl 1 rfl) ?_
            refine g_Fr_17 (v := .int O.2.1) hx hb hT hown hK hP 1 rfl rfl d_Fr_multiply_97 ?_
            refine lv_if_ne (tgt := 130) hx hb d_Fr_multiply_100 (by decide) (fun c_6 => ?_) (fun c_6 => ?_)
            · skip
              have h := h.2 c_6
              refine lv_aload_n hx hb d_Fr_multiply_130 rfl (lv_at hl 0 rfl) ?_
              refine lv_aload_n hx hb d_Fr_multiply_131 rfl (lv_at hl 0 rfl) ?_
              refine g_Fr_17 (v := .int L.2.1) hx hb hT hown hK hP 0 rfl rfl d_Fr_multiply_132 ?_
              refine lv_aload_n hx hb d_Fr_multiply_135 rfl (lv_at hl 1 rfl) ?_
              refine g_Fr_17 (v := .int O.2.1) hx hb hT hown hK hP 1 rfl rfl d_Fr_multiply_136 ?_
              refine va_mmax hx hb (hml.trans hl.1.symm) hown (hT _ k_Fr_60) (hT _ jm_max_s) (hT _ jm_i) (hT _ jm_max_c) (Nat.le_of_ble_eq_true rfl) (Nat.le_of_ble_eq_true rfl) (Nat.le_of_ble_eq_true rfl) (Nat.le_of_ble_eq_true rfl) d_Fr_multiply_139 ?_
              refine lv_topi (fun x_7 ex_7 => ?_)
              have h := h x_7 ex_7
              refine p_Fr_17 hx hb hT hown hK hP hD hS 0 rfl rfl d_Fr_multiply_142 (fun H locs (hP : va_P D vwCl (wF2 q qo ((0 : Int32), x_7, L.2.2.1, L.2.2.2) O) H) (hD : va_D A (wF2 q qo ((0 : Int32), x_7, L.2.2.1, L.2.2.2) O)) hS => ?_)
              exact W.vret hx hb hr (fun t ht hW => ⟨⟨(((0 : Int32), x_7, L.2.2.1, L.2.2.2), O), rfl, h, by rw [ht]; exact hP, hD⟩, hS.F ht⟩) hS.2.2 d_Fr_multiply_145
            · skip
              have h := h.1 c_6
              refine lv_aload_n hx hb d_Fr_multiply_103 rfl (lv_at hl 0 rfl) ?_
              refine lv_aload_n hx hb d_Fr_multiply_104 rfl (lv_at hl 0 rfl) ?_
              refine g_Fr_17 (v := .int L.2.1) hx hb hT hown hK hP 0 rfl rfl d_Fr_multiply_105 ?_
              refine lv_aload_n hx hb d_Fr_multiply_108 rfl (lv_at hl 1 rfl) ?_
              refine g_Fr_17 (v := .int O.2.1) hx hb hT hown hK hP 1 rfl rfl d_Fr_multiply_109 ?_
              refine va_mmax hx hb (hml.trans hl.1.symm) hown (hT _ k_Fr_60) (hT _ jm_max_s) (hT _ jm_i) (hT _ jm_max_c) (Nat.le_of_ble_eq_true rfl) (Nat.le_of_ble_eq_true rfl) (Nat.le_of_ble_eq_true rfl) (Nat.le_of_ble_eq_true rfl) d_Fr_multiply_112 ?_
              refine lv_topi (fun x_8 ex_8 => ?_)
              have h := h x_8 ex_8
              refine lv_iconst (v := 3) hx hb d_Fr_multiply_115 (by decide) ?_
              refine lv_icmp_ne (tgt := 123) hx hb d_Fr_multiply_116 (by decide) (fun c_9 => ?_) (fun c_9 => ?_)
              · skip
                have h := h.2 c_9
                refine lv_iconst (v := 0) hx hb d_Fr_multiply_123 (by decide) ?_
                refine p_Fr_17 hx hb hT hown hK hP hD hS 0 rfl rfl d_Fr_multiply_124 (fun H locs (hP : va_P D vwCl (wF2 q qo ((0 : Int32), (0 : Int32), L.2.2.1, L.2.2.2) O) H) (hD : va_D A (wF2 q qo ((0 : Int32), (0 : Int32), L.2.2.1, L.2.2.2) O)) hS => ?_)
                refine lv_goto (tgt := 145) hx hb d_Fr_multiply_127 (by decide) ?_
                exact W.vret hx hb hr (fun t ht hW => ⟨⟨(((0 : Int32), (0 : Int32), L.2.2.1, L.2.2.2), O), rfl, h, by rw [ht]; exact hP, hD⟩, hS.F ht⟩) hS.2.2 d_Fr_multiply_145
              · skip
                have h := h.1 c_9
                refine lv_iconst (v := 3) hx hb d_Fr_multiply_119 (by decide) ?_
                refine lv_goto (tgt := 124) hx hb d_Fr_multiply_120 (by decide) ?_
                refine p_Fr_17 hx hb hT hown hK hP hD hS 0 rfl rfl d_Fr_multiply_124 (fun H locs (hP : va_P D vwCl (wF2 q qo ((0 : Int32), (3 : Int32), L.2.2.1, L.2.2.2) O) H) (hD : va_D A (wF2 q qo ((0 : Int32), (3 : Int32), L.2.2.1, L.2.2.2) O)) hS => ?_)
                refine lv_goto (tgt := 145) hx hb d_Fr_multiply_127 (by decide) ?_
                exact W.vret hx hb hr (fun t ht hW => ⟨⟨(((0 : Int32), (3 : Int32), L.2.2.1, L.2.2.2), O), rfl, h, by rw [ht]; exact hP, hD⟩, hS.F ht⟩) hS.2.2 d_Fr_multiply_145
        · skip
          have h := h.1 c_4
          refine lv_aload_n hx hb d_Fr_multiply_74 rfl (lv_at hl 1 rfl) ?_
          refine g_Fr_17 (v := .int O.2.1) hx hb hT hown hK hP 1 rfl rfl d_Fr_multiply_75 ?_
          refine lv_if_ne (tgt := 89) hx hb d_Fr_multiply_78 (by decide) (fun c_10 => ?_) (fun c_10 => ?_)
          · skip
            have h := h.2 c_10
            refine lv_aload_n hx hb d_Fr_multiply_89 rfl (lv_at hl 0 rfl) ?_
            refine g_Fr_17 (v := .int L.2.1) hx hb hT hown hK hP 0 rfl rfl d_Fr_multiply_90 ?_
            refine lv_if_eq (tgt := 103) hx hb d_Fr_multiply_93 (by decide) (fun c_11 => ?_) (fun c_11 => ?_)
            · exact absurd c_11 c_3
            · skip
              refine lv_aload_n hx hb d_Fr_multiply_96 rfl (lv_at hl 1 rfl) ?_
              refine g_Fr_17 (v := .int O.2.1) hx hb hT hown hK hP 1 rfl rfl d_Fr_multiply_97 ?_
              refine lv_if_ne (tgt := 130) hx hb d_Fr_multiply_100 (by decide) (fun c_12 => ?_) (fun c_12 => ?_)
              · skip
                refine lv_aload_n hx hb d_Fr_multiply_130 rfl (lv_at hl 0 rfl) ?_
                refine lv_aload_n hx hb d_Fr_multiply_131 rfl (lv_at hl 0 rfl) ?_
                refine g_Fr_17 (v := .int L.2.1) hx hb hT hown hK hP 0 rfl rfl d_Fr_multiply_132 ?_
                refine lv_aload_n hx hb d_Fr_multiply_135 rfl (lv_at hl 1 rfl) ?_
                refine g_Fr_17 (v := .int O.2.1) hx hb hT hown hK hP 1 rfl rfl d_Fr_multiply_136 ?_
                refine va_mmax hx hb (hml.trans hl.1.symm) hown (hT _ k_Fr_60) (hT _ jm_max_s) (hT _ jm_i) (hT _ jm_max_c) (Nat.le_of_ble_eq_true rfl) (Nat.le_of_ble_eq_true rfl) (Nat.le_of_ble_eq_true rfl) (Nat.le_of_ble_eq_true rfl) d_Fr_multiply_139 ?_
                refine lv_topi (fun x_13 ex_13 => ?_)
                have h := h x_13 ex_13
                refine p_Fr_17 hx hb hT hown hK hP hD hS 0 rfl rfl d_Fr_multiply_142 (fun H locs (hP : va_P D vwCl (wF2 q qo ((0 : Int32), x_13, L.2.2.1, L.2.2.2) O) H) (hD : va_D A (wF2 q qo ((0 : Int32), x_13, L.2.2.1, L.2.2.2) O)) hS => ?_)
                exact W.vret hx hb hr (fun t ht hW => ⟨⟨(((0 : Int32), x_13, L.2.2.1, L.2.2.2), O), rfl, h, by rw [ht]; exact hP, hD⟩, hS.F ht⟩) hS.2.2 d_Fr_multiply_145
              · exact absurd c_12 c_10
          · skip
            have h := h.1 c_10
            refine lv_aload_n hx hb d_Fr_multiply_81 rfl (lv_at hl 0 rfl) ?_
            refine lv_iconst (v := 3) hx hb d_Fr_multiply_82 (by decide) ?_
            refine p_Fr_17 hx hb hT hown hK hP hD hS 0 rfl rfl d_Fr_multiply_83 (fun H locs (hP : va_P D vwCl (wF2 q qo ((0 : Int32), (3 : Int32), L.2.2.1, L.2.2.2) O) H) (hD : va_D A (wF2 q qo ((0 : Int32), (3 : Int32), L.2.2.1, L.2.2.2) O)) hS => ?_)
            refine lv_goto (tgt := 145) hx hb d_Fr_multiply_86 (by decide) ?_
            exact W.vret hx hb hr (fun t ht hW => ⟨⟨(((0 : Int32), (3 : Int32), L.2.2.1, L.2.2.2), O), rfl, h, by rw [ht]; exact hP, hD⟩, hS.F ht⟩) hS.2.2 d_Fr_multiply_145
      · skip
        have h := h.1 c_3
        refine lv_aload_n hx hb d_Fr_multiply_58 rfl (lv_at hl 1 rfl) ?_
        refine g_Fr_17 (v := .int O.2.1) hx hb hT hown hK hP 1 rfl rfl d_Fr_multiply_59 ?_
        refine lv_iconst (v := 2) hx hb d_Fr_multiply_62 (by decide) ?_
        refine lv_icmp_eq (tgt := 81) hx hb d_Fr_multiply_63 (by decide) (fun c_14 => ?_) (fun c_14 => ?_)
        · skip
          have h := h.1 c_14
          refine lv_aload_n hx hb d_Fr_multiply_81 rfl (lv_at hl 0 rfl) ?_
          refine lv_iconst (v := 3) hx hb d_Fr_multiply_82 (by decide) ?_
          refine p_Fr_17 hx hb hT hown hK hP hD hS 0 rfl rfl d_Fr_multiply_83 (fun H locs (hP : va_P D vwCl (wF2 q qo ((0 : Int32), (3 : Int32), L.2.2.1, L.2.2.2) O) H) (hD : va_D A (wF2 q qo ((0 : Int32), (3 : Int32), L.2.2.1, L.2.2.2) O)) hS => ?_)
          refine lv_goto (tgt := 145) hx hb d_Fr_multiply_86 (by decide) ?_
          exact W.vret hx hb hr (fun t ht hW => ⟨⟨(((0 : Int32), (3 : Int32), L.2.2.1, L.2.2.2), O), rfl, h, by rw [ht]; exact hP, hD⟩, hS.F ht⟩) hS.2.2 d_Fr_multiply_145
        · skip
          have h := h.2 c_14
          refine lv_aload_n hx hb d_Fr_multiply_66 rfl (lv_at hl 0 rfl) ?_
          refine g_Fr_17 (v := .int L.2.1) hx hb hT hown hK hP 0 rfl rfl d_Fr_multiply_67 ?_
          refine lv_iconst (v := 2) hx hb d_Fr_multiply_70 (by decide) ?_
          refine lv_icmp_ne (tgt := 89) hx hb d_Fr_multiply_71 (by decide) (fun c_15 => ?_) (fun c_15 => ?_)
          · skip
            have h := h.2 c_15
            refine lv_aload_n hx hb d_Fr_multiply_89 rfl (lv_at hl 0 rfl) ?_
            refine g_Fr_17 (v := .int L.2.1) hx hb hT hown hK hP 0 rfl rfl d_Fr_multiply_90 ?_
            refine lv_if_eq (tgt := 103) hx hb d_Fr_multiply_93 (by decide) (fun c_16 => ?_) (fun c_16 => ?_)
            · skip
              refine lv_aload_n hx hb d_Fr_multiply_103 rfl (lv_at hl 0 rfl) ?_
              refine lv_aload_n hx hb d_Fr_multiply_104 rfl (lv_at hl 0 rfl) ?_
              refine g_Fr_17 (v := .int L.2.1) hx hb hT hown hK hP 0 rfl rfl d_Fr_multiply_105 ?_
              refine lv_aload_n hx hb d_Fr_multiply_108 rfl (lv_at hl 1 rfl) ?_
              refine g_Fr_17 (v := .int O.2.1) hx hb hT hown hK hP 1 rfl rfl d_Fr_multiply_109 ?_
              refine va_mmax hx hb (hml.trans hl.1.symm) hown (hT _ k_Fr_60) (hT _ jm_max_s) (hT _ jm_i) (hT _ jm_max_c) (Nat.le_of_ble_eq_true rfl) (Nat.le_of_ble_eq_true rfl) (Nat.le_of_ble_eq_true rfl) (Nat.le_of_ble_eq_true rfl) d_Fr_multiply_112 ?_
              refine lv_topi (fun x_17 ex_17 => ?_)
              have h := h x_17 ex_17
              refine lv_iconst (v := 3) hx hb d_Fr_multiply_115 (by decide) ?_
              refine lv_icmp_ne (tgt := 123) hx hb d_Fr_multiply_116 (by decide) (fun c_18 => ?_) (fun c_18 => ?_)
              · skip
                have h := h.2 c_18
                refine lv_iconst (v := 0) hx hb d_Fr_multiply_123 (by decide) ?_
                refine p_Fr_17 hx hb hT hown hK hP hD hS 0 rfl rfl d_Fr_multiply_124 (fun H locs (hP : va_P D vwCl (wF2 q qo ((0 : Int32), (0 : Int32), L.2.2.1, L.2.2.2) O) H) (hD : va_D A (wF2 q qo ((0 : Int32), (0 : Int32), L.2.2.1, L.2.2.2) O)) hS => ?_)
                refine lv_goto (tgt := 145) hx hb d_Fr_multiply_127 (by decide) ?_
                exact W.vret hx hb hr (fun t ht hW => ⟨⟨(((0 : Int32), (0 : Int32), L.2.2.1, L.2.2.2), O), rfl, h, by rw [ht]; exact hP, hD⟩, hS.F ht⟩) hS.2.2 d_Fr_multiply_145
              · skip
                have h := h.1 c_18
                refine lv_iconst (v := 3) hx hb d_Fr_multiply_119 (by decide) ?_
                refine lv_goto (tgt := 124) hx hb d_Fr_multiply_120 (by decide) ?_
                refine p_Fr_17 hx hb hT hown hK hP hD hS 0 rfl rfl d_Fr_multiply_124 (fun H locs (hP : va_P D vwCl (wF2 q qo ((0 : Int32), (3 : Int32), L.2.2.1, L.2.2.2) O) H) (hD : va_D A (wF2 q qo ((0 : Int32), (3 : Int32), L.2.2.1, L.2.2.2) O)) hS => ?_)
                refine lv_goto (tgt := 145) hx hb d_Fr_multiply_127 (by decide) ?_
                exact W.vret hx hb hr (fun t ht hW => ⟨⟨(((0 : Int32), (3 : Int32), L.2.2.1, L.2.2.2), O), rfl, h, by rw [ht]; exact hP, hD⟩, hS.F ht⟩) hS.2.2 d_Fr_multiply_145
            · exact absurd c_3 c_16
          · skip
            have h := h.1 c_15
            refine lv_aload_n hx hb d_Fr_multiply_74 rfl (lv_at hl 1 rfl) ?_
            refine g_Fr_17 (v := .int O.2.1) hx hb hT hown hK hP 1 rfl rfl d_Fr_multiply_75 ?_
            refine lv_if_ne (tgt := 89) hx hb d_Fr_multiply_78 (by decide) (fun c_19 => ?_) (fun c_19 => ?_)
            · skip
              have h := h.2 c_19
              refine lv_aload_n hx hb d_Fr_multiply_89 rfl (lv_at hl 0 rfl) ?_
              refine g_Fr_17 (v := .int L.2.1) hx hb hT hown hK hP 0 rfl rfl d_Fr_multiply_90 ?_
              refine lv_if_eq (tgt := 103) hx hb d_Fr_multiply_93 (by decide) (fun c_20 => ?_) (fun c_20 => ?_)
              · skip
                refine lv_aload_n hx hb d_Fr_multiply_103 rfl (lv_at hl 0 rfl) ?_
                refine lv_aload_n hx hb d_Fr_multiply_104 rfl (lv_at hl 0 rfl) ?_
                refine g_Fr_17 (v := .int L.2.1) hx hb hT hown hK hP 0 rfl rfl d_Fr_multiply_105 ?_
                refine lv_aload_n hx hb d_Fr_multiply_108 rfl (lv_at hl 1 rfl) ?_
                refine g_Fr_17 (v := .int O.2.1) hx hb hT hown hK hP 1 rfl rfl d_Fr_multiply_109 ?_
                refine va_mmax hx hb (hml.trans hl.1.symm) hown (hT _ k_Fr_60) (hT _ jm_max_s) (hT _ jm_i) (hT _ jm_max_c) (Nat.le_of_ble_eq_true rfl) (Nat.le_of_ble_eq_true rfl) (Nat.le_of_ble_eq_true rfl) (Nat.le_of_ble_eq_true rfl) d_Fr_multiply_112 ?_
                refine lv_topi (fun x_21 ex_21 => ?_)
                have h := h x_21 ex_21
                refine lv_iconst (v := 3) hx hb d_Fr_multiply_115 (by decide) ?_
                refine lv_icmp_ne (tgt := 123) hx hb d_Fr_multiply_116 (by decide) (fun c_22 => ?_) (fun c_22 => ?_)
                · skip
                  have h := h.2 c_22
                  refine lv_iconst (v := 0) hx hb d_Fr_multiply_123 (by decide) ?_
                  refine p_Fr_17 hx hb hT hown hK hP hD hS 0 rfl rfl d_Fr_multiply_124 (fun H locs (hP : va_P D vwCl (wF2 q qo ((0 : Int32), (0 : Int32), L.2.2.1, L.2.2.2) O) H) (hD : va_D A (wF2 q qo ((0 : Int32), (0 : Int32), L.2.2.1, L.2.2.2) O)) hS => ?_)
                  refine lv_goto (tgt := 145) hx hb d_Fr_multiply_127 (by decide) ?_
                  exact W.vret hx hb hr (fun t ht hW => ⟨⟨(((0 : Int32), (0 : Int32), L.2.2.1, L.2.2.2), O), rfl, h, by rw [ht]; exact hP, hD⟩, hS.F ht⟩) hS.2.2 d_Fr_multiply_145
                · skip
                  have h := h.1 c_22
                  refine lv_iconst (v := 3) hx hb d_Fr_multiply_119 (by decide) ?_
                  refine lv_goto (tgt := 124) hx hb d_Fr_multiply_120 (by decide) ?_
                  refine p_Fr_17 hx hb hT hown hK hP hD hS 0 rfl rfl d_Fr_multiply_124 (fun H locs (hP : va_P D vwCl (wF2 q qo ((0 : Int32), (3 : Int32), L.2.2.1, L.2.2.2) O) H) (hD : va_D A (wF2 q qo ((0 : Int32), (3 : Int32), L.2.2.1, L.2.2.2) O)) hS => ?_)
                  refine lv_goto (tgt := 145) hx hb d_Fr_multiply_127 (by decide) ?_
                  exact W.vret hx hb hr (fun t ht hW => ⟨⟨(((0 : Int32), (3 : Int32), L.2.2.1, L.2.2.2), O), rfl, h, by rw [ht]; exact hP, hD⟩, hS.F ht⟩) hS.2.2 d_Fr_multiply_145
              · exact absurd c_3 c_20
            · skip
              have h := h.1 c_19
              refine lv_aload_n hx hb d_Fr_multiply_81 rfl (lv_at hl 0 rfl) ?_
              refine lv_iconst (v := 3) hx hb d_Fr_multiply_82 (by decide) ?_
              refine p_Fr_17 hx hb hT hown hK hP hD hS 0 rfl rfl d_Fr_multiply_83 (fun H locs (hP : va_P D vwCl (wF2 q qo ((0 : Int32), (3 : Int32), L.2.2.1, L.2.2.2) O) H) (hD : va_D A (wF2 q qo ((0 : Int32), (3 : Int32), L.2.2.1, L.2.2.2) O)) hS => ?_)
              refine lv_goto (tgt := 145) hx hb d_Fr_multiply_86 (by decide) ?_
              exact W.vret hx hb hr (fun t ht hW => ⟨⟨(((0 : Int32), (3 : Int32), L.2.2.1, L.2.2.2), O), rfl, h, by rw [ht]; exact hP, hD⟩, hS.F ht⟩) hS.2.2 d_Fr_multiply_145
    · skip
      have h := h.1 c_2
      refine lv_aload_n hx hb d_Fr_multiply_28 rfl (lv_at hl 1 rfl) ?_
      refine g_Fr_17 (v := .int O.2.1) hx hb hT hown hK hP 1 rfl rfl d_Fr_multiply_29 ?_
      refine lv_iconst (v := 1) hx hb d_Fr_multiply_32 (by decide) ?_
      refine lv_icmp_ne (tgt := 51) hx hb d_Fr_multiply_33 (by decide) (fun c_23 => ?_) (fun c_23 => ?_)
      · skip
        have h := h.2 c_23
        refine lv_aload_n hx hb d_Fr_multiply_51 rfl (lv_at hl 0 rfl) ?_
        refine g_Fr_17 (v := .int L.2.1) hx hb hT hown hK hP 0 rfl rfl d_Fr_multiply_52 ?_
        refine lv_if_ne (tgt := 66) hx hb d_Fr_multiply_55 (by decide) (fun c_24 => ?_) (fun c_24 => ?_)
        · skip
          have h := h.2 c_24
          refine lv_aload_n hx hb d_Fr_multiply_66 rfl (lv_at hl 0 rfl) ?_
          refine g_Fr_17 (v := .int L.2.1) hx hb hT hown hK hP 0 rfl rfl d_Fr_multiply_67 ?_
          refine lv_iconst (v := 2) hx hb d_Fr_multiply_70 (by decide) ?_
          refine lv_icmp_ne (tgt := 89) hx hb d_Fr_multiply_71 (by decide) (fun c_25 => ?_) (fun c_25 => ?_)
          · skip
            have h := h.2 c_25
            refine lv_aload_n hx hb d_Fr_multiply_89 rfl (lv_at hl 0 rfl) ?_
            refine g_Fr_17 (v := .int L.2.1) hx hb hT hown hK hP 0 rfl rfl d_Fr_multiply_90 ?_
            refine lv_if_eq (tgt := 103) hx hb d_Fr_multiply_93 (by decide) (fun c_26 => ?_) (fun c_26 => ?_)
            · exact absurd c_26 c_24
            · skip
              refine lv_aload_n hx hb d_Fr_multiply_96 rfl (lv_at hl 1 rfl) ?_
              refine g_Fr_17 (v := .int O.2.1) hx hb hT hown hK hP 1 rfl rfl d_Fr_multiply_97 ?_
              refine lv_if_ne (tgt := 130) hx hb d_Fr_multiply_100 (by decide) (fun c_27 => ?_) (fun c_27 => ?_)
              · skip
                have h := h.2 c_27
                refine lv_aload_n hx hb d_Fr_multiply_130 rfl (lv_at hl 0 rfl) ?_
                refine lv_aload_n hx hb d_Fr_multiply_131 rfl (lv_at hl 0 rfl) ?_
                refine g_Fr_17 (v := .int L.2.1) hx hb hT hown hK hP 0 rfl rfl d_Fr_multiply_132 ?_
                refine lv_aload_n hx hb d_Fr_multiply_135 rfl (lv_at hl 1 rfl) ?_
                refine g_Fr_17 (v := .int O.2.1) hx hb hT hown hK hP 1 rfl rfl d_Fr_multiply_136 ?_
                refine va_mmax hx hb (hml.trans hl.1.symm) hown (hT _ k_Fr_60) (hT _ jm_max_s) (hT _ jm_i) (hT _ jm_max_c) (Nat.le_of_ble_eq_true rfl) (Nat.le_of_ble_eq_true rfl) (Nat.le_of_ble_eq_true rfl) (Nat.le_of_ble_eq_true rfl) d_Fr_multiply_139 ?_
                refine lv_topi (fun x_28 ex_28 => ?_)
                have h := h x_28 ex_28
                refine p_Fr_17 hx hb hT hown hK hP hD hS 0 rfl rfl d_Fr_multiply_142 (fun H locs (hP : va_P D vwCl (wF2 q qo ((0 : Int32), x_28, L.2.2.1, L.2.2.2) O) H) (hD : va_D A (wF2 q qo ((0 : Int32), x_28, L.2.2.1, L.2.2.2) O)) hS => ?_)
                exact W.vret hx hb hr (fun t ht hW => ⟨⟨(((0 : Int32), x_28, L.2.2.1, L.2.2.2), O), rfl, h, by rw [ht]; exact hP, hD⟩, hS.F ht⟩) hS.2.2 d_Fr_multiply_145
              · skip
                have h := h.1 c_27
                refine lv_aload_n hx hb d_Fr_multiply_103 rfl (lv_at hl 0 rfl) ?_
                refine lv_aload_n hx hb d_Fr_multiply_104 rfl (lv_at hl 0 rfl) ?_
                refine g_Fr_17 (v := .int L.2.1) hx hb hT hown hK hP 0 rfl rfl d_Fr_multiply_105 ?_
                refine lv_aload_n hx hb d_Fr_multiply_108 rfl (lv_at hl 1 rfl) ?_
                refine g_Fr_17 (v := .int O.2.1) hx hb hT hown hK hP 1 rfl rfl d_Fr_multiply_109 ?_
                refine va_mmax hx hb (hml.trans hl.1.symm) hown (hT _ k_Fr_60) (hT _ jm_max_s) (hT _ jm_i) (hT _ jm_max_c) (Nat.le_of_ble_eq_true rfl) (Nat.le_of_ble_eq_true rfl) (Nat.le_of_ble_eq_true rfl) (Nat.le_of_ble_eq_true rfl) d_Fr_multiply_112 ?_
                refine lv_topi (fun x_29 ex_29 => ?_)
                have h := h x_29 ex_29
                refine lv_iconst (v := 3) hx hb d_Fr_multiply_115 (by decide) ?_
                refine lv_icmp_ne (tgt := 123) hx hb d_Fr_multiply_116 (by decide) (fun c_30 => ?_) (fun c_30 => ?_)
                · skip
                  have h := h.2 c_30
                  refine lv_iconst (v := 0) hx hb d_Fr_multiply_123 (by decide) ?_
                  refine p_Fr_17 hx hb hT hown hK hP hD hS 0 rfl rfl d_Fr_multiply_124 (fun H locs (hP : va_P D vwCl (wF2 q qo ((0 : Int32), (0 : Int32), L.2.2.1, L.2.2.2) O) H) (hD : va_D A (wF2 q qo ((0 : Int32), (0 : Int32), L.2.2.1, L.2.2.2) O)) hS => ?_)
                  refine lv_goto (tgt := 145) hx hb d_Fr_multiply_127 (by decide) ?_
                  exact W.vret hx hb hr (fun t ht hW => ⟨⟨(((0 : Int32), (0 : Int32), L.2.2.1, L.2.2.2), O), rfl, h, by rw [ht]; exact hP, hD⟩, hS.F ht⟩) hS.2.2 d_Fr_multiply_145
                · skip
                  have h := h.1 c_30
                  refine lv_iconst (v := 3) hx hb d_Fr_multiply_119 (by decide) ?_
                  refine lv_goto (tgt := 124) hx hb d_Fr_multiply_120 (by decide) ?_
                  refine p_Fr_17 hx hb hT hown hK hP hD hS 0 rfl rfl d_Fr_multiply_124 (fun H locs (hP : va_P D vwCl (wF2 q qo ((0 : Int32), (3 : Int32), L.2.2.1, L.2.2.2) O) H) (hD : va_D A (wF2 q qo ((0 : Int32), (3 : Int32), L.2.2.1, L.2.2.2) O)) hS => ?_)
                  refine lv_goto (tgt := 145) hx hb d_Fr_multiply_127 (by decide) ?_
                  exact W.vret hx hb hr (fun t ht hW => ⟨⟨(((0 : Int32), (3 : Int32), L.2.2.1, L.2.2.2), O), rfl, h, by rw [ht]; exact hP, hD⟩, hS.F ht⟩) hS.2.2 d_Fr_multiply_145
          · skip
            have h := h.1 c_25
            refine lv_aload_n hx hb d_Fr_multiply_74 rfl (lv_at hl 1 rfl) ?_
            refine g_Fr_17 (v := .int O.2.1) hx hb hT hown hK hP 1 rfl rfl d_Fr_multiply_75 ?_
            refine lv_if_ne (tgt := 89) hx hb d_Fr_multiply_78 (by decide) (fun c_31 => ?_) (fun c_31 => ?_)
            · skip
              have h := h.2 c_31
              refine lv_aload_n hx hb d_Fr_multiply_89 rfl (lv_at hl 0 rfl) ?_
              refine g_Fr_17 (v := .int L.2.1) hx hb hT hown hK hP 0 rfl rfl d_Fr_multiply_90 ?_
              refine lv_if_eq (tgt := 103) hx hb d_Fr_multiply_93 (by decide) (fun c_32 => ?_) (fun c_32 => ?_)
              · exact absurd c_32 c_24
              · skip
                refine lv_aload_n hx hb d_Fr_multiply_96 rfl (lv_at hl 1 rfl) ?_
                refine g_Fr_17 (v := .int O.2.1) hx hb hT hown hK hP 1 rfl rfl d_Fr_multiply_97 ?_
                refine lv_if_ne (tgt := 130) hx hb d_Fr_multiply_100 (by decide) (fun c_33 => ?_) (fun c_33 => ?_)
                · skip
                  refine lv_aload_n hx hb d_Fr_multiply_130 rfl (lv_at hl 0 rfl) ?_
                  refine lv_aload_n hx hb d_Fr_multiply_131 rfl (lv_at hl 0 rfl) ?_
                  refine g_Fr_17 (v := .int L.2.1) hx hb hT hown hK hP 0 rfl rfl d_Fr_multiply_132 ?_
                  refine lv_aload_n hx hb d_Fr_multiply_135 rfl (lv_at hl 1 rfl) ?_
                  refine g_Fr_17 (v := .int O.2.1) hx hb hT hown hK hP 1 rfl rfl d_Fr_multiply_136 ?_
                  refine va_mmax hx hb (hml.trans hl.1.symm) hown (hT _ k_Fr_60) (hT _ jm_max_s) (hT _ jm_i) (hT _ jm_max_c) (Nat.le_of_ble_eq_true rfl) (Nat.le_of_ble_eq_true rfl) (Nat.le_of_ble_eq_true rfl) (Nat.le_of_ble_eq_true rfl) d_Fr_multiply_139 ?_
                  refine lv_topi (fun x_34 ex_34 => ?_)
                  have h := h x_34 ex_34
                  refine p_Fr_17 hx hb hT hown hK hP hD hS 0 rfl rfl d_Fr_multiply_142 (fun H locs (hP : va_P D vwCl (wF2 q qo ((0 : Int32), x_34, L.2.2.1, L.2.2.2) O) H) (hD : va_D A (wF2 q qo ((0 : Int32), x_34, L.2.2.1, L.2.2.2) O)) hS => ?_)
                  exact W.vret hx hb hr (fun t ht hW => ⟨⟨(((0 : Int32), x_34, L.2.2.1, L.2.2.2), O), rfl, h, by rw [ht]; exact hP, hD⟩, hS.F ht⟩) hS.2.2 d_Fr_multiply_145
                · exact absurd c_33 c_31
            · skip
              have h := h.1 c_31
              refine lv_aload_n hx hb d_Fr_multiply_81 rfl (lv_at hl 0 rfl) ?_
              refine lv_iconst (v := 3) hx hb d_Fr_multiply_82 (by decide) ?_
              refine p_Fr_17 hx hb hT hown hK hP hD hS 0 rfl rfl d_Fr_multiply_83 (fun H locs (hP : va_P D vwCl (wF2 q qo ((0 : Int32), (3 : Int32), L.2.2.1, L.2.2.2) O) H) (hD : va_D A (wF2 q qo ((0 : Int32), (3 : Int32), L.2.2.1, L.2.2.2) O)) hS => ?_)
              refine lv_goto (tgt := 145) hx hb d_Fr_multiply_86 (by decide) ?_
              exact W.vret hx hb hr (fun t ht hW => ⟨⟨(((0 : Int32), (3 : Int32), L.2.2.1, L.2.2.2), O), rfl, h, by rw [ht]; exact hP, hD⟩, hS.F ht⟩) hS.2.2 d_Fr_multiply_145
        · skip
          have h := h.1 c_24
          refine lv_aload_n hx hb d_Fr_multiply_58 rfl (lv_at hl 1 rfl) ?_
          refine g_Fr_17 (v := .int O.2.1) hx hb hT hown hK hP 1 rfl rfl d_Fr_multiply_59 ?_
          refine lv_iconst (v := 2) hx hb d_Fr_multiply_62 (by decide) ?_
          refine lv_icmp_eq (tgt := 81) hx hb d_Fr_multiply_63 (by decide) (fun c_35 => ?_) (fun c_35 => ?_)
          · skip
            have h := h.1 c_35
            refine lv_aload_n hx hb d_Fr_multiply_81 rfl (lv_at hl 0 rfl) ?_
            refine lv_iconst (v := 3) hx hb d_Fr_multiply_82 (by decide) ?_
            refine p_Fr_17 hx hb hT hown hK hP hD hS 0 rfl rfl d_Fr_multiply_83 (fun H locs (hP : va_P D vwCl (wF2 q qo ((0 : Int32), (3 : Int32), L.2.2.1, L.2.2.2) O) H) (hD : va_D A (wF2 q qo ((0 : Int32), (3 : Int32), L.2.2.1, L.2.2.2) O)) hS => ?_)
            refine lv_goto (tgt := 145) hx hb d_Fr_multiply_86 (by decide) ?_
            exact W.vret hx hb hr (fun t ht hW => ⟨⟨(((0 : Int32), (3 : Int32), L.2.2.1, L.2.2.2), O), rfl, h, by rw [ht]; exact hP, hD⟩, hS.F ht⟩) hS.2.2 d_Fr_multiply_145
          · skip
            have h := h.2 c_35
            refine lv_aload_n hx hb d_Fr_multiply_66 rfl (lv_at hl 0 rfl) ?_
            refine g_Fr_17 (v := .int L.2.1) hx hb hT hown hK hP 0 rfl rfl d_Fr_multiply_67 ?_
            refine lv_iconst (v := 2) hx hb d_Fr_multiply_70 (by decide) ?_
            refine lv_icmp_ne (tgt := 89) hx hb d_Fr_multiply_71 (by decide) (fun c_36 => ?_) (fun c_36 => ?_)
            · skip
              have h := h.2 c_36
              refine lv_aload_n hx hb d_Fr_multiply_89 rfl (lv_at hl 0 rfl) ?_
              refine g_Fr_17 (v := .int L.2.1) hx hb hT hown hK hP 0 rfl rfl d_Fr_multiply_90 ?_
              refine lv_if_eq (tgt := 103) hx hb d_Fr_multiply_93 (by decide) (fun c_37 => ?_) (fun c_37 => ?_)
              · skip
                refine lv_aload_n hx hb d_Fr_multiply_103 rfl (lv_at hl 0 rfl) ?_
                refine lv_aload_n hx hb d_Fr_multiply_104 rfl (lv_at hl 0 rfl) ?_
                refine g_Fr_17 (v := .int L.2.1) hx hb hT hown hK hP 0 rfl rfl d_Fr_multiply_105 ?_
                refine lv_aload_n hx hb d_Fr_multiply_108 rfl (lv_at hl 1 rfl) ?_
                refine g_Fr_17 (v := .int O.2.1) hx hb hT hown hK hP 1 rfl rfl d_Fr_multiply_109 ?_
                refine va_mmax hx hb (hml.trans hl.1.symm) hown (hT _ k_Fr_60) (hT _ jm_max_s) (hT _ jm_i) (hT _ jm_max_c) (Nat.le_of_ble_eq_true rfl) (Nat.le_of_ble_eq_true rfl) (Nat.le_of_ble_eq_true rfl) (Nat.le_of_ble_eq_true rfl) d_Fr_multiply_112 ?_
                refine lv_topi (fun x_38 ex_38 => ?_)
                have h := h x_38 ex_38
                refine lv_iconst (v := 3) hx hb d_Fr_multiply_115 (by decide) ?_
                refine lv_icmp_ne (tgt := 123) hx hb d_Fr_multiply_116 (by decide) (fun c_39 => ?_) (fun c_39 => ?_)
                · skip
                  have h := h.2 c_39
                  refine lv_iconst (v := 0) hx hb d_Fr_multiply_123 (by decide) ?_
                  refine p_Fr_17 hx hb hT hown hK hP hD hS 0 rfl rfl d_Fr_multiply_124 (fun H locs (hP : va_P D vwCl (wF2 q qo ((0 : Int32), (0 : Int32), L.2.2.1, L.2.2.2) O) H) (hD : va_D A (wF2 q qo ((0 : Int32), (0 : Int32), L.2.2.1, L.2.2.2) O)) hS => ?_)
                  refine lv_goto (tgt := 145) hx hb d_Fr_multiply_127 (by decide) ?_
                  exact W.vret hx hb hr (fun t ht hW => ⟨⟨(((0 : Int32), (0 : Int32), L.2.2.1, L.2.2.2), O), rfl, h, by rw [ht]; exact hP, hD⟩, hS.F ht⟩) hS.2.2 d_Fr_multiply_145
                · skip
                  have h := h.1 c_39
                  refine lv_iconst (v := 3) hx hb d_Fr_multiply_119 (by decide) ?_
                  refine lv_goto (tgt := 124) hx hb d_Fr_multiply_120 (by decide) ?_
                  refine p_Fr_17 hx hb hT hown hK hP hD hS 0 rfl rfl d_Fr_multiply_124 (fun H locs (hP : va_P D vwCl (wF2 q qo ((0 : Int32), (3 : Int32), L.2.2.1, L.2.2.2) O) H) (hD : va_D A (wF2 q qo ((0 : Int32), (3 : Int32), L.2.2.1, L.2.2.2) O)) hS => ?_)
                  refine lv_goto (tgt := 145) hx hb d_Fr_multiply_127 (by decide) ?_
                  exact W.vret hx hb hr (fun t ht hW => ⟨⟨(((0 : Int32), (3 : Int32), L.2.2.1, L.2.2.2), O), rfl, h, by rw [ht]; exact hP, hD⟩, hS.F ht⟩) hS.2.2 d_Fr_multiply_145
              · exact absurd c_24 c_37
            · skip
              have h := h.1 c_36
              refine lv_aload_n hx hb d_Fr_multiply_74 rfl (lv_at hl 1 rfl) ?_
              refine g_Fr_17 (v := .int O.2.1) hx hb hT hown hK hP 1 rfl rfl d_Fr_multiply_75 ?_
              refine lv_if_ne (tgt := 89) hx hb d_Fr_multiply_78 (by decide) (fun c_40 => ?_) (fun c_40 => ?_)
              · skip
                have h := h.2 c_40
                refine lv_aload_n hx hb d_Fr_multiply_89 rfl (lv_at hl 0 rfl) ?_
                refine g_Fr_17 (v := .int L.2.1) hx hb hT hown hK hP 0 rfl rfl d_Fr_multiply_90 ?_
                refine lv_if_eq (tgt := 103) hx hb d_Fr_multiply_93 (by decide) (fun c_41 => ?_) (fun c_41 => ?_)
                · skip
                  refine lv_aload_n hx hb d_Fr_multiply_103 rfl (lv_at hl 0 rfl) ?_
                  refine lv_aload_n hx hb d_Fr_multiply_104 rfl (lv_at hl 0 rfl) ?_
                  refine g_Fr_17 (v := .int L.2.1) hx hb hT hown hK hP 0 rfl rfl d_Fr_multiply_105 ?_
                  refine lv_aload_n hx hb d_Fr_multiply_108 rfl (lv_at hl 1 rfl) ?_
                  refine g_Fr_17 (v := .int O.2.1) hx hb hT hown hK hP 1 rfl rfl d_Fr_multiply_109 ?_
                  refine va_mmax hx hb (hml.trans hl.1.symm) hown (hT _ k_Fr_60) (hT _ jm_max_s) (hT _ jm_i) (hT _ jm_max_c) (Nat.le_of_ble_eq_true rfl) (Nat.le_of_ble_eq_true rfl) (Nat.le_of_ble_eq_true rfl) (Nat.le_of_ble_eq_true rfl) d_Fr_multiply_112 ?_
                  refine lv_topi (fun x_42 ex_42 => ?_)
                  have h := h x_42 ex_42
                  refine lv_iconst (v := 3) hx hb d_Fr_multiply_115 (by decide) ?_
                  refine lv_icmp_ne (tgt := 123) hx hb d_Fr_multiply_116 (by decide) (fun c_43 => ?_) (fun c_43 => ?_)
                  · skip
                    have h := h.2 c_43
                    refine lv_iconst (v := 0) hx hb d_Fr_multiply_123 (by decide) ?_
                    refine p_Fr_17 hx hb hT hown hK hP hD hS 0 rfl rfl d_Fr_multiply_124 (fun H locs (hP : va_P D vwCl (wF2 q qo ((0 : Int32), (0 : Int32), L.2.2.1, L.2.2.2) O) H) (hD : va_D A (wF2 q qo ((0 : Int32), (0 : Int32), L.2.2.1, L.2.2.2) O)) hS => ?_)
                    refine lv_goto (tgt := 145) hx hb d_Fr_multiply_127 (by decide) ?_
                    exact W.vret hx hb hr (fun t ht hW => ⟨⟨(((0 : Int32), (0 : Int32), L.2.2.1, L.2.2.2), O), rfl, h, by rw [ht]; exact hP, hD⟩, hS.F ht⟩) hS.2.2 d_Fr_multiply_145
                  · skip
                    have h := h.1 c_43
                    refine lv_iconst (v := 3) hx hb d_Fr_multiply_119 (by decide) ?_
                    refine lv_goto (tgt := 124) hx hb d_Fr_multiply_120 (by decide) ?_
                    refine p_Fr_17 hx hb hT hown hK hP hD hS 0 rfl rfl d_Fr_multiply_124 (fun H locs (hP : va_P D vwCl (wF2 q qo ((0 : Int32), (3 : Int32), L.2.2.1, L.2.2.2) O) H) (hD : va_D A (wF2 q qo ((0 : Int32), (3 : Int32), L.2.2.1, L.2.2.2) O)) hS => ?_)
                    refine lv_goto (tgt := 145) hx hb d_Fr_multiply_127 (by decide) ?_
                    exact W.vret hx hb hr (fun t ht hW => ⟨⟨(((0 : Int32), (3 : Int32), L.2.2.1, L.2.2.2), O), rfl, h, by rw [ht]; exact hP, hD⟩, hS.F ht⟩) hS.2.2 d_Fr_multiply_145
                · exact absurd c_24 c_41
              · skip
                have h := h.1 c_40
                refine lv_aload_n hx hb d_Fr_multiply_81 rfl (lv_at hl 0 rfl) ?_
                refine lv_iconst (v := 3) hx hb d_Fr_multiply_82 (by decide) ?_
                refine p_Fr_17 hx hb hT hown hK hP hD hS 0 rfl rfl d_Fr_multiply_83 (fun H locs (hP : va_P D vwCl (wF2 q qo ((0 : Int32), (3 : Int32), L.2.2.1, L.2.2.2) O) H) (hD : va_D A (wF2 q qo ((0 : Int32), (3 : Int32), L.2.2.1, L.2.2.2) O)) hS => ?_)
                refine lv_goto (tgt := 145) hx hb d_Fr_multiply_86 (by decide) ?_
                exact W.vret hx hb hr (fun t ht hW => ⟨⟨(((0 : Int32), (3 : Int32), L.2.2.1, L.2.2.2), O), rfl, h, by rw [ht]; exact hP, hD⟩, hS.F ht⟩) hS.2.2 d_Fr_multiply_145
      · skip
        have h := h.1 c_23
        refine lv_aload_n hx hb d_Fr_multiply_36 rfl (lv_at hl 0 rfl) ?_
        refine lv_aload_n hx hb d_Fr_multiply_37 rfl (lv_at hl 1 rfl) ?_
        refine g_Fr_34 (v := .long O.2.2.2) hx hb hT hown hK hP 1 rfl rfl d_Fr_multiply_38 ?_
        refine lv_aload_n hx hb d_Fr_multiply_41 rfl (lv_at hl 1 rfl) ?_
        refine g_Fr_38 (v := .int O.2.2.1) hx hb hT hown hK hP 1 rfl rfl d_Fr_multiply_42 ?_
        refine zz_Wv (As := [.long O.2.2.2, .int O.2.2.1]) (rest := []) (wc := wF1 q ((0 : Int32), L.2.1, L.2.2.1, L.2.2.2)) (wr := [(qo, .inr (0, [.int O.1, .int O.2.1, .int O.2.2.1, .long O.2.2.2]))]) X hK hP hD hS hA (c_Fr_multiplyFinite l D cI q ((0 : Int32), L.2.1, L.2.2.1, L.2.2.2) O.2.2.2 O.2.2.1 _ h _) ⟨rfl, rfl⟩ m_Fr_multiplyFinite k_Fr_75 ⟨Nat.le_of_ble_eq_true rfl, Nat.le_of_ble_eq_true rfl⟩ [0] [1] rfl rfl (by decide) (by decide) (by decide) 0 0 rfl rfl rfl rfl hl.1 rfl (Nat.le_of_ble_eq_true rfl) d_Fr_multiply_45 hf0 (fun u_44 H locs h hP hD hS => ?_)
        have hP : va_P D vwCl (wF2 q qo u_44 O) H := hP.sub [1, 0] rfl
        have hD : va_D A (wF2 q qo u_44 O) := hD.sub [1, 0] (by decide) rfl
        refine lv_goto (tgt := 145) hx hb d_Fr_multiply_48 (by decide) ?_
        exact W.vret hx hb hr (fun t ht hW => ⟨⟨(u_44, O), rfl, h, by rw [ht]; exact hP, hD⟩, hS.F ht⟩) hS.2.2 d_Fr_multiply_145
  · skip
    have h := h.2 c_1
    refine lv_iconst (v := 1) hx hb d_Fr_multiply_12 (by decide) ?_
    refine lv_goto (tgt := 17) hx hb d_Fr_multiply_13 (by decide) ?_
    refine p_Fr_13 hx hb hT hown hK hP hD hS 0 rfl rfl (Or.inr rfl) d_Fr_multiply_17 (fun H locs (hP : va_P D vwCl (wF2 q qo ((1 : Int32), L.2.1, L.2.2.1, L.2.2.2) O) H) (hD : va_D A (wF2 q qo ((1 : Int32), L.2.1, L.2.2.1, L.2.2.2) O)) hS => ?_)
    refine lv_aload_n hx hb d_Fr_multiply_20 rfl (lv_at hl 0 rfl) ?_
    refine g_Fr_17 (v := .int L.2.1) hx hb hT hown hK hP 0 rfl rfl d_Fr_multiply_21 ?_
    refine lv_iconst (v := 1) hx hb d_Fr_multiply_24 (by decide) ?_
    refine lv_icmp_ne (tgt := 51) hx hb d_Fr_multiply_25 (by decide) (fun c_46 => ?_) (fun c_46 => ?_)
    · skip
      have h := h.2 c_46
      refine lv_aload_n hx hb d_Fr_multiply_51 rfl (lv_at hl 0 rfl) ?_
      refine g_Fr_17 (v := .int L.2.1) hx hb hT hown hK hP 0 rfl rfl d_Fr_multiply_52 ?_
      refine lv_if_ne (tgt := 66) hx hb d_Fr_multiply_55 (by decide) (fun c_47 => ?_) (fun c_47 => ?_)
      · skip
        have h := h.2 c_47
        refine lv_aload_n hx hb d_Fr_multiply_66 rfl (lv_at hl 0 rfl) ?_
        refine g_Fr_17 (v := .int L.2.1) hx hb hT hown hK hP 0 rfl rfl d_Fr_multiply_67 ?_
        refine lv_iconst (v := 2) hx hb d_Fr_multiply_70 (by decide) ?_
        refine lv_icmp_ne (tgt := 89) hx hb d_Fr_multiply_71 (by decide) (fun c_48 => ?_) (fun c_48 => ?_)
        · skip
          have h := h.2 c_48
          refine lv_aload_n hx hb d_Fr_multiply_89 rfl (lv_at hl 0 rfl) ?_
          refine g_Fr_17 (v := .int L.2.1) hx hb hT hown hK hP 0 rfl rfl d_Fr_multiply_90 ?_
          refine lv_if_eq (tgt := 103) hx hb d_Fr_multiply_93 (by decide) (fun c_49 => ?_) (fun c_49 => ?_)
          · exact absurd c_49 c_47
          · skip
            refine lv_aload_n hx hb d_Fr_multiply_96 rfl (lv_at hl 1 rfl) ?_
            refine g_Fr_17 (v := .int O.2.1) hx hb hT hown hK hP 1 rfl rfl d_Fr_multiply_97 ?_
            refine lv_if_ne (tgt := 130) hx hb d_Fr_multiply_100 (by decide) (fun c_50 => ?_) (fun c_50 => ?_)
            · skip
              have h := h.2 c_50
              refine lv_aload_n hx hb d_Fr_multiply_130 rfl (lv_at hl 0 rfl) ?_
              refine lv_aload_n hx hb d_Fr_multiply_131 rfl (lv_at hl 0 rfl) ?_
              refine g_Fr_17 (v := .int L.2.1) hx hb hT hown hK hP 0 rfl rfl d_Fr_multiply_132 ?_
              refine lv_aload_n hx hb d_Fr_multiply_135 rfl (lv_at hl 1 rfl) ?_
              refine g_Fr_17 (v := .int O.2.1) hx hb hT hown hK hP 1 rfl rfl d_Fr_multiply_136 ?_
              refine va_mmax hx hb (hml.trans hl.1.symm) hown (hT _ k_Fr_60) (hT _ jm_max_s) (hT _ jm_i) (hT _ jm_max_c) (Nat.le_of_ble_eq_true rfl) (Nat.le_of_ble_eq_true rfl) (Nat.le_of_ble_eq_true rfl) (Nat.le_of_ble_eq_true rfl) d_Fr_multiply_139 ?_
              refine lv_topi (fun x_51 ex_51 => ?_)
              have h := h x_51 ex_51
              refine p_Fr_17 hx hb hT hown hK hP hD hS 0 rfl rfl d_Fr_multiply_142 (fun H locs (hP : va_P D vwCl (wF2 q qo ((1 : Int32), x_51, L.2.2.1, L.2.2.2) O) H) (hD : va_D A (wF2 q qo ((1 : Int32), x_51, L.2.2.1, L.2.2.2) O)) hS => ?_)
              exact W.vret hx hb hr (fun t ht hW => ⟨⟨(((1 : Int32), x_51, L.2.2.1, L.2.2.2), O), rfl, h, by rw [ht]; exact hP, hD⟩, hS.F ht⟩) hS.2.2 d_Fr_multiply_145
            · skip
              have h := h.1 c_50
              refine lv_aload_n hx hb d_Fr_multiply_103 rfl (lv_at hl 0 rfl) ?_
              refine lv_aload_n hx hb d_Fr_multiply_104 rfl (lv_at hl 0 rfl) ?_
              refine g_Fr_17 (v := .int L.2.1) hx hb hT hown hK hP 0 rfl rfl d_Fr_multiply_105 ?_
              refine lv_aload_n hx hb d_Fr_multiply_108 rfl (lv_at hl 1 rfl) ?_
              refine g_Fr_17 (v := .int O.2.1) hx hb hT hown hK hP 1 rfl rfl d_Fr_multiply_109 ?_
              refine va_mmax hx hb (hml.trans hl.1.symm) hown (hT _ k_Fr_60) (hT _ jm_max_s) (hT _ jm_i) (hT _ jm_max_c) (Nat.le_of_ble_eq_true rfl) (Nat.le_of_ble_eq_true rfl) (Nat.le_of_ble_eq_true rfl) (Nat.le_of_ble_eq_true rfl) d_Fr_multiply_112 ?_
              refine lv_topi (fun x_52 ex_52 => ?_)
              have h := h x_52 ex_52
              refine lv_iconst (v := 3) hx hb d_Fr_multiply_115 (by decide) ?_
              refine lv_icmp_ne (tgt := 123) hx hb d_Fr_multiply_116 (by decide) (fun c_53 => ?_) (fun c_53 => ?_)
              · skip
                have h := h.2 c_53
                refine lv_iconst (v := 0) hx hb d_Fr_multiply_123 (by decide) ?_
                refine p_Fr_17 hx hb hT hown hK hP hD hS 0 rfl rfl d_Fr_multiply_124 (fun H locs (hP : va_P D vwCl (wF2 q qo ((1 : Int32), (0 : Int32), L.2.2.1, L.2.2.2) O) H) (hD : va_D A (wF2 q qo ((1 : Int32), (0 : Int32), L.2.2.1, L.2.2.2) O)) hS => ?_)
                refine lv_goto (tgt := 145) hx hb d_Fr_multiply_127 (by decide) ?_
                exact W.vret hx hb hr (fun t ht hW => ⟨⟨(((1 : Int32), (0 : Int32), L.2.2.1, L.2.2.2), O), rfl, h, by rw [ht]; exact hP, hD⟩, hS.F ht⟩) hS.2.2 d_Fr_multiply_145
              · skip
                have h := h.1 c_53
                refine lv_iconst (v := 3) hx hb d_Fr_multiply_119 (by decide) ?_
                refine lv_goto (tgt := 124) hx hb d_Fr_multiply_120 (by decide) ?_
                refine p_Fr_17 hx hb hT hown hK hP hD hS 0 rfl rfl d_Fr_multiply_124 (fun H locs (hP : va_P D vwCl (wF2 q qo ((1 : Int32), (3 : Int32), L.2.2.1, L.2.2.2) O) H) (hD : va_D A (wF2 q qo ((1 : Int32), (3 : Int32), L.2.2.1, L.2.2.2) O)) hS => ?_)
                refine lv_goto (tgt := 145) hx hb d_Fr_multiply_127 (by decide) ?_
                exact W.vret hx hb hr (fun t ht hW => ⟨⟨(((1 : Int32), (3 : Int32), L.2.2.1, L.2.2.2), O), rfl, h, by rw [ht]; exact hP, hD⟩, hS.F ht⟩) hS.2.2 d_Fr_multiply_145
        · skip
          have h := h.1 c_48
          refine lv_aload_n hx hb d_Fr_multiply_74 rfl (lv_at hl 1 rfl) ?_
          refine g_Fr_17 (v := .int O.2.1) hx hb hT hown hK hP 1 rfl rfl d_Fr_multiply_75 ?_
          refine lv_if_ne (tgt := 89) hx hb d_Fr_multiply_78 (by decide) (fun c_54 => ?_) (fun c_54 => ?_)
          · skip
            have h := h.2 c_54
            refine lv_aload_n hx hb d_Fr_multiply_89 rfl (lv_at hl 0 rfl) ?_
            refine g_Fr_17 (v := .int L.2.1) hx hb hT hown hK hP 0 rfl rfl d_Fr_multiply_90 ?_
            refine lv_if_eq (tgt := 103) hx hb d_Fr_multiply_93 (by decide) (fun c_55 => ?_) (fun c_55 => ?_)
            · exact absurd c_55 c_47
            · skip
              refine lv_aload_n hx hb d_Fr_multiply_96 rfl (lv_at hl 1 rfl) ?_
              refine g_Fr_17 (v := .int O.2.1) hx hb hT hown hK hP 1 rfl rfl d_Fr_multiply_97 ?_
              refine lv_if_ne (tgt := 130) hx hb d_Fr_multiply_100 (by decide) (fun c_56 => ?_) (fun c_56 => ?_)
              · skip
                refine lv_aload_n hx hb d_Fr_multiply_130 rfl (lv_at hl 0 rfl) ?_
                refine lv_aload_n hx hb d_Fr_multiply_131 rfl (lv_at hl 0 rfl) ?_
                refine g_Fr_17 (v := .int L.2.1) hx hb hT hown hK hP 0 rfl rfl d_Fr_multiply_132 ?_
                refine lv_aload_n hx hb d_Fr_multiply_135 rfl (lv_at hl 1 rfl) ?_
                refine g_Fr_17 (v := .int O.2.1) hx hb hT hown hK hP 1 rfl rfl d_Fr_multiply_136 ?_
                refine va_mmax hx hb (hml.trans hl.1.symm) hown (hT _ k_Fr_60) (hT _ jm_max_s) (hT _ jm_i) (hT _ jm_max_c) (Nat.le_of_ble_eq_true rfl) (Nat.le_of_ble_eq_true rfl) (Nat.le_of_ble_eq_true rfl) (Nat.le_of_ble_eq_true rfl) d_Fr_multiply_139 ?_
                refine lv_topi (fun x_57 ex_57 => ?_)
                have h := h x_57 ex_57
                refine p_Fr_17 hx hb hT hown hK hP hD hS 0 rfl rfl d_Fr_multiply_142 (fun H locs (hP : va_P D vwCl (wF2 q qo ((1 : Int32), x_57, L.2.2.1, L.2.2.2) O) H) (hD : va_D A (wF2 q qo ((1 : Int32), x_57, L.2.2.1, L.2.2.2) O)) hS => ?_)
                exact W.vret hx hb hr (fun t ht hW => ⟨⟨(((1 : Int32), x_57, L.2.2.1, L.2.2.2), O), rfl, h, by rw [ht]; exact hP, hD⟩, hS.F ht⟩) hS.2.2 d_Fr_multiply_145
              · exact absurd c_56 c_54
          · skip
            have h := h.1 c_54
            refine lv_aload_n hx hb d_Fr_multiply_81 rfl (lv_at hl 0 rfl) ?_
            refine lv_iconst (v := 3) hx hb d_Fr_multiply_82 (by decide) ?_
            refine p_Fr_17 hx hb hT hown hK hP hD hS 0 rfl rfl d_Fr_multiply_83 (fun H locs (hP : va_P D vwCl (wF2 q qo ((1 : Int32), (3 : Int32), L.2.2.1, L.2.2.2) O) H) (hD : va_D A (wF2 q qo ((1 : Int32), (3 : Int32), L.2.2.1, L.2.2.2) O)) hS => ?_)
            refine lv_goto (tgt := 145) hx hb d_Fr_multiply_86 (by decide) ?_
            exact W.vret hx hb hr (fun t ht hW => ⟨⟨(((1 : Int32), (3 : Int32), L.2.2.1, L.2.2.2), O), rfl, h, by rw [ht]; exact hP, hD⟩, hS.F ht⟩) hS.2.2 d_Fr_multiply_145
      · skip
        have h := h.1 c_47
        refine lv_aload_n hx hb d_Fr_multiply_58 rfl (lv_at hl 1 rfl) ?_
        refine g_Fr_17 (v := .int O.2.1) hx hb hT hown hK hP 1 rfl rfl d_Fr_multiply_59 ?_
        refine lv_iconst (v := 2) hx hb d_Fr_multiply_62 (by decide) ?_
        refine lv_icmp_eq (tgt := 81) hx hb d_Fr_multiply_63 (by decide) (fun c_58 => ?_) (fun c_58 => ?_)
        · skip
          have h := h.1 c_58
          refine lv_aload_n hx hb d_Fr_multiply_81 rfl (lv_at hl 0 rfl) ?_
          refine lv_iconst (v := 3) hx hb d_Fr_multiply_82 (by decide) ?_
          refine p_Fr_17 hx hb hT hown hK hP hD hS 0 rfl rfl d_Fr_multiply_83 (fun H locs (hP : va_P D vwCl (wF2 q qo ((1 : Int32), (3 : Int32), L.2.2.1, L.2.2.2) O) H) (hD : va_D A (wF2 q qo ((1 : Int32), (3 : Int32), L.2.2.1, L.2.2.2) O)) hS => ?_)
          refine lv_goto (tgt := 145) hx hb d_Fr_multiply_86 (by decide) ?_
          exact W.vret hx hb hr (fun t ht hW => ⟨⟨(((1 : Int32), (3 : Int32), L.2.2.1, L.2.2.2), O), rfl, h, by rw [ht]; exact hP, hD⟩, hS.F ht⟩) hS.2.2 d_Fr_multiply_145
        · skip
          have h := h.2 c_58
          refine lv_aload_n hx hb d_Fr_multiply_66 rfl (lv_at hl 0 rfl) ?_
          refine g_Fr_17 (v := .int L.2.1) hx hb hT hown hK hP 0 rfl rfl d_Fr_multiply_67 ?_
          refine lv_iconst (v := 2) hx hb d_Fr_multiply_70 (by decide) ?_
          refine lv_icmp_ne (tgt := 89) hx hb d_Fr_multiply_71 (by decide) (fun c_59 => ?_) (fun c_59 => ?_)
          · skip
            have h := h.2 c_59
            refine lv_aload_n hx hb d_Fr_multiply_89 rfl (lv_at hl 0 rfl) ?_
            refine g_Fr_17 (v := .int L.2.1) hx hb hT hown hK hP 0 rfl rfl d_Fr_multiply_90 ?_
            refine lv_if_eq (tgt := 103) hx hb d_Fr_multiply_93 (by decide) (fun c_60 => ?_) (fun c_60 => ?_)
            · skip
              refine lv_aload_n hx hb d_Fr_multiply_103 rfl (lv_at hl 0 rfl) ?_
              refine lv_aload_n hx hb d_Fr_multiply_104 rfl (lv_at hl 0 rfl) ?_
              refine g_Fr_17 (v := .int L.2.1) hx hb hT hown hK hP 0 rfl rfl d_Fr_multiply_105 ?_
              refine lv_aload_n hx hb d_Fr_multiply_108 rfl (lv_at hl 1 rfl) ?_
              refine g_Fr_17 (v := .int O.2.1) hx hb hT hown hK hP 1 rfl rfl d_Fr_multiply_109 ?_
              refine va_mmax hx hb (hml.trans hl.1.symm) hown (hT _ k_Fr_60) (hT _ jm_max_s) (hT _ jm_i) (hT _ jm_max_c) (Nat.le_of_ble_eq_true rfl) (Nat.le_of_ble_eq_true rfl) (Nat.le_of_ble_eq_true rfl) (Nat.le_of_ble_eq_true rfl) d_Fr_multiply_112 ?_
              refine lv_topi (fun x_61 ex_61 => ?_)
              have h := h x_61 ex_61
              refine lv_iconst (v := 3) hx hb d_Fr_multiply_115 (by decide) ?_
              refine lv_icmp_ne (tgt := 123) hx hb d_Fr_multiply_116 (by decide) (fun c_62 => ?_) (fun c_62 => ?_)
              · skip
                have h := h.2 c_62
                refine lv_iconst (v := 0) hx hb d_Fr_multiply_123 (by decide) ?_
                refine p_Fr_17 hx hb hT hown hK hP hD hS 0 rfl rfl d_Fr_multiply_124 (fun H locs (hP : va_P D vwCl (wF2 q qo ((1 : Int32), (0 : Int32), L.2.2.1, L.2.2.2) O) H) (hD : va_D A (wF2 q qo ((1 : Int32), (0 : Int32), L.2.2.1, L.2.2.2) O)) hS => ?_)
                refine lv_goto (tgt := 145) hx hb d_Fr_multiply_127 (by decide) ?_
                exact W.vret hx hb hr (fun t ht hW => ⟨⟨(((1 : Int32), (0 : Int32), L.2.2.1, L.2.2.2), O), rfl, h, by rw [ht]; exact hP, hD⟩, hS.F ht⟩) hS.2.2 d_Fr_multiply_145
              · skip
                have h := h.1 c_62
                refine lv_iconst (v := 3) hx hb d_Fr_multiply_119 (by decide) ?_
                refine lv_goto (tgt := 124) hx hb d_Fr_multiply_120 (by decide) ?_
                refine p_Fr_17 hx hb hT hown hK hP hD hS 0 rfl rfl d_Fr_multiply_124 (fun H locs (hP : va_P D vwCl (wF2 q qo ((1 : Int32), (3 : Int32), L.2.2.1, L.2.2.2) O) H) (hD : va_D A (wF2 q qo ((1 : Int32), (3 : Int32), L.2.2.1, L.2.2.2) O)) hS => ?_)
                refine lv_goto (tgt := 145) hx hb d_Fr_multiply_127 (by decide) ?_
                exact W.vret hx hb hr (fun t ht hW => ⟨⟨(((1 : Int32), (3 : Int32), L.2.2.1, L.2.2.2), O), rfl, h, by rw [ht]; exact hP, hD⟩, hS.F ht⟩) hS.2.2 d_Fr_multiply_145
            · exact absurd c_47 c_60
          · skip
            have h := h.1 c_59
            refine lv_aload_n hx hb d_Fr_multiply_74 rfl (lv_at hl 1 rfl) ?_
            refine g_Fr_17 (v := .int O.2.1) hx hb hT hown hK hP 1 rfl rfl d_Fr_multiply_75 ?_
            refine lv_if_ne (tgt := 89) hx hb d_Fr_multiply_78 (by decide) (fun c_63 => ?_) (fun c_63 => ?_)
            · skip
              have h := h.2 c_63
              refine lv_aload_n hx hb d_Fr_multiply_89 rfl (lv_at hl 0 rfl) ?_
              refine g_Fr_17 (v := .int L.2.1) hx hb hT hown hK hP 0 rfl rfl d_Fr_multiply_90 ?_
              refine lv_if_eq (tgt := 103) hx hb d_Fr_multiply_93 (by decide) (fun c_64 => ?_) (fun c_64 => ?_)
              · skip
                refine lv_aload_n hx hb d_Fr_multiply_103 rfl (lv_at hl 0 rfl) ?_
                refine lv_aload_n hx hb d_Fr_multiply_104 rfl (lv_at hl 0 rfl) ?_
                refine g_Fr_17 (v := .int L.2.1) hx hb hT hown hK hP 0 rfl rfl d_Fr_multiply_105 ?_
                refine lv_aload_n hx hb d_Fr_multiply_108 rfl (lv_at hl 1 rfl) ?_
                refine g_Fr_17 (v := .int O.2.1) hx hb hT hown hK hP 1 rfl rfl d_Fr_multiply_109 ?_
                refine va_mmax hx hb (hml.trans hl.1.symm) hown (hT _ k_Fr_60) (hT _ jm_max_s) (hT _ jm_i) (hT _ jm_max_c) (Nat.le_of_ble_eq_true rfl) (Nat.le_of_ble_eq_true rfl) (Nat.le_of_ble_eq_true rfl) (Nat.le_of_ble_eq_true rfl) d_Fr_multiply_112 ?_
                refine lv_topi (fun x_65 ex_65 => ?_)
                have h := h x_65 ex_65
                refine lv_iconst (v := 3) hx hb d_Fr_multiply_115 (by decide) ?_
                refine lv_icmp_ne (tgt := 123) hx hb d_Fr_multiply_116 (by decide) (fun c_66 => ?_) (fun c_66 => ?_)
                · skip
                  have h := h.2 c_66
                  refine lv_iconst (v := 0) hx hb d_Fr_multiply_123 (by decide) ?_
                  refine p_Fr_17 hx hb hT hown hK hP hD hS 0 rfl rfl d_Fr_multiply_124 (fun H locs (hP : va_P D vwCl (wF2 q qo ((1 : Int32), (0 : Int32), L.2.2.1, L.2.2.2) O) H) (hD : va_D A (wF2 q qo ((1 : Int32), (0 : Int32), L.2.2.1, L.2.2.2) O)) hS => ?_)
                  refine lv_goto (tgt := 145) hx hb d_Fr_multiply_127 (by decide) ?_
                  exact W.vret hx hb hr (fun t ht hW => ⟨⟨(((1 : Int32), (0 : Int32), L.2.2.1, L.2.2.2), O), rfl, h, by rw [ht]; exact hP, hD⟩, hS.F ht⟩) hS.2.2 d_Fr_multiply_145
                · skip
                  have h := h.1 c_66
                  refine lv_iconst (v := 3) hx hb d_Fr_multiply_119 (by decide) ?_
                  refine lv_goto (tgt := 124) hx hb d_Fr_multiply_120 (by decide) ?_
                  refine p_Fr_17 hx hb hT hown hK hP hD hS 0 rfl rfl d_Fr_multiply_124 (fun H locs (hP : va_P D vwCl (wF2 q qo ((1 : Int32), (3 : Int32), L.2.2.1, L.2.2.2) O) H) (hD : va_D A (wF2 q qo ((1 : Int32), (3 : Int32), L.2.2.1, L.2.2.2) O)) hS => ?_)
                  refine lv_goto (tgt := 145) hx hb d_Fr_multiply_127 (by decide) ?_
                  exact W.vret hx hb hr (fun t ht hW => ⟨⟨(((1 : Int32), (3 : Int32), L.2.2.1, L.2.2.2), O), rfl, h, by rw [ht]; exact hP, hD⟩, hS.F ht⟩) hS.2.2 d_Fr_multiply_145
              · exact absurd c_47 c_64
            · skip
              have h := h.1 c_63
              refine lv_aload_n hx hb d_Fr_multiply_81 rfl (lv_at hl 0 rfl) ?_
              refine lv_iconst (v := 3) hx hb d_Fr_multiply_82 (by decide) ?_
              refine p_Fr_17 hx hb hT hown hK hP hD hS 0 rfl rfl d_Fr_multiply_83 (fun H locs (hP : va_P D vwCl (wF2 q qo ((1 : Int32), (3 : Int32), L.2.2.1, L.2.2.2) O) H) (hD : va_D A (wF2 q qo ((1 : Int32), (3 : Int32), L.2.2.1, L.2.2.2) O)) hS => ?_)
              refine lv_goto (tgt := 145) hx hb d_Fr_multiply_86 (by decide) ?_
              exact W.vret hx hb hr (fun t ht hW => ⟨⟨(((1 : Int32), (3 : Int32), L.2.2.1, L.2.2.2), O), rfl, h, by rw [ht]; exact hP, hD⟩, hS.F ht⟩) hS.2.2 d_Fr_multiply_145
    · skip
      have h := h.1 c_46
      refine lv_aload_n hx hb d_Fr_multiply_28 rfl (lv_at hl 1 rfl) ?_
      refine g_Fr_17 (v := .int O.2.1) hx hb hT hown hK hP 1 rfl rfl d_Fr_multiply_29 ?_
      refine lv_iconst (v := 1) hx hb d_Fr_multiply_32 (by decide) ?_
      refine lv_icmp_ne (tgt := 51) hx hb d_Fr_multiply_33 (by decide) (fun c_67 => ?_) (fun c_67 => ?_)
      · skip
        have h := h.2 c_67
        refine lv_aload_n hx hb d_Fr_multiply_51 rfl (lv_at hl 0 rfl) ?_
        refine g_Fr_17 (v := .int L.2.1) hx hb hT hown hK hP 0 rfl rfl d_Fr_multiply_52 ?_
        refine lv_if_ne (tgt := 66) hx hb d_Fr_multiply_55 (by decide) (fun c_68 => ?_) (fun c_68 => ?_)
        · skip
          have h := h.2 c_68
          refine lv_aload_n hx hb d_Fr_multiply_66 rfl (lv_at hl 0 rfl) ?_
          refine g_Fr_17 (v := .int L.2.1) hx hb hT hown hK hP 0 rfl rfl d_Fr_multiply_67 ?_
          refine lv_iconst (v := 2) hx hb d_Fr_multiply_70 (by decide) ?_
          refine lv_icmp_ne (tgt := 89) hx hb d_Fr_multiply_71 (by decide) (fun c_69 => ?_) (fun c_69 => ?_)
          · skip
            have h := h.2 c_69
            refine lv_aload_n hx hb d_Fr_multiply_89 rfl (lv_at hl 0 rfl) ?_
            refine g_Fr_17 (v := .int L.2.1) hx hb hT hown hK hP 0 rfl rfl d_Fr_multiply_90 ?_
            refine lv_if_eq (tgt := 103) hx hb d_Fr_multiply_93 (by decide) (fun c_70 => ?_) (fun c_70 => ?_)
            · exact absurd c_70 c_68
            · skip
              refine lv_aload_n hx hb d_Fr_multiply_96 rfl (lv_at hl 1 rfl) ?_
              refine g_Fr_17 (v := .int O.2.1) hx hb hT hown hK hP 1 rfl rfl d_Fr_multiply_97 ?_
              refine lv_if_ne (tgt := 130) hx hb d_Fr_multiply_100 (by decide) (fun c_71 => ?_) (fun c_71 => ?_)
              · skip
                have h := h.2 c_71
                refine lv_aload_n hx hb d_Fr_multiply_130 rfl (lv_at hl 0 rfl) ?_
                refine lv_aload_n hx hb d_Fr_multiply_131 rfl (lv_at hl 0 rfl) ?_
                refine g_Fr_17 (v := .int L.2.1) hx hb hT hown hK hP 0 rfl rfl d_Fr_multiply_132 ?_
                refine lv_aload_n hx hb d_Fr_multiply_135 rfl (lv_at hl 1 rfl) ?_
                refine g_Fr_17 (v := .int O.2.1) hx hb hT hown hK hP 1 rfl rfl d_Fr_multiply_136 ?_
                refine va_mmax hx hb (hml.trans hl.1.symm) hown (hT _ k_Fr_60) (hT _ jm_max_s) (hT _ jm_i) (hT _ jm_max_c) (Nat.le_of_ble_eq_true rfl) (Nat.le_of_ble_eq_true rfl) (Nat.le_of_ble_eq_true rfl) (Nat.le_of_ble_eq_true rfl) d_Fr_multiply_139 ?_
                refine lv_topi (fun x_72 ex_72 => ?_)
                have h := h x_72 ex_72
                refine p_Fr_17 hx hb hT hown hK hP hD hS 0 rfl rfl d_Fr_multiply_142 (fun H locs (hP : va_P D vwCl (wF2 q qo ((1 : Int32), x_72, L.2.2.1, L.2.2.2) O) H) (hD : va_D A (wF2 q qo ((1 : Int32), x_72, L.2.2.1, L.2.2.2) O)) hS => ?_)
                exact W.vret hx hb hr (fun t ht hW => ⟨⟨(((1 : Int32), x_72, L.2.2.1, L.2.2.2), O), rfl, h, by rw [ht]; exact hP, hD⟩, hS.F ht⟩) hS.2.2 d_Fr_multiply_145
              · skip
                have h := h.1 c_71
                refine lv_aload_n hx hb d_Fr_multiply_103 rfl (lv_at hl 0 rfl) ?_
                refine lv_aload_n hx hb d_Fr_multiply_104 rfl (lv_at hl 0 rfl) ?_
                refine g_Fr_17 (v := .int L.2.1) hx hb hT hown hK hP 0 rfl rfl d_Fr_multiply_105 ?_
                refine lv_aload_n hx hb d_Fr_multiply_108 rfl (lv_at hl 1 rfl) ?_
                refine g_Fr_17 (v := .int O.2.1) hx hb hT hown hK hP 1 rfl rfl d_Fr_multiply_109 ?_
                refine va_mmax hx hb (hml.trans hl.1.symm) hown (hT _ k_Fr_60) (hT _ jm_max_s) (hT _ jm_i) (hT _ jm_max_c) (Nat.le_of_ble_eq_true rfl) (Nat.le_of_ble_eq_true rfl) (Nat.le_of_ble_eq_true rfl) (Nat.le_of_ble_eq_true rfl) d_Fr_multiply_112 ?_
                refine lv_topi (fun x_73 ex_73 => ?_)
                have h := h x_73 ex_73
                refine lv_iconst (v := 3) hx hb d_Fr_multiply_115 (by decide) ?_
                refine lv_icmp_ne (tgt := 123) hx hb d_Fr_multiply_116 (by decide) (fun c_74 => ?_) (fun c_74 => ?_)
                · skip
                  have h := h.2 c_74
                  refine lv_iconst (v := 0) hx hb d_Fr_multiply_123 (by decide) ?_
                  refine p_Fr_17 hx hb hT hown hK hP hD hS 0 rfl rfl d_Fr_multiply_124 (fun H locs (hP : va_P D vwCl (wF2 q qo ((1 : Int32), (0 : Int32), L.2.2.1, L.2.2.2) O) H) (hD : va_D A (wF2 q qo ((1 : Int32), (0 : Int32), L.2.2.1, L.2.2.2) O)) hS => ?_)
                  refine lv_goto (tgt := 145) hx hb d_Fr_multiply_127 (by decide) ?_
                  exact W.vret hx hb hr (fun t ht hW => ⟨⟨(((1 : Int32), (0 : Int32), L.2.2.1, L.2.2.2), O), rfl, h, by rw [ht]; exact hP, hD⟩, hS.F ht⟩) hS.2.2 d_Fr_multiply_145
                · skip
                  have h := h.1 c_74
                  refine lv_iconst (v := 3) hx hb d_Fr_multiply_119 (by decide) ?_
                  refine lv_goto (tgt := 124) hx hb d_Fr_multiply_120 (by decide) ?_
                  refine p_Fr_17 hx hb hT hown hK hP hD hS 0 rfl rfl d_Fr_multiply_124 (fun H locs (hP : va_P D vwCl (wF2 q qo ((1 : Int32), (3 : Int32), L.2.2.1, L.2.2.2) O) H) (hD : va_D A (wF2 q qo ((1 : Int32), (3 : Int32), L.2.2.1, L.2.2.2) O)) hS => ?_)
                  refine lv_goto (tgt := 145) hx hb d_Fr_multiply_127 (by decide) ?_
                  exact W.vret hx hb hr (fun t ht hW => ⟨⟨(((1 : Int32), (3 : Int32), L.2.2.1, L.2.2.2), O), rfl, h, by rw [ht]; exact hP, hD⟩, hS.F ht⟩) hS.2.2 d_Fr_multiply_145
          · skip
            have h := h.1 c_69
            refine lv_aload_n hx hb d_Fr_multiply_74 rfl (lv_at hl 1 rfl) ?_
            refine g_Fr_17 (v := .int O.2.1) hx hb hT hown hK hP 1 rfl rfl d_Fr_multiply_75 ?_
            refine lv_if_ne (tgt := 89) hx hb d_Fr_multiply_78 (by decide) (fun c_75 => ?_) (fun c_75 => ?_)
            · skip
              have h := h.2 c_75
              refine lv_aload_n hx hb d_Fr_multiply_89 rfl (lv_at hl 0 rfl) ?_
              refine g_Fr_17 (v := .int L.2.1) hx hb hT hown hK hP 0 rfl rfl d_Fr_multiply_90 ?_
              refine lv_if_eq (tgt := 103) hx hb d_Fr_multiply_93 (by decide) (fun c_76 => ?_) (fun c_76 => ?_)
              · exact absurd c_76 c_68
              · skip
                refine lv_aload_n hx hb d_Fr_multiply_96 rfl (lv_at hl 1 rfl) ?_
                refine g_Fr_17 (v := .int O.2.1) hx hb hT hown hK hP 1 rfl rfl d_Fr_multiply_97 ?_
                refine lv_if_ne (tgt := 130) hx hb d_Fr_multiply_100 (by decide) (fun c_77 => ?_) (fun c_77 => ?_)
                · skip
                  refine lv_aload_n hx hb d_Fr_multiply_130 rfl (lv_at hl 0 rfl) ?_
                  refine lv_aload_n hx hb d_Fr_multiply_131 rfl (lv_at hl 0 rfl) ?_
                  refine g_Fr_17 (v := .int L.2.1) hx hb hT hown hK hP 0 rfl rfl d_Fr_multiply_132 ?_
                  refine lv_aload_n hx hb d_Fr_multiply_135 rfl (lv_at hl 1 rfl) ?_
                  refine g_Fr_17 (v := .int O.2.1) hx hb hT hown hK hP 1 rfl rfl d_Fr_multiply_136 ?_
                  refine va_mmax hx hb (hml.trans hl.1.symm) hown (hT _ k_Fr_60) (hT _ jm_max_s) (hT _ jm_i) (hT _ jm_max_c) (Nat.le_of_ble_eq_true rfl) (Nat.le_of_ble_eq_true rfl) (Nat.le_of_ble_eq_true rfl) (Nat.le_of_ble_eq_true rfl) d_Fr_multiply_139 ?_
                  refine lv_topi (fun x_78 ex_78 => ?_)
                  have h := h x_78 ex_78
                  refine p_Fr_17 hx hb hT hown hK hP hD hS 0 rfl rfl d_Fr_multiply_142 (fun H locs (hP : va_P D vwCl (wF2 q qo ((1 : Int32), x_78, L.2.2.1, L.2.2.2) O) H) (hD : va_D A (wF2 q qo ((1 : Int32), x_78, L.2.2.1, L.2.2.2) O)) hS => ?_)
                  exact W.vret hx hb hr (fun t ht hW => ⟨⟨(((1 : Int32), x_78, L.2.2.1, L.2.2.2), O), rfl, h, by rw [ht]; exact hP, hD⟩, hS.F ht⟩) hS.2.2 d_Fr_multiply_145
                · exact absurd c_77 c_75
            · skip
              have h := h.1 c_75
              refine lv_aload_n hx hb d_Fr_multiply_81 rfl (lv_at hl 0 rfl) ?_
              refine lv_iconst (v := 3) hx hb d_Fr_multiply_82 (by decide) ?_
              refine p_Fr_17 hx hb hT hown hK hP hD hS 0 rfl rfl d_Fr_multiply_83 (fun H locs (hP : va_P D vwCl (wF2 q qo ((1 : Int32), (3 : Int32), L.2.2.1, L.2.2.2) O) H) (hD : va_D A (wF2 q qo ((1 : Int32), (3 : Int32), L.2.2.1, L.2.2.2) O)) hS => ?_)
              refine lv_goto (tgt := 145) hx hb d_Fr_multiply_86 (by decide) ?_
              exact W.vret hx hb hr (fun t ht hW => ⟨⟨(((1 : Int32), (3 : Int32), L.2.2.1, L.2.2.2), O), rfl, h, by rw [ht]; exact hP, hD⟩, hS.F ht⟩) hS.2.2 d_Fr_multiply_145
        · skip
          have h := h.1 c_68
          refine lv_aload_n hx hb d_Fr_multiply_58 rfl (lv_at hl 1 rfl) ?_
          refine g_Fr_17 (v := .int O.2.1) hx hb hT hown hK hP 1 rfl rfl d_Fr_multiply_59 ?_
          refine lv_iconst (v := 2) hx hb d_Fr_multiply_62 (by decide) ?_
          refine lv_icmp_eq (tgt := 81) hx hb d_Fr_multiply_63 (by decide) (fun c_79 => ?_) (fun c_79 => ?_)
          · skip
            have h := h.1 c_79
            refine lv_aload_n hx hb d_Fr_multiply_81 rfl (lv_at hl 0 rfl) ?_
            refine lv_iconst (v := 3) hx hb d_Fr_multiply_82 (by decide) ?_
            refine p_Fr_17 hx hb hT hown hK hP hD hS 0 rfl rfl d_Fr_multiply_83 (fun H locs (hP : va_P D vwCl (wF2 q qo ((1 : Int32), (3 : Int32), L.2.2.1, L.2.2.2) O) H) (hD : va_D A (wF2 q qo ((1 : Int32), (3 : Int32), L.2.2.1, L.2.2.2) O)) hS => ?_)
            refine lv_goto (tgt := 145) hx hb d_Fr_multiply_86 (by decide) ?_
            exact W.vret hx hb hr (fun t ht hW => ⟨⟨(((1 : Int32), (3 : Int32), L.2.2.1, L.2.2.2), O), rfl, h, by rw [ht]; exact hP, hD⟩, hS.F ht⟩) hS.2.2 d_Fr_multiply_145
          · skip
            have h := h.2 c_79
            refine lv_aload_n hx hb d_Fr_multiply_66 rfl (lv_at hl 0 rfl) ?_
            refine g_Fr_17 (v := .int L.2.1) hx hb hT hown hK hP 0 rfl rfl d_Fr_multiply_67 ?_
            refine lv_iconst (v := 2) hx hb d_Fr_multiply_70 (by decide) ?_
            refine lv_icmp_ne (tgt := 89) hx hb d_Fr_multiply_71 (by decide) (fun c_80 => ?_) (fun c_80 => ?_)
            · skip
              have h := h.2 c_80
              refine lv_aload_n hx hb d_Fr_multiply_89 rfl (lv_at hl 0 rfl) ?_
              refine g_Fr_17 (v := .int L.2.1) hx hb hT hown hK hP 0 rfl rfl d_Fr_multiply_90 ?_
              refine lv_if_eq (tgt := 103) hx hb d_Fr_multiply_93 (by decide) (fun c_81 => ?_) (fun c_81 => ?_)
              · skip
                refine lv_aload_n hx hb d_Fr_multiply_103 rfl (lv_at hl 0 rfl) ?_
                refine lv_aload_n hx hb d_Fr_multiply_104 rfl (lv_at hl 0 rfl) ?_
                refine g_Fr_17 (v := .int L.2.1) hx hb hT hown hK hP 0 rfl rfl d_Fr_multiply_105 ?_
                refine lv_aload_n hx hb d_Fr_multiply_108 rfl (lv_at hl 1 rfl) ?_
                refine g_Fr_17 (v := .int O.2.1) hx hb hT hown hK hP 1 rfl rfl d_Fr_multiply_109 ?_
                refine va_mmax hx hb (hml.trans hl.1.symm) hown (hT _ k_Fr_60) (hT _ jm_max_s) (hT _ jm_i) (hT _ jm_max_c) (Nat.le_of_ble_eq_true rfl) (Nat.le_of_ble_eq_true rfl) (Nat.le_of_ble_eq_true rfl) (Nat.le_of_ble_eq_true rfl) d_Fr_multiply_112 ?_
                refine lv_topi (fun x_82 ex_82 => ?_)
                have h := h x_82 ex_82
                refine lv_iconst (v := 3) hx hb d_Fr_multiply_115 (by decide) ?_
                refine lv_icmp_ne (tgt := 123) hx hb d_Fr_multiply_116 (by decide) (fun c_83 => ?_) (fun c_83 => ?_)
                · skip
                  have h := h.2 c_83
                  refine lv_iconst (v := 0) hx hb d_Fr_multiply_123 (by decide) ?_
                  refine p_Fr_17 hx hb hT hown hK hP hD hS 0 rfl rfl d_Fr_multiply_124 (fun H locs (hP : va_P D vwCl (wF2 q qo ((1 : Int32), (0 : Int32), L.2.2.1, L.2.2.2) O) H) (hD : va_D A (wF2 q qo ((1 : Int32), (0 : Int32), L.2.2.1, L.2.2.2) O)) hS => ?_)
                  refine lv_goto (tgt := 145) hx hb d_Fr_multiply_127 (by decide) ?_
                  exact W.vret hx hb hr (fun t ht hW => ⟨⟨(((1 : Int32), (0 : Int32), L.2.2.1, L.2.2.2), O), rfl, h, by rw [ht]; exact hP, hD⟩, hS.F ht⟩) hS.2.2 d_Fr_multiply_145
                · skip
                  have h := h.1 c_83
                  refine lv_iconst (v := 3) hx hb d_Fr_multiply_119 (by decide) ?_
                  refine lv_goto (tgt := 124) hx hb d_Fr_multiply_120 (by decide) ?_
                  refine p_Fr_17 hx hb hT hown hK hP hD hS 0 rfl rfl d_Fr_multiply_124 (fun H locs (hP : va_P D vwCl (wF2 q qo ((1 : Int32), (3 : Int32), L.2.2.1, L.2.2.2) O) H) (hD : va_D A (wF2 q qo ((1 : Int32), (3 : Int32), L.2.2.1, L.2.2.2) O)) hS => ?_)
                  refine lv_goto (tgt := 145) hx hb d_Fr_multiply_127 (by decide) ?_
                  exact W.vret hx hb hr (fun t ht hW => ⟨⟨(((1 : Int32), (3 : Int32), L.2.2.1, L.2.2.2), O), rfl, h, by rw [ht]; exact hP, hD⟩, hS.F ht⟩) hS.2.2 d_Fr_multiply_145
              · exact absurd c_68 c_81
            · skip
              have h := h.1 c_80
              refine lv_aload_n hx hb d_Fr_multiply_74 rfl (lv_at hl 1 rfl) ?_
              refine g_Fr_17 (v := .int O.2.1) hx hb hT hown hK hP 1 rfl rfl d_Fr_multiply_75 ?_
              refine lv_if_ne (tgt := 89) hx hb d_Fr_multiply_78 (by decide) (fun c_84 => ?_) (fun c_84 => ?_)
              · skip
                have h := h.2 c_84
                refine lv_aload_n hx hb d_Fr_multiply_89 rfl (lv_at hl 0 rfl) ?_
                refine g_Fr_17 (v := .int L.2.1) hx hb hT hown hK hP 0 rfl rfl d_Fr_multiply_90 ?_
                refine lv_if_eq (tgt := 103) hx hb d_Fr_multiply_93 (by decide) (fun c_85 => ?_) (fun c_85 => ?_)
                · skip
                  refine lv_aload_n hx hb d_Fr_multiply_103 rfl (lv_at hl 0 rfl) ?_
                  refine lv_aload_n hx hb d_Fr_multiply_104 rfl (lv_at hl 0 rfl) ?_
                  refine g_Fr_17 (v := .int L.2.1) hx hb hT hown hK hP 0 rfl rfl d_Fr_multiply_105 ?_
                  refine lv_aload_n hx hb d_Fr_multiply_108 rfl (lv_at hl 1 rfl) ?_
                  refine g_Fr_17 (v := .int O.2.1) hx hb hT hown hK hP 1 rfl rfl d_Fr_multiply_109 ?_
                  refine va_mmax hx hb (hml.trans hl.1.symm) hown (hT _ k_Fr_60) (hT _ jm_max_s) (hT _ jm_i) (hT _ jm_max_c) (Nat.le_of_ble_eq_true rfl) (Nat.le_of_ble_eq_true rfl) (Nat.le_of_ble_eq_true rfl) (Nat.le_of_ble_eq_true rfl) d_Fr_multiply_112 ?_
                  refine lv_topi (fun x_86 ex_86 => ?_)
                  have h := h x_86 ex_86
                  refine lv_iconst (v := 3) hx hb d_Fr_multiply_115 (by decide) ?_
                  refine lv_icmp_ne (tgt := 123) hx hb d_Fr_multiply_116 (by decide) (fun c_87 => ?_) (fun c_87 => ?_)
                  · skip
                    have h := h.2 c_87
                    refine lv_iconst (v := 0) hx hb d_Fr_multiply_123 (by decide) ?_
                    refine p_Fr_17 hx hb hT hown hK hP hD hS 0 rfl rfl d_Fr_multiply_124 (fun H locs (hP : va_P D vwCl (wF2 q qo ((1 : Int32), (0 : Int32), L.2.2.1, L.2.2.2) O) H) (hD : va_D A (wF2 q qo ((1 : Int32), (0 : Int32), L.2.2.1, L.2.2.2) O)) hS => ?_)
                    refine lv_goto (tgt := 145) hx hb d_Fr_multiply_127 (by decide) ?_
                    exact W.vret hx hb hr (fun t ht hW => ⟨⟨(((1 : Int32), (0 : Int32), L.2.2.1, L.2.2.2), O), rfl, h, by rw [ht]; exact hP, hD⟩, hS.F ht⟩) hS.2.2 d_Fr_multiply_145
                  · skip
                    have h := h.1 c_87
                    refine lv_iconst (v := 3) hx hb d_Fr_multiply_119 (by decide) ?_
                    refine lv_goto (tgt := 124) hx hb d_Fr_multiply_120 (by decide) ?_
                    refine p_Fr_17 hx hb hT hown hK hP hD hS 0 rfl rfl d_Fr_multiply_124 (fun H locs (hP : va_P D vwCl (wF2 q qo ((1 : Int32), (3 : Int32), L.2.2.1, L.2.2.2) O) H) (hD : va_D A (wF2 q qo ((1 : Int32), (3 : Int32), L.2.2.1, L.2.2.2) O)) hS => ?_)
                    refine lv_goto (tgt := 145) hx hb d_Fr_multiply_127 (by decide) ?_
                    exact W.vret hx hb hr (fun t ht hW => ⟨⟨(((1 : Int32), (3 : Int32), L.2.2.1, L.2.2.2), O), rfl, h, by rw [ht]; exact hP, hD⟩, hS.F ht⟩) hS.2.2 d_Fr_multiply_145
                · exact absurd c_68 c_85
              · skip
                have h := h.1 c_84
                refine lv_aload_n hx hb d_Fr_multiply_81 rfl (lv_at hl 0 rfl) ?_
                refine lv_iconst (v := 3) hx hb d_Fr_multiply_82 (by decide) ?_
                refine p_Fr_17 hx hb hT hown hK hP hD hS 0 rfl rfl d_Fr_multiply_83 (fun H locs (hP : va_P D vwCl (wF2 q qo ((1 : Int32), (3 : Int32), L.2.2.1, L.2.2.2) O) H) (hD : va_D A (wF2 q qo ((1 : Int32), (3 : Int32), L.2.2.1, L.2.2.2) O)) hS => ?_)
                refine lv_goto (tgt := 145) hx hb d_Fr_multiply_86 (by decide) ?_
                exact W.vret hx hb hr (fun t ht hW => ⟨⟨(((1 : Int32), (3 : Int32), L.2.2.1, L.2.2.2), O), rfl, h, by rw [ht]; exact hP, hD⟩, hS.F ht⟩) hS.2.2 d_Fr_multiply_145
      · skip
        have h := h.1 c_67
        refine lv_aload_n hx hb d_Fr_multiply_36 rfl (lv_at hl 0 rfl) ?_
        refine lv_aload_n hx hb d_Fr_multiply_37 rfl (lv_at hl 1 rfl) ?_
        refine g_Fr_34 (v := .long O.2.2.2) hx hb hT hown hK hP 1 rfl rfl d_Fr_multiply_38 ?_
        refine lv_aload_n hx hb d_Fr_multiply_41 rfl (lv_at hl 1 rfl) ?_
        refine g_Fr_38 (v := .int O.2.2.1) hx hb hT hown hK hP 1 rfl rfl d_Fr_multiply_42 ?_
        refine zz_Wv (As := [.long O.2.2.2, .int O.2.2.1]) (rest := []) (wc := wF1 q ((1 : Int32), L.2.1, L.2.2.1, L.2.2.2)) (wr := [(qo, .inr (0, [.int O.1, .int O.2.1, .int O.2.2.1, .long O.2.2.2]))]) X hK hP hD hS hA (c_Fr_multiplyFinite l D cI q ((1 : Int32), L.2.1, L.2.2.1, L.2.2.2) O.2.2.2 O.2.2.1 _ h _) ⟨rfl, rfl⟩ m_Fr_multiplyFinite k_Fr_75 ⟨Nat.le_of_ble_eq_true rfl, Nat.le_of_ble_eq_true rfl⟩ [0] [1] rfl rfl (by decide) (by decide) (by decide) 0 0 rfl rfl rfl rfl hl.1 rfl (Nat.le_of_ble_eq_true rfl) d_Fr_multiply_45 hf0 (fun u_88 H locs h hP hD hS => ?_)
        have hP : va_P D vwCl (wF2 q qo u_88 O) H := hP.sub [1, 0] rfl
        have hD : va_D A (wF2 q qo u_88 O) := hD.sub [1, 0] (by decide) rfl
        refine lv_goto (tgt := 145) hx hb d_Fr_multiply_48 (by decide) ?_
        exact W.vret hx hb hr (fun t ht hW => ⟨⟨(u_88, O), rfl, h, by rw [ht]; exact hP, hD⟩, hS.F ht⟩) hS.2.2 d_Fr_multiply_145
def wp_Fr_divide (L : Int32 × Int32 × Int32 × Int64) (O : Int32 × Int32 × Int32 × Int64) (P : ((Int32 × Int32 × Int32 × Int64) × (Int32 × Int32 × Int32 × Int64)) → Prop) : Prop := ((L.1 = O.1 → ((L.2.1 = (1 : Int32) → ((O.2.1 = (1 : Int32) → ∀ x_14 : Int64, x_14 = (zz_lushr O.2.2.2 (10 : Int32)) → wp_Fr_divideFinite ((0 : Int32), L.2.1, L.2.2.1, L.2.2.2) x_14 O.2.2.1 (fun u_15 => P (u_15, O))) ∧ (¬ O.2.1 = (1 : Int32) → ((L.2.1 = (3 : Int32) → P (((0 : Int32), (3 : Int32), L.2.2.1, L.2.2.2), O)) ∧ (¬ L.2.1 = (3 : Int32) → ((O.2.1 = (3 : Int32) → P (((0 : Int32), (3 : Int32), L.2.2.1, L.2.2.2), O)) ∧ (¬ O.2.1 = (3 : Int32) → ((L.2.1 = O.2.1 → P (((0 : Int32), (3 : Int32), L.2.2.1, L.2.2.2), O)) ∧ (¬ L.2.1 = O.2.1 → ((L.2.1 = (2 : Int32) → P (((0 : Int32), (2 : Int32), L.2.2.1, L.2.2.2), O)) ∧ (¬ L.2.1 = (2 : Int32) → ((O.2.1 = (0 : Int32) → P (((0 : Int32), (2 : Int32), L.2.2.1, L.2.2.2), O)) ∧ (¬ O.2.1 = (0 : Int32) → P (((0 : Int32), (0 : Int32), L.2.2.1, L.2.2.2), O)))))))))))))) ∧ (¬ L.2.1 = (1 : Int32) → ((L.2.1 = (3 : Int32) → P (((0 : Int32), (3 : Int32), L.2.2.1, L.2.2.2), O)) ∧ (¬ L.2.1 = (3 : Int32) → ((O.2.1 = (3 : Int32) → P (((0 : Int32), (3 : Int32), L.2.2.1, L.2.2.2), O)) ∧ (¬ O.2.1 = (3 : Int32) → ((L.2.1 = O.2.1 → P (((0 : Int32), (3 : Int32), L.2.2.1, L.2.2.2), O)) ∧ (¬ L.2.1 = O.2.1 → ((L.2.1 = (2 : Int32) → P (((0 : Int32), (2 : Int32), L.2.2.1, L.2.2.2), O)) ∧ (¬ L.2.1 = (2 : Int32) → ((O.2.1 = (0 : Int32) → P (((0 : Int32), (2 : Int32), L.2.2.1, L.2.2.2), O)) ∧ (¬ O.2.1 = (0 : Int32) → P (((0 : Int32), (0 : Int32), L.2.2.1, L.2.2.2), O)))))))))))))) ∧ (¬ L.1 = O.1 → ((L.2.1 = (1 : Int32) → ((O.2.1 = (1 : Int32) → ∀ x_29 : Int64, x_29 = (zz_lushr O.2.2.2 (10 : Int32)) → wp_Fr_divideFinite ((1 : Int32), L.2.1, L.2.2.1, L.2.2.2) x_29 O.2.2.1 (fun u_30 => P (u_30, O))) ∧ (¬ O.2.1 = (1 : Int32) → ((L.2.1 = (3 : Int32) → P (((1 : Int32), (3 : Int32), L.2.2.1, L.2.2.2), O)) ∧ (¬ L.2.1 = (3 : Int32) → ((O.2.1 = (3 : Int32) → P (((1 : Int32), (3 : Int32), L.2.2.1, L.2.2.2), O)) ∧ (¬ O.2.1 = (3 : Int32) → ((L.2.1 = O.2.1 → P (((1 : Int32), (3 : Int32), L.2.2.1, L.2.2.2), O)) ∧ (¬ L.2.1 = O.2.1 → ((L.2.1 = (2 : Int32) → P (((1 : Int32), (2 : Int32), L.2.2.1, L.2.2.2), O)) ∧ (¬ L.2.1 = (2 : Int32) → ((O.2.1 = (0 : Int32) → P (((1 : Int32), (2 : Int32), L.2.2.1, L.2.2.2), O)) ∧ (¬ O.2.1 = (0 : Int32) → P (((1 : Int32), (0 : Int32), L.2.2.1, L.2.2.2), O)))))))))))))) ∧ (¬ L.2.1 = (1 : Int32) → ((L.2.1 = (3 : Int32) → P (((1 : Int32), (3 : Int32), L.2.2.1, L.2.2.2), O)) ∧ (¬ L.2.1 = (3 : Int32) → ((O.2.1 = (3 : Int32) → P (((1 : Int32), (3 : Int32), L.2.2.1, L.2.2.2), O)) ∧ (¬ O.2.1 = (3 : Int32) → ((L.2.1 = O.2.1 → P (((1 : Int32), (3 : Int32), L.2.2.1, L.2.2.2), O)) ∧ (¬ L.2.1 = O.2.1 → ((L.2.1 = (2 : Int32) → P (((1 : Int32), (2 : Int32), L.2.2.1, L.2.2.2), O)) ∧ (¬ L.2.1 = (2 : Int32) → ((O.2.1 = (0 : Int32) → P (((1 : Int32), (2 : Int32), L.2.2.1, L.2.2.2), O)) ∧ (¬ O.2.1 = (0 : Int32) → P (((1 : Int32), (0 : Int32), L.2.2.1, L.2.2.2), O)))))))))))))))
abbrev rm_Fr_divide : Room := { frames := 2, cells := 0, slots := 0, locals := 52 }
set_option maxHeartbeats 4000000 in
set_option maxRecDepth 100000 in
theorem c_Fr_divide (l : Launch) (D : va_G) (cI : ClassId) (q : Nat) (qo : Nat) (L : Int32 × Int32 × Int32 × Int64) (O : Int32 × Int32 × Int32 × Int64) (P : ((Int32 × Int32 × Int32 × Int64) × (Int32 × Int32 × Int32 × Int64)) → Prop) (h : wp_Fr_divide L O P) (sz : Nat) : Met l y_Fr_divide (zz_ws y_Fr_divide b_Fr_divide 2 none) rm_Fr_divide (va_Pc [.ref q, .ref qo] (zz_pw D [(cI, .int)] (wF2 q qo L O) sz)) (va_Qv P (zz_qw D (fun u => wF2 q qo u.1 u.2) (va_A (wF2 q qo L O) sz)) (va_A (wF2 q qo L O) sz)) 0 0 (va_A (wF2 q qo L O) sz) := by
  refine Met.ofW (cc := b_Fr_divide) (maxL := 2) (ret := none) (by decide) rfl ?_
  intro p e s m args below meth c s₁ B hml hv
  obtain ⟨rfl, hsz, hP, hK, hD0⟩ := hv
  have hx := B.exec
  have hb := B.bytes
  have hr := B.returns
  have hts := atoms_spec (ws := (zz_ws y_Fr_divide b_Fr_divide 2 none)) B.pre
  have hown : s.vm.findClass R_Fr = some m.cls := findClass_of_methodNamed B.named
  have hlocks := B.notSynchronized
  have hT := zz_hts hts
  have X : CallFix p m c b_Fr_divide 2 s ([.ref q, .ref qo] : List Value).toArray (zz_ws y_Fr_divide b_Fr_divide 2 none) R_Fr := ⟨hx, hb, hml, hown, hts⟩
  have hf0 : 0 + 0 ≤ (headSpec (zz_ws y_Fr_divide b_Fr_divide 2 none) rm_Fr_divide).room.cells ∧ 0 + 0 ≤ (headSpec (zz_ws y_Fr_divide b_Fr_divide 2 none) rm_Fr_divide).room.slots := ⟨Nat.le_of_ble_eq_true rfl, Nat.le_of_ble_eq_true rfl⟩
  subst hsz
  have hD := hD0.self (sz := s.heap.size)
  generalize hAe : va_A (wF2 q qo L O) s.heap.size = A at hD ⊢
  have hA : ∀ q : Nat, s.heap.size ≤ q → A q := fun q h => by rw [← hAe]; exact Or.inr h
  have hS : va_S A s.heap s.heap [] := va_S.rf
  have hl := lv_entry ([.ref q, .ref qo]) (n := 2) (Nat.le_of_ble_eq_true rfl)
  rw [lg_entry_eq]
  generalize (lg_sl ([.ref q, .ref qo]) ++ List.replicate (2 - (lg_sl ([.ref q, .ref qo])).length) Slot.unset).toArray = ls at hl ⊢
  have hl : lv_has ls 2 [(0, .ref q), (1, .ref qo)] := hl
  refine lv_aload_n hx hb d_Fr_divide_0 rfl (lv_at hl 0 rfl) ?_
  refine lv_aload_n hx hb d_Fr_divide_1 rfl (lv_at hl 0 rfl) ?_
  refine g_Fr_13 (v := .int L.1) hx hb hT hown hK hP 0 rfl rfl d_Fr_divide_2 ?_
  refine lv_aload_n hx hb d_Fr_divide_5 rfl (lv_at hl 1 rfl) ?_
  refine g_Fr_13 (v := .int O.1) hx hb hT hown hK hP 1 rfl rfl d_Fr_divide_6 ?_
  refine lv_icmp_eq (tgt := 16) hx hb d_Fr_divide_9 (by decide) (fun c_1 => ?_) (fun c_1 => ?_)
  · skip
    have h := h.1 c_1
    refine lv_iconst (v := 0) hx hb d_Fr_divide_16 (by decide) ?_
    refine p_Fr_13 hx hb hT hown hK hP hD hS 0 rfl rfl (Or.inl rfl) d_Fr_divide_17 (fun H locs (hP : va_P D vwCl (wF2 q qo ((0 : Int32), L.2.1, L.2.2.1, L.2.2.2) O) H) (hD : va_D A (wF2 q qo ((0 : Int32), L.2.1, L.2.2.1, L.2.2.2) O)) hS => ?_)
    refine lv_aload_n hx hb d_Fr_divide_20 rfl (lv_at hl 0 rfl) ?_
    refine g_Fr_17 (v := .int L.2.1) hx hb hT hown hK hP 0 rfl rfl d_Fr_divide_21 ?_
    refine lv_iconst (v := 1) hx hb d_Fr_divide_24 (by decide) ?_
    refine lv_icmp_ne (tgt := 54) hx hb d_Fr_divide_25 (by decide) (fun c_2 => ?_) (fun c_2 => ?_)
    · skip
      have h := h.2 c_2
      refine lv_aload_n hx hb d_Fr_divide_54 rfl (lv_at hl 0 rfl) ?_
      refine g_Fr_17 (v := .int L.2.1) hx hb hT hown hK hP 0 rfl rfl d_Fr_divide_55 ?_
      refine lv_iconst (v := 3) hx hb d_Fr_divide_58 (by decide) ?_
      refine lv_icmp_eq (tgt := 81) hx hb d_Fr_divide_59 (by decide) (fun c_3 => ?_) (fun c_3 => ?_)
      · skip
        have h := h.1 c_3
        refine lv_aload_n hx hb d_Fr_divide_81 rfl (lv_at hl 0 rfl) ?_
        refine lv_iconst (v := 3) hx hb d_Fr_divide_82 (by decide) ?_
        refine p_Fr_17 hx hb hT hown hK hP hD hS 0 rfl rfl d_Fr_divide_83 (fun H locs (hP : va_P D vwCl (wF2 q qo ((0 : Int32), (3 : Int32), L.2.2.1, L.2.2.2) O) H) (hD : va_D A (wF2 q qo ((0 : Int32), (3 : Int32), L.2.2.1, L.2.2.2) O)) hS => ?_)
        refine lv_goto (tgt := 117) hx hb d_Fr_divide_86 (by decide) ?_
        exact W.vret hx hb hr (fun t ht hW => ⟨⟨(((0 : Int32), (3 : Int32), L.2.2.1, L.2.2.2), O), rfl, h, by rw [ht]; exact hP, hD⟩, hS.F ht⟩) hS.2.2 d_Fr_divide_117
      · skip
        have h := h.2 c_3
        refine lv_aload_n hx hb d_Fr_divide_62 rfl (lv_at hl 1 rfl) ?_
        refine g_Fr_17 (v := .int O.2.1) hx hb hT hown hK hP 1 rfl rfl d_Fr_divide_63 ?_
        refine lv_iconst (v := 3) hx hb d_Fr_divide_66 (by decide) ?_
        refine lv_icmp_eq (tgt := 81) hx hb d_Fr_divide_67 (by decide) (fun c_4 => ?_) (fun c_4 => ?_)
        · skip
          have h := h.1 c_4
          refine lv_aload_n hx hb d_Fr_divide_81 rfl (lv_at hl 0 rfl) ?_
          refine lv_iconst (v := 3) hx hb d_Fr_divide_82 (by decide) ?_
          refine p_Fr_17 hx hb hT hown hK hP hD hS 0 rfl rfl d_Fr_divide_83 (fun H locs (hP : va_P D vwCl (wF2 q qo ((0 : Int32), (3 : Int32), L.2.2.1, L.2.2.2) O) H) (hD : va_D A (wF2 q qo ((0 : Int32), (3 : Int32), L.2.2.1, L.2.2.2) O)) hS => ?_)
          refine lv_goto (tgt := 117) hx hb d_Fr_divide_86 (by decide) ?_
          exact W.vret hx hb hr (fun t ht hW => ⟨⟨(((0 : Int32), (3 : Int32), L.2.2.1, L.2.2.2), O), rfl, h, by rw [ht]; exact hP, hD⟩, hS.F ht⟩) hS.2.2 d_Fr_divide_117
        · skip
          have h := h.2 c_4
          refine lv_aload_n hx hb d_Fr_divide_70 rfl (lv_at hl 0 rfl) ?_
          refine g_Fr_17 (v := .int L.2.1) hx hb hT hown hK hP 0 rfl rfl d_Fr_divide_71 ?_
          refine lv_aload_n hx hb d_Fr_divide_74 rfl (lv_at hl 1 rfl) ?_
          refine g_Fr_17 (v := .int O.2.1) hx hb hT hown hK hP 1 rfl rfl d_Fr_divide_75 ?_
          refine lv_icmp_ne (tgt := 89) hx hb d_Fr_divide_78 (by decide) (fun c_5 => ?_) (fun c_5 => ?_)
          · skip
            have h := h.2 c_5
            refine lv_aload_n hx hb d_Fr_divide_89 rfl (lv_at hl 0 rfl) ?_
            refine g_Fr_17 (v := .int L.2.1) hx hb hT hown hK hP 0 rfl rfl d_Fr_divide_90 ?_
            refine lv_iconst (v := 2) hx hb d_Fr_divide_93 (by decide) ?_
            refine lv_icmp_eq (tgt := 104) hx hb d_Fr_divide_94 (by decide) (fun c_6 => ?_) (fun c_6 => ?_)
            · skip
              have h := h.1 c_6
              refine lv_aload_n hx hb d_Fr_divide_104 rfl (lv_at hl 0 rfl) ?_
              refine lv_iconst (v := 2) hx hb d_Fr_divide_105 (by decide) ?_
              refine p_Fr_17 hx hb hT hown hK hP hD hS 0 rfl rfl d_Fr_divide_106 (fun H locs (hP : va_P D vwCl (wF2 q qo ((0 : Int32), (2 : Int32), L.2.2.1, L.2.2.2) O) H) (hD : va_D A (wF2 q qo ((0 : Int32), (2 : Int32), L.2.2.1, L.2.2.2) O)) hS => ?_)
              refine lv_goto (tgt := 117) hx hb d_Fr_divide_109 (by decide) ?_
              exact W.vret hx hb hr (fun t ht hW => ⟨⟨(((0 : Int32), (2 : Int32), L.2.2.1, L.2.2.2), O), rfl, h, by rw [ht]; exact hP, hD⟩, hS.F ht⟩) hS.2.2 d_Fr_divide_117
            · skip
              have h := h.2 c_6
              refine lv_aload_n hx hb d_Fr_divide_97 rfl (lv_at hl 1 rfl) ?_
              refine g_Fr_17 (v := .int O.2.1) hx hb hT hown hK hP 1 rfl rfl d_Fr_divide_98 ?_
              refine lv_if_ne (tgt := 112) hx hb d_Fr_divide_101 (by decide) (fun c_7 => ?_) (fun c_7 => ?_)
              · skip
                have h := h.2 c_7
                refine lv_aload_n hx hb d_Fr_divide_112 rfl (lv_at hl 0 rfl) ?_
                refine lv_iconst (v := 0) hx hb d_Fr_divide_113 (by decide) ?_
                refine p_Fr_17 hx hb hT hown hK hP hD hS 0 rfl rfl d_Fr_divide_114 (fun H locs (hP : va_P D vwCl (wF2 q qo ((0 : Int32), (0 : Int32), L.2.2.1, L.2.2.2) O) H) (hD : va_D A (wF2 q qo ((0 : Int32), (0 : Int32), L.2.2.1, L.2.2.2) O)) hS => ?_)
                exact W.vret hx hb hr (fun t ht hW => ⟨⟨(((0 : Int32), (0 : Int32), L.2.2.1, L.2.2.2), O), rfl, h, by rw [ht]; exact hP, hD⟩, hS.F ht⟩) hS.2.2 d_Fr_divide_117
              · skip
                have h := h.1 c_7
                refine lv_aload_n hx hb d_Fr_divide_104 rfl (lv_at hl 0 rfl) ?_
                refine lv_iconst (v := 2) hx hb d_Fr_divide_105 (by decide) ?_
                refine p_Fr_17 hx hb hT hown hK hP hD hS 0 rfl rfl d_Fr_divide_106 (fun H locs (hP : va_P D vwCl (wF2 q qo ((0 : Int32), (2 : Int32), L.2.2.1, L.2.2.2) O) H) (hD : va_D A (wF2 q qo ((0 : Int32), (2 : Int32), L.2.2.1, L.2.2.2) O)) hS => ?_)
                refine lv_goto (tgt := 117) hx hb d_Fr_divide_109 (by decide) ?_
                exact W.vret hx hb hr (fun t ht hW => ⟨⟨(((0 : Int32), (2 : Int32), L.2.2.1, L.2.2.2), O), rfl, h, by rw [ht]; exact hP, hD⟩, hS.F ht⟩) hS.2.2 d_Fr_divide_117
          · skip
            have h := h.1 c_5
            refine lv_aload_n hx hb d_Fr_divide_81 rfl (lv_at hl 0 rfl) ?_
            refine lv_iconst (v := 3) hx hb d_Fr_divide_82 (by decide) ?_
            refine p_Fr_17 hx hb hT hown hK hP hD hS 0 rfl rfl d_Fr_divide_83 (fun H locs (hP : va_P D vwCl (wF2 q qo ((0 : Int32), (3 : Int32), L.2.2.1, L.2.2.2) O) H) (hD : va_D A (wF2 q qo ((0 : Int32), (3 : Int32), L.2.2.1, L.2.2.2) O)) hS => ?_)
            refine lv_goto (tgt := 117) hx hb d_Fr_divide_86 (by decide) ?_
            exact W.vret hx hb hr (fun t ht hW => ⟨⟨(((0 : Int32), (3 : Int32), L.2.2.1, L.2.2.2), O), rfl, h, by rw [ht]; exact hP, hD⟩, hS.F ht⟩) hS.2.2 d_Fr_divide_117
    · skip
      have h := h.1 c_2
      refine lv_aload_n hx hb d_Fr_divide_28 rfl (lv_at hl 1 rfl) ?_
      refine g_Fr_17 (v := .int O.2.1) hx hb hT hown hK hP 1 rfl rfl d_Fr_divide_29 ?_
      refine lv_iconst (v := 1) hx hb d_Fr_divide_32 (by decide) ?_
      refine lv_icmp_ne (tgt := 54) hx hb d_Fr_divide_33 (by decide) (fun c_8 => ?_) (fun c_8 => ?_)
      · skip
        have h := h.2 c_8
        refine lv_aload_n hx hb d_Fr_divide_54 rfl (lv_at hl 0 rfl) ?_
        refine g_Fr_17 (v := .int L.2.1) hx hb hT hown hK hP 0 rfl rfl d_Fr_divide_55 ?_
        refine lv_iconst (v := 3) hx hb d_Fr_divide_58 (by decide) ?_
        refine lv_icmp_eq (tgt := 81) hx hb d_Fr_divide_59 (by decide) (fun c_9 => ?_) (fun c_9 => ?_)
        · skip
          have h := h.1 c_9
          refine lv_aload_n hx hb d_Fr_divide_81 rfl (lv_at hl 0 rfl) ?_
          refine lv_iconst (v := 3) hx hb d_Fr_divide_82 (by decide) ?_
          refine p_Fr_17 hx hb hT hown hK hP hD hS 0 rfl rfl d_Fr_divide_83 (fun H locs (hP : va_P D vwCl (wF2 q qo ((0 : Int32), (3 : Int32), L.2.2.1, L.2.2.2) O) H) (hD : va_D A (wF2 q qo ((0 : Int32), (3 : Int32), L.2.2.1, L.2.2.2) O)) hS => ?_)
          refine lv_goto (tgt := 117) hx hb d_Fr_divide_86 (by decide) ?_
          exact W.vret hx hb hr (fun t ht hW => ⟨⟨(((0 : Int32), (3 : Int32), L.2.2.1, L.2.2.2), O), rfl, h, by rw [ht]; exact hP, hD⟩, hS.F ht⟩) hS.2.2 d_Fr_divide_117
        · skip
          have h := h.2 c_9
          refine lv_aload_n hx hb d_Fr_divide_62 rfl (lv_at hl 1 rfl) ?_
          refine g_Fr_17 (v := .int O.2.1) hx hb hT hown hK hP 1 rfl rfl d_Fr_divide_63 ?_
          refine lv_iconst (v := 3) hx hb d_Fr_divide_66 (by decide) ?_
          refine lv_icmp_eq (tgt := 81) hx hb d_Fr_divide_67 (by decide) (fun c_10 => ?_) (fun c_10 => ?_)
          · skip
            have h := h.1 c_10
            refine lv_aload_n hx hb d_Fr_divide_81 rfl (lv_at hl 0 rfl) ?_
            refine lv_iconst (v := 3) hx hb d_Fr_divide_82 (by decide) ?_
            refine p_Fr_17 hx hb hT hown hK hP hD hS 0 rfl rfl d_Fr_divide_83 (fun H locs (hP : va_P D vwCl (wF2 q qo ((0 : Int32), (3 : Int32), L.2.2.1, L.2.2.2) O) H) (hD : va_D A (wF2 q qo ((0 : Int32), (3 : Int32), L.2.2.1, L.2.2.2) O)) hS => ?_)
            refine lv_goto (tgt := 117) hx hb d_Fr_divide_86 (by decide) ?_
            exact W.vret hx hb hr (fun t ht hW => ⟨⟨(((0 : Int32), (3 : Int32), L.2.2.1, L.2.2.2), O), rfl, h, by rw [ht]; exact hP, hD⟩, hS.F ht⟩) hS.2.2 d_Fr_divide_117
          · skip
            have h := h.2 c_10
            refine lv_aload_n hx hb d_Fr_divide_70 rfl (lv_at hl 0 rfl) ?_
            refine g_Fr_17 (v := .int L.2.1) hx hb hT hown hK hP 0 rfl rfl d_Fr_divide_71 ?_
            refine lv_aload_n hx hb d_Fr_divide_74 rfl (lv_at hl 1 rfl) ?_
            refine g_Fr_17 (v := .int O.2.1) hx hb hT hown hK hP 1 rfl rfl d_Fr_divide_75 ?_
            refine lv_icmp_ne (tgt := 89) hx hb d_Fr_divide_78 (by decide) (fun c_11 => ?_) (fun c_11 => ?_)
            · skip
              have h := h.2 c_11
              refine lv_aload_n hx hb d_Fr_divide_89 rfl (lv_at hl 0 rfl) ?_
              refine g_Fr_17 (v := .int L.2.1) hx hb hT hown hK hP 0 rfl rfl d_Fr_divide_90 ?_
              refine lv_iconst (v := 2) hx hb d_Fr_divide_93 (by decide) ?_
              refine lv_icmp_eq (tgt := 104) hx hb d_Fr_divide_94 (by decide) (fun c_12 => ?_) (fun c_12 => ?_)
              · skip
                have h := h.1 c_12
                refine lv_aload_n hx hb d_Fr_divide_104 rfl (lv_at hl 0 rfl) ?_
                refine lv_iconst (v := 2) hx hb d_Fr_divide_105 (by decide) ?_
                refine p_Fr_17 hx hb hT hown hK hP hD hS 0 rfl rfl d_Fr_divide_106 (fun H locs (hP : va_P D vwCl (wF2 q qo ((0 : Int32), (2 : Int32), L.2.2.1, L.2.2.2) O) H) (hD : va_D A (wF2 q qo ((0 : Int32), (2 : Int32), L.2.2.1, L.2.2.2) O)) hS => ?_)
                refine lv_goto (tgt := 117) hx hb d_Fr_divide_109 (by decide) ?_
                exact W.vret hx hb hr (fun t ht hW => ⟨⟨(((0 : Int32), (2 : Int32), L.2.2.1, L.2.2.2), O), rfl, h, by rw [ht]; exact hP, hD⟩, hS.F ht⟩) hS.2.2 d_Fr_divide_117
              · skip
                have h := h.2 c_12
                refine lv_aload_n hx hb d_Fr_divide_97 rfl (lv_at hl 1 rfl) ?_
                refine g_Fr_17 (v := .int O.2.1) hx hb hT hown hK hP 1 rfl rfl d_Fr_divide_98 ?_
                refine lv_if_ne (tgt := 112) hx hb d_Fr_divide_101 (by decide) (fun c_13 => ?_) (fun c_13 => ?_)
                · skip
                  have h := h.2 c_13
                  refine lv_aload_n hx hb d_Fr_divide_112 rfl (lv_at hl 0 rfl) ?_
                  refine lv_iconst (v := 0) hx hb d_Fr_divide_113 (by decide) ?_
                  refine p_Fr_17 hx hb hT hown hK hP hD hS 0 rfl rfl d_Fr_divide_114 (fun H locs (hP : va_P D vwCl (wF2 q qo ((0 : Int32), (0 : Int32), L.2.2.1, L.2.2.2) O) H) (hD : va_D A (wF2 q qo ((0 : Int32), (0 : Int32), L.2.2.1, L.2.2.2) O)) hS => ?_)
                  exact W.vret hx hb hr (fun t ht hW => ⟨⟨(((0 : Int32), (0 : Int32), L.2.2.1, L.2.2.2), O), rfl, h, by rw [ht]; exact hP, hD⟩, hS.F ht⟩) hS.2.2 d_Fr_divide_117
                · skip
                  have h := h.1 c_13
                  refine lv_aload_n hx hb d_Fr_divide_104 rfl (lv_at hl 0 rfl) ?_
                  refine lv_iconst (v := 2) hx hb d_Fr_divide_105 (by decide) ?_
                  refine p_Fr_17 hx hb hT hown hK hP hD hS 0 rfl rfl d_Fr_divide_106 (fun H locs (hP : va_P D vwCl (wF2 q qo ((0 : Int32), (2 : Int32), L.2.2.1, L.2.2.2) O) H) (hD : va_D A (wF2 q qo ((0 : Int32), (2 : Int32), L.2.2.1, L.2.2.2) O)) hS => ?_)
                  refine lv_goto (tgt := 117) hx hb d_Fr_divide_109 (by decide) ?_
                  exact W.vret hx hb hr (fun t ht hW => ⟨⟨(((0 : Int32), (2 : Int32), L.2.2.1, L.2.2.2), O), rfl, h, by rw [ht]; exact hP, hD⟩, hS.F ht⟩) hS.2.2 d_Fr_divide_117
            · skip
              have h := h.1 c_11
              refine lv_aload_n hx hb d_Fr_divide_81 rfl (lv_at hl 0 rfl) ?_
              refine lv_iconst (v := 3) hx hb d_Fr_divide_82 (by decide) ?_
              refine p_Fr_17 hx hb hT hown hK hP hD hS 0 rfl rfl d_Fr_divide_83 (fun H locs (hP : va_P D vwCl (wF2 q qo ((0 : Int32), (3 : Int32), L.2.2.1, L.2.2.2) O) H) (hD : va_D A (wF2 q qo ((0 : Int32), (3 : Int32), L.2.2.1, L.2.2.2) O)) hS => ?_)
              refine lv_goto (tgt := 117) hx hb d_Fr_divide_86 (by decide) ?_
              exact W.vret hx hb hr (fun t ht hW => ⟨⟨(((0 : Int32), (3 : Int32), L.2.2.1, L.2.2.2), O), rfl, h, by rw [ht]; exact hP, hD⟩, hS.F ht⟩) hS.2.2 d_Fr_divide_117
      · skip
        have h := h.1 c_8
        refine lv_aload_n hx hb d_Fr_divide_36 rfl (lv_at hl 0 rfl) ?_
        refine lv_aload_n hx hb d_Fr_divide_37 rfl (lv_at hl 1 rfl) ?_
        refine g_Fr_34 (v := .long O.2.2.2) hx hb hT hown hK hP 1 rfl rfl d_Fr_divide_38 ?_
        refine lv_bipush (v := 10) hx hb d_Fr_divide_41 (by decide) ?_
        refine zz_llushr hx hb d_Fr_divide_43 ?_
        refine lv_topl (fun x_14 ex_14 => ?_)
        have h := h x_14 ex_14
        refine lv_aload_n hx hb d_Fr_divide_44 rfl (lv_at hl 1 rfl) ?_
        refine g_Fr_38 (v := .int O.2.2.1) hx hb hT hown hK hP 1 rfl rfl d_Fr_divide_45 ?_
        refine zz_Wv (As := [.long x_14, .int O.2.2.1]) (rest := []) (wc := wF1 q ((0 : Int32), L.2.1, L.2.2.1, L.2.2.2)) (wr := [(qo, .inr (0, [.int O.1, .int O.2.1, .int O.2.2.1, .long O.2.2.2]))]) X hK hP hD hS hA (c_Fr_divideFinite l D cI q ((0 : Int32), L.2.1, L.2.2.1, L.2.2.2) x_14 O.2.2.1 _ h _) ⟨rfl, rfl⟩ m_Fr_divideFinite k_Fr_80 ⟨Nat.le_of_ble_eq_true rfl, Nat.le_of_ble_eq_true rfl⟩ [0] [1] rfl rfl (by decide) (by decide) (by decide) 0 0 rfl rfl rfl rfl hl.1 rfl (Nat.le_of_ble_eq_true rfl) d_Fr_divide_48 hf0 (fun u_15 H locs h hP hD hS => ?_)
        have hP : va_P D vwCl (wF2 q qo u_15 O) H := hP.sub [1, 0] rfl
        have hD : va_D A (wF2 q qo u_15 O) := hD.sub [1, 0] (by decide) rfl
        refine lv_goto (tgt := 117) hx hb d_Fr_divide_51 (by decide) ?_
        exact W.vret hx hb hr (fun t ht hW => ⟨⟨(u_15, O), rfl, h, by rw [ht]; exact hP, hD⟩, hS.F ht⟩) hS.2.2 d_Fr_divide_117
  · skip
    have h := h.2 c_1
    refine lv_iconst (v := 1) hx hb d_Fr_divide_12 (by decide) ?_
    refine lv_goto (tgt := 17) hx hb d_Fr_divide_13 (by decide) ?_
    refine p_Fr_13 hx hb hT hown hK hP hD hS 0 rfl rfl (Or.inr rfl) d_Fr_divide_17 (fun H locs (hP : va_P D vwCl (wF2 q qo ((1 : Int32), L.2.1, L.2.2.1, L.2.2.2) O) H) (hD : va_D A (wF2 q qo ((1 : Int32), L.2.1, L.2.2.1, L.2.2.2) O)) hS => ?_)
    refine lv_aload_n hx hb d_Fr_divide_20 rfl (lv_at hl 0 rfl) ?_
    refine g_Fr_17 (v := .int L.2.1) hx hb hT hown hK hP 0 rfl rfl d_Fr_divide_21 ?_
    refine lv_iconst (v := 1) hx hb d_Fr_divide_24 (by decide) ?_
    refine lv_icmp_ne (tgt := 54) hx hb d_Fr_divide_25 (by decide) (fun c_17 => ?_) (fun c_17 => ?_)
    · skip
      have h := h.2 c_17
      refine lv_aload_n hx hb d_Fr_divide_54 rfl (lv_at hl 0 rfl) ?_
      refine g_Fr_17 (v := .int L.2.1) hx hb hT hown hK hP 0 rfl rfl d_Fr_divide_55 ?_
      refine lv_iconst (v := 3) hx hb d_Fr_divide_58 (by decide) ?_
      refine lv_icmp_eq (tgt := 81) hx hb d_Fr_divide_59 (by decide) (fun c_18 => ?_) (fun c_18 => ?_)
      · skip
        have h := h.1 c_18
        refine lv_aload_n hx hb d_Fr_divide_81 rfl (lv_at hl 0 rfl) ?_
        refine lv_iconst (v := 3) hx hb d_Fr_divide_82 (by decide) ?_
        refine p_Fr_17 hx hb hT hown hK hP hD hS 0 rfl rfl d_Fr_divide_83 (fun H locs (hP : va_P D vwCl (wF2 q qo ((1 : Int32), (3 : Int32), L.2.2.1, L.2.2.2) O) H) (hD : va_D A (wF2 q qo ((1 : Int32), (3 : Int32), L.2.2.1, L.2.2.2) O)) hS => ?_)
        refine lv_goto (tgt := 117) hx hb d_Fr_divide_86 (by decide) ?_
        exact W.vret hx hb hr (fun t ht hW => ⟨⟨(((1 : Int32), (3 : Int32), L.2.2.1, L.2.2.2), O), rfl, h, by rw [ht]; exact hP, hD⟩, hS.F ht⟩) hS.2.2 d_Fr_divide_117
      · skip
        have h := h.2 c_18
        refine lv_aload_n hx hb d_Fr_divide_62 rfl (lv_at hl 1 rfl) ?_
        refine g_Fr_17 (v := .int O.2.1) hx hb hT hown hK hP 1 rfl rfl d_Fr_divide_63 ?_
        refine lv_iconst (v := 3) hx hb d_Fr_divide_66 (by decide) ?_
        refine lv_icmp_eq (tgt := 81) hx hb d_Fr_divide_67 (by decide) (fun c_19 => ?_) (fun c_19 => ?_)
        · skip
          have h := h.1 c_19
          refine lv_aload_n hx hb d_Fr_divide_81 rfl (lv_at hl 0 rfl) ?_
          refine lv_iconst (v := 3) hx hb d_Fr_divide_82 (by decide) ?_
          refine p_Fr_17 hx hb hT hown hK hP hD hS 0 rfl rfl d_Fr_divide_83 (fun H locs (hP : va_P D vwCl (wF2 q qo ((1 : Int32), (3 : Int32), L.2.2.1, L.2.2.2) O) H) (hD : va_D A (wF2 q qo ((1 : Int32), (3 : Int32), L.2.2.1, L.2.2.2) O)) hS => ?_)
          refine lv_goto (tgt := 117) hx hb d_Fr_divide_86 (by decide) ?_
          exact W.vret hx hb hr (fun t ht hW => ⟨⟨(((1 : Int32), (3 : Int32), L.2.2.1, L.2.2.2), O), rfl, h, by rw [ht]; exact hP, hD⟩, hS.F ht⟩) hS.2.2 d_Fr_divide_117
        · skip
          have h := h.2 c_19
          refine lv_aload_n hx hb d_Fr_divide_70 rfl (lv_at hl 0 rfl) ?_
          refine g_Fr_17 (v := .int L.2.1) hx hb hT hown hK hP 0 rfl rfl d_Fr_divide_71 ?_
          refine lv_aload_n hx hb d_Fr_divide_74 rfl (lv_at hl 1 rfl) ?_
          refine g_Fr_17 (v := .int O.2.1) hx hb hT hown hK hP 1 rfl rfl d_Fr_divide_75 ?_
          refine lv_icmp_ne (tgt := 89) hx hb d_Fr_divide_78 (by decide) (fun c_20 => ?_) (fun c_20 => ?_)
          · skip
            have h := h.2 c_20
            refine lv_aload_n hx hb d_Fr_divide_89 rfl (lv_at hl 0 rfl) ?_
            refine g_Fr_17 (v := .int L.2.1) hx hb hT hown hK hP 0 rfl rfl d_Fr_divide_90 ?_
            refine lv_iconst (v := 2) hx hb d_Fr_divide_93 (by decide) ?_
            refine lv_icmp_eq (tgt := 104) hx hb d_Fr_divide_94 (by decide) (fun c_21 => ?_) (fun c_21 => ?_)
            · skip
              have h := h.1 c_21
              refine lv_aload_n hx hb d_Fr_divide_104 rfl (lv_at hl 0 rfl) ?_
              refine lv_iconst (v := 2) hx hb d_Fr_divide_105 (by decide) ?_
              refine p_Fr_17 hx hb hT hown hK hP hD hS 0 rfl rfl d_Fr_divide_106 (fun H locs (hP : va_P D vwCl (wF2 q qo ((1 : Int32), (2 : Int32), L.2.2.1, L.2.2.2) O) H) (hD : va_D A (wF2 q qo ((1 : Int32), (2 : Int32), L.2.2.1, L.2.2.2) O)) hS => ?_)
              refine lv_goto (tgt := 117) hx hb d_Fr_divide_109 (by decide) ?_
              exact W.vret hx hb hr (fun t ht hW => ⟨⟨(((1 : Int32), (2 : Int32), L.2.2.1, L.2.2.2), O), rfl, h, by rw [ht]; exact hP, hD⟩, hS.F ht⟩) hS.2.2 d_Fr_divide_117
            · skip
              have h := h.2 c_21
              refine lv_aload_n hx hb d_Fr_divide_97 rfl (lv_at hl 1 rfl) ?_
              refine g_Fr_17 (v := .int O.2.1) hx hb hT hown hK hP 1 rfl rfl d_Fr_divide_98 ?_
              refine lv_if_ne (tgt := 112) hx hb d_Fr_divide_101 (by decide) (fun c_22 => ?_) (fun c_22 => ?_)
              · skip
                have h := h.2 c_22
                refine lv_aload_n hx hb d_Fr_divide_112 rfl (lv_at hl 0 rfl) ?_
                refine lv_iconst (v := 0) hx hb d_Fr_divide_113 (by decide) ?_
                refine p_Fr_17 hx hb hT hown hK hP hD hS 0 rfl rfl d_Fr_divide_114 (fun H locs (hP : va_P D vwCl (wF2 q qo ((1 : Int32), (0 : Int32), L.2.2.1, L.2.2.2) O) H) (hD : va_D A (wF2 q qo ((1 : Int32), (0 : Int32), L.2.2.1, L.2.2.2) O)) hS => ?_)
                exact W.vret hx hb hr (fun t ht hW => ⟨⟨(((1 : Int32), (0 : Int32), L.2.2.1, L.2.2.2), O), rfl, h, by rw [ht]; exact hP, hD⟩, hS.F ht⟩) hS.2.2 d_Fr_divide_117
              · skip
                have h := h.1 c_22
                refine lv_aload_n hx hb d_Fr_divide_104 rfl (lv_at hl 0 rfl) ?_
                refine lv_iconst (v := 2) hx hb d_Fr_divide_105 (by decide) ?_
                refine p_Fr_17 hx hb hT hown hK hP hD hS 0 rfl rfl d_Fr_divide_106 (fun H locs (hP : va_P D vwCl (wF2 q qo ((1 : Int32), (2 : Int32), L.2.2.1, L.2.2.2) O) H) (hD : va_D A (wF2 q qo ((1 : Int32), (2 : Int32), L.2.2.1, L.2.2.2) O)) hS => ?_)
                refine lv_goto (tgt := 117) hx hb d_Fr_divide_109 (by decide) ?_
                exact W.vret hx hb hr (fun t ht hW => ⟨⟨(((1 : Int32), (2 : Int32), L.2.2.1, L.2.2.2), O), rfl, h, by rw [ht]; exact hP, hD⟩, hS.F ht⟩) hS.2.2 d_Fr_divide_117
          · skip
            have h := h.1 c_20
            refine lv_aload_n hx hb d_Fr_divide_81 rfl (lv_at hl 0 rfl) ?_
            refine lv_iconst (v := 3) hx hb d_Fr_divide_82 (by decide) ?_
            refine p_Fr_17 hx hb hT hown hK hP hD hS 0 rfl rfl d_Fr_divide_83 (fun H locs (hP : va_P D vwCl (wF2 q qo ((1 : Int32), (3 : Int32), L.2.2.1, L.2.2.2) O) H) (hD : va_D A (wF2 q qo ((1 : Int32), (3 : Int32), L.2.2.1, L.2.2.2) O)) hS => ?_)
            refine lv_goto (tgt := 117) hx hb d_Fr_divide_86 (by decide) ?_
            exact W.vret hx hb hr (fun t ht hW => ⟨⟨(((1 : Int32), (3 : Int32), L.2.2.1, L.2.2.2), O), rfl, h, by rw [ht]; exact hP, hD⟩, hS.F ht⟩) hS.2.2 d_Fr_divide_117
    · skip
      have h := h.1 c_17
      refine lv_aload_n hx hb d_Fr_divide_28 rfl (lv_at hl 1 rfl) ?_
      refine g_Fr_17 (v := .int O.2.1) hx hb hT hown hK hP 1 rfl rfl d_Fr_divide_29 ?_
      refine lv_iconst (v := 1) hx hb d_Fr_divide_32 (by decide) ?_
      refine lv_icmp_ne (tgt := 54) hx hb d_Fr_divide_33 (by decide) (fun c_23 => ?_) (fun c_23 => ?_)
      · skip
        have h := h.2 c_23
        refine lv_aload_n hx hb d_Fr_divide_54 rfl (lv_at hl 0 rfl) ?_
        refine g_Fr_17 (v := .int L.2.1) hx hb hT hown hK hP 0 rfl rfl d_Fr_divide_55 ?_
        refine lv_iconst (v := 3) hx hb d_Fr_divide_58 (by decide) ?_
        refine lv_icmp_eq (tgt := 81) hx hb d_Fr_divide_59 (by decide) (fun c_24 => ?_) (fun c_24 => ?_)
        · skip
          have h := h.1 c_24
          refine lv_aload_n hx hb d_Fr_divide_81 rfl (lv_at hl 0 rfl) ?_
          refine lv_iconst (v := 3) hx hb d_Fr_divide_82 (by decide) ?_
          refine p_Fr_17 hx hb hT hown hK hP hD hS 0 rfl rfl d_Fr_divide_83 (fun H locs (hP : va_P D vwCl (wF2 q qo ((1 : Int32), (3 : Int32), L.2.2.1, L.2.2.2) O) H) (hD : va_D A (wF2 q qo ((1 : Int32), (3 : Int32), L.2.2.1, L.2.2.2) O)) hS => ?_)
          refine lv_goto (tgt := 117) hx hb d_Fr_divide_86 (by decide) ?_
          exact W.vret hx hb hr (fun t ht hW => ⟨⟨(((1 : Int32), (3 : Int32), L.2.2.1, L.2.2.2), O), rfl, h, by rw [ht]; exact hP, hD⟩, hS.F ht⟩) hS.2.2 d_Fr_divide_117
        · skip
          have h := h.2 c_24
          refine lv_aload_n hx hb d_Fr_divide_62 rfl (lv_at hl 1 rfl) ?_
          refine g_Fr_17 (v := .int O.2.1) hx hb hT hown hK hP 1 rfl rfl d_Fr_divide_63 ?_
          refine lv_iconst (v := 3) hx hb d_Fr_divide_66 (by decide) ?_
          refine lv_icmp_eq (tgt := 81) hx hb d_Fr_divide_67 (by decide) (fun c_25 => ?_) (fun c_25 => ?_)
          · skip
            have h := h.1 c_25
            refine lv_aload_n hx hb d_Fr_divide_81 rfl (lv_at hl 0 rfl) ?_
            refine lv_iconst (v := 3) hx hb d_Fr_divide_82 (by decide) ?_
            refine p_Fr_17 hx hb hT hown hK hP hD hS 0 rfl rfl d_Fr_divide_83 (fun H locs (hP : va_P D vwCl (wF2 q qo ((1 : Int32), (3 : Int32), L.2.2.1, L.2.2.2) O) H) (hD : va_D A (wF2 q qo ((1 : Int32), (3 : Int32), L.2.2.1, L.2.2.2) O)) hS => ?_)
            refine lv_goto (tgt := 117) hx hb d_Fr_divide_86 (by decide) ?_
            exact W.vret hx hb hr (fun t ht hW => ⟨⟨(((1 : Int32), (3 : Int32), L.2.2.1, L.2.2.2), O), rfl, h, by rw [ht]; exact hP, hD⟩, hS.F ht⟩) hS.2.2 d_Fr_divide_117
          · skip
            have h := h.2 c_25
            refine lv_aload_n hx hb d_Fr_divide_70 rfl (lv_at hl 0 rfl) ?_
            refine g_Fr_17 (v := .int L.2.1) hx hb hT hown hK hP 0 rfl rfl d_Fr_divide_71 ?_
            refine lv_aload_n hx hb d_Fr_divide_74 rfl (lv_at hl 1 rfl) ?_
            refine g_Fr_17 (v := .int O.2.1) hx hb hT hown hK hP 1 rfl rfl d_Fr_divide_75 ?_
            refine lv_icmp_ne (tgt := 89) hx hb d_Fr_divide_78 (by decide) (fun c_26 => ?_) (fun c_26 => ?_)
            · skip
              have h := h.2 c_26
              refine lv_aload_n hx hb d_Fr_divide_89 rfl (lv_at hl 0 rfl) ?_
              refine g_Fr_17 (v := .int L.2.1) hx hb hT hown hK hP 0 rfl rfl d_Fr_divide_90 ?_
              refine lv_iconst (v := 2) hx hb d_Fr_divide_93 (by decide) ?_
              refine lv_icmp_eq (tgt := 104) hx hb d_Fr_divide_94 (by decide) (fun c_27 => ?_) (fun c_27 => ?_)
              · skip
                have h := h.1 c_27
                refine lv_aload_n hx hb d_Fr_divide_104 rfl (lv_at hl 0 rfl) ?_
                refine lv_iconst (v := 2) hx hb d_Fr_divide_105 (by decide) ?_
                refine p_Fr_17 hx hb hT hown hK hP hD hS 0 rfl rfl d_Fr_divide_106 (fun H locs (hP : va_P D vwCl (wF2 q qo ((1 : Int32), (2 : Int32), L.2.2.1, L.2.2.2) O) H) (hD : va_D A (wF2 q qo ((1 : Int32), (2 : Int32), L.2.2.1, L.2.2.2) O)) hS => ?_)
                refine lv_goto (tgt := 117) hx hb d_Fr_divide_109 (by decide) ?_
                exact W.vret hx hb hr (fun t ht hW => ⟨⟨(((1 : Int32), (2 : Int32), L.2.2.1, L.2.2.2), O), rfl, h, by rw [ht]; exact hP, hD⟩, hS.F ht⟩) hS.2.2 d_Fr_divide_117
              · skip
                have h := h.2 c_27
                refine lv_aload_n hx hb d_Fr_divide_97 rfl (lv_at hl 1 rfl) ?_
                refine g_Fr_17 (v := .int O.2.1) hx hb hT hown hK hP 1 rfl rfl d_Fr_divide_98 ?_
                refine lv_if_ne (tgt := 112) hx hb d_Fr_divide_101 (by decide) (fun c_28 => ?_) (fun c_28 => ?_)
                · skip
                  have h := h.2 c_28
                  refine lv_aload_n hx hb d_Fr_divide_112 rfl (lv_at hl 0 rfl) ?_
                  refine lv_iconst (v := 0) hx hb d_Fr_divide_113 (by decide) ?_
                  refine p_Fr_17 hx hb hT hown hK hP hD hS 0 rfl rfl d_Fr_divide_114 (fun H locs (hP : va_P D vwCl (wF2 q qo ((1 : Int32), (0 : Int32), L.2.2.1, L.2.2.2) O) H) (hD : va_D A (wF2 q qo ((1 : Int32), (0 : Int32), L.2.2.1, L.2.2.2) O)) hS => ?_)
                  exact W.vret hx hb hr (fun t ht hW => ⟨⟨(((1 : Int32), (0 : Int32), L.2.2.1, L.2.2.2), O), rfl, h, by rw [ht]; exact hP, hD⟩, hS.F ht⟩) hS.2.2 d_Fr_divide_117
                · skip
                  have h := h.1 c_28
                  refine lv_aload_n hx hb d_Fr_divide_104 rfl (lv_at hl 0 rfl) ?_
                  refine lv_iconst (v := 2) hx hb d_Fr_divide_105 (by decide) ?_
                  refine p_Fr_17 hx hb hT hown hK hP hD hS 0 rfl rfl d_Fr_divide_106 (fun H locs (hP : va_P D vwCl (wF2 q qo ((1 : Int32), (2 : Int32), L.2.2.1, L.2.2.2) O) H) (hD : va_D A (wF2 q qo ((1 : Int32), (2 : Int32), L.2.2.1, L.2.2.2) O)) hS => ?_)
                  refine lv_goto (tgt := 117) hx hb d_Fr_divide_109 (by decide) ?_
                  exact W.vret hx hb hr (fun t ht hW => ⟨⟨(((1 : Int32), (2 : Int32), L.2.2.1, L.2.2.2), O), rfl, h, by rw [ht]; exact hP, hD⟩, hS.F ht⟩) hS.2.2 d_Fr_divide_117
            · skip
              have h := h.1 c_26
              refine lv_aload_n hx hb d_Fr_divide_81 rfl (lv_at hl 0 rfl) ?_
              refine lv_iconst (v := 3) hx hb d_Fr_divide_82 (by decide) ?_
              refine p_Fr_17 hx hb hT hown hK hP hD hS 0 rfl rfl d_Fr_divide_83 (fun H locs (hP : va_P D vwCl (wF2 q qo ((1 : Int32), (3 : Int32), L.2.2.1, L.2.2.2) O) H) (hD : va_D A (wF2 q qo ((1 : Int32), (3 : Int32), L.2.2.1, L.2.2.2) O)) hS => ?_)
              refine lv_goto (tgt := 117) hx hb d_Fr_divide_86 (by decide) ?_
              exact W.vret hx hb hr (fun t ht hW => ⟨⟨(((1 : Int32), (3 : Int32), L.2.2.1, L.2.2.2), O), rfl, h, by rw [ht]; exact hP, hD⟩, hS.F ht⟩) hS.2.2 d_Fr_divide_117
      · skip
        have h := h.1 c_23
        refine lv_aload_n hx hb d_Fr_divide_36 rfl (lv_at hl 0 rfl) ?_
        refine lv_aload_n hx hb d_Fr_divide_37 rfl (lv_at hl 1 rfl) ?_
        refine g_Fr_34 (v := .long O.2.2.2) hx hb hT hown hK hP 1 rfl rfl d_Fr_divide_38 ?_
        refine lv_bipush (v := 10) hx hb d_Fr_divide_41 (by decide) ?_
        refine zz_llushr hx hb d_Fr_divide_43 ?_
        refine lv_topl (fun x_29 ex_29 => ?_)
        have h := h x_29 ex_29
        refine lv_aload_n hx hb d_Fr_divide_44 rfl (lv_at hl 1 rfl) ?_
        refine g_Fr_38 (v := .int O.2.2.1) hx hb hT hown hK hP 1 rfl rfl d_Fr_divide_45 ?_
        refine zz_Wv (As := [.long x_29, .int O.2.2.1]) (rest := []) (wc := wF1 q ((1 : Int32), L.2.1, L.2.2.1, L.2.2.2)) (wr := [(qo, .inr (0, [.int O.1, .int O.2.1, .int O.2.2.1, .long O.2.2.2]))]) X hK hP hD hS hA (c_Fr_divideFinite l D cI q ((1 : Int32), L.2.1, L.2.2.1, L.2.2.2) x_29 O.2.2.1 _ h _) ⟨rfl, rfl⟩ m_Fr_divideFinite k_Fr_80 ⟨Nat.le_of_ble_eq_true rfl, Nat.le_of_ble_eq_true rfl⟩ [0] [1] rfl rfl (by decide) (by decide) (by decide) 0 0 rfl rfl rfl rfl hl.1 rfl (Nat.le_of_ble_eq_true rfl) d_Fr_divide_48 hf0 (fun u_30 H locs h hP hD hS => ?_)
        have hP : va_P D vwCl (wF2 q qo u_30 O) H := hP.sub [1, 0] rfl
        have hD : va_D A (wF2 q qo u_30 O) := hD.sub [1, 0] (by decide) rfl
        refine lv_goto (tgt := 117) hx hb d_Fr_divide_51 (by decide) ?_
        exact W.vret hx hb hr (fun t ht hW => ⟨⟨(u_30, O), rfl, h, by rw [ht]; exact hP, hD⟩, hS.F ht⟩) hS.2.2 d_Fr_divide_117
def wp_JL_compare (a0 : Int64) (a1 : Int64) (P : Int32 → Prop) : Prop := ((a1 ≤ a0 → ((a0 = a1 → P (0 : Int32)) ∧ (¬ a0 = a1 → P (1 : Int32)))) ∧ (¬ a1 ≤ a0 → P (-1 : Int32)))
abbrev rm_JL_compare : Room := { frames := 0, cells := 0, slots := 0, locals := 0 }
set_option maxHeartbeats 4000000 in
set_option maxRecDepth 100000 in
theorem c_JL_compare (l : Launch) (a0 : Int64) (a1 : Int64) (P : Int32 → Prop) (h : wp_JL_compare a0 a1 P) : Met l y_JL_compare (zz_ws y_JL_compare b_JL_compare 4 (some .int)) rm_JL_compare (fun v _ => v = ([.long a0, .long a1] : List Value).toArray) (vp_Si P) 0 0 (fun _ => False) := by
  refine Met.ofW (cc := b_JL_compare) (maxL := 4) (ret := (some .int)) (by decide) rfl ?_
  intro p e s m args below meth c s₁ B hml hv
  subst hv
  have hx := B.exec
  have hb := B.bytes
  have hr := B.returns
  have hts := atoms_spec (ws := (zz_ws y_JL_compare b_JL_compare 4 (some .int))) B.pre
  have hown : s.vm.findClass R_JL = some m.cls := findClass_of_methodNamed B.named
  have hlocks := B.notSynchronized
  have hT := zz_hts hts
  have X : CallFix p m c b_JL_compare 4 s ([.long a0, .long a1] : List Value).toArray (zz_ws y_JL_compare b_JL_compare 4 (some .int)) R_JL := ⟨hx, hb, hml, hown, hts⟩
  have hf0 : 0 + 0 ≤ (headSpec (zz_ws y_JL_compare b_JL_compare 4 (some .int)) rm_JL_compare).room.cells ∧ 0 + 0 ≤ (headSpec (zz_ws y_JL_compare b_JL_compare 4 (some .int)) rm_JL_compare).room.slots := ⟨Nat.le_of_ble_eq_true rfl, Nat.le_of_ble_eq_true rfl⟩
  have hl := lv_entry ([.long a0, .long a1]) (n := 4) (Nat.le_of_ble_eq_true rfl)
  rw [lg_entry_eq]
  generalize (lg_sl ([.long a0, .long a1]) ++ List.replicate (4 - (lg_sl ([.long a0, .long a1])).length) Slot.unset).toArray = ls at hl ⊢
  have hl : lv_has ls 4 [(0, .long a0), (2, .long a1)] := hl
  refine lv_lload_n hx hb d_JL_compare_0 rfl (lv_at hl 0 rfl) ?_
  refine lv_lload_n hx hb d_JL_compare_1 rfl (lv_at hl 1 rfl) ?_
  refine W.lcmp hx hb d_JL_compare_2 ?_
  refine lv_if_ge (tgt := 10) hx hb d_JL_compare_3 (by decide) (fun c_1 => ?_) (fun c_1 => ?_)
  · have kc_1 := ((lg_cmp_ge _ _).mp c_1)
    have h := h.1 kc_1
    refine lv_lload_n hx hb d_JL_compare_10 rfl (lv_at hl 0 rfl) ?_
    refine lv_lload_n hx hb d_JL_compare_11 rfl (lv_at hl 1 rfl) ?_
    refine W.lcmp hx hb d_JL_compare_12 ?_
    refine lv_if_ne (tgt := 20) hx hb d_JL_compare_13 (by decide) (fun c_2 => ?_) (fun c_2 => ?_)
    · have kc_2 := (fun q => c_2 ((lg_cmp_eq _ _).mpr q))
      have h := h.2 kc_2
      refine lv_iconst (v := 1) hx hb d_JL_compare_20 (by decide) ?_
      exact W.iret (v := (1 : Int32)) hx hb hr (fun t ht hW => ⟨(1 : Int32),  rfl, h, ht⟩) t_nil d_JL_compare_21
    · have kc_2 := ((lg_cmp_eq _ _).mp c_2)
      have h := h.1 kc_2
      refine lv_iconst (v := 0) hx hb d_JL_compare_16 (by decide) ?_
      refine lv_goto (tgt := 21) hx hb d_JL_compare_17 (by decide) ?_
      exact W.iret (v := (0 : Int32)) hx hb hr (fun t ht hW => ⟨(0 : Int32),  rfl, h, ht⟩) t_nil d_JL_compare_21
  · have kc_1 := (fun q => c_1 ((lg_cmp_ge _ _).mpr q))
    have h := h.2 kc_1
    refine lv_iconst (v := -1) hx hb d_JL_compare_6 (by decide) ?_
    refine lv_goto (tgt := 21) hx hb d_JL_compare_7 (by decide) ?_
    exact W.iret (v := (-1 : Int32)) hx hb hr (fun t ht hW => ⟨(-1 : Int32),  rfl, h, ht⟩) t_nil d_JL_compare_21
def wp_Fr_compareSize (L : Int32 × Int32 × Int32 × Int64) (O : Int32 × Int32 × Int32 × Int64) (P : Int32 → Prop) : Prop := ((L.2.1 = (1 : Int32) → ((O.2.1 = (1 : Int32) → ((L.2.2.1 = O.2.2.1 → wp_JL_compare L.2.2.2 O.2.2.2 (fun r_4 => P r_4)) ∧ (¬ L.2.2.1 = O.2.2.1 → P (L.2.2.1 - O.2.2.1)))) ∧ (¬ O.2.1 = (1 : Int32) → P (L.2.1 - O.2.1)))) ∧ (¬ L.2.1 = (1 : Int32) → P (L.2.1 - O.2.1)))
abbrev rm_Fr_compareSize : Room := { frames := 1, cells := 0, slots := 0, locals := 23 }
set_option maxHeartbeats 4000000 in
set_option maxRecDepth 100000 in
theorem c_Fr_compareSize (l : Launch) (D : va_G) (cI : ClassId) (q : Nat) (qo : Nat) (L : Int32 × Int32 × Int32 × Int64) (O : Int32 × Int32 × Int32 × Int64) (P : Int32 → Prop) (h : wp_Fr_compareSize L O P) : Met l y_Fr_compareSize (zz_ws y_Fr_compareSize b_Fr_compareSize 2 (some .int)) rm_Fr_compareSize (va_Pc [.ref q, .ref qo] (zz_pr D [(cI, .int)] (wF2 q qo L O))) (vp_Si P) 0 0 (fun _ => False) := by
  refine Met.ofW (cc := b_Fr_compareSize) (maxL := 2) (ret := (some .int)) (by decide) rfl ?_
  intro p e s m args below meth c s₁ B hml hv
  obtain ⟨rfl, hP, hK⟩ := hv
  have hx := B.exec
  have hb := B.bytes
  have hr := B.returns
  have hts := atoms_spec (ws := (zz_ws y_Fr_compareSize b_Fr_compareSize 2 (some .int))) B.pre
  have hown : s.vm.findClass R_Fr = some m.cls := findClass_of_methodNamed B.named
  have hlocks := B.notSynchronized
  have hT := zz_hts hts
  have X : CallFix p m c b_Fr_compareSize 2 s ([.ref q, .ref qo] : List Value).toArray (zz_ws y_Fr_compareSize b_Fr_compareSize 2 (some .int)) R_Fr := ⟨hx, hb, hml, hown, hts⟩
  have hf0 : 0 + 0 ≤ (headSpec (zz_ws y_Fr_compareSize b_Fr_compareSize 2 (some .int)) rm_Fr_compareSize).room.cells ∧ 0 + 0 ≤ (headSpec (zz_ws y_Fr_compareSize b_Fr_compareSize 2 (some .int)) rm_Fr_compareSize).room.slots := ⟨Nat.le_of_ble_eq_true rfl, Nat.le_of_ble_eq_true rfl⟩
  have hl := lv_entry ([.ref q, .ref qo]) (n := 2) (Nat.le_of_ble_eq_true rfl)
  rw [lg_entry_eq]
  generalize (lg_sl ([.ref q, .ref qo]) ++ List.replicate (2 - (lg_sl ([.ref q, .ref qo])).length) Slot.unset).toArray = ls at hl ⊢
  have hl : lv_has ls 2 [(0, .ref q), (1, .ref qo)] := hl
  refine lv_aload_n hx hb d_Fr_compareSize_0 rfl (lv_at hl 0 rfl) ?_
  refine g_Fr_17 (v := .int L.2.1) hx hb hT hown hK hP 0 rfl rfl d_Fr_compareSize_1 ?_
  refine lv_iconst (v := 1) hx hb d_Fr_compareSize_4 (by decide) ?_
  refine lv_icmp_ne (tgt := 16) hx hb d_Fr_compareSize_5 (by decide) (fun c_1 => ?_) (fun c_1 => ?_)
  · skip
    have h := h.2 c_1
    refine lv_aload_n hx hb d_Fr_compareSize_16 rfl (lv_at hl 0 rfl) ?_
    refine g_Fr_17 (v := .int L.2.1) hx hb hT hown hK hP 0 rfl rfl d_Fr_compareSize_17 ?_
    refine lv_aload_n hx hb d_Fr_compareSize_20 rfl (lv_at hl 1 rfl) ?_
    refine g_Fr_17 (v := .int O.2.1) hx hb hT hown hK hP 1 rfl rfl d_Fr_compareSize_21 ?_
    refine lv_isub hx hb d_Fr_compareSize_24 ?_
    exact W.iret (v := (L.2.1 - O.2.1)) hx hb hr (fun t ht hW => ⟨(L.2.1 - O.2.1),  rfl, h, ht⟩) t_nil d_Fr_compareSize_25
  · skip
    have h := h.1 c_1
    refine lv_aload_n hx hb d_Fr_compareSize_8 rfl (lv_at hl 1 rfl) ?_
    refine g_Fr_17 (v := .int O.2.1) hx hb hT hown hK hP 1 rfl rfl d_Fr_compareSize_9 ?_
    refine lv_iconst (v := 1) hx hb d_Fr_compareSize_12 (by decide) ?_
    refine lv_icmp_eq (tgt := 26) hx hb d_Fr_compareSize_13 (by decide) (fun c_2 => ?_) (fun c_2 => ?_)
    · skip
      have h := h.1 c_2
      refine lv_aload_n hx hb d_Fr_compareSize_26 rfl (lv_at hl 0 rfl) ?_
      refine g_Fr_38 (v := .int L.2.2.1) hx hb hT hown hK hP 0 rfl rfl d_Fr_compareSize_27 ?_
      refine lv_aload_n hx hb d_Fr_compareSize_30 rfl (lv_at hl 1 rfl) ?_
      refine g_Fr_38 (v := .int O.2.2.1) hx hb hT hown hK hP 1 rfl rfl d_Fr_compareSize_31 ?_
      refine lv_icmp_eq (tgt := 47) hx hb d_Fr_compareSize_34 (by decide) (fun c_3 => ?_) (fun c_3 => ?_)
      · skip
        have h := h.1 c_3
        refine lv_aload_n hx hb d_Fr_compareSize_47 rfl (lv_at hl 0 rfl) ?_
        refine g_Fr_34 (v := .long L.2.2.2) hx hb hT hown hK hP 0 rfl rfl d_Fr_compareSize_48 ?_
        refine lv_aload_n hx hb d_Fr_compareSize_51 rfl (lv_at hl 1 rfl) ?_
        refine g_Fr_34 (v := .long O.2.2.2) hx hb hT hown hK hP 1 rfl rfl d_Fr_compareSize_52 ?_
        refine zz_Si (As := [.long L.2.2.2, .long O.2.2.2]) (rest := []) X (c_JL_compare l L.2.2.2 O.2.2.2 _ h) ⟨rfl, rfl⟩ m_JL_compare k_Fr_96 ⟨Nat.le_of_ble_eq_true rfl, Nat.le_of_ble_eq_true rfl⟩ rfl hl.1 rfl (Nat.le_of_ble_eq_true rfl) d_Fr_compareSize_55 hf0 (fun r_4 h => ?_)
        exact W.iret (v := r_4) hx hb hr (fun t ht hW => ⟨r_4,  rfl, h, ht⟩) t_nil d_Fr_compareSize_58
      · skip
        have h := h.2 c_3
        refine lv_aload_n hx hb d_Fr_compareSize_37 rfl (lv_at hl 0 rfl) ?_
        refine g_Fr_38 (v := .int L.2.2.1) hx hb hT hown hK hP 0 rfl rfl d_Fr_compareSize_38 ?_
        refine lv_aload_n hx hb d_Fr_compareSize_41 rfl (lv_at hl 1 rfl) ?_
        refine g_Fr_38 (v := .int O.2.2.1) hx hb hT hown hK hP 1 rfl rfl d_Fr_compareSize_42 ?_
        refine lv_isub hx hb d_Fr_compareSize_45 ?_
        exact W.iret (v := (L.2.2.1 - O.2.2.1)) hx hb hr (fun t ht hW => ⟨(L.2.2.1 - O.2.2.1),  rfl, h, ht⟩) t_nil d_Fr_compareSize_46
    · skip
      have h := h.2 c_2
      refine lv_aload_n hx hb d_Fr_compareSize_16 rfl (lv_at hl 0 rfl) ?_
      refine g_Fr_17 (v := .int L.2.1) hx hb hT hown hK hP 0 rfl rfl d_Fr_compareSize_17 ?_
      refine lv_aload_n hx hb d_Fr_compareSize_20 rfl (lv_at hl 1 rfl) ?_
      refine g_Fr_17 (v := .int O.2.1) hx hb hT hown hK hP 1 rfl rfl d_Fr_compareSize_21 ?_
      refine lv_isub hx hb d_Fr_compareSize_24 ?_
      exact W.iret (v := (L.2.1 - O.2.1)) hx hb hr (fun t ht hW => ⟨(L.2.1 - O.2.1),  rfl, h, ht⟩) t_nil d_Fr_compareSize_25
