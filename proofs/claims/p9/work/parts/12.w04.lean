def wp_Fu_compare (cd : Int32) (fg : Nat → Int32) (L : Int32 × Int32 × Int32 × Int64) (O : Int32 × Int32 × Int32 × Int64) (a0 : Int32) (a1 : Int32) (P : Int32 → (Int32 × (Nat → Int32) × (Int32 × Int32 × Int32 × Int64) × (Int32 × Int32 × Int32 × Int64)) → Prop) : Prop := wp_Fu_fs a0 (fun r_1 => wp_Fu_ft a0 (fun r_2 => wp_Fu_odd a1 (r_1 ||| r_2) (fun r_3 => ((r_3 = (0 : Int32) → wp_Fu_fs a0 (fun r_5 => wp_Fu_bits cd fg L O r_5 a1 (fun r_6 => wp_Fr_unpack L r_6 a1 (fun u_7 => wp_Fu_ft a0 (fun r_9 => wp_Fu_bits cd fg u_7 O r_9 a1 (fun r_10 => wp_Fr_unpack O r_10 a1 (fun u_11 => wp_Fr_order u_7 u_11 (fun r_13 => ∀ x_14 : Int32, x_14 = ((zz_ushr a0 (8 : Int32)) &&& (7 : Int32)) → (((a0 &&& r_13) = (0 : Int32) → ∀ x_16 : Int32, x_16 = ((zz_shl (1 : Int32) x_14) ^^^ (-1 : Int32)) → ∀ x_17 : Int32, x_17 = ((cd &&& x_16) ||| (zz_shl (0 : Int32) x_14)) → P (0 : Int32) (x_17, fg, u_7, u_11)) ∧ (¬ (a0 &&& r_13) = (0 : Int32) → ∀ x_18 : Int32, x_18 = ((zz_shl (1 : Int32) x_14) ^^^ (-1 : Int32)) → ∀ x_19 : Int32, x_19 = ((cd &&& x_18) ||| (zz_shl (1 : Int32) x_14)) → P (0 : Int32) (x_19, fg, u_7, u_11))))))))))) ∧ (¬ r_3 = (0 : Int32) → P (8 : Int32) (cd, fg, L, O))))))
abbrev rm_Fu_compare : Room := { frames := 3, cells := 0, slots := 0, locals := 68 }
set_option maxHeartbeats 4000000 in
set_option maxRecDepth 100000 in
theorem c_Fu_compare (l : Launch) (D : va_G) (cI : ClassId) (qu : Nat) (qf : Nat) (ql : Nat) (qo : Nat) (cd : Int32) (fg : Nat → Int32) (L : Int32 × Int32 × Int32 × Int64) (O : Int32 × Int32 × Int32 × Int64) (a0 : Int32) (a1 : Int32) (P : Int32 → (Int32 × (Nat → Int32) × (Int32 × Int32 × Int32 × Int64) × (Int32 × Int32 × Int32 × Int64)) → Prop) (h : wp_Fu_compare cd fg L O a0 a1 P) (sz : Nat) : Met l y_Fu_compare (zz_ws y_Fu_compare b_Fu_compare 6 (some .int)) rm_Fu_compare (va_Pc [.ref qu, .int a0, .int a1] (zz_pw D [(cI, .int)] (wU qu qf ql qo cI cd fg L O) sz)) (va_Qi P (zz_qw D (fun u => wU qu qf ql qo cI u.1 u.2.1 u.2.2.1 u.2.2.2) (va_A (wU qu qf ql qo cI cd fg L O) sz)) (va_A (wU qu qf ql qo cI cd fg L O) sz)) 0 0 (va_A (wU qu qf ql qo cI cd fg L O) sz) := by
  refine Met.ofW (cc := b_Fu_compare) (maxL := 6) (ret := (some .int)) (by decide) rfl ?_
  intro p e s m args below meth c s₁ B hml hv
  obtain ⟨rfl, hsz, hP, hK, hD0⟩ := hv
  have hx := B.exec
  have hb := B.bytes
  have hr := B.returns
  have hts := atoms_spec (ws := (zz_ws y_Fu_compare b_Fu_compare 6 (some .int))) B.pre
  have hown : s.vm.findClass R_Fu = some m.cls := findClass_of_methodNamed B.named
  have hlocks := B.notSynchronized
  have hT := zz_hts hts
  have X : CallFix p m c b_Fu_compare 6 s ([.ref qu, .int a0, .int a1] : List Value).toArray (zz_ws y_Fu_compare b_Fu_compare 6 (some .int)) R_Fu := ⟨hx, hb, hml, hown, hts⟩
  have hf0 : 0 + 0 ≤ (headSpec (zz_ws y_Fu_compare b_Fu_compare 6 (some .int)) rm_Fu_compare).room.cells ∧ 0 + 0 ≤ (headSpec (zz_ws y_Fu_compare b_Fu_compare 6 (some .int)) rm_Fu_compare).room.slots := ⟨Nat.le_of_ble_eq_true rfl, Nat.le_of_ble_eq_true rfl⟩
  subst hsz
  have hD := hD0.self (sz := s.heap.size)
  generalize hAe : va_A (wU qu qf ql qo cI cd fg L O) s.heap.size = A at hD ⊢
  have hA : ∀ q : Nat, s.heap.size ≤ q → A q := fun q h => by rw [← hAe]; exact Or.inr h
  have hS : va_S A s.heap s.heap [] := va_S.rf
  have hl := lv_entry ([.ref qu, .int a0, .int a1]) (n := 6) (Nat.le_of_ble_eq_true rfl)
  rw [lg_entry_eq]
  generalize (lg_sl ([.ref qu, .int a0, .int a1]) ++ List.replicate (6 - (lg_sl ([.ref qu, .int a0, .int a1])).length) Slot.unset).toArray = ls at hl ⊢
  have hl : lv_has ls 6 [(0, .ref qu), (1, .int a0), (2, .int a1)] := hl
  refine lv_iload_n hx hb d_Fu_compare_0 rfl (lv_at hl 2 rfl) ?_
  refine lv_iload_n hx hb d_Fu_compare_1 rfl (lv_at hl 1 rfl) ?_
  refine zz_Si (As := [.int a0]) (rest := [.int a1]) X (c_Fu_fs l a0 _ h) ⟨rfl, rfl⟩ m_Fu_fs k_Fu_53 ⟨Nat.le_of_ble_eq_true rfl, Nat.le_of_ble_eq_true rfl⟩ rfl hl.1 rfl (Nat.le_of_ble_eq_true rfl) d_Fu_compare_2 hf0 (fun r_1 h => ?_)
  refine lv_iload_n hx hb d_Fu_compare_5 rfl (lv_at hl 1 rfl) ?_
  refine zz_Si (As := [.int a0]) (rest := [.int r_1, .int a1]) X (c_Fu_ft l a0 _ h) ⟨rfl, rfl⟩ m_Fu_ft k_Fu_56 ⟨Nat.le_of_ble_eq_true rfl, Nat.le_of_ble_eq_true rfl⟩ rfl hl.1 rfl (Nat.le_of_ble_eq_true rfl) d_Fu_compare_6 hf0 (fun r_2 h => ?_)
  refine lv_ior hx hb d_Fu_compare_9 ?_
  refine zz_Si (As := [.int a1, .int (r_1 ||| r_2)]) (rest := []) X (c_Fu_odd l a1 (r_1 ||| r_2) _ h) ⟨rfl, rfl⟩ m_Fu_odd k_Fu_62 ⟨Nat.le_of_ble_eq_true rfl, Nat.le_of_ble_eq_true rfl⟩ rfl hl.1 rfl (Nat.le_of_ble_eq_true rfl) d_Fu_compare_10 hf0 (fun r_3 h => ?_)
  refine lv_if_eq (tgt := 19) hx hb d_Fu_compare_13 (by decide) (fun c_4 => ?_) (fun c_4 => ?_)
  · skip
    have h := h.1 c_4
    refine lv_aload_n hx hb d_Fu_compare_19 rfl (lv_at hl 0 rfl) ?_
    refine g_Fu_18 (v := .ref ql) hx hb hT hown hK hP 0 rfl rfl d_Fu_compare_20 ?_
    refine lv_aload_n hx hb d_Fu_compare_23 rfl (lv_at hl 0 rfl) ?_
    refine lv_iload_n hx hb d_Fu_compare_24 rfl (lv_at hl 1 rfl) ?_
    refine zz_Si (As := [.int a0]) (rest := [.ref qu, .ref ql]) X (c_Fu_fs l a0 _ h) ⟨rfl, rfl⟩ m_Fu_fs k_Fu_53 ⟨Nat.le_of_ble_eq_true rfl, Nat.le_of_ble_eq_true rfl⟩ rfl hl.1 rfl (Nat.le_of_ble_eq_true rfl) d_Fu_compare_25 hf0 (fun r_5 h => ?_)
    refine lv_iload_n hx hb d_Fu_compare_28 rfl (lv_at hl 2 rfl) ?_
    refine zz_Rl (As := [.int r_5, .int a1]) (rest := [.ref ql]) (wc := wU qu qf ql qo cI cd fg L O) X hK hP (c_Fu_bits l D cI qu qf ql qo cd fg L O r_5 a1 _ h) ⟨rfl, rfl⟩ m_Fu_bits k_Fu_66 ⟨Nat.le_of_ble_eq_true rfl, Nat.le_of_ble_eq_true rfl⟩ [0, 1, 2, 3] rfl 1 0 rfl rfl rfl rfl hl.1 rfl (Nat.le_of_ble_eq_true rfl) d_Fu_compare_29 hf0 (fun r_6 h => ?_)
    refine lv_iload_n hx hb d_Fu_compare_32 rfl (lv_at hl 2 rfl) ?_
    refine zz_Wv (As := [.long r_6, .int a1]) (rest := []) (wc := wF1 ql L) (wr := [(qu, .inr (1, [.ref qf, .int cd, .ref ql, .ref qo])), (qf, .inl (cI, 32, .inl fg)), (qo, .inr (0, [.int O.1, .int O.2.1, .int O.2.2.1, .long O.2.2.2]))]) X hK hP hD hS hA (c_Fr_unpack l D cI ql L r_6 a1 _ h _) ⟨rfl, rfl⟩ m_Fr_unpack k_Fu_70 ⟨Nat.le_of_ble_eq_true rfl, Nat.le_of_ble_eq_true rfl⟩ [2] [0, 1, 3] rfl rfl (by decide) (by decide) (by decide) 0 2 rfl rfl rfl rfl hl.1 rfl (Nat.le_of_ble_eq_true rfl) d_Fu_compare_33 hf0 (fun u_7 H locs h hP hD hS => ?_)
    have hP : va_P D vwCl (wU qu qf ql qo cI cd fg u_7 O) H := hP.sub [0, 1, 3, 2] rfl
    have hD : va_D A (wU qu qf ql qo cI cd fg u_7 O) := hD.sub [0, 1, 3, 2] (by decide) rfl
    refine lv_aload_n hx hb d_Fu_compare_36 rfl (lv_at hl 0 rfl) ?_
    refine g_Fu_22 (v := .ref qo) hx hb hT hown hK hP 0 rfl rfl d_Fu_compare_37 ?_
    refine lv_aload_n hx hb d_Fu_compare_40 rfl (lv_at hl 0 rfl) ?_
    refine lv_iload_n hx hb d_Fu_compare_41 rfl (lv_at hl 1 rfl) ?_
    refine zz_Si (As := [.int a0]) (rest := [.ref qu, .ref qo]) X (c_Fu_ft l a0 _ h) ⟨rfl, rfl⟩ m_Fu_ft k_Fu_56 ⟨Nat.le_of_ble_eq_true rfl, Nat.le_of_ble_eq_true rfl⟩ rfl hl.1 rfl (Nat.le_of_ble_eq_true rfl) d_Fu_compare_42 hf0 (fun r_9 h => ?_)
    refine lv_iload_n hx hb d_Fu_compare_45 rfl (lv_at hl 2 rfl) ?_
    refine zz_Rl (As := [.int r_9, .int a1]) (rest := [.ref qo]) (wc := wU qu qf ql qo cI cd fg u_7 O) X hK hP (c_Fu_bits l D cI qu qf ql qo cd fg u_7 O r_9 a1 _ h) ⟨rfl, rfl⟩ m_Fu_bits k_Fu_66 ⟨Nat.le_of_ble_eq_true rfl, Nat.le_of_ble_eq_true rfl⟩ [0, 1, 2, 3] rfl 1 0 rfl rfl rfl rfl hl.1 rfl (Nat.le_of_ble_eq_true rfl) d_Fu_compare_46 hf0 (fun r_10 h => ?_)
    refine lv_iload_n hx hb d_Fu_compare_49 rfl (lv_at hl 2 rfl) ?_
    refine zz_Wv (As := [.long r_10, .int a1]) (rest := []) (wc := wF1 qo O) (wr := [(qu, .inr (1, [.ref qf, .int cd, .ref ql, .ref qo])), (qf, .inl (cI, 32, .inl fg)), (ql, .inr (0, [.int u_7.1, .int u_7.2.1, .int u_7.2.2.1, .long u_7.2.2.2]))]) X hK hP hD hS hA (c_Fr_unpack l D cI qo O r_10 a1 _ h _) ⟨rfl, rfl⟩ m_Fr_unpack k_Fu_70 ⟨Nat.le_of_ble_eq_true rfl, Nat.le_of_ble_eq_true rfl⟩ [3] [0, 1, 2] rfl rfl (by decide) (by decide) (by decide) 0 3 rfl rfl rfl rfl hl.1 rfl (Nat.le_of_ble_eq_true rfl) d_Fu_compare_50 hf0 (fun u_11 H locs h hP hD hS => ?_)
    have hP : va_P D vwCl (wU qu qf ql qo cI cd fg u_7 u_11) H := hP.sub [0, 1, 2, 3] rfl
    have hD : va_D A (wU qu qf ql qo cI cd fg u_7 u_11) := hD.sub [0, 1, 2, 3] (by decide) rfl
    refine lv_aload_n hx hb d_Fu_compare_53 rfl (lv_at hl 0 rfl) ?_
    refine g_Fu_18 (v := .ref ql) hx hb hT hown hK hP 0 rfl rfl d_Fu_compare_54 ?_
    refine lv_aload_n hx hb d_Fu_compare_57 rfl (lv_at hl 0 rfl) ?_
    refine g_Fu_22 (v := .ref qo) hx hb hT hown hK hP 0 rfl rfl d_Fu_compare_58 ?_
    refine zz_Ri (As := [.ref qo]) (rest := []) (wc := wF2 ql qo u_7 u_11) X hK hP (c_Fr_order l D cI ql qo u_7 u_11 _ h) ⟨rfl, rfl⟩ m_Fr_order k_Fu_105 ⟨Nat.le_of_ble_eq_true rfl, Nat.le_of_ble_eq_true rfl⟩ [2, 3] rfl 0 2 rfl rfl rfl rfl hl.1 rfl (Nat.le_of_ble_eq_true rfl) d_Fu_compare_61 hf0 (fun r_13 h => ?_)
    refine lv_istore_n (lv' := [(3, .int r_13), (0, .ref qu), (1, .int a0), (2, .int a1)]) hx hb d_Fu_compare_64 rfl hl (by decide) rfl (fun ls hl => ?_)
    refine lv_iload_n hx hb d_Fu_compare_65 rfl (lv_at hl 2 rfl) ?_
    refine lv_bipush (v := 8) hx hb d_Fu_compare_66 (by decide) ?_
    refine zz_iushr hx hb d_Fu_compare_68 ?_
    refine lv_bipush (v := 7) hx hb d_Fu_compare_69 (by decide) ?_
    refine lv_iand hx hb d_Fu_compare_71 ?_
    refine lv_topi (fun x_14 ex_14 => ?_)
    have h := h x_14 ex_14
    refine lv_istore (lv' := [(4, .int x_14), (3, .int r_13), (0, .ref qu), (1, .int a0), (2, .int a1)]) hx hb d_Fu_compare_72 hl (by decide) rfl (fun ls hl => ?_)
    refine lv_iload_n hx hb d_Fu_compare_74 rfl (lv_at hl 3 rfl) ?_
    refine lv_iload_n hx hb d_Fu_compare_75 rfl (lv_at hl 1 rfl) ?_
    refine lv_iand hx hb d_Fu_compare_76 ?_
    refine lv_if_eq (tgt := 84) hx hb d_Fu_compare_77 (by decide) (fun c_15 => ?_) (fun c_15 => ?_)
    · skip
      have h := h.1 c_15
      refine lv_iconst (v := 0) hx hb d_Fu_compare_84 (by decide) ?_
      refine lv_istore (lv' := [(5, .int (0 : Int32)), (4, .int x_14), (3, .int r_13), (0, .ref qu), (1, .int a0), (2, .int a1)]) hx hb d_Fu_compare_85 hl (by decide) rfl (fun ls hl => ?_)
      refine lv_aload_n hx hb d_Fu_compare_87 rfl (lv_at hl 3 rfl) ?_
      refine lv_aload_n hx hb d_Fu_compare_88 rfl (lv_at hl 3 rfl) ?_
      refine g_Fu_25 (v := .int cd) hx hb hT hown hK hP 0 rfl rfl d_Fu_compare_89 ?_
      refine lv_iconst (v := 1) hx hb d_Fu_compare_92 (by decide) ?_
      refine lv_iload hx hb d_Fu_compare_93 (lv_at hl 1 rfl) ?_
      refine zz_ishl hx hb d_Fu_compare_95 ?_
      refine lv_iconst (v := -1) hx hb d_Fu_compare_96 (by decide) ?_
      refine lv_ixor hx hb d_Fu_compare_97 ?_
      refine lv_topi (fun x_16 ex_16 => ?_)
      have h := h x_16 ex_16
      refine lv_iand hx hb d_Fu_compare_98 ?_
      refine lv_iload hx hb d_Fu_compare_99 (lv_at hl 0 rfl) ?_
      refine lv_iload hx hb d_Fu_compare_101 (lv_at hl 1 rfl) ?_
      refine zz_ishl hx hb d_Fu_compare_103 ?_
      refine lv_ior hx hb d_Fu_compare_104 ?_
      refine lv_topi (fun x_17 ex_17 => ?_)
      have h := h x_17 ex_17
      refine p_Fu_25 hx hb hT hown hK hP hD hS 0 rfl rfl d_Fu_compare_105 (fun H locs (hP : va_P D vwCl (wU qu qf ql qo cI x_17 fg u_7 u_11) H) (hD : va_D A (wU qu qf ql qo cI x_17 fg u_7 u_11)) hS => ?_)
      refine lv_iconst (v := 0) hx hb d_Fu_compare_108 (by decide) ?_
      exact W.iret (v := (0 : Int32)) hx hb hr (fun t ht hW => ⟨⟨(0 : Int32), (x_17, fg, u_7, u_11), rfl, h, by rw [ht]; exact hP, hD⟩, hS.F ht⟩) hS.2.2 d_Fu_compare_109
    · skip
      have h := h.2 c_15
      refine lv_iconst (v := 1) hx hb d_Fu_compare_80 (by decide) ?_
      refine lv_goto (tgt := 85) hx hb d_Fu_compare_81 (by decide) ?_
      refine lv_istore (lv' := [(5, .int (1 : Int32)), (4, .int x_14), (3, .int r_13), (0, .ref qu), (1, .int a0), (2, .int a1)]) hx hb d_Fu_compare_85 hl (by decide) rfl (fun ls hl => ?_)
      refine lv_aload_n hx hb d_Fu_compare_87 rfl (lv_at hl 3 rfl) ?_
      refine lv_aload_n hx hb d_Fu_compare_88 rfl (lv_at hl 3 rfl) ?_
      refine g_Fu_25 (v := .int cd) hx hb hT hown hK hP 0 rfl rfl d_Fu_compare_89 ?_
      refine lv_iconst (v := 1) hx hb d_Fu_compare_92 (by decide) ?_
      refine lv_iload hx hb d_Fu_compare_93 (lv_at hl 1 rfl) ?_
      refine zz_ishl hx hb d_Fu_compare_95 ?_
      refine lv_iconst (v := -1) hx hb d_Fu_compare_96 (by decide) ?_
      refine lv_ixor hx hb d_Fu_compare_97 ?_
      refine lv_topi (fun x_18 ex_18 => ?_)
      have h := h x_18 ex_18
      refine lv_iand hx hb d_Fu_compare_98 ?_
      refine lv_iload hx hb d_Fu_compare_99 (lv_at hl 0 rfl) ?_
      refine lv_iload hx hb d_Fu_compare_101 (lv_at hl 1 rfl) ?_
      refine zz_ishl hx hb d_Fu_compare_103 ?_
      refine lv_ior hx hb d_Fu_compare_104 ?_
      refine lv_topi (fun x_19 ex_19 => ?_)
      have h := h x_19 ex_19
      refine p_Fu_25 hx hb hT hown hK hP hD hS 0 rfl rfl d_Fu_compare_105 (fun H locs (hP : va_P D vwCl (wU qu qf ql qo cI x_19 fg u_7 u_11) H) (hD : va_D A (wU qu qf ql qo cI x_19 fg u_7 u_11)) hS => ?_)
      refine lv_iconst (v := 0) hx hb d_Fu_compare_108 (by decide) ?_
      exact W.iret (v := (0 : Int32)) hx hb hr (fun t ht hW => ⟨⟨(0 : Int32), (x_19, fg, u_7, u_11), rfl, h, by rw [ht]; exact hP, hD⟩, hS.F ht⟩) hS.2.2 d_Fu_compare_109
  · skip
    have h := h.2 c_4
    refine lv_bipush (v := 8) hx hb d_Fu_compare_16 (by decide) ?_
    exact W.iret (v := (8 : Int32)) hx hb hr (fun t ht hW => ⟨⟨(8 : Int32), (cd, fg, L, O), rfl, h, by rw [ht]; exact hP, hD⟩, hS.F ht⟩) hS.2.2 d_Fu_compare_18
def wp_Fu_convertToWord (cd : Int32) (fg : Nat → Int32) (L : Int32 × Int32 × Int32 × Int64) (O : Int32 × Int32 × Int32 × Int64) (a0 : Int32) (a1 : Int32) (P : Int32 → (Int32 × (Nat → Int32) × (Int32 × Int32 × Int32 × Int64) × (Int32 × Int32 × Int32 × Int64)) → Prop) : Prop := wp_Fu_fs a0 (fun r_1 => wp_Fu_odd a1 r_1 (fun r_2 => ((r_2 = (0 : Int32) → wp_Fu_fs a0 (fun r_4 => wp_Fu_bits cd fg L O r_4 a1 (fun r_5 => wp_Fr_unpack L r_5 a1 (fun u_6 => wp_Fu_fd a0 (fun r_8 => wp_Fr_toWord u_6 (a0 &&& (3 : Int32)) (fun r_9 => vp_in r_8 32 ∧ P (0 : Int32) (cd, (upd fg r_8.toNatClampNeg r_9), u_6, O))))))) ∧ (¬ r_2 = (0 : Int32) → P (8 : Int32) (cd, fg, L, O)))))
abbrev rm_Fu_convertToWord : Room := { frames := 2, cells := 0, slots := 0, locals := 58 }
set_option maxHeartbeats 4000000 in
set_option maxRecDepth 100000 in
theorem c_Fu_convertToWord (l : Launch) (D : va_G) (cI : ClassId) (qu : Nat) (qf : Nat) (ql : Nat) (qo : Nat) (cd : Int32) (fg : Nat → Int32) (L : Int32 × Int32 × Int32 × Int64) (O : Int32 × Int32 × Int32 × Int64) (a0 : Int32) (a1 : Int32) (P : Int32 → (Int32 × (Nat → Int32) × (Int32 × Int32 × Int32 × Int64) × (Int32 × Int32 × Int32 × Int64)) → Prop) (h : wp_Fu_convertToWord cd fg L O a0 a1 P) (sz : Nat) : Met l y_Fu_convertToWord (zz_ws y_Fu_convertToWord b_Fu_convertToWord 3 (some .int)) rm_Fu_convertToWord (va_Pc [.ref qu, .int a0, .int a1] (zz_pw D [(cI, .int)] (wU qu qf ql qo cI cd fg L O) sz)) (va_Qi P (zz_qw D (fun u => wU qu qf ql qo cI u.1 u.2.1 u.2.2.1 u.2.2.2) (va_A (wU qu qf ql qo cI cd fg L O) sz)) (va_A (wU qu qf ql qo cI cd fg L O) sz)) 0 0 (va_A (wU qu qf ql qo cI cd fg L O) sz) := by
  refine Met.ofW (cc := b_Fu_convertToWord) (maxL := 3) (ret := (some .int)) (by decide) rfl ?_
  intro p e s m args below meth c s₁ B hml hv
  obtain ⟨rfl, hsz, hP, hK, hD0⟩ := hv
  have hx := B.exec
  have hb := B.bytes
  have hr := B.returns
  have hts := atoms_spec (ws := (zz_ws y_Fu_convertToWord b_Fu_convertToWord 3 (some .int))) B.pre
  have hown : s.vm.findClass R_Fu = some m.cls := findClass_of_methodNamed B.named
  have hlocks := B.notSynchronized
  have hT := zz_hts hts
  have X : CallFix p m c b_Fu_convertToWord 3 s ([.ref qu, .int a0, .int a1] : List Value).toArray (zz_ws y_Fu_convertToWord b_Fu_convertToWord 3 (some .int)) R_Fu := ⟨hx, hb, hml, hown, hts⟩
  have hf0 : 0 + 0 ≤ (headSpec (zz_ws y_Fu_convertToWord b_Fu_convertToWord 3 (some .int)) rm_Fu_convertToWord).room.cells ∧ 0 + 0 ≤ (headSpec (zz_ws y_Fu_convertToWord b_Fu_convertToWord 3 (some .int)) rm_Fu_convertToWord).room.slots := ⟨Nat.le_of_ble_eq_true rfl, Nat.le_of_ble_eq_true rfl⟩
  subst hsz
  have hD := hD0.self (sz := s.heap.size)
  generalize hAe : va_A (wU qu qf ql qo cI cd fg L O) s.heap.size = A at hD ⊢
  have hA : ∀ q : Nat, s.heap.size ≤ q → A q := fun q h => by rw [← hAe]; exact Or.inr h
  have hS : va_S A s.heap s.heap [] := va_S.rf
  have hl := lv_entry ([.ref qu, .int a0, .int a1]) (n := 3) (Nat.le_of_ble_eq_true rfl)
  rw [lg_entry_eq]
  generalize (lg_sl ([.ref qu, .int a0, .int a1]) ++ List.replicate (3 - (lg_sl ([.ref qu, .int a0, .int a1])).length) Slot.unset).toArray = ls at hl ⊢
  have hl : lv_has ls 3 [(0, .ref qu), (1, .int a0), (2, .int a1)] := hl
  refine lv_iload_n hx hb d_Fu_convertToWord_0 rfl (lv_at hl 2 rfl) ?_
  refine lv_iload_n hx hb d_Fu_convertToWord_1 rfl (lv_at hl 1 rfl) ?_
  refine zz_Si (As := [.int a0]) (rest := [.int a1]) X (c_Fu_fs l a0 _ h) ⟨rfl, rfl⟩ m_Fu_fs k_Fu_53 ⟨Nat.le_of_ble_eq_true rfl, Nat.le_of_ble_eq_true rfl⟩ rfl hl.1 rfl (Nat.le_of_ble_eq_true rfl) d_Fu_convertToWord_2 hf0 (fun r_1 h => ?_)
  refine zz_Si (As := [.int a1, .int r_1]) (rest := []) X (c_Fu_odd l a1 r_1 _ h) ⟨rfl, rfl⟩ m_Fu_odd k_Fu_62 ⟨Nat.le_of_ble_eq_true rfl, Nat.le_of_ble_eq_true rfl⟩ rfl hl.1 rfl (Nat.le_of_ble_eq_true rfl) d_Fu_convertToWord_5 hf0 (fun r_2 h => ?_)
  refine lv_if_eq (tgt := 14) hx hb d_Fu_convertToWord_8 (by decide) (fun c_3 => ?_) (fun c_3 => ?_)
  · skip
    have h := h.1 c_3
    refine lv_aload_n hx hb d_Fu_convertToWord_14 rfl (lv_at hl 0 rfl) ?_
    refine g_Fu_18 (v := .ref ql) hx hb hT hown hK hP 0 rfl rfl d_Fu_convertToWord_15 ?_
    refine lv_aload_n hx hb d_Fu_convertToWord_18 rfl (lv_at hl 0 rfl) ?_
    refine lv_iload_n hx hb d_Fu_convertToWord_19 rfl (lv_at hl 1 rfl) ?_
    refine zz_Si (As := [.int a0]) (rest := [.ref qu, .ref ql]) X (c_Fu_fs l a0 _ h) ⟨rfl, rfl⟩ m_Fu_fs k_Fu_53 ⟨Nat.le_of_ble_eq_true rfl, Nat.le_of_ble_eq_true rfl⟩ rfl hl.1 rfl (Nat.le_of_ble_eq_true rfl) d_Fu_convertToWord_20 hf0 (fun r_4 h => ?_)
    refine lv_iload_n hx hb d_Fu_convertToWord_23 rfl (lv_at hl 2 rfl) ?_
    refine zz_Rl (As := [.int r_4, .int a1]) (rest := [.ref ql]) (wc := wU qu qf ql qo cI cd fg L O) X hK hP (c_Fu_bits l D cI qu qf ql qo cd fg L O r_4 a1 _ h) ⟨rfl, rfl⟩ m_Fu_bits k_Fu_66 ⟨Nat.le_of_ble_eq_true rfl, Nat.le_of_ble_eq_true rfl⟩ [0, 1, 2, 3] rfl 1 0 rfl rfl rfl rfl hl.1 rfl (Nat.le_of_ble_eq_true rfl) d_Fu_convertToWord_24 hf0 (fun r_5 h => ?_)
    refine lv_iload_n hx hb d_Fu_convertToWord_27 rfl (lv_at hl 2 rfl) ?_
    refine zz_Wv (As := [.long r_5, .int a1]) (rest := []) (wc := wF1 ql L) (wr := [(qu, .inr (1, [.ref qf, .int cd, .ref ql, .ref qo])), (qf, .inl (cI, 32, .inl fg)), (qo, .inr (0, [.int O.1, .int O.2.1, .int O.2.2.1, .long O.2.2.2]))]) X hK hP hD hS hA (c_Fr_unpack l D cI ql L r_5 a1 _ h _) ⟨rfl, rfl⟩ m_Fr_unpack k_Fu_70 ⟨Nat.le_of_ble_eq_true rfl, Nat.le_of_ble_eq_true rfl⟩ [2] [0, 1, 3] rfl rfl (by decide) (by decide) (by decide) 0 2 rfl rfl rfl rfl hl.1 rfl (Nat.le_of_ble_eq_true rfl) d_Fu_convertToWord_28 hf0 (fun u_6 H locs h hP hD hS => ?_)
    have hP : va_P D vwCl (wU qu qf ql qo cI cd fg u_6 O) H := hP.sub [0, 1, 3, 2] rfl
    have hD : va_D A (wU qu qf ql qo cI cd fg u_6 O) := hD.sub [0, 1, 3, 2] (by decide) rfl
    refine lv_aload_n hx hb d_Fu_convertToWord_31 rfl (lv_at hl 0 rfl) ?_
    refine g_Fu_9 (v := .ref qf) hx hb hT hown hK hP 0 rfl rfl d_Fu_convertToWord_32 ?_
    refine lv_iload_n hx hb d_Fu_convertToWord_35 rfl (lv_at hl 1 rfl) ?_
    refine zz_Si (As := [.int a0]) (rest := [.ref qf]) X (c_Fu_fd l a0 _ h) ⟨rfl, rfl⟩ m_Fu_fd k_Fu_59 ⟨Nat.le_of_ble_eq_true rfl, Nat.le_of_ble_eq_true rfl⟩ rfl hl.1 rfl (Nat.le_of_ble_eq_true rfl) d_Fu_convertToWord_36 hf0 (fun r_8 h => ?_)
    refine lv_aload_n hx hb d_Fu_convertToWord_39 rfl (lv_at hl 0 rfl) ?_
    refine g_Fu_18 (v := .ref ql) hx hb hT hown hK hP 0 rfl rfl d_Fu_convertToWord_40 ?_
    refine lv_iload_n hx hb d_Fu_convertToWord_43 rfl (lv_at hl 1 rfl) ?_
    refine lv_iconst (v := 3) hx hb d_Fu_convertToWord_44 (by decide) ?_
    refine lv_iand hx hb d_Fu_convertToWord_45 ?_
    refine zz_Ri (As := [.int (a0 &&& (3 : Int32))]) (rest := [.int r_8, .ref qf]) (wc := wF1 ql u_6) X hK hP (c_Fr_toWord l D cI ql u_6 (a0 &&& (3 : Int32)) _ h) ⟨rfl, rfl⟩ m_Fr_toWord k_Fu_109 ⟨Nat.le_of_ble_eq_true rfl, Nat.le_of_ble_eq_true rfl⟩ [2] rfl 0 2 rfl rfl rfl rfl hl.1 rfl (Nat.le_of_ble_eq_true rfl) d_Fu_convertToWord_46 hf0 (fun r_9 h => ?_)
    refine va_iast (f := fg) hx hb hK hP hD hS 1 0 rfl rfl h.1 d_Fu_convertToWord_49 (fun H locs (hP : va_P D vwCl (wU qu qf ql qo cI cd (upd fg r_8.toNatClampNeg r_9) u_6 O) H) (hD : va_D A (wU qu qf ql qo cI cd (upd fg r_8.toNatClampNeg r_9) u_6 O)) hS => ?_)
    have h := h.2
    refine lv_iconst (v := 0) hx hb d_Fu_convertToWord_50 (by decide) ?_
    exact W.iret (v := (0 : Int32)) hx hb hr (fun t ht hW => ⟨⟨(0 : Int32), (cd, (upd fg r_8.toNatClampNeg r_9), u_6, O), rfl, h, by rw [ht]; exact hP, hD⟩, hS.F ht⟩) hS.2.2 d_Fu_convertToWord_51
  · skip
    have h := h.2 c_3
    refine lv_bipush (v := 8) hx hb d_Fu_convertToWord_11 (by decide) ?_
    exact W.iret (v := (8 : Int32)) hx hb hr (fun t ht hW => ⟨⟨(8 : Int32), (cd, fg, L, O), rfl, h, by rw [ht]; exact hP, hD⟩, hS.F ht⟩) hS.2.2 d_Fu_convertToWord_13
def wp_Fu_moveIf (cd : Int32) (fg : Nat → Int32) (L : Int32 × Int32 × Int32 × Int64) (O : Int32 × Int32 × Int32 × Int64) (a0 : Int32) (a1 : Int32) (a2 : Int32) (P : Int32 → (Int32 × (Nat → Int32) × (Int32 × Int32 × Int32 × Int64) × (Int32 × Int32 × Int32 × Int64)) → Prop) : Prop := wp_Fu_fs a0 (fun r_1 => wp_Fu_fd a0 (fun r_2 => wp_Fu_odd a1 (r_1 ||| r_2) (fun r_3 => ((r_3 = (0 : Int32) → ∀ x_5 : Int32, x_5 = (a0 &&& (63 : Int32)) → ((x_5 = (18 : Int32) → ((a2 = (0 : Int32) → wp_Fu_fs a0 (fun r_36 => wp_Fu_bits cd fg L O r_36 a1 (fun r_37 => wp_Fu_result cd fg L O a0 r_37 a1 (fun r_39 u_38 => P r_39 (u_38.1, u_38.2.1, u_38.2.2.1, u_38.2.2.2))))) ∧ (¬ a2 = (0 : Int32) → ((x_5 = (19 : Int32) → wp_Fu_fs a0 (fun r_53 => wp_Fu_bits cd fg L O r_53 a1 (fun r_54 => wp_Fu_result cd fg L O a0 r_54 a1 (fun r_56 u_55 => P r_56 (u_55.1, u_55.2.1, u_55.2.2.1, u_55.2.2.2))))) ∧ (¬ x_5 = (19 : Int32) → ((x_5 = (17 : Int32) → wp_Fu_conditionAsAsked cd fg L O a0 (fun r_43 => ((r_43 = (0 : Int32) → P (0 : Int32) (cd, fg, L, O)) ∧ (¬ r_43 = (0 : Int32) → wp_Fu_fs a0 (fun r_47 => wp_Fu_bits cd fg L O r_47 a1 (fun r_48 => wp_Fu_result cd fg L O a0 r_48 a1 (fun r_50 u_49 => P r_50 (u_49.1, u_49.2.1, u_49.2.2.1, u_49.2.2.2)))))))) ∧ (¬ x_5 = (17 : Int32) → P (0 : Int32) (cd, fg, L, O)))))))) ∧ (¬ x_5 = (18 : Int32) → ((x_5 = (19 : Int32) → ((a2 = (0 : Int32) → ((x_5 = (17 : Int32) → wp_Fu_conditionAsAsked cd fg L O a0 (fun r_26 => ((r_26 = (0 : Int32) → P (0 : Int32) (cd, fg, L, O)) ∧ (¬ r_26 = (0 : Int32) → wp_Fu_fs a0 (fun r_30 => wp_Fu_bits cd fg L O r_30 a1 (fun r_31 => wp_Fu_result cd fg L O a0 r_31 a1 (fun r_33 u_32 => P r_33 (u_32.1, u_32.2.1, u_32.2.2.1, u_32.2.2.2)))))))) ∧ (¬ x_5 = (17 : Int32) → P (0 : Int32) (cd, fg, L, O)))) ∧ (¬ a2 = (0 : Int32) → wp_Fu_fs a0 (fun r_20 => wp_Fu_bits cd fg L O r_20 a1 (fun r_21 => wp_Fu_result cd fg L O a0 r_21 a1 (fun r_23 u_22 => P r_23 (u_22.1, u_22.2.1, u_22.2.2.1, u_22.2.2.2))))))) ∧ (¬ x_5 = (19 : Int32) → ((x_5 = (17 : Int32) → wp_Fu_conditionAsAsked cd fg L O a0 (fun r_10 => ((r_10 = (0 : Int32) → P (0 : Int32) (cd, fg, L, O)) ∧ (¬ r_10 = (0 : Int32) → wp_Fu_fs a0 (fun r_14 => wp_Fu_bits cd fg L O r_14 a1 (fun r_15 => wp_Fu_result cd fg L O a0 r_15 a1 (fun r_17 u_16 => P r_17 (u_16.1, u_16.2.1, u_16.2.2.1, u_16.2.2.2)))))))) ∧ (¬ x_5 = (17 : Int32) → P (0 : Int32) (cd, fg, L, O)))))))) ∧ (¬ r_3 = (0 : Int32) → P (8 : Int32) (cd, fg, L, O))))))
abbrev rm_Fu_moveIf : Room := { frames := 2, cells := 0, slots := 0, locals := 44 }
set_option maxHeartbeats 4000000 in
set_option maxRecDepth 100000 in
theorem c_Fu_moveIf (l : Launch) (D : va_G) (cI : ClassId) (qu : Nat) (qf : Nat) (ql : Nat) (qo : Nat) (cd : Int32) (fg : Nat → Int32) (L : Int32 × Int32 × Int32 × Int64) (O : Int32 × Int32 × Int32 × Int64) (a0 : Int32) (a1 : Int32) (a2 : Int32) (P : Int32 → (Int32 × (Nat → Int32) × (Int32 × Int32 × Int32 × Int64) × (Int32 × Int32 × Int32 × Int64)) → Prop) (h : wp_Fu_moveIf cd fg L O a0 a1 a2 P) (sz : Nat) : Met l y_Fu_moveIf (zz_ws y_Fu_moveIf b_Fu_moveIf 6 (some .int)) rm_Fu_moveIf (va_Pc [.ref qu, .int a0, .int a1, .int a2] (zz_pw D [(cI, .int)] (wU qu qf ql qo cI cd fg L O) sz)) (va_Qi P (zz_qw D (fun u => wU qu qf ql qo cI u.1 u.2.1 u.2.2.1 u.2.2.2) (va_A (wU qu qf ql qo cI cd fg L O) sz)) (va_A (wU qu qf ql qo cI cd fg L O) sz)) 0 0 (va_A (wU qu qf ql qo cI cd fg L O) sz) := by
  refine Met.ofW (cc := b_Fu_moveIf) (maxL := 6) (ret := (some .int)) (by decide) rfl ?_
  intro p e s m args below meth c s₁ B hml hv
  obtain ⟨rfl, hsz, hP, hK, hD0⟩ := hv
  have hx := B.exec
  have hb := B.bytes
  have hr := B.returns
  have hts := atoms_spec (ws := (zz_ws y_Fu_moveIf b_Fu_moveIf 6 (some .int))) B.pre
  have hown : s.vm.findClass R_Fu = some m.cls := findClass_of_methodNamed B.named
  have hlocks := B.notSynchronized
  have hT := zz_hts hts
  have X : CallFix p m c b_Fu_moveIf 6 s ([.ref qu, .int a0, .int a1, .int a2] : List Value).toArray (zz_ws y_Fu_moveIf b_Fu_moveIf 6 (some .int)) R_Fu := ⟨hx, hb, hml, hown, hts⟩
  have hf0 : 0 + 0 ≤ (headSpec (zz_ws y_Fu_moveIf b_Fu_moveIf 6 (some .int)) rm_Fu_moveIf).room.cells ∧ 0 + 0 ≤ (headSpec (zz_ws y_Fu_moveIf b_Fu_moveIf 6 (some .int)) rm_Fu_moveIf).room.slots := ⟨Nat.le_of_ble_eq_true rfl, Nat.le_of_ble_eq_true rfl⟩
  subst hsz
  have hD := hD0.self (sz := s.heap.size)
  generalize hAe : va_A (wU qu qf ql qo cI cd fg L O) s.heap.size = A at hD ⊢
  have hA : ∀ q : Nat, s.heap.size ≤ q → A q := fun q h => by rw [← hAe]; exact Or.inr h
  have hS : va_S A s.heap s.heap [] := va_S.rf
  have hl := lv_entry ([.ref qu, .int a0, .int a1, .int a2]) (n := 6) (Nat.le_of_ble_eq_true rfl)
  rw [lg_entry_eq]
  generalize (lg_sl ([.ref qu, .int a0, .int a1, .int a2]) ++ List.replicate (6 - (lg_sl ([.ref qu, .int a0, .int a1, .int a2])).length) Slot.unset).toArray = ls at hl ⊢
  have hl : lv_has ls 6 [(0, .ref qu), (1, .int a0), (2, .int a1), (3, .int a2)] := hl
  refine lv_iload_n hx hb d_Fu_moveIf_0 rfl (lv_at hl 2 rfl) ?_
  refine lv_iload_n hx hb d_Fu_moveIf_1 rfl (lv_at hl 1 rfl) ?_
  refine zz_Si (As := [.int a0]) (rest := [.int a1]) X (c_Fu_fs l a0 _ h) ⟨rfl, rfl⟩ m_Fu_fs k_Fu_53 ⟨Nat.le_of_ble_eq_true rfl, Nat.le_of_ble_eq_true rfl⟩ rfl hl.1 rfl (Nat.le_of_ble_eq_true rfl) d_Fu_moveIf_2 hf0 (fun r_1 h => ?_)
  refine lv_iload_n hx hb d_Fu_moveIf_5 rfl (lv_at hl 1 rfl) ?_
  refine zz_Si (As := [.int a0]) (rest := [.int r_1, .int a1]) X (c_Fu_fd l a0 _ h) ⟨rfl, rfl⟩ m_Fu_fd k_Fu_59 ⟨Nat.le_of_ble_eq_true rfl, Nat.le_of_ble_eq_true rfl⟩ rfl hl.1 rfl (Nat.le_of_ble_eq_true rfl) d_Fu_moveIf_6 hf0 (fun r_2 h => ?_)
  refine lv_ior hx hb d_Fu_moveIf_9 ?_
  refine zz_Si (As := [.int a1, .int (r_1 ||| r_2)]) (rest := []) X (c_Fu_odd l a1 (r_1 ||| r_2) _ h) ⟨rfl, rfl⟩ m_Fu_odd k_Fu_62 ⟨Nat.le_of_ble_eq_true rfl, Nat.le_of_ble_eq_true rfl⟩ rfl hl.1 rfl (Nat.le_of_ble_eq_true rfl) d_Fu_moveIf_10 hf0 (fun r_3 h => ?_)
  refine lv_if_eq (tgt := 19) hx hb d_Fu_moveIf_13 (by decide) (fun c_4 => ?_) (fun c_4 => ?_)
  · skip
    have h := h.1 c_4
    refine lv_iload_n hx hb d_Fu_moveIf_19 rfl (lv_at hl 1 rfl) ?_
    refine lv_bipush (v := 63) hx hb d_Fu_moveIf_20 (by decide) ?_
    refine lv_iand hx hb d_Fu_moveIf_22 ?_
    refine lv_topi (fun x_5 ex_5 => ?_)
    have h := h x_5 ex_5
    refine lv_istore (lv' := [(4, .int x_5), (0, .ref qu), (1, .int a0), (2, .int a1), (3, .int a2)]) hx hb d_Fu_moveIf_23 hl (by decide) rfl (fun ls hl => ?_)
    refine lv_iload hx hb d_Fu_moveIf_25 (lv_at hl 0 rfl) ?_
    refine lv_bipush (v := 18) hx hb d_Fu_moveIf_27 (by decide) ?_
    refine lv_icmp_ne (tgt := 36) hx hb d_Fu_moveIf_29 (by decide) (fun c_6 => ?_) (fun c_6 => ?_)
    · skip
      have h := h.2 c_6
      refine lv_iload hx hb d_Fu_moveIf_36 (lv_at hl 0 rfl) ?_
      refine lv_bipush (v := 19) hx hb d_Fu_moveIf_38 (by decide) ?_
      refine lv_icmp_ne (tgt := 47) hx hb d_Fu_moveIf_40 (by decide) (fun c_7 => ?_) (fun c_7 => ?_)
      · skip
        have h := h.2 c_7
        refine lv_iload hx hb d_Fu_moveIf_47 (lv_at hl 0 rfl) ?_
        refine lv_bipush (v := 17) hx hb d_Fu_moveIf_49 (by decide) ?_
        refine lv_icmp_ne (tgt := 66) hx hb d_Fu_moveIf_51 (by decide) (fun c_8 => ?_) (fun c_8 => ?_)
        · skip
          have h := h.2 c_8
          refine lv_iconst (v := 0) hx hb d_Fu_moveIf_66 (by decide) ?_
          refine lv_istore (lv' := [(5, .int (0 : Int32)), (4, .int x_5), (0, .ref qu), (1, .int a0), (2, .int a1), (3, .int a2)]) hx hb d_Fu_moveIf_67 hl (by decide) rfl (fun ls hl => ?_)
          refine lv_iload hx hb d_Fu_moveIf_69 (lv_at hl 0 rfl) ?_
          refine lv_if_eq (tgt := 92) hx hb d_Fu_moveIf_71 (by decide) (fun c_9 => ?_) (fun c_9 => ?_)
          · skip
            refine lv_iconst (v := 0) hx hb d_Fu_moveIf_92 (by decide) ?_
            exact W.iret (v := (0 : Int32)) hx hb hr (fun t ht hW => ⟨⟨(0 : Int32), (cd, fg, L, O), rfl, h, by rw [ht]; exact hP, hD⟩, hS.F ht⟩) hS.2.2 d_Fu_moveIf_93
          · exact absurd c_9 (by decide)
        · skip
          have h := h.1 c_8
          refine lv_aload_n hx hb d_Fu_moveIf_54 rfl (lv_at hl 1 rfl) ?_
          refine lv_iload_n hx hb d_Fu_moveIf_55 rfl (lv_at hl 2 rfl) ?_
          refine zz_Ri (As := [.int a0]) (rest := []) (wc := wU qu qf ql qo cI cd fg L O) X hK hP (c_Fu_conditionAsAsked l D cI qu qf ql qo cd fg L O a0 _ h) ⟨rfl, rfl⟩ m_Fu_conditionAsAsked k_Fu_101 ⟨Nat.le_of_ble_eq_true rfl, Nat.le_of_ble_eq_true rfl⟩ [0, 1, 2, 3] rfl 1 0 rfl rfl rfl rfl hl.1 rfl (Nat.le_of_ble_eq_true rfl) d_Fu_moveIf_56 hf0 (fun r_10 h => ?_)
          refine lv_if_eq (tgt := 66) hx hb d_Fu_moveIf_59 (by decide) (fun c_11 => ?_) (fun c_11 => ?_)
          · skip
            have h := h.1 c_11
            refine lv_iconst (v := 0) hx hb d_Fu_moveIf_66 (by decide) ?_
            refine lv_istore (lv' := [(5, .int (0 : Int32)), (4, .int x_5), (0, .ref qu), (1, .int a0), (2, .int a1), (3, .int a2)]) hx hb d_Fu_moveIf_67 hl (by decide) rfl (fun ls hl => ?_)
            refine lv_iload hx hb d_Fu_moveIf_69 (lv_at hl 0 rfl) ?_
            refine lv_if_eq (tgt := 92) hx hb d_Fu_moveIf_71 (by decide) (fun c_12 => ?_) (fun c_12 => ?_)
            · skip
              refine lv_iconst (v := 0) hx hb d_Fu_moveIf_92 (by decide) ?_
              exact W.iret (v := (0 : Int32)) hx hb hr (fun t ht hW => ⟨⟨(0 : Int32), (cd, fg, L, O), rfl, h, by rw [ht]; exact hP, hD⟩, hS.F ht⟩) hS.2.2 d_Fu_moveIf_93
            · exact absurd c_12 (by decide)
          · skip
            have h := h.2 c_11
            refine lv_iconst (v := 1) hx hb d_Fu_moveIf_62 (by decide) ?_
            refine lv_goto (tgt := 67) hx hb d_Fu_moveIf_63 (by decide) ?_
            refine lv_istore (lv' := [(5, .int (1 : Int32)), (4, .int x_5), (0, .ref qu), (1, .int a0), (2, .int a1), (3, .int a2)]) hx hb d_Fu_moveIf_67 hl (by decide) rfl (fun ls hl => ?_)
            refine lv_iload hx hb d_Fu_moveIf_69 (lv_at hl 0 rfl) ?_
            refine lv_if_eq (tgt := 92) hx hb d_Fu_moveIf_71 (by decide) (fun c_13 => ?_) (fun c_13 => ?_)
            · exact absurd c_13 (by decide)
            · skip
              refine lv_aload_n hx hb d_Fu_moveIf_74 rfl (lv_at hl 2 rfl) ?_
              refine lv_iload_n hx hb d_Fu_moveIf_75 rfl (lv_at hl 3 rfl) ?_
              refine lv_aload_n hx hb d_Fu_moveIf_76 rfl (lv_at hl 2 rfl) ?_
              refine lv_iload_n hx hb d_Fu_moveIf_77 rfl (lv_at hl 3 rfl) ?_
              refine zz_Si (As := [.int a0]) (rest := [.ref qu, .int a0, .ref qu]) X (c_Fu_fs l a0 _ h) ⟨rfl, rfl⟩ m_Fu_fs k_Fu_53 ⟨Nat.le_of_ble_eq_true rfl, Nat.le_of_ble_eq_true rfl⟩ rfl hl.1 rfl (Nat.le_of_ble_eq_true rfl) d_Fu_moveIf_78 hf0 (fun r_14 h => ?_)
              refine lv_iload_n hx hb d_Fu_moveIf_81 rfl (lv_at hl 4 rfl) ?_
              refine zz_Rl (As := [.int r_14, .int a1]) (rest := [.int a0, .ref qu]) (wc := wU qu qf ql qo cI cd fg L O) X hK hP (c_Fu_bits l D cI qu qf ql qo cd fg L O r_14 a1 _ h) ⟨rfl, rfl⟩ m_Fu_bits k_Fu_66 ⟨Nat.le_of_ble_eq_true rfl, Nat.le_of_ble_eq_true rfl⟩ [0, 1, 2, 3] rfl 1 0 rfl rfl rfl rfl hl.1 rfl (Nat.le_of_ble_eq_true rfl) d_Fu_moveIf_82 hf0 (fun r_15 h => ?_)
              refine lv_iload_n hx hb d_Fu_moveIf_85 rfl (lv_at hl 4 rfl) ?_
              refine zz_Wi (As := [.int a0, .long r_15, .int a1]) (rest := []) (wc := wU qu qf ql qo cI cd fg L O) (wr := []) X hK hP hD hS hA (c_Fu_result l D cI qu qf ql qo cd fg L O a0 r_15 a1 _ h _) ⟨rfl, rfl⟩ m_Fu_result k_Fu_91 ⟨Nat.le_of_ble_eq_true rfl, Nat.le_of_ble_eq_true rfl⟩ [0, 1, 2, 3] [] rfl rfl (by decide) (by decide) (by decide) 1 0 rfl rfl rfl rfl hl.1 rfl (Nat.le_of_ble_eq_true rfl) d_Fu_moveIf_86 hf0 (fun r_17 u_16 H locs h hP hD hS => ?_)
              have hP : va_P D vwCl (wU qu qf ql qo cI u_16.1 u_16.2.1 u_16.2.2.1 u_16.2.2.2) H := hP.sub [0, 1, 2, 3] rfl
              have hD : va_D A (wU qu qf ql qo cI u_16.1 u_16.2.1 u_16.2.2.1 u_16.2.2.2) := hD.sub [0, 1, 2, 3] (by decide) rfl
              refine lv_goto (tgt := 93) hx hb d_Fu_moveIf_89 (by decide) ?_
              exact W.iret (v := r_17) hx hb hr (fun t ht hW => ⟨⟨r_17, (u_16.1, u_16.2.1, u_16.2.2.1, u_16.2.2.2), rfl, h, by rw [ht]; exact hP, hD⟩, hS.F ht⟩) hS.2.2 d_Fu_moveIf_93
      · skip
        have h := h.1 c_7
        refine lv_iload_n hx hb d_Fu_moveIf_43 rfl (lv_at hl 4 rfl) ?_
        refine lv_if_ne (tgt := 62) hx hb d_Fu_moveIf_44 (by decide) (fun c_18 => ?_) (fun c_18 => ?_)
        · skip
          have h := h.2 c_18
          refine lv_iconst (v := 1) hx hb d_Fu_moveIf_62 (by decide) ?_
          refine lv_goto (tgt := 67) hx hb d_Fu_moveIf_63 (by decide) ?_
          refine lv_istore (lv' := [(5, .int (1 : Int32)), (4, .int x_5), (0, .ref qu), (1, .int a0), (2, .int a1), (3, .int a2)]) hx hb d_Fu_moveIf_67 hl (by decide) rfl (fun ls hl => ?_)
          refine lv_iload hx hb d_Fu_moveIf_69 (lv_at hl 0 rfl) ?_
          refine lv_if_eq (tgt := 92) hx hb d_Fu_moveIf_71 (by decide) (fun c_19 => ?_) (fun c_19 => ?_)
          · exact absurd c_19 (by decide)
          · skip
            refine lv_aload_n hx hb d_Fu_moveIf_74 rfl (lv_at hl 2 rfl) ?_
            refine lv_iload_n hx hb d_Fu_moveIf_75 rfl (lv_at hl 3 rfl) ?_
            refine lv_aload_n hx hb d_Fu_moveIf_76 rfl (lv_at hl 2 rfl) ?_
            refine lv_iload_n hx hb d_Fu_moveIf_77 rfl (lv_at hl 3 rfl) ?_
            refine zz_Si (As := [.int a0]) (rest := [.ref qu, .int a0, .ref qu]) X (c_Fu_fs l a0 _ h) ⟨rfl, rfl⟩ m_Fu_fs k_Fu_53 ⟨Nat.le_of_ble_eq_true rfl, Nat.le_of_ble_eq_true rfl⟩ rfl hl.1 rfl (Nat.le_of_ble_eq_true rfl) d_Fu_moveIf_78 hf0 (fun r_20 h => ?_)
            refine lv_iload_n hx hb d_Fu_moveIf_81 rfl (lv_at hl 4 rfl) ?_
            refine zz_Rl (As := [.int r_20, .int a1]) (rest := [.int a0, .ref qu]) (wc := wU qu qf ql qo cI cd fg L O) X hK hP (c_Fu_bits l D cI qu qf ql qo cd fg L O r_20 a1 _ h) ⟨rfl, rfl⟩ m_Fu_bits k_Fu_66 ⟨Nat.le_of_ble_eq_true rfl, Nat.le_of_ble_eq_true rfl⟩ [0, 1, 2, 3] rfl 1 0 rfl rfl rfl rfl hl.1 rfl (Nat.le_of_ble_eq_true rfl) d_Fu_moveIf_82 hf0 (fun r_21 h => ?_)
            refine lv_iload_n hx hb d_Fu_moveIf_85 rfl (lv_at hl 4 rfl) ?_
            refine zz_Wi (As := [.int a0, .long r_21, .int a1]) (rest := []) (wc := wU qu qf ql qo cI cd fg L O) (wr := []) X hK hP hD hS hA (c_Fu_result l D cI qu qf ql qo cd fg L O a0 r_21 a1 _ h _) ⟨rfl, rfl⟩ m_Fu_result k_Fu_91 ⟨Nat.le_of_ble_eq_true rfl, Nat.le_of_ble_eq_true rfl⟩ [0, 1, 2, 3] [] rfl rfl (by decide) (by decide) (by decide) 1 0 rfl rfl rfl rfl hl.1 rfl (Nat.le_of_ble_eq_true rfl) d_Fu_moveIf_86 hf0 (fun r_23 u_22 H locs h hP hD hS => ?_)
            have hP : va_P D vwCl (wU qu qf ql qo cI u_22.1 u_22.2.1 u_22.2.2.1 u_22.2.2.2) H := hP.sub [0, 1, 2, 3] rfl
            have hD : va_D A (wU qu qf ql qo cI u_22.1 u_22.2.1 u_22.2.2.1 u_22.2.2.2) := hD.sub [0, 1, 2, 3] (by decide) rfl
            refine lv_goto (tgt := 93) hx hb d_Fu_moveIf_89 (by decide) ?_
            exact W.iret (v := r_23) hx hb hr (fun t ht hW => ⟨⟨r_23, (u_22.1, u_22.2.1, u_22.2.2.1, u_22.2.2.2), rfl, h, by rw [ht]; exact hP, hD⟩, hS.F ht⟩) hS.2.2 d_Fu_moveIf_93
        · skip
          have h := h.1 c_18
          refine lv_iload hx hb d_Fu_moveIf_47 (lv_at hl 0 rfl) ?_
          refine lv_bipush (v := 17) hx hb d_Fu_moveIf_49 (by decide) ?_
          refine lv_icmp_ne (tgt := 66) hx hb d_Fu_moveIf_51 (by decide) (fun c_24 => ?_) (fun c_24 => ?_)
          · skip
            have h := h.2 c_24
            refine lv_iconst (v := 0) hx hb d_Fu_moveIf_66 (by decide) ?_
            refine lv_istore (lv' := [(5, .int (0 : Int32)), (4, .int x_5), (0, .ref qu), (1, .int a0), (2, .int a1), (3, .int a2)]) hx hb d_Fu_moveIf_67 hl (by decide) rfl (fun ls hl => ?_)
            refine lv_iload hx hb d_Fu_moveIf_69 (lv_at hl 0 rfl) ?_
            refine lv_if_eq (tgt := 92) hx hb d_Fu_moveIf_71 (by decide) (fun c_25 => ?_) (fun c_25 => ?_)
            · skip
              refine lv_iconst (v := 0) hx hb d_Fu_moveIf_92 (by decide) ?_
              exact W.iret (v := (0 : Int32)) hx hb hr (fun t ht hW => ⟨⟨(0 : Int32), (cd, fg, L, O), rfl, h, by rw [ht]; exact hP, hD⟩, hS.F ht⟩) hS.2.2 d_Fu_moveIf_93
            · exact absurd c_25 (by decide)
          · skip
            have h := h.1 c_24
            refine lv_aload_n hx hb d_Fu_moveIf_54 rfl (lv_at hl 1 rfl) ?_
            refine lv_iload_n hx hb d_Fu_moveIf_55 rfl (lv_at hl 2 rfl) ?_
            refine zz_Ri (As := [.int a0]) (rest := []) (wc := wU qu qf ql qo cI cd fg L O) X hK hP (c_Fu_conditionAsAsked l D cI qu qf ql qo cd fg L O a0 _ h) ⟨rfl, rfl⟩ m_Fu_conditionAsAsked k_Fu_101 ⟨Nat.le_of_ble_eq_true rfl, Nat.le_of_ble_eq_true rfl⟩ [0, 1, 2, 3] rfl 1 0 rfl rfl rfl rfl hl.1 rfl (Nat.le_of_ble_eq_true rfl) d_Fu_moveIf_56 hf0 (fun r_26 h => ?_)
            refine lv_if_eq (tgt := 66) hx hb d_Fu_moveIf_59 (by decide) (fun c_27 => ?_) (fun c_27 => ?_)
            · skip
              have h := h.1 c_27
              refine lv_iconst (v := 0) hx hb d_Fu_moveIf_66 (by decide) ?_
              refine lv_istore (lv' := [(5, .int (0 : Int32)), (4, .int x_5), (0, .ref qu), (1, .int a0), (2, .int a1), (3, .int a2)]) hx hb d_Fu_moveIf_67 hl (by decide) rfl (fun ls hl => ?_)
              refine lv_iload hx hb d_Fu_moveIf_69 (lv_at hl 0 rfl) ?_
              refine lv_if_eq (tgt := 92) hx hb d_Fu_moveIf_71 (by decide) (fun c_28 => ?_) (fun c_28 => ?_)
              · skip
                refine lv_iconst (v := 0) hx hb d_Fu_moveIf_92 (by decide) ?_
                exact W.iret (v := (0 : Int32)) hx hb hr (fun t ht hW => ⟨⟨(0 : Int32), (cd, fg, L, O), rfl, h, by rw [ht]; exact hP, hD⟩, hS.F ht⟩) hS.2.2 d_Fu_moveIf_93
              · exact absurd c_28 (by decide)
            · skip
              have h := h.2 c_27
              refine lv_iconst (v := 1) hx hb d_Fu_moveIf_62 (by decide) ?_
              refine lv_goto (tgt := 67) hx hb d_Fu_moveIf_63 (by decide) ?_
              refine lv_istore (lv' := [(5, .int (1 : Int32)), (4, .int x_5), (0, .ref qu), (1, .int a0), (2, .int a1), (3, .int a2)]) hx hb d_Fu_moveIf_67 hl (by decide) rfl (fun ls hl => ?_)
              refine lv_iload hx hb d_Fu_moveIf_69 (lv_at hl 0 rfl) ?_
              refine lv_if_eq (tgt := 92) hx hb d_Fu_moveIf_71 (by decide) (fun c_29 => ?_) (fun c_29 => ?_)
              · exact absurd c_29 (by decide)
              · skip
                refine lv_aload_n hx hb d_Fu_moveIf_74 rfl (lv_at hl 2 rfl) ?_
                refine lv_iload_n hx hb d_Fu_moveIf_75 rfl (lv_at hl 3 rfl) ?_
                refine lv_aload_n hx hb d_Fu_moveIf_76 rfl (lv_at hl 2 rfl) ?_
                refine lv_iload_n hx hb d_Fu_moveIf_77 rfl (lv_at hl 3 rfl) ?_
                refine zz_Si (As := [.int a0]) (rest := [.ref qu, .int a0, .ref qu]) X (c_Fu_fs l a0 _ h) ⟨rfl, rfl⟩ m_Fu_fs k_Fu_53 ⟨Nat.le_of_ble_eq_true rfl, Nat.le_of_ble_eq_true rfl⟩ rfl hl.1 rfl (Nat.le_of_ble_eq_true rfl) d_Fu_moveIf_78 hf0 (fun r_30 h => ?_)
                refine lv_iload_n hx hb d_Fu_moveIf_81 rfl (lv_at hl 4 rfl) ?_
                refine zz_Rl (As := [.int r_30, .int a1]) (rest := [.int a0, .ref qu]) (wc := wU qu qf ql qo cI cd fg L O) X hK hP (c_Fu_bits l D cI qu qf ql qo cd fg L O r_30 a1 _ h) ⟨rfl, rfl⟩ m_Fu_bits k_Fu_66 ⟨Nat.le_of_ble_eq_true rfl, Nat.le_of_ble_eq_true rfl⟩ [0, 1, 2, 3] rfl 1 0 rfl rfl rfl rfl hl.1 rfl (Nat.le_of_ble_eq_true rfl) d_Fu_moveIf_82 hf0 (fun r_31 h => ?_)
                refine lv_iload_n hx hb d_Fu_moveIf_85 rfl (lv_at hl 4 rfl) ?_
                refine zz_Wi (As := [.int a0, .long r_31, .int a1]) (rest := []) (wc := wU qu qf ql qo cI cd fg L O) (wr := []) X hK hP hD hS hA (c_Fu_result l D cI qu qf ql qo cd fg L O a0 r_31 a1 _ h _) ⟨rfl, rfl⟩ m_Fu_result k_Fu_91 ⟨Nat.le_of_ble_eq_true rfl, Nat.le_of_ble_eq_true rfl⟩ [0, 1, 2, 3] [] rfl rfl (by decide) (by decide) (by decide) 1 0 rfl rfl rfl rfl hl.1 rfl (Nat.le_of_ble_eq_true rfl) d_Fu_moveIf_86 hf0 (fun r_33 u_32 H locs h hP hD hS => ?_)
                have hP : va_P D vwCl (wU qu qf ql qo cI u_32.1 u_32.2.1 u_32.2.2.1 u_32.2.2.2) H := hP.sub [0, 1, 2, 3] rfl
                have hD : va_D A (wU qu qf ql qo cI u_32.1 u_32.2.1 u_32.2.2.1 u_32.2.2.2) := hD.sub [0, 1, 2, 3] (by decide) rfl
                refine lv_goto (tgt := 93) hx hb d_Fu_moveIf_89 (by decide) ?_
                exact W.iret (v := r_33) hx hb hr (fun t ht hW => ⟨⟨r_33, (u_32.1, u_32.2.1, u_32.2.2.1, u_32.2.2.2), rfl, h, by rw [ht]; exact hP, hD⟩, hS.F ht⟩) hS.2.2 d_Fu_moveIf_93
    · skip
      have h := h.1 c_6
      refine lv_iload_n hx hb d_Fu_moveIf_32 rfl (lv_at hl 4 rfl) ?_
      refine lv_if_eq (tgt := 62) hx hb d_Fu_moveIf_33 (by decide) (fun c_34 => ?_) (fun c_34 => ?_)
      · skip
        have h := h.1 c_34
        refine lv_iconst (v := 1) hx hb d_Fu_moveIf_62 (by decide) ?_
        refine lv_goto (tgt := 67) hx hb d_Fu_moveIf_63 (by decide) ?_
        refine lv_istore (lv' := [(5, .int (1 : Int32)), (4, .int x_5), (0, .ref qu), (1, .int a0), (2, .int a1), (3, .int a2)]) hx hb d_Fu_moveIf_67 hl (by decide) rfl (fun ls hl => ?_)
        refine lv_iload hx hb d_Fu_moveIf_69 (lv_at hl 0 rfl) ?_
        refine lv_if_eq (tgt := 92) hx hb d_Fu_moveIf_71 (by decide) (fun c_35 => ?_) (fun c_35 => ?_)
        · exact absurd c_35 (by decide)
        · skip
          refine lv_aload_n hx hb d_Fu_moveIf_74 rfl (lv_at hl 2 rfl) ?_
          refine lv_iload_n hx hb d_Fu_moveIf_75 rfl (lv_at hl 3 rfl) ?_
          refine lv_aload_n hx hb d_Fu_moveIf_76 rfl (lv_at hl 2 rfl) ?_
          refine lv_iload_n hx hb d_Fu_moveIf_77 rfl (lv_at hl 3 rfl) ?_
          refine zz_Si (As := [.int a0]) (rest := [.ref qu, .int a0, .ref qu]) X (c_Fu_fs l a0 _ h) ⟨rfl, rfl⟩ m_Fu_fs k_Fu_53 ⟨Nat.le_of_ble_eq_true rfl, Nat.le_of_ble_eq_true rfl⟩ rfl hl.1 rfl (Nat.le_of_ble_eq_true rfl) d_Fu_moveIf_78 hf0 (fun r_36 h => ?_)
          refine lv_iload_n hx hb d_Fu_moveIf_81 rfl (lv_at hl 4 rfl) ?_
          refine zz_Rl (As := [.int r_36, .int a1]) (rest := [.int a0, .ref qu]) (wc := wU qu qf ql qo cI cd fg L O) X hK hP (c_Fu_bits l D cI qu qf ql qo cd fg L O r_36 a1 _ h) ⟨rfl, rfl⟩ m_Fu_bits k_Fu_66 ⟨Nat.le_of_ble_eq_true rfl, Nat.le_of_ble_eq_true rfl⟩ [0, 1, 2, 3] rfl 1 0 rfl rfl rfl rfl hl.1 rfl (Nat.le_of_ble_eq_true rfl) d_Fu_moveIf_82 hf0 (fun r_37 h => ?_)
          refine lv_iload_n hx hb d_Fu_moveIf_85 rfl (lv_at hl 4 rfl) ?_
          refine zz_Wi (As := [.int a0, .long r_37, .int a1]) (rest := []) (wc := wU qu qf ql qo cI cd fg L O) (wr := []) X hK hP hD hS hA (c_Fu_result l D cI qu qf ql qo cd fg L O a0 r_37 a1 _ h _) ⟨rfl, rfl⟩ m_Fu_result k_Fu_91 ⟨Nat.le_of_ble_eq_true rfl, Nat.le_of_ble_eq_true rfl⟩ [0, 1, 2, 3] [] rfl rfl (by decide) (by decide) (by decide) 1 0 rfl rfl rfl rfl hl.1 rfl (Nat.le_of_ble_eq_true rfl) d_Fu_moveIf_86 hf0 (fun r_39 u_38 H locs h hP hD hS => ?_)
          have hP : va_P D vwCl (wU qu qf ql qo cI u_38.1 u_38.2.1 u_38.2.2.1 u_38.2.2.2) H := hP.sub [0, 1, 2, 3] rfl
          have hD : va_D A (wU qu qf ql qo cI u_38.1 u_38.2.1 u_38.2.2.1 u_38.2.2.2) := hD.sub [0, 1, 2, 3] (by decide) rfl
          refine lv_goto (tgt := 93) hx hb d_Fu_moveIf_89 (by decide) ?_
          exact W.iret (v := r_39) hx hb hr (fun t ht hW => ⟨⟨r_39, (u_38.1, u_38.2.1, u_38.2.2.1, u_38.2.2.2), rfl, h, by rw [ht]; exact hP, hD⟩, hS.F ht⟩) hS.2.2 d_Fu_moveIf_93
      · skip
        have h := h.2 c_34
        refine lv_iload hx hb d_Fu_moveIf_36 (lv_at hl 0 rfl) ?_
        refine lv_bipush (v := 19) hx hb d_Fu_moveIf_38 (by decide) ?_
        refine lv_icmp_ne (tgt := 47) hx hb d_Fu_moveIf_40 (by decide) (fun c_40 => ?_) (fun c_40 => ?_)
        · skip
          have h := h.2 c_40
          refine lv_iload hx hb d_Fu_moveIf_47 (lv_at hl 0 rfl) ?_
          refine lv_bipush (v := 17) hx hb d_Fu_moveIf_49 (by decide) ?_
          refine lv_icmp_ne (tgt := 66) hx hb d_Fu_moveIf_51 (by decide) (fun c_41 => ?_) (fun c_41 => ?_)
          · skip
            have h := h.2 c_41
            refine lv_iconst (v := 0) hx hb d_Fu_moveIf_66 (by decide) ?_
            refine lv_istore (lv' := [(5, .int (0 : Int32)), (4, .int x_5), (0, .ref qu), (1, .int a0), (2, .int a1), (3, .int a2)]) hx hb d_Fu_moveIf_67 hl (by decide) rfl (fun ls hl => ?_)
            refine lv_iload hx hb d_Fu_moveIf_69 (lv_at hl 0 rfl) ?_
            refine lv_if_eq (tgt := 92) hx hb d_Fu_moveIf_71 (by decide) (fun c_42 => ?_) (fun c_42 => ?_)
            · skip
              refine lv_iconst (v := 0) hx hb d_Fu_moveIf_92 (by decide) ?_
              exact W.iret (v := (0 : Int32)) hx hb hr (fun t ht hW => ⟨⟨(0 : Int32), (cd, fg, L, O), rfl, h, by rw [ht]; exact hP, hD⟩, hS.F ht⟩) hS.2.2 d_Fu_moveIf_93
            · exact absurd c_42 (by decide)
          · skip
            have h := h.1 c_41
            refine lv_aload_n hx hb d_Fu_moveIf_54 rfl (lv_at hl 1 rfl) ?_
            refine lv_iload_n hx hb d_Fu_moveIf_55 rfl (lv_at hl 2 rfl) ?_
            refine zz_Ri (As := [.int a0]) (rest := []) (wc := wU qu qf ql qo cI cd fg L O) X hK hP (c_Fu_conditionAsAsked l D cI qu qf ql qo cd fg L O a0 _ h) ⟨rfl, rfl⟩ m_Fu_conditionAsAsked k_Fu_101 ⟨Nat.le_of_ble_eq_true rfl, Nat.le_of_ble_eq_true rfl⟩ [0, 1, 2, 3] rfl 1 0 rfl rfl rfl rfl hl.1 rfl (Nat.le_of_ble_eq_true rfl) d_Fu_moveIf_56 hf0 (fun r_43 h => ?_)
            refine lv_if_eq (tgt := 66) hx hb d_Fu_moveIf_59 (by decide) (fun c_44 => ?_) (fun c_44 => ?_)
            · skip
              have h := h.1 c_44
              refine lv_iconst (v := 0) hx hb d_Fu_moveIf_66 (by decide) ?_
              refine lv_istore (lv' := [(5, .int (0 : Int32)), (4, .int x_5), (0, .ref qu), (1, .int a0), (2, .int a1), (3, .int a2)]) hx hb d_Fu_moveIf_67 hl (by decide) rfl (fun ls hl => ?_)
              refine lv_iload hx hb d_Fu_moveIf_69 (lv_at hl 0 rfl) ?_
              refine lv_if_eq (tgt := 92) hx hb d_Fu_moveIf_71 (by decide) (fun c_45 => ?_) (fun c_45 => ?_)
              · skip
                refine lv_iconst (v := 0) hx hb d_Fu_moveIf_92 (by decide) ?_
                exact W.iret (v := (0 : Int32)) hx hb hr (fun t ht hW => ⟨⟨(0 : Int32), (cd, fg, L, O), rfl, h, by rw [ht]; exact hP, hD⟩, hS.F ht⟩) hS.2.2 d_Fu_moveIf_93
              · exact absurd c_45 (by decide)
            · skip
              have h := h.2 c_44
              refine lv_iconst (v := 1) hx hb d_Fu_moveIf_62 (by decide) ?_
              refine lv_goto (tgt := 67) hx hb d_Fu_moveIf_63 (by decide) ?_
              refine lv_istore (lv' := [(5, .int (1 : Int32)), (4, .int x_5), (0, .ref qu), (1, .int a0), (2, .int a1), (3, .int a2)]) hx hb d_Fu_moveIf_67 hl (by decide) rfl (fun ls hl => ?_)
              refine lv_iload hx hb d_Fu_moveIf_69 (lv_at hl 0 rfl) ?_
              refine lv_if_eq (tgt := 92) hx hb d_Fu_moveIf_71 (by decide) (fun c_46 => ?_) (fun c_46 => ?_)
              · exact absurd c_46 (by decide)
              · skip
                refine lv_aload_n hx hb d_Fu_moveIf_74 rfl (lv_at hl 2 rfl) ?_
                refine lv_iload_n hx hb d_Fu_moveIf_75 rfl (lv_at hl 3 rfl) ?_
                refine lv_aload_n hx hb d_Fu_moveIf_76 rfl (lv_at hl 2 rfl) ?_
                refine lv_iload_n hx hb d_Fu_moveIf_77 rfl (lv_at hl 3 rfl) ?_
                refine zz_Si (As := [.int a0]) (rest := [.ref qu, .int a0, .ref qu]) X (c_Fu_fs l a0 _ h) ⟨rfl, rfl⟩ m_Fu_fs k_Fu_53 ⟨Nat.le_of_ble_eq_true rfl, Nat.le_of_ble_eq_true rfl⟩ rfl hl.1 rfl (Nat.le_of_ble_eq_true rfl) d_Fu_moveIf_78 hf0 (fun r_47 h => ?_)
                refine lv_iload_n hx hb d_Fu_moveIf_81 rfl (lv_at hl 4 rfl) ?_
                refine zz_Rl (As := [.int r_47, .int a1]) (rest := [.int a0, .ref qu]) (wc := wU qu qf ql qo cI cd fg L O) X hK hP (c_Fu_bits l D cI qu qf ql qo cd fg L O r_47 a1 _ h) ⟨rfl, rfl⟩ m_Fu_bits k_Fu_66 ⟨Nat.le_of_ble_eq_true rfl, Nat.le_of_ble_eq_true rfl⟩ [0, 1, 2, 3] rfl 1 0 rfl rfl rfl rfl hl.1 rfl (Nat.le_of_ble_eq_true rfl) d_Fu_moveIf_82 hf0 (fun r_48 h => ?_)
                refine lv_iload_n hx hb d_Fu_moveIf_85 rfl (lv_at hl 4 rfl) ?_
                refine zz_Wi (As := [.int a0, .long r_48, .int a1]) (rest := []) (wc := wU qu qf ql qo cI cd fg L O) (wr := []) X hK hP hD hS hA (c_Fu_result l D cI qu qf ql qo cd fg L O a0 r_48 a1 _ h _) ⟨rfl, rfl⟩ m_Fu_result k_Fu_91 ⟨Nat.le_of_ble_eq_true rfl, Nat.le_of_ble_eq_true rfl⟩ [0, 1, 2, 3] [] rfl rfl (by decide) (by decide) (by decide) 1 0 rfl rfl rfl rfl hl.1 rfl (Nat.le_of_ble_eq_true rfl) d_Fu_moveIf_86 hf0 (fun r_50 u_49 H locs h hP hD hS => ?_)
                have hP : va_P D vwCl (wU qu qf ql qo cI u_49.1 u_49.2.1 u_49.2.2.1 u_49.2.2.2) H := hP.sub [0, 1, 2, 3] rfl
                have hD : va_D A (wU qu qf ql qo cI u_49.1 u_49.2.1 u_49.2.2.1 u_49.2.2.2) := hD.sub [0, 1, 2, 3] (by decide) rfl
                refine lv_goto (tgt := 93) hx hb d_Fu_moveIf_89 (by decide) ?_
                exact W.iret (v := r_50) hx hb hr (fun t ht hW => ⟨⟨r_50, (u_49.1, u_49.2.1, u_49.2.2.1, u_49.2.2.2), rfl, h, by rw [ht]; exact hP, hD⟩, hS.F ht⟩) hS.2.2 d_Fu_moveIf_93
        · skip
          have h := h.1 c_40
          refine lv_iload_n hx hb d_Fu_moveIf_43 rfl (lv_at hl 4 rfl) ?_
          refine lv_if_ne (tgt := 62) hx hb d_Fu_moveIf_44 (by decide) (fun c_51 => ?_) (fun c_51 => ?_)
          · skip
            refine lv_iconst (v := 1) hx hb d_Fu_moveIf_62 (by decide) ?_
            refine lv_goto (tgt := 67) hx hb d_Fu_moveIf_63 (by decide) ?_
            refine lv_istore (lv' := [(5, .int (1 : Int32)), (4, .int x_5), (0, .ref qu), (1, .int a0), (2, .int a1), (3, .int a2)]) hx hb d_Fu_moveIf_67 hl (by decide) rfl (fun ls hl => ?_)
            refine lv_iload hx hb d_Fu_moveIf_69 (lv_at hl 0 rfl) ?_
            refine lv_if_eq (tgt := 92) hx hb d_Fu_moveIf_71 (by decide) (fun c_52 => ?_) (fun c_52 => ?_)
            · exact absurd c_52 (by decide)
            · skip
              refine lv_aload_n hx hb d_Fu_moveIf_74 rfl (lv_at hl 2 rfl) ?_
              refine lv_iload_n hx hb d_Fu_moveIf_75 rfl (lv_at hl 3 rfl) ?_
              refine lv_aload_n hx hb d_Fu_moveIf_76 rfl (lv_at hl 2 rfl) ?_
              refine lv_iload_n hx hb d_Fu_moveIf_77 rfl (lv_at hl 3 rfl) ?_
              refine zz_Si (As := [.int a0]) (rest := [.ref qu, .int a0, .ref qu]) X (c_Fu_fs l a0 _ h) ⟨rfl, rfl⟩ m_Fu_fs k_Fu_53 ⟨Nat.le_of_ble_eq_true rfl, Nat.le_of_ble_eq_true rfl⟩ rfl hl.1 rfl (Nat.le_of_ble_eq_true rfl) d_Fu_moveIf_78 hf0 (fun r_53 h => ?_)
              refine lv_iload_n hx hb d_Fu_moveIf_81 rfl (lv_at hl 4 rfl) ?_
              refine zz_Rl (As := [.int r_53, .int a1]) (rest := [.int a0, .ref qu]) (wc := wU qu qf ql qo cI cd fg L O) X hK hP (c_Fu_bits l D cI qu qf ql qo cd fg L O r_53 a1 _ h) ⟨rfl, rfl⟩ m_Fu_bits k_Fu_66 ⟨Nat.le_of_ble_eq_true rfl, Nat.le_of_ble_eq_true rfl⟩ [0, 1, 2, 3] rfl 1 0 rfl rfl rfl rfl hl.1 rfl (Nat.le_of_ble_eq_true rfl) d_Fu_moveIf_82 hf0 (fun r_54 h => ?_)
              refine lv_iload_n hx hb d_Fu_moveIf_85 rfl (lv_at hl 4 rfl) ?_
              refine zz_Wi (As := [.int a0, .long r_54, .int a1]) (rest := []) (wc := wU qu qf ql qo cI cd fg L O) (wr := []) X hK hP hD hS hA (c_Fu_result l D cI qu qf ql qo cd fg L O a0 r_54 a1 _ h _) ⟨rfl, rfl⟩ m_Fu_result k_Fu_91 ⟨Nat.le_of_ble_eq_true rfl, Nat.le_of_ble_eq_true rfl⟩ [0, 1, 2, 3] [] rfl rfl (by decide) (by decide) (by decide) 1 0 rfl rfl rfl rfl hl.1 rfl (Nat.le_of_ble_eq_true rfl) d_Fu_moveIf_86 hf0 (fun r_56 u_55 H locs h hP hD hS => ?_)
              have hP : va_P D vwCl (wU qu qf ql qo cI u_55.1 u_55.2.1 u_55.2.2.1 u_55.2.2.2) H := hP.sub [0, 1, 2, 3] rfl
              have hD : va_D A (wU qu qf ql qo cI u_55.1 u_55.2.1 u_55.2.2.1 u_55.2.2.2) := hD.sub [0, 1, 2, 3] (by decide) rfl
              refine lv_goto (tgt := 93) hx hb d_Fu_moveIf_89 (by decide) ?_
              exact W.iret (v := r_56) hx hb hr (fun t ht hW => ⟨⟨r_56, (u_55.1, u_55.2.1, u_55.2.2.1, u_55.2.2.2), rfl, h, by rw [ht]; exact hP, hD⟩, hS.F ht⟩) hS.2.2 d_Fu_moveIf_93
          · exact absurd c_51 c_34
  · skip
    have h := h.2 c_4
    refine lv_bipush (v := 8) hx hb d_Fu_moveIf_16 (by decide) ?_
    exact W.iret (v := (8 : Int32)) hx hb hr (fun t ht hW => ⟨⟨(8 : Int32), (cd, fg, L, O), rfl, h, by rw [ht]; exact hP, hD⟩, hS.F ht⟩) hS.2.2 d_Fu_moveIf_18
def wp_Fu_convert (cd : Int32) (fg : Nat → Int32) (L : Int32 × Int32 × Int32 × Int64) (O : Int32 × Int32 × Int32 × Int64) (a0 : Int32) (a1 : Int32) (P : Int32 → (Int32 × (Nat → Int32) × (Int32 × Int32 × Int32 × Int64) × (Int32 × Int32 × Int32 × Int64)) → Prop) : Prop := wp_Fu_fs a0 (fun r_1 => wp_Fu_odd a1 r_1 (fun r_2 => ((r_2 = (0 : Int32) → ((a1 = (0 : Int32) → wp_Fu_fd a0 (fun r_17 => wp_Fu_odd (1 : Int32) r_17 (fun r_18 => ((r_18 = (0 : Int32) → wp_Fu_fs a0 (fun r_20 => wp_Fu_bits cd fg L O r_20 a1 (fun r_21 => wp_Fr_unpack L r_21 a1 (fun u_22 => wp_Fr_pack u_22 (1 : Int32) (fun r_25 => wp_Fu_result cd fg u_22 O a0 r_25 (1 : Int32) (fun r_28 u_27 => P r_28 (u_27.1, u_27.2.1, u_27.2.2.1, u_27.2.2.2))))))) ∧ (¬ r_18 = (0 : Int32) → P (8 : Int32) (cd, fg, L, O)))))) ∧ (¬ a1 = (0 : Int32) → wp_Fu_fd a0 (fun r_5 => wp_Fu_odd (0 : Int32) r_5 (fun r_6 => ((r_6 = (0 : Int32) → wp_Fu_fs a0 (fun r_8 => wp_Fu_bits cd fg L O r_8 a1 (fun r_9 => wp_Fr_unpack L r_9 a1 (fun u_10 => wp_Fr_pack u_10 (0 : Int32) (fun r_13 => wp_Fu_result cd fg u_10 O a0 r_13 (0 : Int32) (fun r_16 u_15 => P r_16 (u_15.1, u_15.2.1, u_15.2.2.1, u_15.2.2.2))))))) ∧ (¬ r_6 = (0 : Int32) → P (8 : Int32) (cd, fg, L, O)))))))) ∧ (¬ r_2 = (0 : Int32) → P (8 : Int32) (cd, fg, L, O)))))
abbrev rm_Fu_convert : Room := { frames := 3, cells := 0, slots := 0, locals := 77 }
set_option maxHeartbeats 4000000 in
set_option maxRecDepth 100000 in
theorem c_Fu_convert (l : Launch) (D : va_G) (cI : ClassId) (qu : Nat) (qf : Nat) (ql : Nat) (qo : Nat) (cd : Int32) (fg : Nat → Int32) (L : Int32 × Int32 × Int32 × Int64) (O : Int32 × Int32 × Int32 × Int64) (a0 : Int32) (a1 : Int32) (P : Int32 → (Int32 × (Nat → Int32) × (Int32 × Int32 × Int32 × Int64) × (Int32 × Int32 × Int32 × Int64)) → Prop) (h : wp_Fu_convert cd fg L O a0 a1 P) (sz : Nat) : Met l y_Fu_convert (zz_ws y_Fu_convert b_Fu_convert 3 (some .int)) rm_Fu_convert (va_Pc [.ref qu, .int a0, .int a1] (zz_pw D [(cI, .int)] (wU qu qf ql qo cI cd fg L O) sz)) (va_Qi P (zz_qw D (fun u => wU qu qf ql qo cI u.1 u.2.1 u.2.2.1 u.2.2.2) (va_A (wU qu qf ql qo cI cd fg L O) sz)) (va_A (wU qu qf ql qo cI cd fg L O) sz)) 0 0 (va_A (wU qu qf ql qo cI cd fg L O) sz) := by
  refine Met.ofW (cc := b_Fu_convert) (maxL := 3) (ret := (some .int)) (by decide) rfl ?_
  intro p e s m args below meth c s₁ B hml hv
  obtain ⟨rfl, hsz, hP, hK, hD0⟩ := hv
  have hx := B.exec
  have hb := B.bytes
  have hr := B.returns
  have hts := atoms_spec (ws := (zz_ws y_Fu_convert b_Fu_convert 3 (some .int))) B.pre
  have hown : s.vm.findClass R_Fu = some m.cls := findClass_of_methodNamed B.named
  have hlocks := B.notSynchronized
  have hT := zz_hts hts
  have X : CallFix p m c b_Fu_convert 3 s ([.ref qu, .int a0, .int a1] : List Value).toArray (zz_ws y_Fu_convert b_Fu_convert 3 (some .int)) R_Fu := ⟨hx, hb, hml, hown, hts⟩
  have hf0 : 0 + 0 ≤ (headSpec (zz_ws y_Fu_convert b_Fu_convert 3 (some .int)) rm_Fu_convert).room.cells ∧ 0 + 0 ≤ (headSpec (zz_ws y_Fu_convert b_Fu_convert 3 (some .int)) rm_Fu_convert).room.slots := ⟨Nat.le_of_ble_eq_true rfl, Nat.le_of_ble_eq_true rfl⟩
  subst hsz
  have hD := hD0.self (sz := s.heap.size)
  generalize hAe : va_A (wU qu qf ql qo cI cd fg L O) s.heap.size = A at hD ⊢
  have hA : ∀ q : Nat, s.heap.size ≤ q → A q := fun q h => by rw [← hAe]; exact Or.inr h
  have hS : va_S A s.heap s.heap [] := va_S.rf
  have hl := lv_entry ([.ref qu, .int a0, .int a1]) (n := 3) (Nat.le_of_ble_eq_true rfl)
  rw [lg_entry_eq]
  generalize (lg_sl ([.ref qu, .int a0, .int a1]) ++ List.replicate (3 - (lg_sl ([.ref qu, .int a0, .int a1])).length) Slot.unset).toArray = ls at hl ⊢
  have hl : lv_has ls 3 [(0, .ref qu), (1, .int a0), (2, .int a1)] := hl
  refine lv_iload_n hx hb d_Fu_convert_0 rfl (lv_at hl 2 rfl) ?_
  refine lv_iload_n hx hb d_Fu_convert_1 rfl (lv_at hl 1 rfl) ?_
  refine zz_Si (As := [.int a0]) (rest := [.int a1]) X (c_Fu_fs l a0 _ h) ⟨rfl, rfl⟩ m_Fu_fs k_Fu_53 ⟨Nat.le_of_ble_eq_true rfl, Nat.le_of_ble_eq_true rfl⟩ rfl hl.1 rfl (Nat.le_of_ble_eq_true rfl) d_Fu_convert_2 hf0 (fun r_1 h => ?_)
  refine zz_Si (As := [.int a1, .int r_1]) (rest := []) X (c_Fu_odd l a1 r_1 _ h) ⟨rfl, rfl⟩ m_Fu_odd k_Fu_62 ⟨Nat.le_of_ble_eq_true rfl, Nat.le_of_ble_eq_true rfl⟩ rfl hl.1 rfl (Nat.le_of_ble_eq_true rfl) d_Fu_convert_5 hf0 (fun r_2 h => ?_)
  refine lv_if_ne (tgt := 30) hx hb d_Fu_convert_8 (by decide) (fun c_3 => ?_) (fun c_3 => ?_)
  · skip
    have h := h.2 c_3
    refine lv_bipush (v := 8) hx hb d_Fu_convert_30 (by decide) ?_
    exact W.iret (v := (8 : Int32)) hx hb hr (fun t ht hW => ⟨⟨(8 : Int32), (cd, fg, L, O), rfl, h, by rw [ht]; exact hP, hD⟩, hS.F ht⟩) hS.2.2 d_Fu_convert_32
  · skip
    have h := h.1 c_3
    refine lv_iload_n hx hb d_Fu_convert_11 rfl (lv_at hl 2 rfl) ?_
    refine lv_if_ne (tgt := 19) hx hb d_Fu_convert_12 (by decide) (fun c_4 => ?_) (fun c_4 => ?_)
    · skip
      have h := h.2 c_4
      refine lv_iconst (v := 0) hx hb d_Fu_convert_19 (by decide) ?_
      refine lv_iload_n hx hb d_Fu_convert_20 rfl (lv_at hl 1 rfl) ?_
      refine zz_Si (As := [.int a0]) (rest := [.int (0 : Int32)]) X (c_Fu_fd l a0 _ h) ⟨rfl, rfl⟩ m_Fu_fd k_Fu_59 ⟨Nat.le_of_ble_eq_true rfl, Nat.le_of_ble_eq_true rfl⟩ rfl hl.1 rfl (Nat.le_of_ble_eq_true rfl) d_Fu_convert_21 hf0 (fun r_5 h => ?_)
      refine zz_Si (As := [.int (0 : Int32), .int r_5]) (rest := []) X (c_Fu_odd l (0 : Int32) r_5 _ h) ⟨rfl, rfl⟩ m_Fu_odd k_Fu_62 ⟨Nat.le_of_ble_eq_true rfl, Nat.le_of_ble_eq_true rfl⟩ rfl hl.1 rfl (Nat.le_of_ble_eq_true rfl) d_Fu_convert_24 hf0 (fun r_6 h => ?_)
      refine lv_if_eq (tgt := 33) hx hb d_Fu_convert_27 (by decide) (fun c_7 => ?_) (fun c_7 => ?_)
      · skip
        have h := h.1 c_7
        refine lv_aload_n hx hb d_Fu_convert_33 rfl (lv_at hl 0 rfl) ?_
        refine g_Fu_18 (v := .ref ql) hx hb hT hown hK hP 0 rfl rfl d_Fu_convert_34 ?_
        refine lv_aload_n hx hb d_Fu_convert_37 rfl (lv_at hl 0 rfl) ?_
        refine lv_iload_n hx hb d_Fu_convert_38 rfl (lv_at hl 1 rfl) ?_
        refine zz_Si (As := [.int a0]) (rest := [.ref qu, .ref ql]) X (c_Fu_fs l a0 _ h) ⟨rfl, rfl⟩ m_Fu_fs k_Fu_53 ⟨Nat.le_of_ble_eq_true rfl, Nat.le_of_ble_eq_true rfl⟩ rfl hl.1 rfl (Nat.le_of_ble_eq_true rfl) d_Fu_convert_39 hf0 (fun r_8 h => ?_)
        refine lv_iload_n hx hb d_Fu_convert_42 rfl (lv_at hl 2 rfl) ?_
        refine zz_Rl (As := [.int r_8, .int a1]) (rest := [.ref ql]) (wc := wU qu qf ql qo cI cd fg L O) X hK hP (c_Fu_bits l D cI qu qf ql qo cd fg L O r_8 a1 _ h) ⟨rfl, rfl⟩ m_Fu_bits k_Fu_66 ⟨Nat.le_of_ble_eq_true rfl, Nat.le_of_ble_eq_true rfl⟩ [0, 1, 2, 3] rfl 1 0 rfl rfl rfl rfl hl.1 rfl (Nat.le_of_ble_eq_true rfl) d_Fu_convert_43 hf0 (fun r_9 h => ?_)
        refine lv_iload_n hx hb d_Fu_convert_46 rfl (lv_at hl 2 rfl) ?_
        refine zz_Wv (As := [.long r_9, .int a1]) (rest := []) (wc := wF1 ql L) (wr := [(qu, .inr (1, [.ref qf, .int cd, .ref ql, .ref qo])), (qf, .inl (cI, 32, .inl fg)), (qo, .inr (0, [.int O.1, .int O.2.1, .int O.2.2.1, .long O.2.2.2]))]) X hK hP hD hS hA (c_Fr_unpack l D cI ql L r_9 a1 _ h _) ⟨rfl, rfl⟩ m_Fr_unpack k_Fu_70 ⟨Nat.le_of_ble_eq_true rfl, Nat.le_of_ble_eq_true rfl⟩ [2] [0, 1, 3] rfl rfl (by decide) (by decide) (by decide) 0 2 rfl rfl rfl rfl hl.1 rfl (Nat.le_of_ble_eq_true rfl) d_Fu_convert_47 hf0 (fun u_10 H locs h hP hD hS => ?_)
        have hP : va_P D vwCl (wU qu qf ql qo cI cd fg u_10 O) H := hP.sub [0, 1, 3, 2] rfl
        have hD : va_D A (wU qu qf ql qo cI cd fg u_10 O) := hD.sub [0, 1, 3, 2] (by decide) rfl
        refine lv_aload_n hx hb d_Fu_convert_50 rfl (lv_at hl 0 rfl) ?_
        refine lv_iload_n hx hb d_Fu_convert_51 rfl (lv_at hl 1 rfl) ?_
        refine lv_aload_n hx hb d_Fu_convert_52 rfl (lv_at hl 0 rfl) ?_
        refine g_Fu_18 (v := .ref ql) hx hb hT hown hK hP 0 rfl rfl d_Fu_convert_53 ?_
        refine lv_iload_n hx hb d_Fu_convert_56 rfl (lv_at hl 2 rfl) ?_
        refine lv_if_ne (tgt := 64) hx hb d_Fu_convert_57 (by decide) (fun c_12 => ?_) (fun c_12 => ?_)
        · skip
          refine lv_iconst (v := 0) hx hb d_Fu_convert_64 (by decide) ?_
          refine zz_Rl (As := [.int (0 : Int32)]) (rest := [.int a0, .ref qu]) (wc := wF1 ql u_10) X hK hP (c_Fr_pack l D cI ql u_10 (0 : Int32) _ h) ⟨rfl, rfl⟩ m_Fr_pack k_Fu_87 ⟨Nat.le_of_ble_eq_true rfl, Nat.le_of_ble_eq_true rfl⟩ [2] rfl 0 2 rfl rfl rfl rfl hl.1 rfl (Nat.le_of_ble_eq_true rfl) d_Fu_convert_65 hf0 (fun r_13 h => ?_)
          refine lv_iload_n hx hb d_Fu_convert_68 rfl (lv_at hl 2 rfl) ?_
          refine lv_if_ne (tgt := 76) hx hb d_Fu_convert_69 (by decide) (fun c_14 => ?_) (fun c_14 => ?_)
          · skip
            refine lv_iconst (v := 0) hx hb d_Fu_convert_76 (by decide) ?_
            refine zz_Wi (As := [.int a0, .long r_13, .int (0 : Int32)]) (rest := []) (wc := wU qu qf ql qo cI cd fg u_10 O) (wr := []) X hK hP hD hS hA (c_Fu_result l D cI qu qf ql qo cd fg u_10 O a0 r_13 (0 : Int32) _ h _) ⟨rfl, rfl⟩ m_Fu_result k_Fu_91 ⟨Nat.le_of_ble_eq_true rfl, Nat.le_of_ble_eq_true rfl⟩ [0, 1, 2, 3] [] rfl rfl (by decide) (by decide) (by decide) 1 0 rfl rfl rfl rfl hl.1 rfl (Nat.le_of_ble_eq_true rfl) d_Fu_convert_77 hf0 (fun r_16 u_15 H locs h hP hD hS => ?_)
            have hP : va_P D vwCl (wU qu qf ql qo cI u_15.1 u_15.2.1 u_15.2.2.1 u_15.2.2.2) H := hP.sub [0, 1, 2, 3] rfl
            have hD : va_D A (wU qu qf ql qo cI u_15.1 u_15.2.1 u_15.2.2.1 u_15.2.2.2) := hD.sub [0, 1, 2, 3] (by decide) rfl
            exact W.iret (v := r_16) hx hb hr (fun t ht hW => ⟨⟨r_16, (u_15.1, u_15.2.1, u_15.2.2.1, u_15.2.2.2), rfl, h, by rw [ht]; exact hP, hD⟩, hS.F ht⟩) hS.2.2 d_Fu_convert_80
          · exact absurd c_14 c_4
        · exact absurd c_12 c_4
      · skip
        have h := h.2 c_7
        refine lv_bipush (v := 8) hx hb d_Fu_convert_30 (by decide) ?_
        exact W.iret (v := (8 : Int32)) hx hb hr (fun t ht hW => ⟨⟨(8 : Int32), (cd, fg, L, O), rfl, h, by rw [ht]; exact hP, hD⟩, hS.F ht⟩) hS.2.2 d_Fu_convert_32
    · skip
      have h := h.1 c_4
      refine lv_iconst (v := 1) hx hb d_Fu_convert_15 (by decide) ?_
      refine lv_goto (tgt := 20) hx hb d_Fu_convert_16 (by decide) ?_
      refine lv_iload_n hx hb d_Fu_convert_20 rfl (lv_at hl 1 rfl) ?_
      refine zz_Si (As := [.int a0]) (rest := [.int (1 : Int32)]) X (c_Fu_fd l a0 _ h) ⟨rfl, rfl⟩ m_Fu_fd k_Fu_59 ⟨Nat.le_of_ble_eq_true rfl, Nat.le_of_ble_eq_true rfl⟩ rfl hl.1 rfl (Nat.le_of_ble_eq_true rfl) d_Fu_convert_21 hf0 (fun r_17 h => ?_)
      refine zz_Si (As := [.int (1 : Int32), .int r_17]) (rest := []) X (c_Fu_odd l (1 : Int32) r_17 _ h) ⟨rfl, rfl⟩ m_Fu_odd k_Fu_62 ⟨Nat.le_of_ble_eq_true rfl, Nat.le_of_ble_eq_true rfl⟩ rfl hl.1 rfl (Nat.le_of_ble_eq_true rfl) d_Fu_convert_24 hf0 (fun r_18 h => ?_)
      refine lv_if_eq (tgt := 33) hx hb d_Fu_convert_27 (by decide) (fun c_19 => ?_) (fun c_19 => ?_)
      · skip
        have h := h.1 c_19
        refine lv_aload_n hx hb d_Fu_convert_33 rfl (lv_at hl 0 rfl) ?_
        refine g_Fu_18 (v := .ref ql) hx hb hT hown hK hP 0 rfl rfl d_Fu_convert_34 ?_
        refine lv_aload_n hx hb d_Fu_convert_37 rfl (lv_at hl 0 rfl) ?_
        refine lv_iload_n hx hb d_Fu_convert_38 rfl (lv_at hl 1 rfl) ?_
        refine zz_Si (As := [.int a0]) (rest := [.ref qu, .ref ql]) X (c_Fu_fs l a0 _ h) ⟨rfl, rfl⟩ m_Fu_fs k_Fu_53 ⟨Nat.le_of_ble_eq_true rfl, Nat.le_of_ble_eq_true rfl⟩ rfl hl.1 rfl (Nat.le_of_ble_eq_true rfl) d_Fu_convert_39 hf0 (fun r_20 h => ?_)
        refine lv_iload_n hx hb d_Fu_convert_42 rfl (lv_at hl 2 rfl) ?_
        refine zz_Rl (As := [.int r_20, .int a1]) (rest := [.ref ql]) (wc := wU qu qf ql qo cI cd fg L O) X hK hP (c_Fu_bits l D cI qu qf ql qo cd fg L O r_20 a1 _ h) ⟨rfl, rfl⟩ m_Fu_bits k_Fu_66 ⟨Nat.le_of_ble_eq_true rfl, Nat.le_of_ble_eq_true rfl⟩ [0, 1, 2, 3] rfl 1 0 rfl rfl rfl rfl hl.1 rfl (Nat.le_of_ble_eq_true rfl) d_Fu_convert_43 hf0 (fun r_21 h => ?_)
        refine lv_iload_n hx hb d_Fu_convert_46 rfl (lv_at hl 2 rfl) ?_
        refine zz_Wv (As := [.long r_21, .int a1]) (rest := []) (wc := wF1 ql L) (wr := [(qu, .inr (1, [.ref qf, .int cd, .ref ql, .ref qo])), (qf, .inl (cI, 32, .inl fg)), (qo, .inr (0, [.int O.1, .int O.2.1, .int O.2.2.1, .long O.2.2.2]))]) X hK hP hD hS hA (c_Fr_unpack l D cI ql L r_21 a1 _ h _) ⟨rfl, rfl⟩ m_Fr_unpack k_Fu_70 ⟨Nat.le_of_ble_eq_true rfl, Nat.le_of_ble_eq_true rfl⟩ [2] [0, 1, 3] rfl rfl (by decide) (by decide) (by decide) 0 2 rfl rfl rfl rfl hl.1 rfl (Nat.le_of_ble_eq_true rfl) d_Fu_convert_47 hf0 (fun u_22 H locs h hP hD hS => ?_)
        have hP : va_P D vwCl (wU qu qf ql qo cI cd fg u_22 O) H := hP.sub [0, 1, 3, 2] rfl
        have hD : va_D A (wU qu qf ql qo cI cd fg u_22 O) := hD.sub [0, 1, 3, 2] (by decide) rfl
        refine lv_aload_n hx hb d_Fu_convert_50 rfl (lv_at hl 0 rfl) ?_
        refine lv_iload_n hx hb d_Fu_convert_51 rfl (lv_at hl 1 rfl) ?_
        refine lv_aload_n hx hb d_Fu_convert_52 rfl (lv_at hl 0 rfl) ?_
        refine g_Fu_18 (v := .ref ql) hx hb hT hown hK hP 0 rfl rfl d_Fu_convert_53 ?_
        refine lv_iload_n hx hb d_Fu_convert_56 rfl (lv_at hl 2 rfl) ?_
        refine lv_if_ne (tgt := 64) hx hb d_Fu_convert_57 (by decide) (fun c_24 => ?_) (fun c_24 => ?_)
        · exact absurd c_4 c_24
        · skip
          refine lv_iconst (v := 1) hx hb d_Fu_convert_60 (by decide) ?_
          refine lv_goto (tgt := 65) hx hb d_Fu_convert_61 (by decide) ?_
          refine zz_Rl (As := [.int (1 : Int32)]) (rest := [.int a0, .ref qu]) (wc := wF1 ql u_22) X hK hP (c_Fr_pack l D cI ql u_22 (1 : Int32) _ h) ⟨rfl, rfl⟩ m_Fr_pack k_Fu_87 ⟨Nat.le_of_ble_eq_true rfl, Nat.le_of_ble_eq_true rfl⟩ [2] rfl 0 2 rfl rfl rfl rfl hl.1 rfl (Nat.le_of_ble_eq_true rfl) d_Fu_convert_65 hf0 (fun r_25 h => ?_)
          refine lv_iload_n hx hb d_Fu_convert_68 rfl (lv_at hl 2 rfl) ?_
          refine lv_if_ne (tgt := 76) hx hb d_Fu_convert_69 (by decide) (fun c_26 => ?_) (fun c_26 => ?_)
          · exact absurd c_4 c_26
          · skip
            refine lv_iconst (v := 1) hx hb d_Fu_convert_72 (by decide) ?_
            refine lv_goto (tgt := 77) hx hb d_Fu_convert_73 (by decide) ?_
            refine zz_Wi (As := [.int a0, .long r_25, .int (1 : Int32)]) (rest := []) (wc := wU qu qf ql qo cI cd fg u_22 O) (wr := []) X hK hP hD hS hA (c_Fu_result l D cI qu qf ql qo cd fg u_22 O a0 r_25 (1 : Int32) _ h _) ⟨rfl, rfl⟩ m_Fu_result k_Fu_91 ⟨Nat.le_of_ble_eq_true rfl, Nat.le_of_ble_eq_true rfl⟩ [0, 1, 2, 3] [] rfl rfl (by decide) (by decide) (by decide) 1 0 rfl rfl rfl rfl hl.1 rfl (Nat.le_of_ble_eq_true rfl) d_Fu_convert_77 hf0 (fun r_28 u_27 H locs h hP hD hS => ?_)
            have hP : va_P D vwCl (wU qu qf ql qo cI u_27.1 u_27.2.1 u_27.2.2.1 u_27.2.2.2) H := hP.sub [0, 1, 2, 3] rfl
            have hD : va_D A (wU qu qf ql qo cI u_27.1 u_27.2.1 u_27.2.2.1 u_27.2.2.2) := hD.sub [0, 1, 2, 3] (by decide) rfl
            exact W.iret (v := r_28) hx hb hr (fun t ht hW => ⟨⟨r_28, (u_27.1, u_27.2.1, u_27.2.2.1, u_27.2.2.2), rfl, h, by rw [ht]; exact hP, hD⟩, hS.F ht⟩) hS.2.2 d_Fu_convert_80
      · skip
        have h := h.2 c_19
        refine lv_bipush (v := 8) hx hb d_Fu_convert_30 (by decide) ?_
        exact W.iret (v := (8 : Int32)) hx hb hr (fun t ht hW => ⟨⟨(8 : Int32), (cd, fg, L, O), rfl, h, by rw [ht]; exact hP, hD⟩, hS.F ht⟩) hS.2.2 d_Fu_convert_32
def wp_Fu_perform (cd : Int32) (fg : Nat → Int32) (L : Int32 × Int32 × Int32 × Int64) (O : Int32 × Int32 × Int32 × Int64) (a0 : Int32) (a1 : Int32) (P : Int32 → (Int32 × (Nat → Int32) × (Int32 × Int32 × Int32 × Int64) × (Int32 × Int32 × Int32 × Int64)) → Prop) : Prop := ∀ x_1 : Int32, x_1 = ((zz_ushr a0 (21 : Int32)) &&& (31 : Int32)) → ((x_1 = (20 : Int32) → wp_Fu_convertFromWord cd fg L O a0 (fun r_140 u_139 => P r_140 (u_139.1, u_139.2.1, u_139.2.2.1, u_139.2.2.2))) ∧ (¬ x_1 = (20 : Int32) → ((x_1 = (16 : Int32) → ((x_1 = (17 : Int32) → ∀ x_49 : Int32, x_49 = (a0 &&& (63 : Int32)) → (((3 : Int32) < x_49 → (((7 : Int32) < x_49 → ((x_49 < (48 : Int32) → ((x_49 < (12 : Int32) → ((x_49 = (36 : Int32) → wp_Fu_convertToWord cd fg L O a0 (1 : Int32) (fun r_68 u_67 => P r_68 (u_67.1, u_67.2.1, u_67.2.2.1, u_67.2.2.2))) ∧ (¬ x_49 = (36 : Int32) → ((x_49 < (17 : Int32) → ((x_49 = (32 : Int32) → wp_Fu_convert cd fg L O a0 (1 : Int32) (fun r_59 u_58 => P r_59 (u_58.1, u_58.2.1, u_58.2.2.1, u_58.2.2.2))) ∧ (¬ x_49 = (32 : Int32) → P (3 : Int32) (cd, fg, L, O)))) ∧ (¬ x_49 < (17 : Int32) → (((19 : Int32) < x_49 → ((x_49 = (32 : Int32) → wp_Fu_convert cd fg L O a0 (1 : Int32) (fun r_64 u_63 => P r_64 (u_63.1, u_63.2.1, u_63.2.2.1, u_63.2.2.2))) ∧ (¬ x_49 = (32 : Int32) → P (3 : Int32) (cd, fg, L, O)))) ∧ (¬ (19 : Int32) < x_49 → wp_Fu_moveIf cd fg L O a0 (1 : Int32) a1 (fun r_66 u_65 => P r_66 (u_65.1, u_65.2.1, u_65.2.2.1, u_65.2.2.2))))))))) ∧ (¬ x_49 < (12 : Int32) → ((x_49 ≤ (15 : Int32) → wp_Fu_convertToWord cd fg L O a0 (1 : Int32) (fun r_71 u_70 => P r_71 (u_70.1, u_70.2.1, u_70.2.2.1, u_70.2.2.2))) ∧ (¬ x_49 ≤ (15 : Int32) → ((x_49 = (36 : Int32) → wp_Fu_convertToWord cd fg L O a0 (1 : Int32) (fun r_86 u_85 => P r_86 (u_85.1, u_85.2.1, u_85.2.2.1, u_85.2.2.2))) ∧ (¬ x_49 = (36 : Int32) → ((x_49 < (17 : Int32) → ((x_49 = (32 : Int32) → wp_Fu_convert cd fg L O a0 (1 : Int32) (fun r_77 u_76 => P r_77 (u_76.1, u_76.2.1, u_76.2.2.1, u_76.2.2.2))) ∧ (¬ x_49 = (32 : Int32) → P (3 : Int32) (cd, fg, L, O)))) ∧ (¬ x_49 < (17 : Int32) → (((19 : Int32) < x_49 → ((x_49 = (32 : Int32) → wp_Fu_convert cd fg L O a0 (1 : Int32) (fun r_82 u_81 => P r_82 (u_81.1, u_81.2.1, u_81.2.2.1, u_81.2.2.2))) ∧ (¬ x_49 = (32 : Int32) → P (3 : Int32) (cd, fg, L, O)))) ∧ (¬ (19 : Int32) < x_49 → wp_Fu_moveIf cd fg L O a0 (1 : Int32) a1 (fun r_84 u_83 => P r_84 (u_83.1, u_83.2.1, u_83.2.2.1, u_83.2.2.2))))))))))))) ∧ (¬ x_49 < (48 : Int32) → wp_Fu_compare cd fg L O a0 (1 : Int32) (fun r_88 u_87 => P r_88 (u_87.1, u_87.2.1, u_87.2.2.1, u_87.2.2.2))))) ∧ (¬ (7 : Int32) < x_49 → wp_Fu_change cd fg L O a0 (1 : Int32) (fun r_90 u_89 => P r_90 (u_89.1, u_89.2.1, u_89.2.2.1, u_89.2.2.2))))) ∧ (¬ (3 : Int32) < x_49 → wp_Fu_compute cd fg L O a0 (1 : Int32) (fun r_92 u_91 => P r_92 (u_91.1, u_91.2.1, u_91.2.2.1, u_91.2.2.2))))) ∧ (¬ x_1 = (17 : Int32) → ∀ x_5 : Int32, x_5 = (a0 &&& (63 : Int32)) → (((3 : Int32) < x_5 → (((7 : Int32) < x_5 → ((x_5 < (48 : Int32) → ((x_5 < (12 : Int32) → ((x_5 = (36 : Int32) → wp_Fu_convertToWord cd fg L O a0 (0 : Int32) (fun r_24 u_23 => P r_24 (u_23.1, u_23.2.1, u_23.2.2.1, u_23.2.2.2))) ∧ (¬ x_5 = (36 : Int32) → ((x_5 < (17 : Int32) → ((x_5 = (33 : Int32) → wp_Fu_convert cd fg L O a0 (0 : Int32) (fun r_15 u_14 => P r_15 (u_14.1, u_14.2.1, u_14.2.2.1, u_14.2.2.2))) ∧ (¬ x_5 = (33 : Int32) → P (3 : Int32) (cd, fg, L, O)))) ∧ (¬ x_5 < (17 : Int32) → (((19 : Int32) < x_5 → ((x_5 = (33 : Int32) → wp_Fu_convert cd fg L O a0 (0 : Int32) (fun r_20 u_19 => P r_20 (u_19.1, u_19.2.1, u_19.2.2.1, u_19.2.2.2))) ∧ (¬ x_5 = (33 : Int32) → P (3 : Int32) (cd, fg, L, O)))) ∧ (¬ (19 : Int32) < x_5 → wp_Fu_moveIf cd fg L O a0 (0 : Int32) a1 (fun r_22 u_21 => P r_22 (u_21.1, u_21.2.1, u_21.2.2.1, u_21.2.2.2))))))))) ∧ (¬ x_5 < (12 : Int32) → ((x_5 ≤ (15 : Int32) → wp_Fu_convertToWord cd fg L O a0 (0 : Int32) (fun r_27 u_26 => P r_27 (u_26.1, u_26.2.1, u_26.2.2.1, u_26.2.2.2))) ∧ (¬ x_5 ≤ (15 : Int32) → ((x_5 = (36 : Int32) → wp_Fu_convertToWord cd fg L O a0 (0 : Int32) (fun r_42 u_41 => P r_42 (u_41.1, u_41.2.1, u_41.2.2.1, u_41.2.2.2))) ∧ (¬ x_5 = (36 : Int32) → ((x_5 < (17 : Int32) → ((x_5 = (33 : Int32) → wp_Fu_convert cd fg L O a0 (0 : Int32) (fun r_33 u_32 => P r_33 (u_32.1, u_32.2.1, u_32.2.2.1, u_32.2.2.2))) ∧ (¬ x_5 = (33 : Int32) → P (3 : Int32) (cd, fg, L, O)))) ∧ (¬ x_5 < (17 : Int32) → (((19 : Int32) < x_5 → ((x_5 = (33 : Int32) → wp_Fu_convert cd fg L O a0 (0 : Int32) (fun r_38 u_37 => P r_38 (u_37.1, u_37.2.1, u_37.2.2.1, u_37.2.2.2))) ∧ (¬ x_5 = (33 : Int32) → P (3 : Int32) (cd, fg, L, O)))) ∧ (¬ (19 : Int32) < x_5 → wp_Fu_moveIf cd fg L O a0 (0 : Int32) a1 (fun r_40 u_39 => P r_40 (u_39.1, u_39.2.1, u_39.2.2.1, u_39.2.2.2))))))))))))) ∧ (¬ x_5 < (48 : Int32) → wp_Fu_compare cd fg L O a0 (0 : Int32) (fun r_44 u_43 => P r_44 (u_43.1, u_43.2.1, u_43.2.2.1, u_43.2.2.2))))) ∧ (¬ (7 : Int32) < x_5 → wp_Fu_change cd fg L O a0 (0 : Int32) (fun r_46 u_45 => P r_46 (u_45.1, u_45.2.1, u_45.2.2.1, u_45.2.2.2))))) ∧ (¬ (3 : Int32) < x_5 → wp_Fu_compute cd fg L O a0 (0 : Int32) (fun r_48 u_47 => P r_48 (u_47.1, u_47.2.1, u_47.2.2.1, u_47.2.2.2))))))) ∧ (¬ x_1 = (16 : Int32) → ((x_1 = (17 : Int32) → ∀ x_95 : Int32, x_95 = (a0 &&& (63 : Int32)) → (((3 : Int32) < x_95 → (((7 : Int32) < x_95 → ((x_95 < (48 : Int32) → ((x_95 < (12 : Int32) → ((x_95 = (36 : Int32) → wp_Fu_convertToWord cd fg L O a0 (1 : Int32) (fun r_114 u_113 => P r_114 (u_113.1, u_113.2.1, u_113.2.2.1, u_113.2.2.2))) ∧ (¬ x_95 = (36 : Int32) → ((x_95 < (17 : Int32) → ((x_95 = (32 : Int32) → wp_Fu_convert cd fg L O a0 (1 : Int32) (fun r_105 u_104 => P r_105 (u_104.1, u_104.2.1, u_104.2.2.1, u_104.2.2.2))) ∧ (¬ x_95 = (32 : Int32) → P (3 : Int32) (cd, fg, L, O)))) ∧ (¬ x_95 < (17 : Int32) → (((19 : Int32) < x_95 → ((x_95 = (32 : Int32) → wp_Fu_convert cd fg L O a0 (1 : Int32) (fun r_110 u_109 => P r_110 (u_109.1, u_109.2.1, u_109.2.2.1, u_109.2.2.2))) ∧ (¬ x_95 = (32 : Int32) → P (3 : Int32) (cd, fg, L, O)))) ∧ (¬ (19 : Int32) < x_95 → wp_Fu_moveIf cd fg L O a0 (1 : Int32) a1 (fun r_112 u_111 => P r_112 (u_111.1, u_111.2.1, u_111.2.2.1, u_111.2.2.2))))))))) ∧ (¬ x_95 < (12 : Int32) → ((x_95 ≤ (15 : Int32) → wp_Fu_convertToWord cd fg L O a0 (1 : Int32) (fun r_117 u_116 => P r_117 (u_116.1, u_116.2.1, u_116.2.2.1, u_116.2.2.2))) ∧ (¬ x_95 ≤ (15 : Int32) → ((x_95 = (36 : Int32) → wp_Fu_convertToWord cd fg L O a0 (1 : Int32) (fun r_132 u_131 => P r_132 (u_131.1, u_131.2.1, u_131.2.2.1, u_131.2.2.2))) ∧ (¬ x_95 = (36 : Int32) → ((x_95 < (17 : Int32) → ((x_95 = (32 : Int32) → wp_Fu_convert cd fg L O a0 (1 : Int32) (fun r_123 u_122 => P r_123 (u_122.1, u_122.2.1, u_122.2.2.1, u_122.2.2.2))) ∧ (¬ x_95 = (32 : Int32) → P (3 : Int32) (cd, fg, L, O)))) ∧ (¬ x_95 < (17 : Int32) → (((19 : Int32) < x_95 → ((x_95 = (32 : Int32) → wp_Fu_convert cd fg L O a0 (1 : Int32) (fun r_128 u_127 => P r_128 (u_127.1, u_127.2.1, u_127.2.2.1, u_127.2.2.2))) ∧ (¬ x_95 = (32 : Int32) → P (3 : Int32) (cd, fg, L, O)))) ∧ (¬ (19 : Int32) < x_95 → wp_Fu_moveIf cd fg L O a0 (1 : Int32) a1 (fun r_130 u_129 => P r_130 (u_129.1, u_129.2.1, u_129.2.2.1, u_129.2.2.2))))))))))))) ∧ (¬ x_95 < (48 : Int32) → wp_Fu_compare cd fg L O a0 (1 : Int32) (fun r_134 u_133 => P r_134 (u_133.1, u_133.2.1, u_133.2.2.1, u_133.2.2.2))))) ∧ (¬ (7 : Int32) < x_95 → wp_Fu_change cd fg L O a0 (1 : Int32) (fun r_136 u_135 => P r_136 (u_135.1, u_135.2.1, u_135.2.2.1, u_135.2.2.2))))) ∧ (¬ (3 : Int32) < x_95 → wp_Fu_compute cd fg L O a0 (1 : Int32) (fun r_138 u_137 => P r_138 (u_137.1, u_137.2.1, u_137.2.2.1, u_137.2.2.2))))) ∧ (¬ x_1 = (17 : Int32) → P (3 : Int32) (cd, fg, L, O)))))))
abbrev rm_Fu_perform : Room := { frames := 4, cells := 0, slots := 0, locals := 108 }
set_option maxHeartbeats 4000000 in
set_option maxRecDepth 100000 in
theorem c_Fu_perform (l : Launch) (D : va_G) (cI : ClassId) (qu : Nat) (qf : Nat) (ql : Nat) (qo : Nat) (cd : Int32) (fg : Nat → Int32) (L : Int32 × Int32 × Int32 × Int64) (O : Int32 × Int32 × Int32 × Int64) (a0 : Int32) (a1 : Int32) (P : Int32 → (Int32 × (Nat → Int32) × (Int32 × Int32 × Int32 × Int64) × (Int32 × Int32 × Int32 × Int64)) → Prop) (h : wp_Fu_perform cd fg L O a0 a1 P) (sz : Nat) : Met l y_Fu_perform (zz_ws y_Fu_perform b_Fu_perform 6 (some .int)) rm_Fu_perform (va_Pc [.ref qu, .int a0, .int a1] (zz_pw D [(cI, .int)] (wU qu qf ql qo cI cd fg L O) sz)) (va_Qi P (zz_qw D (fun u => wU qu qf ql qo cI u.1 u.2.1 u.2.2.1 u.2.2.2) (va_A (wU qu qf ql qo cI cd fg L O) sz)) (va_A (wU qu qf ql qo cI cd fg L O) sz)) 0 0 (va_A (wU qu qf ql qo cI cd fg L O) sz) := by
  refine Met.ofW (cc := b_Fu_perform) (maxL := 6) (ret := (some .int)) (by decide) rfl ?_
  intro p e s m args below meth c s₁ B hml hv
  obtain ⟨rfl, hsz, hP, hK, hD0⟩ := hv
  have hx := B.exec
  have hb := B.bytes
  have hr := B.returns
  have hts := atoms_spec (ws := (zz_ws y_Fu_perform b_Fu_perform 6 (some .int))) B.pre
  have hown : s.vm.findClass R_Fu = some m.cls := findClass_of_methodNamed B.named
  have hlocks := B.notSynchronized
  have hT := zz_hts hts
  have X : CallFix p m c b_Fu_perform 6 s ([.ref qu, .int a0, .int a1] : List Value).toArray (zz_ws y_Fu_perform b_Fu_perform 6 (some .int)) R_Fu := ⟨hx, hb, hml, hown, hts⟩
  have hf0 : 0 + 0 ≤ (headSpec (zz_ws y_Fu_perform b_Fu_perform 6 (some .int)) rm_Fu_perform).room.cells ∧ 0 + 0 ≤ (headSpec (zz_ws y_Fu_perform b_Fu_perform 6 (some .int)) rm_Fu_perform).room.slots := ⟨Nat.le_of_ble_eq_true rfl, Nat.le_of_ble_eq_true rfl⟩
  subst hsz
  have hD := hD0.self (sz := s.heap.size)
  generalize hAe : va_A (wU qu qf ql qo cI cd fg L O) s.heap.size = A at hD ⊢
  have hA : ∀ q : Nat, s.heap.size ≤ q → A q := fun q h => by rw [← hAe]; exact Or.inr h
  have hS : va_S A s.heap s.heap [] := va_S.rf
  have hl := lv_entry ([.ref qu, .int a0, .int a1]) (n := 6) (Nat.le_of_ble_eq_true rfl)
  rw [lg_entry_eq]
  generalize (lg_sl ([.ref qu, .int a0, .int a1]) ++ List.replicate (6 - (lg_sl ([.ref qu, .int a0, .int a1])).length) Slot.unset).toArray = ls at hl ⊢
  have hl : lv_has ls 6 [(0, .ref qu), (1, .int a0), (2, .int a1)] := hl
  refine lv_iload_n hx hb d_Fu_perform_0 rfl (lv_at hl 1 rfl) ?_
  refine lv_bipush (v := 21) hx hb d_Fu_perform_1 (by decide) ?_
  refine zz_iushr hx hb d_Fu_perform_3 ?_
  refine lv_bipush (v := 31) hx hb d_Fu_perform_4 (by decide) ?_
  refine lv_iand hx hb d_Fu_perform_6 ?_
  refine lv_topi (fun x_1 ex_1 => ?_)
  have h := h x_1 ex_1
  refine lv_istore_n (lv' := [(3, .int x_1), (0, .ref qu), (1, .int a0), (2, .int a1)]) hx hb d_Fu_perform_7 rfl hl (by decide) rfl (fun ls hl => ?_)
  refine lv_iload_n hx hb d_Fu_perform_8 rfl (lv_at hl 0 rfl) ?_
  refine lv_bipush (v := 20) hx hb d_Fu_perform_9 (by decide) ?_
  refine lv_icmp_ne (tgt := 20) hx hb d_Fu_perform_11 (by decide) (fun c_2 => ?_) (fun c_2 => ?_)
  · skip
    have h := h.2 c_2
    refine lv_iload_n hx hb d_Fu_perform_20 rfl (lv_at hl 0 rfl) ?_
    refine lv_bipush (v := 16) hx hb d_Fu_perform_21 (by decide) ?_
    refine lv_icmp_eq (tgt := 34) hx hb d_Fu_perform_23 (by decide) (fun c_3 => ?_) (fun c_3 => ?_)
    · skip
      have h := h.1 c_3
      refine lv_iload_n hx hb d_Fu_perform_34 rfl (lv_at hl 0 rfl) ?_
      refine lv_bipush (v := 17) hx hb d_Fu_perform_35 (by decide) ?_
      refine lv_icmp_ne (tgt := 44) hx hb d_Fu_perform_37 (by decide) (fun c_4 => ?_) (fun c_4 => ?_)
      · skip
        have h := h.2 c_4
        refine lv_iconst (v := 0) hx hb d_Fu_perform_44 (by decide) ?_
        refine lv_istore (lv' := [(4, .int (0 : Int32)), (3, .int x_1), (0, .ref qu), (1, .int a0), (2, .int a1)]) hx hb d_Fu_perform_45 hl (by decide) rfl (fun ls hl => ?_)
        refine lv_iload_n hx hb d_Fu_perform_47 rfl (lv_at hl 3 rfl) ?_
        refine lv_bipush (v := 63) hx hb d_Fu_perform_48 (by decide) ?_
        refine lv_iand hx hb d_Fu_perform_50 ?_
        refine lv_topi (fun x_5 ex_5 => ?_)
        have h := h x_5 ex_5
        refine lv_istore (lv' := [(5, .int x_5), (4, .int (0 : Int32)), (3, .int x_1), (0, .ref qu), (1, .int a0), (2, .int a1)]) hx hb d_Fu_perform_51 hl (by decide) rfl (fun ls hl => ?_)
        refine lv_iload hx hb d_Fu_perform_53 (lv_at hl 0 rfl) ?_
        refine lv_iconst (v := 3) hx hb d_Fu_perform_55 (by decide) ?_
        refine lv_icmp_gt (tgt := 67) hx hb d_Fu_perform_56 (by decide) (fun c_6 => ?_) (fun c_6 => ?_)
        · skip
          have h := h.1 c_6
          refine lv_iload hx hb d_Fu_perform_67 (lv_at hl 0 rfl) ?_
          refine lv_bipush (v := 7) hx hb d_Fu_perform_69 (by decide) ?_
          refine lv_icmp_gt (tgt := 82) hx hb d_Fu_perform_71 (by decide) (fun c_7 => ?_) (fun c_7 => ?_)
          · skip
            have h := h.1 c_7
            refine lv_iload hx hb d_Fu_perform_82 (lv_at hl 0 rfl) ?_
            refine lv_bipush (v := 48) hx hb d_Fu_perform_84 (by decide) ?_
            refine lv_icmp_lt (tgt := 97) hx hb d_Fu_perform_86 (by decide) (fun c_8 => ?_) (fun c_8 => ?_)
            · skip
              have h := h.1 c_8
              refine lv_iload hx hb d_Fu_perform_97 (lv_at hl 0 rfl) ?_
              refine lv_bipush (v := 12) hx hb d_Fu_perform_99 (by decide) ?_
              refine lv_icmp_lt (tgt := 111) hx hb d_Fu_perform_101 (by decide) (fun c_9 => ?_) (fun c_9 => ?_)
              · skip
                have h := h.1 c_9
                refine lv_iload hx hb d_Fu_perform_111 (lv_at hl 0 rfl) ?_
                refine lv_bipush (v := 36) hx hb d_Fu_perform_113 (by decide) ?_
                refine lv_icmp_ne (tgt := 126) hx hb d_Fu_perform_115 (by decide) (fun c_10 => ?_) (fun c_10 => ?_)
                · skip
                  have h := h.2 c_10
                  refine lv_iload hx hb d_Fu_perform_126 (lv_at hl 0 rfl) ?_
                  refine lv_bipush (v := 17) hx hb d_Fu_perform_128 (by decide) ?_
                  refine lv_icmp_lt (tgt := 149) hx hb d_Fu_perform_130 (by decide) (fun c_11 => ?_) (fun c_11 => ?_)
                  · skip
                    have h := h.1 c_11
                    refine lv_iload hx hb d_Fu_perform_149 (lv_at hl 0 rfl) ?_
                    refine lv_iload hx hb d_Fu_perform_151 (lv_at hl 1 rfl) ?_
                    refine lv_if_eq (tgt := 161) hx hb d_Fu_perform_153 (by decide) (fun c_12 => ?_) (fun c_12 => ?_)
                    · skip
                      refine lv_bipush (v := 33) hx hb d_Fu_perform_161 (by decide) ?_
                      refine lv_icmp_ne (tgt := 174) hx hb d_Fu_perform_163 (by decide) (fun c_13 => ?_) (fun c_13 => ?_)
                      · skip
                        have h := h.2 c_13
                        refine lv_iconst (v := 3) hx hb d_Fu_perform_174 (by decide) ?_
                        exact W.iret (v := (3 : Int32)) hx hb hr (fun t ht hW => ⟨⟨(3 : Int32), (cd, fg, L, O), rfl, h, by rw [ht]; exact hP, hD⟩, hS.F ht⟩) hS.2.2 d_Fu_perform_175
                      · skip
                        have h := h.1 c_13
                        refine lv_aload_n hx hb d_Fu_perform_166 rfl (lv_at hl 3 rfl) ?_
                        refine lv_iload_n hx hb d_Fu_perform_167 rfl (lv_at hl 4 rfl) ?_
                        refine lv_iload hx hb d_Fu_perform_168 (lv_at hl 1 rfl) ?_
                        refine zz_Wi (As := [.int a0, .int (0 : Int32)]) (rest := []) (wc := wU qu qf ql qo cI cd fg L O) (wr := []) X hK hP hD hS hA (c_Fu_convert l D cI qu qf ql qo cd fg L O a0 (0 : Int32) _ h _) ⟨rfl, rfl⟩ m_Fu_convert k_Fu_50 ⟨Nat.le_of_ble_eq_true rfl, Nat.le_of_ble_eq_true rfl⟩ [0, 1, 2, 3] [] rfl rfl (by decide) (by decide) (by decide) 1 0 rfl rfl rfl rfl hl.1 rfl (Nat.le_of_ble_eq_true rfl) d_Fu_perform_170 hf0 (fun r_15 u_14 H locs h hP hD hS => ?_)
                        have hP : va_P D vwCl (wU qu qf ql qo cI u_14.1 u_14.2.1 u_14.2.2.1 u_14.2.2.2) H := hP.sub [0, 1, 2, 3] rfl
                        have hD : va_D A (wU qu qf ql qo cI u_14.1 u_14.2.1 u_14.2.2.1 u_14.2.2.2) := hD.sub [0, 1, 2, 3] (by decide) rfl
                        exact W.iret (v := r_15) hx hb hr (fun t ht hW => ⟨⟨r_15, (u_14.1, u_14.2.1, u_14.2.2.1, u_14.2.2.2), rfl, h, by rw [ht]; exact hP, hD⟩, hS.F ht⟩) hS.2.2 d_Fu_perform_173
                    · exact absurd c_12 (by decide)
                  · skip
                    have h := h.2 c_11
                    refine lv_iload hx hb d_Fu_perform_133 (lv_at hl 0 rfl) ?_
                    refine lv_bipush (v := 19) hx hb d_Fu_perform_135 (by decide) ?_
                    refine lv_icmp_gt (tgt := 149) hx hb d_Fu_perform_137 (by decide) (fun c_16 => ?_) (fun c_16 => ?_)
                    · skip
                      have h := h.1 c_16
                      refine lv_iload hx hb d_Fu_perform_149 (lv_at hl 0 rfl) ?_
                      refine lv_iload hx hb d_Fu_perform_151 (lv_at hl 1 rfl) ?_
                      refine lv_if_eq (tgt := 161) hx hb d_Fu_perform_153 (by decide) (fun c_17 => ?_) (fun c_17 => ?_)
                      · skip
                        refine lv_bipush (v := 33) hx hb d_Fu_perform_161 (by decide) ?_
                        refine lv_icmp_ne (tgt := 174) hx hb d_Fu_perform_163 (by decide) (fun c_18 => ?_) (fun c_18 => ?_)
                        · skip
                          have h := h.2 c_18
                          refine lv_iconst (v := 3) hx hb d_Fu_perform_174 (by decide) ?_
                          exact W.iret (v := (3 : Int32)) hx hb hr (fun t ht hW => ⟨⟨(3 : Int32), (cd, fg, L, O), rfl, h, by rw [ht]; exact hP, hD⟩, hS.F ht⟩) hS.2.2 d_Fu_perform_175
                        · skip
                          have h := h.1 c_18
                          refine lv_aload_n hx hb d_Fu_perform_166 rfl (lv_at hl 3 rfl) ?_
                          refine lv_iload_n hx hb d_Fu_perform_167 rfl (lv_at hl 4 rfl) ?_
                          refine lv_iload hx hb d_Fu_perform_168 (lv_at hl 1 rfl) ?_
                          refine zz_Wi (As := [.int a0, .int (0 : Int32)]) (rest := []) (wc := wU qu qf ql qo cI cd fg L O) (wr := []) X hK hP hD hS hA (c_Fu_convert l D cI qu qf ql qo cd fg L O a0 (0 : Int32) _ h _) ⟨rfl, rfl⟩ m_Fu_convert k_Fu_50 ⟨Nat.le_of_ble_eq_true rfl, Nat.le_of_ble_eq_true rfl⟩ [0, 1, 2, 3] [] rfl rfl (by decide) (by decide) (by decide) 1 0 rfl rfl rfl rfl hl.1 rfl (Nat.le_of_ble_eq_true rfl) d_Fu_perform_170 hf0 (fun r_20 u_19 H locs h hP hD hS => ?_)
                          have hP : va_P D vwCl (wU qu qf ql qo cI u_19.1 u_19.2.1 u_19.2.2.1 u_19.2.2.2) H := hP.sub [0, 1, 2, 3] rfl
                          have hD : va_D A (wU qu qf ql qo cI u_19.1 u_19.2.1 u_19.2.2.1 u_19.2.2.2) := hD.sub [0, 1, 2, 3] (by decide) rfl
                          exact W.iret (v := r_20) hx hb hr (fun t ht hW => ⟨⟨r_20, (u_19.1, u_19.2.1, u_19.2.2.1, u_19.2.2.2), rfl, h, by rw [ht]; exact hP, hD⟩, hS.F ht⟩) hS.2.2 d_Fu_perform_173
                      · exact absurd c_17 (by decide)
                    · skip
                      have h := h.2 c_16
                      refine lv_aload_n hx hb d_Fu_perform_140 rfl (lv_at hl 3 rfl) ?_
                      refine lv_iload_n hx hb d_Fu_perform_141 rfl (lv_at hl 4 rfl) ?_
                      refine lv_iload hx hb d_Fu_perform_142 (lv_at hl 1 rfl) ?_
                      refine lv_iload_n hx hb d_Fu_perform_144 rfl (lv_at hl 5 rfl) ?_
                      refine zz_Wi (As := [.int a0, .int (0 : Int32), .int a1]) (rest := []) (wc := wU qu qf ql qo cI cd fg L O) (wr := []) X hK hP hD hS hA (c_Fu_moveIf l D cI qu qf ql qo cd fg L O a0 (0 : Int32) a1 _ h _) ⟨rfl, rfl⟩ m_Fu_moveIf k_Fu_46 ⟨Nat.le_of_ble_eq_true rfl, Nat.le_of_ble_eq_true rfl⟩ [0, 1, 2, 3] [] rfl rfl (by decide) (by decide) (by decide) 1 0 rfl rfl rfl rfl hl.1 rfl (Nat.le_of_ble_eq_true rfl) d_Fu_perform_145 hf0 (fun r_22 u_21 H locs h hP hD hS => ?_)
                      have hP : va_P D vwCl (wU qu qf ql qo cI u_21.1 u_21.2.1 u_21.2.2.1 u_21.2.2.2) H := hP.sub [0, 1, 2, 3] rfl
                      have hD : va_D A (wU qu qf ql qo cI u_21.1 u_21.2.1 u_21.2.2.1 u_21.2.2.2) := hD.sub [0, 1, 2, 3] (by decide) rfl
                      exact W.iret (v := r_22) hx hb hr (fun t ht hW => ⟨⟨r_22, (u_21.1, u_21.2.1, u_21.2.2.1, u_21.2.2.2), rfl, h, by rw [ht]; exact hP, hD⟩, hS.F ht⟩) hS.2.2 d_Fu_perform_148
                · skip
                  have h := h.1 c_10
                  refine lv_aload_n hx hb d_Fu_perform_118 rfl (lv_at hl 3 rfl) ?_
                  refine lv_iload_n hx hb d_Fu_perform_119 rfl (lv_at hl 4 rfl) ?_
                  refine lv_iload hx hb d_Fu_perform_120 (lv_at hl 1 rfl) ?_
                  refine zz_Wi (As := [.int a0, .int (0 : Int32)]) (rest := []) (wc := wU qu qf ql qo cI cd fg L O) (wr := []) X hK hP hD hS hA (c_Fu_convertToWord l D cI qu qf ql qo cd fg L O a0 (0 : Int32) _ h _) ⟨rfl, rfl⟩ m_Fu_convertToWord k_Fu_43 ⟨Nat.le_of_ble_eq_true rfl, Nat.le_of_ble_eq_true rfl⟩ [0, 1, 2, 3] [] rfl rfl (by decide) (by decide) (by decide) 1 0 rfl rfl rfl rfl hl.1 rfl (Nat.le_of_ble_eq_true rfl) d_Fu_perform_122 hf0 (fun r_24 u_23 H locs h hP hD hS => ?_)
                  have hP : va_P D vwCl (wU qu qf ql qo cI u_23.1 u_23.2.1 u_23.2.2.1 u_23.2.2.2) H := hP.sub [0, 1, 2, 3] rfl
                  have hD : va_D A (wU qu qf ql qo cI u_23.1 u_23.2.1 u_23.2.2.1 u_23.2.2.2) := hD.sub [0, 1, 2, 3] (by decide) rfl
                  exact W.iret (v := r_24) hx hb hr (fun t ht hW => ⟨⟨r_24, (u_23.1, u_23.2.1, u_23.2.2.1, u_23.2.2.2), rfl, h, by rw [ht]; exact hP, hD⟩, hS.F ht⟩) hS.2.2 d_Fu_perform_125
              · skip
                have h := h.2 c_9
                refine lv_iload hx hb d_Fu_perform_104 (lv_at hl 0 rfl) ?_
                refine lv_bipush (v := 15) hx hb d_Fu_perform_106 (by decide) ?_
                refine lv_icmp_le (tgt := 118) hx hb d_Fu_perform_108 (by decide) (fun c_25 => ?_) (fun c_25 => ?_)
                · skip
                  have h := h.1 c_25
                  refine lv_aload_n hx hb d_Fu_perform_118 rfl (lv_at hl 3 rfl) ?_
                  refine lv_iload_n hx hb d_Fu_perform_119 rfl (lv_at hl 4 rfl) ?_
                  refine lv_iload hx hb d_Fu_perform_120 (lv_at hl 1 rfl) ?_
                  refine zz_Wi (As := [.int a0, .int (0 : Int32)]) (rest := []) (wc := wU qu qf ql qo cI cd fg L O) (wr := []) X hK hP hD hS hA (c_Fu_convertToWord l D cI qu qf ql qo cd fg L O a0 (0 : Int32) _ h _) ⟨rfl, rfl⟩ m_Fu_convertToWord k_Fu_43 ⟨Nat.le_of_ble_eq_true rfl, Nat.le_of_ble_eq_true rfl⟩ [0, 1, 2, 3] [] rfl rfl (by decide) (by decide) (by decide) 1 0 rfl rfl rfl rfl hl.1 rfl (Nat.le_of_ble_eq_true rfl) d_Fu_perform_122 hf0 (fun r_27 u_26 H locs h hP hD hS => ?_)
                  have hP : va_P D vwCl (wU qu qf ql qo cI u_26.1 u_26.2.1 u_26.2.2.1 u_26.2.2.2) H := hP.sub [0, 1, 2, 3] rfl
                  have hD : va_D A (wU qu qf ql qo cI u_26.1 u_26.2.1 u_26.2.2.1 u_26.2.2.2) := hD.sub [0, 1, 2, 3] (by decide) rfl
                  exact W.iret (v := r_27) hx hb hr (fun t ht hW => ⟨⟨r_27, (u_26.1, u_26.2.1, u_26.2.2.1, u_26.2.2.2), rfl, h, by rw [ht]; exact hP, hD⟩, hS.F ht⟩) hS.2.2 d_Fu_perform_125
                · skip
                  have h := h.2 c_25
                  refine lv_iload hx hb d_Fu_perform_111 (lv_at hl 0 rfl) ?_
                  refine lv_bipush (v := 36) hx hb d_Fu_perform_113 (by decide) ?_
                  refine lv_icmp_ne (tgt := 126) hx hb d_Fu_perform_115 (by decide) (fun c_28 => ?_) (fun c_28 => ?_)
                  · skip
                    have h := h.2 c_28
                    refine lv_iload hx hb d_Fu_perform_126 (lv_at hl 0 rfl) ?_
                    refine lv_bipush (v := 17) hx hb d_Fu_perform_128 (by decide) ?_
                    refine lv_icmp_lt (tgt := 149) hx hb d_Fu_perform_130 (by decide) (fun c_29 => ?_) (fun c_29 => ?_)
                    · skip
                      have h := h.1 c_29
                      refine lv_iload hx hb d_Fu_perform_149 (lv_at hl 0 rfl) ?_
                      refine lv_iload hx hb d_Fu_perform_151 (lv_at hl 1 rfl) ?_
                      refine lv_if_eq (tgt := 161) hx hb d_Fu_perform_153 (by decide) (fun c_30 => ?_) (fun c_30 => ?_)
                      · skip
                        refine lv_bipush (v := 33) hx hb d_Fu_perform_161 (by decide) ?_
                        refine lv_icmp_ne (tgt := 174) hx hb d_Fu_perform_163 (by decide) (fun c_31 => ?_) (fun c_31 => ?_)
                        · skip
                          have h := h.2 c_31
                          refine lv_iconst (v := 3) hx hb d_Fu_perform_174 (by decide) ?_
                          exact W.iret (v := (3 : Int32)) hx hb hr (fun t ht hW => ⟨⟨(3 : Int32), (cd, fg, L, O), rfl, h, by rw [ht]; exact hP, hD⟩, hS.F ht⟩) hS.2.2 d_Fu_perform_175
                        · skip
                          have h := h.1 c_31
                          refine lv_aload_n hx hb d_Fu_perform_166 rfl (lv_at hl 3 rfl) ?_
                          refine lv_iload_n hx hb d_Fu_perform_167 rfl (lv_at hl 4 rfl) ?_
                          refine lv_iload hx hb d_Fu_perform_168 (lv_at hl 1 rfl) ?_
                          refine zz_Wi (As := [.int a0, .int (0 : Int32)]) (rest := []) (wc := wU qu qf ql qo cI cd fg L O) (wr := []) X hK hP hD hS hA (c_Fu_convert l D cI qu qf ql qo cd fg L O a0 (0 : Int32) _ h _) ⟨rfl, rfl⟩ m_Fu_convert k_Fu_50 ⟨Nat.le_of_ble_eq_true rfl, Nat.le_of_ble_eq_true rfl⟩ [0, 1, 2, 3] [] rfl rfl (by decide) (by decide) (by decide) 1 0 rfl rfl rfl rfl hl.1 rfl (Nat.le_of_ble_eq_true rfl) d_Fu_perform_170 hf0 (fun r_33 u_32 H locs h hP hD hS => ?_)
                          have hP : va_P D vwCl (wU qu qf ql qo cI u_32.1 u_32.2.1 u_32.2.2.1 u_32.2.2.2) H := hP.sub [0, 1, 2, 3] rfl
                          have hD : va_D A (wU qu qf ql qo cI u_32.1 u_32.2.1 u_32.2.2.1 u_32.2.2.2) := hD.sub [0, 1, 2, 3] (by decide) rfl
                          exact W.iret (v := r_33) hx hb hr (fun t ht hW => ⟨⟨r_33, (u_32.1, u_32.2.1, u_32.2.2.1, u_32.2.2.2), rfl, h, by rw [ht]; exact hP, hD⟩, hS.F ht⟩) hS.2.2 d_Fu_perform_173
                      · exact absurd c_30 (by decide)
                    · skip
                      have h := h.2 c_29
                      refine lv_iload hx hb d_Fu_perform_133 (lv_at hl 0 rfl) ?_
                      refine lv_bipush (v := 19) hx hb d_Fu_perform_135 (by decide) ?_
                      refine lv_icmp_gt (tgt := 149) hx hb d_Fu_perform_137 (by decide) (fun c_34 => ?_) (fun c_34 => ?_)
                      · skip
                        have h := h.1 c_34
                        refine lv_iload hx hb d_Fu_perform_149 (lv_at hl 0 rfl) ?_
                        refine lv_iload hx hb d_Fu_perform_151 (lv_at hl 1 rfl) ?_
                        refine lv_if_eq (tgt := 161) hx hb d_Fu_perform_153 (by decide) (fun c_35 => ?_) (fun c_35 => ?_)
                        · skip
                          refine lv_bipush (v := 33) hx hb d_Fu_perform_161 (by decide) ?_
                          refine lv_icmp_ne (tgt := 174) hx hb d_Fu_perform_163 (by decide) (fun c_36 => ?_) (fun c_36 => ?_)
                          · skip
                            have h := h.2 c_36
                            refine lv_iconst (v := 3) hx hb d_Fu_perform_174 (by decide) ?_
                            exact W.iret (v := (3 : Int32)) hx hb hr (fun t ht hW => ⟨⟨(3 : Int32), (cd, fg, L, O), rfl, h, by rw [ht]; exact hP, hD⟩, hS.F ht⟩) hS.2.2 d_Fu_perform_175
                          · skip
                            have h := h.1 c_36
                            refine lv_aload_n hx hb d_Fu_perform_166 rfl (lv_at hl 3 rfl) ?_
                            refine lv_iload_n hx hb d_Fu_perform_167 rfl (lv_at hl 4 rfl) ?_
                            refine lv_iload hx hb d_Fu_perform_168 (lv_at hl 1 rfl) ?_
                            refine zz_Wi (As := [.int a0, .int (0 : Int32)]) (rest := []) (wc := wU qu qf ql qo cI cd fg L O) (wr := []) X hK hP hD hS hA (c_Fu_convert l D cI qu qf ql qo cd fg L O a0 (0 : Int32) _ h _) ⟨rfl, rfl⟩ m_Fu_convert k_Fu_50 ⟨Nat.le_of_ble_eq_true rfl, Nat.le_of_ble_eq_true rfl⟩ [0, 1, 2, 3] [] rfl rfl (by decide) (by decide) (by decide) 1 0 rfl rfl rfl rfl hl.1 rfl (Nat.le_of_ble_eq_true rfl) d_Fu_perform_170 hf0 (fun r_38 u_37 H locs h hP hD hS => ?_)
                            have hP : va_P D vwCl (wU qu qf ql qo cI u_37.1 u_37.2.1 u_37.2.2.1 u_37.2.2.2) H := hP.sub [0, 1, 2, 3] rfl
                            have hD : va_D A (wU qu qf ql qo cI u_37.1 u_37.2.1 u_37.2.2.1 u_37.2.2.2) := hD.sub [0, 1, 2, 3] (by decide) rfl
                            exact W.iret (v := r_38) hx hb hr (fun t ht hW => ⟨⟨r_38, (u_37.1, u_37.2.1, u_37.2.2.1, u_37.2.2.2), rfl, h, by rw [ht]; exact hP, hD⟩, hS.F ht⟩) hS.2.2 d_Fu_perform_173
                        · exact absurd c_35 (by decide)
                      · skip
                        have h := h.2 c_34
                        refine lv_aload_n hx hb d_Fu_perform_140 rfl (lv_at hl 3 rfl) ?_
                        refine lv_iload_n hx hb d_Fu_perform_141 rfl (lv_at hl 4 rfl) ?_
                        refine lv_iload hx hb d_Fu_perform_142 (lv_at hl 1 rfl) ?_
                        refine lv_iload_n hx hb d_Fu_perform_144 rfl (lv_at hl 5 rfl) ?_
                        refine zz_Wi (As := [.int a0, .int (0 : Int32), .int a1]) (rest := []) (wc := wU qu qf ql qo cI cd fg L O) (wr := []) X hK hP hD hS hA (c_Fu_moveIf l D cI qu qf ql qo cd fg L O a0 (0 : Int32) a1 _ h _) ⟨rfl, rfl⟩ m_Fu_moveIf k_Fu_46 ⟨Nat.le_of_ble_eq_true rfl, Nat.le_of_ble_eq_true rfl⟩ [0, 1, 2, 3] [] rfl rfl (by decide) (by decide) (by decide) 1 0 rfl rfl rfl rfl hl.1 rfl (Nat.le_of_ble_eq_true rfl) d_Fu_perform_145 hf0 (fun r_40 u_39 H locs h hP hD hS => ?_)
                        have hP : va_P D vwCl (wU qu qf ql qo cI u_39.1 u_39.2.1 u_39.2.2.1 u_39.2.2.2) H := hP.sub [0, 1, 2, 3] rfl
                        have hD : va_D A (wU qu qf ql qo cI u_39.1 u_39.2.1 u_39.2.2.1 u_39.2.2.2) := hD.sub [0, 1, 2, 3] (by decide) rfl
                        exact W.iret (v := r_40) hx hb hr (fun t ht hW => ⟨⟨r_40, (u_39.1, u_39.2.1, u_39.2.2.1, u_39.2.2.2), rfl, h, by rw [ht]; exact hP, hD⟩, hS.F ht⟩) hS.2.2 d_Fu_perform_148
                  · skip
                    have h := h.1 c_28
                    refine lv_aload_n hx hb d_Fu_perform_118 rfl (lv_at hl 3 rfl) ?_
                    refine lv_iload_n hx hb d_Fu_perform_119 rfl (lv_at hl 4 rfl) ?_
                    refine lv_iload hx hb d_Fu_perform_120 (lv_at hl 1 rfl) ?_
                    refine zz_Wi (As := [.int a0, .int (0 : Int32)]) (rest := []) (wc := wU qu qf ql qo cI cd fg L O) (wr := []) X hK hP hD hS hA (c_Fu_convertToWord l D cI qu qf ql qo cd fg L O a0 (0 : Int32) _ h _) ⟨rfl, rfl⟩ m_Fu_convertToWord k_Fu_43 ⟨Nat.le_of_ble_eq_true rfl, Nat.le_of_ble_eq_true rfl⟩ [0, 1, 2, 3] [] rfl rfl (by decide) (by decide) (by decide) 1 0 rfl rfl rfl rfl hl.1 rfl (Nat.le_of_ble_eq_true rfl) d_Fu_perform_122 hf0 (fun r_42 u_41 H locs h hP hD hS => ?_)
                    have hP : va_P D vwCl (wU qu qf ql qo cI u_41.1 u_41.2.1 u_41.2.2.1 u_41.2.2.2) H := hP.sub [0, 1, 2, 3] rfl
                    have hD : va_D A (wU qu qf ql qo cI u_41.1 u_41.2.1 u_41.2.2.1 u_41.2.2.2) := hD.sub [0, 1, 2, 3] (by decide) rfl
                    exact W.iret (v := r_42) hx hb hr (fun t ht hW => ⟨⟨r_42, (u_41.1, u_41.2.1, u_41.2.2.1, u_41.2.2.2), rfl, h, by rw [ht]; exact hP, hD⟩, hS.F ht⟩) hS.2.2 d_Fu_perform_125
            · skip
              have h := h.2 c_8
              refine lv_aload_n hx hb d_Fu_perform_89 rfl (lv_at hl 3 rfl) ?_
              refine lv_iload_n hx hb d_Fu_perform_90 rfl (lv_at hl 4 rfl) ?_
              refine lv_iload hx hb d_Fu_perform_91 (lv_at hl 1 rfl) ?_
              refine zz_Wi (As := [.int a0, .int (0 : Int32)]) (rest := []) (wc := wU qu qf ql qo cI cd fg L O) (wr := []) X hK hP hD hS hA (c_Fu_compare l D cI qu qf ql qo cd fg L O a0 (0 : Int32) _ h _) ⟨rfl, rfl⟩ m_Fu_compare k_Fu_40 ⟨Nat.le_of_ble_eq_true rfl, Nat.le_of_ble_eq_true rfl⟩ [0, 1, 2, 3] [] rfl rfl (by decide) (by decide) (by decide) 1 0 rfl rfl rfl rfl hl.1 rfl (Nat.le_of_ble_eq_true rfl) d_Fu_perform_93 hf0 (fun r_44 u_43 H locs h hP hD hS => ?_)
              have hP : va_P D vwCl (wU qu qf ql qo cI u_43.1 u_43.2.1 u_43.2.2.1 u_43.2.2.2) H := hP.sub [0, 1, 2, 3] rfl
              have hD : va_D A (wU qu qf ql qo cI u_43.1 u_43.2.1 u_43.2.2.1 u_43.2.2.2) := hD.sub [0, 1, 2, 3] (by decide) rfl
              exact W.iret (v := r_44) hx hb hr (fun t ht hW => ⟨⟨r_44, (u_43.1, u_43.2.1, u_43.2.2.1, u_43.2.2.2), rfl, h, by rw [ht]; exact hP, hD⟩, hS.F ht⟩) hS.2.2 d_Fu_perform_96
          · skip
            have h := h.2 c_7
            refine lv_aload_n hx hb d_Fu_perform_74 rfl (lv_at hl 3 rfl) ?_
            refine lv_iload_n hx hb d_Fu_perform_75 rfl (lv_at hl 4 rfl) ?_
            refine lv_iload hx hb d_Fu_perform_76 (lv_at hl 1 rfl) ?_
            refine zz_Wi (As := [.int a0, .int (0 : Int32)]) (rest := []) (wc := wU qu qf ql qo cI cd fg L O) (wr := []) X hK hP hD hS hA (c_Fu_change l D cI qu qf ql qo cd fg L O a0 (0 : Int32) _ h _) ⟨rfl, rfl⟩ m_Fu_change k_Fu_37 ⟨Nat.le_of_ble_eq_true rfl, Nat.le_of_ble_eq_true rfl⟩ [0, 1, 2, 3] [] rfl rfl (by decide) (by decide) (by decide) 1 0 rfl rfl rfl rfl hl.1 rfl (Nat.le_of_ble_eq_true rfl) d_Fu_perform_78 hf0 (fun r_46 u_45 H locs h hP hD hS => ?_)
            have hP : va_P D vwCl (wU qu qf ql qo cI u_45.1 u_45.2.1 u_45.2.2.1 u_45.2.2.2) H := hP.sub [0, 1, 2, 3] rfl
            have hD : va_D A (wU qu qf ql qo cI u_45.1 u_45.2.1 u_45.2.2.1 u_45.2.2.2) := hD.sub [0, 1, 2, 3] (by decide) rfl
            exact W.iret (v := r_46) hx hb hr (fun t ht hW => ⟨⟨r_46, (u_45.1, u_45.2.1, u_45.2.2.1, u_45.2.2.2), rfl, h, by rw [ht]; exact hP, hD⟩, hS.F ht⟩) hS.2.2 d_Fu_perform_81
        · skip
          have h := h.2 c_6
          refine lv_aload_n hx hb d_Fu_perform_59 rfl (lv_at hl 3 rfl) ?_
          refine lv_iload_n hx hb d_Fu_perform_60 rfl (lv_at hl 4 rfl) ?_
          refine lv_iload hx hb d_Fu_perform_61 (lv_at hl 1 rfl) ?_
          refine zz_Wi (As := [.int a0, .int (0 : Int32)]) (rest := []) (wc := wU qu qf ql qo cI cd fg L O) (wr := []) X hK hP hD hS hA (c_Fu_compute l D cI qu qf ql qo cd fg L O a0 (0 : Int32) _ h _) ⟨rfl, rfl⟩ m_Fu_compute k_Fu_33 ⟨Nat.le_of_ble_eq_true rfl, Nat.le_of_ble_eq_true rfl⟩ [0, 1, 2, 3] [] rfl rfl (by decide) (by decide) (by decide) 1 0 rfl rfl rfl rfl hl.1 rfl (Nat.le_of_ble_eq_true rfl) d_Fu_perform_63 hf0 (fun r_48 u_47 H locs h hP hD hS => ?_)
          have hP : va_P D vwCl (wU qu qf ql qo cI u_47.1 u_47.2.1 u_47.2.2.1 u_47.2.2.2) H := hP.sub [0, 1, 2, 3] rfl
          have hD : va_D A (wU qu qf ql qo cI u_47.1 u_47.2.1 u_47.2.2.1 u_47.2.2.2) := hD.sub [0, 1, 2, 3] (by decide) rfl
          exact W.iret (v := r_48) hx hb hr (fun t ht hW => ⟨⟨r_48, (u_47.1, u_47.2.1, u_47.2.2.1, u_47.2.2.2), rfl, h, by rw [ht]; exact hP, hD⟩, hS.F ht⟩) hS.2.2 d_Fu_perform_66
      · skip
        have h := h.1 c_4
        refine lv_iconst (v := 1) hx hb d_Fu_perform_40 (by decide) ?_
        refine lv_goto (tgt := 45) hx hb d_Fu_perform_41 (by decide) ?_
        refine lv_istore (lv' := [(4, .int (1 : Int32)), (3, .int x_1), (0, .ref qu), (1, .int a0), (2, .int a1)]) hx hb d_Fu_perform_45 hl (by decide) rfl (fun ls hl => ?_)
        refine lv_iload_n hx hb d_Fu_perform_47 rfl (lv_at hl 3 rfl) ?_
        refine lv_bipush (v := 63) hx hb d_Fu_perform_48 (by decide) ?_
        refine lv_iand hx hb d_Fu_perform_50 ?_
        refine lv_topi (fun x_49 ex_49 => ?_)
        have h := h x_49 ex_49
        refine lv_istore (lv' := [(5, .int x_49), (4, .int (1 : Int32)), (3, .int x_1), (0, .ref qu), (1, .int a0), (2, .int a1)]) hx hb d_Fu_perform_51 hl (by decide) rfl (fun ls hl => ?_)
        refine lv_iload hx hb d_Fu_perform_53 (lv_at hl 0 rfl) ?_
        refine lv_iconst (v := 3) hx hb d_Fu_perform_55 (by decide) ?_
        refine lv_icmp_gt (tgt := 67) hx hb d_Fu_perform_56 (by decide) (fun c_50 => ?_) (fun c_50 => ?_)
        · skip
          have h := h.1 c_50
          refine lv_iload hx hb d_Fu_perform_67 (lv_at hl 0 rfl) ?_
          refine lv_bipush (v := 7) hx hb d_Fu_perform_69 (by decide) ?_
          refine lv_icmp_gt (tgt := 82) hx hb d_Fu_perform_71 (by decide) (fun c_51 => ?_) (fun c_51 => ?_)
          · skip
            have h := h.1 c_51
            refine lv_iload hx hb d_Fu_perform_82 (lv_at hl 0 rfl) ?_
            refine lv_bipush (v := 48) hx hb d_Fu_perform_84 (by decide) ?_
            refine lv_icmp_lt (tgt := 97) hx hb d_Fu_perform_86 (by decide) (fun c_52 => ?_) (fun c_52 => ?_)
            · skip
              have h := h.1 c_52
              refine lv_iload hx hb d_Fu_perform_97 (lv_at hl 0 rfl) ?_
              refine lv_bipush (v := 12) hx hb d_Fu_perform_99 (by decide) ?_
              refine lv_icmp_lt (tgt := 111) hx hb d_Fu_perform_101 (by decide) (fun c_53 => ?_) (fun c_53 => ?_)
              · skip
                have h := h.1 c_53
                refine lv_iload hx hb d_Fu_perform_111 (lv_at hl 0 rfl) ?_
                refine lv_bipush (v := 36) hx hb d_Fu_perform_113 (by decide) ?_
                refine lv_icmp_ne (tgt := 126) hx hb d_Fu_perform_115 (by decide) (fun c_54 => ?_) (fun c_54 => ?_)
                · skip
                  have h := h.2 c_54
                  refine lv_iload hx hb d_Fu_perform_126 (lv_at hl 0 rfl) ?_
                  refine lv_bipush (v := 17) hx hb d_Fu_perform_128 (by decide) ?_
                  refine lv_icmp_lt (tgt := 149) hx hb d_Fu_perform_130 (by decide) (fun c_55 => ?_) (fun c_55 => ?_)
                  · skip
                    have h := h.1 c_55
                    refine lv_iload hx hb d_Fu_perform_149 (lv_at hl 0 rfl) ?_
                    refine lv_iload hx hb d_Fu_perform_151 (lv_at hl 1 rfl) ?_
                    refine lv_if_eq (tgt := 161) hx hb d_Fu_perform_153 (by decide) (fun c_56 => ?_) (fun c_56 => ?_)
                    · exact absurd c_56 (by decide)
                    · skip
                      refine lv_bipush (v := 32) hx hb d_Fu_perform_156 (by decide) ?_
                      refine lv_goto (tgt := 163) hx hb d_Fu_perform_158 (by decide) ?_
                      refine lv_icmp_ne (tgt := 174) hx hb d_Fu_perform_163 (by decide) (fun c_57 => ?_) (fun c_57 => ?_)
                      · skip
                        have h := h.2 c_57
                        refine lv_iconst (v := 3) hx hb d_Fu_perform_174 (by decide) ?_
                        exact W.iret (v := (3 : Int32)) hx hb hr (fun t ht hW => ⟨⟨(3 : Int32), (cd, fg, L, O), rfl, h, by rw [ht]; exact hP, hD⟩, hS.F ht⟩) hS.2.2 d_Fu_perform_175
                      · skip
                        have h := h.1 c_57
                        refine lv_aload_n hx hb d_Fu_perform_166 rfl (lv_at hl 3 rfl) ?_
                        refine lv_iload_n hx hb d_Fu_perform_167 rfl (lv_at hl 4 rfl) ?_
                        refine lv_iload hx hb d_Fu_perform_168 (lv_at hl 1 rfl) ?_
                        refine zz_Wi (As := [.int a0, .int (1 : Int32)]) (rest := []) (wc := wU qu qf ql qo cI cd fg L O) (wr := []) X hK hP hD hS hA (c_Fu_convert l D cI qu qf ql qo cd fg L O a0 (1 : Int32) _ h _) ⟨rfl, rfl⟩ m_Fu_convert k_Fu_50 ⟨Nat.le_of_ble_eq_true rfl, Nat.le_of_ble_eq_true rfl⟩ [0, 1, 2, 3] [] rfl rfl (by decide) (by decide) (by decide) 1 0 rfl rfl rfl rfl hl.1 rfl (Nat.le_of_ble_eq_true rfl) d_Fu_perform_170 hf0 (fun r_59 u_58 H locs h hP hD hS => ?_)
                        have hP : va_P D vwCl (wU qu qf ql qo cI u_58.1 u_58.2.1 u_58.2.2.1 u_58.2.2.2) H := hP.sub [0, 1, 2, 3] rfl
                        have hD : va_D A (wU qu qf ql qo cI u_58.1 u_58.2.1 u_58.2.2.1 u_58.2.2.2) := hD.sub [0, 1, 2, 3] (by decide) rfl
                        exact W.iret (v := r_59) hx hb hr (fun t ht hW => ⟨⟨r_59, (u_58.1, u_58.2.1, u_58.2.2.1, u_58.2.2.2), rfl, h, by rw [ht]; exact hP, hD⟩, hS.F ht⟩) hS.2.2 d_Fu_perform_173
                  · skip
                    have h := h.2 c_55
                    refine lv_iload hx hb d_Fu_perform_133 (lv_at hl 0 rfl) ?_
                    refine lv_bipush (v := 19) hx hb d_Fu_perform_135 (by decide) ?_
                    refine lv_icmp_gt (tgt := 149) hx hb d_Fu_perform_137 (by decide) (fun c_60 => ?_) (fun c_60 => ?_)
                    · skip
                      have h := h.1 c_60
                      refine lv_iload hx hb d_Fu_perform_149 (lv_at hl 0 rfl) ?_
                      refine lv_iload hx hb d_Fu_perform_151 (lv_at hl 1 rfl) ?_
                      refine lv_if_eq (tgt := 161) hx hb d_Fu_perform_153 (by decide) (fun c_61 => ?_) (fun c_61 => ?_)
                      · exact absurd c_61 (by decide)
                      · skip
                        refine lv_bipush (v := 32) hx hb d_Fu_perform_156 (by decide) ?_
                        refine lv_goto (tgt := 163) hx hb d_Fu_perform_158 (by decide) ?_
                        refine lv_icmp_ne (tgt := 174) hx hb d_Fu_perform_163 (by decide) (fun c_62 => ?_) (fun c_62 => ?_)
                        · skip
                          have h := h.2 c_62
                          refine lv_iconst (v := 3) hx hb d_Fu_perform_174 (by decide) ?_
                          exact W.iret (v := (3 : Int32)) hx hb hr (fun t ht hW => ⟨⟨(3 : Int32), (cd, fg, L, O), rfl, h, by rw [ht]; exact hP, hD⟩, hS.F ht⟩) hS.2.2 d_Fu_perform_175
                        · skip
                          have h := h.1 c_62
                          refine lv_aload_n hx hb d_Fu_perform_166 rfl (lv_at hl 3 rfl) ?_
                          refine lv_iload_n hx hb d_Fu_perform_167 rfl (lv_at hl 4 rfl) ?_
                          refine lv_iload hx hb d_Fu_perform_168 (lv_at hl 1 rfl) ?_
                          refine zz_Wi (As := [.int a0, .int (1 : Int32)]) (rest := []) (wc := wU qu qf ql qo cI cd fg L O) (wr := []) X hK hP hD hS hA (c_Fu_convert l D cI qu qf ql qo cd fg L O a0 (1 : Int32) _ h _) ⟨rfl, rfl⟩ m_Fu_convert k_Fu_50 ⟨Nat.le_of_ble_eq_true rfl, Nat.le_of_ble_eq_true rfl⟩ [0, 1, 2, 3] [] rfl rfl (by decide) (by decide) (by decide) 1 0 rfl rfl rfl rfl hl.1 rfl (Nat.le_of_ble_eq_true rfl) d_Fu_perform_170 hf0 (fun r_64 u_63 H locs h hP hD hS => ?_)
                          have hP : va_P D vwCl (wU qu qf ql qo cI u_63.1 u_63.2.1 u_63.2.2.1 u_63.2.2.2) H := hP.sub [0, 1, 2, 3] rfl
                          have hD : va_D A (wU qu qf ql qo cI u_63.1 u_63.2.1 u_63.2.2.1 u_63.2.2.2) := hD.sub [0, 1, 2, 3] (by decide) rfl
                          exact W.iret (v := r_64) hx hb hr (fun t ht hW => ⟨⟨r_64, (u_63.1, u_63.2.1, u_63.2.2.1, u_63.2.2.2), rfl, h, by rw [ht]; exact hP, hD⟩, hS.F ht⟩) hS.2.2 d_Fu_perform_173
                    · skip
                      have h := h.2 c_60
                      refine lv_aload_n hx hb d_Fu_perform_140 rfl (lv_at hl 3 rfl) ?_
                      refine lv_iload_n hx hb d_Fu_perform_141 rfl (lv_at hl 4 rfl) ?_
                      refine lv_iload hx hb d_Fu_perform_142 (lv_at hl 1 rfl) ?_
                      refine lv_iload_n hx hb d_Fu_perform_144 rfl (lv_at hl 5 rfl) ?_
                      refine zz_Wi (As := [.int a0, .int (1 : Int32), .int a1]) (rest := []) (wc := wU qu qf ql qo cI cd fg L O) (wr := []) X hK hP hD hS hA (c_Fu_moveIf l D cI qu qf ql qo cd fg L O a0 (1 : Int32) a1 _ h _) ⟨rfl, rfl⟩ m_Fu_moveIf k_Fu_46 ⟨Nat.le_of_ble_eq_true rfl, Nat.le_of_ble_eq_true rfl⟩ [0, 1, 2, 3] [] rfl rfl (by decide) (by decide) (by decide) 1 0 rfl rfl rfl rfl hl.1 rfl (Nat.le_of_ble_eq_true rfl) d_Fu_perform_145 hf0 (fun r_66 u_65 H locs h hP hD hS => ?_)
                      have hP : va_P D vwCl (wU qu qf ql qo cI u_65.1 u_65.2.1 u_65.2.2.1 u_65.2.2.2) H := hP.sub [0, 1, 2, 3] rfl
                      have hD : va_D A (wU qu qf ql qo cI u_65.1 u_65.2.1 u_65.2.2.1 u_65.2.2.2) := hD.sub [0, 1, 2, 3] (by decide) rfl
                      exact W.iret (v := r_66) hx hb hr (fun t ht hW => ⟨⟨r_66, (u_65.1, u_65.2.1, u_65.2.2.1, u_65.2.2.2), rfl, h, by rw [ht]; exact hP, hD⟩, hS.F ht⟩) hS.2.2 d_Fu_perform_148
                · skip
                  have h := h.1 c_54
                  refine lv_aload_n hx hb d_Fu_perform_118 rfl (lv_at hl 3 rfl) ?_
                  refine lv_iload_n hx hb d_Fu_perform_119 rfl (lv_at hl 4 rfl) ?_
                  refine lv_iload hx hb d_Fu_perform_120 (lv_at hl 1 rfl) ?_
                  refine zz_Wi (As := [.int a0, .int (1 : Int32)]) (rest := []) (wc := wU qu qf ql qo cI cd fg L O) (wr := []) X hK hP hD hS hA (c_Fu_convertToWord l D cI qu qf ql qo cd fg L O a0 (1 : Int32) _ h _) ⟨rfl, rfl⟩ m_Fu_convertToWord k_Fu_43 ⟨Nat.le_of_ble_eq_true rfl, Nat.le_of_ble_eq_true rfl⟩ [0, 1, 2, 3] [] rfl rfl (by decide) (by decide) (by decide) 1 0 rfl rfl rfl rfl hl.1 rfl (Nat.le_of_ble_eq_true rfl) d_Fu_perform_122 hf0 (fun r_68 u_67 H locs h hP hD hS => ?_)
                  have hP : va_P D vwCl (wU qu qf ql qo cI u_67.1 u_67.2.1 u_67.2.2.1 u_67.2.2.2) H := hP.sub [0, 1, 2, 3] rfl
                  have hD : va_D A (wU qu qf ql qo cI u_67.1 u_67.2.1 u_67.2.2.1 u_67.2.2.2) := hD.sub [0, 1, 2, 3] (by decide) rfl
                  exact W.iret (v := r_68) hx hb hr (fun t ht hW => ⟨⟨r_68, (u_67.1, u_67.2.1, u_67.2.2.1, u_67.2.2.2), rfl, h, by rw [ht]; exact hP, hD⟩, hS.F ht⟩) hS.2.2 d_Fu_perform_125
              · skip
                have h := h.2 c_53
                refine lv_iload hx hb d_Fu_perform_104 (lv_at hl 0 rfl) ?_
                refine lv_bipush (v := 15) hx hb d_Fu_perform_106 (by decide) ?_
                refine lv_icmp_le (tgt := 118) hx hb d_Fu_perform_108 (by decide) (fun c_69 => ?_) (fun c_69 => ?_)
                · skip
                  have h := h.1 c_69
                  refine lv_aload_n hx hb d_Fu_perform_118 rfl (lv_at hl 3 rfl) ?_
                  refine lv_iload_n hx hb d_Fu_perform_119 rfl (lv_at hl 4 rfl) ?_
                  refine lv_iload hx hb d_Fu_perform_120 (lv_at hl 1 rfl) ?_
                  refine zz_Wi (As := [.int a0, .int (1 : Int32)]) (rest := []) (wc := wU qu qf ql qo cI cd fg L O) (wr := []) X hK hP hD hS hA (c_Fu_convertToWord l D cI qu qf ql qo cd fg L O a0 (1 : Int32) _ h _) ⟨rfl, rfl⟩ m_Fu_convertToWord k_Fu_43 ⟨Nat.le_of_ble_eq_true rfl, Nat.le_of_ble_eq_true rfl⟩ [0, 1, 2, 3] [] rfl rfl (by decide) (by decide) (by decide) 1 0 rfl rfl rfl rfl hl.1 rfl (Nat.le_of_ble_eq_true rfl) d_Fu_perform_122 hf0 (fun r_71 u_70 H locs h hP hD hS => ?_)
                  have hP : va_P D vwCl (wU qu qf ql qo cI u_70.1 u_70.2.1 u_70.2.2.1 u_70.2.2.2) H := hP.sub [0, 1, 2, 3] rfl
                  have hD : va_D A (wU qu qf ql qo cI u_70.1 u_70.2.1 u_70.2.2.1 u_70.2.2.2) := hD.sub [0, 1, 2, 3] (by decide) rfl
                  exact W.iret (v := r_71) hx hb hr (fun t ht hW => ⟨⟨r_71, (u_70.1, u_70.2.1, u_70.2.2.1, u_70.2.2.2), rfl, h, by rw [ht]; exact hP, hD⟩, hS.F ht⟩) hS.2.2 d_Fu_perform_125
                · skip
                  have h := h.2 c_69
                  refine lv_iload hx hb d_Fu_perform_111 (lv_at hl 0 rfl) ?_
                  refine lv_bipush (v := 36) hx hb d_Fu_perform_113 (by decide) ?_
                  refine lv_icmp_ne (tgt := 126) hx hb d_Fu_perform_115 (by decide) (fun c_72 => ?_) (fun c_72 => ?_)
                  · skip
                    have h := h.2 c_72
                    refine lv_iload hx hb d_Fu_perform_126 (lv_at hl 0 rfl) ?_
                    refine lv_bipush (v := 17) hx hb d_Fu_perform_128 (by decide) ?_
                    refine lv_icmp_lt (tgt := 149) hx hb d_Fu_perform_130 (by decide) (fun c_73 => ?_) (fun c_73 => ?_)
                    · skip
                      have h := h.1 c_73
                      refine lv_iload hx hb d_Fu_perform_149 (lv_at hl 0 rfl) ?_
                      refine lv_iload hx hb d_Fu_perform_151 (lv_at hl 1 rfl) ?_
                      refine lv_if_eq (tgt := 161) hx hb d_Fu_perform_153 (by decide) (fun c_74 => ?_) (fun c_74 => ?_)
                      · exact absurd c_74 (by decide)
                      · skip
                        refine lv_bipush (v := 32) hx hb d_Fu_perform_156 (by decide) ?_
                        refine lv_goto (tgt := 163) hx hb d_Fu_perform_158 (by decide) ?_
                        refine lv_icmp_ne (tgt := 174) hx hb d_Fu_perform_163 (by decide) (fun c_75 => ?_) (fun c_75 => ?_)
                        · skip
                          have h := h.2 c_75
                          refine lv_iconst (v := 3) hx hb d_Fu_perform_174 (by decide) ?_
                          exact W.iret (v := (3 : Int32)) hx hb hr (fun t ht hW => ⟨⟨(3 : Int32), (cd, fg, L, O), rfl, h, by rw [ht]; exact hP, hD⟩, hS.F ht⟩) hS.2.2 d_Fu_perform_175
                        · skip
                          have h := h.1 c_75
                          refine lv_aload_n hx hb d_Fu_perform_166 rfl (lv_at hl 3 rfl) ?_
                          refine lv_iload_n hx hb d_Fu_perform_167 rfl (lv_at hl 4 rfl) ?_
                          refine lv_iload hx hb d_Fu_perform_168 (lv_at hl 1 rfl) ?_
                          refine zz_Wi (As := [.int a0, .int (1 : Int32)]) (rest := []) (wc := wU qu qf ql qo cI cd fg L O) (wr := []) X hK hP hD hS hA (c_Fu_convert l D cI qu qf ql qo cd fg L O a0 (1 : Int32) _ h _) ⟨rfl, rfl⟩ m_Fu_convert k_Fu_50 ⟨Nat.le_of_ble_eq_true rfl, Nat.le_of_ble_eq_true rfl⟩ [0, 1, 2, 3] [] rfl rfl (by decide) (by decide) (by decide) 1 0 rfl rfl rfl rfl hl.1 rfl (Nat.le_of_ble_eq_true rfl) d_Fu_perform_170 hf0 (fun r_77 u_76 H locs h hP hD hS => ?_)
                          have hP : va_P D vwCl (wU qu qf ql qo cI u_76.1 u_76.2.1 u_76.2.2.1 u_76.2.2.2) H := hP.sub [0, 1, 2, 3] rfl
                          have hD : va_D A (wU qu qf ql qo cI u_76.1 u_76.2.1 u_76.2.2.1 u_76.2.2.2) := hD.sub [0, 1, 2, 3] (by decide) rfl
                          exact W.iret (v := r_77) hx hb hr (fun t ht hW => ⟨⟨r_77, (u_76.1, u_76.2.1, u_76.2.2.1, u_76.2.2.2), rfl, h, by rw [ht]; exact hP, hD⟩, hS.F ht⟩) hS.2.2 d_Fu_perform_173
                    · skip
                      have h := h.2 c_73
                      refine lv_iload hx hb d_Fu_perform_133 (lv_at hl 0 rfl) ?_
                      refine lv_bipush (v := 19) hx hb d_Fu_perform_135 (by decide) ?_
                      refine lv_icmp_gt (tgt := 149) hx hb d_Fu_perform_137 (by decide) (fun c_78 => ?_) (fun c_78 => ?_)
                      · skip
                        have h := h.1 c_78
                        refine lv_iload hx hb d_Fu_perform_149 (lv_at hl 0 rfl) ?_
                        refine lv_iload hx hb d_Fu_perform_151 (lv_at hl 1 rfl) ?_
                        refine lv_if_eq (tgt := 161) hx hb d_Fu_perform_153 (by decide) (fun c_79 => ?_) (fun c_79 => ?_)
                        · exact absurd c_79 (by decide)
                        · skip
                          refine lv_bipush (v := 32) hx hb d_Fu_perform_156 (by decide) ?_
                          refine lv_goto (tgt := 163) hx hb d_Fu_perform_158 (by decide) ?_
                          refine lv_icmp_ne (tgt := 174) hx hb d_Fu_perform_163 (by decide) (fun c_80 => ?_) (fun c_80 => ?_)
                          · skip
                            have h := h.2 c_80
                            refine lv_iconst (v := 3) hx hb d_Fu_perform_174 (by decide) ?_
                            exact W.iret (v := (3 : Int32)) hx hb hr (fun t ht hW => ⟨⟨(3 : Int32), (cd, fg, L, O), rfl, h, by rw [ht]; exact hP, hD⟩, hS.F ht⟩) hS.2.2 d_Fu_perform_175
                          · skip
                            have h := h.1 c_80
                            refine lv_aload_n hx hb d_Fu_perform_166 rfl (lv_at hl 3 rfl) ?_
                            refine lv_iload_n hx hb d_Fu_perform_167 rfl (lv_at hl 4 rfl) ?_
                            refine lv_iload hx hb d_Fu_perform_168 (lv_at hl 1 rfl) ?_
                            refine zz_Wi (As := [.int a0, .int (1 : Int32)]) (rest := []) (wc := wU qu qf ql qo cI cd fg L O) (wr := []) X hK hP hD hS hA (c_Fu_convert l D cI qu qf ql qo cd fg L O a0 (1 : Int32) _ h _) ⟨rfl, rfl⟩ m_Fu_convert k_Fu_50 ⟨Nat.le_of_ble_eq_true rfl, Nat.le_of_ble_eq_true rfl⟩ [0, 1, 2, 3] [] rfl rfl (by decide) (by decide) (by decide) 1 0 rfl rfl rfl rfl hl.1 rfl (Nat.le_of_ble_eq_true rfl) d_Fu_perform_170 hf0 (fun r_82 u_81 H locs h hP hD hS => ?_)
                            have hP : va_P D vwCl (wU qu qf ql qo cI u_81.1 u_81.2.1 u_81.2.2.1 u_81.2.2.2) H := hP.sub [0, 1, 2, 3] rfl
                            have hD : va_D A (wU qu qf ql qo cI u_81.1 u_81.2.1 u_81.2.2.1 u_81.2.2.2) := hD.sub [0, 1, 2, 3] (by decide) rfl
                            exact W.iret (v := r_82) hx hb hr (fun t ht hW => ⟨⟨r_82, (u_81.1, u_81.2.1, u_81.2.2.1, u_81.2.2.2), rfl, h, by rw [ht]; exact hP, hD⟩, hS.F ht⟩) hS.2.2 d_Fu_perform_173
                      · skip
                        have h := h.2 c_78
                        refine lv_aload_n hx hb d_Fu_perform_140 rfl (lv_at hl 3 rfl) ?_
                        refine lv_iload_n hx hb d_Fu_perform_141 rfl (lv_at hl 4 rfl) ?_
                        refine lv_iload hx hb d_Fu_perform_142 (lv_at hl 1 rfl) ?_
                        refine lv_iload_n hx hb d_Fu_perform_144 rfl (lv_at hl 5 rfl) ?_
                        refine zz_Wi (As := [.int a0, .int (1 : Int32), .int a1]) (rest := []) (wc := wU qu qf ql qo cI cd fg L O) (wr := []) X hK hP hD hS hA (c_Fu_moveIf l D cI qu qf ql qo cd fg L O a0 (1 : Int32) a1 _ h _) ⟨rfl, rfl⟩ m_Fu_moveIf k_Fu_46 ⟨Nat.le_of_ble_eq_true rfl, Nat.le_of_ble_eq_true rfl⟩ [0, 1, 2, 3] [] rfl rfl (by decide) (by decide) (by decide) 1 0 rfl rfl rfl rfl hl.1 rfl (Nat.le_of_ble_eq_true rfl) d_Fu_perform_145 hf0 (fun r_84 u_83 H locs h hP hD hS => ?_)
                        have hP : va_P D vwCl (wU qu qf ql qo cI u_83.1 u_83.2.1 u_83.2.2.1 u_83.2.2.2) H := hP.sub [0, 1, 2, 3] rfl
                        have hD : va_D A (wU qu qf ql qo cI u_83.1 u_83.2.1 u_83.2.2.1 u_83.2.2.2) := hD.sub [0, 1, 2, 3] (by decide) rfl
                        exact W.iret (v := r_84) hx hb hr (fun t ht hW => ⟨⟨r_84, (u_83.1, u_83.2.1, u_83.2.2.1, u_83.2.2.2), rfl, h, by rw [ht]; exact hP, hD⟩, hS.F ht⟩) hS.2.2 d_Fu_perform_148
                  · skip
                    have h := h.1 c_72
                    refine lv_aload_n hx hb d_Fu_perform_118 rfl (lv_at hl 3 rfl) ?_
                    refine lv_iload_n hx hb d_Fu_perform_119 rfl (lv_at hl 4 rfl) ?_
                    refine lv_iload hx hb d_Fu_perform_120 (lv_at hl 1 rfl) ?_
                    refine zz_Wi (As := [.int a0, .int (1 : Int32)]) (rest := []) (wc := wU qu qf ql qo cI cd fg L O) (wr := []) X hK hP hD hS hA (c_Fu_convertToWord l D cI qu qf ql qo cd fg L O a0 (1 : Int32) _ h _) ⟨rfl, rfl⟩ m_Fu_convertToWord k_Fu_43 ⟨Nat.le_of_ble_eq_true rfl, Nat.le_of_ble_eq_true rfl⟩ [0, 1, 2, 3] [] rfl rfl (by decide) (by decide) (by decide) 1 0 rfl rfl rfl rfl hl.1 rfl (Nat.le_of_ble_eq_true rfl) d_Fu_perform_122 hf0 (fun r_86 u_85 H locs h hP hD hS => ?_)
                    have hP : va_P D vwCl (wU qu qf ql qo cI u_85.1 u_85.2.1 u_85.2.2.1 u_85.2.2.2) H := hP.sub [0, 1, 2, 3] rfl
                    have hD : va_D A (wU qu qf ql qo cI u_85.1 u_85.2.1 u_85.2.2.1 u_85.2.2.2) := hD.sub [0, 1, 2, 3] (by decide) rfl
                    exact W.iret (v := r_86) hx hb hr (fun t ht hW => ⟨⟨r_86, (u_85.1, u_85.2.1, u_85.2.2.1, u_85.2.2.2), rfl, h, by rw [ht]; exact hP, hD⟩, hS.F ht⟩) hS.2.2 d_Fu_perform_125
            · skip
              have h := h.2 c_52
              refine lv_aload_n hx hb d_Fu_perform_89 rfl (lv_at hl 3 rfl) ?_
              refine lv_iload_n hx hb d_Fu_perform_90 rfl (lv_at hl 4 rfl) ?_
              refine lv_iload hx hb d_Fu_perform_91 (lv_at hl 1 rfl) ?_
              refine zz_Wi (As := [.int a0, .int (1 : Int32)]) (rest := []) (wc := wU qu qf ql qo cI cd fg L O) (wr := []) X hK hP hD hS hA (c_Fu_compare l D cI qu qf ql qo cd fg L O a0 (1 : Int32) _ h _) ⟨rfl, rfl⟩ m_Fu_compare k_Fu_40 ⟨Nat.le_of_ble_eq_true rfl, Nat.le_of_ble_eq_true rfl⟩ [0, 1, 2, 3] [] rfl rfl (by decide) (by decide) (by decide) 1 0 rfl rfl rfl rfl hl.1 rfl (Nat.le_of_ble_eq_true rfl) d_Fu_perform_93 hf0 (fun r_88 u_87 H locs h hP hD hS => ?_)
              have hP : va_P D vwCl (wU qu qf ql qo cI u_87.1 u_87.2.1 u_87.2.2.1 u_87.2.2.2) H := hP.sub [0, 1, 2, 3] rfl
              have hD : va_D A (wU qu qf ql qo cI u_87.1 u_87.2.1 u_87.2.2.1 u_87.2.2.2) := hD.sub [0, 1, 2, 3] (by decide) rfl
              exact W.iret (v := r_88) hx hb hr (fun t ht hW => ⟨⟨r_88, (u_87.1, u_87.2.1, u_87.2.2.1, u_87.2.2.2), rfl, h, by rw [ht]; exact hP, hD⟩, hS.F ht⟩) hS.2.2 d_Fu_perform_96
          · skip
            have h := h.2 c_51
            refine lv_aload_n hx hb d_Fu_perform_74 rfl (lv_at hl 3 rfl) ?_
            refine lv_iload_n hx hb d_Fu_perform_75 rfl (lv_at hl 4 rfl) ?_
            refine lv_iload hx hb d_Fu_perform_76 (lv_at hl 1 rfl) ?_
            refine zz_Wi (As := [.int a0, .int (1 : Int32)]) (rest := []) (wc := wU qu qf ql qo cI cd fg L O) (wr := []) X hK hP hD hS hA (c_Fu_change l D cI qu qf ql qo cd fg L O a0 (1 : Int32) _ h _) ⟨rfl, rfl⟩ m_Fu_change k_Fu_37 ⟨Nat.le_of_ble_eq_true rfl, Nat.le_of_ble_eq_true rfl⟩ [0, 1, 2, 3] [] rfl rfl (by decide) (by decide) (by decide) 1 0 rfl rfl rfl rfl hl.1 rfl (Nat.le_of_ble_eq_true rfl) d_Fu_perform_78 hf0 (fun r_90 u_89 H locs h hP hD hS => ?_)
            have hP : va_P D vwCl (wU qu qf ql qo cI u_89.1 u_89.2.1 u_89.2.2.1 u_89.2.2.2) H := hP.sub [0, 1, 2, 3] rfl
            have hD : va_D A (wU qu qf ql qo cI u_89.1 u_89.2.1 u_89.2.2.1 u_89.2.2.2) := hD.sub [0, 1, 2, 3] (by decide) rfl
            exact W.iret (v := r_90) hx hb hr (fun t ht hW => ⟨⟨r_90, (u_89.1, u_89.2.1, u_89.2.2.1, u_89.2.2.2), rfl, h, by rw [ht]; exact hP, hD⟩, hS.F ht⟩) hS.2.2 d_Fu_perform_81
        · skip
          have h := h.2 c_50
          refine lv_aload_n hx hb d_Fu_perform_59 rfl (lv_at hl 3 rfl) ?_
          refine lv_iload_n hx hb d_Fu_perform_60 rfl (lv_at hl 4 rfl) ?_
          refine lv_iload hx hb d_Fu_perform_61 (lv_at hl 1 rfl) ?_
          refine zz_Wi (As := [.int a0, .int (1 : Int32)]) (rest := []) (wc := wU qu qf ql qo cI cd fg L O) (wr := []) X hK hP hD hS hA (c_Fu_compute l D cI qu qf ql qo cd fg L O a0 (1 : Int32) _ h _) ⟨rfl, rfl⟩ m_Fu_compute k_Fu_33 ⟨Nat.le_of_ble_eq_true rfl, Nat.le_of_ble_eq_true rfl⟩ [0, 1, 2, 3] [] rfl rfl (by decide) (by decide) (by decide) 1 0 rfl rfl rfl rfl hl.1 rfl (Nat.le_of_ble_eq_true rfl) d_Fu_perform_63 hf0 (fun r_92 u_91 H locs h hP hD hS => ?_)
          have hP : va_P D vwCl (wU qu qf ql qo cI u_91.1 u_91.2.1 u_91.2.2.1 u_91.2.2.2) H := hP.sub [0, 1, 2, 3] rfl
          have hD : va_D A (wU qu qf ql qo cI u_91.1 u_91.2.1 u_91.2.2.1 u_91.2.2.2) := hD.sub [0, 1, 2, 3] (by decide) rfl
          exact W.iret (v := r_92) hx hb hr (fun t ht hW => ⟨⟨r_92, (u_91.1, u_91.2.1, u_91.2.2.1, u_91.2.2.2), rfl, h, by rw [ht]; exact hP, hD⟩, hS.F ht⟩) hS.2.2 d_Fu_perform_66
    · skip
      have h := h.2 c_3
      refine lv_iload_n hx hb d_Fu_perform_26 rfl (lv_at hl 0 rfl) ?_
      refine lv_bipush (v := 17) hx hb d_Fu_perform_27 (by decide) ?_
      refine lv_icmp_eq (tgt := 34) hx hb d_Fu_perform_29 (by decide) (fun c_93 => ?_) (fun c_93 => ?_)
      · skip
        have h := h.1 c_93
        refine lv_iload_n hx hb d_Fu_perform_34 rfl (lv_at hl 0 rfl) ?_
        refine lv_bipush (v := 17) hx hb d_Fu_perform_35 (by decide) ?_
        refine lv_icmp_ne (tgt := 44) hx hb d_Fu_perform_37 (by decide) (fun c_94 => ?_) (fun c_94 => ?_)
        · exact absurd c_93 c_94
        · skip
          refine lv_iconst (v := 1) hx hb d_Fu_perform_40 (by decide) ?_
          refine lv_goto (tgt := 45) hx hb d_Fu_perform_41 (by decide) ?_
          refine lv_istore (lv' := [(4, .int (1 : Int32)), (3, .int x_1), (0, .ref qu), (1, .int a0), (2, .int a1)]) hx hb d_Fu_perform_45 hl (by decide) rfl (fun ls hl => ?_)
          refine lv_iload_n hx hb d_Fu_perform_47 rfl (lv_at hl 3 rfl) ?_
          refine lv_bipush (v := 63) hx hb d_Fu_perform_48 (by decide) ?_
          refine lv_iand hx hb d_Fu_perform_50 ?_
          refine lv_topi (fun x_95 ex_95 => ?_)
          have h := h x_95 ex_95
          refine lv_istore (lv' := [(5, .int x_95), (4, .int (1 : Int32)), (3, .int x_1), (0, .ref qu), (1, .int a0), (2, .int a1)]) hx hb d_Fu_perform_51 hl (by decide) rfl (fun ls hl => ?_)
          refine lv_iload hx hb d_Fu_perform_53 (lv_at hl 0 rfl) ?_
          refine lv_iconst (v := 3) hx hb d_Fu_perform_55 (by decide) ?_
          refine lv_icmp_gt (tgt := 67) hx hb d_Fu_perform_56 (by decide) (fun c_96 => ?_) (fun c_96 => ?_)
          · skip
            have h := h.1 c_96
            refine lv_iload hx hb d_Fu_perform_67 (lv_at hl 0 rfl) ?_
            refine lv_bipush (v := 7) hx hb d_Fu_perform_69 (by decide) ?_
            refine lv_icmp_gt (tgt := 82) hx hb d_Fu_perform_71 (by decide) (fun c_97 => ?_) (fun c_97 => ?_)
            · skip
              have h := h.1 c_97
              refine lv_iload hx hb d_Fu_perform_82 (lv_at hl 0 rfl) ?_
              refine lv_bipush (v := 48) hx hb d_Fu_perform_84 (by decide) ?_
              refine lv_icmp_lt (tgt := 97) hx hb d_Fu_perform_86 (by decide) (fun c_98 => ?_) (fun c_98 => ?_)
              · skip
                have h := h.1 c_98
                refine lv_iload hx hb d_Fu_perform_97 (lv_at hl 0 rfl) ?_
                refine lv_bipush (v := 12) hx hb d_Fu_perform_99 (by decide) ?_
                refine lv_icmp_lt (tgt := 111) hx hb d_Fu_perform_101 (by decide) (fun c_99 => ?_) (fun c_99 => ?_)
                · skip
                  have h := h.1 c_99
                  refine lv_iload hx hb d_Fu_perform_111 (lv_at hl 0 rfl) ?_
                  refine lv_bipush (v := 36) hx hb d_Fu_perform_113 (by decide) ?_
                  refine lv_icmp_ne (tgt := 126) hx hb d_Fu_perform_115 (by decide) (fun c_100 => ?_) (fun c_100 => ?_)
                  · skip
                    have h := h.2 c_100
                    refine lv_iload hx hb d_Fu_perform_126 (lv_at hl 0 rfl) ?_
                    refine lv_bipush (v := 17) hx hb d_Fu_perform_128 (by decide) ?_
                    refine lv_icmp_lt (tgt := 149) hx hb d_Fu_perform_130 (by decide) (fun c_101 => ?_) (fun c_101 => ?_)
                    · skip
                      have h := h.1 c_101
                      refine lv_iload hx hb d_Fu_perform_149 (lv_at hl 0 rfl) ?_
                      refine lv_iload hx hb d_Fu_perform_151 (lv_at hl 1 rfl) ?_
                      refine lv_if_eq (tgt := 161) hx hb d_Fu_perform_153 (by decide) (fun c_102 => ?_) (fun c_102 => ?_)
                      · exact absurd c_102 (by decide)
                      · skip
                        refine lv_bipush (v := 32) hx hb d_Fu_perform_156 (by decide) ?_
                        refine lv_goto (tgt := 163) hx hb d_Fu_perform_158 (by decide) ?_
                        refine lv_icmp_ne (tgt := 174) hx hb d_Fu_perform_163 (by decide) (fun c_103 => ?_) (fun c_103 => ?_)
                        · skip
                          have h := h.2 c_103
                          refine lv_iconst (v := 3) hx hb d_Fu_perform_174 (by decide) ?_
                          exact W.iret (v := (3 : Int32)) hx hb hr (fun t ht hW => ⟨⟨(3 : Int32), (cd, fg, L, O), rfl, h, by rw [ht]; exact hP, hD⟩, hS.F ht⟩) hS.2.2 d_Fu_perform_175
                        · skip
                          have h := h.1 c_103
                          refine lv_aload_n hx hb d_Fu_perform_166 rfl (lv_at hl 3 rfl) ?_
                          refine lv_iload_n hx hb d_Fu_perform_167 rfl (lv_at hl 4 rfl) ?_
                          refine lv_iload hx hb d_Fu_perform_168 (lv_at hl 1 rfl) ?_
                          refine zz_Wi (As := [.int a0, .int (1 : Int32)]) (rest := []) (wc := wU qu qf ql qo cI cd fg L O) (wr := []) X hK hP hD hS hA (c_Fu_convert l D cI qu qf ql qo cd fg L O a0 (1 : Int32) _ h _) ⟨rfl, rfl⟩ m_Fu_convert k_Fu_50 ⟨Nat.le_of_ble_eq_true rfl, Nat.le_of_ble_eq_true rfl⟩ [0, 1, 2, 3] [] rfl rfl (by decide) (by decide) (by decide) 1 0 rfl rfl rfl rfl hl.1 rfl (Nat.le_of_ble_eq_true rfl) d_Fu_perform_170 hf0 (fun r_105 u_104 H locs h hP hD hS => ?_)
                          have hP : va_P D vwCl (wU qu qf ql qo cI u_104.1 u_104.2.1 u_104.2.2.1 u_104.2.2.2) H := hP.sub [0, 1, 2, 3] rfl
                          have hD : va_D A (wU qu qf ql qo cI u_104.1 u_104.2.1 u_104.2.2.1 u_104.2.2.2) := hD.sub [0, 1, 2, 3] (by decide) rfl
                          exact W.iret (v := r_105) hx hb hr (fun t ht hW => ⟨⟨r_105, (u_104.1, u_104.2.1, u_104.2.2.1, u_104.2.2.2), rfl, h, by rw [ht]; exact hP, hD⟩, hS.F ht⟩) hS.2.2 d_Fu_perform_173
                    · skip
                      have h := h.2 c_101
                      refine lv_iload hx hb d_Fu_perform_133 (lv_at hl 0 rfl) ?_
                      refine lv_bipush (v := 19) hx hb d_Fu_perform_135 (by decide) ?_
                      refine lv_icmp_gt (tgt := 149) hx hb d_Fu_perform_137 (by decide) (fun c_106 => ?_) (fun c_106 => ?_)
                      · skip
                        have h := h.1 c_106
                        refine lv_iload hx hb d_Fu_perform_149 (lv_at hl 0 rfl) ?_
                        refine lv_iload hx hb d_Fu_perform_151 (lv_at hl 1 rfl) ?_
                        refine lv_if_eq (tgt := 161) hx hb d_Fu_perform_153 (by decide) (fun c_107 => ?_) (fun c_107 => ?_)
                        · exact absurd c_107 (by decide)
                        · skip
                          refine lv_bipush (v := 32) hx hb d_Fu_perform_156 (by decide) ?_
                          refine lv_goto (tgt := 163) hx hb d_Fu_perform_158 (by decide) ?_
                          refine lv_icmp_ne (tgt := 174) hx hb d_Fu_perform_163 (by decide) (fun c_108 => ?_) (fun c_108 => ?_)
                          · skip
                            have h := h.2 c_108
                            refine lv_iconst (v := 3) hx hb d_Fu_perform_174 (by decide) ?_
                            exact W.iret (v := (3 : Int32)) hx hb hr (fun t ht hW => ⟨⟨(3 : Int32), (cd, fg, L, O), rfl, h, by rw [ht]; exact hP, hD⟩, hS.F ht⟩) hS.2.2 d_Fu_perform_175
                          · skip
                            have h := h.1 c_108
                            refine lv_aload_n hx hb d_Fu_perform_166 rfl (lv_at hl 3 rfl) ?_
                            refine lv_iload_n hx hb d_Fu_perform_167 rfl (lv_at hl 4 rfl) ?_
                            refine lv_iload hx hb d_Fu_perform_168 (lv_at hl 1 rfl) ?_
                            refine zz_Wi (As := [.int a0, .int (1 : Int32)]) (rest := []) (wc := wU qu qf ql qo cI cd fg L O) (wr := []) X hK hP hD hS hA (c_Fu_convert l D cI qu qf ql qo cd fg L O a0 (1 : Int32) _ h _) ⟨rfl, rfl⟩ m_Fu_convert k_Fu_50 ⟨Nat.le_of_ble_eq_true rfl, Nat.le_of_ble_eq_true rfl⟩ [0, 1, 2, 3] [] rfl rfl (by decide) (by decide) (by decide) 1 0 rfl rfl rfl rfl hl.1 rfl (Nat.le_of_ble_eq_true rfl) d_Fu_perform_170 hf0 (fun r_110 u_109 H locs h hP hD hS => ?_)
                            have hP : va_P D vwCl (wU qu qf ql qo cI u_109.1 u_109.2.1 u_109.2.2.1 u_109.2.2.2) H := hP.sub [0, 1, 2, 3] rfl
                            have hD : va_D A (wU qu qf ql qo cI u_109.1 u_109.2.1 u_109.2.2.1 u_109.2.2.2) := hD.sub [0, 1, 2, 3] (by decide) rfl
                            exact W.iret (v := r_110) hx hb hr (fun t ht hW => ⟨⟨r_110, (u_109.1, u_109.2.1, u_109.2.2.1, u_109.2.2.2), rfl, h, by rw [ht]; exact hP, hD⟩, hS.F ht⟩) hS.2.2 d_Fu_perform_173
                      · skip
                        have h := h.2 c_106
                        refine lv_aload_n hx hb d_Fu_perform_140 rfl (lv_at hl 3 rfl) ?_
                        refine lv_iload_n hx hb d_Fu_perform_141 rfl (lv_at hl 4 rfl) ?_
                        refine lv_iload hx hb d_Fu_perform_142 (lv_at hl 1 rfl) ?_
                        refine lv_iload_n hx hb d_Fu_perform_144 rfl (lv_at hl 5 rfl) ?_
                        refine zz_Wi (As := [.int a0, .int (1 : Int32), .int a1]) (rest := []) (wc := wU qu qf ql qo cI cd fg L O) (wr := []) X hK hP hD hS hA (c_Fu_moveIf l D cI qu qf ql qo cd fg L O a0 (1 : Int32) a1 _ h _) ⟨rfl, rfl⟩ m_Fu_moveIf k_Fu_46 ⟨Nat.le_of_ble_eq_true rfl, Nat.le_of_ble_eq_true rfl⟩ [0, 1, 2, 3] [] rfl rfl (by decide) (by decide) (by decide) 1 0 rfl rfl rfl rfl hl.1 rfl (Nat.le_of_ble_eq_true rfl) d_Fu_perform_145 hf0 (fun r_112 u_111 H locs h hP hD hS => ?_)
                        have hP : va_P D vwCl (wU qu qf ql qo cI u_111.1 u_111.2.1 u_111.2.2.1 u_111.2.2.2) H := hP.sub [0, 1, 2, 3] rfl
                        have hD : va_D A (wU qu qf ql qo cI u_111.1 u_111.2.1 u_111.2.2.1 u_111.2.2.2) := hD.sub [0, 1, 2, 3] (by decide) rfl
                        exact W.iret (v := r_112) hx hb hr (fun t ht hW => ⟨⟨r_112, (u_111.1, u_111.2.1, u_111.2.2.1, u_111.2.2.2), rfl, h, by rw [ht]; exact hP, hD⟩, hS.F ht⟩) hS.2.2 d_Fu_perform_148
                  · skip
                    have h := h.1 c_100
                    refine lv_aload_n hx hb d_Fu_perform_118 rfl (lv_at hl 3 rfl) ?_
                    refine lv_iload_n hx hb d_Fu_perform_119 rfl (lv_at hl 4 rfl) ?_
                    refine lv_iload hx hb d_Fu_perform_120 (lv_at hl 1 rfl) ?_
                    refine zz_Wi (As := [.int a0, .int (1 : Int32)]) (rest := []) (wc := wU qu qf ql qo cI cd fg L O) (wr := []) X hK hP hD hS hA (c_Fu_convertToWord l D cI qu qf ql qo cd fg L O a0 (1 : Int32) _ h _) ⟨rfl, rfl⟩ m_Fu_convertToWord k_Fu_43 ⟨Nat.le_of_ble_eq_true rfl, Nat.le_of_ble_eq_true rfl⟩ [0, 1, 2, 3] [] rfl rfl (by decide) (by decide) (by decide) 1 0 rfl rfl rfl rfl hl.1 rfl (Nat.le_of_ble_eq_true rfl) d_Fu_perform_122 hf0 (fun r_114 u_113 H locs h hP hD hS => ?_)
                    have hP : va_P D vwCl (wU qu qf ql qo cI u_113.1 u_113.2.1 u_113.2.2.1 u_113.2.2.2) H := hP.sub [0, 1, 2, 3] rfl
                    have hD : va_D A (wU qu qf ql qo cI u_113.1 u_113.2.1 u_113.2.2.1 u_113.2.2.2) := hD.sub [0, 1, 2, 3] (by decide) rfl
                    exact W.iret (v := r_114) hx hb hr (fun t ht hW => ⟨⟨r_114, (u_113.1, u_113.2.1, u_113.2.2.1, u_113.2.2.2), rfl, h, by rw [ht]; exact hP, hD⟩, hS.F ht⟩) hS.2.2 d_Fu_perform_125
                · skip
                  have h := h.2 c_99
                  refine lv_iload hx hb d_Fu_perform_104 (lv_at hl 0 rfl) ?_
                  refine lv_bipush (v := 15) hx hb d_Fu_perform_106 (by decide) ?_
                  refine lv_icmp_le (tgt := 118) hx hb d_Fu_perform_108 (by decide) (fun c_115 => ?_) (fun c_115 => ?_)
                  · skip
                    have h := h.1 c_115
                    refine lv_aload_n hx hb d_Fu_perform_118 rfl (lv_at hl 3 rfl) ?_
                    refine lv_iload_n hx hb d_Fu_perform_119 rfl (lv_at hl 4 rfl) ?_
                    refine lv_iload hx hb d_Fu_perform_120 (lv_at hl 1 rfl) ?_
                    refine zz_Wi (As := [.int a0, .int (1 : Int32)]) (rest := []) (wc := wU qu qf ql qo cI cd fg L O) (wr := []) X hK hP hD hS hA (c_Fu_convertToWord l D cI qu qf ql qo cd fg L O a0 (1 : Int32) _ h _) ⟨rfl, rfl⟩ m_Fu_convertToWord k_Fu_43 ⟨Nat.le_of_ble_eq_true rfl, Nat.le_of_ble_eq_true rfl⟩ [0, 1, 2, 3] [] rfl rfl (by decide) (by decide) (by decide) 1 0 rfl rfl rfl rfl hl.1 rfl (Nat.le_of_ble_eq_true rfl) d_Fu_perform_122 hf0 (fun r_117 u_116 H locs h hP hD hS => ?_)
                    have hP : va_P D vwCl (wU qu qf ql qo cI u_116.1 u_116.2.1 u_116.2.2.1 u_116.2.2.2) H := hP.sub [0, 1, 2, 3] rfl
                    have hD : va_D A (wU qu qf ql qo cI u_116.1 u_116.2.1 u_116.2.2.1 u_116.2.2.2) := hD.sub [0, 1, 2, 3] (by decide) rfl
                    exact W.iret (v := r_117) hx hb hr (fun t ht hW => ⟨⟨r_117, (u_116.1, u_116.2.1, u_116.2.2.1, u_116.2.2.2), rfl, h, by rw [ht]; exact hP, hD⟩, hS.F ht⟩) hS.2.2 d_Fu_perform_125
                  · skip
                    have h := h.2 c_115
                    refine lv_iload hx hb d_Fu_perform_111 (lv_at hl 0 rfl) ?_
                    refine lv_bipush (v := 36) hx hb d_Fu_perform_113 (by decide) ?_
                    refine lv_icmp_ne (tgt := 126) hx hb d_Fu_perform_115 (by decide) (fun c_118 => ?_) (fun c_118 => ?_)
                    · skip
                      have h := h.2 c_118
                      refine lv_iload hx hb d_Fu_perform_126 (lv_at hl 0 rfl) ?_
                      refine lv_bipush (v := 17) hx hb d_Fu_perform_128 (by decide) ?_
                      refine lv_icmp_lt (tgt := 149) hx hb d_Fu_perform_130 (by decide) (fun c_119 => ?_) (fun c_119 => ?_)
                      · skip
                        have h := h.1 c_119
                        refine lv_iload hx hb d_Fu_perform_149 (lv_at hl 0 rfl) ?_
                        refine lv_iload hx hb d_Fu_perform_151 (lv_at hl 1 rfl) ?_
                        refine lv_if_eq (tgt := 161) hx hb d_Fu_perform_153 (by decide) (fun c_120 => ?_) (fun c_120 => ?_)
                        · exact absurd c_120 (by decide)
                        · skip
                          refine lv_bipush (v := 32) hx hb d_Fu_perform_156 (by decide) ?_
                          refine lv_goto (tgt := 163) hx hb d_Fu_perform_158 (by decide) ?_
                          refine lv_icmp_ne (tgt := 174) hx hb d_Fu_perform_163 (by decide) (fun c_121 => ?_) (fun c_121 => ?_)
                          · skip
                            have h := h.2 c_121
                            refine lv_iconst (v := 3) hx hb d_Fu_perform_174 (by decide) ?_
                            exact W.iret (v := (3 : Int32)) hx hb hr (fun t ht hW => ⟨⟨(3 : Int32), (cd, fg, L, O), rfl, h, by rw [ht]; exact hP, hD⟩, hS.F ht⟩) hS.2.2 d_Fu_perform_175
                          · skip
                            have h := h.1 c_121
                            refine lv_aload_n hx hb d_Fu_perform_166 rfl (lv_at hl 3 rfl) ?_
                            refine lv_iload_n hx hb d_Fu_perform_167 rfl (lv_at hl 4 rfl) ?_
                            refine lv_iload hx hb d_Fu_perform_168 (lv_at hl 1 rfl) ?_
                            refine zz_Wi (As := [.int a0, .int (1 : Int32)]) (rest := []) (wc := wU qu qf ql qo cI cd fg L O) (wr := []) X hK hP hD hS hA (c_Fu_convert l D cI qu qf ql qo cd fg L O a0 (1 : Int32) _ h _) ⟨rfl, rfl⟩ m_Fu_convert k_Fu_50 ⟨Nat.le_of_ble_eq_true rfl, Nat.le_of_ble_eq_true rfl⟩ [0, 1, 2, 3] [] rfl rfl (by decide) (by decide) (by decide) 1 0 rfl rfl rfl rfl hl.1 rfl (Nat.le_of_ble_eq_true rfl) d_Fu_perform_170 hf0 (fun r_123 u_122 H locs h hP hD hS => ?_)
                            have hP : va_P D vwCl (wU qu qf ql qo cI u_122.1 u_122.2.1 u_122.2.2.1 u_122.2.2.2) H := hP.sub [0, 1, 2, 3] rfl
                            have hD : va_D A (wU qu qf ql qo cI u_122.1 u_122.2.1 u_122.2.2.1 u_122.2.2.2) := hD.sub [0, 1, 2, 3] (by decide) rfl
                            exact W.iret (v := r_123) hx hb hr (fun t ht hW => ⟨⟨r_123, (u_122.1, u_122.2.1, u_122.2.2.1, u_122.2.2.2), rfl, h, by rw [ht]; exact hP, hD⟩, hS.F ht⟩) hS.2.2 d_Fu_perform_173
                      · skip
                        have h := h.2 c_119
                        refine lv_iload hx hb d_Fu_perform_133 (lv_at hl 0 rfl) ?_
                        refine lv_bipush (v := 19) hx hb d_Fu_perform_135 (by decide) ?_
                        refine lv_icmp_gt (tgt := 149) hx hb d_Fu_perform_137 (by decide) (fun c_124 => ?_) (fun c_124 => ?_)
                        · skip
                          have h := h.1 c_124
                          refine lv_iload hx hb d_Fu_perform_149 (lv_at hl 0 rfl) ?_
                          refine lv_iload hx hb d_Fu_perform_151 (lv_at hl 1 rfl) ?_
                          refine lv_if_eq (tgt := 161) hx hb d_Fu_perform_153 (by decide) (fun c_125 => ?_) (fun c_125 => ?_)
                          · exact absurd c_125 (by decide)
                          · skip
                            refine lv_bipush (v := 32) hx hb d_Fu_perform_156 (by decide) ?_
                            refine lv_goto (tgt := 163) hx hb d_Fu_perform_158 (by decide) ?_
                            refine lv_icmp_ne (tgt := 174) hx hb d_Fu_perform_163 (by decide) (fun c_126 => ?_) (fun c_126 => ?_)
                            · skip
                              have h := h.2 c_126
                              refine lv_iconst (v := 3) hx hb d_Fu_perform_174 (by decide) ?_
                              exact W.iret (v := (3 : Int32)) hx hb hr (fun t ht hW => ⟨⟨(3 : Int32), (cd, fg, L, O), rfl, h, by rw [ht]; exact hP, hD⟩, hS.F ht⟩) hS.2.2 d_Fu_perform_175
                            · skip
                              have h := h.1 c_126
                              refine lv_aload_n hx hb d_Fu_perform_166 rfl (lv_at hl 3 rfl) ?_
                              refine lv_iload_n hx hb d_Fu_perform_167 rfl (lv_at hl 4 rfl) ?_
                              refine lv_iload hx hb d_Fu_perform_168 (lv_at hl 1 rfl) ?_
                              refine zz_Wi (As := [.int a0, .int (1 : Int32)]) (rest := []) (wc := wU qu qf ql qo cI cd fg L O) (wr := []) X hK hP hD hS hA (c_Fu_convert l D cI qu qf ql qo cd fg L O a0 (1 : Int32) _ h _) ⟨rfl, rfl⟩ m_Fu_convert k_Fu_50 ⟨Nat.le_of_ble_eq_true rfl, Nat.le_of_ble_eq_true rfl⟩ [0, 1, 2, 3] [] rfl rfl (by decide) (by decide) (by decide) 1 0 rfl rfl rfl rfl hl.1 rfl (Nat.le_of_ble_eq_true rfl) d_Fu_perform_170 hf0 (fun r_128 u_127 H locs h hP hD hS => ?_)
                              have hP : va_P D vwCl (wU qu qf ql qo cI u_127.1 u_127.2.1 u_127.2.2.1 u_127.2.2.2) H := hP.sub [0, 1, 2, 3] rfl
                              have hD : va_D A (wU qu qf ql qo cI u_127.1 u_127.2.1 u_127.2.2.1 u_127.2.2.2) := hD.sub [0, 1, 2, 3] (by decide) rfl
                              exact W.iret (v := r_128) hx hb hr (fun t ht hW => ⟨⟨r_128, (u_127.1, u_127.2.1, u_127.2.2.1, u_127.2.2.2), rfl, h, by rw [ht]; exact hP, hD⟩, hS.F ht⟩) hS.2.2 d_Fu_perform_173
                        · skip
                          have h := h.2 c_124
                          refine lv_aload_n hx hb d_Fu_perform_140 rfl (lv_at hl 3 rfl) ?_
                          refine lv_iload_n hx hb d_Fu_perform_141 rfl (lv_at hl 4 rfl) ?_
                          refine lv_iload hx hb d_Fu_perform_142 (lv_at hl 1 rfl) ?_
                          refine lv_iload_n hx hb d_Fu_perform_144 rfl (lv_at hl 5 rfl) ?_
                          refine zz_Wi (As := [.int a0, .int (1 : Int32), .int a1]) (rest := []) (wc := wU qu qf ql qo cI cd fg L O) (wr := []) X hK hP hD hS hA (c_Fu_moveIf l D cI qu qf ql qo cd fg L O a0 (1 : Int32) a1 _ h _) ⟨rfl, rfl⟩ m_Fu_moveIf k_Fu_46 ⟨Nat.le_of_ble_eq_true rfl, Nat.le_of_ble_eq_true rfl⟩ [0, 1, 2, 3] [] rfl rfl (by decide) (by decide) (by decide) 1 0 rfl rfl rfl rfl hl.1 rfl (Nat.le_of_ble_eq_true rfl) d_Fu_perform_145 hf0 (fun r_130 u_129 H locs h hP hD hS => ?_)
                          have hP : va_P D vwCl (wU qu qf ql qo cI u_129.1 u_129.2.1 u_129.2.2.1 u_129.2.2.2) H := hP.sub [0, 1, 2, 3] rfl
                          have hD : va_D A (wU qu qf ql qo cI u_129.1 u_129.2.1 u_129.2.2.1 u_129.2.2.2) := hD.sub [0, 1, 2, 3] (by decide) rfl
                          exact W.iret (v := r_130) hx hb hr (fun t ht hW => ⟨⟨r_130, (u_129.1, u_129.2.1, u_129.2.2.1, u_129.2.2.2), rfl, h, by rw [ht]; exact hP, hD⟩, hS.F ht⟩) hS.2.2 d_Fu_perform_148
                    · skip
                      have h := h.1 c_118
                      refine lv_aload_n hx hb d_Fu_perform_118 rfl (lv_at hl 3 rfl) ?_
                      refine lv_iload_n hx hb d_Fu_perform_119 rfl (lv_at hl 4 rfl) ?_
                      refine lv_iload hx hb d_Fu_perform_120 (lv_at hl 1 rfl) ?_
                      refine zz_Wi (As := [.int a0, .int (1 : Int32)]) (rest := []) (wc := wU qu qf ql qo cI cd fg L O) (wr := []) X hK hP hD hS hA (c_Fu_convertToWord l D cI qu qf ql qo cd fg L O a0 (1 : Int32) _ h _) ⟨rfl, rfl⟩ m_Fu_convertToWord k_Fu_43 ⟨Nat.le_of_ble_eq_true rfl, Nat.le_of_ble_eq_true rfl⟩ [0, 1, 2, 3] [] rfl rfl (by decide) (by decide) (by decide) 1 0 rfl rfl rfl rfl hl.1 rfl (Nat.le_of_ble_eq_true rfl) d_Fu_perform_122 hf0 (fun r_132 u_131 H locs h hP hD hS => ?_)
                      have hP : va_P D vwCl (wU qu qf ql qo cI u_131.1 u_131.2.1 u_131.2.2.1 u_131.2.2.2) H := hP.sub [0, 1, 2, 3] rfl
                      have hD : va_D A (wU qu qf ql qo cI u_131.1 u_131.2.1 u_131.2.2.1 u_131.2.2.2) := hD.sub [0, 1, 2, 3] (by decide) rfl
                      exact W.iret (v := r_132) hx hb hr (fun t ht hW => ⟨⟨r_132, (u_131.1, u_131.2.1, u_131.2.2.1, u_131.2.2.2), rfl, h, by rw [ht]; exact hP, hD⟩, hS.F ht⟩) hS.2.2 d_Fu_perform_125
              · skip
                have h := h.2 c_98
                refine lv_aload_n hx hb d_Fu_perform_89 rfl (lv_at hl 3 rfl) ?_
                refine lv_iload_n hx hb d_Fu_perform_90 rfl (lv_at hl 4 rfl) ?_
                refine lv_iload hx hb d_Fu_perform_91 (lv_at hl 1 rfl) ?_
                refine zz_Wi (As := [.int a0, .int (1 : Int32)]) (rest := []) (wc := wU qu qf ql qo cI cd fg L O) (wr := []) X hK hP hD hS hA (c_Fu_compare l D cI qu qf ql qo cd fg L O a0 (1 : Int32) _ h _) ⟨rfl, rfl⟩ m_Fu_compare k_Fu_40 ⟨Nat.le_of_ble_eq_true rfl, Nat.le_of_ble_eq_true rfl⟩ [0, 1, 2, 3] [] rfl rfl (by decide) (by decide) (by decide) 1 0 rfl rfl rfl rfl hl.1 rfl (Nat.le_of_ble_eq_true rfl) d_Fu_perform_93 hf0 (fun r_134 u_133 H locs h hP hD hS => ?_)
                have hP : va_P D vwCl (wU qu qf ql qo cI u_133.1 u_133.2.1 u_133.2.2.1 u_133.2.2.2) H := hP.sub [0, 1, 2, 3] rfl
                have hD : va_D A (wU qu qf ql qo cI u_133.1 u_133.2.1 u_133.2.2.1 u_133.2.2.2) := hD.sub [0, 1, 2, 3] (by decide) rfl
                exact W.iret (v := r_134) hx hb hr (fun t ht hW => ⟨⟨r_134, (u_133.1, u_133.2.1, u_133.2.2.1, u_133.2.2.2), rfl, h, by rw [ht]; exact hP, hD⟩, hS.F ht⟩) hS.2.2 d_Fu_perform_96
            · skip
              have h := h.2 c_97
              refine lv_aload_n hx hb d_Fu_perform_74 rfl (lv_at hl 3 rfl) ?_
              refine lv_iload_n hx hb d_Fu_perform_75 rfl (lv_at hl 4 rfl) ?_
              refine lv_iload hx hb d_Fu_perform_76 (lv_at hl 1 rfl) ?_
              refine zz_Wi (As := [.int a0, .int (1 : Int32)]) (rest := []) (wc := wU qu qf ql qo cI cd fg L O) (wr := []) X hK hP hD hS hA (c_Fu_change l D cI qu qf ql qo cd fg L O a0 (1 : Int32) _ h _) ⟨rfl, rfl⟩ m_Fu_change k_Fu_37 ⟨Nat.le_of_ble_eq_true rfl, Nat.le_of_ble_eq_true rfl⟩ [0, 1, 2, 3] [] rfl rfl (by decide) (by decide) (by decide) 1 0 rfl rfl rfl rfl hl.1 rfl (Nat.le_of_ble_eq_true rfl) d_Fu_perform_78 hf0 (fun r_136 u_135 H locs h hP hD hS => ?_)
              have hP : va_P D vwCl (wU qu qf ql qo cI u_135.1 u_135.2.1 u_135.2.2.1 u_135.2.2.2) H := hP.sub [0, 1, 2, 3] rfl
              have hD : va_D A (wU qu qf ql qo cI u_135.1 u_135.2.1 u_135.2.2.1 u_135.2.2.2) := hD.sub [0, 1, 2, 3] (by decide) rfl
              exact W.iret (v := r_136) hx hb hr (fun t ht hW => ⟨⟨r_136, (u_135.1, u_135.2.1, u_135.2.2.1, u_135.2.2.2), rfl, h, by rw [ht]; exact hP, hD⟩, hS.F ht⟩) hS.2.2 d_Fu_perform_81
          · skip
            have h := h.2 c_96
            refine lv_aload_n hx hb d_Fu_perform_59 rfl (lv_at hl 3 rfl) ?_
            refine lv_iload_n hx hb d_Fu_perform_60 rfl (lv_at hl 4 rfl) ?_
            refine lv_iload hx hb d_Fu_perform_61 (lv_at hl 1 rfl) ?_
            refine zz_Wi (As := [.int a0, .int (1 : Int32)]) (rest := []) (wc := wU qu qf ql qo cI cd fg L O) (wr := []) X hK hP hD hS hA (c_Fu_compute l D cI qu qf ql qo cd fg L O a0 (1 : Int32) _ h _) ⟨rfl, rfl⟩ m_Fu_compute k_Fu_33 ⟨Nat.le_of_ble_eq_true rfl, Nat.le_of_ble_eq_true rfl⟩ [0, 1, 2, 3] [] rfl rfl (by decide) (by decide) (by decide) 1 0 rfl rfl rfl rfl hl.1 rfl (Nat.le_of_ble_eq_true rfl) d_Fu_perform_63 hf0 (fun r_138 u_137 H locs h hP hD hS => ?_)
            have hP : va_P D vwCl (wU qu qf ql qo cI u_137.1 u_137.2.1 u_137.2.2.1 u_137.2.2.2) H := hP.sub [0, 1, 2, 3] rfl
            have hD : va_D A (wU qu qf ql qo cI u_137.1 u_137.2.1 u_137.2.2.1 u_137.2.2.2) := hD.sub [0, 1, 2, 3] (by decide) rfl
            exact W.iret (v := r_138) hx hb hr (fun t ht hW => ⟨⟨r_138, (u_137.1, u_137.2.1, u_137.2.2.1, u_137.2.2.2), rfl, h, by rw [ht]; exact hP, hD⟩, hS.F ht⟩) hS.2.2 d_Fu_perform_66
      · skip
        have h := h.2 c_93
        refine lv_iconst (v := 3) hx hb d_Fu_perform_32 (by decide) ?_
        exact W.iret (v := (3 : Int32)) hx hb hr (fun t ht hW => ⟨⟨(3 : Int32), (cd, fg, L, O), rfl, h, by rw [ht]; exact hP, hD⟩, hS.F ht⟩) hS.2.2 d_Fu_perform_33
  · skip
    have h := h.1 c_2
    refine lv_aload_n hx hb d_Fu_perform_14 rfl (lv_at hl 1 rfl) ?_
    refine lv_iload_n hx hb d_Fu_perform_15 rfl (lv_at hl 2 rfl) ?_
    refine zz_Wi (As := [.int a0]) (rest := []) (wc := wU qu qf ql qo cI cd fg L O) (wr := []) X hK hP hD hS hA (c_Fu_convertFromWord l D cI qu qf ql qo cd fg L O a0 _ h _) ⟨rfl, rfl⟩ m_Fu_convertFromWord k_Fu_29 ⟨Nat.le_of_ble_eq_true rfl, Nat.le_of_ble_eq_true rfl⟩ [0, 1, 2, 3] [] rfl rfl (by decide) (by decide) (by decide) 1 0 rfl rfl rfl rfl hl.1 rfl (Nat.le_of_ble_eq_true rfl) d_Fu_perform_16 hf0 (fun r_140 u_139 H locs h hP hD hS => ?_)
    have hP : va_P D vwCl (wU qu qf ql qo cI u_139.1 u_139.2.1 u_139.2.2.1 u_139.2.2.2) H := hP.sub [0, 1, 2, 3] rfl
    have hD : va_D A (wU qu qf ql qo cI u_139.1 u_139.2.1 u_139.2.2.1 u_139.2.2.2) := hD.sub [0, 1, 2, 3] (by decide) rfl
    exact W.iret (v := r_140) hx hb hr (fun t ht hW => ⟨⟨r_140, (u_139.1, u_139.2.1, u_139.2.2.1, u_139.2.2.2), rfl, h, by rw [ht]; exact hP, hD⟩, hS.F ht⟩) hS.2.2 d_Fu_perform_19
