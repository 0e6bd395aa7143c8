def wp_Pr_load (ms : Int32) (mn : Nat) (g : Nat → Int32) (rg : Nat → Int32) (hq : Nat → Int32) (mf : Nat → Int32) (cd : Int32) (fg : Nat → Int32) (L : Int32 × Int32 × Int32 × Int64) (O : Int32 × Int32 × Int32 × Int64) (a0 : Int32) (P : Int32 → ((Nat → Int32) × (Nat → Int32) × (Nat → Int32) × (Nat → Int32) × Int32 × (Nat → Int32) × (Int32 × Int32 × Int32 × Int64) × (Int32 × Int32 × Int32 × Int64)) → Prop) : Prop := wp_Pr_address ms mn g rg hq mf cd fg L O a0 (fun r_1 => wp_Pr_bytes a0 (fun r_2 => wp_Me_good ms mn mf r_1 r_2 (fun r_3 => ((r_3 = (0 : Int32) → P (1 : Int32) (g, rg, hq, mf, cd, fg, L, O)) ∧ (¬ r_3 = (0 : Int32) → wp_Me_read ms mn mf r_1 r_2 (fun r_5 => wp_Pr_opcode a0 (fun r_6 => (((36 : Int32) ≤ r_6 → ∀ x_8 : Int32, x_8 = ((32 : Int32) - ((8 : Int32) * r_2)) → ∀ x_9 : Int32, x_9 = ((g 8) + (1 : Int32)) → wp_Pr_rt a0 (fun r_10 => wp_Pr_result ms mn (upd g 8 x_9) rg hq mf cd fg L O r_10 r_5 (fun r_13 u_12 => P r_13 (u_12.1, u_12.2.1, u_12.2.2.1, u_12.2.2.2.1, u_12.2.2.2.2.1, u_12.2.2.2.2.2.1, u_12.2.2.2.2.2.2.1, u_12.2.2.2.2.2.2.2)))) ∧ (¬ (36 : Int32) ≤ r_6 → ∀ x_14 : Int32, x_14 = ((32 : Int32) - ((8 : Int32) * r_2)) → ∀ x_15 : Int32, x_15 = ((g 8) + (1 : Int32)) → wp_Pr_rt a0 (fun r_16 => ∀ x_18 : Int32, x_18 = (zz_shr (zz_shl r_5 x_14) x_14) → wp_Pr_result ms mn (upd g 8 x_15) rg hq mf cd fg L O r_16 x_18 (fun r_20 u_19 => P r_20 (u_19.1, u_19.2.1, u_19.2.2.1, u_19.2.2.2.1, u_19.2.2.2.2.1, u_19.2.2.2.2.2.1, u_19.2.2.2.2.2.2.1, u_19.2.2.2.2.2.2.2))))))))))))
abbrev rm_Pr_load : Room := { frames := 2, cells := 0, slots := 0, locals := 44 }
set_option maxHeartbeats 4000000 in
set_option maxRecDepth 100000 in
theorem c_Pr_load (l : Launch) (D : va_G) (cI : ClassId) (qp : Nat) (qr : Nat) (qh : Nat) (qm : Nat) (qw : Nat) (qu : Nat) (qf : Nat) (ql : Nat) (qo : Nat) (ms : Int32) (mn : Nat) (g : Nat → Int32) (rg : Nat → Int32) (hq : Nat → Int32) (mf : Nat → Int32) (cd : Int32) (fg : Nat → Int32) (L : Int32 × Int32 × Int32 × Int64) (O : Int32 × Int32 × Int32 × Int64) (a0 : Int32) (P : Int32 → ((Nat → Int32) × (Nat → Int32) × (Nat → Int32) × (Nat → Int32) × Int32 × (Nat → Int32) × (Int32 × Int32 × Int32 × Int64) × (Int32 × Int32 × Int32 × Int64)) → Prop) (h : wp_Pr_load ms mn g rg hq mf cd fg L O a0 P) (sz : Nat) : Met l y_Pr_load (zz_ws y_Pr_load b_Pr_load 7 (some .int)) rm_Pr_load (va_Pc [.ref qp, .int a0] (zz_pw D [(cI, .int)] (wP qp qr qh qm qw qu qf ql qo cI ms mn g rg hq mf cd fg L O) sz)) (va_Qi P (zz_qw D (fun u => wP qp qr qh qm qw qu qf ql qo cI ms mn u.1 u.2.1 u.2.2.1 u.2.2.2.1 u.2.2.2.2.1 u.2.2.2.2.2.1 u.2.2.2.2.2.2.1 u.2.2.2.2.2.2.2) (va_A (wP qp qr qh qm qw qu qf ql qo cI ms mn g rg hq mf cd fg L O) sz)) (va_A (wP qp qr qh qm qw qu qf ql qo cI ms mn g rg hq mf cd fg L O) sz)) 0 0 (va_A (wP qp qr qh qm qw qu qf ql qo cI ms mn g rg hq mf cd fg L O) sz) := by
  refine Met.ofW (cc := b_Pr_load) (maxL := 7) (ret := (some .int)) (by decide) rfl ?_
  intro p e s m args below meth c s₁ B hml hv
  obtain ⟨rfl, hsz, hP, hK, hD0⟩ := hv
  have hx := B.exec
  have hb := B.bytes
  have hr := B.returns
  have hts := atoms_spec (ws := (zz_ws y_Pr_load b_Pr_load 7 (some .int))) B.pre
  have hown : s.vm.findClass R_Pr = some m.cls := findClass_of_methodNamed B.named
  have hlocks := B.notSynchronized
  have hT := zz_hts hts
  have X : CallFix p m c b_Pr_load 7 s ([.ref qp, .int a0] : List Value).toArray (zz_ws y_Pr_load b_Pr_load 7 (some .int)) R_Pr := ⟨hx, hb, hml, hown, hts⟩
  have hf0 : 0 + 0 ≤ (headSpec (zz_ws y_Pr_load b_Pr_load 7 (some .int)) rm_Pr_load).room.cells ∧ 0 + 0 ≤ (headSpec (zz_ws y_Pr_load b_Pr_load 7 (some .int)) rm_Pr_load).room.slots := ⟨Nat.le_of_ble_eq_true rfl, Nat.le_of_ble_eq_true rfl⟩
  subst hsz
  have hD := hD0.self (sz := s.heap.size)
  generalize hAe : va_A (wP qp qr qh qm qw qu qf ql qo cI ms mn g rg hq mf cd fg L O) s.heap.size = A at hD ⊢
  have hA : ∀ q : Nat, s.heap.size ≤ q → A q := fun q h => by rw [← hAe]; exact Or.inr h
  have hS : va_S A s.heap s.heap [] := va_S.rf
  have hl := lv_entry ([.ref qp, .int a0]) (n := 7) (Nat.le_of_ble_eq_true rfl)
  rw [lg_entry_eq]
  generalize (lg_sl ([.ref qp, .int a0]) ++ List.replicate (7 - (lg_sl ([.ref qp, .int a0])).length) Slot.unset).toArray = ls at hl ⊢
  have hl : lv_has ls 7 [(0, .ref qp), (1, .int a0)] := hl
  refine lv_aload_n hx hb d_Pr_load_0 rfl (lv_at hl 0 rfl) ?_
  refine lv_iload_n hx hb d_Pr_load_1 rfl (lv_at hl 1 rfl) ?_
  refine zz_Ri (As := [.int a0]) (rest := []) (wc := wP qp qr qh qm qw qu qf ql qo cI ms mn g rg hq mf cd fg L O) X hK hP (c_Pr_address l D cI qp qr qh qm qw qu qf ql qo ms mn g rg hq mf cd fg L O a0 _ h) ⟨rfl, rfl⟩ m_Pr_address k_Pr_261 ⟨Nat.le_of_ble_eq_true rfl, Nat.le_of_ble_eq_true rfl⟩ [0, 1, 2, 3, 4, 5, 6, 7, 8] rfl 4 0 rfl rfl rfl rfl hl.1 rfl (Nat.le_of_ble_eq_true rfl) d_Pr_load_2 hf0 (fun r_1 h => ?_)
  refine lv_istore_n (lv' := [(2, .int r_1), (0, .ref qp), (1, .int a0)]) hx hb d_Pr_load_5 rfl hl (by decide) rfl (fun ls hl => ?_)
  refine lv_iload_n hx hb d_Pr_load_6 rfl (lv_at hl 2 rfl) ?_
  refine zz_Si (As := [.int a0]) (rest := []) X (c_Pr_bytes l a0 _ h) ⟨rfl, rfl⟩ m_Pr_bytes k_Pr_264 ⟨Nat.le_of_ble_eq_true rfl, Nat.le_of_ble_eq_true rfl⟩ rfl hl.1 rfl (Nat.le_of_ble_eq_true rfl) d_Pr_load_7 hf0 (fun r_2 h => ?_)
  refine lv_istore_n (lv' := [(3, .int r_2), (2, .int r_1), (0, .ref qp), (1, .int a0)]) hx hb d_Pr_load_10 rfl hl (by decide) rfl (fun ls hl => ?_)
  refine lv_aload_n hx hb d_Pr_load_11 rfl (lv_at hl 2 rfl) ?_
  refine g_Pr_33 (v := .ref qm) hx hb hT hown hK hP 0 rfl rfl d_Pr_load_12 ?_
  refine lv_iload_n hx hb d_Pr_load_15 rfl (lv_at hl 1 rfl) ?_
  refine lv_iload_n hx hb d_Pr_load_16 rfl (lv_at hl 0 rfl) ?_
  refine zz_Ri (As := [.int r_1, .int r_2]) (rest := []) (wc := wM qm qw cI ms mn mf) X hK hP (c_Me_good l D cI qm qw ms mn mf r_1 r_2 _ h) ⟨rfl, rfl⟩ m_Me_good k_Pr_51 ⟨Nat.le_of_ble_eq_true rfl, Nat.le_of_ble_eq_true rfl⟩ [3, 4] rfl 3 3 rfl rfl rfl rfl hl.1 rfl (Nat.le_of_ble_eq_true rfl) d_Pr_load_17 hf0 (fun r_3 h => ?_)
  refine lv_if_ne (tgt := 25) hx hb d_Pr_load_20 (by decide) (fun c_4 => ?_) (fun c_4 => ?_)
  · skip
    have h := h.2 c_4
    refine lv_aload_n hx hb d_Pr_load_25 rfl (lv_at hl 2 rfl) ?_
    refine g_Pr_33 (v := .ref qm) hx hb hT hown hK hP 0 rfl rfl d_Pr_load_26 ?_
    refine lv_iload_n hx hb d_Pr_load_29 rfl (lv_at hl 1 rfl) ?_
    refine lv_iload_n hx hb d_Pr_load_30 rfl (lv_at hl 0 rfl) ?_
    refine zz_Ri (As := [.int r_1, .int r_2]) (rest := []) (wc := wM qm qw cI ms mn mf) X hK hP (c_Me_read l D cI qm qw ms mn mf r_1 r_2 _ h) ⟨rfl, rfl⟩ m_Me_read k_Pr_57 ⟨Nat.le_of_ble_eq_true rfl, Nat.le_of_ble_eq_true rfl⟩ [3, 4] rfl 3 3 rfl rfl rfl rfl hl.1 rfl (Nat.le_of_ble_eq_true rfl) d_Pr_load_31 hf0 (fun r_5 h => ?_)
    refine lv_istore (lv' := [(4, .int r_5), (3, .int r_2), (2, .int r_1), (0, .ref qp), (1, .int a0)]) hx hb d_Pr_load_34 hl (by decide) rfl (fun ls hl => ?_)
    refine lv_iload_n hx hb d_Pr_load_36 rfl (lv_at hl 4 rfl) ?_
    refine zz_Si (As := [.int a0]) (rest := []) X (c_Pr_opcode l a0 _ h) ⟨rfl, rfl⟩ m_Pr_opcode k_Pr_71 ⟨Nat.le_of_ble_eq_true rfl, Nat.le_of_ble_eq_true rfl⟩ rfl hl.1 rfl (Nat.le_of_ble_eq_true rfl) d_Pr_load_37 hf0 (fun r_6 h => ?_)
    refine lv_bipush (v := 36) hx hb d_Pr_load_40 (by decide) ?_
    refine lv_icmp_ge (tgt := 49) hx hb d_Pr_load_42 (by decide) (fun c_7 => ?_) (fun c_7 => ?_)
    · skip
      have h := h.1 c_7
      refine lv_iconst (v := 0) hx hb d_Pr_load_49 (by decide) ?_
      refine lv_istore (lv' := [(5, .int (0 : Int32)), (4, .int r_5), (3, .int r_2), (2, .int r_1), (0, .ref qp), (1, .int a0)]) hx hb d_Pr_load_50 hl (by decide) rfl (fun ls hl => ?_)
      refine lv_bipush (v := 32) hx hb d_Pr_load_52 (by decide) ?_
      refine lv_bipush (v := 8) hx hb d_Pr_load_54 (by decide) ?_
      refine lv_iload_n hx hb d_Pr_load_56 rfl (lv_at hl 2 rfl) ?_
      refine lv_imul hx hb d_Pr_load_57 ?_
      refine lv_isub hx hb d_Pr_load_58 ?_
      refine lv_topi (fun x_8 ex_8 => ?_)
      have h := h x_8 ex_8
      refine lv_istore (lv' := [(6, .int x_8), (5, .int (0 : Int32)), (4, .int r_5), (3, .int r_2), (2, .int r_1), (0, .ref qp), (1, .int a0)]) hx hb d_Pr_load_59 hl (by decide) rfl (fun ls hl => ?_)
      refine lv_aload_n hx hb d_Pr_load_61 rfl (lv_at hl 5 rfl) ?_
      refine lv_dup hx hb d_Pr_load_62 rfl ?_
      refine g_Pr_267 (v := .int (g 8)) hx hb hT hown hK hP 0 rfl rfl d_Pr_load_63 ?_
      refine lv_iconst (v := 1) hx hb d_Pr_load_66 (by decide) ?_
      refine lv_iadd hx hb d_Pr_load_67 ?_
      refine lv_topi (fun x_9 ex_9 => ?_)
      have h := h x_9 ex_9
      refine p_Pr_267 hx hb hT hown hK hP hD hS 0 rfl rfl d_Pr_load_68 (fun H locs (hP : va_P D vwCl (wP qp qr qh qm qw qu qf ql qo cI ms mn (upd g 8 x_9) rg hq mf cd fg L O) H) (hD : va_D A (wP qp qr qh qm qw qu qf ql qo cI ms mn (upd g 8 x_9) rg hq mf cd fg L O)) hS => ?_)
      refine lv_aload_n hx hb d_Pr_load_71 rfl (lv_at hl 5 rfl) ?_
      refine lv_iload_n hx hb d_Pr_load_72 rfl (lv_at hl 6 rfl) ?_
      refine zz_Si (As := [.int a0]) (rest := [.ref qp]) X (c_Pr_rt l a0 _ h) ⟨rfl, rfl⟩ m_Pr_rt k_Pr_89 ⟨Nat.le_of_ble_eq_true rfl, Nat.le_of_ble_eq_true rfl⟩ rfl hl.1 rfl (Nat.le_of_ble_eq_true rfl) d_Pr_load_73 hf0 (fun r_10 h => ?_)
      refine lv_iload hx hb d_Pr_load_76 (lv_at hl 1 rfl) ?_
      refine lv_if_eq (tgt := 92) hx hb d_Pr_load_78 (by decide) (fun c_11 => ?_) (fun c_11 => ?_)
      · skip
        refine lv_iload hx hb d_Pr_load_92 (lv_at hl 2 rfl) ?_
        refine zz_Wi (As := [.int r_10, .int r_5]) (rest := []) (wc := wP qp qr qh qm qw qu qf ql qo cI ms mn (upd g 8 x_9) rg hq mf cd fg L O) (wr := []) X hK hP hD hS hA (c_Pr_result l D cI qp qr qh qm qw qu qf ql qo ms mn (upd g 8 x_9) rg hq mf cd fg L O r_10 r_5 _ h _) ⟨rfl, rfl⟩ m_Pr_result k_Pr_161 ⟨Nat.le_of_ble_eq_true rfl, Nat.le_of_ble_eq_true rfl⟩ [0, 1, 2, 3, 4, 5, 6, 7, 8] [] rfl rfl (by decide) (by decide) (by decide) 4 0 rfl rfl rfl rfl hl.1 rfl (Nat.le_of_ble_eq_true rfl) d_Pr_load_94 hf0 (fun r_13 u_12 H locs h hP hD hS => ?_)
        have hP : va_P D vwCl (wP qp qr qh qm qw qu qf ql qo cI ms mn u_12.1 u_12.2.1 u_12.2.2.1 u_12.2.2.2.1 u_12.2.2.2.2.1 u_12.2.2.2.2.2.1 u_12.2.2.2.2.2.2.1 u_12.2.2.2.2.2.2.2) H := hP.sub [0, 1, 2, 3, 4, 5, 6, 7, 8] rfl
        have hD : va_D A (wP qp qr qh qm qw qu qf ql qo cI ms mn u_12.1 u_12.2.1 u_12.2.2.1 u_12.2.2.2.1 u_12.2.2.2.2.1 u_12.2.2.2.2.2.1 u_12.2.2.2.2.2.2.1 u_12.2.2.2.2.2.2.2) := hD.sub [0, 1, 2, 3, 4, 5, 6, 7, 8] (by decide) rfl
        exact W.iret (v := r_13) hx hb hr (fun t ht hW => ⟨⟨r_13, (u_12.1, u_12.2.1, u_12.2.2.1, u_12.2.2.2.1, u_12.2.2.2.2.1, u_12.2.2.2.2.2.1, u_12.2.2.2.2.2.2.1, u_12.2.2.2.2.2.2.2), rfl, h, by rw [ht]; exact hP, hD⟩, hS.F ht⟩) hS.2.2 d_Pr_load_97
      · exact absurd c_11 (by decide)
    · skip
      have h := h.2 c_7
      refine lv_iconst (v := 1) hx hb d_Pr_load_45 (by decide) ?_
      refine lv_goto (tgt := 50) hx hb d_Pr_load_46 (by decide) ?_
      refine lv_istore (lv' := [(5, .int (1 : Int32)), (4, .int r_5), (3, .int r_2), (2, .int r_1), (0, .ref qp), (1, .int a0)]) hx hb d_Pr_load_50 hl (by decide) rfl (fun ls hl => ?_)
      refine lv_bipush (v := 32) hx hb d_Pr_load_52 (by decide) ?_
      refine lv_bipush (v := 8) hx hb d_Pr_load_54 (by decide) ?_
      refine lv_iload_n hx hb d_Pr_load_56 rfl (lv_at hl 2 rfl) ?_
      refine lv_imul hx hb d_Pr_load_57 ?_
      refine lv_isub hx hb d_Pr_load_58 ?_
      refine lv_topi (fun x_14 ex_14 => ?_)
      have h := h x_14 ex_14
      refine lv_istore (lv' := [(6, .int x_14), (5, .int (1 : Int32)), (4, .int r_5), (3, .int r_2), (2, .int r_1), (0, .ref qp), (1, .int a0)]) hx hb d_Pr_load_59 hl (by decide) rfl (fun ls hl => ?_)
      refine lv_aload_n hx hb d_Pr_load_61 rfl (lv_at hl 5 rfl) ?_
      refine lv_dup hx hb d_Pr_load_62 rfl ?_
      refine g_Pr_267 (v := .int (g 8)) hx hb hT hown hK hP 0 rfl rfl d_Pr_load_63 ?_
      refine lv_iconst (v := 1) hx hb d_Pr_load_66 (by decide) ?_
      refine lv_iadd hx hb d_Pr_load_67 ?_
      refine lv_topi (fun x_15 ex_15 => ?_)
      have h := h x_15 ex_15
      refine p_Pr_267 hx hb hT hown hK hP hD hS 0 rfl rfl d_Pr_load_68 (fun H locs (hP : va_P D vwCl (wP qp qr qh qm qw qu qf ql qo cI ms mn (upd g 8 x_15) rg hq mf cd fg L O) H) (hD : va_D A (wP qp qr qh qm qw qu qf ql qo cI ms mn (upd g 8 x_15) rg hq mf cd fg L O)) hS => ?_)
      refine lv_aload_n hx hb d_Pr_load_71 rfl (lv_at hl 5 rfl) ?_
      refine lv_iload_n hx hb d_Pr_load_72 rfl (lv_at hl 6 rfl) ?_
      refine zz_Si (As := [.int a0]) (rest := [.ref qp]) X (c_Pr_rt l a0 _ h) ⟨rfl, rfl⟩ m_Pr_rt k_Pr_89 ⟨Nat.le_of_ble_eq_true rfl, Nat.le_of_ble_eq_true rfl⟩ rfl hl.1 rfl (Nat.le_of_ble_eq_true rfl) d_Pr_load_73 hf0 (fun r_16 h => ?_)
      refine lv_iload hx hb d_Pr_load_76 (lv_at hl 1 rfl) ?_
      refine lv_if_eq (tgt := 92) hx hb d_Pr_load_78 (by decide) (fun c_17 => ?_) (fun c_17 => ?_)
      · exact absurd c_17 (by decide)
      · skip
        refine lv_iload hx hb d_Pr_load_81 (lv_at hl 2 rfl) ?_
        refine lv_iload hx hb d_Pr_load_83 (lv_at hl 0 rfl) ?_
        refine zz_ishl hx hb d_Pr_load_85 ?_
        refine lv_iload hx hb d_Pr_load_86 (lv_at hl 0 rfl) ?_
        refine zz_ishr hx hb d_Pr_load_88 ?_
        refine lv_topi (fun x_18 ex_18 => ?_)
        have h := h x_18 ex_18
        refine lv_goto (tgt := 94) hx hb d_Pr_load_89 (by decide) ?_
        refine zz_Wi (As := [.int r_16, .int x_18]) (rest := []) (wc := wP qp qr qh qm qw qu qf ql qo cI ms mn (upd g 8 x_15) rg hq mf cd fg L O) (wr := []) X hK hP hD hS hA (c_Pr_result l D cI qp qr qh qm qw qu qf ql qo ms mn (upd g 8 x_15) rg hq mf cd fg L O r_16 x_18 _ h _) ⟨rfl, rfl⟩ m_Pr_result k_Pr_161 ⟨Nat.le_of_ble_eq_true rfl, Nat.le_of_ble_eq_true rfl⟩ [0, 1, 2, 3, 4, 5, 6, 7, 8] [] rfl rfl (by decide) (by decide) (by decide) 4 0 rfl rfl rfl rfl hl.1 rfl (Nat.le_of_ble_eq_true rfl) d_Pr_load_94 hf0 (fun r_20 u_19 H locs h hP hD hS => ?_)
        have hP : va_P D vwCl (wP qp qr qh qm qw qu qf ql qo cI ms mn u_19.1 u_19.2.1 u_19.2.2.1 u_19.2.2.2.1 u_19.2.2.2.2.1 u_19.2.2.2.2.2.1 u_19.2.2.2.2.2.2.1 u_19.2.2.2.2.2.2.2) H := hP.sub [0, 1, 2, 3, 4, 5, 6, 7, 8] rfl
        have hD : va_D A (wP qp qr qh qm qw qu qf ql qo cI ms mn u_19.1 u_19.2.1 u_19.2.2.1 u_19.2.2.2.1 u_19.2.2.2.2.1 u_19.2.2.2.2.2.1 u_19.2.2.2.2.2.2.1 u_19.2.2.2.2.2.2.2) := hD.sub [0, 1, 2, 3, 4, 5, 6, 7, 8] (by decide) rfl
        exact W.iret (v := r_20) hx hb hr (fun t ht hW => ⟨⟨r_20, (u_19.1, u_19.2.1, u_19.2.2.1, u_19.2.2.2.1, u_19.2.2.2.2.1, u_19.2.2.2.2.2.1, u_19.2.2.2.2.2.2.1, u_19.2.2.2.2.2.2.2), rfl, h, by rw [ht]; exact hP, hD⟩, hS.F ht⟩) hS.2.2 d_Pr_load_97
  · skip
    have h := h.1 c_4
    refine lv_iconst (v := 1) hx hb d_Pr_load_23 (by decide) ?_
    exact W.iret (v := (1 : Int32)) hx hb hr (fun t ht hW => ⟨⟨(1 : Int32), (g, rg, hq, mf, cd, fg, L, O), rfl, h, by rw [ht]; exact hP, hD⟩, hS.F ht⟩) hS.2.2 d_Pr_load_24
def wp_Pr_loadPart (ms : Int32) (mn : Nat) (g : Nat → Int32) (rg : Nat → Int32) (hq : Nat → Int32) (mf : Nat → Int32) (cd : Int32) (fg : Nat → Int32) (L : Int32 × Int32 × Int32 × Int64) (O : Int32 × Int32 × Int32 × Int64) (a0 : Int32) (P : Int32 → ((Nat → Int32) × (Nat → Int32) × (Nat → Int32) × (Nat → Int32) × Int32 × (Nat → Int32) × (Int32 × Int32 × Int32 × Int64) × (Int32 × Int32 × Int32 × Int64)) → Prop) : Prop := wp_Pr_address ms mn g rg hq mf cd fg L O a0 (fun r_1 => wp_Me_good ms mn mf r_1 (1 : Int32) (fun r_2 => ((r_2 = (0 : Int32) → P (1 : Int32) (g, rg, hq, mf, cd, fg, L, O)) ∧ (¬ r_2 = (0 : Int32) → wp_Me_read ms mn mf (r_1 &&& (-4 : Int32)) (4 : Int32) (fun r_4 => wp_Pr_rt a0 (fun r_5 => vp_in r_5 32 ∧ ∀ x_6 : Int32, x_6 = (rg r_5.toNatClampNeg) → ∀ x_7 : Int32, x_7 = ((r_1 &&& (3 : Int32)) * (8 : Int32)) → ∀ x_8 : Int32, x_8 = ((24 : Int32) - x_7) → ∀ x_9 : Int32, x_9 = ((g 8) + (1 : Int32)) → wp_Pr_rt a0 (fun r_10 => wp_Pr_opcode a0 (fun r_11 => ((r_11 = (34 : Int32) → ∀ x_17 : Int32, x_17 = ((zz_shl (-1 : Int32) x_7) ^^^ (-1 : Int32)) → ∀ x_18 : Int32, x_18 = ((zz_shl r_4 x_7) ||| (x_6 &&& x_17)) → wp_Pr_result ms mn (upd g 8 x_9) rg hq mf cd fg L O r_10 x_18 (fun r_20 u_19 => P r_20 (u_19.1, u_19.2.1, u_19.2.2.1, u_19.2.2.2.1, u_19.2.2.2.2.1, u_19.2.2.2.2.2.1, u_19.2.2.2.2.2.2.1, u_19.2.2.2.2.2.2.2))) ∧ (¬ r_11 = (34 : Int32) → ∀ x_13 : Int32, x_13 = ((zz_ushr (-1 : Int32) x_8) ^^^ (-1 : Int32)) → ∀ x_14 : Int32, x_14 = ((zz_ushr r_4 x_8) ||| (x_6 &&& x_13)) → wp_Pr_result ms mn (upd g 8 x_9) rg hq mf cd fg L O r_10 x_14 (fun r_16 u_15 => P r_16 (u_15.1, u_15.2.1, u_15.2.2.1, u_15.2.2.2.1, u_15.2.2.2.2.1, u_15.2.2.2.2.2.1, u_15.2.2.2.2.2.2.1, u_15.2.2.2.2.2.2.2))))))))))))
abbrev rm_Pr_loadPart : Room := { frames := 2, cells := 0, slots := 0, locals := 44 }
set_option maxHeartbeats 4000000 in
set_option maxRecDepth 100000 in
theorem c_Pr_loadPart (l : Launch) (D : va_G) (cI : ClassId) (qp : Nat) (qr : Nat) (qh : Nat) (qm : Nat) (qw : Nat) (qu : Nat) (qf : Nat) (ql : Nat) (qo : Nat) (ms : Int32) (mn : Nat) (g : Nat → Int32) (rg : Nat → Int32) (hq : Nat → Int32) (mf : Nat → Int32) (cd : Int32) (fg : Nat → Int32) (L : Int32 × Int32 × Int32 × Int64) (O : Int32 × Int32 × Int32 × Int64) (a0 : Int32) (P : Int32 → ((Nat → Int32) × (Nat → Int32) × (Nat → Int32) × (Nat → Int32) × Int32 × (Nat → Int32) × (Int32 × Int32 × Int32 × Int64) × (Int32 × Int32 × Int32 × Int64)) → Prop) (h : wp_Pr_loadPart ms mn g rg hq mf cd fg L O a0 P) (sz : Nat) : Met l y_Pr_loadPart (zz_ws y_Pr_loadPart b_Pr_loadPart 7 (some .int)) rm_Pr_loadPart (va_Pc [.ref qp, .int a0] (zz_pw D [(cI, .int)] (wP qp qr qh qm qw qu qf ql qo cI ms mn g rg hq mf cd fg L O) sz)) (va_Qi P (zz_qw D (fun u => wP qp qr qh qm qw qu qf ql qo cI ms mn u.1 u.2.1 u.2.2.1 u.2.2.2.1 u.2.2.2.2.1 u.2.2.2.2.2.1 u.2.2.2.2.2.2.1 u.2.2.2.2.2.2.2) (va_A (wP qp qr qh qm qw qu qf ql qo cI ms mn g rg hq mf cd fg L O) sz)) (va_A (wP qp qr qh qm qw qu qf ql qo cI ms mn g rg hq mf cd fg L O) sz)) 0 0 (va_A (wP qp qr qh qm qw qu qf ql qo cI ms mn g rg hq mf cd fg L O) sz) := by
  refine Met.ofW (cc := b_Pr_loadPart) (maxL := 7) (ret := (some .int)) (by decide) rfl ?_
  intro p e s m args below meth c s₁ B hml hv
  obtain ⟨rfl, hsz, hP, hK, hD0⟩ := hv
  have hx := B.exec
  have hb := B.bytes
  have hr := B.returns
  have hts := atoms_spec (ws := (zz_ws y_Pr_loadPart b_Pr_loadPart 7 (some .int))) B.pre
  have hown : s.vm.findClass R_Pr = some m.cls := findClass_of_methodNamed B.named
  have hlocks := B.notSynchronized
  have hT := zz_hts hts
  have X : CallFix p m c b_Pr_loadPart 7 s ([.ref qp, .int a0] : List Value).toArray (zz_ws y_Pr_loadPart b_Pr_loadPart 7 (some .int)) R_Pr := ⟨hx, hb, hml, hown, hts⟩
  have hf0 : 0 + 0 ≤ (headSpec (zz_ws y_Pr_loadPart b_Pr_loadPart 7 (some .int)) rm_Pr_loadPart).room.cells ∧ 0 + 0 ≤ (headSpec (zz_ws y_Pr_loadPart b_Pr_loadPart 7 (some .int)) rm_Pr_loadPart).room.slots := ⟨Nat.le_of_ble_eq_true rfl, Nat.le_of_ble_eq_true rfl⟩
  subst hsz
  have hD := hD0.self (sz := s.heap.size)
  generalize hAe : va_A (wP qp qr qh qm qw qu qf ql qo cI ms mn g rg hq mf cd fg L O) s.heap.size = A at hD ⊢
  have hA : ∀ q : Nat, s.heap.size ≤ q → A q := fun q h => by rw [← hAe]; exact Or.inr h
  have hS : va_S A s.heap s.heap [] := va_S.rf
  have hl := lv_entry ([.ref qp, .int a0]) (n := 7) (Nat.le_of_ble_eq_true rfl)
  rw [lg_entry_eq]
  generalize (lg_sl ([.ref qp, .int a0]) ++ List.replicate (7 - (lg_sl ([.ref qp, .int a0])).length) Slot.unset).toArray = ls at hl ⊢
  have hl : lv_has ls 7 [(0, .ref qp), (1, .int a0)] := hl
  refine lv_aload_n hx hb d_Pr_loadPart_0 rfl (lv_at hl 0 rfl) ?_
  refine lv_iload_n hx hb d_Pr_loadPart_1 rfl (lv_at hl 1 rfl) ?_
  refine zz_Ri (As := [.int a0]) (rest := []) (wc := wP qp qr qh qm qw qu qf ql qo cI ms mn g rg hq mf cd fg L O) X hK hP (c_Pr_address l D cI qp qr qh qm qw qu qf ql qo ms mn g rg hq mf cd fg L O a0 _ h) ⟨rfl, rfl⟩ m_Pr_address k_Pr_261 ⟨Nat.le_of_ble_eq_true rfl, Nat.le_of_ble_eq_true rfl⟩ [0, 1, 2, 3, 4, 5, 6, 7, 8] rfl 4 0 rfl rfl rfl rfl hl.1 rfl (Nat.le_of_ble_eq_true rfl) d_Pr_loadPart_2 hf0 (fun r_1 h => ?_)
  refine lv_istore_n (lv' := [(2, .int r_1), (0, .ref qp), (1, .int a0)]) hx hb d_Pr_loadPart_5 rfl hl (by decide) rfl (fun ls hl => ?_)
  refine lv_aload_n hx hb d_Pr_loadPart_6 rfl (lv_at hl 1 rfl) ?_
  refine g_Pr_33 (v := .ref qm) hx hb hT hown hK hP 0 rfl rfl d_Pr_loadPart_7 ?_
  refine lv_iload_n hx hb d_Pr_loadPart_10 rfl (lv_at hl 0 rfl) ?_
  refine lv_iconst (v := 1) hx hb d_Pr_loadPart_11 (by decide) ?_
  refine zz_Ri (As := [.int r_1, .int (1 : Int32)]) (rest := []) (wc := wM qm qw cI ms mn mf) X hK hP (c_Me_good l D cI qm qw ms mn mf r_1 (1 : Int32) _ h) ⟨rfl, rfl⟩ m_Me_good k_Pr_51 ⟨Nat.le_of_ble_eq_true rfl, Nat.le_of_ble_eq_true rfl⟩ [3, 4] rfl 3 3 rfl rfl rfl rfl hl.1 rfl (Nat.le_of_ble_eq_true rfl) d_Pr_loadPart_12 hf0 (fun r_2 h => ?_)
  refine lv_if_ne (tgt := 20) hx hb d_Pr_loadPart_15 (by decide) (fun c_3 => ?_) (fun c_3 => ?_)
  · skip
    have h := h.2 c_3
    refine lv_aload_n hx hb d_Pr_loadPart_20 rfl (lv_at hl 1 rfl) ?_
    refine g_Pr_33 (v := .ref qm) hx hb hT hown hK hP 0 rfl rfl d_Pr_loadPart_21 ?_
    refine lv_iload_n hx hb d_Pr_loadPart_24 rfl (lv_at hl 0 rfl) ?_
    refine lv_bipush (v := -4) hx hb d_Pr_loadPart_25 (by decide) ?_
    refine lv_iand hx hb d_Pr_loadPart_27 ?_
    refine lv_iconst (v := 4) hx hb d_Pr_loadPart_28 (by decide) ?_
    refine zz_Ri (As := [.int (r_1 &&& (-4 : Int32)), .int (4 : Int32)]) (rest := []) (wc := wM qm qw cI ms mn mf) X hK hP (c_Me_read l D cI qm qw ms mn mf (r_1 &&& (-4 : Int32)) (4 : Int32) _ h) ⟨rfl, rfl⟩ m_Me_read k_Pr_57 ⟨Nat.le_of_ble_eq_true rfl, Nat.le_of_ble_eq_true rfl⟩ [3, 4] rfl 3 3 rfl rfl rfl rfl hl.1 rfl (Nat.le_of_ble_eq_true rfl) d_Pr_loadPart_29 hf0 (fun r_4 h => ?_)
    refine lv_istore_n (lv' := [(3, .int r_4), (2, .int r_1), (0, .ref qp), (1, .int a0)]) hx hb d_Pr_loadPart_32 rfl hl (by decide) rfl (fun ls hl => ?_)
    refine lv_aload_n hx hb d_Pr_loadPart_33 rfl (lv_at hl 2 rfl) ?_
    refine g_Pr_9 (v := .ref qr) hx hb hT hown hK hP 0 rfl rfl d_Pr_loadPart_34 ?_
    refine lv_iload_n hx hb d_Pr_loadPart_37 rfl (lv_at hl 3 rfl) ?_
    refine zz_Si (As := [.int a0]) (rest := [.ref qr]) X (c_Pr_rt l a0 _ h) ⟨rfl, rfl⟩ m_Pr_rt k_Pr_89 ⟨Nat.le_of_ble_eq_true rfl, Nat.le_of_ble_eq_true rfl⟩ rfl hl.1 rfl (Nat.le_of_ble_eq_true rfl) d_Pr_loadPart_38 hf0 (fun r_5 h => ?_)
    refine va_iald (f := rg) hx hb hK hP 1 0 rfl rfl h.1 d_Pr_loadPart_41 ?_
    have h := h.2
    refine lv_topi (fun x_6 ex_6 => ?_)
    have h := h x_6 ex_6
    refine lv_istore (lv' := [(4, .int x_6), (3, .int r_4), (2, .int r_1), (0, .ref qp), (1, .int a0)]) hx hb d_Pr_loadPart_42 hl (by decide) rfl (fun ls hl => ?_)
    refine lv_iload_n hx hb d_Pr_loadPart_44 rfl (lv_at hl 2 rfl) ?_
    refine lv_iconst (v := 3) hx hb d_Pr_loadPart_45 (by decide) ?_
    refine lv_iand hx hb d_Pr_loadPart_46 ?_
    refine lv_bipush (v := 8) hx hb d_Pr_loadPart_47 (by decide) ?_
    refine lv_imul hx hb d_Pr_loadPart_49 ?_
    refine lv_topi (fun x_7 ex_7 => ?_)
    have h := h x_7 ex_7
    refine lv_istore (lv' := [(5, .int x_7), (4, .int x_6), (3, .int r_4), (2, .int r_1), (0, .ref qp), (1, .int a0)]) hx hb d_Pr_loadPart_50 hl (by decide) rfl (fun ls hl => ?_)
    refine lv_bipush (v := 24) hx hb d_Pr_loadPart_52 (by decide) ?_
    refine lv_iload hx hb d_Pr_loadPart_54 (lv_at hl 0 rfl) ?_
    refine lv_isub hx hb d_Pr_loadPart_56 ?_
    refine lv_topi (fun x_8 ex_8 => ?_)
    have h := h x_8 ex_8
    refine lv_istore (lv' := [(6, .int x_8), (5, .int x_7), (4, .int x_6), (3, .int r_4), (2, .int r_1), (0, .ref qp), (1, .int a0)]) hx hb d_Pr_loadPart_57 hl (by decide) rfl (fun ls hl => ?_)
    refine lv_aload_n hx hb d_Pr_loadPart_59 rfl (lv_at hl 5 rfl) ?_
    refine lv_dup hx hb d_Pr_loadPart_60 rfl ?_
    refine g_Pr_267 (v := .int (g 8)) hx hb hT hown hK hP 0 rfl rfl d_Pr_loadPart_61 ?_
    refine lv_iconst (v := 1) hx hb d_Pr_loadPart_64 (by decide) ?_
    refine lv_iadd hx hb d_Pr_loadPart_65 ?_
    refine lv_topi (fun x_9 ex_9 => ?_)
    have h := h x_9 ex_9
    refine p_Pr_267 hx hb hT hown hK hP hD hS 0 rfl rfl d_Pr_loadPart_66 (fun H locs (hP : va_P D vwCl (wP qp qr qh qm qw qu qf ql qo cI ms mn (upd g 8 x_9) rg hq mf cd fg L O) H) (hD : va_D A (wP qp qr qh qm qw qu qf ql qo cI ms mn (upd g 8 x_9) rg hq mf cd fg L O)) hS => ?_)
    refine lv_aload_n hx hb d_Pr_loadPart_69 rfl (lv_at hl 5 rfl) ?_
    refine lv_iload_n hx hb d_Pr_loadPart_70 rfl (lv_at hl 6 rfl) ?_
    refine zz_Si (As := [.int a0]) (rest := [.ref qp]) X (c_Pr_rt l a0 _ h) ⟨rfl, rfl⟩ m_Pr_rt k_Pr_89 ⟨Nat.le_of_ble_eq_true rfl, Nat.le_of_ble_eq_true rfl⟩ rfl hl.1 rfl (Nat.le_of_ble_eq_true rfl) d_Pr_loadPart_71 hf0 (fun r_10 h => ?_)
    refine lv_iload_n hx hb d_Pr_loadPart_74 rfl (lv_at hl 6 rfl) ?_
    refine zz_Si (As := [.int a0]) (rest := [.int r_10, .ref qp]) X (c_Pr_opcode l a0 _ h) ⟨rfl, rfl⟩ m_Pr_opcode k_Pr_71 ⟨Nat.le_of_ble_eq_true rfl, Nat.le_of_ble_eq_true rfl⟩ rfl hl.1 rfl (Nat.le_of_ble_eq_true rfl) d_Pr_loadPart_75 hf0 (fun r_11 h => ?_)
    refine lv_bipush (v := 34) hx hb d_Pr_loadPart_78 (by decide) ?_
    refine lv_icmp_ne (tgt := 100) hx hb d_Pr_loadPart_80 (by decide) (fun c_12 => ?_) (fun c_12 => ?_)
    · skip
      have h := h.2 c_12
      refine lv_iload_n hx hb d_Pr_loadPart_100 rfl (lv_at hl 3 rfl) ?_
      refine lv_iload hx hb d_Pr_loadPart_101 (lv_at hl 0 rfl) ?_
      refine zz_iushr hx hb d_Pr_loadPart_103 ?_
      refine lv_iload hx hb d_Pr_loadPart_104 (lv_at hl 2 rfl) ?_
      refine lv_iconst (v := -1) hx hb d_Pr_loadPart_106 (by decide) ?_
      refine lv_iload hx hb d_Pr_loadPart_107 (lv_at hl 0 rfl) ?_
      refine zz_iushr hx hb d_Pr_loadPart_109 ?_
      refine lv_iconst (v := -1) hx hb d_Pr_loadPart_110 (by decide) ?_
      refine lv_ixor hx hb d_Pr_loadPart_111 ?_
      refine lv_topi (fun x_13 ex_13 => ?_)
      have h := h x_13 ex_13
      refine lv_iand hx hb d_Pr_loadPart_112 ?_
      refine lv_ior hx hb d_Pr_loadPart_113 ?_
      refine lv_topi (fun x_14 ex_14 => ?_)
      have h := h x_14 ex_14
      refine zz_Wi (As := [.int r_10, .int x_14]) (rest := []) (wc := wP qp qr qh qm qw qu qf ql qo cI ms mn (upd g 8 x_9) rg hq mf cd fg L O) (wr := []) X hK hP hD hS hA (c_Pr_result l D cI qp qr qh qm qw qu qf ql qo ms mn (upd g 8 x_9) rg hq mf cd fg L O r_10 x_14 _ h _) ⟨rfl, rfl⟩ m_Pr_result k_Pr_161 ⟨Nat.le_of_ble_eq_true rfl, Nat.le_of_ble_eq_true rfl⟩ [0, 1, 2, 3, 4, 5, 6, 7, 8] [] rfl rfl (by decide) (by decide) (by decide) 4 0 rfl rfl rfl rfl hl.1 rfl (Nat.le_of_ble_eq_true rfl) d_Pr_loadPart_114 hf0 (fun r_16 u_15 H locs h hP hD hS => ?_)
      have hP : va_P D vwCl (wP qp qr qh qm qw qu qf ql qo cI ms mn u_15.1 u_15.2.1 u_15.2.2.1 u_15.2.2.2.1 u_15.2.2.2.2.1 u_15.2.2.2.2.2.1 u_15.2.2.2.2.2.2.1 u_15.2.2.2.2.2.2.2) H := hP.sub [0, 1, 2, 3, 4, 5, 6, 7, 8] rfl
      have hD : va_D A (wP qp qr qh qm qw qu qf ql qo cI ms mn u_15.1 u_15.2.1 u_15.2.2.1 u_15.2.2.2.1 u_15.2.2.2.2.1 u_15.2.2.2.2.2.1 u_15.2.2.2.2.2.2.1 u_15.2.2.2.2.2.2.2) := hD.sub [0, 1, 2, 3, 4, 5, 6, 7, 8] (by decide) rfl
      exact W.iret (v := r_16) hx hb hr (fun t ht hW => ⟨⟨r_16, (u_15.1, u_15.2.1, u_15.2.2.1, u_15.2.2.2.1, u_15.2.2.2.2.1, u_15.2.2.2.2.2.1, u_15.2.2.2.2.2.2.1, u_15.2.2.2.2.2.2.2), rfl, h, by rw [ht]; exact hP, hD⟩, hS.F ht⟩) hS.2.2 d_Pr_loadPart_117
    · skip
      have h := h.1 c_12
      refine lv_iload_n hx hb d_Pr_loadPart_83 rfl (lv_at hl 3 rfl) ?_
      refine lv_iload hx hb d_Pr_loadPart_84 (lv_at hl 1 rfl) ?_
      refine zz_ishl hx hb d_Pr_loadPart_86 ?_
      refine lv_iload hx hb d_Pr_loadPart_87 (lv_at hl 2 rfl) ?_
      refine lv_iconst (v := -1) hx hb d_Pr_loadPart_89 (by decide) ?_
      refine lv_iload hx hb d_Pr_loadPart_90 (lv_at hl 1 rfl) ?_
      refine zz_ishl hx hb d_Pr_loadPart_92 ?_
      refine lv_iconst (v := -1) hx hb d_Pr_loadPart_93 (by decide) ?_
      refine lv_ixor hx hb d_Pr_loadPart_94 ?_
      refine lv_topi (fun x_17 ex_17 => ?_)
      have h := h x_17 ex_17
      refine lv_iand hx hb d_Pr_loadPart_95 ?_
      refine lv_ior hx hb d_Pr_loadPart_96 ?_
      refine lv_topi (fun x_18 ex_18 => ?_)
      have h := h x_18 ex_18
      refine lv_goto (tgt := 114) hx hb d_Pr_loadPart_97 (by decide) ?_
      refine zz_Wi (As := [.int r_10, .int x_18]) (rest := []) (wc := wP qp qr qh qm qw qu qf ql qo cI ms mn (upd g 8 x_9) rg hq mf cd fg L O) (wr := []) X hK hP hD hS hA (c_Pr_result l D cI qp qr qh qm qw qu qf ql qo ms mn (upd g 8 x_9) rg hq mf cd fg L O r_10 x_18 _ h _) ⟨rfl, rfl⟩ m_Pr_result k_Pr_161 ⟨Nat.le_of_ble_eq_true rfl, Nat.le_of_ble_eq_true rfl⟩ [0, 1, 2, 3, 4, 5, 6, 7, 8] [] rfl rfl (by decide) (by decide) (by decide) 4 0 rfl rfl rfl rfl hl.1 rfl (Nat.le_of_ble_eq_true rfl) d_Pr_loadPart_114 hf0 (fun r_20 u_19 H locs h hP hD hS => ?_)
      have hP : va_P D vwCl (wP qp qr qh qm qw qu qf ql qo cI ms mn u_19.1 u_19.2.1 u_19.2.2.1 u_19.2.2.2.1 u_19.2.2.2.2.1 u_19.2.2.2.2.2.1 u_19.2.2.2.2.2.2.1 u_19.2.2.2.2.2.2.2) H := hP.sub [0, 1, 2, 3, 4, 5, 6, 7, 8] rfl
      have hD : va_D A (wP qp qr qh qm qw qu qf ql qo cI ms mn u_19.1 u_19.2.1 u_19.2.2.1 u_19.2.2.2.1 u_19.2.2.2.2.1 u_19.2.2.2.2.2.1 u_19.2.2.2.2.2.2.1 u_19.2.2.2.2.2.2.2) := hD.sub [0, 1, 2, 3, 4, 5, 6, 7, 8] (by decide) rfl
      exact W.iret (v := r_20) hx hb hr (fun t ht hW => ⟨⟨r_20, (u_19.1, u_19.2.1, u_19.2.2.1, u_19.2.2.2.1, u_19.2.2.2.2.1, u_19.2.2.2.2.2.1, u_19.2.2.2.2.2.2.1, u_19.2.2.2.2.2.2.2), rfl, h, by rw [ht]; exact hP, hD⟩, hS.F ht⟩) hS.2.2 d_Pr_loadPart_117
  · skip
    have h := h.1 c_3
    refine lv_iconst (v := 1) hx hb d_Pr_loadPart_18 (by decide) ?_
    exact W.iret (v := (1 : Int32)) hx hb hr (fun t ht hW => ⟨⟨(1 : Int32), (g, rg, hq, mf, cd, fg, L, O), rfl, h, by rw [ht]; exact hP, hD⟩, hS.F ht⟩) hS.2.2 d_Pr_loadPart_19
def wp_Pr_loadLinked (ms : Int32) (mn : Nat) (g : Nat → Int32) (rg : Nat → Int32) (hq : Nat → Int32) (mf : Nat → Int32) (cd : Int32) (fg : Nat → Int32) (L : Int32 × Int32 × Int32 × Int64) (O : Int32 × Int32 × Int32 × Int64) (a0 : Int32) (P : Int32 → ((Nat → Int32) × (Nat → Int32) × (Nat → Int32) × (Nat → Int32) × Int32 × (Nat → Int32) × (Int32 × Int32 × Int32 × Int64) × (Int32 × Int32 × Int32 × Int64)) → Prop) : Prop := wp_Pr_address ms mn g rg hq mf cd fg L O a0 (fun r_1 => wp_Me_good ms mn mf r_1 (4 : Int32) (fun r_2 => ((r_2 = (0 : Int32) → P (1 : Int32) (g, rg, hq, mf, cd, fg, L, O)) ∧ (¬ r_2 = (0 : Int32) → ∀ x_4 : Int32, x_4 = ((g 8) + (1 : Int32)) → wp_Pr_rt a0 (fun r_5 => wp_Me_read ms mn mf r_1 (4 : Int32) (fun r_6 => wp_Pr_result ms mn (upd (upd (upd g 3 (1 : Int32)) 4 r_1) 8 x_4) rg hq mf cd fg L O r_5 r_6 (fun r_8 u_7 => P r_8 (u_7.1, u_7.2.1, u_7.2.2.1, u_7.2.2.2.1, u_7.2.2.2.2.1, u_7.2.2.2.2.2.1, u_7.2.2.2.2.2.2.1, u_7.2.2.2.2.2.2.2))))))))
abbrev rm_Pr_loadLinked : Room := { frames := 2, cells := 0, slots := 0, locals := 44 }
set_option maxHeartbeats 4000000 in
set_option maxRecDepth 100000 in
theorem c_Pr_loadLinked (l : Launch) (D : va_G) (cI : ClassId) (qp : Nat) (qr : Nat) (qh : Nat) (qm : Nat) (qw : Nat) (qu : Nat) (qf : Nat) (ql : Nat) (qo : Nat) (ms : Int32) (mn : Nat) (g : Nat → Int32) (rg : Nat → Int32) (hq : Nat → Int32) (mf : Nat → Int32) (cd : Int32) (fg : Nat → Int32) (L : Int32 × Int32 × Int32 × Int64) (O : Int32 × Int32 × Int32 × Int64) (a0 : Int32) (P : Int32 → ((Nat → Int32) × (Nat → Int32) × (Nat → Int32) × (Nat → Int32) × Int32 × (Nat → Int32) × (Int32 × Int32 × Int32 × Int64) × (Int32 × Int32 × Int32 × Int64)) → Prop) (h : wp_Pr_loadLinked ms mn g rg hq mf cd fg L O a0 P) (sz : Nat) : Met l y_Pr_loadLinked (zz_ws y_Pr_loadLinked b_Pr_loadLinked 3 (some .int)) rm_Pr_loadLinked (va_Pc [.ref qp, .int a0] (zz_pw D [(cI, .int)] (wP qp qr qh qm qw qu qf ql qo cI ms mn g rg hq mf cd fg L O) sz)) (va_Qi P (zz_qw D (fun u => wP qp qr qh qm qw qu qf ql qo cI ms mn u.1 u.2.1 u.2.2.1 u.2.2.2.1 u.2.2.2.2.1 u.2.2.2.2.2.1 u.2.2.2.2.2.2.1 u.2.2.2.2.2.2.2) (va_A (wP qp qr qh qm qw qu qf ql qo cI ms mn g rg hq mf cd fg L O) sz)) (va_A (wP qp qr qh qm qw qu qf ql qo cI ms mn g rg hq mf cd fg L O) sz)) 0 0 (va_A (wP qp qr qh qm qw qu qf ql qo cI ms mn g rg hq mf cd fg L O) sz) := by
  refine Met.ofW (cc := b_Pr_loadLinked) (maxL := 3) (ret := (some .int)) (by decide) rfl ?_
  intro p e s m args below meth c s₁ B hml hv
  obtain ⟨rfl, hsz, hP, hK, hD0⟩ := hv
  have hx := B.exec
  have hb := B.bytes
  have hr := B.returns
  have hts := atoms_spec (ws := (zz_ws y_Pr_loadLinked b_Pr_loadLinked 3 (some .int))) B.pre
  have hown : s.vm.findClass R_Pr = some m.cls := findClass_of_methodNamed B.named
  have hlocks := B.notSynchronized
  have hT := zz_hts hts
  have X : CallFix p m c b_Pr_loadLinked 3 s ([.ref qp, .int a0] : List Value).toArray (zz_ws y_Pr_loadLinked b_Pr_loadLinked 3 (some .int)) R_Pr := ⟨hx, hb, hml, hown, hts⟩
  have hf0 : 0 + 0 ≤ (headSpec (zz_ws y_Pr_loadLinked b_Pr_loadLinked 3 (some .int)) rm_Pr_loadLinked).room.cells ∧ 0 + 0 ≤ (headSpec (zz_ws y_Pr_loadLinked b_Pr_loadLinked 3 (some .int)) rm_Pr_loadLinked).room.slots := ⟨Nat.le_of_ble_eq_true rfl, Nat.le_of_ble_eq_true rfl⟩
  subst hsz
  have hD := hD0.self (sz := s.heap.size)
  generalize hAe : va_A (wP qp qr qh qm qw qu qf ql qo cI ms mn g rg hq mf cd fg L O) s.heap.size = A at hD ⊢
  have hA : ∀ q : Nat, s.heap.size ≤ q → A q := fun q h => by rw [← hAe]; exact Or.inr h
  have hS : va_S A s.heap s.heap [] := va_S.rf
  have hl := lv_entry ([.ref qp, .int a0]) (n := 3) (Nat.le_of_ble_eq_true rfl)
  rw [lg_entry_eq]
  generalize (lg_sl ([.ref qp, .int a0]) ++ List.replicate (3 - (lg_sl ([.ref qp, .int a0])).length) Slot.unset).toArray = ls at hl ⊢
  have hl : lv_has ls 3 [(0, .ref qp), (1, .int a0)] := hl
  refine lv_aload_n hx hb d_Pr_loadLinked_0 rfl (lv_at hl 0 rfl) ?_
  refine lv_iload_n hx hb d_Pr_loadLinked_1 rfl (lv_at hl 1 rfl) ?_
  refine zz_Ri (As := [.int a0]) (rest := []) (wc := wP qp qr qh qm qw qu qf ql qo cI ms mn g rg hq mf cd fg L O) X hK hP (c_Pr_address l D cI qp qr qh qm qw qu qf ql qo ms mn g rg hq mf cd fg L O a0 _ h) ⟨rfl, rfl⟩ m_Pr_address k_Pr_261 ⟨Nat.le_of_ble_eq_true rfl, Nat.le_of_ble_eq_true rfl⟩ [0, 1, 2, 3, 4, 5, 6, 7, 8] rfl 4 0 rfl rfl rfl rfl hl.1 rfl (Nat.le_of_ble_eq_true rfl) d_Pr_loadLinked_2 hf0 (fun r_1 h => ?_)
  refine lv_istore_n (lv' := [(2, .int r_1), (0, .ref qp), (1, .int a0)]) hx hb d_Pr_loadLinked_5 rfl hl (by decide) rfl (fun ls hl => ?_)
  refine lv_aload_n hx hb d_Pr_loadLinked_6 rfl (lv_at hl 1 rfl) ?_
  refine g_Pr_33 (v := .ref qm) hx hb hT hown hK hP 0 rfl rfl d_Pr_loadLinked_7 ?_
  refine lv_iload_n hx hb d_Pr_loadLinked_10 rfl (lv_at hl 0 rfl) ?_
  refine lv_iconst (v := 4) hx hb d_Pr_loadLinked_11 (by decide) ?_
  refine zz_Ri (As := [.int r_1, .int (4 : Int32)]) (rest := []) (wc := wM qm qw cI ms mn mf) X hK hP (c_Me_good l D cI qm qw ms mn mf r_1 (4 : Int32) _ h) ⟨rfl, rfl⟩ m_Me_good k_Pr_51 ⟨Nat.le_of_ble_eq_true rfl, Nat.le_of_ble_eq_true rfl⟩ [3, 4] rfl 3 3 rfl rfl rfl rfl hl.1 rfl (Nat.le_of_ble_eq_true rfl) d_Pr_loadLinked_12 hf0 (fun r_2 h => ?_)
  refine lv_if_ne (tgt := 20) hx hb d_Pr_loadLinked_15 (by decide) (fun c_3 => ?_) (fun c_3 => ?_)
  · skip
    have h := h.2 c_3
    refine lv_aload_n hx hb d_Pr_loadLinked_20 rfl (lv_at hl 1 rfl) ?_
    refine lv_iconst (v := 1) hx hb d_Pr_loadLinked_21 (by decide) ?_
    refine p_Pr_41 hx hb hT hown hK hP hD hS 0 rfl rfl (Or.inr rfl) d_Pr_loadLinked_22 (fun H locs (hP : va_P D vwCl (wP qp qr qh qm qw qu qf ql qo cI ms mn (upd g 3 (1 : Int32)) rg hq mf cd fg L O) H) (hD : va_D A (wP qp qr qh qm qw qu qf ql qo cI ms mn (upd g 3 (1 : Int32)) rg hq mf cd fg L O)) hS => ?_)
    refine lv_aload_n hx hb d_Pr_loadLinked_25 rfl (lv_at hl 1 rfl) ?_
    refine lv_iload_n hx hb d_Pr_loadLinked_26 rfl (lv_at hl 0 rfl) ?_
    refine p_Pr_270 hx hb hT hown hK hP hD hS 0 rfl rfl d_Pr_loadLinked_27 (fun H locs (hP : va_P D vwCl (wP qp qr qh qm qw qu qf ql qo cI ms mn (upd (upd g 3 (1 : Int32)) 4 r_1) rg hq mf cd fg L O) H) (hD : va_D A (wP qp qr qh qm qw qu qf ql qo cI ms mn (upd (upd g 3 (1 : Int32)) 4 r_1) rg hq mf cd fg L O)) hS => ?_)
    refine lv_aload_n hx hb d_Pr_loadLinked_30 rfl (lv_at hl 1 rfl) ?_
    refine lv_dup hx hb d_Pr_loadLinked_31 rfl ?_
    refine g_Pr_267 (v := .int (g 8)) hx hb hT hown hK hP 0 rfl rfl d_Pr_loadLinked_32 ?_
    refine lv_iconst (v := 1) hx hb d_Pr_loadLinked_35 (by decide) ?_
    refine lv_iadd hx hb d_Pr_loadLinked_36 ?_
    refine lv_topi (fun x_4 ex_4 => ?_)
    have h := h x_4 ex_4
    refine p_Pr_267 hx hb hT hown hK hP hD hS 0 rfl rfl d_Pr_loadLinked_37 (fun H locs (hP : va_P D vwCl (wP qp qr qh qm qw qu qf ql qo cI ms mn (upd (upd (upd g 3 (1 : Int32)) 4 r_1) 8 x_4) rg hq mf cd fg L O) H) (hD : va_D A (wP qp qr qh qm qw qu qf ql qo cI ms mn (upd (upd (upd g 3 (1 : Int32)) 4 r_1) 8 x_4) rg hq mf cd fg L O)) hS => ?_)
    refine lv_aload_n hx hb d_Pr_loadLinked_40 rfl (lv_at hl 1 rfl) ?_
    refine lv_iload_n hx hb d_Pr_loadLinked_41 rfl (lv_at hl 2 rfl) ?_
    refine zz_Si (As := [.int a0]) (rest := [.ref qp]) X (c_Pr_rt l a0 _ h) ⟨rfl, rfl⟩ m_Pr_rt k_Pr_89 ⟨Nat.le_of_ble_eq_true rfl, Nat.le_of_ble_eq_true rfl⟩ rfl hl.1 rfl (Nat.le_of_ble_eq_true rfl) d_Pr_loadLinked_42 hf0 (fun r_5 h => ?_)
    refine lv_aload_n hx hb d_Pr_loadLinked_45 rfl (lv_at hl 1 rfl) ?_
    refine g_Pr_33 (v := .ref qm) hx hb hT hown hK hP 0 rfl rfl d_Pr_loadLinked_46 ?_
    refine lv_iload_n hx hb d_Pr_loadLinked_49 rfl (lv_at hl 0 rfl) ?_
    refine lv_iconst (v := 4) hx hb d_Pr_loadLinked_50 (by decide) ?_
    refine zz_Ri (As := [.int r_1, .int (4 : Int32)]) (rest := [.int r_5, .ref qp]) (wc := wM qm qw cI ms mn mf) X hK hP (c_Me_read l D cI qm qw ms mn mf r_1 (4 : Int32) _ h) ⟨rfl, rfl⟩ m_Me_read k_Pr_57 ⟨Nat.le_of_ble_eq_true rfl, Nat.le_of_ble_eq_true rfl⟩ [3, 4] rfl 3 3 rfl rfl rfl rfl hl.1 rfl (Nat.le_of_ble_eq_true rfl) d_Pr_loadLinked_51 hf0 (fun r_6 h => ?_)
    refine zz_Wi (As := [.int r_5, .int r_6]) (rest := []) (wc := wP qp qr qh qm qw qu qf ql qo cI ms mn (upd (upd (upd g 3 (1 : Int32)) 4 r_1) 8 x_4) rg hq mf cd fg L O) (wr := []) X hK hP hD hS hA (c_Pr_result l D cI qp qr qh qm qw qu qf ql qo ms mn (upd (upd (upd g 3 (1 : Int32)) 4 r_1) 8 x_4) rg hq mf cd fg L O r_5 r_6 _ h _) ⟨rfl, rfl⟩ m_Pr_result k_Pr_161 ⟨Nat.le_of_ble_eq_true rfl, Nat.le_of_ble_eq_true rfl⟩ [0, 1, 2, 3, 4, 5, 6, 7, 8] [] rfl rfl (by decide) (by decide) (by decide) 4 0 rfl rfl rfl rfl hl.1 rfl (Nat.le_of_ble_eq_true rfl) d_Pr_loadLinked_54 hf0 (fun r_8 u_7 H locs h hP hD hS => ?_)
    have hP : va_P D vwCl (wP qp qr qh qm qw qu qf ql qo cI ms mn u_7.1 u_7.2.1 u_7.2.2.1 u_7.2.2.2.1 u_7.2.2.2.2.1 u_7.2.2.2.2.2.1 u_7.2.2.2.2.2.2.1 u_7.2.2.2.2.2.2.2) H := hP.sub [0, 1, 2, 3, 4, 5, 6, 7, 8] rfl
    have hD : va_D A (wP qp qr qh qm qw qu qf ql qo cI ms mn u_7.1 u_7.2.1 u_7.2.2.1 u_7.2.2.2.1 u_7.2.2.2.2.1 u_7.2.2.2.2.2.1 u_7.2.2.2.2.2.2.1 u_7.2.2.2.2.2.2.2) := hD.sub [0, 1, 2, 3, 4, 5, 6, 7, 8] (by decide) rfl
    exact W.iret (v := r_8) hx hb hr (fun t ht hW => ⟨⟨r_8, (u_7.1, u_7.2.1, u_7.2.2.1, u_7.2.2.2.1, u_7.2.2.2.2.1, u_7.2.2.2.2.2.1, u_7.2.2.2.2.2.2.1, u_7.2.2.2.2.2.2.2), rfl, h, by rw [ht]; exact hP, hD⟩, hS.F ht⟩) hS.2.2 d_Pr_loadLinked_57
  · skip
    have h := h.1 c_3
    refine lv_iconst (v := 1) hx hb d_Pr_loadLinked_18 (by decide) ?_
    exact W.iret (v := (1 : Int32)) hx hb hr (fun t ht hW => ⟨⟨(1 : Int32), (g, rg, hq, mf, cd, fg, L, O), rfl, h, by rw [ht]; exact hP, hD⟩, hS.F ht⟩) hS.2.2 d_Pr_loadLinked_19
def wp_Pr_loadSingle (ms : Int32) (mn : Nat) (g : Nat → Int32) (rg : Nat → Int32) (hq : Nat → Int32) (mf : Nat → Int32) (cd : Int32) (fg : Nat → Int32) (L : Int32 × Int32 × Int32 × Int64) (O : Int32 × Int32 × Int32 × Int64) (a0 : Int32) (P : Int32 → ((Nat → Int32) × (Nat → Int32) × (Nat → Int32) × (Nat → Int32) × Int32 × (Nat → Int32) × (Int32 × Int32 × Int32 × Int64) × (Int32 × Int32 × Int32 × Int64)) → Prop) : Prop := wp_Pr_address ms mn g rg hq mf cd fg L O a0 (fun r_1 => wp_Me_good ms mn mf r_1 (4 : Int32) (fun r_2 => ((r_2 = (0 : Int32) → P (1 : Int32) (g, rg, hq, mf, cd, fg, L, O)) ∧ (¬ r_2 = (0 : Int32) → ∀ x_4 : Int32, x_4 = ((g 8) + (1 : Int32)) → wp_Pr_rt a0 (fun r_5 => wp_Me_read ms mn mf r_1 (4 : Int32) (fun r_6 => vp_in r_5 32 ∧ P (0 : Int32) ((upd g 8 x_4), rg, hq, mf, cd, (upd fg r_5.toNatClampNeg r_6), L, O)))))))
abbrev rm_Pr_loadSingle : Room := { frames := 2, cells := 0, slots := 0, locals := 43 }
set_option maxHeartbeats 4000000 in
set_option maxRecDepth 100000 in
theorem c_Pr_loadSingle (l : Launch) (D : va_G) (cI : ClassId) (qp : Nat) (qr : Nat) (qh : Nat) (qm : Nat) (qw : Nat) (qu : Nat) (qf : Nat) (ql : Nat) (qo : Nat) (ms : Int32) (mn : Nat) (g : Nat → Int32) (rg : Nat → Int32) (hq : Nat → Int32) (mf : Nat → Int32) (cd : Int32) (fg : Nat → Int32) (L : Int32 × Int32 × Int32 × Int64) (O : Int32 × Int32 × Int32 × Int64) (a0 : Int32) (P : Int32 → ((Nat → Int32) × (Nat → Int32) × (Nat → Int32) × (Nat → Int32) × Int32 × (Nat → Int32) × (Int32 × Int32 × Int32 × Int64) × (Int32 × Int32 × Int32 × Int64)) → Prop) (h : wp_Pr_loadSingle ms mn g rg hq mf cd fg L O a0 P) (sz : Nat) : Met l y_Pr_loadSingle (zz_ws y_Pr_loadSingle b_Pr_loadSingle 3 (some .int)) rm_Pr_loadSingle (va_Pc [.ref qp, .int a0] (zz_pw D [(cI, .int)] (wP qp qr qh qm qw qu qf ql qo cI ms mn g rg hq mf cd fg L O) sz)) (va_Qi P (zz_qw D (fun u => wP qp qr qh qm qw qu qf ql qo cI ms mn u.1 u.2.1 u.2.2.1 u.2.2.2.1 u.2.2.2.2.1 u.2.2.2.2.2.1 u.2.2.2.2.2.2.1 u.2.2.2.2.2.2.2) (va_A (wP qp qr qh qm qw qu qf ql qo cI ms mn g rg hq mf cd fg L O) sz)) (va_A (wP qp qr qh qm qw qu qf ql qo cI ms mn g rg hq mf cd fg L O) sz)) 0 0 (va_A (wP qp qr qh qm qw qu qf ql qo cI ms mn g rg hq mf cd fg L O) sz) := by
  refine Met.ofW (cc := b_Pr_loadSingle) (maxL := 3) (ret := (some .int)) (by decide) rfl ?_
  intro p e s m args below meth c s₁ B hml hv
  obtain ⟨rfl, hsz, hP, hK, hD0⟩ := hv
  have hx := B.exec
  have hb := B.bytes
  have hr := B.returns
  have hts := atoms_spec (ws := (zz_ws y_Pr_loadSingle b_Pr_loadSingle 3 (some .int))) B.pre
  have hown : s.vm.findClass R_Pr = some m.cls := findClass_of_methodNamed B.named
  have hlocks := B.notSynchronized
  have hT := zz_hts hts
  have X : CallFix p m c b_Pr_loadSingle 3 s ([.ref qp, .int a0] : List Value).toArray (zz_ws y_Pr_loadSingle b_Pr_loadSingle 3 (some .int)) R_Pr := ⟨hx, hb, hml, hown, hts⟩
  have hf0 : 0 + 0 ≤ (headSpec (zz_ws y_Pr_loadSingle b_Pr_loadSingle 3 (some .int)) rm_Pr_loadSingle).room.cells ∧ 0 + 0 ≤ (headSpec (zz_ws y_Pr_loadSingle b_Pr_loadSingle 3 (some .int)) rm_Pr_loadSingle).room.slots := ⟨Nat.le_of_ble_eq_true rfl, Nat.le_of_ble_eq_true rfl⟩
  subst hsz
  have hD := hD0.self (sz := s.heap.size)
  generalize hAe : va_A (wP qp qr qh qm qw qu qf ql qo cI ms mn g rg hq mf cd fg L O) s.heap.size = A at hD ⊢
  have hA : ∀ q : Nat, s.heap.size ≤ q → A q := fun q h => by rw [← hAe]; exact Or.inr h
  have hS : va_S A s.heap s.heap [] := va_S.rf
  have hl := lv_entry ([.ref qp, .int a0]) (n := 3) (Nat.le_of_ble_eq_true rfl)
  rw [lg_entry_eq]
  generalize (lg_sl ([.ref qp, .int a0]) ++ List.replicate (3 - (lg_sl ([.ref qp, .int a0])).length) Slot.unset).toArray = ls at hl ⊢
  have hl : lv_has ls 3 [(0, .ref qp), (1, .int a0)] := hl
  refine lv_aload_n hx hb d_Pr_loadSingle_0 rfl (lv_at hl 0 rfl) ?_
  refine lv_iload_n hx hb d_Pr_loadSingle_1 rfl (lv_at hl 1 rfl) ?_
  refine zz_Ri (As := [.int a0]) (rest := []) (wc := wP qp qr qh qm qw qu qf ql qo cI ms mn g rg hq mf cd fg L O) X hK hP (c_Pr_address l D cI qp qr qh qm qw qu qf ql qo ms mn g rg hq mf cd fg L O a0 _ h) ⟨rfl, rfl⟩ m_Pr_address k_Pr_261 ⟨Nat.le_of_ble_eq_true rfl, Nat.le_of_ble_eq_true rfl⟩ [0, 1, 2, 3, 4, 5, 6, 7, 8] rfl 4 0 rfl rfl rfl rfl hl.1 rfl (Nat.le_of_ble_eq_true rfl) d_Pr_loadSingle_2 hf0 (fun r_1 h => ?_)
  refine lv_istore_n (lv' := [(2, .int r_1), (0, .ref qp), (1, .int a0)]) hx hb d_Pr_loadSingle_5 rfl hl (by decide) rfl (fun ls hl => ?_)
  refine lv_aload_n hx hb d_Pr_loadSingle_6 rfl (lv_at hl 1 rfl) ?_
  refine g_Pr_33 (v := .ref qm) hx hb hT hown hK hP 0 rfl rfl d_Pr_loadSingle_7 ?_
  refine lv_iload_n hx hb d_Pr_loadSingle_10 rfl (lv_at hl 0 rfl) ?_
  refine lv_iconst (v := 4) hx hb d_Pr_loadSingle_11 (by decide) ?_
  refine zz_Ri (As := [.int r_1, .int (4 : Int32)]) (rest := []) (wc := wM qm qw cI ms mn mf) X hK hP (c_Me_good l D cI qm qw ms mn mf r_1 (4 : Int32) _ h) ⟨rfl, rfl⟩ m_Me_good k_Pr_51 ⟨Nat.le_of_ble_eq_true rfl, Nat.le_of_ble_eq_true rfl⟩ [3, 4] rfl 3 3 rfl rfl rfl rfl hl.1 rfl (Nat.le_of_ble_eq_true rfl) d_Pr_loadSingle_12 hf0 (fun r_2 h => ?_)
  refine lv_if_ne (tgt := 20) hx hb d_Pr_loadSingle_15 (by decide) (fun c_3 => ?_) (fun c_3 => ?_)
  · skip
    have h := h.2 c_3
    refine lv_aload_n hx hb d_Pr_loadSingle_20 rfl (lv_at hl 1 rfl) ?_
    refine lv_dup hx hb d_Pr_loadSingle_21 rfl ?_
    refine g_Pr_267 (v := .int (g 8)) hx hb hT hown hK hP 0 rfl rfl d_Pr_loadSingle_22 ?_
    refine lv_iconst (v := 1) hx hb d_Pr_loadSingle_25 (by decide) ?_
    refine lv_iadd hx hb d_Pr_loadSingle_26 ?_
    refine lv_topi (fun x_4 ex_4 => ?_)
    have h := h x_4 ex_4
    refine p_Pr_267 hx hb hT hown hK hP hD hS 0 rfl rfl d_Pr_loadSingle_27 (fun H locs (hP : va_P D vwCl (wP qp qr qh qm qw qu qf ql qo cI ms mn (upd g 8 x_4) rg hq mf cd fg L O) H) (hD : va_D A (wP qp qr qh qm qw qu qf ql qo cI ms mn (upd g 8 x_4) rg hq mf cd fg L O)) hS => ?_)
    refine lv_aload_n hx hb d_Pr_loadSingle_30 rfl (lv_at hl 1 rfl) ?_
    refine g_Pr_25 (v := .ref qu) hx hb hT hown hK hP 0 rfl rfl d_Pr_loadSingle_31 ?_
    refine g_Pr_273 (v := .ref qf) hx hb hT hown hK hP 5 rfl rfl d_Pr_loadSingle_34 ?_
    refine lv_iload_n hx hb d_Pr_loadSingle_37 rfl (lv_at hl 2 rfl) ?_
    refine zz_Si (As := [.int a0]) (rest := [.ref qf]) X (c_Pr_rt l a0 _ h) ⟨rfl, rfl⟩ m_Pr_rt k_Pr_89 ⟨Nat.le_of_ble_eq_true rfl, Nat.le_of_ble_eq_true rfl⟩ rfl hl.1 rfl (Nat.le_of_ble_eq_true rfl) d_Pr_loadSingle_38 hf0 (fun r_5 h => ?_)
    refine lv_aload_n hx hb d_Pr_loadSingle_41 rfl (lv_at hl 1 rfl) ?_
    refine g_Pr_33 (v := .ref qm) hx hb hT hown hK hP 0 rfl rfl d_Pr_loadSingle_42 ?_
    refine lv_iload_n hx hb d_Pr_loadSingle_45 rfl (lv_at hl 0 rfl) ?_
    refine lv_iconst (v := 4) hx hb d_Pr_loadSingle_46 (by decide) ?_
    refine zz_Ri (As := [.int r_1, .int (4 : Int32)]) (rest := [.int r_5, .ref qf]) (wc := wM qm qw cI ms mn mf) X hK hP (c_Me_read l D cI qm qw ms mn mf r_1 (4 : Int32) _ h) ⟨rfl, rfl⟩ m_Me_read k_Pr_57 ⟨Nat.le_of_ble_eq_true rfl, Nat.le_of_ble_eq_true rfl⟩ [3, 4] rfl 3 3 rfl rfl rfl rfl hl.1 rfl (Nat.le_of_ble_eq_true rfl) d_Pr_loadSingle_47 hf0 (fun r_6 h => ?_)
    refine va_iast (f := fg) hx hb hK hP hD hS 6 0 rfl rfl h.1 d_Pr_loadSingle_50 (fun H locs (hP : va_P D vwCl (wP qp qr qh qm qw qu qf ql qo cI ms mn (upd g 8 x_4) rg hq mf cd (upd fg r_5.toNatClampNeg r_6) L O) H) (hD : va_D A (wP qp qr qh qm qw qu qf ql qo cI ms mn (upd g 8 x_4) rg hq mf cd (upd fg r_5.toNatClampNeg r_6) L O)) hS => ?_)
    have h := h.2
    refine lv_iconst (v := 0) hx hb d_Pr_loadSingle_51 (by decide) ?_
    exact W.iret (v := (0 : Int32)) hx hb hr (fun t ht hW => ⟨⟨(0 : Int32), ((upd g 8 x_4), rg, hq, mf, cd, (upd fg r_5.toNatClampNeg r_6), L, O), rfl, h, by rw [ht]; exact hP, hD⟩, hS.F ht⟩) hS.2.2 d_Pr_loadSingle_52
  · skip
    have h := h.1 c_3
    refine lv_iconst (v := 1) hx hb d_Pr_loadSingle_18 (by decide) ?_
    exact W.iret (v := (1 : Int32)) hx hb hr (fun t ht hW => ⟨⟨(1 : Int32), (g, rg, hq, mf, cd, fg, L, O), rfl, h, by rw [ht]; exact hP, hD⟩, hS.F ht⟩) hS.2.2 d_Pr_loadSingle_19
def wp_Pr_loadDouble (ms : Int32) (mn : Nat) (g : Nat → Int32) (rg : Nat → Int32) (hq : Nat → Int32) (mf : Nat → Int32) (cd : Int32) (fg : Nat → Int32) (L : Int32 × Int32 × Int32 × Int64) (O : Int32 × Int32 × Int32 × Int64) (a0 : Int32) (P : Int32 → ((Nat → Int32) × (Nat → Int32) × (Nat → Int32) × (Nat → Int32) × Int32 × (Nat → Int32) × (Int32 × Int32 × Int32 × Int64) × (Int32 × Int32 × Int32 × Int64)) → Prop) : Prop := wp_Pr_address ms mn g rg hq mf cd fg L O a0 (fun r_1 => wp_Pr_rt a0 (fun r_2 => (((r_2 &&& (1 : Int32)) = (0 : Int32) → wp_Me_good ms mn mf r_1 (8 : Int32) (fun r_4 => ((r_4 = (0 : Int32) → P (1 : Int32) (g, rg, hq, mf, cd, fg, L, O)) ∧ (¬ r_4 = (0 : Int32) → ∀ x_6 : Int32, x_6 = ((g 8) + (1 : Int32)) → wp_Me_read ms mn mf r_1 (4 : Int32) (fun r_7 => vp_in (r_2 ||| (1 : Int32)) 32 ∧ wp_Me_read ms mn mf (r_1 + (4 : Int32)) (4 : Int32) (fun r_8 => vp_in r_2 32 ∧ P (0 : Int32) ((upd g 8 x_6), rg, hq, mf, cd, (upd (upd fg (r_2 ||| (1 : Int32)).toNatClampNeg r_7) r_2.toNatClampNeg r_8), L, O))))))) ∧ (¬ (r_2 &&& (1 : Int32)) = (0 : Int32) → P (8 : Int32) (g, rg, hq, mf, cd, fg, L, O)))))
abbrev rm_Pr_loadDouble : Room := { frames := 2, cells := 0, slots := 0, locals := 43 }
set_option maxHeartbeats 4000000 in
set_option maxRecDepth 100000 in
theorem c_Pr_loadDouble (l : Launch) (D : va_G) (cI : ClassId) (qp : Nat) (qr : Nat) (qh : Nat) (qm : Nat) (qw : Nat) (qu : Nat) (qf : Nat) (ql : Nat) (qo : Nat) (ms : Int32) (mn : Nat) (g : Nat → Int32) (rg : Nat → Int32) (hq : Nat → Int32) (mf : Nat → Int32) (cd : Int32) (fg : Nat → Int32) (L : Int32 × Int32 × Int32 × Int64) (O : Int32 × Int32 × Int32 × Int64) (a0 : Int32) (P : Int32 → ((Nat → Int32) × (Nat → Int32) × (Nat → Int32) × (Nat → Int32) × Int32 × (Nat → Int32) × (Int32 × Int32 × Int32 × Int64) × (Int32 × Int32 × Int32 × Int64)) → Prop) (h : wp_Pr_loadDouble ms mn g rg hq mf cd fg L O a0 P) (sz : Nat) : Met l y_Pr_loadDouble (zz_ws y_Pr_loadDouble b_Pr_loadDouble 4 (some .int)) rm_Pr_loadDouble (va_Pc [.ref qp, .int a0] (zz_pw D [(cI, .int)] (wP qp qr qh qm qw qu qf ql qo cI ms mn g rg hq mf cd fg L O) sz)) (va_Qi P (zz_qw D (fun u => wP qp qr qh qm qw qu qf ql qo cI ms mn u.1 u.2.1 u.2.2.1 u.2.2.2.1 u.2.2.2.2.1 u.2.2.2.2.2.1 u.2.2.2.2.2.2.1 u.2.2.2.2.2.2.2) (va_A (wP qp qr qh qm qw qu qf ql qo cI ms mn g rg hq mf cd fg L O) sz)) (va_A (wP qp qr qh qm qw qu qf ql qo cI ms mn g rg hq mf cd fg L O) sz)) 0 0 (va_A (wP qp qr qh qm qw qu qf ql qo cI ms mn g rg hq mf cd fg L O) sz) := by
  refine Met.ofW (cc := b_Pr_loadDouble) (maxL := 4) (ret := (some .int)) (by decide) rfl ?_
  intro p e s m args below meth c s₁ B hml hv
  obtain ⟨rfl, hsz, hP, hK, hD0⟩ := hv
  have hx := B.exec
  have hb := B.bytes
  have hr := B.returns
  have hts := atoms_spec (ws := (zz_ws y_Pr_loadDouble b_Pr_loadDouble 4 (some .int))) B.pre
  have hown : s.vm.findClass R_Pr = some m.cls := findClass_of_methodNamed B.named
  have hlocks := B.notSynchronized
  have hT := zz_hts hts
  have X : CallFix p m c b_Pr_loadDouble 4 s ([.ref qp, .int a0] : List Value).toArray (zz_ws y_Pr_loadDouble b_Pr_loadDouble 4 (some .int)) R_Pr := ⟨hx, hb, hml, hown, hts⟩
  have hf0 : 0 + 0 ≤ (headSpec (zz_ws y_Pr_loadDouble b_Pr_loadDouble 4 (some .int)) rm_Pr_loadDouble).room.cells ∧ 0 + 0 ≤ (headSpec (zz_ws y_Pr_loadDouble b_Pr_loadDouble 4 (some .int)) rm_Pr_loadDouble).room.slots := ⟨Nat.le_of_ble_eq_true rfl, Nat.le_of_ble_eq_true rfl⟩
  subst hsz
  have hD := hD0.self (sz := s.heap.size)
  generalize hAe : va_A (wP qp qr qh qm qw qu qf ql qo cI ms mn g rg hq mf cd fg L O) s.heap.size = A at hD ⊢
  have hA : ∀ q : Nat, s.heap.size ≤ q → A q := fun q h => by rw [← hAe]; exact Or.inr h
  have hS : va_S A s.heap s.heap [] := va_S.rf
  have hl := lv_entry ([.ref qp, .int a0]) (n := 4) (Nat.le_of_ble_eq_true rfl)
  rw [lg_entry_eq]
  generalize (lg_sl ([.ref qp, .int a0]) ++ List.replicate (4 - (lg_sl ([.ref qp, .int a0])).length) Slot.unset).toArray = ls at hl ⊢
  have hl : lv_has ls 4 [(0, .ref qp), (1, .int a0)] := hl
  refine lv_aload_n hx hb d_Pr_loadDouble_0 rfl (lv_at hl 0 rfl) ?_
  refine lv_iload_n hx hb d_Pr_loadDouble_1 rfl (lv_at hl 1 rfl) ?_
  refine zz_Ri (As := [.int a0]) (rest := []) (wc := wP qp qr qh qm qw qu qf ql qo cI ms mn g rg hq mf cd fg L O) X hK hP (c_Pr_address l D cI qp qr qh qm qw qu qf ql qo ms mn g rg hq mf cd fg L O a0 _ h) ⟨rfl, rfl⟩ m_Pr_address k_Pr_261 ⟨Nat.le_of_ble_eq_true rfl, Nat.le_of_ble_eq_true rfl⟩ [0, 1, 2, 3, 4, 5, 6, 7, 8] rfl 4 0 rfl rfl rfl rfl hl.1 rfl (Nat.le_of_ble_eq_true rfl) d_Pr_loadDouble_2 hf0 (fun r_1 h => ?_)
  refine lv_istore_n (lv' := [(2, .int r_1), (0, .ref qp), (1, .int a0)]) hx hb d_Pr_loadDouble_5 rfl hl (by decide) rfl (fun ls hl => ?_)
  refine lv_iload_n hx hb d_Pr_loadDouble_6 rfl (lv_at hl 2 rfl) ?_
  refine zz_Si (As := [.int a0]) (rest := []) X (c_Pr_rt l a0 _ h) ⟨rfl, rfl⟩ m_Pr_rt k_Pr_89 ⟨Nat.le_of_ble_eq_true rfl, Nat.le_of_ble_eq_true rfl⟩ rfl hl.1 rfl (Nat.le_of_ble_eq_true rfl) d_Pr_loadDouble_7 hf0 (fun r_2 h => ?_)
  refine lv_istore_n (lv' := [(3, .int r_2), (2, .int r_1), (0, .ref qp), (1, .int a0)]) hx hb d_Pr_loadDouble_10 rfl hl (by decide) rfl (fun ls hl => ?_)
  refine lv_iload_n hx hb d_Pr_loadDouble_11 rfl (lv_at hl 0 rfl) ?_
  refine lv_iconst (v := 1) hx hb d_Pr_loadDouble_12 (by decide) ?_
  refine lv_iand hx hb d_Pr_loadDouble_13 ?_
  refine lv_if_eq (tgt := 20) hx hb d_Pr_loadDouble_14 (by decide) (fun c_3 => ?_) (fun c_3 => ?_)
  · skip
    have h := h.1 c_3
    refine lv_aload_n hx hb d_Pr_loadDouble_20 rfl (lv_at hl 2 rfl) ?_
    refine g_Pr_33 (v := .ref qm) hx hb hT hown hK hP 0 rfl rfl d_Pr_loadDouble_21 ?_
    refine lv_iload_n hx hb d_Pr_loadDouble_24 rfl (lv_at hl 1 rfl) ?_
    refine lv_bipush (v := 8) hx hb d_Pr_loadDouble_25 (by decide) ?_
    refine zz_Ri (As := [.int r_1, .int (8 : Int32)]) (rest := []) (wc := wM qm qw cI ms mn mf) X hK hP (c_Me_good l D cI qm qw ms mn mf r_1 (8 : Int32) _ h) ⟨rfl, rfl⟩ m_Me_good k_Pr_51 ⟨Nat.le_of_ble_eq_true rfl, Nat.le_of_ble_eq_true rfl⟩ [3, 4] rfl 3 3 rfl rfl rfl rfl hl.1 rfl (Nat.le_of_ble_eq_true rfl) d_Pr_loadDouble_27 hf0 (fun r_4 h => ?_)
    refine lv_if_ne (tgt := 35) hx hb d_Pr_loadDouble_30 (by decide) (fun c_5 => ?_) (fun c_5 => ?_)
    · skip
      have h := h.2 c_5
      refine lv_aload_n hx hb d_Pr_loadDouble_35 rfl (lv_at hl 2 rfl) ?_
      refine lv_dup hx hb d_Pr_loadDouble_36 rfl ?_
      refine g_Pr_267 (v := .int (g 8)) hx hb hT hown hK hP 0 rfl rfl d_Pr_loadDouble_37 ?_
      refine lv_iconst (v := 1) hx hb d_Pr_loadDouble_40 (by decide) ?_
      refine lv_iadd hx hb d_Pr_loadDouble_41 ?_
      refine lv_topi (fun x_6 ex_6 => ?_)
      have h := h x_6 ex_6
      refine p_Pr_267 hx hb hT hown hK hP hD hS 0 rfl rfl d_Pr_loadDouble_42 (fun H locs (hP : va_P D vwCl (wP qp qr qh qm qw qu qf ql qo cI ms mn (upd g 8 x_6) rg hq mf cd fg L O) H) (hD : va_D A (wP qp qr qh qm qw qu qf ql qo cI ms mn (upd g 8 x_6) rg hq mf cd fg L O)) hS => ?_)
      refine lv_aload_n hx hb d_Pr_loadDouble_45 rfl (lv_at hl 2 rfl) ?_
      refine g_Pr_25 (v := .ref qu) hx hb hT hown hK hP 0 rfl rfl d_Pr_loadDouble_46 ?_
      refine g_Pr_273 (v := .ref qf) hx hb hT hown hK hP 5 rfl rfl d_Pr_loadDouble_49 ?_
      refine lv_iload_n hx hb d_Pr_loadDouble_52 rfl (lv_at hl 0 rfl) ?_
      refine lv_iconst (v := 1) hx hb d_Pr_loadDouble_53 (by decide) ?_
      refine lv_ior hx hb d_Pr_loadDouble_54 ?_
      refine lv_aload_n hx hb d_Pr_loadDouble_55 rfl (lv_at hl 2 rfl) ?_
      refine g_Pr_33 (v := .ref qm) hx hb hT hown hK hP 0 rfl rfl d_Pr_loadDouble_56 ?_
      refine lv_iload_n hx hb d_Pr_loadDouble_59 rfl (lv_at hl 1 rfl) ?_
      refine lv_iconst (v := 4) hx hb d_Pr_loadDouble_60 (by decide) ?_
      refine zz_Ri (As := [.int r_1, .int (4 : Int32)]) (rest := [.int (r_2 ||| (1 : Int32)), .ref qf]) (wc := wM qm qw cI ms mn mf) X hK hP (c_Me_read l D cI qm qw ms mn mf r_1 (4 : Int32) _ h) ⟨rfl, rfl⟩ m_Me_read k_Pr_57 ⟨Nat.le_of_ble_eq_true rfl, Nat.le_of_ble_eq_true rfl⟩ [3, 4] rfl 3 3 rfl rfl rfl rfl hl.1 rfl (Nat.le_of_ble_eq_true rfl) d_Pr_loadDouble_61 hf0 (fun r_7 h => ?_)
      refine va_iast (f := fg) hx hb hK hP hD hS 6 0 rfl rfl h.1 d_Pr_loadDouble_64 (fun H locs (hP : va_P D vwCl (wP qp qr qh qm qw qu qf ql qo cI ms mn (upd g 8 x_6) rg hq mf cd (upd fg (r_2 ||| (1 : Int32)).toNatClampNeg r_7) L O) H) (hD : va_D A (wP qp qr qh qm qw qu qf ql qo cI ms mn (upd g 8 x_6) rg hq mf cd (upd fg (r_2 ||| (1 : Int32)).toNatClampNeg r_7) L O)) hS => ?_)
      have h := h.2
      refine lv_aload_n hx hb d_Pr_loadDouble_65 rfl (lv_at hl 2 rfl) ?_
      refine g_Pr_25 (v := .ref qu) hx hb hT hown hK hP 0 rfl rfl d_Pr_loadDouble_66 ?_
      refine g_Pr_273 (v := .ref qf) hx hb hT hown hK hP 5 rfl rfl d_Pr_loadDouble_69 ?_
      refine lv_iload_n hx hb d_Pr_loadDouble_72 rfl (lv_at hl 0 rfl) ?_
      refine lv_aload_n hx hb d_Pr_loadDouble_73 rfl (lv_at hl 2 rfl) ?_
      refine g_Pr_33 (v := .ref qm) hx hb hT hown hK hP 0 rfl rfl d_Pr_loadDouble_74 ?_
      refine lv_iload_n hx hb d_Pr_loadDouble_77 rfl (lv_at hl 1 rfl) ?_
      refine lv_iconst (v := 4) hx hb d_Pr_loadDouble_78 (by decide) ?_
      refine lv_iadd hx hb d_Pr_loadDouble_79 ?_
      refine lv_iconst (v := 4) hx hb d_Pr_loadDouble_80 (by decide) ?_
      refine zz_Ri (As := [.int (r_1 + (4 : Int32)), .int (4 : Int32)]) (rest := [.int r_2, .ref qf]) (wc := wM qm qw cI ms mn mf) X hK hP (c_Me_read l D cI qm qw ms mn mf (r_1 + (4 : Int32)) (4 : Int32) _ h) ⟨rfl, rfl⟩ m_Me_read k_Pr_57 ⟨Nat.le_of_ble_eq_true rfl, Nat.le_of_ble_eq_true rfl⟩ [3, 4] rfl 3 3 rfl rfl rfl rfl hl.1 rfl (Nat.le_of_ble_eq_true rfl) d_Pr_loadDouble_81 hf0 (fun r_8 h => ?_)
      refine va_iast (f := (upd fg (r_2 ||| (1 : Int32)).toNatClampNeg r_7)) hx hb hK hP hD hS 6 0 rfl rfl h.1 d_Pr_loadDouble_84 (fun H locs (hP : va_P D vwCl (wP qp qr qh qm qw qu qf ql qo cI ms mn (upd g 8 x_6) rg hq mf cd (upd (upd fg (r_2 ||| (1 : Int32)).toNatClampNeg r_7) r_2.toNatClampNeg r_8) L O) H) (hD : va_D A (wP qp qr qh qm qw qu qf ql qo cI ms mn (upd g 8 x_6) rg hq mf cd (upd (upd fg (r_2 ||| (1 : Int32)).toNatClampNeg r_7) r_2.toNatClampNeg r_8) L O)) hS => ?_)
      have h := h.2
      refine lv_iconst (v := 0) hx hb d_Pr_loadDouble_85 (by decide) ?_
      exact W.iret (v := (0 : Int32)) hx hb hr (fun t ht hW => ⟨⟨(0 : Int32), ((upd g 8 x_6), rg, hq, mf, cd, (upd (upd fg (r_2 ||| (1 : Int32)).toNatClampNeg r_7) r_2.toNatClampNeg r_8), L, O), rfl, h, by rw [ht]; exact hP, hD⟩, hS.F ht⟩) hS.2.2 d_Pr_loadDouble_86
    · skip
      have h := h.1 c_5
      refine lv_iconst (v := 1) hx hb d_Pr_loadDouble_33 (by decide) ?_
      exact W.iret (v := (1 : Int32)) hx hb hr (fun t ht hW => ⟨⟨(1 : Int32), (g, rg, hq, mf, cd, fg, L, O), rfl, h, by rw [ht]; exact hP, hD⟩, hS.F ht⟩) hS.2.2 d_Pr_loadDouble_34
  · skip
    have h := h.2 c_3
    refine lv_bipush (v := 8) hx hb d_Pr_loadDouble_17 (by decide) ?_
    exact W.iret (v := (8 : Int32)) hx hb hr (fun t ht hW => ⟨⟨(8 : Int32), (g, rg, hq, mf, cd, fg, L, O), rfl, h, by rw [ht]; exact hP, hD⟩, hS.F ht⟩) hS.2.2 d_Pr_loadDouble_19
def wp_Pr_store (ms : Int32) (mn : Nat) (g : Nat → Int32) (rg : Nat → Int32) (hq : Nat → Int32) (mf : Nat → Int32) (cd : Int32) (fg : Nat → Int32) (L : Int32 × Int32 × Int32 × Int64) (O : Int32 × Int32 × Int32 × Int64) (a0 : Int32) (P : Int32 → ((Nat → Int32) × (Nat → Int32) × (Nat → Int32) × (Nat → Int32) × Int32 × (Nat → Int32) × (Int32 × Int32 × Int32 × Int64) × (Int32 × Int32 × Int32 × Int64)) → Prop) : Prop := wp_Pr_address ms mn g rg hq mf cd fg L O a0 (fun r_1 => wp_Pr_bytes a0 (fun r_2 => wp_Me_good ms mn mf r_1 r_2 (fun r_3 => ((r_3 = (0 : Int32) → P (2 : Int32) (g, rg, hq, mf, cd, fg, L, O)) ∧ (¬ r_3 = (0 : Int32) → ∀ x_5 : Int32, x_5 = ((g 9) + (1 : Int32)) → wp_Pr_rt a0 (fun r_6 => vp_in r_6 32 ∧ ∀ x_7 : Int32, x_7 = (rg r_6.toNatClampNeg) → wp_Me_write ms mn mf r_1 r_2 x_7 (fun u_8 => P (0 : Int32) ((upd g 9 x_5), rg, hq, u_8, cd, fg, L, O))))))))
abbrev rm_Pr_store : Room := { frames := 2, cells := 0, slots := 0, locals := 46 }
set_option maxHeartbeats 4000000 in
set_option maxRecDepth 100000 in
theorem c_Pr_store (l : Launch) (D : va_G) (cI : ClassId) (qp : Nat) (qr : Nat) (qh : Nat) (qm : Nat) (qw : Nat) (qu : Nat) (qf : Nat) (ql : Nat) (qo : Nat) (ms : Int32) (mn : Nat) (g : Nat → Int32) (rg : Nat → Int32) (hq : Nat → Int32) (mf : Nat → Int32) (cd : Int32) (fg : Nat → Int32) (L : Int32 × Int32 × Int32 × Int64) (O : Int32 × Int32 × Int32 × Int64) (a0 : Int32) (P : Int32 → ((Nat → Int32) × (Nat → Int32) × (Nat → Int32) × (Nat → Int32) × Int32 × (Nat → Int32) × (Int32 × Int32 × Int32 × Int64) × (Int32 × Int32 × Int32 × Int64)) → Prop) (h : wp_Pr_store ms mn g rg hq mf cd fg L O a0 P) (sz : Nat) : Met l y_Pr_store (zz_ws y_Pr_store b_Pr_store 4 (some .int)) rm_Pr_store (va_Pc [.ref qp, .int a0] (zz_pw D [(cI, .int)] (wP qp qr qh qm qw qu qf ql qo cI ms mn g rg hq mf cd fg L O) sz)) (va_Qi P (zz_qw D (fun u => wP qp qr qh qm qw qu qf ql qo cI ms mn u.1 u.2.1 u.2.2.1 u.2.2.2.1 u.2.2.2.2.1 u.2.2.2.2.2.1 u.2.2.2.2.2.2.1 u.2.2.2.2.2.2.2) (va_A (wP qp qr qh qm qw qu qf ql qo cI ms mn g rg hq mf cd fg L O) sz)) (va_A (wP qp qr qh qm qw qu qf ql qo cI ms mn g rg hq mf cd fg L O) sz)) 0 0 (va_A (wP qp qr qh qm qw qu qf ql qo cI ms mn g rg hq mf cd fg L O) sz) := by
  refine Met.ofW (cc := b_Pr_store) (maxL := 4) (ret := (some .int)) (by decide) rfl ?_
  intro p e s m args below meth c s₁ B hml hv
  obtain ⟨rfl, hsz, hP, hK, hD0⟩ := hv
  have hx := B.exec
  have hb := B.bytes
  have hr := B.returns
  have hts := atoms_spec (ws := (zz_ws y_Pr_store b_Pr_store 4 (some .int))) B.pre
  have hown : s.vm.findClass R_Pr = some m.cls := findClass_of_methodNamed B.named
  have hlocks := B.notSynchronized
  have hT := zz_hts hts
  have X : CallFix p m c b_Pr_store 4 s ([.ref qp, .int a0] : List Value).toArray (zz_ws y_Pr_store b_Pr_store 4 (some .int)) R_Pr := ⟨hx, hb, hml, hown, hts⟩
  have hf0 : 0 + 0 ≤ (headSpec (zz_ws y_Pr_store b_Pr_store 4 (some .int)) rm_Pr_store).room.cells ∧ 0 + 0 ≤ (headSpec (zz_ws y_Pr_store b_Pr_store 4 (some .int)) rm_Pr_store).room.slots := ⟨Nat.le_of_ble_eq_true rfl, Nat.le_of_ble_eq_true rfl⟩
  subst hsz
  have hD := hD0.self (sz := s.heap.size)
  generalize hAe : va_A (wP qp qr qh qm qw qu qf ql qo cI ms mn g rg hq mf cd fg L O) s.heap.size = A at hD ⊢
  have hA : ∀ q : Nat, s.heap.size ≤ q → A q := fun q h => by rw [← hAe]; exact Or.inr h
  have hS : va_S A s.heap s.heap [] := va_S.rf
  have hl := lv_entry ([.ref qp, .int a0]) (n := 4) (Nat.le_of_ble_eq_true rfl)
  rw [lg_entry_eq]
  generalize (lg_sl ([.ref qp, .int a0]) ++ List.replicate (4 - (lg_sl ([.ref qp, .int a0])).length) Slot.unset).toArray = ls at hl ⊢
  have hl : lv_has ls 4 [(0, .ref qp), (1, .int a0)] := hl
  refine lv_aload_n hx hb d_Pr_store_0 rfl (lv_at hl 0 rfl) ?_
  refine lv_iload_n hx hb d_Pr_store_1 rfl (lv_at hl 1 rfl) ?_
  refine zz_Ri (As := [.int a0]) (rest := []) (wc := wP qp qr qh qm qw qu qf ql qo cI ms mn g rg hq mf cd fg L O) X hK hP (c_Pr_address l D cI qp qr qh qm qw qu qf ql qo ms mn g rg hq mf cd fg L O a0 _ h) ⟨rfl, rfl⟩ m_Pr_address k_Pr_261 ⟨Nat.le_of_ble_eq_true rfl, Nat.le_of_ble_eq_true rfl⟩ [0, 1, 2, 3, 4, 5, 6, 7, 8] rfl 4 0 rfl rfl rfl rfl hl.1 rfl (Nat.le_of_ble_eq_true rfl) d_Pr_store_2 hf0 (fun r_1 h => ?_)
  refine lv_istore_n (lv' := [(2, .int r_1), (0, .ref qp), (1, .int a0)]) hx hb d_Pr_store_5 rfl hl (by decide) rfl (fun ls hl => ?_)
  refine lv_iload_n hx hb d_Pr_store_6 rfl (lv_at hl 2 rfl) ?_
  refine zz_Si (As := [.int a0]) (rest := []) X (c_Pr_bytes l a0 _ h) ⟨rfl, rfl⟩ m_Pr_bytes k_Pr_264 ⟨Nat.le_of_ble_eq_true rfl, Nat.le_of_ble_eq_true rfl⟩ rfl hl.1 rfl (Nat.le_of_ble_eq_true rfl) d_Pr_store_7 hf0 (fun r_2 h => ?_)
  refine lv_istore_n (lv' := [(3, .int r_2), (2, .int r_1), (0, .ref qp), (1, .int a0)]) hx hb d_Pr_store_10 rfl hl (by decide) rfl (fun ls hl => ?_)
  refine lv_aload_n hx hb d_Pr_store_11 rfl (lv_at hl 2 rfl) ?_
  refine g_Pr_33 (v := .ref qm) hx hb hT hown hK hP 0 rfl rfl d_Pr_store_12 ?_
  refine lv_iload_n hx hb d_Pr_store_15 rfl (lv_at hl 1 rfl) ?_
  refine lv_iload_n hx hb d_Pr_store_16 rfl (lv_at hl 0 rfl) ?_
  refine zz_Ri (As := [.int r_1, .int r_2]) (rest := []) (wc := wM qm qw cI ms mn mf) X hK hP (c_Me_good l D cI qm qw ms mn mf r_1 r_2 _ h) ⟨rfl, rfl⟩ m_Me_good k_Pr_51 ⟨Nat.le_of_ble_eq_true rfl, Nat.le_of_ble_eq_true rfl⟩ [3, 4] rfl 3 3 rfl rfl rfl rfl hl.1 rfl (Nat.le_of_ble_eq_true rfl) d_Pr_store_17 hf0 (fun r_3 h => ?_)
  refine lv_if_ne (tgt := 25) hx hb d_Pr_store_20 (by decide) (fun c_4 => ?_) (fun c_4 => ?_)
  · skip
    have h := h.2 c_4
    refine lv_aload_n hx hb d_Pr_store_25 rfl (lv_at hl 2 rfl) ?_
    refine lv_dup hx hb d_Pr_store_26 rfl ?_
    refine g_Pr_274 (v := .int (g 9)) hx hb hT hown hK hP 0 rfl rfl d_Pr_store_27 ?_
    refine lv_iconst (v := 1) hx hb d_Pr_store_30 (by decide) ?_
    refine lv_iadd hx hb d_Pr_store_31 ?_
    refine lv_topi (fun x_5 ex_5 => ?_)
    have h := h x_5 ex_5
    refine p_Pr_274 hx hb hT hown hK hP hD hS 0 rfl rfl d_Pr_store_32 (fun H locs (hP : va_P D vwCl (wP qp qr qh qm qw qu qf ql qo cI ms mn (upd g 9 x_5) rg hq mf cd fg L O) H) (hD : va_D A (wP qp qr qh qm qw qu qf ql qo cI ms mn (upd g 9 x_5) rg hq mf cd fg L O)) hS => ?_)
    refine lv_aload_n hx hb d_Pr_store_35 rfl (lv_at hl 2 rfl) ?_
    refine g_Pr_33 (v := .ref qm) hx hb hT hown hK hP 0 rfl rfl d_Pr_store_36 ?_
    refine lv_iload_n hx hb d_Pr_store_39 rfl (lv_at hl 1 rfl) ?_
    refine lv_iload_n hx hb d_Pr_store_40 rfl (lv_at hl 0 rfl) ?_
    refine lv_aload_n hx hb d_Pr_store_41 rfl (lv_at hl 2 rfl) ?_
    refine g_Pr_9 (v := .ref qr) hx hb hT hown hK hP 0 rfl rfl d_Pr_store_42 ?_
    refine lv_iload_n hx hb d_Pr_store_45 rfl (lv_at hl 3 rfl) ?_
    refine zz_Si (As := [.int a0]) (rest := [.ref qr, .int r_2, .int r_1, .ref qm]) X (c_Pr_rt l a0 _ h) ⟨rfl, rfl⟩ m_Pr_rt k_Pr_89 ⟨Nat.le_of_ble_eq_true rfl, Nat.le_of_ble_eq_true rfl⟩ rfl hl.1 rfl (Nat.le_of_ble_eq_true rfl) d_Pr_store_46 hf0 (fun r_6 h => ?_)
    refine va_iald (f := rg) hx hb hK hP 1 0 rfl rfl h.1 d_Pr_store_49 ?_
    have h := h.2
    refine lv_topi (fun x_7 ex_7 => ?_)
    have h := h x_7 ex_7
    refine zz_Wv (As := [.int r_1, .int r_2, .int x_7]) (rest := []) (wc := wM qm qw cI ms mn mf) (wr := [(qp, .inr (4, [.ref qm, .ref qr, .ref qh, .ref qu, .int ((upd g 9 x_5) 0), .int ((upd g 9 x_5) 1), .int ((upd g 9 x_5) 2), .int ((upd g 9 x_5) 3), .int ((upd g 9 x_5) 4), .int ((upd g 9 x_5) 5), .int ((upd g 9 x_5) 6), .int ((upd g 9 x_5) 7), .int ((upd g 9 x_5) 8), .int ((upd g 9 x_5) 9), .int ((upd g 9 x_5) 10), .int ((upd g 9 x_5) 11)])), (qr, .inl (cI, 32, .inl rg)), (qh, .inr (2, [.int (hq 0), .int (hq 1), .int (hq 2), .int (hq 3)])), (qu, .inr (1, [.ref qf, .int cd, .ref ql, .ref qo])), (qf, .inl (cI, 32, .inl fg)), (ql, .inr (0, [.int L.1, .int L.2.1, .int L.2.2.1, .long L.2.2.2])), (qo, .inr (0, [.int O.1, .int O.2.1, .int O.2.2.1, .long O.2.2.2]))]) X hK hP hD hS hA (c_Me_write l D cI qm qw ms mn mf r_1 r_2 x_7 _ h _) ⟨rfl, rfl⟩ m_Me_write k_Pr_277 ⟨Nat.le_of_ble_eq_true rfl, Nat.le_of_ble_eq_true rfl⟩ [3, 4] [0, 1, 2, 5, 6, 7, 8] rfl rfl (by decide) (by decide) (by decide) 3 3 rfl rfl rfl rfl hl.1 rfl (Nat.le_of_ble_eq_true rfl) d_Pr_store_50 hf0 (fun u_8 H locs h hP hD hS => ?_)
    have hP : va_P D vwCl (wP qp qr qh qm qw qu qf ql qo cI ms mn (upd g 9 x_5) rg hq u_8 cd fg L O) H := hP.sub [0, 1, 2, 7, 8, 3, 4, 5, 6] rfl
    have hD : va_D A (wP qp qr qh qm qw qu qf ql qo cI ms mn (upd g 9 x_5) rg hq u_8 cd fg L O) := hD.sub [0, 1, 2, 7, 8, 3, 4, 5, 6] (by decide) rfl
    refine lv_iconst (v := 0) hx hb d_Pr_store_53 (by decide) ?_
    exact W.iret (v := (0 : Int32)) hx hb hr (fun t ht hW => ⟨⟨(0 : Int32), ((upd g 9 x_5), rg, hq, u_8, cd, fg, L, O), rfl, h, by rw [ht]; exact hP, hD⟩, hS.F ht⟩) hS.2.2 d_Pr_store_54
  · skip
    have h := h.1 c_4
    refine lv_iconst (v := 2) hx hb d_Pr_store_23 (by decide) ?_
    exact W.iret (v := (2 : Int32)) hx hb hr (fun t ht hW => ⟨⟨(2 : Int32), (g, rg, hq, mf, cd, fg, L, O), rfl, h, by rw [ht]; exact hP, hD⟩, hS.F ht⟩) hS.2.2 d_Pr_store_24
def wp_Pr_storePart (ms : Int32) (mn : Nat) (g : Nat → Int32) (rg : Nat → Int32) (hq : Nat → Int32) (mf : Nat → Int32) (cd : Int32) (fg : Nat → Int32) (L : Int32 × Int32 × Int32 × Int64) (O : Int32 × Int32 × Int32 × Int64) (a0 : Int32) (P : Int32 → ((Nat → Int32) × (Nat → Int32) × (Nat → Int32) × (Nat → Int32) × Int32 × (Nat → Int32) × (Int32 × Int32 × Int32 × Int64) × (Int32 × Int32 × Int32 × Int64)) → Prop) : Prop := wp_Pr_address ms mn g rg hq mf cd fg L O a0 (fun r_1 => wp_Me_good ms mn mf r_1 (1 : Int32) (fun r_2 => ((r_2 = (0 : Int32) → P (2 : Int32) (g, rg, hq, mf, cd, fg, L, O)) ∧ (¬ r_2 = (0 : Int32) → wp_Me_read ms mn mf (r_1 &&& (-4 : Int32)) (4 : Int32) (fun r_4 => wp_Pr_rt a0 (fun r_5 => vp_in r_5 32 ∧ ∀ x_6 : Int32, x_6 = (rg r_5.toNatClampNeg) → ∀ x_7 : Int32, x_7 = ((r_1 &&& (3 : Int32)) * (8 : Int32)) → ∀ x_8 : Int32, x_8 = ((24 : Int32) - x_7) → ∀ x_9 : Int32, x_9 = ((g 9) + (1 : Int32)) → wp_Pr_opcode a0 (fun r_10 => ((r_10 = (42 : Int32) → ∀ x_16 : Int32, x_16 = ((zz_ushr (-1 : Int32) x_7) ^^^ (-1 : Int32)) → ∀ x_17 : Int32, x_17 = ((zz_ushr x_6 x_7) ||| (r_4 &&& x_16)) → wp_Me_write ms mn mf (r_1 &&& (-4 : Int32)) (4 : Int32) x_17 (fun u_18 => P (0 : Int32) ((upd g 9 x_9), rg, hq, u_18, cd, fg, L, O))) ∧ (¬ r_10 = (42 : Int32) → ∀ x_12 : Int32, x_12 = ((zz_shl (-1 : Int32) x_8) ^^^ (-1 : Int32)) → ∀ x_13 : Int32, x_13 = ((zz_shl x_6 x_8) ||| (r_4 &&& x_12)) → wp_Me_write ms mn mf (r_1 &&& (-4 : Int32)) (4 : Int32) x_13 (fun u_14 => P (0 : Int32) ((upd g 9 x_9), rg, hq, u_14, cd, fg, L, O)))))))))))
abbrev rm_Pr_storePart : Room := { frames := 2, cells := 0, slots := 0, locals := 46 }
set_option maxHeartbeats 4000000 in
set_option maxRecDepth 100000 in
theorem c_Pr_storePart (l : Launch) (D : va_G) (cI : ClassId) (qp : Nat) (qr : Nat) (qh : Nat) (qm : Nat) (qw : Nat) (qu : Nat) (qf : Nat) (ql : Nat) (qo : Nat) (ms : Int32) (mn : Nat) (g : Nat → Int32) (rg : Nat → Int32) (hq : Nat → Int32) (mf : Nat → Int32) (cd : Int32) (fg : Nat → Int32) (L : Int32 × Int32 × Int32 × Int64) (O : Int32 × Int32 × Int32 × Int64) (a0 : Int32) (P : Int32 → ((Nat → Int32) × (Nat → Int32) × (Nat → Int32) × (Nat → Int32) × Int32 × (Nat → Int32) × (Int32 × Int32 × Int32 × Int64) × (Int32 × Int32 × Int32 × Int64)) → Prop) (h : wp_Pr_storePart ms mn g rg hq mf cd fg L O a0 P) (sz : Nat) : Met l y_Pr_storePart (zz_ws y_Pr_storePart b_Pr_storePart 7 (some .int)) rm_Pr_storePart (va_Pc [.ref qp, .int a0] (zz_pw D [(cI, .int)] (wP qp qr qh qm qw qu qf ql qo cI ms mn g rg hq mf cd fg L O) sz)) (va_Qi P (zz_qw D (fun u => wP qp qr qh qm qw qu qf ql qo cI ms mn u.1 u.2.1 u.2.2.1 u.2.2.2.1 u.2.2.2.2.1 u.2.2.2.2.2.1 u.2.2.2.2.2.2.1 u.2.2.2.2.2.2.2) (va_A (wP qp qr qh qm qw qu qf ql qo cI ms mn g rg hq mf cd fg L O) sz)) (va_A (wP qp qr qh qm qw qu qf ql qo cI ms mn g rg hq mf cd fg L O) sz)) 0 0 (va_A (wP qp qr qh qm qw qu qf ql qo cI ms mn g rg hq mf cd fg L O) sz) := by
  refine Met.ofW (cc := b_Pr_storePart) (maxL := 7) (ret := (some .int)) (by decide) rfl ?_
  intro p e s m args below meth c s₁ B hml hv
  obtain ⟨rfl, hsz, hP, hK, hD0⟩ := hv
  have hx := B.exec
  have hb := B.bytes
  have hr := B.returns
  have hts := atoms_spec (ws := (zz_ws y_Pr_storePart b_Pr_storePart 7 (some .int))) B.pre
  have hown : s.vm.findClass R_Pr = some m.cls := findClass_of_methodNamed B.named
  have hlocks := B.notSynchronized
  have hT := zz_hts hts
  have X : CallFix p m c b_Pr_storePart 7 s ([.ref qp, .int a0] : List Value).toArray (zz_ws y_Pr_storePart b_Pr_storePart 7 (some .int)) R_Pr := ⟨hx, hb, hml, hown, hts⟩
  have hf0 : 0 + 0 ≤ (headSpec (zz_ws y_Pr_storePart b_Pr_storePart 7 (some .int)) rm_Pr_storePart).room.cells ∧ 0 + 0 ≤ (headSpec (zz_ws y_Pr_storePart b_Pr_storePart 7 (some .int)) rm_Pr_storePart).room.slots := ⟨Nat.le_of_ble_eq_true rfl, Nat.le_of_ble_eq_true rfl⟩
  subst hsz
  have hD := hD0.self (sz := s.heap.size)
  generalize hAe : va_A (wP qp qr qh qm qw qu qf ql qo cI ms mn g rg hq mf cd fg L O) s.heap.size = A at hD ⊢
  have hA : ∀ q : Nat, s.heap.size ≤ q → A q := fun q h => by rw [← hAe]; exact Or.inr h
  have hS : va_S A s.heap s.heap [] := va_S.rf
  have hl := lv_entry ([.ref qp, .int a0]) (n := 7) (Nat.le_of_ble_eq_true rfl)
  rw [lg_entry_eq]
  generalize (lg_sl ([.ref qp, .int a0]) ++ List.replicate (7 - (lg_sl ([.ref qp, .int a0])).length) Slot.unset).toArray = ls at hl ⊢
  have hl : lv_has ls 7 [(0, .ref qp), (1, .int a0)] := hl
  refine lv_aload_n hx hb d_Pr_storePart_0 rfl (lv_at hl 0 rfl) ?_
  refine lv_iload_n hx hb d_Pr_storePart_1 rfl (lv_at hl 1 rfl) ?_
  refine zz_Ri (As := [.int a0]) (rest := []) (wc := wP qp qr qh qm qw qu qf ql qo cI ms mn g rg hq mf cd fg L O) X hK hP (c_Pr_address l D cI qp qr qh qm qw qu qf ql qo ms mn g rg hq mf cd fg L O a0 _ h) ⟨rfl, rfl⟩ m_Pr_address k_Pr_261 ⟨Nat.le_of_ble_eq_true rfl, Nat.le_of_ble_eq_true rfl⟩ [0, 1, 2, 3, 4, 5, 6, 7, 8] rfl 4 0 rfl rfl rfl rfl hl.1 rfl (Nat.le_of_ble_eq_true rfl) d_Pr_storePart_2 hf0 (fun r_1 h => ?_)
  refine lv_istore_n (lv' := [(2, .int r_1), (0, .ref qp), (1, .int a0)]) hx hb d_Pr_storePart_5 rfl hl (by decide) rfl (fun ls hl => ?_)
  refine lv_aload_n hx hb d_Pr_storePart_6 rfl (lv_at hl 1 rfl) ?_
  refine g_Pr_33 (v := .ref qm) hx hb hT hown hK hP 0 rfl rfl d_Pr_storePart_7 ?_
  refine lv_iload_n hx hb d_Pr_storePart_10 rfl (lv_at hl 0 rfl) ?_
  refine lv_iconst (v := 1) hx hb d_Pr_storePart_11 (by decide) ?_
  refine zz_Ri (As := [.int r_1, .int (1 : Int32)]) (rest := []) (wc := wM qm qw cI ms mn mf) X hK hP (c_Me_good l D cI qm qw ms mn mf r_1 (1 : Int32) _ h) ⟨rfl, rfl⟩ m_Me_good k_Pr_51 ⟨Nat.le_of_ble_eq_true rfl, Nat.le_of_ble_eq_true rfl⟩ [3, 4] rfl 3 3 rfl rfl rfl rfl hl.1 rfl (Nat.le_of_ble_eq_true rfl) d_Pr_storePart_12 hf0 (fun r_2 h => ?_)
  refine lv_if_ne (tgt := 20) hx hb d_Pr_storePart_15 (by decide) (fun c_3 => ?_) (fun c_3 => ?_)
  · skip
    have h := h.2 c_3
    refine lv_aload_n hx hb d_Pr_storePart_20 rfl (lv_at hl 1 rfl) ?_
    refine g_Pr_33 (v := .ref qm) hx hb hT hown hK hP 0 rfl rfl d_Pr_storePart_21 ?_
    refine lv_iload_n hx hb d_Pr_storePart_24 rfl (lv_at hl 0 rfl) ?_
    refine lv_bipush (v := -4) hx hb d_Pr_storePart_25 (by decide) ?_
    refine lv_iand hx hb d_Pr_storePart_27 ?_
    refine lv_iconst (v := 4) hx hb d_Pr_storePart_28 (by decide) ?_
    refine zz_Ri (As := [.int (r_1 &&& (-4 : Int32)), .int (4 : Int32)]) (rest := []) (wc := wM qm qw cI ms mn mf) X hK hP (c_Me_read l D cI qm qw ms mn mf (r_1 &&& (-4 : Int32)) (4 : Int32) _ h) ⟨rfl, rfl⟩ m_Me_read k_Pr_57 ⟨Nat.le_of_ble_eq_true rfl, Nat.le_of_ble_eq_true rfl⟩ [3, 4] rfl 3 3 rfl rfl rfl rfl hl.1 rfl (Nat.le_of_ble_eq_true rfl) d_Pr_storePart_29 hf0 (fun r_4 h => ?_)
    refine lv_istore_n (lv' := [(3, .int r_4), (2, .int r_1), (0, .ref qp), (1, .int a0)]) hx hb d_Pr_storePart_32 rfl hl (by decide) rfl (fun ls hl => ?_)
    refine lv_aload_n hx hb d_Pr_storePart_33 rfl (lv_at hl 2 rfl) ?_
    refine g_Pr_9 (v := .ref qr) hx hb hT hown hK hP 0 rfl rfl d_Pr_storePart_34 ?_
    refine lv_iload_n hx hb d_Pr_storePart_37 rfl (lv_at hl 3 rfl) ?_
    refine zz_Si (As := [.int a0]) (rest := [.ref qr]) X (c_Pr_rt l a0 _ h) ⟨rfl, rfl⟩ m_Pr_rt k_Pr_89 ⟨Nat.le_of_ble_eq_true rfl, Nat.le_of_ble_eq_true rfl⟩ rfl hl.1 rfl (Nat.le_of_ble_eq_true rfl) d_Pr_storePart_38 hf0 (fun r_5 h => ?_)
    refine va_iald (f := rg) hx hb hK hP 1 0 rfl rfl h.1 d_Pr_storePart_41 ?_
    have h := h.2
    refine lv_topi (fun x_6 ex_6 => ?_)
    have h := h x_6 ex_6
    refine lv_istore (lv' := [(4, .int x_6), (3, .int r_4), (2, .int r_1), (0, .ref qp), (1, .int a0)]) hx hb d_Pr_storePart_42 hl (by decide) rfl (fun ls hl => ?_)
    refine lv_iload_n hx hb d_Pr_storePart_44 rfl (lv_at hl 2 rfl) ?_
    refine lv_iconst (v := 3) hx hb d_Pr_storePart_45 (by decide) ?_
    refine lv_iand hx hb d_Pr_storePart_46 ?_
    refine lv_bipush (v := 8) hx hb d_Pr_storePart_47 (by decide) ?_
    refine lv_imul hx hb d_Pr_storePart_49 ?_
    refine lv_topi (fun x_7 ex_7 => ?_)
    have h := h x_7 ex_7
    refine lv_istore (lv' := [(5, .int x_7), (4, .int x_6), (3, .int r_4), (2, .int r_1), (0, .ref qp), (1, .int a0)]) hx hb d_Pr_storePart_50 hl (by decide) rfl (fun ls hl => ?_)
    refine lv_bipush (v := 24) hx hb d_Pr_storePart_52 (by decide) ?_
    refine lv_iload hx hb d_Pr_storePart_54 (lv_at hl 0 rfl) ?_
    refine lv_isub hx hb d_Pr_storePart_56 ?_
    refine lv_topi (fun x_8 ex_8 => ?_)
    have h := h x_8 ex_8
    refine lv_istore (lv' := [(6, .int x_8), (5, .int x_7), (4, .int x_6), (3, .int r_4), (2, .int r_1), (0, .ref qp), (1, .int a0)]) hx hb d_Pr_storePart_57 hl (by decide) rfl (fun ls hl => ?_)
    refine lv_aload_n hx hb d_Pr_storePart_59 rfl (lv_at hl 5 rfl) ?_
    refine lv_dup hx hb d_Pr_storePart_60 rfl ?_
    refine g_Pr_274 (v := .int (g 9)) hx hb hT hown hK hP 0 rfl rfl d_Pr_storePart_61 ?_
    refine lv_iconst (v := 1) hx hb d_Pr_storePart_64 (by decide) ?_
    refine lv_iadd hx hb d_Pr_storePart_65 ?_
    refine lv_topi (fun x_9 ex_9 => ?_)
    have h := h x_9 ex_9
    refine p_Pr_274 hx hb hT hown hK hP hD hS 0 rfl rfl d_Pr_storePart_66 (fun H locs (hP : va_P D vwCl (wP qp qr qh qm qw qu qf ql qo cI ms mn (upd g 9 x_9) rg hq mf cd fg L O) H) (hD : va_D A (wP qp qr qh qm qw qu qf ql qo cI ms mn (upd g 9 x_9) rg hq mf cd fg L O)) hS => ?_)
    refine lv_aload_n hx hb d_Pr_storePart_69 rfl (lv_at hl 5 rfl) ?_
    refine g_Pr_33 (v := .ref qm) hx hb hT hown hK hP 0 rfl rfl d_Pr_storePart_70 ?_
    refine lv_iload_n hx hb d_Pr_storePart_73 rfl (lv_at hl 4 rfl) ?_
    refine lv_bipush (v := -4) hx hb d_Pr_storePart_74 (by decide) ?_
    refine lv_iand hx hb d_Pr_storePart_76 ?_
    refine lv_iconst (v := 4) hx hb d_Pr_storePart_77 (by decide) ?_
    refine lv_iload_n hx hb d_Pr_storePart_78 rfl (lv_at hl 6 rfl) ?_
    refine zz_Si (As := [.int a0]) (rest := [.int (4 : Int32), .int (r_1 &&& (-4 : Int32)), .ref qm]) X (c_Pr_opcode l a0 _ h) ⟨rfl, rfl⟩ m_Pr_opcode k_Pr_71 ⟨Nat.le_of_ble_eq_true rfl, Nat.le_of_ble_eq_true rfl⟩ rfl hl.1 rfl (Nat.le_of_ble_eq_true rfl) d_Pr_storePart_79 hf0 (fun r_10 h => ?_)
    refine lv_bipush (v := 42) hx hb d_Pr_storePart_82 (by decide) ?_
    refine lv_icmp_ne (tgt := 104) hx hb d_Pr_storePart_84 (by decide) (fun c_11 => ?_) (fun c_11 => ?_)
    · skip
      have h := h.2 c_11
      refine lv_iload hx hb d_Pr_storePart_104 (lv_at hl 2 rfl) ?_
      refine lv_iload hx hb d_Pr_storePart_106 (lv_at hl 0 rfl) ?_
      refine zz_ishl hx hb d_Pr_storePart_108 ?_
      refine lv_iload_n hx hb d_Pr_storePart_109 rfl (lv_at hl 3 rfl) ?_
      refine lv_iconst (v := -1) hx hb d_Pr_storePart_110 (by decide) ?_
      refine lv_iload hx hb d_Pr_storePart_111 (lv_at hl 0 rfl) ?_
      refine zz_ishl hx hb d_Pr_storePart_113 ?_
      refine lv_iconst (v := -1) hx hb d_Pr_storePart_114 (by decide) ?_
      refine lv_ixor hx hb d_Pr_storePart_115 ?_
      refine lv_topi (fun x_12 ex_12 => ?_)
      have h := h x_12 ex_12
      refine lv_iand hx hb d_Pr_storePart_116 ?_
      refine lv_ior hx hb d_Pr_storePart_117 ?_
      refine lv_topi (fun x_13 ex_13 => ?_)
      have h := h x_13 ex_13
      refine zz_Wv (As := [.int (r_1 &&& (-4 : Int32)), .int (4 : Int32), .int x_13]) (rest := []) (wc := wM qm qw cI ms mn mf) (wr := [(qp, .inr (4, [.ref qm, .ref qr, .ref qh, .ref qu, .int ((upd g 9 x_9) 0), .int ((upd g 9 x_9) 1), .int ((upd g 9 x_9) 2), .int ((upd g 9 x_9) 3), .int ((upd g 9 x_9) 4), .int ((upd g 9 x_9) 5), .int ((upd g 9 x_9) 6), .int ((upd g 9 x_9) 7), .int ((upd g 9 x_9) 8), .int ((upd g 9 x_9) 9), .int ((upd g 9 x_9) 10), .int ((upd g 9 x_9) 11)])), (qr, .inl (cI, 32, .inl rg)), (qh, .inr (2, [.int (hq 0), .int (hq 1), .int (hq 2), .int (hq 3)])), (qu, .inr (1, [.ref qf, .int cd, .ref ql, .ref qo])), (qf, .inl (cI, 32, .inl fg)), (ql, .inr (0, [.int L.1, .int L.2.1, .int L.2.2.1, .long L.2.2.2])), (qo, .inr (0, [.int O.1, .int O.2.1, .int O.2.2.1, .long O.2.2.2]))]) X hK hP hD hS hA (c_Me_write l D cI qm qw ms mn mf (r_1 &&& (-4 : Int32)) (4 : Int32) x_13 _ h _) ⟨rfl, rfl⟩ m_Me_write k_Pr_277 ⟨Nat.le_of_ble_eq_true rfl, Nat.le_of_ble_eq_true rfl⟩ [3, 4] [0, 1, 2, 5, 6, 7, 8] rfl rfl (by decide) (by decide) (by decide) 3 3 rfl rfl rfl rfl hl.1 rfl (Nat.le_of_ble_eq_true rfl) d_Pr_storePart_118 hf0 (fun u_14 H locs h hP hD hS => ?_)
      have hP : va_P D vwCl (wP qp qr qh qm qw qu qf ql qo cI ms mn (upd g 9 x_9) rg hq u_14 cd fg L O) H := hP.sub [0, 1, 2, 7, 8, 3, 4, 5, 6] rfl
      have hD : va_D A (wP qp qr qh qm qw qu qf ql qo cI ms mn (upd g 9 x_9) rg hq u_14 cd fg L O) := hD.sub [0, 1, 2, 7, 8, 3, 4, 5, 6] (by decide) rfl
      refine lv_iconst (v := 0) hx hb d_Pr_storePart_121 (by decide) ?_
      exact W.iret (v := (0 : Int32)) hx hb hr (fun t ht hW => ⟨⟨(0 : Int32), ((upd g 9 x_9), rg, hq, u_14, cd, fg, L, O), rfl, h, by rw [ht]; exact hP, hD⟩, hS.F ht⟩) hS.2.2 d_Pr_storePart_122
    · skip
      have h := h.1 c_11
      refine lv_iload hx hb d_Pr_storePart_87 (lv_at hl 2 rfl) ?_
      refine lv_iload hx hb d_Pr_storePart_89 (lv_at hl 1 rfl) ?_
      refine zz_iushr hx hb d_Pr_storePart_91 ?_
      refine lv_iload_n hx hb d_Pr_storePart_92 rfl (lv_at hl 3 rfl) ?_
      refine lv_iconst (v := -1) hx hb d_Pr_storePart_93 (by decide) ?_
      refine lv_iload hx hb d_Pr_storePart_94 (lv_at hl 1 rfl) ?_
      refine zz_iushr hx hb d_Pr_storePart_96 ?_
      refine lv_iconst (v := -1) hx hb d_Pr_storePart_97 (by decide) ?_
      refine lv_ixor hx hb d_Pr_storePart_98 ?_
      refine lv_topi (fun x_16 ex_16 => ?_)
      have h := h x_16 ex_16
      refine lv_iand hx hb d_Pr_storePart_99 ?_
      refine lv_ior hx hb d_Pr_storePart_100 ?_
      refine lv_topi (fun x_17 ex_17 => ?_)
      have h := h x_17 ex_17
      refine lv_goto (tgt := 118) hx hb d_Pr_storePart_101 (by decide) ?_
      refine zz_Wv (As := [.int (r_1 &&& (-4 : Int32)), .int (4 : Int32), .int x_17]) (rest := []) (wc := wM qm qw cI ms mn mf) (wr := [(qp, .inr (4, [.ref qm, .ref qr, .ref qh, .ref qu, .int ((upd g 9 x_9) 0), .int ((upd g 9 x_9) 1), .int ((upd g 9 x_9) 2), .int ((upd g 9 x_9) 3), .int ((upd g 9 x_9) 4), .int ((upd g 9 x_9) 5), .int ((upd g 9 x_9) 6), .int ((upd g 9 x_9) 7), .int ((upd g 9 x_9) 8), .int ((upd g 9 x_9) 9), .int ((upd g 9 x_9) 10), .int ((upd g 9 x_9) 11)])), (qr, .inl (cI, 32, .inl rg)), (qh, .inr (2, [.int (hq 0), .int (hq 1), .int (hq 2), .int (hq 3)])), (qu, .inr (1, [.ref qf, .int cd, .ref ql, .ref qo])), (qf, .inl (cI, 32, .inl fg)), (ql, .inr (0, [.int L.1, .int L.2.1, .int L.2.2.1, .long L.2.2.2])), (qo, .inr (0, [.int O.1, .int O.2.1, .int O.2.2.1, .long O.2.2.2]))]) X hK hP hD hS hA (c_Me_write l D cI qm qw ms mn mf (r_1 &&& (-4 : Int32)) (4 : Int32) x_17 _ h _) ⟨rfl, rfl⟩ m_Me_write k_Pr_277 ⟨Nat.le_of_ble_eq_true rfl, Nat.le_of_ble_eq_true rfl⟩ [3, 4] [0, 1, 2, 5, 6, 7, 8] rfl rfl (by decide) (by decide) (by decide) 3 3 rfl rfl rfl rfl hl.1 rfl (Nat.le_of_ble_eq_true rfl) d_Pr_storePart_118 hf0 (fun u_18 H locs h hP hD hS => ?_)
      have hP : va_P D vwCl (wP qp qr qh qm qw qu qf ql qo cI ms mn (upd g 9 x_9) rg hq u_18 cd fg L O) H := hP.sub [0, 1, 2, 7, 8, 3, 4, 5, 6] rfl
      have hD : va_D A (wP qp qr qh qm qw qu qf ql qo cI ms mn (upd g 9 x_9) rg hq u_18 cd fg L O) := hD.sub [0, 1, 2, 7, 8, 3, 4, 5, 6] (by decide) rfl
      refine lv_iconst (v := 0) hx hb d_Pr_storePart_121 (by decide) ?_
      exact W.iret (v := (0 : Int32)) hx hb hr (fun t ht hW => ⟨⟨(0 : Int32), ((upd g 9 x_9), rg, hq, u_18, cd, fg, L, O), rfl, h, by rw [ht]; exact hP, hD⟩, hS.F ht⟩) hS.2.2 d_Pr_storePart_122
  · skip
    have h := h.1 c_3
    refine lv_iconst (v := 2) hx hb d_Pr_storePart_18 (by decide) ?_
    exact W.iret (v := (2 : Int32)) hx hb hr (fun t ht hW => ⟨⟨(2 : Int32), (g, rg, hq, mf, cd, fg, L, O), rfl, h, by rw [ht]; exact hP, hD⟩, hS.F ht⟩) hS.2.2 d_Pr_storePart_19
def wp_Pr_storeConditional (ms : Int32) (mn : Nat) (g : Nat → Int32) (rg : Nat → Int32) (hq : Nat → Int32) (mf : Nat → Int32) (cd : Int32) (fg : Nat → Int32) (L : Int32 × Int32 × Int32 × Int64) (O : Int32 × Int32 × Int32 × Int64) (a0 : Int32) (P : Int32 → ((Nat → Int32) × (Nat → Int32) × (Nat → Int32) × (Nat → Int32) × Int32 × (Nat → Int32) × (Int32 × Int32 × Int32 × Int64) × (Int32 × Int32 × Int32 × Int64)) → Prop) : Prop := wp_Pr_address ms mn g rg hq mf cd fg L O a0 (fun r_1 => (((g 3) = (0 : Int32) → P (8 : Int32) (g, rg, hq, mf, cd, fg, L, O)) ∧ (¬ (g 3) = (0 : Int32) → ((r_1 = (g 4) → wp_Me_good ms mn mf r_1 (4 : Int32) (fun r_4 => ((r_4 = (0 : Int32) → P (2 : Int32) (g, rg, hq, mf, cd, fg, L, O)) ∧ (¬ r_4 = (0 : Int32) → ∀ x_6 : Int32, x_6 = ((g 9) + (1 : Int32)) → wp_Pr_rt a0 (fun r_7 => vp_in r_7 32 ∧ ∀ x_8 : Int32, x_8 = (rg r_7.toNatClampNeg) → wp_Me_write ms mn mf r_1 (4 : Int32) x_8 (fun u_9 => wp_Pr_rt a0 (fun r_11 => wp_Pr_result ms mn (upd (upd g 3 (0 : Int32)) 9 x_6) rg hq u_9 cd fg L O r_11 (1 : Int32) (fun r_13 u_12 => P r_13 (u_12.1, u_12.2.1, u_12.2.2.1, u_12.2.2.2.1, u_12.2.2.2.2.1, u_12.2.2.2.2.2.1, u_12.2.2.2.2.2.2.1, u_12.2.2.2.2.2.2.2))))))))) ∧ (¬ r_1 = (g 4) → P (8 : Int32) (g, rg, hq, mf, cd, fg, L, O))))))
abbrev rm_Pr_storeConditional : Room := { frames := 2, cells := 0, slots := 0, locals := 46 }
set_option maxHeartbeats 4000000 in
set_option maxRecDepth 100000 in
theorem c_Pr_storeConditional (l : Launch) (D : va_G) (cI : ClassId) (qp : Nat) (qr : Nat) (qh : Nat) (qm : Nat) (qw : Nat) (qu : Nat) (qf : Nat) (ql : Nat) (qo : Nat) (ms : Int32) (mn : Nat) (g : Nat → Int32) (rg : Nat → Int32) (hq : Nat → Int32) (mf : Nat → Int32) (cd : Int32) (fg : Nat → Int32) (L : Int32 × Int32 × Int32 × Int64) (O : Int32 × Int32 × Int32 × Int64) (a0 : Int32) (P : Int32 → ((Nat → Int32) × (Nat → Int32) × (Nat → Int32) × (Nat → Int32) × Int32 × (Nat → Int32) × (Int32 × Int32 × Int32 × Int64) × (Int32 × Int32 × Int32 × Int64)) → Prop) (h : wp_Pr_storeConditional ms mn g rg hq mf cd fg L O a0 P) (sz : Nat) : Met l y_Pr_storeConditional (zz_ws y_Pr_storeConditional b_Pr_storeConditional 3 (some .int)) rm_Pr_storeConditional (va_Pc [.ref qp, .int a0] (zz_pw D [(cI, .int)] (wP qp qr qh qm qw qu qf ql qo cI ms mn g rg hq mf cd fg L O) sz)) (va_Qi P (zz_qw D (fun u => wP qp qr qh qm qw qu qf ql qo cI ms mn u.1 u.2.1 u.2.2.1 u.2.2.2.1 u.2.2.2.2.1 u.2.2.2.2.2.1 u.2.2.2.2.2.2.1 u.2.2.2.2.2.2.2) (va_A (wP qp qr qh qm qw qu qf ql qo cI ms mn g rg hq mf cd fg L O) sz)) (va_A (wP qp qr qh qm qw qu qf ql qo cI ms mn g rg hq mf cd fg L O) sz)) 0 0 (va_A (wP qp qr qh qm qw qu qf ql qo cI ms mn g rg hq mf cd fg L O) sz) := by
  refine Met.ofW (cc := b_Pr_storeConditional) (maxL := 3) (ret := (some .int)) (by decide) rfl ?_
  intro p e s m args below meth c s₁ B hml hv
  obtain ⟨rfl, hsz, hP, hK, hD0⟩ := hv
  have hx := B.exec
  have hb := B.bytes
  have hr := B.returns
  have hts := atoms_spec (ws := (zz_ws y_Pr_storeConditional b_Pr_storeConditional 3 (some .int))) B.pre
  have hown : s.vm.findClass R_Pr = some m.cls := findClass_of_methodNamed B.named
  have hlocks := B.notSynchronized
  have hT := zz_hts hts
  have X : CallFix p m c b_Pr_storeConditional 3 s ([.ref qp, .int a0] : List Value).toArray (zz_ws y_Pr_storeConditional b_Pr_storeConditional 3 (some .int)) R_Pr := ⟨hx, hb, hml, hown, hts⟩
  have hf0 : 0 + 0 ≤ (headSpec (zz_ws y_Pr_storeConditional b_Pr_storeConditional 3 (some .int)) rm_Pr_storeConditional).room.cells ∧ 0 + 0 ≤ (headSpec (zz_ws y_Pr_storeConditional b_Pr_storeConditional 3 (some .int)) rm_Pr_storeConditional).room.slots := ⟨Nat.le_of_ble_eq_true rfl, Nat.le_of_ble_eq_true rfl⟩
  subst hsz
  have hD := hD0.self (sz := s.heap.size)
  generalize hAe : va_A (wP qp qr qh qm qw qu qf ql qo cI ms mn g rg hq mf cd fg L O) s.heap.size = A at hD ⊢
  have hA : ∀ q : Nat, s.heap.size ≤ q → A q := fun q h => by rw [← hAe]; exact Or.inr h
  have hS : va_S A s.heap s.heap [] := va_S.rf
  have hl := lv_entry ([.ref qp, .int a0]) (n := 3) (Nat.le_of_ble_eq_true rfl)
  rw [lg_entry_eq]
  generalize (lg_sl ([.ref qp, .int a0]) ++ List.replicate (3 - (lg_sl ([.ref qp, .int a0])).length) Slot.unset).toArray = ls at hl ⊢
  have hl : lv_has ls 3 [(0, .ref qp), (1, .int a0)] := hl
  refine lv_aload_n hx hb d_Pr_storeConditional_0 rfl (lv_at hl 0 rfl) ?_
  refine lv_iload_n hx hb d_Pr_storeConditional_1 rfl (lv_at hl 1 rfl) ?_
  refine zz_Ri (As := [.int a0]) (rest := []) (wc := wP qp qr qh qm qw qu qf ql qo cI ms mn g rg hq mf cd fg L O) X hK hP (c_Pr_address l D cI qp qr qh qm qw qu qf ql qo ms mn g rg hq mf cd fg L O a0 _ h) ⟨rfl, rfl⟩ m_Pr_address k_Pr_261 ⟨Nat.le_of_ble_eq_true rfl, Nat.le_of_ble_eq_true rfl⟩ [0, 1, 2, 3, 4, 5, 6, 7, 8] rfl 4 0 rfl rfl rfl rfl hl.1 rfl (Nat.le_of_ble_eq_true rfl) d_Pr_storeConditional_2 hf0 (fun r_1 h => ?_)
  refine lv_istore_n (lv' := [(2, .int r_1), (0, .ref qp), (1, .int a0)]) hx hb d_Pr_storeConditional_5 rfl hl (by decide) rfl (fun ls hl => ?_)
  refine lv_aload_n hx hb d_Pr_storeConditional_6 rfl (lv_at hl 1 rfl) ?_
  refine g_Pr_41 (v := .int (g 3)) hx hb hT hown hK hP 0 rfl rfl d_Pr_storeConditional_7 ?_
  refine lv_if_eq (tgt := 21) hx hb d_Pr_storeConditional_10 (by decide) (fun c_2 => ?_) (fun c_2 => ?_)
  · skip
    have h := h.1 c_2
    refine lv_bipush (v := 8) hx hb d_Pr_storeConditional_21 (by decide) ?_
    exact W.iret (v := (8 : Int32)) hx hb hr (fun t ht hW => ⟨⟨(8 : Int32), (g, rg, hq, mf, cd, fg, L, O), rfl, h, by rw [ht]; exact hP, hD⟩, hS.F ht⟩) hS.2.2 d_Pr_storeConditional_23
  · skip
    have h := h.2 c_2
    refine lv_iload_n hx hb d_Pr_storeConditional_13 rfl (lv_at hl 0 rfl) ?_
    refine lv_aload_n hx hb d_Pr_storeConditional_14 rfl (lv_at hl 1 rfl) ?_
    refine g_Pr_270 (v := .int (g 4)) hx hb hT hown hK hP 0 rfl rfl d_Pr_storeConditional_15 ?_
    refine lv_icmp_eq (tgt := 24) hx hb d_Pr_storeConditional_18 (by decide) (fun c_3 => ?_) (fun c_3 => ?_)
    · skip
      have h := h.1 c_3
      refine lv_aload_n hx hb d_Pr_storeConditional_24 rfl (lv_at hl 1 rfl) ?_
      refine g_Pr_33 (v := .ref qm) hx hb hT hown hK hP 0 rfl rfl d_Pr_storeConditional_25 ?_
      refine lv_iload_n hx hb d_Pr_storeConditional_28 rfl (lv_at hl 0 rfl) ?_
      refine lv_iconst (v := 4) hx hb d_Pr_storeConditional_29 (by decide) ?_
      refine zz_Ri (As := [.int r_1, .int (4 : Int32)]) (rest := []) (wc := wM qm qw cI ms mn mf) X hK hP (c_Me_good l D cI qm qw ms mn mf r_1 (4 : Int32) _ h) ⟨rfl, rfl⟩ m_Me_good k_Pr_51 ⟨Nat.le_of_ble_eq_true rfl, Nat.le_of_ble_eq_true rfl⟩ [3, 4] rfl 3 3 rfl rfl rfl rfl hl.1 rfl (Nat.le_of_ble_eq_true rfl) d_Pr_storeConditional_30 hf0 (fun r_4 h => ?_)
      refine lv_if_ne (tgt := 38) hx hb d_Pr_storeConditional_33 (by decide) (fun c_5 => ?_) (fun c_5 => ?_)
      · skip
        have h := h.2 c_5
        refine lv_aload_n hx hb d_Pr_storeConditional_38 rfl (lv_at hl 1 rfl) ?_
        refine lv_iconst (v := 0) hx hb d_Pr_storeConditional_39 (by decide) ?_
        refine p_Pr_41 hx hb hT hown hK hP hD hS 0 rfl rfl (Or.inl rfl) d_Pr_storeConditional_40 (fun H locs (hP : va_P D vwCl (wP qp qr qh qm qw qu qf ql qo cI ms mn (upd g 3 (0 : Int32)) rg hq mf cd fg L O) H) (hD : va_D A (wP qp qr qh qm qw qu qf ql qo cI ms mn (upd g 3 (0 : Int32)) rg hq mf cd fg L O)) hS => ?_)
        refine lv_aload_n hx hb d_Pr_storeConditional_43 rfl (lv_at hl 1 rfl) ?_
        refine lv_dup hx hb d_Pr_storeConditional_44 rfl ?_
        refine g_Pr_274 (v := .int (g 9)) hx hb hT hown hK hP 0 rfl rfl d_Pr_storeConditional_45 ?_
        refine lv_iconst (v := 1) hx hb d_Pr_storeConditional_48 (by decide) ?_
        refine lv_iadd hx hb d_Pr_storeConditional_49 ?_
        refine lv_topi (fun x_6 ex_6 => ?_)
        have h := h x_6 ex_6
        refine p_Pr_274 hx hb hT hown hK hP hD hS 0 rfl rfl d_Pr_storeConditional_50 (fun H locs (hP : va_P D vwCl (wP qp qr qh qm qw qu qf ql qo cI ms mn (upd (upd g 3 (0 : Int32)) 9 x_6) rg hq mf cd fg L O) H) (hD : va_D A (wP qp qr qh qm qw qu qf ql qo cI ms mn (upd (upd g 3 (0 : Int32)) 9 x_6) rg hq mf cd fg L O)) hS => ?_)
        refine lv_aload_n hx hb d_Pr_storeConditional_53 rfl (lv_at hl 1 rfl) ?_
        refine g_Pr_33 (v := .ref qm) hx hb hT hown hK hP 0 rfl rfl d_Pr_storeConditional_54 ?_
        refine lv_iload_n hx hb d_Pr_storeConditional_57 rfl (lv_at hl 0 rfl) ?_
        refine lv_iconst (v := 4) hx hb d_Pr_storeConditional_58 (by decide) ?_
        refine lv_aload_n hx hb d_Pr_storeConditional_59 rfl (lv_at hl 1 rfl) ?_
        refine g_Pr_9 (v := .ref qr) hx hb hT hown hK hP 0 rfl rfl d_Pr_storeConditional_60 ?_
        refine lv_iload_n hx hb d_Pr_storeConditional_63 rfl (lv_at hl 2 rfl) ?_
        refine zz_Si (As := [.int a0]) (rest := [.ref qr, .int (4 : Int32), .int r_1, .ref qm]) X (c_Pr_rt l a0 _ h) ⟨rfl, rfl⟩ m_Pr_rt k_Pr_89 ⟨Nat.le_of_ble_eq_true rfl, Nat.le_of_ble_eq_true rfl⟩ rfl hl.1 rfl (Nat.le_of_ble_eq_true rfl) d_Pr_storeConditional_64 hf0 (fun r_7 h => ?_)
        refine va_iald (f := rg) hx hb hK hP 1 0 rfl rfl h.1 d_Pr_storeConditional_67 ?_
        have h := h.2
        refine lv_topi (fun x_8 ex_8 => ?_)
        have h := h x_8 ex_8
        refine zz_Wv (As := [.int r_1, .int (4 : Int32), .int x_8]) (rest := []) (wc := wM qm qw cI ms mn mf) (wr := [(qp, .inr (4, [.ref qm, .ref qr, .ref qh, .ref qu, .int ((upd (upd g 3 (0 : Int32)) 9 x_6) 0), .int ((upd (upd g 3 (0 : Int32)) 9 x_6) 1), .int ((upd (upd g 3 (0 : Int32)) 9 x_6) 2), .int ((upd (upd g 3 (0 : Int32)) 9 x_6) 3), .int ((upd (upd g 3 (0 : Int32)) 9 x_6) 4), .int ((upd (upd g 3 (0 : Int32)) 9 x_6) 5), .int ((upd (upd g 3 (0 : Int32)) 9 x_6) 6), .int ((upd (upd g 3 (0 : Int32)) 9 x_6) 7), .int ((upd (upd g 3 (0 : Int32)) 9 x_6) 8), .int ((upd (upd g 3 (0 : Int32)) 9 x_6) 9), .int ((upd (upd g 3 (0 : Int32)) 9 x_6) 10), .int ((upd (upd g 3 (0 : Int32)) 9 x_6) 11)])), (qr, .inl (cI, 32, .inl rg)), (qh, .inr (2, [.int (hq 0), .int (hq 1), .int (hq 2), .int (hq 3)])), (qu, .inr (1, [.ref qf, .int cd, .ref ql, .ref qo])), (qf, .inl (cI, 32, .inl fg)), (ql, .inr (0, [.int L.1, .int L.2.1, .int L.2.2.1, .long L.2.2.2])), (qo, .inr (0, [.int O.1, .int O.2.1, .int O.2.2.1, .long O.2.2.2]))]) X hK hP hD hS hA (c_Me_write l D cI qm qw ms mn mf r_1 (4 : Int32) x_8 _ h _) ⟨rfl, rfl⟩ m_Me_write k_Pr_277 ⟨Nat.le_of_ble_eq_true rfl, Nat.le_of_ble_eq_true rfl⟩ [3, 4] [0, 1, 2, 5, 6, 7, 8] rfl rfl (by decide) (by decide) (by decide) 3 3 rfl rfl rfl rfl hl.1 rfl (Nat.le_of_ble_eq_true rfl) d_Pr_storeConditional_68 hf0 (fun u_9 H locs h hP hD hS => ?_)
        have hP : va_P D vwCl (wP qp qr qh qm qw qu qf ql qo cI ms mn (upd (upd g 3 (0 : Int32)) 9 x_6) rg hq u_9 cd fg L O) H := hP.sub [0, 1, 2, 7, 8, 3, 4, 5, 6] rfl
        have hD : va_D A (wP qp qr qh qm qw qu qf ql qo cI ms mn (upd (upd g 3 (0 : Int32)) 9 x_6) rg hq u_9 cd fg L O) := hD.sub [0, 1, 2, 7, 8, 3, 4, 5, 6] (by decide) rfl
        refine lv_aload_n hx hb d_Pr_storeConditional_71 rfl (lv_at hl 1 rfl) ?_
        refine lv_iload_n hx hb d_Pr_storeConditional_72 rfl (lv_at hl 2 rfl) ?_
        refine zz_Si (As := [.int a0]) (rest := [.ref qp]) X (c_Pr_rt l a0 _ h) ⟨rfl, rfl⟩ m_Pr_rt k_Pr_89 ⟨Nat.le_of_ble_eq_true rfl, Nat.le_of_ble_eq_true rfl⟩ rfl hl.1 rfl (Nat.le_of_ble_eq_true rfl) d_Pr_storeConditional_73 hf0 (fun r_11 h => ?_)
        refine lv_iconst (v := 1) hx hb d_Pr_storeConditional_76 (by decide) ?_
        refine zz_Wi (As := [.int r_11, .int (1 : Int32)]) (rest := []) (wc := wP qp qr qh qm qw qu qf ql qo cI ms mn (upd (upd g 3 (0 : Int32)) 9 x_6) rg hq u_9 cd fg L O) (wr := []) X hK hP hD hS hA (c_Pr_result l D cI qp qr qh qm qw qu qf ql qo ms mn (upd (upd g 3 (0 : Int32)) 9 x_6) rg hq u_9 cd fg L O r_11 (1 : Int32) _ h _) ⟨rfl, rfl⟩ m_Pr_result k_Pr_161 ⟨Nat.le_of_ble_eq_true rfl, Nat.le_of_ble_eq_true rfl⟩ [0, 1, 2, 3, 4, 5, 6, 7, 8] [] rfl rfl (by decide) (by decide) (by decide) 4 0 rfl rfl rfl rfl hl.1 rfl (Nat.le_of_ble_eq_true rfl) d_Pr_storeConditional_77 hf0 (fun r_13 u_12 H locs h hP hD hS => ?_)
        have hP : va_P D vwCl (wP qp qr qh qm qw qu qf ql qo cI ms mn u_12.1 u_12.2.1 u_12.2.2.1 u_12.2.2.2.1 u_12.2.2.2.2.1 u_12.2.2.2.2.2.1 u_12.2.2.2.2.2.2.1 u_12.2.2.2.2.2.2.2) H := hP.sub [0, 1, 2, 3, 4, 5, 6, 7, 8] rfl
        have hD : va_D A (wP qp qr qh qm qw qu qf ql qo cI ms mn u_12.1 u_12.2.1 u_12.2.2.1 u_12.2.2.2.1 u_12.2.2.2.2.1 u_12.2.2.2.2.2.1 u_12.2.2.2.2.2.2.1 u_12.2.2.2.2.2.2.2) := hD.sub [0, 1, 2, 3, 4, 5, 6, 7, 8] (by decide) rfl
        exact W.iret (v := r_13) hx hb hr (fun t ht hW => ⟨⟨r_13, (u_12.1, u_12.2.1, u_12.2.2.1, u_12.2.2.2.1, u_12.2.2.2.2.1, u_12.2.2.2.2.2.1, u_12.2.2.2.2.2.2.1, u_12.2.2.2.2.2.2.2), rfl, h, by rw [ht]; exact hP, hD⟩, hS.F ht⟩) hS.2.2 d_Pr_storeConditional_80
      · skip
        have h := h.1 c_5
        refine lv_iconst (v := 2) hx hb d_Pr_storeConditional_36 (by decide) ?_
        exact W.iret (v := (2 : Int32)) hx hb hr (fun t ht hW => ⟨⟨(2 : Int32), (g, rg, hq, mf, cd, fg, L, O), rfl, h, by rw [ht]; exact hP, hD⟩, hS.F ht⟩) hS.2.2 d_Pr_storeConditional_37
    · skip
      have h := h.2 c_3
      refine lv_bipush (v := 8) hx hb d_Pr_storeConditional_21 (by decide) ?_
      exact W.iret (v := (8 : Int32)) hx hb hr (fun t ht hW => ⟨⟨(8 : Int32), (g, rg, hq, mf, cd, fg, L, O), rfl, h, by rw [ht]; exact hP, hD⟩, hS.F ht⟩) hS.2.2 d_Pr_storeConditional_23
def wp_Pr_storeSingle (ms : Int32) (mn : Nat) (g : Nat → Int32) (rg : Nat → Int32) (hq : Nat → Int32) (mf : Nat → Int32) (cd : Int32) (fg : Nat → Int32) (L : Int32 × Int32 × Int32 × Int64) (O : Int32 × Int32 × Int32 × Int64) (a0 : Int32) (P : Int32 → ((Nat → Int32) × (Nat → Int32) × (Nat → Int32) × (Nat → Int32) × Int32 × (Nat → Int32) × (Int32 × Int32 × Int32 × Int64) × (Int32 × Int32 × Int32 × Int64)) → Prop) : Prop := wp_Pr_address ms mn g rg hq mf cd fg L O a0 (fun r_1 => wp_Me_good ms mn mf r_1 (4 : Int32) (fun r_2 => ((r_2 = (0 : Int32) → P (2 : Int32) (g, rg, hq, mf, cd, fg, L, O)) ∧ (¬ r_2 = (0 : Int32) → ∀ x_4 : Int32, x_4 = ((g 9) + (1 : Int32)) → wp_Pr_rt a0 (fun r_5 => vp_in r_5 32 ∧ ∀ x_6 : Int32, x_6 = (fg r_5.toNatClampNeg) → wp_Me_write ms mn mf r_1 (4 : Int32) x_6 (fun u_7 => P (0 : Int32) ((upd g 9 x_4), rg, hq, u_7, cd, fg, L, O)))))))
abbrev rm_Pr_storeSingle : Room := { frames := 2, cells := 0, slots := 0, locals := 46 }
set_option maxHeartbeats 4000000 in
set_option maxRecDepth 100000 in
theorem c_Pr_storeSingle (l : Launch) (D : va_G) (cI : ClassId) (qp : Nat) (qr : Nat) (qh : Nat) (qm : Nat) (qw : Nat) (qu : Nat) (qf : Nat) (ql : Nat) (qo : Nat) (ms : Int32) (mn : Nat) (g : Nat → Int32) (rg : Nat → Int32) (hq : Nat → Int32) (mf : Nat → Int32) (cd : Int32) (fg : Nat → Int32) (L : Int32 × Int32 × Int32 × Int64) (O : Int32 × Int32 × Int32 × Int64) (a0 : Int32) (P : Int32 → ((Nat → Int32) × (Nat → Int32) × (Nat → Int32) × (Nat → Int32) × Int32 × (Nat → Int32) × (Int32 × Int32 × Int32 × Int64) × (Int32 × Int32 × Int32 × Int64)) → Prop) (h : wp_Pr_storeSingle ms mn g rg hq mf cd fg L O a0 P) (sz : Nat) : Met l y_Pr_storeSingle (zz_ws y_Pr_storeSingle b_Pr_storeSingle 3 (some .int)) rm_Pr_storeSingle (va_Pc [.ref qp, .int a0] (zz_pw D [(cI, .int)] (wP qp qr qh qm qw qu qf ql qo cI ms mn g rg hq mf cd fg L O) sz)) (va_Qi P (zz_qw D (fun u => wP qp qr qh qm qw qu qf ql qo cI ms mn u.1 u.2.1 u.2.2.1 u.2.2.2.1 u.2.2.2.2.1 u.2.2.2.2.2.1 u.2.2.2.2.2.2.1 u.2.2.2.2.2.2.2) (va_A (wP qp qr qh qm qw qu qf ql qo cI ms mn g rg hq mf cd fg L O) sz)) (va_A (wP qp qr qh qm qw qu qf ql qo cI ms mn g rg hq mf cd fg L O) sz)) 0 0 (va_A (wP qp qr qh qm qw qu qf ql qo cI ms mn g rg hq mf cd fg L O) sz) := by
  refine Met.ofW (cc := b_Pr_storeSingle) (maxL := 3) (ret := (some .int)) (by decide) rfl ?_
  intro p e s m args below meth c s₁ B hml hv
  obtain ⟨rfl, hsz, hP, hK, hD0⟩ := hv
  have hx := B.exec
  have hb := B.bytes
  have hr := B.returns
  have hts := atoms_spec (ws := (zz_ws y_Pr_storeSingle b_Pr_storeSingle 3 (some .int))) B.pre
  have hown : s.vm.findClass R_Pr = some m.cls := findClass_of_methodNamed B.named
  have hlocks := B.notSynchronized
  have hT := zz_hts hts
  have X : CallFix p m c b_Pr_storeSingle 3 s ([.ref qp, .int a0] : List Value).toArray (zz_ws y_Pr_storeSingle b_Pr_storeSingle 3 (some .int)) R_Pr := ⟨hx, hb, hml, hown, hts⟩
  have hf0 : 0 + 0 ≤ (headSpec (zz_ws y_Pr_storeSingle b_Pr_storeSingle 3 (some .int)) rm_Pr_storeSingle).room.cells ∧ 0 + 0 ≤ (headSpec (zz_ws y_Pr_storeSingle b_Pr_storeSingle 3 (some .int)) rm_Pr_storeSingle).room.slots := ⟨Nat.le_of_ble_eq_true rfl, Nat.le_of_ble_eq_true rfl⟩
  subst hsz
  have hD := hD0.self (sz := s.heap.size)
  generalize hAe : va_A (wP qp qr qh qm qw qu qf ql qo cI ms mn g rg hq mf cd fg L O) s.heap.size = A at hD ⊢
  have hA : ∀ q : Nat, s.heap.size ≤ q → A q := fun q h => by rw [← hAe]; exact Or.inr h
  have hS : va_S A s.heap s.heap [] := va_S.rf
  have hl := lv_entry ([.ref qp, .int a0]) (n := 3) (Nat.le_of_ble_eq_true rfl)
  rw [lg_entry_eq]
  generalize (lg_sl ([.ref qp, .int a0]) ++ List.replicate (3 - (lg_sl ([.ref qp, .int a0])).length) Slot.unset).toArray = ls at hl ⊢
  have hl : lv_has ls 3 [(0, .ref qp), (1, .int a0)] := hl
  refine lv_aload_n hx hb d_Pr_storeSingle_0 rfl (lv_at hl 0 rfl) ?_
  refine lv_iload_n hx hb d_Pr_storeSingle_1 rfl (lv_at hl 1 rfl) ?_
  refine zz_Ri (As := [.int a0]) (rest := []) (wc := wP qp qr qh qm qw qu qf ql qo cI ms mn g rg hq mf cd fg L O) X hK hP (c_Pr_address l D cI qp qr qh qm qw qu qf ql qo ms mn g rg hq mf cd fg L O a0 _ h) ⟨rfl, rfl⟩ m_Pr_address k_Pr_261 ⟨Nat.le_of_ble_eq_true rfl, Nat.le_of_ble_eq_true rfl⟩ [0, 1, 2, 3, 4, 5, 6, 7, 8] rfl 4 0 rfl rfl rfl rfl hl.1 rfl (Nat.le_of_ble_eq_true rfl) d_Pr_storeSingle_2 hf0 (fun r_1 h => ?_)
  refine lv_istore_n (lv' := [(2, .int r_1), (0, .ref qp), (1, .int a0)]) hx hb d_Pr_storeSingle_5 rfl hl (by decide) rfl (fun ls hl => ?_)
  refine lv_aload_n hx hb d_Pr_storeSingle_6 rfl (lv_at hl 1 rfl) ?_
  refine g_Pr_33 (v := .ref qm) hx hb hT hown hK hP 0 rfl rfl d_Pr_storeSingle_7 ?_
  refine lv_iload_n hx hb d_Pr_storeSingle_10 rfl (lv_at hl 0 rfl) ?_
  refine lv_iconst (v := 4) hx hb d_Pr_storeSingle_11 (by decide) ?_
  refine zz_Ri (As := [.int r_1, .int (4 : Int32)]) (rest := []) (wc := wM qm qw cI ms mn mf) X hK hP (c_Me_good l D cI qm qw ms mn mf r_1 (4 : Int32) _ h) ⟨rfl, rfl⟩ m_Me_good k_Pr_51 ⟨Nat.le_of_ble_eq_true rfl, Nat.le_of_ble_eq_true rfl⟩ [3, 4] rfl 3 3 rfl rfl rfl rfl hl.1 rfl (Nat.le_of_ble_eq_true rfl) d_Pr_storeSingle_12 hf0 (fun r_2 h => ?_)
  refine lv_if_ne (tgt := 20) hx hb d_Pr_storeSingle_15 (by decide) (fun c_3 => ?_) (fun c_3 => ?_)
  · skip
    have h := h.2 c_3
    refine lv_aload_n hx hb d_Pr_storeSingle_20 rfl (lv_at hl 1 rfl) ?_
    refine lv_dup hx hb d_Pr_storeSingle_21 rfl ?_
    refine g_Pr_274 (v := .int (g 9)) hx hb hT hown hK hP 0 rfl rfl d_Pr_storeSingle_22 ?_
    refine lv_iconst (v := 1) hx hb d_Pr_storeSingle_25 (by decide) ?_
    refine lv_iadd hx hb d_Pr_storeSingle_26 ?_
    refine lv_topi (fun x_4 ex_4 => ?_)
    have h := h x_4 ex_4
    refine p_Pr_274 hx hb hT hown hK hP hD hS 0 rfl rfl d_Pr_storeSingle_27 (fun H locs (hP : va_P D vwCl (wP qp qr qh qm qw qu qf ql qo cI ms mn (upd g 9 x_4) rg hq mf cd fg L O) H) (hD : va_D A (wP qp qr qh qm qw qu qf ql qo cI ms mn (upd g 9 x_4) rg hq mf cd fg L O)) hS => ?_)
    refine lv_aload_n hx hb d_Pr_storeSingle_30 rfl (lv_at hl 1 rfl) ?_
    refine g_Pr_33 (v := .ref qm) hx hb hT hown hK hP 0 rfl rfl d_Pr_storeSingle_31 ?_
    refine lv_iload_n hx hb d_Pr_storeSingle_34 rfl (lv_at hl 0 rfl) ?_
    refine lv_iconst (v := 4) hx hb d_Pr_storeSingle_35 (by decide) ?_
    refine lv_aload_n hx hb d_Pr_storeSingle_36 rfl (lv_at hl 1 rfl) ?_
    refine g_Pr_25 (v := .ref qu) hx hb hT hown hK hP 0 rfl rfl d_Pr_storeSingle_37 ?_
    refine g_Pr_273 (v := .ref qf) hx hb hT hown hK hP 5 rfl rfl d_Pr_storeSingle_40 ?_
    refine lv_iload_n hx hb d_Pr_storeSingle_43 rfl (lv_at hl 2 rfl) ?_
    refine zz_Si (As := [.int a0]) (rest := [.ref qf, .int (4 : Int32), .int r_1, .ref qm]) X (c_Pr_rt l a0 _ h) ⟨rfl, rfl⟩ m_Pr_rt k_Pr_89 ⟨Nat.le_of_ble_eq_true rfl, Nat.le_of_ble_eq_true rfl⟩ rfl hl.1 rfl (Nat.le_of_ble_eq_true rfl) d_Pr_storeSingle_44 hf0 (fun r_5 h => ?_)
    refine va_iald (f := fg) hx hb hK hP 6 0 rfl rfl h.1 d_Pr_storeSingle_47 ?_
    have h := h.2
    refine lv_topi (fun x_6 ex_6 => ?_)
    have h := h x_6 ex_6
    refine zz_Wv (As := [.int r_1, .int (4 : Int32), .int x_6]) (rest := []) (wc := wM qm qw cI ms mn mf) (wr := [(qp, .inr (4, [.ref qm, .ref qr, .ref qh, .ref qu, .int ((upd g 9 x_4) 0), .int ((upd g 9 x_4) 1), .int ((upd g 9 x_4) 2), .int ((upd g 9 x_4) 3), .int ((upd g 9 x_4) 4), .int ((upd g 9 x_4) 5), .int ((upd g 9 x_4) 6), .int ((upd g 9 x_4) 7), .int ((upd g 9 x_4) 8), .int ((upd g 9 x_4) 9), .int ((upd g 9 x_4) 10), .int ((upd g 9 x_4) 11)])), (qr, .inl (cI, 32, .inl rg)), (qh, .inr (2, [.int (hq 0), .int (hq 1), .int (hq 2), .int (hq 3)])), (qu, .inr (1, [.ref qf, .int cd, .ref ql, .ref qo])), (qf, .inl (cI, 32, .inl fg)), (ql, .inr (0, [.int L.1, .int L.2.1, .int L.2.2.1, .long L.2.2.2])), (qo, .inr (0, [.int O.1, .int O.2.1, .int O.2.2.1, .long O.2.2.2]))]) X hK hP hD hS hA (c_Me_write l D cI qm qw ms mn mf r_1 (4 : Int32) x_6 _ h _) ⟨rfl, rfl⟩ m_Me_write k_Pr_277 ⟨Nat.le_of_ble_eq_true rfl, Nat.le_of_ble_eq_true rfl⟩ [3, 4] [0, 1, 2, 5, 6, 7, 8] rfl rfl (by decide) (by decide) (by decide) 3 3 rfl rfl rfl rfl hl.1 rfl (Nat.le_of_ble_eq_true rfl) d_Pr_storeSingle_48 hf0 (fun u_7 H locs h hP hD hS => ?_)
    have hP : va_P D vwCl (wP qp qr qh qm qw qu qf ql qo cI ms mn (upd g 9 x_4) rg hq u_7 cd fg L O) H := hP.sub [0, 1, 2, 7, 8, 3, 4, 5, 6] rfl
    have hD : va_D A (wP qp qr qh qm qw qu qf ql qo cI ms mn (upd g 9 x_4) rg hq u_7 cd fg L O) := hD.sub [0, 1, 2, 7, 8, 3, 4, 5, 6] (by decide) rfl
    refine lv_iconst (v := 0) hx hb d_Pr_storeSingle_51 (by decide) ?_
    exact W.iret (v := (0 : Int32)) hx hb hr (fun t ht hW => ⟨⟨(0 : Int32), ((upd g 9 x_4), rg, hq, u_7, cd, fg, L, O), rfl, h, by rw [ht]; exact hP, hD⟩, hS.F ht⟩) hS.2.2 d_Pr_storeSingle_52
  · skip
    have h := h.1 c_3
    refine lv_iconst (v := 2) hx hb d_Pr_storeSingle_18 (by decide) ?_
    exact W.iret (v := (2 : Int32)) hx hb hr (fun t ht hW => ⟨⟨(2 : Int32), (g, rg, hq, mf, cd, fg, L, O), rfl, h, by rw [ht]; exact hP, hD⟩, hS.F ht⟩) hS.2.2 d_Pr_storeSingle_19
def wp_Pr_storeDouble (ms : Int32) (mn : Nat) (g : Nat → Int32) (rg : Nat → Int32) (hq : Nat → Int32) (mf : Nat → Int32) (cd : Int32) (fg : Nat → Int32) (L : Int32 × Int32 × Int32 × Int64) (O : Int32 × Int32 × Int32 × Int64) (a0 : Int32) (P : Int32 → ((Nat → Int32) × (Nat → Int32) × (Nat → Int32) × (Nat → Int32) × Int32 × (Nat → Int32) × (Int32 × Int32 × Int32 × Int64) × (Int32 × Int32 × Int32 × Int64)) → Prop) : Prop := wp_Pr_address ms mn g rg hq mf cd fg L O a0 (fun r_1 => wp_Pr_rt a0 (fun r_2 => (((r_2 &&& (1 : Int32)) = (0 : Int32) → wp_Me_good ms mn mf r_1 (8 : Int32) (fun r_4 => ((r_4 = (0 : Int32) → P (2 : Int32) (g, rg, hq, mf, cd, fg, L, O)) ∧ (¬ r_4 = (0 : Int32) → ∀ x_6 : Int32, x_6 = ((g 9) + (1 : Int32)) → vp_in (r_2 ||| (1 : Int32)) 32 ∧ ∀ x_7 : Int32, x_7 = (fg (r_2 ||| (1 : Int32)).toNatClampNeg) → wp_Me_write ms mn mf r_1 (4 : Int32) x_7 (fun u_8 => vp_in r_2 32 ∧ ∀ x_10 : Int32, x_10 = (fg r_2.toNatClampNeg) → wp_Me_write ms mn u_8 (r_1 + (4 : Int32)) (4 : Int32) x_10 (fun u_11 => P (0 : Int32) ((upd g 9 x_6), rg, hq, u_11, cd, fg, L, O))))))) ∧ (¬ (r_2 &&& (1 : Int32)) = (0 : Int32) → P (8 : Int32) (g, rg, hq, mf, cd, fg, L, O)))))
abbrev rm_Pr_storeDouble : Room := { frames := 2, cells := 0, slots := 0, locals := 46 }
set_option maxHeartbeats 4000000 in
set_option maxRecDepth 100000 in
theorem c_Pr_storeDouble (l : Launch) (D : va_G) (cI : ClassId) (qp : Nat) (qr : Nat) (qh : Nat) (qm : Nat) (qw : Nat) (qu : Nat) (qf : Nat) (ql : Nat) (qo : Nat) (ms : Int32) (mn : Nat) (g : Nat → Int32) (rg : Nat → Int32) (hq : Nat → Int32) (mf : Nat → Int32) (cd : Int32) (fg : Nat → Int32) (L : Int32 × Int32 × Int32 × Int64) (O : Int32 × Int32 × Int32 × Int64) (a0 : Int32) (P : Int32 → ((Nat → Int32) × (Nat → Int32) × (Nat → Int32) × (Nat → Int32) × Int32 × (Nat → Int32) × (Int32 × Int32 × Int32 × Int64) × (Int32 × Int32 × Int32 × Int64)) → Prop) (h : wp_Pr_storeDouble ms mn g rg hq mf cd fg L O a0 P) (sz : Nat) : Met l y_Pr_storeDouble (zz_ws y_Pr_storeDouble b_Pr_storeDouble 4 (some .int)) rm_Pr_storeDouble (va_Pc [.ref qp, .int a0] (zz_pw D [(cI, .int)] (wP qp qr qh qm qw qu qf ql qo cI ms mn g rg hq mf cd fg L O) sz)) (va_Qi P (zz_qw D (fun u => wP qp qr qh qm qw qu qf ql qo cI ms mn u.1 u.2.1 u.2.2.1 u.2.2.2.1 u.2.2.2.2.1 u.2.2.2.2.2.1 u.2.2.2.2.2.2.1 u.2.2.2.2.2.2.2) (va_A (wP qp qr qh qm qw qu qf ql qo cI ms mn g rg hq mf cd fg L O) sz)) (va_A (wP qp qr qh qm qw qu qf ql qo cI ms mn g rg hq mf cd fg L O) sz)) 0 0 (va_A (wP qp qr qh qm qw qu qf ql qo cI ms mn g rg hq mf cd fg L O) sz) := by
  refine Met.ofW (cc := b_Pr_storeDouble) (maxL := 4) (ret := (some .int)) (by decide) rfl ?_
  intro p e s m args below meth c s₁ B hml hv
  obtain ⟨rfl, hsz, hP, hK, hD0⟩ := hv
  have hx := B.exec
  have hb := B.bytes
  have hr := B.returns
  have hts := atoms_spec (ws := (zz_ws y_Pr_storeDouble b_Pr_storeDouble 4 (some .int))) B.pre
  have hown : s.vm.findClass R_Pr = some m.cls := findClass_of_methodNamed B.named
  have hlocks := B.notSynchronized
  have hT := zz_hts hts
  have X : CallFix p m c b_Pr_storeDouble 4 s ([.ref qp, .int a0] : List Value).toArray (zz_ws y_Pr_storeDouble b_Pr_storeDouble 4 (some .int)) R_Pr := ⟨hx, hb, hml, hown, hts⟩
  have hf0 : 0 + 0 ≤ (headSpec (zz_ws y_Pr_storeDouble b_Pr_storeDouble 4 (some .int)) rm_Pr_storeDouble).room.cells ∧ 0 + 0 ≤ (headSpec (zz_ws y_Pr_storeDouble b_Pr_storeDouble 4 (some .int)) rm_Pr_storeDouble).room.slots := ⟨Nat.le_of_ble_eq_true rfl, Nat.le_of_ble_eq_true rfl⟩
  subst hsz
  have hD := hD0.self (sz := s.heap.size)
  generalize hAe : va_A (wP qp qr qh qm qw qu qf ql qo cI ms mn g rg hq mf cd fg L O) s.heap.size = A at hD ⊢
  have hA : ∀ q : Nat, s.heap.size ≤ q → A q := fun q h => by rw [← hAe]; exact Or.inr h
  have hS : va_S A s.heap s.heap [] := va_S.rf
  have hl := lv_entry ([.ref qp, .int a0]) (n := 4) (Nat.le_of_ble_eq_true rfl)
  rw [lg_entry_eq]
  generalize (lg_sl ([.ref qp, .int a0]) ++ List.replicate (4 - (lg_sl ([.ref qp, .int a0])).length) Slot.unset).toArray = ls at hl ⊢
  have hl : lv_has ls 4 [(0, .ref qp), (1, .int a0)] := hl
  refine lv_aload_n hx hb d_Pr_storeDouble_0 rfl (lv_at hl 0 rfl) ?_
  refine lv_iload_n hx hb d_Pr_storeDouble_1 rfl (lv_at hl 1 rfl) ?_
  refine zz_Ri (As := [.int a0]) (rest := []) (wc := wP qp qr qh qm qw qu qf ql qo cI ms mn g rg hq mf cd fg L O) X hK hP (c_Pr_address l D cI qp qr qh qm qw qu qf ql qo ms mn g rg hq mf cd fg L O a0 _ h) ⟨rfl, rfl⟩ m_Pr_address k_Pr_261 ⟨Nat.le_of_ble_eq_true rfl, Nat.le_of_ble_eq_true rfl⟩ [0, 1, 2, 3, 4, 5, 6, 7, 8] rfl 4 0 rfl rfl rfl rfl hl.1 rfl (Nat.le_of_ble_eq_true rfl) d_Pr_storeDouble_2 hf0 (fun r_1 h => ?_)
  refine lv_istore_n (lv' := [(2, .int r_1), (0, .ref qp), (1, .int a0)]) hx hb d_Pr_storeDouble_5 rfl hl (by decide) rfl (fun ls hl => ?_)
  refine lv_iload_n hx hb d_Pr_storeDouble_6 rfl (lv_at hl 2 rfl) ?_
  refine zz_Si (As := [.int a0]) (rest := []) X (c_Pr_rt l a0 _ h) ⟨rfl, rfl⟩ m_Pr_rt k_Pr_89 ⟨Nat.le_of_ble_eq_true rfl, Nat.le_of_ble_eq_true rfl⟩ rfl hl.1 rfl (Nat.le_of_ble_eq_true rfl) d_Pr_storeDouble_7 hf0 (fun r_2 h => ?_)
  refine lv_istore_n (lv' := [(3, .int r_2), (2, .int r_1), (0, .ref qp), (1, .int a0)]) hx hb d_Pr_storeDouble_10 rfl hl (by decide) rfl (fun ls hl => ?_)
  refine lv_iload_n hx hb d_Pr_storeDouble_11 rfl (lv_at hl 0 rfl) ?_
  refine lv_iconst (v := 1) hx hb d_Pr_storeDouble_12 (by decide) ?_
  refine lv_iand hx hb d_Pr_storeDouble_13 ?_
  refine lv_if_eq (tgt := 20) hx hb d_Pr_storeDouble_14 (by decide) (fun c_3 => ?_) (fun c_3 => ?_)
  · skip
    have h := h.1 c_3
    refine lv_aload_n hx hb d_Pr_storeDouble_20 rfl (lv_at hl 2 rfl) ?_
    refine g_Pr_33 (v := .ref qm) hx hb hT hown hK hP 0 rfl rfl d_Pr_storeDouble_21 ?_
    refine lv_iload_n hx hb d_Pr_storeDouble_24 rfl (lv_at hl 1 rfl) ?_
    refine lv_bipush (v := 8) hx hb d_Pr_storeDouble_25 (by decide) ?_
    refine zz_Ri (As := [.int r_1, .int (8 : Int32)]) (rest := []) (wc := wM qm qw cI ms mn mf) X hK hP (c_Me_good l D cI qm qw ms mn mf r_1 (8 : Int32) _ h) ⟨rfl, rfl⟩ m_Me_good k_Pr_51 ⟨Nat.le_of_ble_eq_true rfl, Nat.le_of_ble_eq_true rfl⟩ [3, 4] rfl 3 3 rfl rfl rfl rfl hl.1 rfl (Nat.le_of_ble_eq_true rfl) d_Pr_storeDouble_27 hf0 (fun r_4 h => ?_)
    refine lv_if_ne (tgt := 35) hx hb d_Pr_storeDouble_30 (by decide) (fun c_5 => ?_) (fun c_5 => ?_)
    · skip
      have h := h.2 c_5
      refine lv_aload_n hx hb d_Pr_storeDouble_35 rfl (lv_at hl 2 rfl) ?_
      refine lv_dup hx hb d_Pr_storeDouble_36 rfl ?_
      refine g_Pr_274 (v := .int (g 9)) hx hb hT hown hK hP 0 rfl rfl d_Pr_storeDouble_37 ?_
      refine lv_iconst (v := 1) hx hb d_Pr_storeDouble_40 (by decide) ?_
      refine lv_iadd hx hb d_Pr_storeDouble_41 ?_
      refine lv_topi (fun x_6 ex_6 => ?_)
      have h := h x_6 ex_6
      refine p_Pr_274 hx hb hT hown hK hP hD hS 0 rfl rfl d_Pr_storeDouble_42 (fun H locs (hP : va_P D vwCl (wP qp qr qh qm qw qu qf ql qo cI ms mn (upd g 9 x_6) rg hq mf cd fg L O) H) (hD : va_D A (wP qp qr qh qm qw qu qf ql qo cI ms mn (upd g 9 x_6) rg hq mf cd fg L O)) hS => ?_)
      refine lv_aload_n hx hb d_Pr_storeDouble_45 rfl (lv_at hl 2 rfl) ?_
      refine g_Pr_33 (v := .ref qm) hx hb hT hown hK hP 0 rfl rfl d_Pr_storeDouble_46 ?_
      refine lv_iload_n hx hb d_Pr_storeDouble_49 rfl (lv_at hl 1 rfl) ?_
      refine lv_iconst (v := 4) hx hb d_Pr_storeDouble_50 (by decide) ?_
      refine lv_aload_n hx hb d_Pr_storeDouble_51 rfl (lv_at hl 2 rfl) ?_
      refine g_Pr_25 (v := .ref qu) hx hb hT hown hK hP 0 rfl rfl d_Pr_storeDouble_52 ?_
      refine g_Pr_273 (v := .ref qf) hx hb hT hown hK hP 5 rfl rfl d_Pr_storeDouble_55 ?_
      refine lv_iload_n hx hb d_Pr_storeDouble_58 rfl (lv_at hl 0 rfl) ?_
      refine lv_iconst (v := 1) hx hb d_Pr_storeDouble_59 (by decide) ?_
      refine lv_ior hx hb d_Pr_storeDouble_60 ?_
      refine va_iald (f := fg) hx hb hK hP 6 0 rfl rfl h.1 d_Pr_storeDouble_61 ?_
      have h := h.2
      refine lv_topi (fun x_7 ex_7 => ?_)
      have h := h x_7 ex_7
      refine zz_Wv (As := [.int r_1, .int (4 : Int32), .int x_7]) (rest := []) (wc := wM qm qw cI ms mn mf) (wr := [(qp, .inr (4, [.ref qm, .ref qr, .ref qh, .ref qu, .int ((upd g 9 x_6) 0), .int ((upd g 9 x_6) 1), .int ((upd g 9 x_6) 2), .int ((upd g 9 x_6) 3), .int ((upd g 9 x_6) 4), .int ((upd g 9 x_6) 5), .int ((upd g 9 x_6) 6), .int ((upd g 9 x_6) 7), .int ((upd g 9 x_6) 8), .int ((upd g 9 x_6) 9), .int ((upd g 9 x_6) 10), .int ((upd g 9 x_6) 11)])), (qr, .inl (cI, 32, .inl rg)), (qh, .inr (2, [.int (hq 0), .int (hq 1), .int (hq 2), .int (hq 3)])), (qu, .inr (1, [.ref qf, .int cd, .ref ql, .ref qo])), (qf, .inl (cI, 32, .inl fg)), (ql, .inr (0, [.int L.1, .int L.2.1, .int L.2.2.1, .long L.2.2.2])), (qo, .inr (0, [.int O.1, .int O.2.1, .int O.2.2.1, .long O.2.2.2]))]) X hK hP hD hS hA (c_Me_write l D cI qm qw ms mn mf r_1 (4 : Int32) x_7 _ h _) ⟨rfl, rfl⟩ m_Me_write k_Pr_277 ⟨Nat.le_of_ble_eq_true rfl, Nat.le_of_ble_eq_true rfl⟩ [3, 4] [0, 1, 2, 5, 6, 7, 8] rfl rfl (by decide) (by decide) (by decide) 3 3 rfl rfl rfl rfl hl.1 rfl (Nat.le_of_ble_eq_true rfl) d_Pr_storeDouble_62 hf0 (fun u_8 H locs h hP hD hS => ?_)
      have hP : va_P D vwCl (wP qp qr qh qm qw qu qf ql qo cI ms mn (upd g 9 x_6) rg hq u_8 cd fg L O) H := hP.sub [0, 1, 2, 7, 8, 3, 4, 5, 6] rfl
      have hD : va_D A (wP qp qr qh qm qw qu qf ql qo cI ms mn (upd g 9 x_6) rg hq u_8 cd fg L O) := hD.sub [0, 1, 2, 7, 8, 3, 4, 5, 6] (by decide) rfl
      refine lv_aload_n hx hb d_Pr_storeDouble_65 rfl (lv_at hl 2 rfl) ?_
      refine g_Pr_33 (v := .ref qm) hx hb hT hown hK hP 0 rfl rfl d_Pr_storeDouble_66 ?_
      refine lv_iload_n hx hb d_Pr_storeDouble_69 rfl (lv_at hl 1 rfl) ?_
      refine lv_iconst (v := 4) hx hb d_Pr_storeDouble_70 (by decide) ?_
      refine lv_iadd hx hb d_Pr_storeDouble_71 ?_
      refine lv_iconst (v := 4) hx hb d_Pr_storeDouble_72 (by decide) ?_
      refine lv_aload_n hx hb d_Pr_storeDouble_73 rfl (lv_at hl 2 rfl) ?_
      refine g_Pr_25 (v := .ref qu) hx hb hT hown hK hP 0 rfl rfl d_Pr_storeDouble_74 ?_
      refine g_Pr_273 (v := .ref qf) hx hb hT hown hK hP 5 rfl rfl d_Pr_storeDouble_77 ?_
      refine lv_iload_n hx hb d_Pr_storeDouble_80 rfl (lv_at hl 0 rfl) ?_
      refine va_iald (f := fg) hx hb hK hP 6 0 rfl rfl h.1 d_Pr_storeDouble_81 ?_
      have h := h.2
      refine lv_topi (fun x_10 ex_10 => ?_)
      have h := h x_10 ex_10
      refine zz_Wv (As := [.int (r_1 + (4 : Int32)), .int (4 : Int32), .int x_10]) (rest := []) (wc := wM qm qw cI ms mn u_8) (wr := [(qp, .inr (4, [.ref qm, .ref qr, .ref qh, .ref qu, .int ((upd g 9 x_6) 0), .int ((upd g 9 x_6) 1), .int ((upd g 9 x_6) 2), .int ((upd g 9 x_6) 3), .int ((upd g 9 x_6) 4), .int ((upd g 9 x_6) 5), .int ((upd g 9 x_6) 6), .int ((upd g 9 x_6) 7), .int ((upd g 9 x_6) 8), .int ((upd g 9 x_6) 9), .int ((upd g 9 x_6) 10), .int ((upd g 9 x_6) 11)])), (qr, .inl (cI, 32, .inl rg)), (qh, .inr (2, [.int (hq 0), .int (hq 1), .int (hq 2), .int (hq 3)])), (qu, .inr (1, [.ref qf, .int cd, .ref ql, .ref qo])), (qf, .inl (cI, 32, .inl fg)), (ql, .inr (0, [.int L.1, .int L.2.1, .int L.2.2.1, .long L.2.2.2])), (qo, .inr (0, [.int O.1, .int O.2.1, .int O.2.2.1, .long O.2.2.2]))]) X hK hP hD hS hA (c_Me_write l D cI qm qw ms mn u_8 (r_1 + (4 : Int32)) (4 : Int32) x_10 _ h _) ⟨rfl, rfl⟩ m_Me_write k_Pr_277 ⟨Nat.le_of_ble_eq_true rfl, Nat.le_of_ble_eq_true rfl⟩ [3, 4] [0, 1, 2, 5, 6, 7, 8] rfl rfl (by decide) (by decide) (by decide) 3 3 rfl rfl rfl rfl hl.1 rfl (Nat.le_of_ble_eq_true rfl) d_Pr_storeDouble_82 hf0 (fun u_11 H locs h hP hD hS => ?_)
      have hP : va_P D vwCl (wP qp qr qh qm qw qu qf ql qo cI ms mn (upd g 9 x_6) rg hq u_11 cd fg L O) H := hP.sub [0, 1, 2, 7, 8, 3, 4, 5, 6] rfl
      have hD : va_D A (wP qp qr qh qm qw qu qf ql qo cI ms mn (upd g 9 x_6) rg hq u_11 cd fg L O) := hD.sub [0, 1, 2, 7, 8, 3, 4, 5, 6] (by decide) rfl
      refine lv_iconst (v := 0) hx hb d_Pr_storeDouble_85 (by decide) ?_
      exact W.iret (v := (0 : Int32)) hx hb hr (fun t ht hW => ⟨⟨(0 : Int32), ((upd g 9 x_6), rg, hq, u_11, cd, fg, L, O), rfl, h, by rw [ht]; exact hP, hD⟩, hS.F ht⟩) hS.2.2 d_Pr_storeDouble_86
    · skip
      have h := h.1 c_5
      refine lv_iconst (v := 2) hx hb d_Pr_storeDouble_33 (by decide) ?_
      exact W.iret (v := (2 : Int32)) hx hb hr (fun t ht hW => ⟨⟨(2 : Int32), (g, rg, hq, mf, cd, fg, L, O), rfl, h, by rw [ht]; exact hP, hD⟩, hS.F ht⟩) hS.2.2 d_Pr_storeDouble_34
  · skip
    have h := h.2 c_3
    refine lv_bipush (v := 8) hx hb d_Pr_storeDouble_17 (by decide) ?_
    exact W.iret (v := (8 : Int32)) hx hb hr (fun t ht hW => ⟨⟨(8 : Int32), (g, rg, hq, mf, cd, fg, L, O), rfl, h, by rw [ht]; exact hP, hD⟩, hS.F ht⟩) hS.2.2 d_Pr_storeDouble_19
def wp_Pr_access (ms : Int32) (mn : Nat) (g : Nat → Int32) (rg : Nat → Int32) (hq : Nat → Int32) (mf : Nat → Int32) (cd : Int32) (fg : Nat → Int32) (L : Int32 × Int32 × Int32 × Int64) (O : Int32 × Int32 × Int32 × Int64) (a0 : Int32) (P : Int32 → ((Nat → Int32) × (Nat → Int32) × (Nat → Int32) × (Nat → Int32) × Int32 × (Nat → Int32) × (Int32 × Int32 × Int32 × Int64) × (Int32 × Int32 × Int32 × Int64)) → Prop) : Prop := wp_Pr_opcode a0 (fun r_1 => (((r_1 = (32 : Int32) ∨ r_1 = (33 : Int32) ∨ r_1 = (35 : Int32) ∨ r_1 = (36 : Int32) ∨ r_1 = (37 : Int32)) → wp_Pr_load ms mn g rg hq mf cd fg L O a0 (fun r_4 u_3 => P r_4 (u_3.1, u_3.2.1, u_3.2.2.1, u_3.2.2.2.1, u_3.2.2.2.2.1, u_3.2.2.2.2.2.1, u_3.2.2.2.2.2.2.1, u_3.2.2.2.2.2.2.2))) ∧ (¬ (r_1 = (32 : Int32) ∨ r_1 = (33 : Int32) ∨ r_1 = (35 : Int32) ∨ r_1 = (36 : Int32) ∨ r_1 = (37 : Int32)) → (((r_1 = (34 : Int32) ∨ r_1 = (38 : Int32)) → wp_Pr_loadPart ms mn g rg hq mf cd fg L O a0 (fun r_7 u_6 => P r_7 (u_6.1, u_6.2.1, u_6.2.2.1, u_6.2.2.2.1, u_6.2.2.2.2.1, u_6.2.2.2.2.2.1, u_6.2.2.2.2.2.2.1, u_6.2.2.2.2.2.2.2))) ∧ (¬ (r_1 = (34 : Int32) ∨ r_1 = (38 : Int32)) → (((r_1 = (40 : Int32) ∨ r_1 = (41 : Int32) ∨ r_1 = (43 : Int32)) → wp_Pr_store ms mn g rg hq mf cd fg L O a0 (fun r_10 u_9 => P r_10 (u_9.1, u_9.2.1, u_9.2.2.1, u_9.2.2.2.1, u_9.2.2.2.2.1, u_9.2.2.2.2.2.1, u_9.2.2.2.2.2.2.1, u_9.2.2.2.2.2.2.2))) ∧ (¬ (r_1 = (40 : Int32) ∨ r_1 = (41 : Int32) ∨ r_1 = (43 : Int32)) → (((r_1 = (42 : Int32) ∨ r_1 = (46 : Int32)) → wp_Pr_storePart ms mn g rg hq mf cd fg L O a0 (fun r_13 u_12 => P r_13 (u_12.1, u_12.2.1, u_12.2.2.1, u_12.2.2.2.1, u_12.2.2.2.2.1, u_12.2.2.2.2.2.1, u_12.2.2.2.2.2.2.1, u_12.2.2.2.2.2.2.2))) ∧ (¬ (r_1 = (42 : Int32) ∨ r_1 = (46 : Int32)) → (((r_1 = (48 : Int32)) → wp_Pr_loadLinked ms mn g rg hq mf cd fg L O a0 (fun r_16 u_15 => P r_16 (u_15.1, u_15.2.1, u_15.2.2.1, u_15.2.2.2.1, u_15.2.2.2.2.1, u_15.2.2.2.2.2.1, u_15.2.2.2.2.2.2.1, u_15.2.2.2.2.2.2.2))) ∧ (¬ (r_1 = (48 : Int32)) → (((r_1 = (49 : Int32)) → wp_Pr_loadSingle ms mn g rg hq mf cd fg L O a0 (fun r_19 u_18 => P r_19 (u_18.1, u_18.2.1, u_18.2.2.1, u_18.2.2.2.1, u_18.2.2.2.2.1, u_18.2.2.2.2.2.1, u_18.2.2.2.2.2.2.1, u_18.2.2.2.2.2.2.2))) ∧ (¬ (r_1 = (49 : Int32)) → (((r_1 = (53 : Int32)) → wp_Pr_loadDouble ms mn g rg hq mf cd fg L O a0 (fun r_22 u_21 => P r_22 (u_21.1, u_21.2.1, u_21.2.2.1, u_21.2.2.2.1, u_21.2.2.2.2.1, u_21.2.2.2.2.2.1, u_21.2.2.2.2.2.2.1, u_21.2.2.2.2.2.2.2))) ∧ (¬ (r_1 = (53 : Int32)) → (((r_1 = (56 : Int32)) → wp_Pr_storeConditional ms mn g rg hq mf cd fg L O a0 (fun r_25 u_24 => P r_25 (u_24.1, u_24.2.1, u_24.2.2.1, u_24.2.2.2.1, u_24.2.2.2.2.1, u_24.2.2.2.2.2.1, u_24.2.2.2.2.2.2.1, u_24.2.2.2.2.2.2.2))) ∧ (¬ (r_1 = (56 : Int32)) → (((r_1 = (57 : Int32)) → wp_Pr_storeSingle ms mn g rg hq mf cd fg L O a0 (fun r_28 u_27 => P r_28 (u_27.1, u_27.2.1, u_27.2.2.1, u_27.2.2.2.1, u_27.2.2.2.2.1, u_27.2.2.2.2.2.1, u_27.2.2.2.2.2.2.1, u_27.2.2.2.2.2.2.2))) ∧ (¬ (r_1 = (57 : Int32)) → (((r_1 = (61 : Int32)) → wp_Pr_storeDouble ms mn g rg hq mf cd fg L O a0 (fun r_31 u_30 => P r_31 (u_30.1, u_30.2.1, u_30.2.2.1, u_30.2.2.2.1, u_30.2.2.2.2.1, u_30.2.2.2.2.2.1, u_30.2.2.2.2.2.2.1, u_30.2.2.2.2.2.2.2))) ∧ (¬ (r_1 = (61 : Int32)) → P (3 : Int32) (g, rg, hq, mf, cd, fg, L, O))))))))))))))))))))))
abbrev rm_Pr_access : Room := { frames := 3, cells := 0, slots := 0, locals := 72 }
set_option maxHeartbeats 4000000 in
set_option maxRecDepth 100000 in
theorem c_Pr_access (l : Launch) (D : va_G) (cI : ClassId) (qp : Nat) (qr : Nat) (qh : Nat) (qm : Nat) (qw : Nat) (qu : Nat) (qf : Nat) (ql : Nat) (qo : Nat) (ms : Int32) (mn : Nat) (g : Nat → Int32) (rg : Nat → Int32) (hq : Nat → Int32) (mf : Nat → Int32) (cd : Int32) (fg : Nat → Int32) (L : Int32 × Int32 × Int32 × Int64) (O : Int32 × Int32 × Int32 × Int64) (a0 : Int32) (P : Int32 → ((Nat → Int32) × (Nat → Int32) × (Nat → Int32) × (Nat → Int32) × Int32 × (Nat → Int32) × (Int32 × Int32 × Int32 × Int64) × (Int32 × Int32 × Int32 × Int64)) → Prop) (h : wp_Pr_access ms mn g rg hq mf cd fg L O a0 P) (sz : Nat) : Met l y_Pr_access (zz_ws y_Pr_access b_Pr_access 2 (some .int)) rm_Pr_access (va_Pc [.ref qp, .int a0] (zz_pw D [(cI, .int)] (wP qp qr qh qm qw qu qf ql qo cI ms mn g rg hq mf cd fg L O) sz)) (va_Qi P (zz_qw D (fun u => wP qp qr qh qm qw qu qf ql qo cI ms mn u.1 u.2.1 u.2.2.1 u.2.2.2.1 u.2.2.2.2.1 u.2.2.2.2.2.1 u.2.2.2.2.2.2.1 u.2.2.2.2.2.2.2) (va_A (wP qp qr qh qm qw qu qf ql qo cI ms mn g rg hq mf cd fg L O) sz)) (va_A (wP qp qr qh qm qw qu qf ql qo cI ms mn g rg hq mf cd fg L O) sz)) 0 0 (va_A (wP qp qr qh qm qw qu qf ql qo cI ms mn g rg hq mf cd fg L O) sz) := by
  refine Met.ofW (cc := b_Pr_access) (maxL := 2) (ret := (some .int)) (by decide) rfl ?_
  intro p e s m args below meth c s₁ B hml hv
  obtain ⟨rfl, hsz, hP, hK, hD0⟩ := hv
  have hx := B.exec
  have hb := B.bytes
  have hr := B.returns
  have hts := atoms_spec (ws := (zz_ws y_Pr_access b_Pr_access 2 (some .int))) B.pre
  have hown : s.vm.findClass R_Pr = some m.cls := findClass_of_methodNamed B.named
  have hlocks := B.notSynchronized
  have hT := zz_hts hts
  have X : CallFix p m c b_Pr_access 2 s ([.ref qp, .int a0] : List Value).toArray (zz_ws y_Pr_access b_Pr_access 2 (some .int)) R_Pr := ⟨hx, hb, hml, hown, hts⟩
  have hf0 : 0 + 0 ≤ (headSpec (zz_ws y_Pr_access b_Pr_access 2 (some .int)) rm_Pr_access).room.cells ∧ 0 + 0 ≤ (headSpec (zz_ws y_Pr_access b_Pr_access 2 (some .int)) rm_Pr_access).room.slots := ⟨Nat.le_of_ble_eq_true rfl, Nat.le_of_ble_eq_true rfl⟩
  subst hsz
  have hD := hD0.self (sz := s.heap.size)
  generalize hAe : va_A (wP qp qr qh qm qw qu qf ql qo cI ms mn g rg hq mf cd fg L O) s.heap.size = A at hD ⊢
  have hA : ∀ q : Nat, s.heap.size ≤ q → A q := fun q h => by rw [← hAe]; exact Or.inr h
  have hS : va_S A s.heap s.heap [] := va_S.rf
  have hl := lv_entry ([.ref qp, .int a0]) (n := 2) (Nat.le_of_ble_eq_true rfl)
  rw [lg_entry_eq]
  generalize (lg_sl ([.ref qp, .int a0]) ++ List.replicate (2 - (lg_sl ([.ref qp, .int a0])).length) Slot.unset).toArray = ls at hl ⊢
  have hl : lv_has ls 2 [(0, .ref qp), (1, .int a0)] := hl
  refine lv_iload_n hx hb d_Pr_access_0 rfl (lv_at hl 1 rfl) ?_
  refine zz_Si (As := [.int a0]) (rest := []) X (c_Pr_opcode l a0 _ h) ⟨rfl, rfl⟩ m_Pr_opcode k_Pr_71 ⟨Nat.le_of_ble_eq_true rfl, Nat.le_of_ble_eq_true rfl⟩ rfl hl.1 rfl (Nat.le_of_ble_eq_true rfl) d_Pr_access_1 hf0 (fun r_1 h => ?_)
  by_cases c_2 : r_1 = (32 : Int32) ∨ r_1 = (33 : Int32) ∨ r_1 = (35 : Int32) ∨ r_1 = (36 : Int32) ∨ r_1 = (37 : Int32)
  · have h := h.1 c_2
    have h0 := c_2
    refine lv_tableIn (off := 136) (tgt := 140) hx hb d_Pr_access_4 (by rcases h0 with h0 | h0 | h0 | h0 | h0 <;> (rw [h0]; decide)) (by rcases h0 with h0 | h0 | h0 | h0 | h0 <;> (rw [h0]; decide)) (by rcases h0 with h0 | h0 | h0 | h0 | h0 <;> (rw [h0]; rfl)) (by decide) ?_
    refine lv_aload_n hx hb d_Pr_access_140 rfl (lv_at hl 0 rfl) ?_
    refine lv_iload_n hx hb d_Pr_access_141 rfl (lv_at hl 1 rfl) ?_
    refine zz_Wi (As := [.int a0]) (rest := []) (wc := wP qp qr qh qm qw qu qf ql qo cI ms mn g rg hq mf cd fg L O) (wr := []) X hK hP hD hS hA (c_Pr_load l D cI qp qr qh qm qw qu qf ql qo ms mn g rg hq mf cd fg L O a0 _ h _) ⟨rfl, rfl⟩ m_Pr_load k_Pr_106 ⟨Nat.le_of_ble_eq_true rfl, Nat.le_of_ble_eq_true rfl⟩ [0, 1, 2, 3, 4, 5, 6, 7, 8] [] rfl rfl (by decide) (by decide) (by decide) 4 0 rfl rfl rfl rfl hl.1 rfl (Nat.le_of_ble_eq_true rfl) d_Pr_access_142 hf0 (fun r_4 u_3 H locs h hP hD hS => ?_)
    have hP : va_P D vwCl (wP qp qr qh qm qw qu qf ql qo cI ms mn u_3.1 u_3.2.1 u_3.2.2.1 u_3.2.2.2.1 u_3.2.2.2.2.1 u_3.2.2.2.2.2.1 u_3.2.2.2.2.2.2.1 u_3.2.2.2.2.2.2.2) H := hP.sub [0, 1, 2, 3, 4, 5, 6, 7, 8] rfl
    have hD : va_D A (wP qp qr qh qm qw qu qf ql qo cI ms mn u_3.1 u_3.2.1 u_3.2.2.1 u_3.2.2.2.1 u_3.2.2.2.2.1 u_3.2.2.2.2.2.1 u_3.2.2.2.2.2.2.1 u_3.2.2.2.2.2.2.2) := hD.sub [0, 1, 2, 3, 4, 5, 6, 7, 8] (by decide) rfl
    exact W.iret (v := r_4) hx hb hr (fun t ht hW => ⟨⟨r_4, (u_3.1, u_3.2.1, u_3.2.2.1, u_3.2.2.2.1, u_3.2.2.2.2.1, u_3.2.2.2.2.2.1, u_3.2.2.2.2.2.2.1, u_3.2.2.2.2.2.2.2), rfl, h, by rw [ht]; exact hP, hD⟩, hS.F ht⟩) hS.2.2 d_Pr_access_145
  · have h := h.2 c_2
    by_cases c_5 : r_1 = (34 : Int32) ∨ r_1 = (38 : Int32)
    · have h := h.1 c_5
      have h0 := c_5
      refine lv_tableIn (off := 142) (tgt := 146) hx hb d_Pr_access_4 (by rcases h0 with h0 | h0 <;> (rw [h0]; decide)) (by rcases h0 with h0 | h0 <;> (rw [h0]; decide)) (by rcases h0 with h0 | h0 <;> (rw [h0]; rfl)) (by decide) ?_
      refine lv_aload_n hx hb d_Pr_access_146 rfl (lv_at hl 0 rfl) ?_
      refine lv_iload_n hx hb d_Pr_access_147 rfl (lv_at hl 1 rfl) ?_
      refine zz_Wi (As := [.int a0]) (rest := []) (wc := wP qp qr qh qm qw qu qf ql qo cI ms mn g rg hq mf cd fg L O) (wr := []) X hK hP hD hS hA (c_Pr_loadPart l D cI qp qr qh qm qw qu qf ql qo ms mn g rg hq mf cd fg L O a0 _ h _) ⟨rfl, rfl⟩ m_Pr_loadPart k_Pr_109 ⟨Nat.le_of_ble_eq_true rfl, Nat.le_of_ble_eq_true rfl⟩ [0, 1, 2, 3, 4, 5, 6, 7, 8] [] rfl rfl (by decide) (by decide) (by decide) 4 0 rfl rfl rfl rfl hl.1 rfl (Nat.le_of_ble_eq_true rfl) d_Pr_access_148 hf0 (fun r_7 u_6 H locs h hP hD hS => ?_)
      have hP : va_P D vwCl (wP qp qr qh qm qw qu qf ql qo cI ms mn u_6.1 u_6.2.1 u_6.2.2.1 u_6.2.2.2.1 u_6.2.2.2.2.1 u_6.2.2.2.2.2.1 u_6.2.2.2.2.2.2.1 u_6.2.2.2.2.2.2.2) H := hP.sub [0, 1, 2, 3, 4, 5, 6, 7, 8] rfl
      have hD : va_D A (wP qp qr qh qm qw qu qf ql qo cI ms mn u_6.1 u_6.2.1 u_6.2.2.1 u_6.2.2.2.1 u_6.2.2.2.2.1 u_6.2.2.2.2.2.1 u_6.2.2.2.2.2.2.1 u_6.2.2.2.2.2.2.2) := hD.sub [0, 1, 2, 3, 4, 5, 6, 7, 8] (by decide) rfl
      exact W.iret (v := r_7) hx hb hr (fun t ht hW => ⟨⟨r_7, (u_6.1, u_6.2.1, u_6.2.2.1, u_6.2.2.2.1, u_6.2.2.2.2.1, u_6.2.2.2.2.2.1, u_6.2.2.2.2.2.2.1, u_6.2.2.2.2.2.2.2), rfl, h, by rw [ht]; exact hP, hD⟩, hS.F ht⟩) hS.2.2 d_Pr_access_151
    · have h := h.2 c_5
      by_cases c_8 : r_1 = (40 : Int32) ∨ r_1 = (41 : Int32) ∨ r_1 = (43 : Int32)
      · have h := h.1 c_8
        have h0 := c_8
        refine lv_tableIn (off := 166) (tgt := 170) hx hb d_Pr_access_4 (by rcases h0 with h0 | h0 | h0 <;> (rw [h0]; decide)) (by rcases h0 with h0 | h0 | h0 <;> (rw [h0]; decide)) (by rcases h0 with h0 | h0 | h0 <;> (rw [h0]; rfl)) (by decide) ?_
        refine lv_aload_n hx hb d_Pr_access_170 rfl (lv_at hl 0 rfl) ?_
        refine lv_iload_n hx hb d_Pr_access_171 rfl (lv_at hl 1 rfl) ?_
        refine zz_Wi (As := [.int a0]) (rest := []) (wc := wP qp qr qh qm qw qu qf ql qo cI ms mn g rg hq mf cd fg L O) (wr := []) X hK hP hD hS hA (c_Pr_store l D cI qp qr qh qm qw qu qf ql qo ms mn g rg hq mf cd fg L O a0 _ h _) ⟨rfl, rfl⟩ m_Pr_store k_Pr_121 ⟨Nat.le_of_ble_eq_true rfl, Nat.le_of_ble_eq_true rfl⟩ [0, 1, 2, 3, 4, 5, 6, 7, 8] [] rfl rfl (by decide) (by decide) (by decide) 4 0 rfl rfl rfl rfl hl.1 rfl (Nat.le_of_ble_eq_true rfl) d_Pr_access_172 hf0 (fun r_10 u_9 H locs h hP hD hS => ?_)
        have hP : va_P D vwCl (wP qp qr qh qm qw qu qf ql qo cI ms mn u_9.1 u_9.2.1 u_9.2.2.1 u_9.2.2.2.1 u_9.2.2.2.2.1 u_9.2.2.2.2.2.1 u_9.2.2.2.2.2.2.1 u_9.2.2.2.2.2.2.2) H := hP.sub [0, 1, 2, 3, 4, 5, 6, 7, 8] rfl
        have hD : va_D A (wP qp qr qh qm qw qu qf ql qo cI ms mn u_9.1 u_9.2.1 u_9.2.2.1 u_9.2.2.2.1 u_9.2.2.2.2.1 u_9.2.2.2.2.2.1 u_9.2.2.2.2.2.2.1 u_9.2.2.2.2.2.2.2) := hD.sub [0, 1, 2, 3, 4, 5, 6, 7, 8] (by decide) rfl
        exact W.iret (v := r_10) hx hb hr (fun t ht hW => ⟨⟨r_10, (u_9.1, u_9.2.1, u_9.2.2.1, u_9.2.2.2.1, u_9.2.2.2.2.1, u_9.2.2.2.2.2.1, u_9.2.2.2.2.2.2.1, u_9.2.2.2.2.2.2.2), rfl, h, by rw [ht]; exact hP, hD⟩, hS.F ht⟩) hS.2.2 d_Pr_access_175
      · have h := h.2 c_8
        by_cases c_11 : r_1 = (42 : Int32) ∨ r_1 = (46 : Int32)
        · have h := h.1 c_11
          have h0 := c_11
          refine lv_tableIn (off := 172) (tgt := 176) hx hb d_Pr_access_4 (by rcases h0 with h0 | h0 <;> (rw [h0]; decide)) (by rcases h0 with h0 | h0 <;> (rw [h0]; decide)) (by rcases h0 with h0 | h0 <;> (rw [h0]; rfl)) (by decide) ?_
          refine lv_aload_n hx hb d_Pr_access_176 rfl (lv_at hl 0 rfl) ?_
          refine lv_iload_n hx hb d_Pr_access_177 rfl (lv_at hl 1 rfl) ?_
          refine zz_Wi (As := [.int a0]) (rest := []) (wc := wP qp qr qh qm qw qu qf ql qo cI ms mn g rg hq mf cd fg L O) (wr := []) X hK hP hD hS hA (c_Pr_storePart l D cI qp qr qh qm qw qu qf ql qo ms mn g rg hq mf cd fg L O a0 _ h _) ⟨rfl, rfl⟩ m_Pr_storePart k_Pr_124 ⟨Nat.le_of_ble_eq_true rfl, Nat.le_of_ble_eq_true rfl⟩ [0, 1, 2, 3, 4, 5, 6, 7, 8] [] rfl rfl (by decide) (by decide) (by decide) 4 0 rfl rfl rfl rfl hl.1 rfl (Nat.le_of_ble_eq_true rfl) d_Pr_access_178 hf0 (fun r_13 u_12 H locs h hP hD hS => ?_)
          have hP : va_P D vwCl (wP qp qr qh qm qw qu qf ql qo cI ms mn u_12.1 u_12.2.1 u_12.2.2.1 u_12.2.2.2.1 u_12.2.2.2.2.1 u_12.2.2.2.2.2.1 u_12.2.2.2.2.2.2.1 u_12.2.2.2.2.2.2.2) H := hP.sub [0, 1, 2, 3, 4, 5, 6, 7, 8] rfl
          have hD : va_D A (wP qp qr qh qm qw qu qf ql qo cI ms mn u_12.1 u_12.2.1 u_12.2.2.1 u_12.2.2.2.1 u_12.2.2.2.2.1 u_12.2.2.2.2.2.1 u_12.2.2.2.2.2.2.1 u_12.2.2.2.2.2.2.2) := hD.sub [0, 1, 2, 3, 4, 5, 6, 7, 8] (by decide) rfl
          exact W.iret (v := r_13) hx hb hr (fun t ht hW => ⟨⟨r_13, (u_12.1, u_12.2.1, u_12.2.2.1, u_12.2.2.2.1, u_12.2.2.2.2.1, u_12.2.2.2.2.2.1, u_12.2.2.2.2.2.2.1, u_12.2.2.2.2.2.2.2), rfl, h, by rw [ht]; exact hP, hD⟩, hS.F ht⟩) hS.2.2 d_Pr_access_181
        · have h := h.2 c_11
          by_cases c_14 : r_1 = (48 : Int32)
          · have h := h.1 c_14
            have h0 := c_14
            refine lv_tableIn (off := 148) (tgt := 152) hx hb d_Pr_access_4 (by rw [h0]; decide) (by rw [h0]; decide) (by rw [h0]; rfl) (by decide) ?_
            refine lv_aload_n hx hb d_Pr_access_152 rfl (lv_at hl 0 rfl) ?_
            refine lv_iload_n hx hb d_Pr_access_153 rfl (lv_at hl 1 rfl) ?_
            refine zz_Wi (As := [.int a0]) (rest := []) (wc := wP qp qr qh qm qw qu qf ql qo cI ms mn g rg hq mf cd fg L O) (wr := []) X hK hP hD hS hA (c_Pr_loadLinked l D cI qp qr qh qm qw qu qf ql qo ms mn g rg hq mf cd fg L O a0 _ h _) ⟨rfl, rfl⟩ m_Pr_loadLinked k_Pr_112 ⟨Nat.le_of_ble_eq_true rfl, Nat.le_of_ble_eq_true rfl⟩ [0, 1, 2, 3, 4, 5, 6, 7, 8] [] rfl rfl (by decide) (by decide) (by decide) 4 0 rfl rfl rfl rfl hl.1 rfl (Nat.le_of_ble_eq_true rfl) d_Pr_access_154 hf0 (fun r_16 u_15 H locs h hP hD hS => ?_)
            have hP : va_P D vwCl (wP qp qr qh qm qw qu qf ql qo cI ms mn u_15.1 u_15.2.1 u_15.2.2.1 u_15.2.2.2.1 u_15.2.2.2.2.1 u_15.2.2.2.2.2.1 u_15.2.2.2.2.2.2.1 u_15.2.2.2.2.2.2.2) H := hP.sub [0, 1, 2, 3, 4, 5, 6, 7, 8] rfl
            have hD : va_D A (wP qp qr qh qm qw qu qf ql qo cI ms mn u_15.1 u_15.2.1 u_15.2.2.1 u_15.2.2.2.1 u_15.2.2.2.2.1 u_15.2.2.2.2.2.1 u_15.2.2.2.2.2.2.1 u_15.2.2.2.2.2.2.2) := hD.sub [0, 1, 2, 3, 4, 5, 6, 7, 8] (by decide) rfl
            exact W.iret (v := r_16) hx hb hr (fun t ht hW => ⟨⟨r_16, (u_15.1, u_15.2.1, u_15.2.2.1, u_15.2.2.2.1, u_15.2.2.2.2.1, u_15.2.2.2.2.2.1, u_15.2.2.2.2.2.2.1, u_15.2.2.2.2.2.2.2), rfl, h, by rw [ht]; exact hP, hD⟩, hS.F ht⟩) hS.2.2 d_Pr_access_157
          · have h := h.2 c_14
            by_cases c_17 : r_1 = (49 : Int32)
            · have h := h.1 c_17
              have h0 := c_17
              refine lv_tableIn (off := 154) (tgt := 158) hx hb d_Pr_access_4 (by rw [h0]; decide) (by rw [h0]; decide) (by rw [h0]; rfl) (by decide) ?_
              refine lv_aload_n hx hb d_Pr_access_158 rfl (lv_at hl 0 rfl) ?_
              refine lv_iload_n hx hb d_Pr_access_159 rfl (lv_at hl 1 rfl) ?_
              refine zz_Wi (As := [.int a0]) (rest := []) (wc := wP qp qr qh qm qw qu qf ql qo cI ms mn g rg hq mf cd fg L O) (wr := []) X hK hP hD hS hA (c_Pr_loadSingle l D cI qp qr qh qm qw qu qf ql qo ms mn g rg hq mf cd fg L O a0 _ h _) ⟨rfl, rfl⟩ m_Pr_loadSingle k_Pr_115 ⟨Nat.le_of_ble_eq_true rfl, Nat.le_of_ble_eq_true rfl⟩ [0, 1, 2, 3, 4, 5, 6, 7, 8] [] rfl rfl (by decide) (by decide) (by decide) 4 0 rfl rfl rfl rfl hl.1 rfl (Nat.le_of_ble_eq_true rfl) d_Pr_access_160 hf0 (fun r_19 u_18 H locs h hP hD hS => ?_)
              have hP : va_P D vwCl (wP qp qr qh qm qw qu qf ql qo cI ms mn u_18.1 u_18.2.1 u_18.2.2.1 u_18.2.2.2.1 u_18.2.2.2.2.1 u_18.2.2.2.2.2.1 u_18.2.2.2.2.2.2.1 u_18.2.2.2.2.2.2.2) H := hP.sub [0, 1, 2, 3, 4, 5, 6, 7, 8] rfl
              have hD : va_D A (wP qp qr qh qm qw qu qf ql qo cI ms mn u_18.1 u_18.2.1 u_18.2.2.1 u_18.2.2.2.1 u_18.2.2.2.2.1 u_18.2.2.2.2.2.1 u_18.2.2.2.2.2.2.1 u_18.2.2.2.2.2.2.2) := hD.sub [0, 1, 2, 3, 4, 5, 6, 7, 8] (by decide) rfl
              exact W.iret (v := r_19) hx hb hr (fun t ht hW => ⟨⟨r_19, (u_18.1, u_18.2.1, u_18.2.2.1, u_18.2.2.2.1, u_18.2.2.2.2.1, u_18.2.2.2.2.2.1, u_18.2.2.2.2.2.2.1, u_18.2.2.2.2.2.2.2), rfl, h, by rw [ht]; exact hP, hD⟩, hS.F ht⟩) hS.2.2 d_Pr_access_163
            · have h := h.2 c_17
              by_cases c_20 : r_1 = (53 : Int32)
              · have h := h.1 c_20
                have h0 := c_20
                refine lv_tableIn (off := 160) (tgt := 164) hx hb d_Pr_access_4 (by rw [h0]; decide) (by rw [h0]; decide) (by rw [h0]; rfl) (by decide) ?_
                refine lv_aload_n hx hb d_Pr_access_164 rfl (lv_at hl 0 rfl) ?_
                refine lv_iload_n hx hb d_Pr_access_165 rfl (lv_at hl 1 rfl) ?_
                refine zz_Wi (As := [.int a0]) (rest := []) (wc := wP qp qr qh qm qw qu qf ql qo cI ms mn g rg hq mf cd fg L O) (wr := []) X hK hP hD hS hA (c_Pr_loadDouble l D cI qp qr qh qm qw qu qf ql qo ms mn g rg hq mf cd fg L O a0 _ h _) ⟨rfl, rfl⟩ m_Pr_loadDouble k_Pr_118 ⟨Nat.le_of_ble_eq_true rfl, Nat.le_of_ble_eq_true rfl⟩ [0, 1, 2, 3, 4, 5, 6, 7, 8] [] rfl rfl (by decide) (by decide) (by decide) 4 0 rfl rfl rfl rfl hl.1 rfl (Nat.le_of_ble_eq_true rfl) d_Pr_access_166 hf0 (fun r_22 u_21 H locs h hP hD hS => ?_)
                have hP : va_P D vwCl (wP qp qr qh qm qw qu qf ql qo cI ms mn u_21.1 u_21.2.1 u_21.2.2.1 u_21.2.2.2.1 u_21.2.2.2.2.1 u_21.2.2.2.2.2.1 u_21.2.2.2.2.2.2.1 u_21.2.2.2.2.2.2.2) H := hP.sub [0, 1, 2, 3, 4, 5, 6, 7, 8] rfl
                have hD : va_D A (wP qp qr qh qm qw qu qf ql qo cI ms mn u_21.1 u_21.2.1 u_21.2.2.1 u_21.2.2.2.1 u_21.2.2.2.2.1 u_21.2.2.2.2.2.1 u_21.2.2.2.2.2.2.1 u_21.2.2.2.2.2.2.2) := hD.sub [0, 1, 2, 3, 4, 5, 6, 7, 8] (by decide) rfl
                exact W.iret (v := r_22) hx hb hr (fun t ht hW => ⟨⟨r_22, (u_21.1, u_21.2.1, u_21.2.2.1, u_21.2.2.2.1, u_21.2.2.2.2.1, u_21.2.2.2.2.2.1, u_21.2.2.2.2.2.2.1, u_21.2.2.2.2.2.2.2), rfl, h, by rw [ht]; exact hP, hD⟩, hS.F ht⟩) hS.2.2 d_Pr_access_169
              · have h := h.2 c_20
                by_cases c_23 : r_1 = (56 : Int32)
                · have h := h.1 c_23
                  have h0 := c_23
                  refine lv_tableIn (off := 178) (tgt := 182) hx hb d_Pr_access_4 (by rw [h0]; decide) (by rw [h0]; decide) (by rw [h0]; rfl) (by decide) ?_
                  refine lv_aload_n hx hb d_Pr_access_182 rfl (lv_at hl 0 rfl) ?_
                  refine lv_iload_n hx hb d_Pr_access_183 rfl (lv_at hl 1 rfl) ?_
                  refine zz_Wi (As := [.int a0]) (rest := []) (wc := wP qp qr qh qm qw qu qf ql qo cI ms mn g rg hq mf cd fg L O) (wr := []) X hK hP hD hS hA (c_Pr_storeConditional l D cI qp qr qh qm qw qu qf ql qo ms mn g rg hq mf cd fg L O a0 _ h _) ⟨rfl, rfl⟩ m_Pr_storeConditional k_Pr_127 ⟨Nat.le_of_ble_eq_true rfl, Nat.le_of_ble_eq_true rfl⟩ [0, 1, 2, 3, 4, 5, 6, 7, 8] [] rfl rfl (by decide) (by decide) (by decide) 4 0 rfl rfl rfl rfl hl.1 rfl (Nat.le_of_ble_eq_true rfl) d_Pr_access_184 hf0 (fun r_25 u_24 H locs h hP hD hS => ?_)
                  have hP : va_P D vwCl (wP qp qr qh qm qw qu qf ql qo cI ms mn u_24.1 u_24.2.1 u_24.2.2.1 u_24.2.2.2.1 u_24.2.2.2.2.1 u_24.2.2.2.2.2.1 u_24.2.2.2.2.2.2.1 u_24.2.2.2.2.2.2.2) H := hP.sub [0, 1, 2, 3, 4, 5, 6, 7, 8] rfl
                  have hD : va_D A (wP qp qr qh qm qw qu qf ql qo cI ms mn u_24.1 u_24.2.1 u_24.2.2.1 u_24.2.2.2.1 u_24.2.2.2.2.1 u_24.2.2.2.2.2.1 u_24.2.2.2.2.2.2.1 u_24.2.2.2.2.2.2.2) := hD.sub [0, 1, 2, 3, 4, 5, 6, 7, 8] (by decide) rfl
                  exact W.iret (v := r_25) hx hb hr (fun t ht hW => ⟨⟨r_25, (u_24.1, u_24.2.1, u_24.2.2.1, u_24.2.2.2.1, u_24.2.2.2.2.1, u_24.2.2.2.2.2.1, u_24.2.2.2.2.2.2.1, u_24.2.2.2.2.2.2.2), rfl, h, by rw [ht]; exact hP, hD⟩, hS.F ht⟩) hS.2.2 d_Pr_access_187
                · have h := h.2 c_23
                  by_cases c_26 : r_1 = (57 : Int32)
                  · have h := h.1 c_26
                    have h0 := c_26
                    refine lv_tableIn (off := 184) (tgt := 188) hx hb d_Pr_access_4 (by rw [h0]; decide) (by rw [h0]; decide) (by rw [h0]; rfl) (by decide) ?_
                    refine lv_aload_n hx hb d_Pr_access_188 rfl (lv_at hl 0 rfl) ?_
                    refine lv_iload_n hx hb d_Pr_access_189 rfl (lv_at hl 1 rfl) ?_
                    refine zz_Wi (As := [.int a0]) (rest := []) (wc := wP qp qr qh qm qw qu qf ql qo cI ms mn g rg hq mf cd fg L O) (wr := []) X hK hP hD hS hA (c_Pr_storeSingle l D cI qp qr qh qm qw qu qf ql qo ms mn g rg hq mf cd fg L O a0 _ h _) ⟨rfl, rfl⟩ m_Pr_storeSingle k_Pr_130 ⟨Nat.le_of_ble_eq_true rfl, Nat.le_of_ble_eq_true rfl⟩ [0, 1, 2, 3, 4, 5, 6, 7, 8] [] rfl rfl (by decide) (by decide) (by decide) 4 0 rfl rfl rfl rfl hl.1 rfl (Nat.le_of_ble_eq_true rfl) d_Pr_access_190 hf0 (fun r_28 u_27 H locs h hP hD hS => ?_)
                    have hP : va_P D vwCl (wP qp qr qh qm qw qu qf ql qo cI ms mn u_27.1 u_27.2.1 u_27.2.2.1 u_27.2.2.2.1 u_27.2.2.2.2.1 u_27.2.2.2.2.2.1 u_27.2.2.2.2.2.2.1 u_27.2.2.2.2.2.2.2) H := hP.sub [0, 1, 2, 3, 4, 5, 6, 7, 8] rfl
                    have hD : va_D A (wP qp qr qh qm qw qu qf ql qo cI ms mn u_27.1 u_27.2.1 u_27.2.2.1 u_27.2.2.2.1 u_27.2.2.2.2.1 u_27.2.2.2.2.2.1 u_27.2.2.2.2.2.2.1 u_27.2.2.2.2.2.2.2) := hD.sub [0, 1, 2, 3, 4, 5, 6, 7, 8] (by decide) rfl
                    exact W.iret (v := r_28) hx hb hr (fun t ht hW => ⟨⟨r_28, (u_27.1, u_27.2.1, u_27.2.2.1, u_27.2.2.2.1, u_27.2.2.2.2.1, u_27.2.2.2.2.2.1, u_27.2.2.2.2.2.2.1, u_27.2.2.2.2.2.2.2), rfl, h, by rw [ht]; exact hP, hD⟩, hS.F ht⟩) hS.2.2 d_Pr_access_193
                  · have h := h.2 c_26
                    by_cases c_29 : r_1 = (61 : Int32)
                    · have h := h.1 c_29
                      have h0 := c_29
                      refine lv_tableIn (off := 190) (tgt := 194) hx hb d_Pr_access_4 (by rw [h0]; decide) (by rw [h0]; decide) (by rw [h0]; rfl) (by decide) ?_
                      refine lv_aload_n hx hb d_Pr_access_194 rfl (lv_at hl 0 rfl) ?_
                      refine lv_iload_n hx hb d_Pr_access_195 rfl (lv_at hl 1 rfl) ?_
                      refine zz_Wi (As := [.int a0]) (rest := []) (wc := wP qp qr qh qm qw qu qf ql qo cI ms mn g rg hq mf cd fg L O) (wr := []) X hK hP hD hS hA (c_Pr_storeDouble l D cI qp qr qh qm qw qu qf ql qo ms mn g rg hq mf cd fg L O a0 _ h _) ⟨rfl, rfl⟩ m_Pr_storeDouble k_Pr_133 ⟨Nat.le_of_ble_eq_true rfl, Nat.le_of_ble_eq_true rfl⟩ [0, 1, 2, 3, 4, 5, 6, 7, 8] [] rfl rfl (by decide) (by decide) (by decide) 4 0 rfl rfl rfl rfl hl.1 rfl (Nat.le_of_ble_eq_true rfl) d_Pr_access_196 hf0 (fun r_31 u_30 H locs h hP hD hS => ?_)
                      have hP : va_P D vwCl (wP qp qr qh qm qw qu qf ql qo cI ms mn u_30.1 u_30.2.1 u_30.2.2.1 u_30.2.2.2.1 u_30.2.2.2.2.1 u_30.2.2.2.2.2.1 u_30.2.2.2.2.2.2.1 u_30.2.2.2.2.2.2.2) H := hP.sub [0, 1, 2, 3, 4, 5, 6, 7, 8] rfl
                      have hD : va_D A (wP qp qr qh qm qw qu qf ql qo cI ms mn u_30.1 u_30.2.1 u_30.2.2.1 u_30.2.2.2.1 u_30.2.2.2.2.1 u_30.2.2.2.2.2.1 u_30.2.2.2.2.2.2.1 u_30.2.2.2.2.2.2.2) := hD.sub [0, 1, 2, 3, 4, 5, 6, 7, 8] (by decide) rfl
                      exact W.iret (v := r_31) hx hb hr (fun t ht hW => ⟨⟨r_31, (u_30.1, u_30.2.1, u_30.2.2.1, u_30.2.2.2.1, u_30.2.2.2.2.1, u_30.2.2.2.2.2.1, u_30.2.2.2.2.2.2.1, u_30.2.2.2.2.2.2.2), rfl, h, by rw [ht]; exact hP, hD⟩, hS.F ht⟩) hS.2.2 d_Pr_access_199
                    · have h := h.2 c_29
                      refine zz_swD (tgt := 200) hx hb [32, 33, 35, 36, 37, 34, 38, 40, 41, 43, 42, 46, 48, 49, 53, 56, 57, 61] d_Pr_access_4 (by decide +kernel) (by decide) (List.forall_mem_cons.mpr ⟨lv_neT (k := 32) (fun q => c_2 (Or.inl q)) (by decide), List.forall_mem_cons.mpr ⟨lv_neT (k := 33) (fun q => c_2 (Or.inr (Or.inl q))) (by decide), List.forall_mem_cons.mpr ⟨lv_neT (k := 35) (fun q => c_2 (Or.inr (Or.inr (Or.inl q)))) (by decide), List.forall_mem_cons.mpr ⟨lv_neT (k := 36) (fun q => c_2 (Or.inr (Or.inr (Or.inr (Or.inl q))))) (by decide), List.forall_mem_cons.mpr ⟨lv_neT (k := 37) (fun q => c_2 (Or.inr (Or.inr (Or.inr (Or.inr (q)))))) (by decide), List.forall_mem_cons.mpr ⟨lv_neT (k := 34) (fun q => c_5 (Or.inl q)) (by decide), List.forall_mem_cons.mpr ⟨lv_neT (k := 38) (fun q => c_5 (Or.inr (q))) (by decide), List.forall_mem_cons.mpr ⟨lv_neT (k := 40) (fun q => c_8 (Or.inl q)) (by decide), List.forall_mem_cons.mpr ⟨lv_neT (k := 41) (fun q => c_8 (Or.inr (Or.inl q))) (by decide), List.forall_mem_cons.mpr ⟨lv_neT (k := 43) (fun q => c_8 (Or.inr (Or.inr (q)))) (by decide), List.forall_mem_cons.mpr ⟨lv_neT (k := 42) (fun q => c_11 (Or.inl q)) (by decide), List.forall_mem_cons.mpr ⟨lv_neT (k := 46) (fun q => c_11 (Or.inr (q))) (by decide), List.forall_mem_cons.mpr ⟨lv_neT (k := 48) c_14 (by decide), List.forall_mem_cons.mpr ⟨lv_neT (k := 49) c_17 (by decide), List.forall_mem_cons.mpr ⟨lv_neT (k := 53) c_20 (by decide), List.forall_mem_cons.mpr ⟨lv_neT (k := 56) c_23 (by decide), List.forall_mem_cons.mpr ⟨lv_neT (k := 57) c_26 (by decide), List.forall_mem_cons.mpr ⟨lv_neT (k := 61) c_29 (by decide), fun _ h9 => nomatch h9⟩⟩⟩⟩⟩⟩⟩⟩⟩⟩⟩⟩⟩⟩⟩⟩⟩⟩) (by decide) ?_
                      refine lv_iconst (v := 3) hx hb d_Pr_access_200 (by decide) ?_
                      exact W.iret (v := (3 : Int32)) hx hb hr (fun t ht hW => ⟨⟨(3 : Int32), (g, rg, hq, mf, cd, fg, L, O), rfl, h, by rw [ht]; exact hP, hD⟩, hS.F ht⟩) hS.2.2 d_Pr_access_201
