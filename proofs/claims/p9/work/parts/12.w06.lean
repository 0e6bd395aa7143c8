def wp_Pr_moveHiLo (ms : Int32) (mn : Nat) (g : Nat → Int32) (rg : Nat → Int32) (hq : Nat → Int32) (mf : Nat → Int32) (cd : Int32) (fg : Nat → Int32) (L : Int32 × Int32 × Int32 × Int64) (O : Int32 × Int32 × Int32 × Int64) (a0 : Int32) (P : Int32 → ((Nat → Int32) × (Nat → Int32) × (Nat → Int32) × (Nat → Int32) × Int32 × (Nat → Int32) × (Int32 × Int32 × Int32 × Int64) × (Int32 × Int32 × Int32 × Int64)) → Prop) : Prop := wp_Pr_function a0 (fun r_1 => (((r_1 = (16 : Int32)) → (((hq 2) = (0 : Int32) → P (8 : Int32) (g, rg, hq, mf, cd, fg, L, O)) ∧ (¬ (hq 2) = (0 : Int32) → wp_Pr_rd a0 (fun r_4 => wp_Pr_result ms mn g rg hq mf cd fg L O r_4 (hq 0) (fun r_6 u_5 => P r_6 (u_5.1, u_5.2.1, u_5.2.2.1, u_5.2.2.2.1, u_5.2.2.2.2.1, u_5.2.2.2.2.2.1, u_5.2.2.2.2.2.2.1, u_5.2.2.2.2.2.2.2)))))) ∧ (¬ (r_1 = (16 : Int32)) → (((r_1 = (17 : Int32)) → wp_Pr_rs a0 (fun r_8 => vp_in r_8 32 ∧ ∀ x_9 : Int32, x_9 = (rg r_8.toNatClampNeg) → wp_Hl_keepHi hq x_9 (fun u_10 => P (0 : Int32) (g, rg, u_10, mf, cd, fg, L, O)))) ∧ (¬ (r_1 = (17 : Int32)) → (((r_1 = (18 : Int32)) → (((hq 3) = (0 : Int32) → P (8 : Int32) (g, rg, hq, mf, cd, fg, L, O)) ∧ (¬ (hq 3) = (0 : Int32) → wp_Pr_rd a0 (fun r_14 => wp_Pr_result ms mn g rg hq mf cd fg L O r_14 (hq 1) (fun r_16 u_15 => P r_16 (u_15.1, u_15.2.1, u_15.2.2.1, u_15.2.2.2.1, u_15.2.2.2.2.1, u_15.2.2.2.2.2.1, u_15.2.2.2.2.2.2.1, u_15.2.2.2.2.2.2.2)))))) ∧ (¬ (r_1 = (18 : Int32)) → (((r_1 = (19 : Int32)) → wp_Pr_rs a0 (fun r_18 => vp_in r_18 32 ∧ ∀ x_19 : Int32, x_19 = (rg r_18.toNatClampNeg) → wp_Hl_keepLo hq x_19 (fun u_20 => P (0 : Int32) (g, rg, u_20, mf, cd, fg, L, O)))) ∧ (¬ (r_1 = (19 : Int32)) → P (3 : Int32) (g, rg, hq, mf, cd, fg, L, O))))))))))
abbrev rm_Pr_moveHiLo : Room := { frames := 2, cells := 0, slots := 0, locals := 44 }
set_option maxHeartbeats 4000000 in
set_option maxRecDepth 100000 in
theorem c_Pr_moveHiLo (l : Launch) (D : va_G) (cI : ClassId) (qp : Nat) (qr : Nat) (qh : Nat) (qm : Nat) (qw : Nat) (qu : Nat) (qf : Nat) (ql : Nat) (qo : Nat) (ms : Int32) (mn : Nat) (g : Nat → Int32) (rg : Nat → Int32) (hq : Nat → Int32) (mf : Nat → Int32) (cd : Int32) (fg : Nat → Int32) (L : Int32 × Int32 × Int32 × Int64) (O : Int32 × Int32 × Int32 × Int64) (a0 : Int32) (P : Int32 → ((Nat → Int32) × (Nat → Int32) × (Nat → Int32) × (Nat → Int32) × Int32 × (Nat → Int32) × (Int32 × Int32 × Int32 × Int64) × (Int32 × Int32 × Int32 × Int64)) → Prop) (h : wp_Pr_moveHiLo ms mn g rg hq mf cd fg L O a0 P) (sz : Nat) : Met l y_Pr_moveHiLo (zz_ws y_Pr_moveHiLo b_Pr_moveHiLo 2 (some .int)) rm_Pr_moveHiLo (va_Pc [.ref qp, .int a0] (zz_pw D [(cI, .int)] (wP qp qr qh qm qw qu qf ql qo cI ms mn g rg hq mf cd fg L O) sz)) (va_Qi P (zz_qw D (fun u => wP qp qr qh qm qw qu qf ql qo cI ms mn u.1 u.2.1 u.2.2.1 u.2.2.2.1 u.2.2.2.2.1 u.2.2.2.2.2.1 u.2.2.2.2.2.2.1 u.2.2.2.2.2.2.2) (va_A (wP qp qr qh qm qw qu qf ql qo cI ms mn g rg hq mf cd fg L O) sz)) (va_A (wP qp qr qh qm qw qu qf ql qo cI ms mn g rg hq mf cd fg L O) sz)) 0 0 (va_A (wP qp qr qh qm qw qu qf ql qo cI ms mn g rg hq mf cd fg L O) sz) := by
  refine Met.ofW (cc := b_Pr_moveHiLo) (maxL := 2) (ret := (some .int)) (by decide) rfl ?_
  intro p e s m args below meth c s₁ B hml hv
  obtain ⟨rfl, hsz, hP, hK, hD0⟩ := hv
  have hx := B.exec
  have hb := B.bytes
  have hr := B.returns
  have hts := atoms_spec (ws := (zz_ws y_Pr_moveHiLo b_Pr_moveHiLo 2 (some .int))) B.pre
  have hown : s.vm.findClass R_Pr = some m.cls := findClass_of_methodNamed B.named
  have hlocks := B.notSynchronized
  have hT := zz_hts hts
  have X : CallFix p m c b_Pr_moveHiLo 2 s ([.ref qp, .int a0] : List Value).toArray (zz_ws y_Pr_moveHiLo b_Pr_moveHiLo 2 (some .int)) R_Pr := ⟨hx, hb, hml, hown, hts⟩
  have hf0 : 0 + 0 ≤ (headSpec (zz_ws y_Pr_moveHiLo b_Pr_moveHiLo 2 (some .int)) rm_Pr_moveHiLo).room.cells ∧ 0 + 0 ≤ (headSpec (zz_ws y_Pr_moveHiLo b_Pr_moveHiLo 2 (some .int)) rm_Pr_moveHiLo).room.slots := ⟨Nat.le_of_ble_eq_true rfl, Nat.le_of_ble_eq_true rfl⟩
  subst hsz
  have hD := hD0.self (sz := s.heap.size)
  generalize hAe : va_A (wP qp qr qh qm qw qu qf ql qo cI ms mn g rg hq mf cd fg L O) s.heap.size = A at hD ⊢
  have hA : ∀ q : Nat, s.heap.size ≤ q → A q := fun q h => by rw [← hAe]; exact Or.inr h
  have hS : va_S A s.heap s.heap [] := va_S.rf
  have hl := lv_entry ([.ref qp, .int a0]) (n := 2) (Nat.le_of_ble_eq_true rfl)
  rw [lg_entry_eq]
  generalize (lg_sl ([.ref qp, .int a0]) ++ List.replicate (2 - (lg_sl ([.ref qp, .int a0])).length) Slot.unset).toArray = ls at hl ⊢
  have hl : lv_has ls 2 [(0, .ref qp), (1, .int a0)] := hl
  refine lv_iload_n hx hb d_Pr_moveHiLo_0 rfl (lv_at hl 1 rfl) ?_
  refine zz_Si (As := [.int a0]) (rest := []) X (c_Pr_function l a0 _ h) ⟨rfl, rfl⟩ m_Pr_function k_Pr_136 ⟨Nat.le_of_ble_eq_true rfl, Nat.le_of_ble_eq_true rfl⟩ rfl hl.1 rfl (Nat.le_of_ble_eq_true rfl) d_Pr_moveHiLo_1 hf0 (fun r_1 h => ?_)
  by_cases c_2 : r_1 = (16 : Int32)
  · have h := h.1 c_2
    have h0 := c_2
    refine lv_tableIn (off := 32) (tgt := 36) hx hb d_Pr_moveHiLo_4 (by rw [h0]; decide) (by rw [h0]; decide) (by rw [h0]; rfl) (by decide) ?_
    refine lv_aload_n hx hb d_Pr_moveHiLo_36 rfl (lv_at hl 0 rfl) ?_
    refine g_Pr_18 (v := .ref qh) hx hb hT hown hK hP 0 rfl rfl d_Pr_moveHiLo_37 ?_
    refine g_Pr_185 (v := .int (hq 2)) hx hb hT hown hK hP 2 rfl rfl d_Pr_moveHiLo_40 ?_
    refine lv_if_eq (tgt := 64) hx hb d_Pr_moveHiLo_43 (by decide) (fun c_3 => ?_) (fun c_3 => ?_)
    · skip
      have h := h.1 c_3
      refine lv_bipush (v := 8) hx hb d_Pr_moveHiLo_64 (by decide) ?_
      exact W.iret (v := (8 : Int32)) hx hb hr (fun t ht hW => ⟨⟨(8 : Int32), (g, rg, hq, mf, cd, fg, L, O), rfl, h, by rw [ht]; exact hP, hD⟩, hS.F ht⟩) hS.2.2 d_Pr_moveHiLo_66
    · skip
      have h := h.2 c_3
      refine lv_aload_n hx hb d_Pr_moveHiLo_46 rfl (lv_at hl 0 rfl) ?_
      refine lv_iload_n hx hb d_Pr_moveHiLo_47 rfl (lv_at hl 1 rfl) ?_
      refine zz_Si (As := [.int a0]) (rest := [.ref qp]) X (c_Pr_rd l a0 _ h) ⟨rfl, rfl⟩ m_Pr_rd k_Pr_158 ⟨Nat.le_of_ble_eq_true rfl, Nat.le_of_ble_eq_true rfl⟩ rfl hl.1 rfl (Nat.le_of_ble_eq_true rfl) d_Pr_moveHiLo_48 hf0 (fun r_4 h => ?_)
      refine lv_aload_n hx hb d_Pr_moveHiLo_51 rfl (lv_at hl 0 rfl) ?_
      refine g_Pr_18 (v := .ref qh) hx hb hT hown hK hP 0 rfl rfl d_Pr_moveHiLo_52 ?_
      refine g_Pr_188 (v := .int (hq 0)) hx hb hT hown hK hP 2 rfl rfl d_Pr_moveHiLo_55 ?_
      refine zz_Wi (As := [.int r_4, .int (hq 0)]) (rest := []) (wc := wP qp qr qh qm qw qu qf ql qo cI ms mn g rg hq mf cd fg L O) (wr := []) X hK hP hD hS hA (c_Pr_result l D cI qp qr qh qm qw qu qf ql qo ms mn g rg hq mf cd fg L O r_4 (hq 0) _ h _) ⟨rfl, rfl⟩ m_Pr_result k_Pr_161 ⟨Nat.le_of_ble_eq_true rfl, Nat.le_of_ble_eq_true rfl⟩ [0, 1, 2, 3, 4, 5, 6, 7, 8] [] rfl rfl (by decide) (by decide) (by decide) 4 0 rfl rfl rfl rfl hl.1 rfl (Nat.le_of_ble_eq_true rfl) d_Pr_moveHiLo_58 hf0 (fun r_6 u_5 H locs h hP hD hS => ?_)
      have hP : va_P D vwCl (wP qp qr qh qm qw qu qf ql qo cI ms mn u_5.1 u_5.2.1 u_5.2.2.1 u_5.2.2.2.1 u_5.2.2.2.2.1 u_5.2.2.2.2.2.1 u_5.2.2.2.2.2.2.1 u_5.2.2.2.2.2.2.2) H := hP.sub [0, 1, 2, 3, 4, 5, 6, 7, 8] rfl
      have hD : va_D A (wP qp qr qh qm qw qu qf ql qo cI ms mn u_5.1 u_5.2.1 u_5.2.2.1 u_5.2.2.2.1 u_5.2.2.2.2.1 u_5.2.2.2.2.2.1 u_5.2.2.2.2.2.2.1 u_5.2.2.2.2.2.2.2) := hD.sub [0, 1, 2, 3, 4, 5, 6, 7, 8] (by decide) rfl
      refine lv_goto (tgt := 66) hx hb d_Pr_moveHiLo_61 (by decide) ?_
      exact W.iret (v := r_6) hx hb hr (fun t ht hW => ⟨⟨r_6, (u_5.1, u_5.2.1, u_5.2.2.1, u_5.2.2.2.1, u_5.2.2.2.2.1, u_5.2.2.2.2.2.1, u_5.2.2.2.2.2.2.1, u_5.2.2.2.2.2.2.2), rfl, h, by rw [ht]; exact hP, hD⟩, hS.F ht⟩) hS.2.2 d_Pr_moveHiLo_66
  · have h := h.2 c_2
    by_cases c_7 : r_1 = (17 : Int32)
    · have h := h.1 c_7
      have h0 := c_7
      refine lv_tableIn (off := 94) (tgt := 98) hx hb d_Pr_moveHiLo_4 (by rw [h0]; decide) (by rw [h0]; decide) (by rw [h0]; rfl) (by decide) ?_
      refine lv_aload_n hx hb d_Pr_moveHiLo_98 rfl (lv_at hl 0 rfl) ?_
      refine g_Pr_18 (v := .ref qh) hx hb hT hown hK hP 0 rfl rfl d_Pr_moveHiLo_99 ?_
      refine lv_aload_n hx hb d_Pr_moveHiLo_102 rfl (lv_at hl 0 rfl) ?_
      refine g_Pr_9 (v := .ref qr) hx hb hT hown hK hP 0 rfl rfl d_Pr_moveHiLo_103 ?_
      refine lv_iload_n hx hb d_Pr_moveHiLo_106 rfl (lv_at hl 1 rfl) ?_
      refine zz_Si (As := [.int a0]) (rest := [.ref qr, .ref qh]) X (c_Pr_rs l a0 _ h) ⟨rfl, rfl⟩ m_Pr_rs k_Pr_83 ⟨Nat.le_of_ble_eq_true rfl, Nat.le_of_ble_eq_true rfl⟩ rfl hl.1 rfl (Nat.le_of_ble_eq_true rfl) d_Pr_moveHiLo_107 hf0 (fun r_8 h => ?_)
      refine va_iald (f := rg) hx hb hK hP 1 0 rfl rfl h.1 d_Pr_moveHiLo_110 ?_
      have h := h.2
      refine lv_topi (fun x_9 ex_9 => ?_)
      have h := h x_9 ex_9
      refine zz_Wv (As := [.int x_9]) (rest := []) (wc := wH qh hq) (wr := [(qp, .inr (4, [.ref qm, .ref qr, .ref qh, .ref qu, .int (g 0), .int (g 1), .int (g 2), .int (g 3), .int (g 4), .int (g 5), .int (g 6), .int (g 7), .int (g 8), .int (g 9), .int (g 10), .int (g 11)])), (qr, .inl (cI, 32, .inl rg)), (qm, .inr (3, [.int ms, .ref qw])), (qw, .inl (cI, mn, .inl mf)), (qu, .inr (1, [.ref qf, .int cd, .ref ql, .ref qo])), (qf, .inl (cI, 32, .inl fg)), (ql, .inr (0, [.int L.1, .int L.2.1, .int L.2.2.1, .long L.2.2.2])), (qo, .inr (0, [.int O.1, .int O.2.1, .int O.2.2.1, .long O.2.2.2]))]) X hK hP hD hS hA (c_Hl_keepHi l D cI qh hq x_9 _ h _) ⟨rfl, rfl⟩ m_Hl_keepHi k_Pr_197 ⟨Nat.le_of_ble_eq_true rfl, Nat.le_of_ble_eq_true rfl⟩ [2] [0, 1, 3, 4, 5, 6, 7, 8] rfl rfl (by decide) (by decide) (by decide) 2 2 rfl rfl rfl rfl hl.1 rfl (Nat.le_of_ble_eq_true rfl) d_Pr_moveHiLo_111 hf0 (fun u_10 H locs h hP hD hS => ?_)
      have hP : va_P D vwCl (wP qp qr qh qm qw qu qf ql qo cI ms mn g rg u_10 mf cd fg L O) H := hP.sub [0, 1, 8, 2, 3, 4, 5, 6, 7] rfl
      have hD : va_D A (wP qp qr qh qm qw qu qf ql qo cI ms mn g rg u_10 mf cd fg L O) := hD.sub [0, 1, 8, 2, 3, 4, 5, 6, 7] (by decide) rfl
      refine lv_iconst (v := 0) hx hb d_Pr_moveHiLo_114 (by decide) ?_
      exact W.iret (v := (0 : Int32)) hx hb hr (fun t ht hW => ⟨⟨(0 : Int32), (g, rg, u_10, mf, cd, fg, L, O), rfl, h, by rw [ht]; exact hP, hD⟩, hS.F ht⟩) hS.2.2 d_Pr_moveHiLo_115
    · have h := h.2 c_7
      by_cases c_12 : r_1 = (18 : Int32)
      · have h := h.1 c_12
        have h0 := c_12
        refine lv_tableIn (off := 63) (tgt := 67) hx hb d_Pr_moveHiLo_4 (by rw [h0]; decide) (by rw [h0]; decide) (by rw [h0]; rfl) (by decide) ?_
        refine lv_aload_n hx hb d_Pr_moveHiLo_67 rfl (lv_at hl 0 rfl) ?_
        refine g_Pr_18 (v := .ref qh) hx hb hT hown hK hP 0 rfl rfl d_Pr_moveHiLo_68 ?_
        refine g_Pr_191 (v := .int (hq 3)) hx hb hT hown hK hP 2 rfl rfl d_Pr_moveHiLo_71 ?_
        refine lv_if_eq (tgt := 95) hx hb d_Pr_moveHiLo_74 (by decide) (fun c_13 => ?_) (fun c_13 => ?_)
        · skip
          have h := h.1 c_13
          refine lv_bipush (v := 8) hx hb d_Pr_moveHiLo_95 (by decide) ?_
          exact W.iret (v := (8 : Int32)) hx hb hr (fun t ht hW => ⟨⟨(8 : Int32), (g, rg, hq, mf, cd, fg, L, O), rfl, h, by rw [ht]; exact hP, hD⟩, hS.F ht⟩) hS.2.2 d_Pr_moveHiLo_97
        · skip
          have h := h.2 c_13
          refine lv_aload_n hx hb d_Pr_moveHiLo_77 rfl (lv_at hl 0 rfl) ?_
          refine lv_iload_n hx hb d_Pr_moveHiLo_78 rfl (lv_at hl 1 rfl) ?_
          refine zz_Si (As := [.int a0]) (rest := [.ref qp]) X (c_Pr_rd l a0 _ h) ⟨rfl, rfl⟩ m_Pr_rd k_Pr_158 ⟨Nat.le_of_ble_eq_true rfl, Nat.le_of_ble_eq_true rfl⟩ rfl hl.1 rfl (Nat.le_of_ble_eq_true rfl) d_Pr_moveHiLo_79 hf0 (fun r_14 h => ?_)
          refine lv_aload_n hx hb d_Pr_moveHiLo_82 rfl (lv_at hl 0 rfl) ?_
          refine g_Pr_18 (v := .ref qh) hx hb hT hown hK hP 0 rfl rfl d_Pr_moveHiLo_83 ?_
          refine g_Pr_194 (v := .int (hq 1)) hx hb hT hown hK hP 2 rfl rfl d_Pr_moveHiLo_86 ?_
          refine zz_Wi (As := [.int r_14, .int (hq 1)]) (rest := []) (wc := wP qp qr qh qm qw qu qf ql qo cI ms mn g rg hq mf cd fg L O) (wr := []) X hK hP hD hS hA (c_Pr_result l D cI qp qr qh qm qw qu qf ql qo ms mn g rg hq mf cd fg L O r_14 (hq 1) _ h _) ⟨rfl, rfl⟩ m_Pr_result k_Pr_161 ⟨Nat.le_of_ble_eq_true rfl, Nat.le_of_ble_eq_true rfl⟩ [0, 1, 2, 3, 4, 5, 6, 7, 8] [] rfl rfl (by decide) (by decide) (by decide) 4 0 rfl rfl rfl rfl hl.1 rfl (Nat.le_of_ble_eq_true rfl) d_Pr_moveHiLo_89 hf0 (fun r_16 u_15 H locs h hP hD hS => ?_)
          have hP : va_P D vwCl (wP qp qr qh qm qw qu qf ql qo cI ms mn u_15.1 u_15.2.1 u_15.2.2.1 u_15.2.2.2.1 u_15.2.2.2.2.1 u_15.2.2.2.2.2.1 u_15.2.2.2.2.2.2.1 u_15.2.2.2.2.2.2.2) H := hP.sub [0, 1, 2, 3, 4, 5, 6, 7, 8] rfl
          have hD : va_D A (wP qp qr qh qm qw qu qf ql qo cI ms mn u_15.1 u_15.2.1 u_15.2.2.1 u_15.2.2.2.1 u_15.2.2.2.2.1 u_15.2.2.2.2.2.1 u_15.2.2.2.2.2.2.1 u_15.2.2.2.2.2.2.2) := hD.sub [0, 1, 2, 3, 4, 5, 6, 7, 8] (by decide) rfl
          refine lv_goto (tgt := 97) hx hb d_Pr_moveHiLo_92 (by decide) ?_
          exact W.iret (v := r_16) hx hb hr (fun t ht hW => ⟨⟨r_16, (u_15.1, u_15.2.1, u_15.2.2.1, u_15.2.2.2.1, u_15.2.2.2.2.1, u_15.2.2.2.2.2.1, u_15.2.2.2.2.2.2.1, u_15.2.2.2.2.2.2.2), rfl, h, by rw [ht]; exact hP, hD⟩, hS.F ht⟩) hS.2.2 d_Pr_moveHiLo_97
      · have h := h.2 c_12
        by_cases c_17 : r_1 = (19 : Int32)
        · have h := h.1 c_17
          have h0 := c_17
          refine lv_tableIn (off := 112) (tgt := 116) hx hb d_Pr_moveHiLo_4 (by rw [h0]; decide) (by rw [h0]; decide) (by rw [h0]; rfl) (by decide) ?_
          refine lv_aload_n hx hb d_Pr_moveHiLo_116 rfl (lv_at hl 0 rfl) ?_
          refine g_Pr_18 (v := .ref qh) hx hb hT hown hK hP 0 rfl rfl d_Pr_moveHiLo_117 ?_
          refine lv_aload_n hx hb d_Pr_moveHiLo_120 rfl (lv_at hl 0 rfl) ?_
          refine g_Pr_9 (v := .ref qr) hx hb hT hown hK hP 0 rfl rfl d_Pr_moveHiLo_121 ?_
          refine lv_iload_n hx hb d_Pr_moveHiLo_124 rfl (lv_at hl 1 rfl) ?_
          refine zz_Si (As := [.int a0]) (rest := [.ref qr, .ref qh]) X (c_Pr_rs l a0 _ h) ⟨rfl, rfl⟩ m_Pr_rs k_Pr_83 ⟨Nat.le_of_ble_eq_true rfl, Nat.le_of_ble_eq_true rfl⟩ rfl hl.1 rfl (Nat.le_of_ble_eq_true rfl) d_Pr_moveHiLo_125 hf0 (fun r_18 h => ?_)
          refine va_iald (f := rg) hx hb hK hP 1 0 rfl rfl h.1 d_Pr_moveHiLo_128 ?_
          have h := h.2
          refine lv_topi (fun x_19 ex_19 => ?_)
          have h := h x_19 ex_19
          refine zz_Wv (As := [.int x_19]) (rest := []) (wc := wH qh hq) (wr := [(qp, .inr (4, [.ref qm, .ref qr, .ref qh, .ref qu, .int (g 0), .int (g 1), .int (g 2), .int (g 3), .int (g 4), .int (g 5), .int (g 6), .int (g 7), .int (g 8), .int (g 9), .int (g 10), .int (g 11)])), (qr, .inl (cI, 32, .inl rg)), (qm, .inr (3, [.int ms, .ref qw])), (qw, .inl (cI, mn, .inl mf)), (qu, .inr (1, [.ref qf, .int cd, .ref ql, .ref qo])), (qf, .inl (cI, 32, .inl fg)), (ql, .inr (0, [.int L.1, .int L.2.1, .int L.2.2.1, .long L.2.2.2])), (qo, .inr (0, [.int O.1, .int O.2.1, .int O.2.2.1, .long O.2.2.2]))]) X hK hP hD hS hA (c_Hl_keepLo l D cI qh hq x_19 _ h _) ⟨rfl, rfl⟩ m_Hl_keepLo k_Pr_201 ⟨Nat.le_of_ble_eq_true rfl, Nat.le_of_ble_eq_true rfl⟩ [2] [0, 1, 3, 4, 5, 6, 7, 8] rfl rfl (by decide) (by decide) (by decide) 2 2 rfl rfl rfl rfl hl.1 rfl (Nat.le_of_ble_eq_true rfl) d_Pr_moveHiLo_129 hf0 (fun u_20 H locs h hP hD hS => ?_)
          have hP : va_P D vwCl (wP qp qr qh qm qw qu qf ql qo cI ms mn g rg u_20 mf cd fg L O) H := hP.sub [0, 1, 8, 2, 3, 4, 5, 6, 7] rfl
          have hD : va_D A (wP qp qr qh qm qw qu qf ql qo cI ms mn g rg u_20 mf cd fg L O) := hD.sub [0, 1, 8, 2, 3, 4, 5, 6, 7] (by decide) rfl
          refine lv_iconst (v := 0) hx hb d_Pr_moveHiLo_132 (by decide) ?_
          exact W.iret (v := (0 : Int32)) hx hb hr (fun t ht hW => ⟨⟨(0 : Int32), (g, rg, u_20, mf, cd, fg, L, O), rfl, h, by rw [ht]; exact hP, hD⟩, hS.F ht⟩) hS.2.2 d_Pr_moveHiLo_133
        · have h := h.2 c_17
          refine zz_swD (tgt := 134) hx hb [16, 17, 18, 19] d_Pr_moveHiLo_4 (by decide +kernel) (by decide) (List.forall_mem_cons.mpr ⟨lv_neT (k := 16) c_2 (by decide), List.forall_mem_cons.mpr ⟨lv_neT (k := 17) c_7 (by decide), List.forall_mem_cons.mpr ⟨lv_neT (k := 18) c_12 (by decide), List.forall_mem_cons.mpr ⟨lv_neT (k := 19) c_17 (by decide), fun _ h9 => nomatch h9⟩⟩⟩⟩) (by decide) ?_
          refine lv_iconst (v := 3) hx hb d_Pr_moveHiLo_134 (by decide) ?_
          exact W.iret (v := (3 : Int32)) hx hb hr (fun t ht hW => ⟨⟨(3 : Int32), (g, rg, hq, mf, cd, fg, L, O), rfl, h, by rw [ht]; exact hP, hD⟩, hS.F ht⟩) hS.2.2 d_Pr_moveHiLo_135
def wp_Pr_multiplyOrDivide (ms : Int32) (mn : Nat) (g : Nat → Int32) (rg : Nat → Int32) (hq : Nat → Int32) (mf : Nat → Int32) (cd : Int32) (fg : Nat → Int32) (L : Int32 × Int32 × Int32 × Int64) (O : Int32 × Int32 × Int32 × Int64) (a0 : Int32) (P : Int32 → ((Nat → Int32) × (Nat → Int32) × (Nat → Int32) × (Nat → Int32) × Int32 × (Nat → Int32) × (Int32 × Int32 × Int32 × Int64) × (Int32 × Int32 × Int32 × Int64)) → Prop) : Prop := wp_Pr_rs a0 (fun r_1 => vp_in r_1 32 ∧ ∀ x_2 : Int32, x_2 = (rg r_1.toNatClampNeg) → wp_Pr_rt a0 (fun r_3 => vp_in r_3 32 ∧ ∀ x_4 : Int32, x_4 = (rg r_3.toNatClampNeg) → wp_Pr_function a0 (fun r_5 => (((r_5 = (24 : Int32)) → wp_Hl_keep hq (x_2.toInt64 * x_4.toInt64) (fun u_7 => P (0 : Int32) (g, rg, u_7, mf, cd, fg, L, O))) ∧ (¬ (r_5 = (24 : Int32)) → (((r_5 = (25 : Int32)) → wp_Pr_unsigned x_2 (fun r_10 => wp_Pr_unsigned x_4 (fun r_11 => wp_Hl_keep hq (r_10 * r_11) (fun u_12 => P (0 : Int32) (g, rg, u_12, mf, cd, fg, L, O))))) ∧ (¬ (r_5 = (25 : Int32)) → (((r_5 = (26 : Int32)) → wp_Hl_divide hq x_2.toInt64 x_4.toInt64 (fun u_15 => P (0 : Int32) (g, rg, u_15, mf, cd, fg, L, O))) ∧ (¬ (r_5 = (26 : Int32)) → (((r_5 = (27 : Int32)) → wp_Pr_unsigned x_2 (fun r_18 => wp_Pr_unsigned x_4 (fun r_19 => wp_Hl_divide hq r_18 r_19 (fun u_20 => P (0 : Int32) (g, rg, u_20, mf, cd, fg, L, O))))) ∧ (¬ (r_5 = (27 : Int32)) → P (3 : Int32) (g, rg, hq, mf, cd, fg, L, O))))))))))))
abbrev rm_Pr_multiplyOrDivide : Room := { frames := 2, cells := 0, slots := 0, locals := 45 }
set_option maxHeartbeats 4000000 in
set_option maxRecDepth 100000 in
theorem c_Pr_multiplyOrDivide (l : Launch) (D : va_G) (cI : ClassId) (qp : Nat) (qr : Nat) (qh : Nat) (qm : Nat) (qw : Nat) (qu : Nat) (qf : Nat) (ql : Nat) (qo : Nat) (ms : Int32) (mn : Nat) (g : Nat → Int32) (rg : Nat → Int32) (hq : Nat → Int32) (mf : Nat → Int32) (cd : Int32) (fg : Nat → Int32) (L : Int32 × Int32 × Int32 × Int64) (O : Int32 × Int32 × Int32 × Int64) (a0 : Int32) (P : Int32 → ((Nat → Int32) × (Nat → Int32) × (Nat → Int32) × (Nat → Int32) × Int32 × (Nat → Int32) × (Int32 × Int32 × Int32 × Int64) × (Int32 × Int32 × Int32 × Int64)) → Prop) (h : wp_Pr_multiplyOrDivide ms mn g rg hq mf cd fg L O a0 P) (sz : Nat) : Met l y_Pr_multiplyOrDivide (zz_ws y_Pr_multiplyOrDivide b_Pr_multiplyOrDivide 4 (some .int)) rm_Pr_multiplyOrDivide (va_Pc [.ref qp, .int a0] (zz_pw D [(cI, .int)] (wP qp qr qh qm qw qu qf ql qo cI ms mn g rg hq mf cd fg L O) sz)) (va_Qi P (zz_qw D (fun u => wP qp qr qh qm qw qu qf ql qo cI ms mn u.1 u.2.1 u.2.2.1 u.2.2.2.1 u.2.2.2.2.1 u.2.2.2.2.2.1 u.2.2.2.2.2.2.1 u.2.2.2.2.2.2.2) (va_A (wP qp qr qh qm qw qu qf ql qo cI ms mn g rg hq mf cd fg L O) sz)) (va_A (wP qp qr qh qm qw qu qf ql qo cI ms mn g rg hq mf cd fg L O) sz)) 0 0 (va_A (wP qp qr qh qm qw qu qf ql qo cI ms mn g rg hq mf cd fg L O) sz) := by
  refine Met.ofW (cc := b_Pr_multiplyOrDivide) (maxL := 4) (ret := (some .int)) (by decide) rfl ?_
  intro p e s m args below meth c s₁ B hml hv
  obtain ⟨rfl, hsz, hP, hK, hD0⟩ := hv
  have hx := B.exec
  have hb := B.bytes
  have hr := B.returns
  have hts := atoms_spec (ws := (zz_ws y_Pr_multiplyOrDivide b_Pr_multiplyOrDivide 4 (some .int))) B.pre
  have hown : s.vm.findClass R_Pr = some m.cls := findClass_of_methodNamed B.named
  have hlocks := B.notSynchronized
  have hT := zz_hts hts
  have X : CallFix p m c b_Pr_multiplyOrDivide 4 s ([.ref qp, .int a0] : List Value).toArray (zz_ws y_Pr_multiplyOrDivide b_Pr_multiplyOrDivide 4 (some .int)) R_Pr := ⟨hx, hb, hml, hown, hts⟩
  have hf0 : 0 + 0 ≤ (headSpec (zz_ws y_Pr_multiplyOrDivide b_Pr_multiplyOrDivide 4 (some .int)) rm_Pr_multiplyOrDivide).room.cells ∧ 0 + 0 ≤ (headSpec (zz_ws y_Pr_multiplyOrDivide b_Pr_multiplyOrDivide 4 (some .int)) rm_Pr_multiplyOrDivide).room.slots := ⟨Nat.le_of_ble_eq_true rfl, Nat.le_of_ble_eq_true rfl⟩
  subst hsz
  have hD := hD0.self (sz := s.heap.size)
  generalize hAe : va_A (wP qp qr qh qm qw qu qf ql qo cI ms mn g rg hq mf cd fg L O) s.heap.size = A at hD ⊢
  have hA : ∀ q : Nat, s.heap.size ≤ q → A q := fun q h => by rw [← hAe]; exact Or.inr h
  have hS : va_S A s.heap s.heap [] := va_S.rf
  have hl := lv_entry ([.ref qp, .int a0]) (n := 4) (Nat.le_of_ble_eq_true rfl)
  rw [lg_entry_eq]
  generalize (lg_sl ([.ref qp, .int a0]) ++ List.replicate (4 - (lg_sl ([.ref qp, .int a0])).length) Slot.unset).toArray = ls at hl ⊢
  have hl : lv_has ls 4 [(0, .ref qp), (1, .int a0)] := hl
  refine lv_aload_n hx hb d_Pr_multiplyOrDivide_0 rfl (lv_at hl 0 rfl) ?_
  refine g_Pr_9 (v := .ref qr) hx hb hT hown hK hP 0 rfl rfl d_Pr_multiplyOrDivide_1 ?_
  refine lv_iload_n hx hb d_Pr_multiplyOrDivide_4 rfl (lv_at hl 1 rfl) ?_
  refine zz_Si (As := [.int a0]) (rest := [.ref qr]) X (c_Pr_rs l a0 _ h) ⟨rfl, rfl⟩ m_Pr_rs k_Pr_83 ⟨Nat.le_of_ble_eq_true rfl, Nat.le_of_ble_eq_true rfl⟩ rfl hl.1 rfl (Nat.le_of_ble_eq_true rfl) d_Pr_multiplyOrDivide_5 hf0 (fun r_1 h => ?_)
  refine va_iald (f := rg) hx hb hK hP 1 0 rfl rfl h.1 d_Pr_multiplyOrDivide_8 ?_
  have h := h.2
  refine lv_topi (fun x_2 ex_2 => ?_)
  have h := h x_2 ex_2
  refine lv_istore_n (lv' := [(2, .int x_2), (0, .ref qp), (1, .int a0)]) hx hb d_Pr_multiplyOrDivide_9 rfl hl (by decide) rfl (fun ls hl => ?_)
  refine lv_aload_n hx hb d_Pr_multiplyOrDivide_10 rfl (lv_at hl 1 rfl) ?_
  refine g_Pr_9 (v := .ref qr) hx hb hT hown hK hP 0 rfl rfl d_Pr_multiplyOrDivide_11 ?_
  refine lv_iload_n hx hb d_Pr_multiplyOrDivide_14 rfl (lv_at hl 2 rfl) ?_
  refine zz_Si (As := [.int a0]) (rest := [.ref qr]) X (c_Pr_rt l a0 _ h) ⟨rfl, rfl⟩ m_Pr_rt k_Pr_89 ⟨Nat.le_of_ble_eq_true rfl, Nat.le_of_ble_eq_true rfl⟩ rfl hl.1 rfl (Nat.le_of_ble_eq_true rfl) d_Pr_multiplyOrDivide_15 hf0 (fun r_3 h => ?_)
  refine va_iald (f := rg) hx hb hK hP 1 0 rfl rfl h.1 d_Pr_multiplyOrDivide_18 ?_
  have h := h.2
  refine lv_topi (fun x_4 ex_4 => ?_)
  have h := h x_4 ex_4
  refine lv_istore_n (lv' := [(3, .int x_4), (2, .int x_2), (0, .ref qp), (1, .int a0)]) hx hb d_Pr_multiplyOrDivide_19 rfl hl (by decide) rfl (fun ls hl => ?_)
  refine lv_iload_n hx hb d_Pr_multiplyOrDivide_20 rfl (lv_at hl 3 rfl) ?_
  refine zz_Si (As := [.int a0]) (rest := []) X (c_Pr_function l a0 _ h) ⟨rfl, rfl⟩ m_Pr_function k_Pr_136 ⟨Nat.le_of_ble_eq_true rfl, Nat.le_of_ble_eq_true rfl⟩ rfl hl.1 rfl (Nat.le_of_ble_eq_true rfl) d_Pr_multiplyOrDivide_21 hf0 (fun r_5 h => ?_)
  by_cases c_6 : r_5 = (24 : Int32)
  · have h := h.1 c_6
    have h0 := c_6
    refine lv_tableIn (off := 32) (tgt := 56) hx hb d_Pr_multiplyOrDivide_24 (by rw [h0]; decide) (by rw [h0]; decide) (by rw [h0]; rfl) (by decide) ?_
    refine lv_aload_n hx hb d_Pr_multiplyOrDivide_56 rfl (lv_at hl 2 rfl) ?_
    refine g_Pr_18 (v := .ref qh) hx hb hT hown hK hP 0 rfl rfl d_Pr_multiplyOrDivide_57 ?_
    refine lv_iload_n hx hb d_Pr_multiplyOrDivide_60 rfl (lv_at hl 1 rfl) ?_
    refine lv_i2l (v := x_2.toInt64) hx hb d_Pr_multiplyOrDivide_61 rfl ?_
    refine lv_iload_n hx hb d_Pr_multiplyOrDivide_62 rfl (lv_at hl 0 rfl) ?_
    refine lv_i2l (v := x_4.toInt64) hx hb d_Pr_multiplyOrDivide_63 rfl ?_
    refine lv_lmul hx hb d_Pr_multiplyOrDivide_64 ?_
    refine zz_Wv (As := [.long (x_2.toInt64 * x_4.toInt64)]) (rest := []) (wc := wH qh hq) (wr := [(qp, .inr (4, [.ref qm, .ref qr, .ref qh, .ref qu, .int (g 0), .int (g 1), .int (g 2), .int (g 3), .int (g 4), .int (g 5), .int (g 6), .int (g 7), .int (g 8), .int (g 9), .int (g 10), .int (g 11)])), (qr, .inl (cI, 32, .inl rg)), (qm, .inr (3, [.int ms, .ref qw])), (qw, .inl (cI, mn, .inl mf)), (qu, .inr (1, [.ref qf, .int cd, .ref ql, .ref qo])), (qf, .inl (cI, 32, .inl fg)), (ql, .inr (0, [.int L.1, .int L.2.1, .int L.2.2.1, .long L.2.2.2])), (qo, .inr (0, [.int O.1, .int O.2.1, .int O.2.2.1, .long O.2.2.2]))]) X hK hP hD hS hA (c_Hl_keep l D cI qh hq (x_2.toInt64 * x_4.toInt64) _ h _) ⟨rfl, rfl⟩ m_Hl_keep k_Pr_204 ⟨Nat.le_of_ble_eq_true rfl, Nat.le_of_ble_eq_true rfl⟩ [2] [0, 1, 3, 4, 5, 6, 7, 8] rfl rfl (by decide) (by decide) (by decide) 2 2 rfl rfl rfl rfl hl.1 rfl (Nat.le_of_ble_eq_true rfl) d_Pr_multiplyOrDivide_65 hf0 (fun u_7 H locs h hP hD hS => ?_)
    have hP : va_P D vwCl (wP qp qr qh qm qw qu qf ql qo cI ms mn g rg u_7 mf cd fg L O) H := hP.sub [0, 1, 8, 2, 3, 4, 5, 6, 7] rfl
    have hD : va_D A (wP qp qr qh qm qw qu qf ql qo cI ms mn g rg u_7 mf cd fg L O) := hD.sub [0, 1, 8, 2, 3, 4, 5, 6, 7] (by decide) rfl
    refine lv_iconst (v := 0) hx hb d_Pr_multiplyOrDivide_68 (by decide) ?_
    exact W.iret (v := (0 : Int32)) hx hb hr (fun t ht hW => ⟨⟨(0 : Int32), (g, rg, u_7, mf, cd, fg, L, O), rfl, h, by rw [ht]; exact hP, hD⟩, hS.F ht⟩) hS.2.2 d_Pr_multiplyOrDivide_69
  · have h := h.2 c_6
    by_cases c_9 : r_5 = (25 : Int32)
    · have h := h.1 c_9
      have h0 := c_9
      refine lv_tableIn (off := 46) (tgt := 70) hx hb d_Pr_multiplyOrDivide_24 (by rw [h0]; decide) (by rw [h0]; decide) (by rw [h0]; rfl) (by decide) ?_
      refine lv_aload_n hx hb d_Pr_multiplyOrDivide_70 rfl (lv_at hl 2 rfl) ?_
      refine g_Pr_18 (v := .ref qh) hx hb hT hown hK hP 0 rfl rfl d_Pr_multiplyOrDivide_71 ?_
      refine lv_iload_n hx hb d_Pr_multiplyOrDivide_74 rfl (lv_at hl 1 rfl) ?_
      refine zz_Sl (As := [.int x_2]) (rest := [.ref qh]) X (c_Pr_unsigned l x_2 _ h) ⟨rfl, rfl⟩ m_Pr_unsigned k_Pr_208 ⟨Nat.le_of_ble_eq_true rfl, Nat.le_of_ble_eq_true rfl⟩ rfl hl.1 rfl (Nat.le_of_ble_eq_true rfl) d_Pr_multiplyOrDivide_75 hf0 (fun r_10 h => ?_)
      refine lv_iload_n hx hb d_Pr_multiplyOrDivide_78 rfl (lv_at hl 0 rfl) ?_
      refine zz_Sl (As := [.int x_4]) (rest := [.long r_10, .ref qh]) X (c_Pr_unsigned l x_4 _ h) ⟨rfl, rfl⟩ m_Pr_unsigned k_Pr_208 ⟨Nat.le_of_ble_eq_true rfl, Nat.le_of_ble_eq_true rfl⟩ rfl hl.1 rfl (Nat.le_of_ble_eq_true rfl) d_Pr_multiplyOrDivide_79 hf0 (fun r_11 h => ?_)
      refine lv_lmul hx hb d_Pr_multiplyOrDivide_82 ?_
      refine zz_Wv (As := [.long (r_10 * r_11)]) (rest := []) (wc := wH qh hq) (wr := [(qp, .inr (4, [.ref qm, .ref qr, .ref qh, .ref qu, .int (g 0), .int (g 1), .int (g 2), .int (g 3), .int (g 4), .int (g 5), .int (g 6), .int (g 7), .int (g 8), .int (g 9), .int (g 10), .int (g 11)])), (qr, .inl (cI, 32, .inl rg)), (qm, .inr (3, [.int ms, .ref qw])), (qw, .inl (cI, mn, .inl mf)), (qu, .inr (1, [.ref qf, .int cd, .ref ql, .ref qo])), (qf, .inl (cI, 32, .inl fg)), (ql, .inr (0, [.int L.1, .int L.2.1, .int L.2.2.1, .long L.2.2.2])), (qo, .inr (0, [.int O.1, .int O.2.1, .int O.2.2.1, .long O.2.2.2]))]) X hK hP hD hS hA (c_Hl_keep l D cI qh hq (r_10 * r_11) _ h _) ⟨rfl, rfl⟩ m_Hl_keep k_Pr_204 ⟨Nat.le_of_ble_eq_true rfl, Nat.le_of_ble_eq_true rfl⟩ [2] [0, 1, 3, 4, 5, 6, 7, 8] rfl rfl (by decide) (by decide) (by decide) 2 2 rfl rfl rfl rfl hl.1 rfl (Nat.le_of_ble_eq_true rfl) d_Pr_multiplyOrDivide_83 hf0 (fun u_12 H locs h hP hD hS => ?_)
      have hP : va_P D vwCl (wP qp qr qh qm qw qu qf ql qo cI ms mn g rg u_12 mf cd fg L O) H := hP.sub [0, 1, 8, 2, 3, 4, 5, 6, 7] rfl
      have hD : va_D A (wP qp qr qh qm qw qu qf ql qo cI ms mn g rg u_12 mf cd fg L O) := hD.sub [0, 1, 8, 2, 3, 4, 5, 6, 7] (by decide) rfl
      refine lv_iconst (v := 0) hx hb d_Pr_multiplyOrDivide_86 (by decide) ?_
      exact W.iret (v := (0 : Int32)) hx hb hr (fun t ht hW => ⟨⟨(0 : Int32), (g, rg, u_12, mf, cd, fg, L, O), rfl, h, by rw [ht]; exact hP, hD⟩, hS.F ht⟩) hS.2.2 d_Pr_multiplyOrDivide_87
    · have h := h.2 c_9
      by_cases c_14 : r_5 = (26 : Int32)
      · have h := h.1 c_14
        have h0 := c_14
        refine lv_tableIn (off := 64) (tgt := 88) hx hb d_Pr_multiplyOrDivide_24 (by rw [h0]; decide) (by rw [h0]; decide) (by rw [h0]; rfl) (by decide) ?_
        refine lv_aload_n hx hb d_Pr_multiplyOrDivide_88 rfl (lv_at hl 2 rfl) ?_
        refine g_Pr_18 (v := .ref qh) hx hb hT hown hK hP 0 rfl rfl d_Pr_multiplyOrDivide_89 ?_
        refine lv_iload_n hx hb d_Pr_multiplyOrDivide_92 rfl (lv_at hl 1 rfl) ?_
        refine lv_i2l (v := x_2.toInt64) hx hb d_Pr_multiplyOrDivide_93 rfl ?_
        refine lv_iload_n hx hb d_Pr_multiplyOrDivide_94 rfl (lv_at hl 0 rfl) ?_
        refine lv_i2l (v := x_4.toInt64) hx hb d_Pr_multiplyOrDivide_95 rfl ?_
        refine zz_Wv (As := [.long x_2.toInt64, .long x_4.toInt64]) (rest := []) (wc := wH qh hq) (wr := [(qp, .inr (4, [.ref qm, .ref qr, .ref qh, .ref qu, .int (g 0), .int (g 1), .int (g 2), .int (g 3), .int (g 4), .int (g 5), .int (g 6), .int (g 7), .int (g 8), .int (g 9), .int (g 10), .int (g 11)])), (qr, .inl (cI, 32, .inl rg)), (qm, .inr (3, [.int ms, .ref qw])), (qw, .inl (cI, mn, .inl mf)), (qu, .inr (1, [.ref qf, .int cd, .ref ql, .ref qo])), (qf, .inl (cI, 32, .inl fg)), (ql, .inr (0, [.int L.1, .int L.2.1, .int L.2.2.1, .long L.2.2.2])), (qo, .inr (0, [.int O.1, .int O.2.1, .int O.2.2.1, .long O.2.2.2]))]) X hK hP hD hS hA (c_Hl_divide l D cI qh hq x_2.toInt64 x_4.toInt64 _ h _) ⟨rfl, rfl⟩ m_Hl_divide k_Pr_212 ⟨Nat.le_of_ble_eq_true rfl, Nat.le_of_ble_eq_true rfl⟩ [2] [0, 1, 3, 4, 5, 6, 7, 8] rfl rfl (by decide) (by decide) (by decide) 2 2 rfl rfl rfl rfl hl.1 rfl (Nat.le_of_ble_eq_true rfl) d_Pr_multiplyOrDivide_96 hf0 (fun u_15 H locs h hP hD hS => ?_)
        have hP : va_P D vwCl (wP qp qr qh qm qw qu qf ql qo cI ms mn g rg u_15 mf cd fg L O) H := hP.sub [0, 1, 8, 2, 3, 4, 5, 6, 7] rfl
        have hD : va_D A (wP qp qr qh qm qw qu qf ql qo cI ms mn g rg u_15 mf cd fg L O) := hD.sub [0, 1, 8, 2, 3, 4, 5, 6, 7] (by decide) rfl
        refine lv_iconst (v := 0) hx hb d_Pr_multiplyOrDivide_99 (by decide) ?_
        exact W.iret (v := (0 : Int32)) hx hb hr (fun t ht hW => ⟨⟨(0 : Int32), (g, rg, u_15, mf, cd, fg, L, O), rfl, h, by rw [ht]; exact hP, hD⟩, hS.F ht⟩) hS.2.2 d_Pr_multiplyOrDivide_100
      · have h := h.2 c_14
        by_cases c_17 : r_5 = (27 : Int32)
        · have h := h.1 c_17
          have h0 := c_17
          refine lv_tableIn (off := 77) (tgt := 101) hx hb d_Pr_multiplyOrDivide_24 (by rw [h0]; decide) (by rw [h0]; decide) (by rw [h0]; rfl) (by decide) ?_
          refine lv_aload_n hx hb d_Pr_multiplyOrDivide_101 rfl (lv_at hl 2 rfl) ?_
          refine g_Pr_18 (v := .ref qh) hx hb hT hown hK hP 0 rfl rfl d_Pr_multiplyOrDivide_102 ?_
          refine lv_iload_n hx hb d_Pr_multiplyOrDivide_105 rfl (lv_at hl 1 rfl) ?_
          refine zz_Sl (As := [.int x_2]) (rest := [.ref qh]) X (c_Pr_unsigned l x_2 _ h) ⟨rfl, rfl⟩ m_Pr_unsigned k_Pr_208 ⟨Nat.le_of_ble_eq_true rfl, Nat.le_of_ble_eq_true rfl⟩ rfl hl.1 rfl (Nat.le_of_ble_eq_true rfl) d_Pr_multiplyOrDivide_106 hf0 (fun r_18 h => ?_)
          refine lv_iload_n hx hb d_Pr_multiplyOrDivide_109 rfl (lv_at hl 0 rfl) ?_
          refine zz_Sl (As := [.int x_4]) (rest := [.long r_18, .ref qh]) X (c_Pr_unsigned l x_4 _ h) ⟨rfl, rfl⟩ m_Pr_unsigned k_Pr_208 ⟨Nat.le_of_ble_eq_true rfl, Nat.le_of_ble_eq_true rfl⟩ rfl hl.1 rfl (Nat.le_of_ble_eq_true rfl) d_Pr_multiplyOrDivide_110 hf0 (fun r_19 h => ?_)
          refine zz_Wv (As := [.long r_18, .long r_19]) (rest := []) (wc := wH qh hq) (wr := [(qp, .inr (4, [.ref qm, .ref qr, .ref qh, .ref qu, .int (g 0), .int (g 1), .int (g 2), .int (g 3), .int (g 4), .int (g 5), .int (g 6), .int (g 7), .int (g 8), .int (g 9), .int (g 10), .int (g 11)])), (qr, .inl (cI, 32, .inl rg)), (qm, .inr (3, [.int ms, .ref qw])), (qw, .inl (cI, mn, .inl mf)), (qu, .inr (1, [.ref qf, .int cd, .ref ql, .ref qo])), (qf, .inl (cI, 32, .inl fg)), (ql, .inr (0, [.int L.1, .int L.2.1, .int L.2.2.1, .long L.2.2.2])), (qo, .inr (0, [.int O.1, .int O.2.1, .int O.2.2.1, .long O.2.2.2]))]) X hK hP hD hS hA (c_Hl_divide l D cI qh hq r_18 r_19 _ h _) ⟨rfl, rfl⟩ m_Hl_divide k_Pr_212 ⟨Nat.le_of_ble_eq_true rfl, Nat.le_of_ble_eq_true rfl⟩ [2] [0, 1, 3, 4, 5, 6, 7, 8] rfl rfl (by decide) (by decide) (by decide) 2 2 rfl rfl rfl rfl hl.1 rfl (Nat.le_of_ble_eq_true rfl) d_Pr_multiplyOrDivide_113 hf0 (fun u_20 H locs h hP hD hS => ?_)
          have hP : va_P D vwCl (wP qp qr qh qm qw qu qf ql qo cI ms mn g rg u_20 mf cd fg L O) H := hP.sub [0, 1, 8, 2, 3, 4, 5, 6, 7] rfl
          have hD : va_D A (wP qp qr qh qm qw qu qf ql qo cI ms mn g rg u_20 mf cd fg L O) := hD.sub [0, 1, 8, 2, 3, 4, 5, 6, 7] (by decide) rfl
          refine lv_iconst (v := 0) hx hb d_Pr_multiplyOrDivide_116 (by decide) ?_
          exact W.iret (v := (0 : Int32)) hx hb hr (fun t ht hW => ⟨⟨(0 : Int32), (g, rg, u_20, mf, cd, fg, L, O), rfl, h, by rw [ht]; exact hP, hD⟩, hS.F ht⟩) hS.2.2 d_Pr_multiplyOrDivide_117
        · have h := h.2 c_17
          refine zz_swD (tgt := 118) hx hb [24, 25, 26, 27] d_Pr_multiplyOrDivide_24 (by decide +kernel) (by decide) (List.forall_mem_cons.mpr ⟨lv_neT (k := 24) c_6 (by decide), List.forall_mem_cons.mpr ⟨lv_neT (k := 25) c_9 (by decide), List.forall_mem_cons.mpr ⟨lv_neT (k := 26) c_14 (by decide), List.forall_mem_cons.mpr ⟨lv_neT (k := 27) c_17 (by decide), fun _ h9 => nomatch h9⟩⟩⟩⟩) (by decide) ?_
          refine lv_iconst (v := 3) hx hb d_Pr_multiplyOrDivide_118 (by decide) ?_
          exact W.iret (v := (3 : Int32)) hx hb hr (fun t ht hW => ⟨⟨(3 : Int32), (g, rg, hq, mf, cd, fg, L, O), rfl, h, by rw [ht]; exact hP, hD⟩, hS.F ht⟩) hS.2.2 d_Pr_multiplyOrDivide_119
def wp_Pr_exactResult (ms : Int32) (mn : Nat) (g : Nat → Int32) (rg : Nat → Int32) (hq : Nat → Int32) (mf : Nat → Int32) (cd : Int32) (fg : Nat → Int32) (L : Int32 × Int32 × Int32 × Int64) (O : Int32 × Int32 × Int32 × Int64) (a0 : Int32) (a1 : Int64) (P : Int32 → ((Nat → Int32) × (Nat → Int32) × (Nat → Int32) × (Nat → Int32) × Int32 × (Nat → Int32) × (Int32 × Int32 × Int32 × Int64) × (Int32 × Int32 × Int32 × Int64)) → Prop) : Prop := ((a1 = a1.toInt32.toInt64 → wp_Pr_result ms mn g rg hq mf cd fg L O a0 a1.toInt32 (fun r_3 u_2 => P r_3 (u_2.1, u_2.2.1, u_2.2.2.1, u_2.2.2.2.1, u_2.2.2.2.2.1, u_2.2.2.2.2.2.1, u_2.2.2.2.2.2.2.1, u_2.2.2.2.2.2.2.2))) ∧ (¬ a1 = a1.toInt32.toInt64 → P (4 : Int32) (g, rg, hq, mf, cd, fg, L, O)))
abbrev rm_Pr_exactResult : Room := { frames := 2, cells := 0, slots := 0, locals := 44 }
set_option maxHeartbeats 4000000 in
set_option maxRecDepth 100000 in
theorem c_Pr_exactResult (l : Launch) (D : va_G) (cI : ClassId) (qp : Nat) (qr : Nat) (qh : Nat) (qm : Nat) (qw : Nat) (qu : Nat) (qf : Nat) (ql : Nat) (qo : Nat) (ms : Int32) (mn : Nat) (g : Nat → Int32) (rg : Nat → Int32) (hq : Nat → Int32) (mf : Nat → Int32) (cd : Int32) (fg : Nat → Int32) (L : Int32 × Int32 × Int32 × Int64) (O : Int32 × Int32 × Int32 × Int64) (a0 : Int32) (a1 : Int64) (P : Int32 → ((Nat → Int32) × (Nat → Int32) × (Nat → Int32) × (Nat → Int32) × Int32 × (Nat → Int32) × (Int32 × Int32 × Int32 × Int64) × (Int32 × Int32 × Int32 × Int64)) → Prop) (h : wp_Pr_exactResult ms mn g rg hq mf cd fg L O a0 a1 P) (sz : Nat) : Met l y_Pr_exactResult (zz_ws y_Pr_exactResult b_Pr_exactResult 4 (some .int)) rm_Pr_exactResult (va_Pc [.ref qp, .int a0, .long a1] (zz_pw D [(cI, .int)] (wP qp qr qh qm qw qu qf ql qo cI ms mn g rg hq mf cd fg L O) sz)) (va_Qi P (zz_qw D (fun u => wP qp qr qh qm qw qu qf ql qo cI ms mn u.1 u.2.1 u.2.2.1 u.2.2.2.1 u.2.2.2.2.1 u.2.2.2.2.2.1 u.2.2.2.2.2.2.1 u.2.2.2.2.2.2.2) (va_A (wP qp qr qh qm qw qu qf ql qo cI ms mn g rg hq mf cd fg L O) sz)) (va_A (wP qp qr qh qm qw qu qf ql qo cI ms mn g rg hq mf cd fg L O) sz)) 0 0 (va_A (wP qp qr qh qm qw qu qf ql qo cI ms mn g rg hq mf cd fg L O) sz) := by
  refine Met.ofW (cc := b_Pr_exactResult) (maxL := 4) (ret := (some .int)) (by decide) rfl ?_
  intro p e s m args below meth c s₁ B hml hv
  obtain ⟨rfl, hsz, hP, hK, hD0⟩ := hv
  have hx := B.exec
  have hb := B.bytes
  have hr := B.returns
  have hts := atoms_spec (ws := (zz_ws y_Pr_exactResult b_Pr_exactResult 4 (some .int))) B.pre
  have hown : s.vm.findClass R_Pr = some m.cls := findClass_of_methodNamed B.named
  have hlocks := B.notSynchronized
  have hT := zz_hts hts
  have X : CallFix p m c b_Pr_exactResult 4 s ([.ref qp, .int a0, .long a1] : List Value).toArray (zz_ws y_Pr_exactResult b_Pr_exactResult 4 (some .int)) R_Pr := ⟨hx, hb, hml, hown, hts⟩
  have hf0 : 0 + 0 ≤ (headSpec (zz_ws y_Pr_exactResult b_Pr_exactResult 4 (some .int)) rm_Pr_exactResult).room.cells ∧ 0 + 0 ≤ (headSpec (zz_ws y_Pr_exactResult b_Pr_exactResult 4 (some .int)) rm_Pr_exactResult).room.slots := ⟨Nat.le_of_ble_eq_true rfl, Nat.le_of_ble_eq_true rfl⟩
  subst hsz
  have hD := hD0.self (sz := s.heap.size)
  generalize hAe : va_A (wP qp qr qh qm qw qu qf ql qo cI ms mn g rg hq mf cd fg L O) s.heap.size = A at hD ⊢
  have hA : ∀ q : Nat, s.heap.size ≤ q → A q := fun q h => by rw [← hAe]; exact Or.inr h
  have hS : va_S A s.heap s.heap [] := va_S.rf
  have hl := lv_entry ([.ref qp, .int a0, .long a1]) (n := 4) (Nat.le_of_ble_eq_true rfl)
  rw [lg_entry_eq]
  generalize (lg_sl ([.ref qp, .int a0, .long a1]) ++ List.replicate (4 - (lg_sl ([.ref qp, .int a0, .long a1])).length) Slot.unset).toArray = ls at hl ⊢
  have hl : lv_has ls 4 [(0, .ref qp), (1, .int a0), (2, .long a1)] := hl
  refine lv_lload_n hx hb d_Pr_exactResult_0 rfl (lv_at hl 2 rfl) ?_
  refine lv_lload_n hx hb d_Pr_exactResult_1 rfl (lv_at hl 2 rfl) ?_
  refine lv_l2i (v := a1.toInt32) hx hb d_Pr_exactResult_2 rfl ?_
  refine lv_i2l (v := a1.toInt32.toInt64) hx hb d_Pr_exactResult_3 rfl ?_
  refine W.lcmp hx hb d_Pr_exactResult_4 ?_
  refine lv_if_eq (tgt := 10) hx hb d_Pr_exactResult_5 (by decide) (fun c_1 => ?_) (fun c_1 => ?_)
  · have kc_1 := ((lg_cmp_eq _ _).mp c_1)
    have h := h.1 kc_1
    refine lv_aload_n hx hb d_Pr_exactResult_10 rfl (lv_at hl 0 rfl) ?_
    refine lv_iload_n hx hb d_Pr_exactResult_11 rfl (lv_at hl 1 rfl) ?_
    refine lv_lload_n hx hb d_Pr_exactResult_12 rfl (lv_at hl 2 rfl) ?_
    refine lv_l2i (v := a1.toInt32) hx hb d_Pr_exactResult_13 rfl ?_
    refine zz_Wi (As := [.int a0, .int a1.toInt32]) (rest := []) (wc := wP qp qr qh qm qw qu qf ql qo cI ms mn g rg hq mf cd fg L O) (wr := []) X hK hP hD hS hA (c_Pr_result l D cI qp qr qh qm qw qu qf ql qo ms mn g rg hq mf cd fg L O a0 a1.toInt32 _ h _) ⟨rfl, rfl⟩ m_Pr_result k_Pr_161 ⟨Nat.le_of_ble_eq_true rfl, Nat.le_of_ble_eq_true rfl⟩ [0, 1, 2, 3, 4, 5, 6, 7, 8] [] rfl rfl (by decide) (by decide) (by decide) 4 0 rfl rfl rfl rfl hl.1 rfl (Nat.le_of_ble_eq_true rfl) d_Pr_exactResult_14 hf0 (fun r_3 u_2 H locs h hP hD hS => ?_)
    have hP : va_P D vwCl (wP qp qr qh qm qw qu qf ql qo cI ms mn u_2.1 u_2.2.1 u_2.2.2.1 u_2.2.2.2.1 u_2.2.2.2.2.1 u_2.2.2.2.2.2.1 u_2.2.2.2.2.2.2.1 u_2.2.2.2.2.2.2.2) H := hP.sub [0, 1, 2, 3, 4, 5, 6, 7, 8] rfl
    have hD : va_D A (wP qp qr qh qm qw qu qf ql qo cI ms mn u_2.1 u_2.2.1 u_2.2.2.1 u_2.2.2.2.1 u_2.2.2.2.2.1 u_2.2.2.2.2.2.1 u_2.2.2.2.2.2.2.1 u_2.2.2.2.2.2.2.2) := hD.sub [0, 1, 2, 3, 4, 5, 6, 7, 8] (by decide) rfl
    exact W.iret (v := r_3) hx hb hr (fun t ht hW => ⟨⟨r_3, (u_2.1, u_2.2.1, u_2.2.2.1, u_2.2.2.2.1, u_2.2.2.2.2.1, u_2.2.2.2.2.2.1, u_2.2.2.2.2.2.2.1, u_2.2.2.2.2.2.2.2), rfl, h, by rw [ht]; exact hP, hD⟩, hS.F ht⟩) hS.2.2 d_Pr_exactResult_17
  · have kc_1 := (fun q => c_1 ((lg_cmp_eq _ _).mpr q))
    have h := h.2 kc_1
    refine lv_iconst (v := 4) hx hb d_Pr_exactResult_8 (by decide) ?_
    exact W.iret (v := (4 : Int32)) hx hb hr (fun t ht hW => ⟨⟨(4 : Int32), (g, rg, hq, mf, cd, fg, L, O), rfl, h, by rw [ht]; exact hP, hD⟩, hS.F ht⟩) hS.2.2 d_Pr_exactResult_9
def wp_Pr_arithmetic (ms : Int32) (mn : Nat) (g : Nat → Int32) (rg : Nat → Int32) (hq : Nat → Int32) (mf : Nat → Int32) (cd : Int32) (fg : Nat → Int32) (L : Int32 × Int32 × Int32 × Int64) (O : Int32 × Int32 × Int32 × Int64) (a0 : Int32) (P : Int32 → ((Nat → Int32) × (Nat → Int32) × (Nat → Int32) × (Nat → Int32) × Int32 × (Nat → Int32) × (Int32 × Int32 × Int32 × Int64) × (Int32 × Int32 × Int32 × Int64)) → Prop) : Prop := wp_Pr_rs a0 (fun r_1 => vp_in r_1 32 ∧ ∀ x_2 : Int32, x_2 = (rg r_1.toNatClampNeg) → wp_Pr_rt a0 (fun r_3 => vp_in r_3 32 ∧ ∀ x_4 : Int32, x_4 = (rg r_3.toNatClampNeg) → wp_Pr_function a0 (fun r_5 => (((r_5 = (32 : Int32)) → wp_Pr_rd a0 (fun r_7 => wp_Pr_exactResult ms mn g rg hq mf cd fg L O r_7 (x_2.toInt64 + x_4.toInt64) (fun r_9 u_8 => P r_9 (u_8.1, u_8.2.1, u_8.2.2.1, u_8.2.2.2.1, u_8.2.2.2.2.1, u_8.2.2.2.2.2.1, u_8.2.2.2.2.2.2.1, u_8.2.2.2.2.2.2.2)))) ∧ (¬ (r_5 = (32 : Int32)) → (((r_5 = (33 : Int32)) → wp_Pr_rd a0 (fun r_11 => wp_Pr_result ms mn g rg hq mf cd fg L O r_11 (x_2 + x_4) (fun r_13 u_12 => P r_13 (u_12.1, u_12.2.1, u_12.2.2.1, u_12.2.2.2.1, u_12.2.2.2.2.1, u_12.2.2.2.2.2.1, u_12.2.2.2.2.2.2.1, u_12.2.2.2.2.2.2.2)))) ∧ (¬ (r_5 = (33 : Int32)) → (((r_5 = (34 : Int32)) → wp_Pr_rd a0 (fun r_15 => wp_Pr_exactResult ms mn g rg hq mf cd fg L O r_15 (x_2.toInt64 - x_4.toInt64) (fun r_17 u_16 => P r_17 (u_16.1, u_16.2.1, u_16.2.2.1, u_16.2.2.2.1, u_16.2.2.2.2.1, u_16.2.2.2.2.2.1, u_16.2.2.2.2.2.2.1, u_16.2.2.2.2.2.2.2)))) ∧ (¬ (r_5 = (34 : Int32)) → (((r_5 = (35 : Int32)) → wp_Pr_rd a0 (fun r_19 => wp_Pr_result ms mn g rg hq mf cd fg L O r_19 (x_2 - x_4) (fun r_21 u_20 => P r_21 (u_20.1, u_20.2.1, u_20.2.2.1, u_20.2.2.2.1, u_20.2.2.2.2.1, u_20.2.2.2.2.2.1, u_20.2.2.2.2.2.2.1, u_20.2.2.2.2.2.2.2)))) ∧ (¬ (r_5 = (35 : Int32)) → (((r_5 = (36 : Int32)) → wp_Pr_rd a0 (fun r_23 => wp_Pr_result ms mn g rg hq mf cd fg L O r_23 (x_2 &&& x_4) (fun r_25 u_24 => P r_25 (u_24.1, u_24.2.1, u_24.2.2.1, u_24.2.2.2.1, u_24.2.2.2.2.1, u_24.2.2.2.2.2.1, u_24.2.2.2.2.2.2.1, u_24.2.2.2.2.2.2.2)))) ∧ (¬ (r_5 = (36 : Int32)) → (((r_5 = (37 : Int32)) → wp_Pr_rd a0 (fun r_27 => wp_Pr_result ms mn g rg hq mf cd fg L O r_27 (x_2 ||| x_4) (fun r_29 u_28 => P r_29 (u_28.1, u_28.2.1, u_28.2.2.1, u_28.2.2.2.1, u_28.2.2.2.2.1, u_28.2.2.2.2.2.1, u_28.2.2.2.2.2.2.1, u_28.2.2.2.2.2.2.2)))) ∧ (¬ (r_5 = (37 : Int32)) → (((r_5 = (38 : Int32)) → wp_Pr_rd a0 (fun r_31 => wp_Pr_result ms mn g rg hq mf cd fg L O r_31 (x_2 ^^^ x_4) (fun r_33 u_32 => P r_33 (u_32.1, u_32.2.1, u_32.2.2.1, u_32.2.2.2.1, u_32.2.2.2.2.1, u_32.2.2.2.2.2.1, u_32.2.2.2.2.2.2.1, u_32.2.2.2.2.2.2.2)))) ∧ (¬ (r_5 = (38 : Int32)) → (((r_5 = (39 : Int32)) → wp_Pr_rd a0 (fun r_35 => ∀ x_36 : Int32, x_36 = ((x_2 ||| x_4) ^^^ (-1 : Int32)) → wp_Pr_result ms mn g rg hq mf cd fg L O r_35 x_36 (fun r_38 u_37 => P r_38 (u_37.1, u_37.2.1, u_37.2.2.1, u_37.2.2.2.1, u_37.2.2.2.2.1, u_37.2.2.2.2.2.1, u_37.2.2.2.2.2.2.1, u_37.2.2.2.2.2.2.2)))) ∧ (¬ (r_5 = (39 : Int32)) → (((r_5 = (42 : Int32)) → wp_Pr_rd a0 (fun r_40 => ((x_4 ≤ x_2 → wp_Pr_result ms mn g rg hq mf cd fg L O r_40 (0 : Int32) (fun r_43 u_42 => P r_43 (u_42.1, u_42.2.1, u_42.2.2.1, u_42.2.2.2.1, u_42.2.2.2.2.1, u_42.2.2.2.2.2.1, u_42.2.2.2.2.2.2.1, u_42.2.2.2.2.2.2.2))) ∧ (¬ x_4 ≤ x_2 → wp_Pr_result ms mn g rg hq mf cd fg L O r_40 (1 : Int32) (fun r_45 u_44 => P r_45 (u_44.1, u_44.2.1, u_44.2.2.1, u_44.2.2.2.1, u_44.2.2.2.2.1, u_44.2.2.2.2.2.1, u_44.2.2.2.2.2.2.1, u_44.2.2.2.2.2.2.2)))))) ∧ (¬ (r_5 = (42 : Int32)) → (((r_5 = (43 : Int32)) → wp_Pr_rd a0 (fun r_47 => wp_Pr_unsigned x_2 (fun r_48 => wp_Pr_unsigned x_4 (fun r_49 => ((r_49 ≤ r_48 → wp_Pr_result ms mn g rg hq mf cd fg L O r_47 (0 : Int32) (fun r_52 u_51 => P r_52 (u_51.1, u_51.2.1, u_51.2.2.1, u_51.2.2.2.1, u_51.2.2.2.2.1, u_51.2.2.2.2.2.1, u_51.2.2.2.2.2.2.1, u_51.2.2.2.2.2.2.2))) ∧ (¬ r_49 ≤ r_48 → wp_Pr_result ms mn g rg hq mf cd fg L O r_47 (1 : Int32) (fun r_54 u_53 => P r_54 (u_53.1, u_53.2.1, u_53.2.2.1, u_53.2.2.2.1, u_53.2.2.2.2.1, u_53.2.2.2.2.2.1, u_53.2.2.2.2.2.2.1, u_53.2.2.2.2.2.2.2)))))))) ∧ (¬ (r_5 = (43 : Int32)) → P (3 : Int32) (g, rg, hq, mf, cd, fg, L, O))))))))))))))))))))))))
abbrev rm_Pr_arithmetic : Room := { frames := 3, cells := 0, slots := 0, locals := 67 }
set_option maxHeartbeats 4000000 in
set_option maxRecDepth 100000 in
theorem c_Pr_arithmetic (l : Launch) (D : va_G) (cI : ClassId) (qp : Nat) (qr : Nat) (qh : Nat) (qm : Nat) (qw : Nat) (qu : Nat) (qf : Nat) (ql : Nat) (qo : Nat) (ms : Int32) (mn : Nat) (g : Nat → Int32) (rg : Nat → Int32) (hq : Nat → Int32) (mf : Nat → Int32) (cd : Int32) (fg : Nat → Int32) (L : Int32 × Int32 × Int32 × Int64) (O : Int32 × Int32 × Int32 × Int64) (a0 : Int32) (P : Int32 → ((Nat → Int32) × (Nat → Int32) × (Nat → Int32) × (Nat → Int32) × Int32 × (Nat → Int32) × (Int32 × Int32 × Int32 × Int64) × (Int32 × Int32 × Int32 × Int64)) → Prop) (h : wp_Pr_arithmetic ms mn g rg hq mf cd fg L O a0 P) (sz : Nat) : Met l y_Pr_arithmetic (zz_ws y_Pr_arithmetic b_Pr_arithmetic 4 (some .int)) rm_Pr_arithmetic (va_Pc [.ref qp, .int a0] (zz_pw D [(cI, .int)] (wP qp qr qh qm qw qu qf ql qo cI ms mn g rg hq mf cd fg L O) sz)) (va_Qi P (zz_qw D (fun u => wP qp qr qh qm qw qu qf ql qo cI ms mn u.1 u.2.1 u.2.2.1 u.2.2.2.1 u.2.2.2.2.1 u.2.2.2.2.2.1 u.2.2.2.2.2.2.1 u.2.2.2.2.2.2.2) (va_A (wP qp qr qh qm qw qu qf ql qo cI ms mn g rg hq mf cd fg L O) sz)) (va_A (wP qp qr qh qm qw qu qf ql qo cI ms mn g rg hq mf cd fg L O) sz)) 0 0 (va_A (wP qp qr qh qm qw qu qf ql qo cI ms mn g rg hq mf cd fg L O) sz) := by
  refine Met.ofW (cc := b_Pr_arithmetic) (maxL := 4) (ret := (some .int)) (by decide) rfl ?_
  intro p e s m args below meth c s₁ B hml hv
  obtain ⟨rfl, hsz, hP, hK, hD0⟩ := hv
  have hx := B.exec
  have hb := B.bytes
  have hr := B.returns
  have hts := atoms_spec (ws := (zz_ws y_Pr_arithmetic b_Pr_arithmetic 4 (some .int))) B.pre
  have hown : s.vm.findClass R_Pr = some m.cls := findClass_of_methodNamed B.named
  have hlocks := B.notSynchronized
  have hT := zz_hts hts
  have X : CallFix p m c b_Pr_arithmetic 4 s ([.ref qp, .int a0] : List Value).toArray (zz_ws y_Pr_arithmetic b_Pr_arithmetic 4 (some .int)) R_Pr := ⟨hx, hb, hml, hown, hts⟩
  have hf0 : 0 + 0 ≤ (headSpec (zz_ws y_Pr_arithmetic b_Pr_arithmetic 4 (some .int)) rm_Pr_arithmetic).room.cells ∧ 0 + 0 ≤ (headSpec (zz_ws y_Pr_arithmetic b_Pr_arithmetic 4 (some .int)) rm_Pr_arithmetic).room.slots := ⟨Nat.le_of_ble_eq_true rfl, Nat.le_of_ble_eq_true rfl⟩
  subst hsz
  have hD := hD0.self (sz := s.heap.size)
  generalize hAe : va_A (wP qp qr qh qm qw qu qf ql qo cI ms mn g rg hq mf cd fg L O) s.heap.size = A at hD ⊢
  have hA : ∀ q : Nat, s.heap.size ≤ q → A q := fun q h => by rw [← hAe]; exact Or.inr h
  have hS : va_S A s.heap s.heap [] := va_S.rf
  have hl := lv_entry ([.ref qp, .int a0]) (n := 4) (Nat.le_of_ble_eq_true rfl)
  rw [lg_entry_eq]
  generalize (lg_sl ([.ref qp, .int a0]) ++ List.replicate (4 - (lg_sl ([.ref qp, .int a0])).length) Slot.unset).toArray = ls at hl ⊢
  have hl : lv_has ls 4 [(0, .ref qp), (1, .int a0)] := hl
  refine lv_aload_n hx hb d_Pr_arithmetic_0 rfl (lv_at hl 0 rfl) ?_
  refine g_Pr_9 (v := .ref qr) hx hb hT hown hK hP 0 rfl rfl d_Pr_arithmetic_1 ?_
  refine lv_iload_n hx hb d_Pr_arithmetic_4 rfl (lv_at hl 1 rfl) ?_
  refine zz_Si (As := [.int a0]) (rest := [.ref qr]) X (c_Pr_rs l a0 _ h) ⟨rfl, rfl⟩ m_Pr_rs k_Pr_83 ⟨Nat.le_of_ble_eq_true rfl, Nat.le_of_ble_eq_true rfl⟩ rfl hl.1 rfl (Nat.le_of_ble_eq_true rfl) d_Pr_arithmetic_5 hf0 (fun r_1 h => ?_)
  refine va_iald (f := rg) hx hb hK hP 1 0 rfl rfl h.1 d_Pr_arithmetic_8 ?_
  have h := h.2
  refine lv_topi (fun x_2 ex_2 => ?_)
  have h := h x_2 ex_2
  refine lv_istore_n (lv' := [(2, .int x_2), (0, .ref qp), (1, .int a0)]) hx hb d_Pr_arithmetic_9 rfl hl (by decide) rfl (fun ls hl => ?_)
  refine lv_aload_n hx hb d_Pr_arithmetic_10 rfl (lv_at hl 1 rfl) ?_
  refine g_Pr_9 (v := .ref qr) hx hb hT hown hK hP 0 rfl rfl d_Pr_arithmetic_11 ?_
  refine lv_iload_n hx hb d_Pr_arithmetic_14 rfl (lv_at hl 2 rfl) ?_
  refine zz_Si (As := [.int a0]) (rest := [.ref qr]) X (c_Pr_rt l a0 _ h) ⟨rfl, rfl⟩ m_Pr_rt k_Pr_89 ⟨Nat.le_of_ble_eq_true rfl, Nat.le_of_ble_eq_true rfl⟩ rfl hl.1 rfl (Nat.le_of_ble_eq_true rfl) d_Pr_arithmetic_15 hf0 (fun r_3 h => ?_)
  refine va_iald (f := rg) hx hb hK hP 1 0 rfl rfl h.1 d_Pr_arithmetic_18 ?_
  have h := h.2
  refine lv_topi (fun x_4 ex_4 => ?_)
  have h := h x_4 ex_4
  refine lv_istore_n (lv' := [(3, .int x_4), (2, .int x_2), (0, .ref qp), (1, .int a0)]) hx hb d_Pr_arithmetic_19 rfl hl (by decide) rfl (fun ls hl => ?_)
  refine lv_iload_n hx hb d_Pr_arithmetic_20 rfl (lv_at hl 3 rfl) ?_
  refine zz_Si (As := [.int a0]) (rest := []) X (c_Pr_function l a0 _ h) ⟨rfl, rfl⟩ m_Pr_function k_Pr_136 ⟨Nat.le_of_ble_eq_true rfl, Nat.le_of_ble_eq_true rfl⟩ rfl hl.1 rfl (Nat.le_of_ble_eq_true rfl) d_Pr_arithmetic_21 hf0 (fun r_5 h => ?_)
  by_cases c_6 : r_5 = (32 : Int32)
  · have h := h.1 c_6
    have h0 := c_6
    refine lv_tableIn (off := 64) (tgt := 88) hx hb d_Pr_arithmetic_24 (by rw [h0]; decide) (by rw [h0]; decide) (by rw [h0]; rfl) (by decide) ?_
    refine lv_aload_n hx hb d_Pr_arithmetic_88 rfl (lv_at hl 2 rfl) ?_
    refine lv_iload_n hx hb d_Pr_arithmetic_89 rfl (lv_at hl 3 rfl) ?_
    refine zz_Si (As := [.int a0]) (rest := [.ref qp]) X (c_Pr_rd l a0 _ h) ⟨rfl, rfl⟩ m_Pr_rd k_Pr_158 ⟨Nat.le_of_ble_eq_true rfl, Nat.le_of_ble_eq_true rfl⟩ rfl hl.1 rfl (Nat.le_of_ble_eq_true rfl) d_Pr_arithmetic_90 hf0 (fun r_7 h => ?_)
    refine lv_iload_n hx hb d_Pr_arithmetic_93 rfl (lv_at hl 1 rfl) ?_
    refine lv_i2l (v := x_2.toInt64) hx hb d_Pr_arithmetic_94 rfl ?_
    refine lv_iload_n hx hb d_Pr_arithmetic_95 rfl (lv_at hl 0 rfl) ?_
    refine lv_i2l (v := x_4.toInt64) hx hb d_Pr_arithmetic_96 rfl ?_
    refine lv_ladd hx hb d_Pr_arithmetic_97 ?_
    refine zz_Wi (As := [.int r_7, .long (x_2.toInt64 + x_4.toInt64)]) (rest := []) (wc := wP qp qr qh qm qw qu qf ql qo cI ms mn g rg hq mf cd fg L O) (wr := []) X hK hP hD hS hA (c_Pr_exactResult l D cI qp qr qh qm qw qu qf ql qo ms mn g rg hq mf cd fg L O r_7 (x_2.toInt64 + x_4.toInt64) _ h _) ⟨rfl, rfl⟩ m_Pr_exactResult k_Pr_216 ⟨Nat.le_of_ble_eq_true rfl, Nat.le_of_ble_eq_true rfl⟩ [0, 1, 2, 3, 4, 5, 6, 7, 8] [] rfl rfl (by decide) (by decide) (by decide) 4 0 rfl rfl rfl rfl hl.1 rfl (Nat.le_of_ble_eq_true rfl) d_Pr_arithmetic_98 hf0 (fun r_9 u_8 H locs h hP hD hS => ?_)
    have hP : va_P D vwCl (wP qp qr qh qm qw qu qf ql qo cI ms mn u_8.1 u_8.2.1 u_8.2.2.1 u_8.2.2.2.1 u_8.2.2.2.2.1 u_8.2.2.2.2.2.1 u_8.2.2.2.2.2.2.1 u_8.2.2.2.2.2.2.2) H := hP.sub [0, 1, 2, 3, 4, 5, 6, 7, 8] rfl
    have hD : va_D A (wP qp qr qh qm qw qu qf ql qo cI ms mn u_8.1 u_8.2.1 u_8.2.2.1 u_8.2.2.2.1 u_8.2.2.2.2.1 u_8.2.2.2.2.2.1 u_8.2.2.2.2.2.2.1 u_8.2.2.2.2.2.2.2) := hD.sub [0, 1, 2, 3, 4, 5, 6, 7, 8] (by decide) rfl
    exact W.iret (v := r_9) hx hb hr (fun t ht hW => ⟨⟨r_9, (u_8.1, u_8.2.1, u_8.2.2.1, u_8.2.2.2.1, u_8.2.2.2.2.1, u_8.2.2.2.2.2.1, u_8.2.2.2.2.2.2.1, u_8.2.2.2.2.2.2.2), rfl, h, by rw [ht]; exact hP, hD⟩, hS.F ht⟩) hS.2.2 d_Pr_arithmetic_101
  · have h := h.2 c_6
    by_cases c_10 : r_5 = (33 : Int32)
    · have h := h.1 c_10
      have h0 := c_10
      refine lv_tableIn (off := 78) (tgt := 102) hx hb d_Pr_arithmetic_24 (by rw [h0]; decide) (by rw [h0]; decide) (by rw [h0]; rfl) (by decide) ?_
      refine lv_aload_n hx hb d_Pr_arithmetic_102 rfl (lv_at hl 2 rfl) ?_
      refine lv_iload_n hx hb d_Pr_arithmetic_103 rfl (lv_at hl 3 rfl) ?_
      refine zz_Si (As := [.int a0]) (rest := [.ref qp]) X (c_Pr_rd l a0 _ h) ⟨rfl, rfl⟩ m_Pr_rd k_Pr_158 ⟨Nat.le_of_ble_eq_true rfl, Nat.le_of_ble_eq_true rfl⟩ rfl hl.1 rfl (Nat.le_of_ble_eq_true rfl) d_Pr_arithmetic_104 hf0 (fun r_11 h => ?_)
      refine lv_iload_n hx hb d_Pr_arithmetic_107 rfl (lv_at hl 1 rfl) ?_
      refine lv_iload_n hx hb d_Pr_arithmetic_108 rfl (lv_at hl 0 rfl) ?_
      refine lv_iadd hx hb d_Pr_arithmetic_109 ?_
      refine zz_Wi (As := [.int r_11, .int (x_2 + x_4)]) (rest := []) (wc := wP qp qr qh qm qw qu qf ql qo cI ms mn g rg hq mf cd fg L O) (wr := []) X hK hP hD hS hA (c_Pr_result l D cI qp qr qh qm qw qu qf ql qo ms mn g rg hq mf cd fg L O r_11 (x_2 + x_4) _ h _) ⟨rfl, rfl⟩ m_Pr_result k_Pr_161 ⟨Nat.le_of_ble_eq_true rfl, Nat.le_of_ble_eq_true rfl⟩ [0, 1, 2, 3, 4, 5, 6, 7, 8] [] rfl rfl (by decide) (by decide) (by decide) 4 0 rfl rfl rfl rfl hl.1 rfl (Nat.le_of_ble_eq_true rfl) d_Pr_arithmetic_110 hf0 (fun r_13 u_12 H locs h hP hD hS => ?_)
      have hP : va_P D vwCl (wP qp qr qh qm qw qu qf ql qo cI ms mn u_12.1 u_12.2.1 u_12.2.2.1 u_12.2.2.2.1 u_12.2.2.2.2.1 u_12.2.2.2.2.2.1 u_12.2.2.2.2.2.2.1 u_12.2.2.2.2.2.2.2) H := hP.sub [0, 1, 2, 3, 4, 5, 6, 7, 8] rfl
      have hD : va_D A (wP qp qr qh qm qw qu qf ql qo cI ms mn u_12.1 u_12.2.1 u_12.2.2.1 u_12.2.2.2.1 u_12.2.2.2.2.1 u_12.2.2.2.2.2.1 u_12.2.2.2.2.2.2.1 u_12.2.2.2.2.2.2.2) := hD.sub [0, 1, 2, 3, 4, 5, 6, 7, 8] (by decide) rfl
      exact W.iret (v := r_13) hx hb hr (fun t ht hW => ⟨⟨r_13, (u_12.1, u_12.2.1, u_12.2.2.1, u_12.2.2.2.1, u_12.2.2.2.2.1, u_12.2.2.2.2.2.1, u_12.2.2.2.2.2.2.1, u_12.2.2.2.2.2.2.2), rfl, h, by rw [ht]; exact hP, hD⟩, hS.F ht⟩) hS.2.2 d_Pr_arithmetic_113
    · have h := h.2 c_10
      by_cases c_14 : r_5 = (34 : Int32)
      · have h := h.1 c_14
        have h0 := c_14
        refine lv_tableIn (off := 90) (tgt := 114) hx hb d_Pr_arithmetic_24 (by rw [h0]; decide) (by rw [h0]; decide) (by rw [h0]; rfl) (by decide) ?_
        refine lv_aload_n hx hb d_Pr_arithmetic_114 rfl (lv_at hl 2 rfl) ?_
        refine lv_iload_n hx hb d_Pr_arithmetic_115 rfl (lv_at hl 3 rfl) ?_
        refine zz_Si (As := [.int a0]) (rest := [.ref qp]) X (c_Pr_rd l a0 _ h) ⟨rfl, rfl⟩ m_Pr_rd k_Pr_158 ⟨Nat.le_of_ble_eq_true rfl, Nat.le_of_ble_eq_true rfl⟩ rfl hl.1 rfl (Nat.le_of_ble_eq_true rfl) d_Pr_arithmetic_116 hf0 (fun r_15 h => ?_)
        refine lv_iload_n hx hb d_Pr_arithmetic_119 rfl (lv_at hl 1 rfl) ?_
        refine lv_i2l (v := x_2.toInt64) hx hb d_Pr_arithmetic_120 rfl ?_
        refine lv_iload_n hx hb d_Pr_arithmetic_121 rfl (lv_at hl 0 rfl) ?_
        refine lv_i2l (v := x_4.toInt64) hx hb d_Pr_arithmetic_122 rfl ?_
        refine lv_lsub hx hb d_Pr_arithmetic_123 ?_
        refine zz_Wi (As := [.int r_15, .long (x_2.toInt64 - x_4.toInt64)]) (rest := []) (wc := wP qp qr qh qm qw qu qf ql qo cI ms mn g rg hq mf cd fg L O) (wr := []) X hK hP hD hS hA (c_Pr_exactResult l D cI qp qr qh qm qw qu qf ql qo ms mn g rg hq mf cd fg L O r_15 (x_2.toInt64 - x_4.toInt64) _ h _) ⟨rfl, rfl⟩ m_Pr_exactResult k_Pr_216 ⟨Nat.le_of_ble_eq_true rfl, Nat.le_of_ble_eq_true rfl⟩ [0, 1, 2, 3, 4, 5, 6, 7, 8] [] rfl rfl (by decide) (by decide) (by decide) 4 0 rfl rfl rfl rfl hl.1 rfl (Nat.le_of_ble_eq_true rfl) d_Pr_arithmetic_124 hf0 (fun r_17 u_16 H locs h hP hD hS => ?_)
        have hP : va_P D vwCl (wP qp qr qh qm qw qu qf ql qo cI ms mn u_16.1 u_16.2.1 u_16.2.2.1 u_16.2.2.2.1 u_16.2.2.2.2.1 u_16.2.2.2.2.2.1 u_16.2.2.2.2.2.2.1 u_16.2.2.2.2.2.2.2) H := hP.sub [0, 1, 2, 3, 4, 5, 6, 7, 8] rfl
        have hD : va_D A (wP qp qr qh qm qw qu qf ql qo cI ms mn u_16.1 u_16.2.1 u_16.2.2.1 u_16.2.2.2.1 u_16.2.2.2.2.1 u_16.2.2.2.2.2.1 u_16.2.2.2.2.2.2.1 u_16.2.2.2.2.2.2.2) := hD.sub [0, 1, 2, 3, 4, 5, 6, 7, 8] (by decide) rfl
        exact W.iret (v := r_17) hx hb hr (fun t ht hW => ⟨⟨r_17, (u_16.1, u_16.2.1, u_16.2.2.1, u_16.2.2.2.1, u_16.2.2.2.2.1, u_16.2.2.2.2.2.1, u_16.2.2.2.2.2.2.1, u_16.2.2.2.2.2.2.2), rfl, h, by rw [ht]; exact hP, hD⟩, hS.F ht⟩) hS.2.2 d_Pr_arithmetic_127
      · have h := h.2 c_14
        by_cases c_18 : r_5 = (35 : Int32)
        · have h := h.1 c_18
          have h0 := c_18
          refine lv_tableIn (off := 104) (tgt := 128) hx hb d_Pr_arithmetic_24 (by rw [h0]; decide) (by rw [h0]; decide) (by rw [h0]; rfl) (by decide) ?_
          refine lv_aload_n hx hb d_Pr_arithmetic_128 rfl (lv_at hl 2 rfl) ?_
          refine lv_iload_n hx hb d_Pr_arithmetic_129 rfl (lv_at hl 3 rfl) ?_
          refine zz_Si (As := [.int a0]) (rest := [.ref qp]) X (c_Pr_rd l a0 _ h) ⟨rfl, rfl⟩ m_Pr_rd k_Pr_158 ⟨Nat.le_of_ble_eq_true rfl, Nat.le_of_ble_eq_true rfl⟩ rfl hl.1 rfl (Nat.le_of_ble_eq_true rfl) d_Pr_arithmetic_130 hf0 (fun r_19 h => ?_)
          refine lv_iload_n hx hb d_Pr_arithmetic_133 rfl (lv_at hl 1 rfl) ?_
          refine lv_iload_n hx hb d_Pr_arithmetic_134 rfl (lv_at hl 0 rfl) ?_
          refine lv_isub hx hb d_Pr_arithmetic_135 ?_
          refine zz_Wi (As := [.int r_19, .int (x_2 - x_4)]) (rest := []) (wc := wP qp qr qh qm qw qu qf ql qo cI ms mn g rg hq mf cd fg L O) (wr := []) X hK hP hD hS hA (c_Pr_result l D cI qp qr qh qm qw qu qf ql qo ms mn g rg hq mf cd fg L O r_19 (x_2 - x_4) _ h _) ⟨rfl, rfl⟩ m_Pr_result k_Pr_161 ⟨Nat.le_of_ble_eq_true rfl, Nat.le_of_ble_eq_true rfl⟩ [0, 1, 2, 3, 4, 5, 6, 7, 8] [] rfl rfl (by decide) (by decide) (by decide) 4 0 rfl rfl rfl rfl hl.1 rfl (Nat.le_of_ble_eq_true rfl) d_Pr_arithmetic_136 hf0 (fun r_21 u_20 H locs h hP hD hS => ?_)
          have hP : va_P D vwCl (wP qp qr qh qm qw qu qf ql qo cI ms mn u_20.1 u_20.2.1 u_20.2.2.1 u_20.2.2.2.1 u_20.2.2.2.2.1 u_20.2.2.2.2.2.1 u_20.2.2.2.2.2.2.1 u_20.2.2.2.2.2.2.2) H := hP.sub [0, 1, 2, 3, 4, 5, 6, 7, 8] rfl
          have hD : va_D A (wP qp qr qh qm qw qu qf ql qo cI ms mn u_20.1 u_20.2.1 u_20.2.2.1 u_20.2.2.2.1 u_20.2.2.2.2.1 u_20.2.2.2.2.2.1 u_20.2.2.2.2.2.2.1 u_20.2.2.2.2.2.2.2) := hD.sub [0, 1, 2, 3, 4, 5, 6, 7, 8] (by decide) rfl
          exact W.iret (v := r_21) hx hb hr (fun t ht hW => ⟨⟨r_21, (u_20.1, u_20.2.1, u_20.2.2.1, u_20.2.2.2.1, u_20.2.2.2.2.1, u_20.2.2.2.2.2.1, u_20.2.2.2.2.2.2.1, u_20.2.2.2.2.2.2.2), rfl, h, by rw [ht]; exact hP, hD⟩, hS.F ht⟩) hS.2.2 d_Pr_arithmetic_139
        · have h := h.2 c_18
          by_cases c_22 : r_5 = (36 : Int32)
          · have h := h.1 c_22
            have h0 := c_22
            refine lv_tableIn (off := 116) (tgt := 140) hx hb d_Pr_arithmetic_24 (by rw [h0]; decide) (by rw [h0]; decide) (by rw [h0]; rfl) (by decide) ?_
            refine lv_aload_n hx hb d_Pr_arithmetic_140 rfl (lv_at hl 2 rfl) ?_
            refine lv_iload_n hx hb d_Pr_arithmetic_141 rfl (lv_at hl 3 rfl) ?_
            refine zz_Si (As := [.int a0]) (rest := [.ref qp]) X (c_Pr_rd l a0 _ h) ⟨rfl, rfl⟩ m_Pr_rd k_Pr_158 ⟨Nat.le_of_ble_eq_true rfl, Nat.le_of_ble_eq_true rfl⟩ rfl hl.1 rfl (Nat.le_of_ble_eq_true rfl) d_Pr_arithmetic_142 hf0 (fun r_23 h => ?_)
            refine lv_iload_n hx hb d_Pr_arithmetic_145 rfl (lv_at hl 1 rfl) ?_
            refine lv_iload_n hx hb d_Pr_arithmetic_146 rfl (lv_at hl 0 rfl) ?_
            refine lv_iand hx hb d_Pr_arithmetic_147 ?_
            refine zz_Wi (As := [.int r_23, .int (x_2 &&& x_4)]) (rest := []) (wc := wP qp qr qh qm qw qu qf ql qo cI ms mn g rg hq mf cd fg L O) (wr := []) X hK hP hD hS hA (c_Pr_result l D cI qp qr qh qm qw qu qf ql qo ms mn g rg hq mf cd fg L O r_23 (x_2 &&& x_4) _ h _) ⟨rfl, rfl⟩ m_Pr_result k_Pr_161 ⟨Nat.le_of_ble_eq_true rfl, Nat.le_of_ble_eq_true rfl⟩ [0, 1, 2, 3, 4, 5, 6, 7, 8] [] rfl rfl (by decide) (by decide) (by decide) 4 0 rfl rfl rfl rfl hl.1 rfl (Nat.le_of_ble_eq_true rfl) d_Pr_arithmetic_148 hf0 (fun r_25 u_24 H locs h hP hD hS => ?_)
            have hP : va_P D vwCl (wP qp qr qh qm qw qu qf ql qo cI ms mn u_24.1 u_24.2.1 u_24.2.2.1 u_24.2.2.2.1 u_24.2.2.2.2.1 u_24.2.2.2.2.2.1 u_24.2.2.2.2.2.2.1 u_24.2.2.2.2.2.2.2) H := hP.sub [0, 1, 2, 3, 4, 5, 6, 7, 8] rfl
            have hD : va_D A (wP qp qr qh qm qw qu qf ql qo cI ms mn u_24.1 u_24.2.1 u_24.2.2.1 u_24.2.2.2.1 u_24.2.2.2.2.1 u_24.2.2.2.2.2.1 u_24.2.2.2.2.2.2.1 u_24.2.2.2.2.2.2.2) := hD.sub [0, 1, 2, 3, 4, 5, 6, 7, 8] (by decide) rfl
            exact W.iret (v := r_25) hx hb hr (fun t ht hW => ⟨⟨r_25, (u_24.1, u_24.2.1, u_24.2.2.1, u_24.2.2.2.1, u_24.2.2.2.2.1, u_24.2.2.2.2.2.1, u_24.2.2.2.2.2.2.1, u_24.2.2.2.2.2.2.2), rfl, h, by rw [ht]; exact hP, hD⟩, hS.F ht⟩) hS.2.2 d_Pr_arithmetic_151
          · have h := h.2 c_22
            by_cases c_26 : r_5 = (37 : Int32)
            · have h := h.1 c_26
              have h0 := c_26
              refine lv_tableIn (off := 128) (tgt := 152) hx hb d_Pr_arithmetic_24 (by rw [h0]; decide) (by rw [h0]; decide) (by rw [h0]; rfl) (by decide) ?_
              refine lv_aload_n hx hb d_Pr_arithmetic_152 rfl (lv_at hl 2 rfl) ?_
              refine lv_iload_n hx hb d_Pr_arithmetic_153 rfl (lv_at hl 3 rfl) ?_
              refine zz_Si (As := [.int a0]) (rest := [.ref qp]) X (c_Pr_rd l a0 _ h) ⟨rfl, rfl⟩ m_Pr_rd k_Pr_158 ⟨Nat.le_of_ble_eq_true rfl, Nat.le_of_ble_eq_true rfl⟩ rfl hl.1 rfl (Nat.le_of_ble_eq_true rfl) d_Pr_arithmetic_154 hf0 (fun r_27 h => ?_)
              refine lv_iload_n hx hb d_Pr_arithmetic_157 rfl (lv_at hl 1 rfl) ?_
              refine lv_iload_n hx hb d_Pr_arithmetic_158 rfl (lv_at hl 0 rfl) ?_
              refine lv_ior hx hb d_Pr_arithmetic_159 ?_
              refine zz_Wi (As := [.int r_27, .int (x_2 ||| x_4)]) (rest := []) (wc := wP qp qr qh qm qw qu qf ql qo cI ms mn g rg hq mf cd fg L O) (wr := []) X hK hP hD hS hA (c_Pr_result l D cI qp qr qh qm qw qu qf ql qo ms mn g rg hq mf cd fg L O r_27 (x_2 ||| x_4) _ h _) ⟨rfl, rfl⟩ m_Pr_result k_Pr_161 ⟨Nat.le_of_ble_eq_true rfl, Nat.le_of_ble_eq_true rfl⟩ [0, 1, 2, 3, 4, 5, 6, 7, 8] [] rfl rfl (by decide) (by decide) (by decide) 4 0 rfl rfl rfl rfl hl.1 rfl (Nat.le_of_ble_eq_true rfl) d_Pr_arithmetic_160 hf0 (fun r_29 u_28 H locs h hP hD hS => ?_)
              have hP : va_P D vwCl (wP qp qr qh qm qw qu qf ql qo cI ms mn u_28.1 u_28.2.1 u_28.2.2.1 u_28.2.2.2.1 u_28.2.2.2.2.1 u_28.2.2.2.2.2.1 u_28.2.2.2.2.2.2.1 u_28.2.2.2.2.2.2.2) H := hP.sub [0, 1, 2, 3, 4, 5, 6, 7, 8] rfl
              have hD : va_D A (wP qp qr qh qm qw qu qf ql qo cI ms mn u_28.1 u_28.2.1 u_28.2.2.1 u_28.2.2.2.1 u_28.2.2.2.2.1 u_28.2.2.2.2.2.1 u_28.2.2.2.2.2.2.1 u_28.2.2.2.2.2.2.2) := hD.sub [0, 1, 2, 3, 4, 5, 6, 7, 8] (by decide) rfl
              exact W.iret (v := r_29) hx hb hr (fun t ht hW => ⟨⟨r_29, (u_28.1, u_28.2.1, u_28.2.2.1, u_28.2.2.2.1, u_28.2.2.2.2.1, u_28.2.2.2.2.2.1, u_28.2.2.2.2.2.2.1, u_28.2.2.2.2.2.2.2), rfl, h, by rw [ht]; exact hP, hD⟩, hS.F ht⟩) hS.2.2 d_Pr_arithmetic_163
            · have h := h.2 c_26
              by_cases c_30 : r_5 = (38 : Int32)
              · have h := h.1 c_30
                have h0 := c_30
                refine lv_tableIn (off := 140) (tgt := 164) hx hb d_Pr_arithmetic_24 (by rw [h0]; decide) (by rw [h0]; decide) (by rw [h0]; rfl) (by decide) ?_
                refine lv_aload_n hx hb d_Pr_arithmetic_164 rfl (lv_at hl 2 rfl) ?_
                refine lv_iload_n hx hb d_Pr_arithmetic_165 rfl (lv_at hl 3 rfl) ?_
                refine zz_Si (As := [.int a0]) (rest := [.ref qp]) X (c_Pr_rd l a0 _ h) ⟨rfl, rfl⟩ m_Pr_rd k_Pr_158 ⟨Nat.le_of_ble_eq_true rfl, Nat.le_of_ble_eq_true rfl⟩ rfl hl.1 rfl (Nat.le_of_ble_eq_true rfl) d_Pr_arithmetic_166 hf0 (fun r_31 h => ?_)
                refine lv_iload_n hx hb d_Pr_arithmetic_169 rfl (lv_at hl 1 rfl) ?_
                refine lv_iload_n hx hb d_Pr_arithmetic_170 rfl (lv_at hl 0 rfl) ?_
                refine lv_ixor hx hb d_Pr_arithmetic_171 ?_
                refine zz_Wi (As := [.int r_31, .int (x_2 ^^^ x_4)]) (rest := []) (wc := wP qp qr qh qm qw qu qf ql qo cI ms mn g rg hq mf cd fg L O) (wr := []) X hK hP hD hS hA (c_Pr_result l D cI qp qr qh qm qw qu qf ql qo ms mn g rg hq mf cd fg L O r_31 (x_2 ^^^ x_4) _ h _) ⟨rfl, rfl⟩ m_Pr_result k_Pr_161 ⟨Nat.le_of_ble_eq_true rfl, Nat.le_of_ble_eq_true rfl⟩ [0, 1, 2, 3, 4, 5, 6, 7, 8] [] rfl rfl (by decide) (by decide) (by decide) 4 0 rfl rfl rfl rfl hl.1 rfl (Nat.le_of_ble_eq_true rfl) d_Pr_arithmetic_172 hf0 (fun r_33 u_32 H locs h hP hD hS => ?_)
                have hP : va_P D vwCl (wP qp qr qh qm qw qu qf ql qo cI ms mn u_32.1 u_32.2.1 u_32.2.2.1 u_32.2.2.2.1 u_32.2.2.2.2.1 u_32.2.2.2.2.2.1 u_32.2.2.2.2.2.2.1 u_32.2.2.2.2.2.2.2) H := hP.sub [0, 1, 2, 3, 4, 5, 6, 7, 8] rfl
                have hD : va_D A (wP qp qr qh qm qw qu qf ql qo cI ms mn u_32.1 u_32.2.1 u_32.2.2.1 u_32.2.2.2.1 u_32.2.2.2.2.1 u_32.2.2.2.2.2.1 u_32.2.2.2.2.2.2.1 u_32.2.2.2.2.2.2.2) := hD.sub [0, 1, 2, 3, 4, 5, 6, 7, 8] (by decide) rfl
                exact W.iret (v := r_33) hx hb hr (fun t ht hW => ⟨⟨r_33, (u_32.1, u_32.2.1, u_32.2.2.1, u_32.2.2.2.1, u_32.2.2.2.2.1, u_32.2.2.2.2.2.1, u_32.2.2.2.2.2.2.1, u_32.2.2.2.2.2.2.2), rfl, h, by rw [ht]; exact hP, hD⟩, hS.F ht⟩) hS.2.2 d_Pr_arithmetic_175
              · have h := h.2 c_30
                by_cases c_34 : r_5 = (39 : Int32)
                · have h := h.1 c_34
                  have h0 := c_34
                  refine lv_tableIn (off := 152) (tgt := 176) hx hb d_Pr_arithmetic_24 (by rw [h0]; decide) (by rw [h0]; decide) (by rw [h0]; rfl) (by decide) ?_
                  refine lv_aload_n hx hb d_Pr_arithmetic_176 rfl (lv_at hl 2 rfl) ?_
                  refine lv_iload_n hx hb d_Pr_arithmetic_177 rfl (lv_at hl 3 rfl) ?_
                  refine zz_Si (As := [.int a0]) (rest := [.ref qp]) X (c_Pr_rd l a0 _ h) ⟨rfl, rfl⟩ m_Pr_rd k_Pr_158 ⟨Nat.le_of_ble_eq_true rfl, Nat.le_of_ble_eq_true rfl⟩ rfl hl.1 rfl (Nat.le_of_ble_eq_true rfl) d_Pr_arithmetic_178 hf0 (fun r_35 h => ?_)
                  refine lv_iload_n hx hb d_Pr_arithmetic_181 rfl (lv_at hl 1 rfl) ?_
                  refine lv_iload_n hx hb d_Pr_arithmetic_182 rfl (lv_at hl 0 rfl) ?_
                  refine lv_ior hx hb d_Pr_arithmetic_183 ?_
                  refine lv_iconst (v := -1) hx hb d_Pr_arithmetic_184 (by decide) ?_
                  refine lv_ixor hx hb d_Pr_arithmetic_185 ?_
                  refine lv_topi (fun x_36 ex_36 => ?_)
                  have h := h x_36 ex_36
                  refine zz_Wi (As := [.int r_35, .int x_36]) (rest := []) (wc := wP qp qr qh qm qw qu qf ql qo cI ms mn g rg hq mf cd fg L O) (wr := []) X hK hP hD hS hA (c_Pr_result l D cI qp qr qh qm qw qu qf ql qo ms mn g rg hq mf cd fg L O r_35 x_36 _ h _) ⟨rfl, rfl⟩ m_Pr_result k_Pr_161 ⟨Nat.le_of_ble_eq_true rfl, Nat.le_of_ble_eq_true rfl⟩ [0, 1, 2, 3, 4, 5, 6, 7, 8] [] rfl rfl (by decide) (by decide) (by decide) 4 0 rfl rfl rfl rfl hl.1 rfl (Nat.le_of_ble_eq_true rfl) d_Pr_arithmetic_186 hf0 (fun r_38 u_37 H locs h hP hD hS => ?_)
                  have hP : va_P D vwCl (wP qp qr qh qm qw qu qf ql qo cI ms mn u_37.1 u_37.2.1 u_37.2.2.1 u_37.2.2.2.1 u_37.2.2.2.2.1 u_37.2.2.2.2.2.1 u_37.2.2.2.2.2.2.1 u_37.2.2.2.2.2.2.2) H := hP.sub [0, 1, 2, 3, 4, 5, 6, 7, 8] rfl
                  have hD : va_D A (wP qp qr qh qm qw qu qf ql qo cI ms mn u_37.1 u_37.2.1 u_37.2.2.1 u_37.2.2.2.1 u_37.2.2.2.2.1 u_37.2.2.2.2.2.1 u_37.2.2.2.2.2.2.1 u_37.2.2.2.2.2.2.2) := hD.sub [0, 1, 2, 3, 4, 5, 6, 7, 8] (by decide) rfl
                  exact W.iret (v := r_38) hx hb hr (fun t ht hW => ⟨⟨r_38, (u_37.1, u_37.2.1, u_37.2.2.1, u_37.2.2.2.1, u_37.2.2.2.2.1, u_37.2.2.2.2.2.1, u_37.2.2.2.2.2.2.1, u_37.2.2.2.2.2.2.2), rfl, h, by rw [ht]; exact hP, hD⟩, hS.F ht⟩) hS.2.2 d_Pr_arithmetic_189
                · have h := h.2 c_34
                  by_cases c_39 : r_5 = (42 : Int32)
                  · have h := h.1 c_39
                    have h0 := c_39
                    refine lv_tableIn (off := 166) (tgt := 190) hx hb d_Pr_arithmetic_24 (by rw [h0]; decide) (by rw [h0]; decide) (by rw [h0]; rfl) (by decide) ?_
                    refine lv_aload_n hx hb d_Pr_arithmetic_190 rfl (lv_at hl 2 rfl) ?_
                    refine lv_iload_n hx hb d_Pr_arithmetic_191 rfl (lv_at hl 3 rfl) ?_
                    refine zz_Si (As := [.int a0]) (rest := [.ref qp]) X (c_Pr_rd l a0 _ h) ⟨rfl, rfl⟩ m_Pr_rd k_Pr_158 ⟨Nat.le_of_ble_eq_true rfl, Nat.le_of_ble_eq_true rfl⟩ rfl hl.1 rfl (Nat.le_of_ble_eq_true rfl) d_Pr_arithmetic_192 hf0 (fun r_40 h => ?_)
                    refine lv_iload_n hx hb d_Pr_arithmetic_195 rfl (lv_at hl 1 rfl) ?_
                    refine lv_iload_n hx hb d_Pr_arithmetic_196 rfl (lv_at hl 0 rfl) ?_
                    refine lv_icmp_ge (tgt := 204) hx hb d_Pr_arithmetic_197 (by decide) (fun c_41 => ?_) (fun c_41 => ?_)
                    · skip
                      have h := h.1 c_41
                      refine lv_iconst (v := 0) hx hb d_Pr_arithmetic_204 (by decide) ?_
                      refine zz_Wi (As := [.int r_40, .int (0 : Int32)]) (rest := []) (wc := wP qp qr qh qm qw qu qf ql qo cI ms mn g rg hq mf cd fg L O) (wr := []) X hK hP hD hS hA (c_Pr_result l D cI qp qr qh qm qw qu qf ql qo ms mn g rg hq mf cd fg L O r_40 (0 : Int32) _ h _) ⟨rfl, rfl⟩ m_Pr_result k_Pr_161 ⟨Nat.le_of_ble_eq_true rfl, Nat.le_of_ble_eq_true rfl⟩ [0, 1, 2, 3, 4, 5, 6, 7, 8] [] rfl rfl (by decide) (by decide) (by decide) 4 0 rfl rfl rfl rfl hl.1 rfl (Nat.le_of_ble_eq_true rfl) d_Pr_arithmetic_205 hf0 (fun r_43 u_42 H locs h hP hD hS => ?_)
                      have hP : va_P D vwCl (wP qp qr qh qm qw qu qf ql qo cI ms mn u_42.1 u_42.2.1 u_42.2.2.1 u_42.2.2.2.1 u_42.2.2.2.2.1 u_42.2.2.2.2.2.1 u_42.2.2.2.2.2.2.1 u_42.2.2.2.2.2.2.2) H := hP.sub [0, 1, 2, 3, 4, 5, 6, 7, 8] rfl
                      have hD : va_D A (wP qp qr qh qm qw qu qf ql qo cI ms mn u_42.1 u_42.2.1 u_42.2.2.1 u_42.2.2.2.1 u_42.2.2.2.2.1 u_42.2.2.2.2.2.1 u_42.2.2.2.2.2.2.1 u_42.2.2.2.2.2.2.2) := hD.sub [0, 1, 2, 3, 4, 5, 6, 7, 8] (by decide) rfl
                      exact W.iret (v := r_43) hx hb hr (fun t ht hW => ⟨⟨r_43, (u_42.1, u_42.2.1, u_42.2.2.1, u_42.2.2.2.1, u_42.2.2.2.2.1, u_42.2.2.2.2.2.1, u_42.2.2.2.2.2.2.1, u_42.2.2.2.2.2.2.2), rfl, h, by rw [ht]; exact hP, hD⟩, hS.F ht⟩) hS.2.2 d_Pr_arithmetic_208
                    · skip
                      have h := h.2 c_41
                      refine lv_iconst (v := 1) hx hb d_Pr_arithmetic_200 (by decide) ?_
                      refine lv_goto (tgt := 205) hx hb d_Pr_arithmetic_201 (by decide) ?_
                      refine zz_Wi (As := [.int r_40, .int (1 : Int32)]) (rest := []) (wc := wP qp qr qh qm qw qu qf ql qo cI ms mn g rg hq mf cd fg L O) (wr := []) X hK hP hD hS hA (c_Pr_result l D cI qp qr qh qm qw qu qf ql qo ms mn g rg hq mf cd fg L O r_40 (1 : Int32) _ h _) ⟨rfl, rfl⟩ m_Pr_result k_Pr_161 ⟨Nat.le_of_ble_eq_true rfl, Nat.le_of_ble_eq_true rfl⟩ [0, 1, 2, 3, 4, 5, 6, 7, 8] [] rfl rfl (by decide) (by decide) (by decide) 4 0 rfl rfl rfl rfl hl.1 rfl (Nat.le_of_ble_eq_true rfl) d_Pr_arithmetic_205 hf0 (fun r_45 u_44 H locs h hP hD hS => ?_)
                      have hP : va_P D vwCl (wP qp qr qh qm qw qu qf ql qo cI ms mn u_44.1 u_44.2.1 u_44.2.2.1 u_44.2.2.2.1 u_44.2.2.2.2.1 u_44.2.2.2.2.2.1 u_44.2.2.2.2.2.2.1 u_44.2.2.2.2.2.2.2) H := hP.sub [0, 1, 2, 3, 4, 5, 6, 7, 8] rfl
                      have hD : va_D A (wP qp qr qh qm qw qu qf ql qo cI ms mn u_44.1 u_44.2.1 u_44.2.2.1 u_44.2.2.2.1 u_44.2.2.2.2.1 u_44.2.2.2.2.2.1 u_44.2.2.2.2.2.2.1 u_44.2.2.2.2.2.2.2) := hD.sub [0, 1, 2, 3, 4, 5, 6, 7, 8] (by decide) rfl
                      exact W.iret (v := r_45) hx hb hr (fun t ht hW => ⟨⟨r_45, (u_44.1, u_44.2.1, u_44.2.2.1, u_44.2.2.2.1, u_44.2.2.2.2.1, u_44.2.2.2.2.2.1, u_44.2.2.2.2.2.2.1, u_44.2.2.2.2.2.2.2), rfl, h, by rw [ht]; exact hP, hD⟩, hS.F ht⟩) hS.2.2 d_Pr_arithmetic_208
                  · have h := h.2 c_39
                    by_cases c_46 : r_5 = (43 : Int32)
                    · have h := h.1 c_46
                      have h0 := c_46
                      refine lv_tableIn (off := 185) (tgt := 209) hx hb d_Pr_arithmetic_24 (by rw [h0]; decide) (by rw [h0]; decide) (by rw [h0]; rfl) (by decide) ?_
                      refine lv_aload_n hx hb d_Pr_arithmetic_209 rfl (lv_at hl 2 rfl) ?_
                      refine lv_iload_n hx hb d_Pr_arithmetic_210 rfl (lv_at hl 3 rfl) ?_
                      refine zz_Si (As := [.int a0]) (rest := [.ref qp]) X (c_Pr_rd l a0 _ h) ⟨rfl, rfl⟩ m_Pr_rd k_Pr_158 ⟨Nat.le_of_ble_eq_true rfl, Nat.le_of_ble_eq_true rfl⟩ rfl hl.1 rfl (Nat.le_of_ble_eq_true rfl) d_Pr_arithmetic_211 hf0 (fun r_47 h => ?_)
                      refine lv_iload_n hx hb d_Pr_arithmetic_214 rfl (lv_at hl 1 rfl) ?_
                      refine zz_Sl (As := [.int x_2]) (rest := [.int r_47, .ref qp]) X (c_Pr_unsigned l x_2 _ h) ⟨rfl, rfl⟩ m_Pr_unsigned k_Pr_208 ⟨Nat.le_of_ble_eq_true rfl, Nat.le_of_ble_eq_true rfl⟩ rfl hl.1 rfl (Nat.le_of_ble_eq_true rfl) d_Pr_arithmetic_215 hf0 (fun r_48 h => ?_)
                      refine lv_iload_n hx hb d_Pr_arithmetic_218 rfl (lv_at hl 0 rfl) ?_
                      refine zz_Sl (As := [.int x_4]) (rest := [.long r_48, .int r_47, .ref qp]) X (c_Pr_unsigned l x_4 _ h) ⟨rfl, rfl⟩ m_Pr_unsigned k_Pr_208 ⟨Nat.le_of_ble_eq_true rfl, Nat.le_of_ble_eq_true rfl⟩ rfl hl.1 rfl (Nat.le_of_ble_eq_true rfl) d_Pr_arithmetic_219 hf0 (fun r_49 h => ?_)
                      refine W.lcmp hx hb d_Pr_arithmetic_222 ?_
                      refine lv_if_ge (tgt := 230) hx hb d_Pr_arithmetic_223 (by decide) (fun c_50 => ?_) (fun c_50 => ?_)
                      · have kc_50 := ((lg_cmp_ge _ _).mp c_50)
                        have h := h.1 kc_50
                        refine lv_iconst (v := 0) hx hb d_Pr_arithmetic_230 (by decide) ?_
                        refine zz_Wi (As := [.int r_47, .int (0 : Int32)]) (rest := []) (wc := wP qp qr qh qm qw qu qf ql qo cI ms mn g rg hq mf cd fg L O) (wr := []) X hK hP hD hS hA (c_Pr_result l D cI qp qr qh qm qw qu qf ql qo ms mn g rg hq mf cd fg L O r_47 (0 : Int32) _ h _) ⟨rfl, rfl⟩ m_Pr_result k_Pr_161 ⟨Nat.le_of_ble_eq_true rfl, Nat.le_of_ble_eq_true rfl⟩ [0, 1, 2, 3, 4, 5, 6, 7, 8] [] rfl rfl (by decide) (by decide) (by decide) 4 0 rfl rfl rfl rfl hl.1 rfl (Nat.le_of_ble_eq_true rfl) d_Pr_arithmetic_231 hf0 (fun r_52 u_51 H locs h hP hD hS => ?_)
                        have hP : va_P D vwCl (wP qp qr qh qm qw qu qf ql qo cI ms mn u_51.1 u_51.2.1 u_51.2.2.1 u_51.2.2.2.1 u_51.2.2.2.2.1 u_51.2.2.2.2.2.1 u_51.2.2.2.2.2.2.1 u_51.2.2.2.2.2.2.2) H := hP.sub [0, 1, 2, 3, 4, 5, 6, 7, 8] rfl
                        have hD : va_D A (wP qp qr qh qm qw qu qf ql qo cI ms mn u_51.1 u_51.2.1 u_51.2.2.1 u_51.2.2.2.1 u_51.2.2.2.2.1 u_51.2.2.2.2.2.1 u_51.2.2.2.2.2.2.1 u_51.2.2.2.2.2.2.2) := hD.sub [0, 1, 2, 3, 4, 5, 6, 7, 8] (by decide) rfl
                        exact W.iret (v := r_52) hx hb hr (fun t ht hW => ⟨⟨r_52, (u_51.1, u_51.2.1, u_51.2.2.1, u_51.2.2.2.1, u_51.2.2.2.2.1, u_51.2.2.2.2.2.1, u_51.2.2.2.2.2.2.1, u_51.2.2.2.2.2.2.2), rfl, h, by rw [ht]; exact hP, hD⟩, hS.F ht⟩) hS.2.2 d_Pr_arithmetic_234
                      · have kc_50 := (fun q => c_50 ((lg_cmp_ge _ _).mpr q))
                        have h := h.2 kc_50
                        refine lv_iconst (v := 1) hx hb d_Pr_arithmetic_226 (by decide) ?_
                        refine lv_goto (tgt := 231) hx hb d_Pr_arithmetic_227 (by decide) ?_
                        refine zz_Wi (As := [.int r_47, .int (1 : Int32)]) (rest := []) (wc := wP qp qr qh qm qw qu qf ql qo cI ms mn g rg hq mf cd fg L O) (wr := []) X hK hP hD hS hA (c_Pr_result l D cI qp qr qh qm qw qu qf ql qo ms mn g rg hq mf cd fg L O r_47 (1 : Int32) _ h _) ⟨rfl, rfl⟩ m_Pr_result k_Pr_161 ⟨Nat.le_of_ble_eq_true rfl, Nat.le_of_ble_eq_true rfl⟩ [0, 1, 2, 3, 4, 5, 6, 7, 8] [] rfl rfl (by decide) (by decide) (by decide) 4 0 rfl rfl rfl rfl hl.1 rfl (Nat.le_of_ble_eq_true rfl) d_Pr_arithmetic_231 hf0 (fun r_54 u_53 H locs h hP hD hS => ?_)
                        have hP : va_P D vwCl (wP qp qr qh qm qw qu qf ql qo cI ms mn u_53.1 u_53.2.1 u_53.2.2.1 u_53.2.2.2.1 u_53.2.2.2.2.1 u_53.2.2.2.2.2.1 u_53.2.2.2.2.2.2.1 u_53.2.2.2.2.2.2.2) H := hP.sub [0, 1, 2, 3, 4, 5, 6, 7, 8] rfl
                        have hD : va_D A (wP qp qr qh qm qw qu qf ql qo cI ms mn u_53.1 u_53.2.1 u_53.2.2.1 u_53.2.2.2.1 u_53.2.2.2.2.1 u_53.2.2.2.2.2.1 u_53.2.2.2.2.2.2.1 u_53.2.2.2.2.2.2.2) := hD.sub [0, 1, 2, 3, 4, 5, 6, 7, 8] (by decide) rfl
                        exact W.iret (v := r_54) hx hb hr (fun t ht hW => ⟨⟨r_54, (u_53.1, u_53.2.1, u_53.2.2.1, u_53.2.2.2.1, u_53.2.2.2.2.1, u_53.2.2.2.2.2.1, u_53.2.2.2.2.2.2.1, u_53.2.2.2.2.2.2.2), rfl, h, by rw [ht]; exact hP, hD⟩, hS.F ht⟩) hS.2.2 d_Pr_arithmetic_234
                    · have h := h.2 c_46
                      refine zz_swD (tgt := 235) hx hb [32, 33, 34, 35, 36, 37, 38, 39, 42, 43] d_Pr_arithmetic_24 (by decide +kernel) (by decide) (List.forall_mem_cons.mpr ⟨lv_neT (k := 32) c_6 (by decide), List.forall_mem_cons.mpr ⟨lv_neT (k := 33) c_10 (by decide), List.forall_mem_cons.mpr ⟨lv_neT (k := 34) c_14 (by decide), List.forall_mem_cons.mpr ⟨lv_neT (k := 35) c_18 (by decide), List.forall_mem_cons.mpr ⟨lv_neT (k := 36) c_22 (by decide), List.forall_mem_cons.mpr ⟨lv_neT (k := 37) c_26 (by decide), List.forall_mem_cons.mpr ⟨lv_neT (k := 38) c_30 (by decide), List.forall_mem_cons.mpr ⟨lv_neT (k := 39) c_34 (by decide), List.forall_mem_cons.mpr ⟨lv_neT (k := 42) c_39 (by decide), List.forall_mem_cons.mpr ⟨lv_neT (k := 43) c_46 (by decide), fun _ h9 => nomatch h9⟩⟩⟩⟩⟩⟩⟩⟩⟩⟩) (by decide) ?_
                      refine lv_iconst (v := 3) hx hb d_Pr_arithmetic_235 (by decide) ?_
                      exact W.iret (v := (3 : Int32)) hx hb hr (fun t ht hW => ⟨⟨(3 : Int32), (g, rg, hq, mf, cd, fg, L, O), rfl, h, by rw [ht]; exact hP, hD⟩, hS.F ht⟩) hS.2.2 d_Pr_arithmetic_236
def wp_Pr_special (ms : Int32) (mn : Nat) (g : Nat → Int32) (rg : Nat → Int32) (hq : Nat → Int32) (mf : Nat → Int32) (cd : Int32) (fg : Nat → Int32) (L : Int32 × Int32 × Int32 × Int64) (O : Int32 × Int32 × Int32 × Int64) (a0 : Int32) (P : Int32 → ((Nat → Int32) × (Nat → Int32) × (Nat → Int32) × (Nat → Int32) × Int32 × (Nat → Int32) × (Int32 × Int32 × Int32 × Int64) × (Int32 × Int32 × Int32 × Int64)) → Prop) : Prop := wp_Pr_function a0 (fun r_1 => ((((zz_ushr r_1 (3 : Int32)) = (0 : Int32)) → wp_Pr_shiftOrMoveOnCondition ms mn g rg hq mf cd fg L O a0 (fun r_4 u_3 => P r_4 (u_3.1, u_3.2.1, u_3.2.2.1, u_3.2.2.2.1, u_3.2.2.2.2.1, u_3.2.2.2.2.2.1, u_3.2.2.2.2.2.2.1, u_3.2.2.2.2.2.2.2))) ∧ (¬ ((zz_ushr r_1 (3 : Int32)) = (0 : Int32)) → ((((zz_ushr r_1 (3 : Int32)) = (1 : Int32)) → wp_Pr_jumpOrMoveOrCall ms mn g rg hq mf cd fg L O a0 (fun r_7 u_6 => P r_7 (u_6.1, u_6.2.1, u_6.2.2.1, u_6.2.2.2.1, u_6.2.2.2.2.1, u_6.2.2.2.2.2.1, u_6.2.2.2.2.2.2.1, u_6.2.2.2.2.2.2.2))) ∧ (¬ ((zz_ushr r_1 (3 : Int32)) = (1 : Int32)) → ((((zz_ushr r_1 (3 : Int32)) = (2 : Int32)) → wp_Pr_moveHiLo ms mn g rg hq mf cd fg L O a0 (fun r_10 u_9 => P r_10 (u_9.1, u_9.2.1, u_9.2.2.1, u_9.2.2.2.1, u_9.2.2.2.2.1, u_9.2.2.2.2.2.1, u_9.2.2.2.2.2.2.1, u_9.2.2.2.2.2.2.2))) ∧ (¬ ((zz_ushr r_1 (3 : Int32)) = (2 : Int32)) → ((((zz_ushr r_1 (3 : Int32)) = (3 : Int32)) → wp_Pr_multiplyOrDivide ms mn g rg hq mf cd fg L O a0 (fun r_13 u_12 => P r_13 (u_12.1, u_12.2.1, u_12.2.2.1, u_12.2.2.2.1, u_12.2.2.2.2.1, u_12.2.2.2.2.2.1, u_12.2.2.2.2.2.2.1, u_12.2.2.2.2.2.2.2))) ∧ (¬ ((zz_ushr r_1 (3 : Int32)) = (3 : Int32)) → ((((zz_ushr r_1 (3 : Int32)) = (4 : Int32) ∨ (zz_ushr r_1 (3 : Int32)) = (5 : Int32)) → wp_Pr_arithmetic ms mn g rg hq mf cd fg L O a0 (fun r_16 u_15 => P r_16 (u_15.1, u_15.2.1, u_15.2.2.1, u_15.2.2.2.1, u_15.2.2.2.2.1, u_15.2.2.2.2.2.1, u_15.2.2.2.2.2.2.1, u_15.2.2.2.2.2.2.2))) ∧ (¬ ((zz_ushr r_1 (3 : Int32)) = (4 : Int32) ∨ (zz_ushr r_1 (3 : Int32)) = (5 : Int32)) → ((((zz_ushr r_1 (3 : Int32)) = (6 : Int32)) → wp_Pr_function a0 (fun r_18 => wp_Pr_rs a0 (fun r_19 => vp_in r_19 32 ∧ ∀ x_20 : Int32, x_20 = (rg r_19.toNatClampNeg) → wp_Pr_rt a0 (fun r_21 => vp_in r_21 32 ∧ ∀ x_22 : Int32, x_22 = (rg r_21.toNatClampNeg) → wp_Pr_trap ms mn g rg hq mf cd fg L O (r_18 &&& (7 : Int32)) x_20 x_22 (fun r_23 => P r_23 (g, rg, hq, mf, cd, fg, L, O)))))) ∧ (¬ ((zz_ushr r_1 (3 : Int32)) = (6 : Int32)) → P (3 : Int32) (g, rg, hq, mf, cd, fg, L, O))))))))))))))
abbrev rm_Pr_special : Room := { frames := 4, cells := 0, slots := 0, locals := 90 }
set_option maxHeartbeats 4000000 in
set_option maxRecDepth 100000 in
theorem c_Pr_special (l : Launch) (D : va_G) (cI : ClassId) (qp : Nat) (qr : Nat) (qh : Nat) (qm : Nat) (qw : Nat) (qu : Nat) (qf : Nat) (ql : Nat) (qo : Nat) (ms : Int32) (mn : Nat) (g : Nat → Int32) (rg : Nat → Int32) (hq : Nat → Int32) (mf : Nat → Int32) (cd : Int32) (fg : Nat → Int32) (L : Int32 × Int32 × Int32 × Int64) (O : Int32 × Int32 × Int32 × Int64) (a0 : Int32) (P : Int32 → ((Nat → Int32) × (Nat → Int32) × (Nat → Int32) × (Nat → Int32) × Int32 × (Nat → Int32) × (Int32 × Int32 × Int32 × Int64) × (Int32 × Int32 × Int32 × Int64)) → Prop) (h : wp_Pr_special ms mn g rg hq mf cd fg L O a0 P) (sz : Nat) : Met l y_Pr_special (zz_ws y_Pr_special b_Pr_special 2 (some .int)) rm_Pr_special (va_Pc [.ref qp, .int a0] (zz_pw D [(cI, .int)] (wP qp qr qh qm qw qu qf ql qo cI ms mn g rg hq mf cd fg L O) sz)) (va_Qi P (zz_qw D (fun u => wP qp qr qh qm qw qu qf ql qo cI ms mn u.1 u.2.1 u.2.2.1 u.2.2.2.1 u.2.2.2.2.1 u.2.2.2.2.2.1 u.2.2.2.2.2.2.1 u.2.2.2.2.2.2.2) (va_A (wP qp qr qh qm qw qu qf ql qo cI ms mn g rg hq mf cd fg L O) sz)) (va_A (wP qp qr qh qm qw qu qf ql qo cI ms mn g rg hq mf cd fg L O) sz)) 0 0 (va_A (wP qp qr qh qm qw qu qf ql qo cI ms mn g rg hq mf cd fg L O) sz) := by
  refine Met.ofW (cc := b_Pr_special) (maxL := 2) (ret := (some .int)) (by decide) rfl ?_
  intro p e s m args below meth c s₁ B hml hv
  obtain ⟨rfl, hsz, hP, hK, hD0⟩ := hv
  have hx := B.exec
  have hb := B.bytes
  have hr := B.returns
  have hts := atoms_spec (ws := (zz_ws y_Pr_special b_Pr_special 2 (some .int))) B.pre
  have hown : s.vm.findClass R_Pr = some m.cls := findClass_of_methodNamed B.named
  have hlocks := B.notSynchronized
  have hT := zz_hts hts
  have X : CallFix p m c b_Pr_special 2 s ([.ref qp, .int a0] : List Value).toArray (zz_ws y_Pr_special b_Pr_special 2 (some .int)) R_Pr := ⟨hx, hb, hml, hown, hts⟩
  have hf0 : 0 + 0 ≤ (headSpec (zz_ws y_Pr_special b_Pr_special 2 (some .int)) rm_Pr_special).room.cells ∧ 0 + 0 ≤ (headSpec (zz_ws y_Pr_special b_Pr_special 2 (some .int)) rm_Pr_special).room.slots := ⟨Nat.le_of_ble_eq_true rfl, Nat.le_of_ble_eq_true rfl⟩
  subst hsz
  have hD := hD0.self (sz := s.heap.size)
  generalize hAe : va_A (wP qp qr qh qm qw qu qf ql qo cI ms mn g rg hq mf cd fg L O) s.heap.size = A at hD ⊢
  have hA : ∀ q : Nat, s.heap.size ≤ q → A q := fun q h => by rw [← hAe]; exact Or.inr h
  have hS : va_S A s.heap s.heap [] := va_S.rf
  have hl := lv_entry ([.ref qp, .int a0]) (n := 2) (Nat.le_of_ble_eq_true rfl)
  rw [lg_entry_eq]
  generalize (lg_sl ([.ref qp, .int a0]) ++ List.replicate (2 - (lg_sl ([.ref qp, .int a0])).length) Slot.unset).toArray = ls at hl ⊢
  have hl : lv_has ls 2 [(0, .ref qp), (1, .int a0)] := hl
  refine lv_iload_n hx hb d_Pr_special_0 rfl (lv_at hl 1 rfl) ?_
  refine zz_Si (As := [.int a0]) (rest := []) X (c_Pr_function l a0 _ h) ⟨rfl, rfl⟩ m_Pr_function k_Pr_136 ⟨Nat.le_of_ble_eq_true rfl, Nat.le_of_ble_eq_true rfl⟩ rfl hl.1 rfl (Nat.le_of_ble_eq_true rfl) d_Pr_special_1 hf0 (fun r_1 h => ?_)
  refine lv_iconst (v := 3) hx hb d_Pr_special_4 (by decide) ?_
  refine zz_iushr hx hb d_Pr_special_5 ?_
  by_cases c_2 : (zz_ushr r_1 (3 : Int32)) = (0 : Int32)
  · have h := h.1 c_2
    have h0 := c_2
    refine lv_tableIn (off := 42) (tgt := 48) hx hb d_Pr_special_6 (by rw [h0]; decide) (by rw [h0]; decide) (by rw [h0]; rfl) (by decide) ?_
    refine lv_aload_n hx hb d_Pr_special_48 rfl (lv_at hl 0 rfl) ?_
    refine lv_iload_n hx hb d_Pr_special_49 rfl (lv_at hl 1 rfl) ?_
    refine zz_Wi (As := [.int a0]) (rest := []) (wc := wP qp qr qh qm qw qu qf ql qo cI ms mn g rg hq mf cd fg L O) (wr := []) X hK hP hD hS hA (c_Pr_shiftOrMoveOnCondition l D cI qp qr qh qm qw qu qf ql qo ms mn g rg hq mf cd fg L O a0 _ h _) ⟨rfl, rfl⟩ m_Pr_shiftOrMoveOnCondition k_Pr_139 ⟨Nat.le_of_ble_eq_true rfl, Nat.le_of_ble_eq_true rfl⟩ [0, 1, 2, 3, 4, 5, 6, 7, 8] [] rfl rfl (by decide) (by decide) (by decide) 4 0 rfl rfl rfl rfl hl.1 rfl (Nat.le_of_ble_eq_true rfl) d_Pr_special_50 hf0 (fun r_4 u_3 H locs h hP hD hS => ?_)
    have hP : va_P D vwCl (wP qp qr qh qm qw qu qf ql qo cI ms mn u_3.1 u_3.2.1 u_3.2.2.1 u_3.2.2.2.1 u_3.2.2.2.2.1 u_3.2.2.2.2.2.1 u_3.2.2.2.2.2.2.1 u_3.2.2.2.2.2.2.2) H := hP.sub [0, 1, 2, 3, 4, 5, 6, 7, 8] rfl
    have hD : va_D A (wP qp qr qh qm qw qu qf ql qo cI ms mn u_3.1 u_3.2.1 u_3.2.2.1 u_3.2.2.2.1 u_3.2.2.2.2.1 u_3.2.2.2.2.2.1 u_3.2.2.2.2.2.2.1 u_3.2.2.2.2.2.2.2) := hD.sub [0, 1, 2, 3, 4, 5, 6, 7, 8] (by decide) rfl
    exact W.iret (v := r_4) hx hb hr (fun t ht hW => ⟨⟨r_4, (u_3.1, u_3.2.1, u_3.2.2.1, u_3.2.2.2.1, u_3.2.2.2.2.1, u_3.2.2.2.2.2.1, u_3.2.2.2.2.2.2.1, u_3.2.2.2.2.2.2.2), rfl, h, by rw [ht]; exact hP, hD⟩, hS.F ht⟩) hS.2.2 d_Pr_special_53
  · have h := h.2 c_2
    by_cases c_5 : (zz_ushr r_1 (3 : Int32)) = (1 : Int32)
    · have h := h.1 c_5
      have h0 := c_5
      refine lv_tableIn (off := 48) (tgt := 54) hx hb d_Pr_special_6 (by rw [h0]; decide) (by rw [h0]; decide) (by rw [h0]; rfl) (by decide) ?_
      refine lv_aload_n hx hb d_Pr_special_54 rfl (lv_at hl 0 rfl) ?_
      refine lv_iload_n hx hb d_Pr_special_55 rfl (lv_at hl 1 rfl) ?_
      refine zz_Wi (As := [.int a0]) (rest := []) (wc := wP qp qr qh qm qw qu qf ql qo cI ms mn g rg hq mf cd fg L O) (wr := []) X hK hP hD hS hA (c_Pr_jumpOrMoveOrCall l D cI qp qr qh qm qw qu qf ql qo ms mn g rg hq mf cd fg L O a0 _ h _) ⟨rfl, rfl⟩ m_Pr_jumpOrMoveOrCall k_Pr_142 ⟨Nat.le_of_ble_eq_true rfl, Nat.le_of_ble_eq_true rfl⟩ [0, 1, 2, 3, 4, 5, 6, 7, 8] [] rfl rfl (by decide) (by decide) (by decide) 4 0 rfl rfl rfl rfl hl.1 rfl (Nat.le_of_ble_eq_true rfl) d_Pr_special_56 hf0 (fun r_7 u_6 H locs h hP hD hS => ?_)
      have hP : va_P D vwCl (wP qp qr qh qm qw qu qf ql qo cI ms mn u_6.1 u_6.2.1 u_6.2.2.1 u_6.2.2.2.1 u_6.2.2.2.2.1 u_6.2.2.2.2.2.1 u_6.2.2.2.2.2.2.1 u_6.2.2.2.2.2.2.2) H := hP.sub [0, 1, 2, 3, 4, 5, 6, 7, 8] rfl
      have hD : va_D A (wP qp qr qh qm qw qu qf ql qo cI ms mn u_6.1 u_6.2.1 u_6.2.2.1 u_6.2.2.2.1 u_6.2.2.2.2.1 u_6.2.2.2.2.2.1 u_6.2.2.2.2.2.2.1 u_6.2.2.2.2.2.2.2) := hD.sub [0, 1, 2, 3, 4, 5, 6, 7, 8] (by decide) rfl
      exact W.iret (v := r_7) hx hb hr (fun t ht hW => ⟨⟨r_7, (u_6.1, u_6.2.1, u_6.2.2.1, u_6.2.2.2.1, u_6.2.2.2.2.1, u_6.2.2.2.2.2.1, u_6.2.2.2.2.2.2.1, u_6.2.2.2.2.2.2.2), rfl, h, by rw [ht]; exact hP, hD⟩, hS.F ht⟩) hS.2.2 d_Pr_special_59
    · have h := h.2 c_5
      by_cases c_8 : (zz_ushr r_1 (3 : Int32)) = (2 : Int32)
      · have h := h.1 c_8
        have h0 := c_8
        refine lv_tableIn (off := 54) (tgt := 60) hx hb d_Pr_special_6 (by rw [h0]; decide) (by rw [h0]; decide) (by rw [h0]; rfl) (by decide) ?_
        refine lv_aload_n hx hb d_Pr_special_60 rfl (lv_at hl 0 rfl) ?_
        refine lv_iload_n hx hb d_Pr_special_61 rfl (lv_at hl 1 rfl) ?_
        refine zz_Wi (As := [.int a0]) (rest := []) (wc := wP qp qr qh qm qw qu qf ql qo cI ms mn g rg hq mf cd fg L O) (wr := []) X hK hP hD hS hA (c_Pr_moveHiLo l D cI qp qr qh qm qw qu qf ql qo ms mn g rg hq mf cd fg L O a0 _ h _) ⟨rfl, rfl⟩ m_Pr_moveHiLo k_Pr_145 ⟨Nat.le_of_ble_eq_true rfl, Nat.le_of_ble_eq_true rfl⟩ [0, 1, 2, 3, 4, 5, 6, 7, 8] [] rfl rfl (by decide) (by decide) (by decide) 4 0 rfl rfl rfl rfl hl.1 rfl (Nat.le_of_ble_eq_true rfl) d_Pr_special_62 hf0 (fun r_10 u_9 H locs h hP hD hS => ?_)
        have hP : va_P D vwCl (wP qp qr qh qm qw qu qf ql qo cI ms mn u_9.1 u_9.2.1 u_9.2.2.1 u_9.2.2.2.1 u_9.2.2.2.2.1 u_9.2.2.2.2.2.1 u_9.2.2.2.2.2.2.1 u_9.2.2.2.2.2.2.2) H := hP.sub [0, 1, 2, 3, 4, 5, 6, 7, 8] rfl
        have hD : va_D A (wP qp qr qh qm qw qu qf ql qo cI ms mn u_9.1 u_9.2.1 u_9.2.2.1 u_9.2.2.2.1 u_9.2.2.2.2.1 u_9.2.2.2.2.2.1 u_9.2.2.2.2.2.2.1 u_9.2.2.2.2.2.2.2) := hD.sub [0, 1, 2, 3, 4, 5, 6, 7, 8] (by decide) rfl
        exact W.iret (v := r_10) hx hb hr (fun t ht hW => ⟨⟨r_10, (u_9.1, u_9.2.1, u_9.2.2.1, u_9.2.2.2.1, u_9.2.2.2.2.1, u_9.2.2.2.2.2.1, u_9.2.2.2.2.2.2.1, u_9.2.2.2.2.2.2.2), rfl, h, by rw [ht]; exact hP, hD⟩, hS.F ht⟩) hS.2.2 d_Pr_special_65
      · have h := h.2 c_8
        by_cases c_11 : (zz_ushr r_1 (3 : Int32)) = (3 : Int32)
        · have h := h.1 c_11
          have h0 := c_11
          refine lv_tableIn (off := 60) (tgt := 66) hx hb d_Pr_special_6 (by rw [h0]; decide) (by rw [h0]; decide) (by rw [h0]; rfl) (by decide) ?_
          refine lv_aload_n hx hb d_Pr_special_66 rfl (lv_at hl 0 rfl) ?_
          refine lv_iload_n hx hb d_Pr_special_67 rfl (lv_at hl 1 rfl) ?_
          refine zz_Wi (As := [.int a0]) (rest := []) (wc := wP qp qr qh qm qw qu qf ql qo cI ms mn g rg hq mf cd fg L O) (wr := []) X hK hP hD hS hA (c_Pr_multiplyOrDivide l D cI qp qr qh qm qw qu qf ql qo ms mn g rg hq mf cd fg L O a0 _ h _) ⟨rfl, rfl⟩ m_Pr_multiplyOrDivide k_Pr_148 ⟨Nat.le_of_ble_eq_true rfl, Nat.le_of_ble_eq_true rfl⟩ [0, 1, 2, 3, 4, 5, 6, 7, 8] [] rfl rfl (by decide) (by decide) (by decide) 4 0 rfl rfl rfl rfl hl.1 rfl (Nat.le_of_ble_eq_true rfl) d_Pr_special_68 hf0 (fun r_13 u_12 H locs h hP hD hS => ?_)
          have hP : va_P D vwCl (wP qp qr qh qm qw qu qf ql qo cI ms mn u_12.1 u_12.2.1 u_12.2.2.1 u_12.2.2.2.1 u_12.2.2.2.2.1 u_12.2.2.2.2.2.1 u_12.2.2.2.2.2.2.1 u_12.2.2.2.2.2.2.2) H := hP.sub [0, 1, 2, 3, 4, 5, 6, 7, 8] rfl
          have hD : va_D A (wP qp qr qh qm qw qu qf ql qo cI ms mn u_12.1 u_12.2.1 u_12.2.2.1 u_12.2.2.2.1 u_12.2.2.2.2.1 u_12.2.2.2.2.2.1 u_12.2.2.2.2.2.2.1 u_12.2.2.2.2.2.2.2) := hD.sub [0, 1, 2, 3, 4, 5, 6, 7, 8] (by decide) rfl
          exact W.iret (v := r_13) hx hb hr (fun t ht hW => ⟨⟨r_13, (u_12.1, u_12.2.1, u_12.2.2.1, u_12.2.2.2.1, u_12.2.2.2.2.1, u_12.2.2.2.2.2.1, u_12.2.2.2.2.2.2.1, u_12.2.2.2.2.2.2.2), rfl, h, by rw [ht]; exact hP, hD⟩, hS.F ht⟩) hS.2.2 d_Pr_special_71
        · have h := h.2 c_11
          by_cases c_14 : (zz_ushr r_1 (3 : Int32)) = (4 : Int32) ∨ (zz_ushr r_1 (3 : Int32)) = (5 : Int32)
          · have h := h.1 c_14
            have h0 := c_14
            refine lv_tableIn (off := 66) (tgt := 72) hx hb d_Pr_special_6 (by rcases h0 with h0 | h0 <;> (rw [h0]; decide)) (by rcases h0 with h0 | h0 <;> (rw [h0]; decide)) (by rcases h0 with h0 | h0 <;> (rw [h0]; rfl)) (by decide) ?_
            refine lv_aload_n hx hb d_Pr_special_72 rfl (lv_at hl 0 rfl) ?_
            refine lv_iload_n hx hb d_Pr_special_73 rfl (lv_at hl 1 rfl) ?_
            refine zz_Wi (As := [.int a0]) (rest := []) (wc := wP qp qr qh qm qw qu qf ql qo cI ms mn g rg hq mf cd fg L O) (wr := []) X hK hP hD hS hA (c_Pr_arithmetic l D cI qp qr qh qm qw qu qf ql qo ms mn g rg hq mf cd fg L O a0 _ h _) ⟨rfl, rfl⟩ m_Pr_arithmetic k_Pr_151 ⟨Nat.le_of_ble_eq_true rfl, Nat.le_of_ble_eq_true rfl⟩ [0, 1, 2, 3, 4, 5, 6, 7, 8] [] rfl rfl (by decide) (by decide) (by decide) 4 0 rfl rfl rfl rfl hl.1 rfl (Nat.le_of_ble_eq_true rfl) d_Pr_special_74 hf0 (fun r_16 u_15 H locs h hP hD hS => ?_)
            have hP : va_P D vwCl (wP qp qr qh qm qw qu qf ql qo cI ms mn u_15.1 u_15.2.1 u_15.2.2.1 u_15.2.2.2.1 u_15.2.2.2.2.1 u_15.2.2.2.2.2.1 u_15.2.2.2.2.2.2.1 u_15.2.2.2.2.2.2.2) H := hP.sub [0, 1, 2, 3, 4, 5, 6, 7, 8] rfl
            have hD : va_D A (wP qp qr qh qm qw qu qf ql qo cI ms mn u_15.1 u_15.2.1 u_15.2.2.1 u_15.2.2.2.1 u_15.2.2.2.2.1 u_15.2.2.2.2.2.1 u_15.2.2.2.2.2.2.1 u_15.2.2.2.2.2.2.2) := hD.sub [0, 1, 2, 3, 4, 5, 6, 7, 8] (by decide) rfl
            exact W.iret (v := r_16) hx hb hr (fun t ht hW => ⟨⟨r_16, (u_15.1, u_15.2.1, u_15.2.2.1, u_15.2.2.2.1, u_15.2.2.2.2.1, u_15.2.2.2.2.2.1, u_15.2.2.2.2.2.2.1, u_15.2.2.2.2.2.2.2), rfl, h, by rw [ht]; exact hP, hD⟩, hS.F ht⟩) hS.2.2 d_Pr_special_77
          · have h := h.2 c_14
            by_cases c_17 : (zz_ushr r_1 (3 : Int32)) = (6 : Int32)
            · have h := h.1 c_17
              have h0 := c_17
              refine lv_tableIn (off := 72) (tgt := 78) hx hb d_Pr_special_6 (by rw [h0]; decide) (by rw [h0]; decide) (by rw [h0]; rfl) (by decide) ?_
              refine lv_aload_n hx hb d_Pr_special_78 rfl (lv_at hl 0 rfl) ?_
              refine lv_iload_n hx hb d_Pr_special_79 rfl (lv_at hl 1 rfl) ?_
              refine zz_Si (As := [.int a0]) (rest := [.ref qp]) X (c_Pr_function l a0 _ h) ⟨rfl, rfl⟩ m_Pr_function k_Pr_136 ⟨Nat.le_of_ble_eq_true rfl, Nat.le_of_ble_eq_true rfl⟩ rfl hl.1 rfl (Nat.le_of_ble_eq_true rfl) d_Pr_special_80 hf0 (fun r_18 h => ?_)
              refine lv_bipush (v := 7) hx hb d_Pr_special_83 (by decide) ?_
              refine lv_iand hx hb d_Pr_special_85 ?_
              refine lv_aload_n hx hb d_Pr_special_86 rfl (lv_at hl 0 rfl) ?_
              refine g_Pr_9 (v := .ref qr) hx hb hT hown hK hP 0 rfl rfl d_Pr_special_87 ?_
              refine lv_iload_n hx hb d_Pr_special_90 rfl (lv_at hl 1 rfl) ?_
              refine zz_Si (As := [.int a0]) (rest := [.ref qr, .int (r_18 &&& (7 : Int32)), .ref qp]) X (c_Pr_rs l a0 _ h) ⟨rfl, rfl⟩ m_Pr_rs k_Pr_83 ⟨Nat.le_of_ble_eq_true rfl, Nat.le_of_ble_eq_true rfl⟩ rfl hl.1 rfl (Nat.le_of_ble_eq_true rfl) d_Pr_special_91 hf0 (fun r_19 h => ?_)
              refine va_iald (f := rg) hx hb hK hP 1 0 rfl rfl h.1 d_Pr_special_94 ?_
              have h := h.2
              refine lv_topi (fun x_20 ex_20 => ?_)
              have h := h x_20 ex_20
              refine lv_aload_n hx hb d_Pr_special_95 rfl (lv_at hl 0 rfl) ?_
              refine g_Pr_9 (v := .ref qr) hx hb hT hown hK hP 0 rfl rfl d_Pr_special_96 ?_
              refine lv_iload_n hx hb d_Pr_special_99 rfl (lv_at hl 1 rfl) ?_
              refine zz_Si (As := [.int a0]) (rest := [.ref qr, .int x_20, .int (r_18 &&& (7 : Int32)), .ref qp]) X (c_Pr_rt l a0 _ h) ⟨rfl, rfl⟩ m_Pr_rt k_Pr_89 ⟨Nat.le_of_ble_eq_true rfl, Nat.le_of_ble_eq_true rfl⟩ rfl hl.1 rfl (Nat.le_of_ble_eq_true rfl) d_Pr_special_100 hf0 (fun r_21 h => ?_)
              refine va_iald (f := rg) hx hb hK hP 1 0 rfl rfl h.1 d_Pr_special_103 ?_
              have h := h.2
              refine lv_topi (fun x_22 ex_22 => ?_)
              have h := h x_22 ex_22
              refine zz_Ri (As := [.int (r_18 &&& (7 : Int32)), .int x_20, .int x_22]) (rest := []) (wc := wP qp qr qh qm qw qu qf ql qo cI ms mn g rg hq mf cd fg L O) X hK hP (c_Pr_trap l D cI qp qr qh qm qw qu qf ql qo ms mn g rg hq mf cd fg L O (r_18 &&& (7 : Int32)) x_20 x_22 _ h) ⟨rfl, rfl⟩ m_Pr_trap k_Pr_154 ⟨Nat.le_of_ble_eq_true rfl, Nat.le_of_ble_eq_true rfl⟩ [0, 1, 2, 3, 4, 5, 6, 7, 8] rfl 4 0 rfl rfl rfl rfl hl.1 rfl (Nat.le_of_ble_eq_true rfl) d_Pr_special_104 hf0 (fun r_23 h => ?_)
              exact W.iret (v := r_23) hx hb hr (fun t ht hW => ⟨⟨r_23, (g, rg, hq, mf, cd, fg, L, O), rfl, h, by rw [ht]; exact hP, hD⟩, hS.F ht⟩) hS.2.2 d_Pr_special_107
            · have h := h.2 c_17
              refine zz_swD (tgt := 108) hx hb [0, 1, 2, 3, 4, 5, 6] d_Pr_special_6 (by decide +kernel) (by decide) (List.forall_mem_cons.mpr ⟨lv_neT (k := 0) c_2 (by decide), List.forall_mem_cons.mpr ⟨lv_neT (k := 1) c_5 (by decide), List.forall_mem_cons.mpr ⟨lv_neT (k := 2) c_8 (by decide), List.forall_mem_cons.mpr ⟨lv_neT (k := 3) c_11 (by decide), List.forall_mem_cons.mpr ⟨lv_neT (k := 4) (fun q => c_14 (Or.inl q)) (by decide), List.forall_mem_cons.mpr ⟨lv_neT (k := 5) (fun q => c_14 (Or.inr (q))) (by decide), List.forall_mem_cons.mpr ⟨lv_neT (k := 6) c_17 (by decide), fun _ h9 => nomatch h9⟩⟩⟩⟩⟩⟩⟩) (by decide) ?_
              refine lv_iconst (v := 3) hx hb d_Pr_special_108 (by decide) ?_
              exact W.iret (v := (3 : Int32)) hx hb hr (fun t ht hW => ⟨⟨(3 : Int32), (g, rg, hq, mf, cd, fg, L, O), rfl, h, by rw [ht]; exact hP, hD⟩, hS.F ht⟩) hS.2.2 d_Pr_special_109
def wp_Pr_branch (ms : Int32) (mn : Nat) (g : Nat → Int32) (rg : Nat → Int32) (hq : Nat → Int32) (mf : Nat → Int32) (cd : Int32) (fg : Nat → Int32) (L : Int32 × Int32 × Int32 × Int64) (O : Int32 × Int32 × Int32 × Int64) (a0 : Int32) (a1 : Int32) (a2 : Int32) (P : Int32 → ((Nat → Int32) × (Nat → Int32) × (Nat → Int32) × (Nat → Int32) × Int32 × (Nat → Int32) × (Int32 × Int32 × Int32 × Int64) × (Int32 × Int32 × Int32 × Int64)) → Prop) : Prop := ((a1 = (0 : Int32) → ((a2 = (0 : Int32) → wp_Pr_move ms mn g rg hq mf cd fg L O (g 1) ((g 1) + (4 : Int32)) (1 : Int32) (fun u_3 => P (-1 : Int32) (u_3.1, u_3.2.1, u_3.2.2.1, u_3.2.2.2.1, u_3.2.2.2.2.1, u_3.2.2.2.2.2.1, u_3.2.2.2.2.2.2.1, u_3.2.2.2.2.2.2.2))) ∧ (¬ a2 = (0 : Int32) → ∀ x_5 : Int32, x_5 = ((g 11) + (1 : Int32)) → wp_Pr_move ms mn (upd g 11 x_5) rg hq mf cd fg L O ((g 1) + (4 : Int32)) ((g 1) + (8 : Int32)) (0 : Int32) (fun u_6 => P (-1 : Int32) (u_6.1, u_6.2.1, u_6.2.2.1, u_6.2.2.2.1, u_6.2.2.2.2.1, u_6.2.2.2.2.2.1, u_6.2.2.2.2.2.2.1, u_6.2.2.2.2.2.2.2))))) ∧ (¬ a1 = (0 : Int32) → wp_Pr_signed a0 (fun r_8 => ∀ x_9 : Int32, x_9 = ((g 1) + (zz_shl r_8 (2 : Int32))) → wp_Pr_leave ms mn g rg hq mf cd fg L O x_9 (fun r_11 u_10 => P r_11 (u_10.1, u_10.2.1, u_10.2.2.1, u_10.2.2.2.1, u_10.2.2.2.2.1, u_10.2.2.2.2.2.1, u_10.2.2.2.2.2.2.1, u_10.2.2.2.2.2.2.2)))))
abbrev rm_Pr_branch : Room := { frames := 2, cells := 0, slots := 0, locals := 44 }
set_option maxHeartbeats 4000000 in
set_option maxRecDepth 100000 in
theorem c_Pr_branch (l : Launch) (D : va_G) (cI : ClassId) (qp : Nat) (qr : Nat) (qh : Nat) (qm : Nat) (qw : Nat) (qu : Nat) (qf : Nat) (ql : Nat) (qo : Nat) (ms : Int32) (mn : Nat) (g : Nat → Int32) (rg : Nat → Int32) (hq : Nat → Int32) (mf : Nat → Int32) (cd : Int32) (fg : Nat → Int32) (L : Int32 × Int32 × Int32 × Int64) (O : Int32 × Int32 × Int32 × Int64) (a0 : Int32) (a1 : Int32) (a2 : Int32) (P : Int32 → ((Nat → Int32) × (Nat → Int32) × (Nat → Int32) × (Nat → Int32) × Int32 × (Nat → Int32) × (Int32 × Int32 × Int32 × Int64) × (Int32 × Int32 × Int32 × Int64)) → Prop) (h : wp_Pr_branch ms mn g rg hq mf cd fg L O a0 a1 a2 P) (sz : Nat) : Met l y_Pr_branch (zz_ws y_Pr_branch b_Pr_branch 4 (some .int)) rm_Pr_branch (va_Pc [.ref qp, .int a0, .int a1, .int a2] (zz_pw D [(cI, .int)] (wP qp qr qh qm qw qu qf ql qo cI ms mn g rg hq mf cd fg L O) sz)) (va_Qi P (zz_qw D (fun u => wP qp qr qh qm qw qu qf ql qo cI ms mn u.1 u.2.1 u.2.2.1 u.2.2.2.1 u.2.2.2.2.1 u.2.2.2.2.2.1 u.2.2.2.2.2.2.1 u.2.2.2.2.2.2.2) (va_A (wP qp qr qh qm qw qu qf ql qo cI ms mn g rg hq mf cd fg L O) sz)) (va_A (wP qp qr qh qm qw qu qf ql qo cI ms mn g rg hq mf cd fg L O) sz)) 0 0 (va_A (wP qp qr qh qm qw qu qf ql qo cI ms mn g rg hq mf cd fg L O) sz) := by
  refine Met.ofW (cc := b_Pr_branch) (maxL := 4) (ret := (some .int)) (by decide) rfl ?_
  intro p e s m args below meth c s₁ B hml hv
  obtain ⟨rfl, hsz, hP, hK, hD0⟩ := hv
  have hx := B.exec
  have hb := B.bytes
  have hr := B.returns
  have hts := atoms_spec (ws := (zz_ws y_Pr_branch b_Pr_branch 4 (some .int))) B.pre
  have hown : s.vm.findClass R_Pr = some m.cls := findClass_of_methodNamed B.named
  have hlocks := B.notSynchronized
  have hT := zz_hts hts
  have X : CallFix p m c b_Pr_branch 4 s ([.ref qp, .int a0, .int a1, .int a2] : List Value).toArray (zz_ws y_Pr_branch b_Pr_branch 4 (some .int)) R_Pr := ⟨hx, hb, hml, hown, hts⟩
  have hf0 : 0 + 0 ≤ (headSpec (zz_ws y_Pr_branch b_Pr_branch 4 (some .int)) rm_Pr_branch).room.cells ∧ 0 + 0 ≤ (headSpec (zz_ws y_Pr_branch b_Pr_branch 4 (some .int)) rm_Pr_branch).room.slots := ⟨Nat.le_of_ble_eq_true rfl, Nat.le_of_ble_eq_true rfl⟩
  subst hsz
  have hD := hD0.self (sz := s.heap.size)
  generalize hAe : va_A (wP qp qr qh qm qw qu qf ql qo cI ms mn g rg hq mf cd fg L O) s.heap.size = A at hD ⊢
  have hA : ∀ q : Nat, s.heap.size ≤ q → A q := fun q h => by rw [← hAe]; exact Or.inr h
  have hS : va_S A s.heap s.heap [] := va_S.rf
  have hl := lv_entry ([.ref qp, .int a0, .int a1, .int a2]) (n := 4) (Nat.le_of_ble_eq_true rfl)
  rw [lg_entry_eq]
  generalize (lg_sl ([.ref qp, .int a0, .int a1, .int a2]) ++ List.replicate (4 - (lg_sl ([.ref qp, .int a0, .int a1, .int a2])).length) Slot.unset).toArray = ls at hl ⊢
  have hl : lv_has ls 4 [(0, .ref qp), (1, .int a0), (2, .int a1), (3, .int a2)] := hl
  refine lv_iload_n hx hb d_Pr_branch_0 rfl (lv_at hl 2 rfl) ?_
  refine lv_if_eq (tgt := 20) hx hb d_Pr_branch_1 (by decide) (fun c_1 => ?_) (fun c_1 => ?_)
  · skip
    have h := h.1 c_1
    refine lv_iload_n hx hb d_Pr_branch_20 rfl (lv_at hl 3 rfl) ?_
    refine lv_if_eq (tgt := 55) hx hb d_Pr_branch_21 (by decide) (fun c_2 => ?_) (fun c_2 => ?_)
    · skip
      have h := h.1 c_2
      refine lv_aload_n hx hb d_Pr_branch_55 rfl (lv_at hl 0 rfl) ?_
      refine lv_aload_n hx hb d_Pr_branch_56 rfl (lv_at hl 0 rfl) ?_
      refine g_Pr_29 (v := .int (g 1)) hx hb hT hown hK hP 0 rfl rfl d_Pr_branch_57 ?_
      refine lv_aload_n hx hb d_Pr_branch_60 rfl (lv_at hl 0 rfl) ?_
      refine g_Pr_29 (v := .int (g 1)) hx hb hT hown hK hP 0 rfl rfl d_Pr_branch_61 ?_
      refine lv_iconst (v := 4) hx hb d_Pr_branch_64 (by decide) ?_
      refine lv_iadd hx hb d_Pr_branch_65 ?_
      refine lv_iconst (v := 1) hx hb d_Pr_branch_66 (by decide) ?_
      refine zz_Wv (As := [.int (g 1), .int ((g 1) + (4 : Int32)), .int (1 : Int32)]) (rest := []) (wc := wP qp qr qh qm qw qu qf ql qo cI ms mn g rg hq mf cd fg L O) (wr := []) X hK hP hD hS hA (c_Pr_move l D cI qp qr qh qm qw qu qf ql qo ms mn g rg hq mf cd fg L O (g 1) ((g 1) + (4 : Int32)) (1 : Int32) _ h _) ⟨rfl, rfl⟩ m_Pr_move k_Pr_37 ⟨Nat.le_of_ble_eq_true rfl, Nat.le_of_ble_eq_true rfl⟩ [0, 1, 2, 3, 4, 5, 6, 7, 8] [] rfl rfl (by decide) (by decide) (by decide) 4 0 rfl rfl rfl rfl hl.1 rfl (Nat.le_of_ble_eq_true rfl) d_Pr_branch_67 hf0 (fun u_3 H locs h hP hD hS => ?_)
      have hP : va_P D vwCl (wP qp qr qh qm qw qu qf ql qo cI ms mn u_3.1 u_3.2.1 u_3.2.2.1 u_3.2.2.2.1 u_3.2.2.2.2.1 u_3.2.2.2.2.2.1 u_3.2.2.2.2.2.2.1 u_3.2.2.2.2.2.2.2) H := hP.sub [0, 1, 2, 3, 4, 5, 6, 7, 8] rfl
      have hD : va_D A (wP qp qr qh qm qw qu qf ql qo cI ms mn u_3.1 u_3.2.1 u_3.2.2.1 u_3.2.2.2.1 u_3.2.2.2.2.1 u_3.2.2.2.2.2.1 u_3.2.2.2.2.2.2.1 u_3.2.2.2.2.2.2.2) := hD.sub [0, 1, 2, 3, 4, 5, 6, 7, 8] (by decide) rfl
      refine lv_iconst (v := -1) hx hb d_Pr_branch_70 (by decide) ?_
      exact W.iret (v := (-1 : Int32)) hx hb hr (fun t ht hW => ⟨⟨(-1 : Int32), (u_3.1, u_3.2.1, u_3.2.2.1, u_3.2.2.2.1, u_3.2.2.2.2.1, u_3.2.2.2.2.2.1, u_3.2.2.2.2.2.2.1, u_3.2.2.2.2.2.2.2), rfl, h, by rw [ht]; exact hP, hD⟩, hS.F ht⟩) hS.2.2 d_Pr_branch_71
    · skip
      have h := h.2 c_2
      refine lv_aload_n hx hb d_Pr_branch_24 rfl (lv_at hl 0 rfl) ?_
      refine lv_dup hx hb d_Pr_branch_25 rfl ?_
      refine g_Pr_253 (v := .int (g 11)) hx hb hT hown hK hP 0 rfl rfl d_Pr_branch_26 ?_
      refine lv_iconst (v := 1) hx hb d_Pr_branch_29 (by decide) ?_
      refine lv_iadd hx hb d_Pr_branch_30 ?_
      refine lv_topi (fun x_5 ex_5 => ?_)
      have h := h x_5 ex_5
      refine p_Pr_253 hx hb hT hown hK hP hD hS 0 rfl rfl d_Pr_branch_31 (fun H locs (hP : va_P D vwCl (wP qp qr qh qm qw qu qf ql qo cI ms mn (upd g 11 x_5) rg hq mf cd fg L O) H) (hD : va_D A (wP qp qr qh qm qw qu qf ql qo cI ms mn (upd g 11 x_5) rg hq mf cd fg L O)) hS => ?_)
      refine lv_aload_n hx hb d_Pr_branch_34 rfl (lv_at hl 0 rfl) ?_
      refine lv_aload_n hx hb d_Pr_branch_35 rfl (lv_at hl 0 rfl) ?_
      refine g_Pr_29 (v := .int (g 1)) hx hb hT hown hK hP 0 rfl rfl d_Pr_branch_36 ?_
      refine lv_iconst (v := 4) hx hb d_Pr_branch_39 (by decide) ?_
      refine lv_iadd hx hb d_Pr_branch_40 ?_
      refine lv_aload_n hx hb d_Pr_branch_41 rfl (lv_at hl 0 rfl) ?_
      refine g_Pr_29 (v := .int (g 1)) hx hb hT hown hK hP 0 rfl rfl d_Pr_branch_42 ?_
      refine lv_bipush (v := 8) hx hb d_Pr_branch_45 (by decide) ?_
      refine lv_iadd hx hb d_Pr_branch_47 ?_
      refine lv_iconst (v := 0) hx hb d_Pr_branch_48 (by decide) ?_
      refine zz_Wv (As := [.int ((g 1) + (4 : Int32)), .int ((g 1) + (8 : Int32)), .int (0 : Int32)]) (rest := []) (wc := wP qp qr qh qm qw qu qf ql qo cI ms mn (upd g 11 x_5) rg hq mf cd fg L O) (wr := []) X hK hP hD hS hA (c_Pr_move l D cI qp qr qh qm qw qu qf ql qo ms mn (upd g 11 x_5) rg hq mf cd fg L O ((g 1) + (4 : Int32)) ((g 1) + (8 : Int32)) (0 : Int32) _ h _) ⟨rfl, rfl⟩ m_Pr_move k_Pr_37 ⟨Nat.le_of_ble_eq_true rfl, Nat.le_of_ble_eq_true rfl⟩ [0, 1, 2, 3, 4, 5, 6, 7, 8] [] rfl rfl (by decide) (by decide) (by decide) 4 0 rfl rfl rfl rfl hl.1 rfl (Nat.le_of_ble_eq_true rfl) d_Pr_branch_49 hf0 (fun u_6 H locs h hP hD hS => ?_)
      have hP : va_P D vwCl (wP qp qr qh qm qw qu qf ql qo cI ms mn u_6.1 u_6.2.1 u_6.2.2.1 u_6.2.2.2.1 u_6.2.2.2.2.1 u_6.2.2.2.2.2.1 u_6.2.2.2.2.2.2.1 u_6.2.2.2.2.2.2.2) H := hP.sub [0, 1, 2, 3, 4, 5, 6, 7, 8] rfl
      have hD : va_D A (wP qp qr qh qm qw qu qf ql qo cI ms mn u_6.1 u_6.2.1 u_6.2.2.1 u_6.2.2.2.1 u_6.2.2.2.2.1 u_6.2.2.2.2.2.1 u_6.2.2.2.2.2.2.1 u_6.2.2.2.2.2.2.2) := hD.sub [0, 1, 2, 3, 4, 5, 6, 7, 8] (by decide) rfl
      refine lv_goto (tgt := 70) hx hb d_Pr_branch_52 (by decide) ?_
      refine lv_iconst (v := -1) hx hb d_Pr_branch_70 (by decide) ?_
      exact W.iret (v := (-1 : Int32)) hx hb hr (fun t ht hW => ⟨⟨(-1 : Int32), (u_6.1, u_6.2.1, u_6.2.2.1, u_6.2.2.2.1, u_6.2.2.2.2.1, u_6.2.2.2.2.2.1, u_6.2.2.2.2.2.2.1, u_6.2.2.2.2.2.2.2), rfl, h, by rw [ht]; exact hP, hD⟩, hS.F ht⟩) hS.2.2 d_Pr_branch_71
  · skip
    have h := h.2 c_1
    refine lv_aload_n hx hb d_Pr_branch_4 rfl (lv_at hl 0 rfl) ?_
    refine lv_aload_n hx hb d_Pr_branch_5 rfl (lv_at hl 0 rfl) ?_
    refine g_Pr_29 (v := .int (g 1)) hx hb hT hown hK hP 0 rfl rfl d_Pr_branch_6 ?_
    refine lv_iload_n hx hb d_Pr_branch_9 rfl (lv_at hl 1 rfl) ?_
    refine zz_Si (As := [.int a0]) (rest := [.int (g 1), .ref qp]) X (c_Pr_signed l a0 _ h) ⟨rfl, rfl⟩ m_Pr_signed k_Pr_221 ⟨Nat.le_of_ble_eq_true rfl, Nat.le_of_ble_eq_true rfl⟩ rfl hl.1 rfl (Nat.le_of_ble_eq_true rfl) d_Pr_branch_10 hf0 (fun r_8 h => ?_)
    refine lv_iconst (v := 2) hx hb d_Pr_branch_13 (by decide) ?_
    refine zz_ishl hx hb d_Pr_branch_14 ?_
    refine lv_iadd hx hb d_Pr_branch_15 ?_
    refine lv_topi (fun x_9 ex_9 => ?_)
    have h := h x_9 ex_9
    refine zz_Wi (As := [.int x_9]) (rest := []) (wc := wP qp qr qh qm qw qu qf ql qo cI ms mn g rg hq mf cd fg L O) (wr := []) X hK hP hD hS hA (c_Pr_leave l D cI qp qr qh qm qw qu qf ql qo ms mn g rg hq mf cd fg L O x_9 _ h _) ⟨rfl, rfl⟩ m_Pr_leave k_Pr_172 ⟨Nat.le_of_ble_eq_true rfl, Nat.le_of_ble_eq_true rfl⟩ [0, 1, 2, 3, 4, 5, 6, 7, 8] [] rfl rfl (by decide) (by decide) (by decide) 4 0 rfl rfl rfl rfl hl.1 rfl (Nat.le_of_ble_eq_true rfl) d_Pr_branch_16 hf0 (fun r_11 u_10 H locs h hP hD hS => ?_)
    have hP : va_P D vwCl (wP qp qr qh qm qw qu qf ql qo cI ms mn u_10.1 u_10.2.1 u_10.2.2.1 u_10.2.2.2.1 u_10.2.2.2.2.1 u_10.2.2.2.2.2.1 u_10.2.2.2.2.2.2.1 u_10.2.2.2.2.2.2.2) H := hP.sub [0, 1, 2, 3, 4, 5, 6, 7, 8] rfl
    have hD : va_D A (wP qp qr qh qm qw qu qf ql qo cI ms mn u_10.1 u_10.2.1 u_10.2.2.1 u_10.2.2.2.1 u_10.2.2.2.2.1 u_10.2.2.2.2.2.1 u_10.2.2.2.2.2.2.1 u_10.2.2.2.2.2.2.2) := hD.sub [0, 1, 2, 3, 4, 5, 6, 7, 8] (by decide) rfl
    exact W.iret (v := r_11) hx hb hr (fun t ht hW => ⟨⟨r_11, (u_10.1, u_10.2.1, u_10.2.2.1, u_10.2.2.2.1, u_10.2.2.2.2.1, u_10.2.2.2.2.2.1, u_10.2.2.2.2.2.2.1, u_10.2.2.2.2.2.2.2), rfl, h, by rw [ht]; exact hP, hD⟩, hS.F ht⟩) hS.2.2 d_Pr_branch_19
def wp_Pr_branchOnSign (ms : Int32) (mn : Nat) (g : Nat → Int32) (rg : Nat → Int32) (hq : Nat → Int32) (mf : Nat → Int32) (cd : Int32) (fg : Nat → Int32) (L : Int32 × Int32 × Int32 × Int64) (O : Int32 × Int32 × Int32 × Int64) (a0 : Int32) (P : Int32 → ((Nat → Int32) × (Nat → Int32) × (Nat → Int32) × (Nat → Int32) × Int32 × (Nat → Int32) × (Int32 × Int32 × Int32 × Int64) × (Int32 × Int32 × Int32 × Int64)) → Prop) : Prop := wp_Pr_rt a0 (fun r_1 => ((r_1 < (16 : Int32) → (((g 2) = (0 : Int32) → wp_Pr_rs a0 (fun r_5 => vp_in r_5 32 ∧ ∀ x_6 : Int32, x_6 = (rg r_5.toNatClampNeg) → (((0 : Int32) ≤ x_6 → wp_Pr_rt a0 (fun r_9 => (((r_9 &&& (1 : Int32)) = (0 : Int32) → wp_Pr_rt a0 (fun r_19 => (((r_19 &&& (2 : Int32)) = (0 : Int32) → wp_Pr_branch ms mn g rg hq mf cd fg L O a0 (0 : Int32) (0 : Int32) (fun r_22 u_21 => P r_22 (u_21.1, u_21.2.1, u_21.2.2.1, u_21.2.2.2.1, u_21.2.2.2.2.1, u_21.2.2.2.2.2.1, u_21.2.2.2.2.2.2.1, u_21.2.2.2.2.2.2.2))) ∧ (¬ (r_19 &&& (2 : Int32)) = (0 : Int32) → wp_Pr_branch ms mn g rg hq mf cd fg L O a0 (0 : Int32) (1 : Int32) (fun r_24 u_23 => P r_24 (u_23.1, u_23.2.1, u_23.2.2.1, u_23.2.2.2.1, u_23.2.2.2.2.1, u_23.2.2.2.2.2.1, u_23.2.2.2.2.2.2.1, u_23.2.2.2.2.2.2.2)))))) ∧ (¬ (r_9 &&& (1 : Int32)) = (0 : Int32) → wp_Pr_rt a0 (fun r_12 => (((r_12 &&& (2 : Int32)) = (0 : Int32) → wp_Pr_branch ms mn g rg hq mf cd fg L O a0 (1 : Int32) (0 : Int32) (fun r_15 u_14 => P r_15 (u_14.1, u_14.2.1, u_14.2.2.1, u_14.2.2.2.1, u_14.2.2.2.2.1, u_14.2.2.2.2.2.1, u_14.2.2.2.2.2.2.1, u_14.2.2.2.2.2.2.2))) ∧ (¬ (r_12 &&& (2 : Int32)) = (0 : Int32) → wp_Pr_branch ms mn g rg hq mf cd fg L O a0 (1 : Int32) (1 : Int32) (fun r_17 u_16 => P r_17 (u_16.1, u_16.2.1, u_16.2.2.1, u_16.2.2.2.1, u_16.2.2.2.2.1, u_16.2.2.2.2.2.1, u_16.2.2.2.2.2.2.1, u_16.2.2.2.2.2.2.2))))))))) ∧ (¬ (0 : Int32) ≤ x_6 → wp_Pr_rt a0 (fun r_26 => (((r_26 &&& (1 : Int32)) = (0 : Int32) → wp_Pr_rt a0 (fun r_36 => (((r_36 &&& (2 : Int32)) = (0 : Int32) → wp_Pr_branch ms mn g rg hq mf cd fg L O a0 (1 : Int32) (0 : Int32) (fun r_39 u_38 => P r_39 (u_38.1, u_38.2.1, u_38.2.2.1, u_38.2.2.2.1, u_38.2.2.2.2.1, u_38.2.2.2.2.2.1, u_38.2.2.2.2.2.2.1, u_38.2.2.2.2.2.2.2))) ∧ (¬ (r_36 &&& (2 : Int32)) = (0 : Int32) → wp_Pr_branch ms mn g rg hq mf cd fg L O a0 (1 : Int32) (1 : Int32) (fun r_41 u_40 => P r_41 (u_40.1, u_40.2.1, u_40.2.2.1, u_40.2.2.2.1, u_40.2.2.2.2.1, u_40.2.2.2.2.2.1, u_40.2.2.2.2.2.2.1, u_40.2.2.2.2.2.2.2)))))) ∧ (¬ (r_26 &&& (1 : Int32)) = (0 : Int32) → wp_Pr_rt a0 (fun r_29 => (((r_29 &&& (2 : Int32)) = (0 : Int32) → wp_Pr_branch ms mn g rg hq mf cd fg L O a0 (0 : Int32) (0 : Int32) (fun r_32 u_31 => P r_32 (u_31.1, u_31.2.1, u_31.2.2.1, u_31.2.2.2.1, u_31.2.2.2.2.1, u_31.2.2.2.2.2.1, u_31.2.2.2.2.2.2.1, u_31.2.2.2.2.2.2.2))) ∧ (¬ (r_29 &&& (2 : Int32)) = (0 : Int32) → wp_Pr_branch ms mn g rg hq mf cd fg L O a0 (0 : Int32) (1 : Int32) (fun r_34 u_33 => P r_34 (u_33.1, u_33.2.1, u_33.2.2.1, u_33.2.2.2.1, u_33.2.2.2.2.1, u_33.2.2.2.2.2.1, u_33.2.2.2.2.2.2.1, u_33.2.2.2.2.2.2.2)))))))))))) ∧ (¬ (g 2) = (0 : Int32) → P (8 : Int32) (g, rg, hq, mf, cd, fg, L, O)))) ∧ (¬ r_1 < (16 : Int32) → (((g 2) = (0 : Int32) → wp_Pr_rs a0 (fun r_44 => ((r_44 = (31 : Int32) → P (8 : Int32) (g, rg, hq, mf, cd, fg, L, O)) ∧ (¬ r_44 = (31 : Int32) → wp_Pr_rs a0 (fun r_46 => vp_in r_46 32 ∧ ∀ x_47 : Int32, x_47 = (rg r_46.toNatClampNeg) → (((0 : Int32) ≤ x_47 → wp_Pr_write ms mn g rg hq mf cd fg L O (31 : Int32) ((g 0) + (8 : Int32)) (fun u_50 => wp_Pr_rt a0 (fun r_52 => (((r_52 &&& (1 : Int32)) = (0 : Int32) → wp_Pr_rt a0 (fun r_62 => (((r_62 &&& (2 : Int32)) = (0 : Int32) → wp_Pr_branch ms mn u_50.1 u_50.2.1 u_50.2.2.1 u_50.2.2.2.1 u_50.2.2.2.2.1 u_50.2.2.2.2.2.1 u_50.2.2.2.2.2.2.1 u_50.2.2.2.2.2.2.2 a0 (0 : Int32) (0 : Int32) (fun r_65 u_64 => P r_65 (u_64.1, u_64.2.1, u_64.2.2.1, u_64.2.2.2.1, u_64.2.2.2.2.1, u_64.2.2.2.2.2.1, u_64.2.2.2.2.2.2.1, u_64.2.2.2.2.2.2.2))) ∧ (¬ (r_62 &&& (2 : Int32)) = (0 : Int32) → wp_Pr_branch ms mn u_50.1 u_50.2.1 u_50.2.2.1 u_50.2.2.2.1 u_50.2.2.2.2.1 u_50.2.2.2.2.2.1 u_50.2.2.2.2.2.2.1 u_50.2.2.2.2.2.2.2 a0 (0 : Int32) (1 : Int32) (fun r_67 u_66 => P r_67 (u_66.1, u_66.2.1, u_66.2.2.1, u_66.2.2.2.1, u_66.2.2.2.2.1, u_66.2.2.2.2.2.1, u_66.2.2.2.2.2.2.1, u_66.2.2.2.2.2.2.2)))))) ∧ (¬ (r_52 &&& (1 : Int32)) = (0 : Int32) → wp_Pr_rt a0 (fun r_55 => (((r_55 &&& (2 : Int32)) = (0 : Int32) → wp_Pr_branch ms mn u_50.1 u_50.2.1 u_50.2.2.1 u_50.2.2.2.1 u_50.2.2.2.2.1 u_50.2.2.2.2.2.1 u_50.2.2.2.2.2.2.1 u_50.2.2.2.2.2.2.2 a0 (1 : Int32) (0 : Int32) (fun r_58 u_57 => P r_58 (u_57.1, u_57.2.1, u_57.2.2.1, u_57.2.2.2.1, u_57.2.2.2.2.1, u_57.2.2.2.2.2.1, u_57.2.2.2.2.2.2.1, u_57.2.2.2.2.2.2.2))) ∧ (¬ (r_55 &&& (2 : Int32)) = (0 : Int32) → wp_Pr_branch ms mn u_50.1 u_50.2.1 u_50.2.2.1 u_50.2.2.2.1 u_50.2.2.2.2.1 u_50.2.2.2.2.2.1 u_50.2.2.2.2.2.2.1 u_50.2.2.2.2.2.2.2 a0 (1 : Int32) (1 : Int32) (fun r_60 u_59 => P r_60 (u_59.1, u_59.2.1, u_59.2.2.1, u_59.2.2.2.1, u_59.2.2.2.2.1, u_59.2.2.2.2.2.1, u_59.2.2.2.2.2.2.1, u_59.2.2.2.2.2.2.2)))))))))) ∧ (¬ (0 : Int32) ≤ x_47 → wp_Pr_write ms mn g rg hq mf cd fg L O (31 : Int32) ((g 0) + (8 : Int32)) (fun u_69 => wp_Pr_rt a0 (fun r_71 => (((r_71 &&& (1 : Int32)) = (0 : Int32) → wp_Pr_rt a0 (fun r_81 => (((r_81 &&& (2 : Int32)) = (0 : Int32) → wp_Pr_branch ms mn u_69.1 u_69.2.1 u_69.2.2.1 u_69.2.2.2.1 u_69.2.2.2.2.1 u_69.2.2.2.2.2.1 u_69.2.2.2.2.2.2.1 u_69.2.2.2.2.2.2.2 a0 (1 : Int32) (0 : Int32) (fun r_84 u_83 => P r_84 (u_83.1, u_83.2.1, u_83.2.2.1, u_83.2.2.2.1, u_83.2.2.2.2.1, u_83.2.2.2.2.2.1, u_83.2.2.2.2.2.2.1, u_83.2.2.2.2.2.2.2))) ∧ (¬ (r_81 &&& (2 : Int32)) = (0 : Int32) → wp_Pr_branch ms mn u_69.1 u_69.2.1 u_69.2.2.1 u_69.2.2.2.1 u_69.2.2.2.2.1 u_69.2.2.2.2.2.1 u_69.2.2.2.2.2.2.1 u_69.2.2.2.2.2.2.2 a0 (1 : Int32) (1 : Int32) (fun r_86 u_85 => P r_86 (u_85.1, u_85.2.1, u_85.2.2.1, u_85.2.2.2.1, u_85.2.2.2.2.1, u_85.2.2.2.2.2.1, u_85.2.2.2.2.2.2.1, u_85.2.2.2.2.2.2.2)))))) ∧ (¬ (r_71 &&& (1 : Int32)) = (0 : Int32) → wp_Pr_rt a0 (fun r_74 => (((r_74 &&& (2 : Int32)) = (0 : Int32) → wp_Pr_branch ms mn u_69.1 u_69.2.1 u_69.2.2.1 u_69.2.2.2.1 u_69.2.2.2.2.1 u_69.2.2.2.2.2.1 u_69.2.2.2.2.2.2.1 u_69.2.2.2.2.2.2.2 a0 (0 : Int32) (0 : Int32) (fun r_77 u_76 => P r_77 (u_76.1, u_76.2.1, u_76.2.2.1, u_76.2.2.2.1, u_76.2.2.2.2.1, u_76.2.2.2.2.2.1, u_76.2.2.2.2.2.2.1, u_76.2.2.2.2.2.2.2))) ∧ (¬ (r_74 &&& (2 : Int32)) = (0 : Int32) → wp_Pr_branch ms mn u_69.1 u_69.2.1 u_69.2.2.1 u_69.2.2.2.1 u_69.2.2.2.2.1 u_69.2.2.2.2.2.1 u_69.2.2.2.2.2.2.1 u_69.2.2.2.2.2.2.2 a0 (0 : Int32) (1 : Int32) (fun r_79 u_78 => P r_79 (u_78.1, u_78.2.1, u_78.2.2.1, u_78.2.2.2.1, u_78.2.2.2.2.1, u_78.2.2.2.2.2.1, u_78.2.2.2.2.2.2.1, u_78.2.2.2.2.2.2.2)))))))))))))))) ∧ (¬ (g 2) = (0 : Int32) → P (8 : Int32) (g, rg, hq, mf, cd, fg, L, O))))))
abbrev rm_Pr_branchOnSign : Room := { frames := 3, cells := 0, slots := 0, locals := 67 }
set_option maxHeartbeats 4000000 in
set_option maxRecDepth 100000 in
theorem c_Pr_branchOnSign (l : Launch) (D : va_G) (cI : ClassId) (qp : Nat) (qr : Nat) (qh : Nat) (qm : Nat) (qw : Nat) (qu : Nat) (qf : Nat) (ql : Nat) (qo : Nat) (ms : Int32) (mn : Nat) (g : Nat → Int32) (rg : Nat → Int32) (hq : Nat → Int32) (mf : Nat → Int32) (cd : Int32) (fg : Nat → Int32) (L : Int32 × Int32 × Int32 × Int64) (O : Int32 × Int32 × Int32 × Int64) (a0 : Int32) (P : Int32 → ((Nat → Int32) × (Nat → Int32) × (Nat → Int32) × (Nat → Int32) × Int32 × (Nat → Int32) × (Int32 × Int32 × Int32 × Int64) × (Int32 × Int32 × Int32 × Int64)) → Prop) (h : wp_Pr_branchOnSign ms mn g rg hq mf cd fg L O a0 P) (sz : Nat) : Met l y_Pr_branchOnSign (zz_ws y_Pr_branchOnSign b_Pr_branchOnSign 5 (some .int)) rm_Pr_branchOnSign (va_Pc [.ref qp, .int a0] (zz_pw D [(cI, .int)] (wP qp qr qh qm qw qu qf ql qo cI ms mn g rg hq mf cd fg L O) sz)) (va_Qi P (zz_qw D (fun u => wP qp qr qh qm qw qu qf ql qo cI ms mn u.1 u.2.1 u.2.2.1 u.2.2.2.1 u.2.2.2.2.1 u.2.2.2.2.2.1 u.2.2.2.2.2.2.1 u.2.2.2.2.2.2.2) (va_A (wP qp qr qh qm qw qu qf ql qo cI ms mn g rg hq mf cd fg L O) sz)) (va_A (wP qp qr qh qm qw qu qf ql qo cI ms mn g rg hq mf cd fg L O) sz)) 0 0 (va_A (wP qp qr qh qm qw qu qf ql qo cI ms mn g rg hq mf cd fg L O) sz) := by
  refine Met.ofW (cc := b_Pr_branchOnSign) (maxL := 5) (ret := (some .int)) (by decide) rfl ?_
  intro p e s m args below meth c s₁ B hml hv
  obtain ⟨rfl, hsz, hP, hK, hD0⟩ := hv
  have hx := B.exec
  have hb := B.bytes
  have hr := B.returns
  have hts := atoms_spec (ws := (zz_ws y_Pr_branchOnSign b_Pr_branchOnSign 5 (some .int))) B.pre
  have hown : s.vm.findClass R_Pr = some m.cls := findClass_of_methodNamed B.named
  have hlocks := B.notSynchronized
  have hT := zz_hts hts
  have X : CallFix p m c b_Pr_branchOnSign 5 s ([.ref qp, .int a0] : List Value).toArray (zz_ws y_Pr_branchOnSign b_Pr_branchOnSign 5 (some .int)) R_Pr := ⟨hx, hb, hml, hown, hts⟩
  have hf0 : 0 + 0 ≤ (headSpec (zz_ws y_Pr_branchOnSign b_Pr_branchOnSign 5 (some .int)) rm_Pr_branchOnSign).room.cells ∧ 0 + 0 ≤ (headSpec (zz_ws y_Pr_branchOnSign b_Pr_branchOnSign 5 (some .int)) rm_Pr_branchOnSign).room.slots := ⟨Nat.le_of_ble_eq_true rfl, Nat.le_of_ble_eq_true rfl⟩
  subst hsz
  have hD := hD0.self (sz := s.heap.size)
  generalize hAe : va_A (wP qp qr qh qm qw qu qf ql qo cI ms mn g rg hq mf cd fg L O) s.heap.size = A at hD ⊢
  have hA : ∀ q : Nat, s.heap.size ≤ q → A q := fun q h => by rw [← hAe]; exact Or.inr h
  have hS : va_S A s.heap s.heap [] := va_S.rf
  have hl := lv_entry ([.ref qp, .int a0]) (n := 5) (Nat.le_of_ble_eq_true rfl)
  rw [lg_entry_eq]
  generalize (lg_sl ([.ref qp, .int a0]) ++ List.replicate (5 - (lg_sl ([.ref qp, .int a0])).length) Slot.unset).toArray = ls at hl ⊢
  have hl : lv_has ls 5 [(0, .ref qp), (1, .int a0)] := hl
  refine lv_iload_n hx hb d_Pr_branchOnSign_0 rfl (lv_at hl 1 rfl) ?_
  refine zz_Si (As := [.int a0]) (rest := []) X (c_Pr_rt l a0 _ h) ⟨rfl, rfl⟩ m_Pr_rt k_Pr_89 ⟨Nat.le_of_ble_eq_true rfl, Nat.le_of_ble_eq_true rfl⟩ rfl hl.1 rfl (Nat.le_of_ble_eq_true rfl) d_Pr_branchOnSign_1 hf0 (fun r_1 h => ?_)
  refine lv_bipush (v := 16) hx hb d_Pr_branchOnSign_4 (by decide) ?_
  refine lv_icmp_lt (tgt := 13) hx hb d_Pr_branchOnSign_6 (by decide) (fun c_2 => ?_) (fun c_2 => ?_)
  · skip
    have h := h.1 c_2
    refine lv_iconst (v := 0) hx hb d_Pr_branchOnSign_13 (by decide) ?_
    refine lv_istore_n (lv' := [(2, .int (0 : Int32)), (0, .ref qp), (1, .int a0)]) hx hb d_Pr_branchOnSign_14 rfl hl (by decide) rfl (fun ls hl => ?_)
    refine lv_aload_n hx hb d_Pr_branchOnSign_15 rfl (lv_at hl 1 rfl) ?_
    refine g_Pr_68 (v := .int (g 2)) hx hb hT hown hK hP 0 rfl rfl d_Pr_branchOnSign_16 ?_
    refine lv_if_ne (tgt := 35) hx hb d_Pr_branchOnSign_19 (by decide) (fun c_3 => ?_) (fun c_3 => ?_)
    · skip
      have h := h.2 c_3
      refine lv_bipush (v := 8) hx hb d_Pr_branchOnSign_35 (by decide) ?_
      exact W.iret (v := (8 : Int32)) hx hb hr (fun t ht hW => ⟨⟨(8 : Int32), (g, rg, hq, mf, cd, fg, L, O), rfl, h, by rw [ht]; exact hP, hD⟩, hS.F ht⟩) hS.2.2 d_Pr_branchOnSign_37
    · skip
      have h := h.1 c_3
      refine lv_iload_n hx hb d_Pr_branchOnSign_22 rfl (lv_at hl 0 rfl) ?_
      refine lv_if_eq (tgt := 38) hx hb d_Pr_branchOnSign_23 (by decide) (fun c_4 => ?_) (fun c_4 => ?_)
      · skip
        refine lv_aload_n hx hb d_Pr_branchOnSign_38 rfl (lv_at hl 1 rfl) ?_
        refine g_Pr_9 (v := .ref qr) hx hb hT hown hK hP 0 rfl rfl d_Pr_branchOnSign_39 ?_
        refine lv_iload_n hx hb d_Pr_branchOnSign_42 rfl (lv_at hl 2 rfl) ?_
        refine zz_Si (As := [.int a0]) (rest := [.ref qr]) X (c_Pr_rs l a0 _ h) ⟨rfl, rfl⟩ m_Pr_rs k_Pr_83 ⟨Nat.le_of_ble_eq_true rfl, Nat.le_of_ble_eq_true rfl⟩ rfl hl.1 rfl (Nat.le_of_ble_eq_true rfl) d_Pr_branchOnSign_43 hf0 (fun r_5 h => ?_)
        refine va_iald (f := rg) hx hb hK hP 1 0 rfl rfl h.1 d_Pr_branchOnSign_46 ?_
        have h := h.2
        refine lv_topi (fun x_6 ex_6 => ?_)
        have h := h x_6 ex_6
        refine lv_if_ge (tgt := 54) hx hb d_Pr_branchOnSign_47 (by decide) (fun c_7 => ?_) (fun c_7 => ?_)
        · skip
          have h := h.1 c_7
          refine lv_iconst (v := 0) hx hb d_Pr_branchOnSign_54 (by decide) ?_
          refine lv_istore_n (lv' := [(3, .int (0 : Int32)), (2, .int (0 : Int32)), (0, .ref qp), (1, .int a0)]) hx hb d_Pr_branchOnSign_55 rfl hl (by decide) rfl (fun ls hl => ?_)
          refine lv_iload_n hx hb d_Pr_branchOnSign_56 rfl (lv_at hl 1 rfl) ?_
          refine lv_if_eq (tgt := 73) hx hb d_Pr_branchOnSign_57 (by decide) (fun c_8 => ?_) (fun c_8 => ?_)
          · skip
            refine lv_iload_n hx hb d_Pr_branchOnSign_73 rfl (lv_at hl 3 rfl) ?_
            refine zz_Si (As := [.int a0]) (rest := []) X (c_Pr_rt l a0 _ h) ⟨rfl, rfl⟩ m_Pr_rt k_Pr_89 ⟨Nat.le_of_ble_eq_true rfl, Nat.le_of_ble_eq_true rfl⟩ rfl hl.1 rfl (Nat.le_of_ble_eq_true rfl) d_Pr_branchOnSign_74 hf0 (fun r_9 h => ?_)
            refine lv_iconst (v := 1) hx hb d_Pr_branchOnSign_77 (by decide) ?_
            refine lv_iand hx hb d_Pr_branchOnSign_78 ?_
            refine lv_if_ne (tgt := 86) hx hb d_Pr_branchOnSign_79 (by decide) (fun c_10 => ?_) (fun c_10 => ?_)
            · skip
              have h := h.2 c_10
              refine lv_iconst (v := 0) hx hb d_Pr_branchOnSign_86 (by decide) ?_
              refine lv_istore (lv' := [(4, .int (0 : Int32)), (3, .int (0 : Int32)), (2, .int (0 : Int32)), (0, .ref qp), (1, .int a0)]) hx hb d_Pr_branchOnSign_87 hl (by decide) rfl (fun ls hl => ?_)
              refine lv_aload_n hx hb d_Pr_branchOnSign_89 rfl (lv_at hl 3 rfl) ?_
              refine lv_iload_n hx hb d_Pr_branchOnSign_90 rfl (lv_at hl 4 rfl) ?_
              refine lv_iload_n hx hb d_Pr_branchOnSign_91 rfl (lv_at hl 1 rfl) ?_
              refine lv_iload hx hb d_Pr_branchOnSign_92 (lv_at hl 0 rfl) ?_
              refine lv_icmp_ne (tgt := 101) hx hb d_Pr_branchOnSign_94 (by decide) (fun c_11 => ?_) (fun c_11 => ?_)
              · exact absurd c_11 (by decide)
              · skip
                refine lv_iconst (v := 1) hx hb d_Pr_branchOnSign_97 (by decide) ?_
                refine lv_goto (tgt := 102) hx hb d_Pr_branchOnSign_98 (by decide) ?_
                refine lv_iload_n hx hb d_Pr_branchOnSign_102 rfl (lv_at hl 4 rfl) ?_
                refine zz_Si (As := [.int a0]) (rest := [.int (1 : Int32), .int a0, .ref qp]) X (c_Pr_rt l a0 _ h) ⟨rfl, rfl⟩ m_Pr_rt k_Pr_89 ⟨Nat.le_of_ble_eq_true rfl, Nat.le_of_ble_eq_true rfl⟩ rfl hl.1 rfl (Nat.le_of_ble_eq_true rfl) d_Pr_branchOnSign_103 hf0 (fun r_12 h => ?_)
                refine lv_iconst (v := 2) hx hb d_Pr_branchOnSign_106 (by decide) ?_
                refine lv_iand hx hb d_Pr_branchOnSign_107 ?_
                refine lv_if_eq (tgt := 115) hx hb d_Pr_branchOnSign_108 (by decide) (fun c_13 => ?_) (fun c_13 => ?_)
                · skip
                  have h := h.1 c_13
                  refine lv_iconst (v := 0) hx hb d_Pr_branchOnSign_115 (by decide) ?_
                  refine zz_Wi (As := [.int a0, .int (1 : Int32), .int (0 : Int32)]) (rest := []) (wc := wP qp qr qh qm qw qu qf ql qo cI ms mn g rg hq mf cd fg L O) (wr := []) X hK hP hD hS hA (c_Pr_branch l D cI qp qr qh qm qw qu qf ql qo ms mn g rg hq mf cd fg L O a0 (1 : Int32) (0 : Int32) _ h _) ⟨rfl, rfl⟩ m_Pr_branch k_Pr_249 ⟨Nat.le_of_ble_eq_true rfl, Nat.le_of_ble_eq_true rfl⟩ [0, 1, 2, 3, 4, 5, 6, 7, 8] [] rfl rfl (by decide) (by decide) (by decide) 4 0 rfl rfl rfl rfl hl.1 rfl (Nat.le_of_ble_eq_true rfl) d_Pr_branchOnSign_116 hf0 (fun r_15 u_14 H locs h hP hD hS => ?_)
                  have hP : va_P D vwCl (wP qp qr qh qm qw qu qf ql qo cI ms mn u_14.1 u_14.2.1 u_14.2.2.1 u_14.2.2.2.1 u_14.2.2.2.2.1 u_14.2.2.2.2.2.1 u_14.2.2.2.2.2.2.1 u_14.2.2.2.2.2.2.2) H := hP.sub [0, 1, 2, 3, 4, 5, 6, 7, 8] rfl
                  have hD : va_D A (wP qp qr qh qm qw qu qf ql qo cI ms mn u_14.1 u_14.2.1 u_14.2.2.1 u_14.2.2.2.1 u_14.2.2.2.2.1 u_14.2.2.2.2.2.1 u_14.2.2.2.2.2.2.1 u_14.2.2.2.2.2.2.2) := hD.sub [0, 1, 2, 3, 4, 5, 6, 7, 8] (by decide) rfl
                  exact W.iret (v := r_15) hx hb hr (fun t ht hW => ⟨⟨r_15, (u_14.1, u_14.2.1, u_14.2.2.1, u_14.2.2.2.1, u_14.2.2.2.2.1, u_14.2.2.2.2.2.1, u_14.2.2.2.2.2.2.1, u_14.2.2.2.2.2.2.2), rfl, h, by rw [ht]; exact hP, hD⟩, hS.F ht⟩) hS.2.2 d_Pr_branchOnSign_119
                · skip
                  have h := h.2 c_13
                  refine lv_iconst (v := 1) hx hb d_Pr_branchOnSign_111 (by decide) ?_
                  refine lv_goto (tgt := 116) hx hb d_Pr_branchOnSign_112 (by decide) ?_
                  refine zz_Wi (As := [.int a0, .int (1 : Int32), .int (1 : Int32)]) (rest := []) (wc := wP qp qr qh qm qw qu qf ql qo cI ms mn g rg hq mf cd fg L O) (wr := []) X hK hP hD hS hA (c_Pr_branch l D cI qp qr qh qm qw qu qf ql qo ms mn g rg hq mf cd fg L O a0 (1 : Int32) (1 : Int32) _ h _) ⟨rfl, rfl⟩ m_Pr_branch k_Pr_249 ⟨Nat.le_of_ble_eq_true rfl, Nat.le_of_ble_eq_true rfl⟩ [0, 1, 2, 3, 4, 5, 6, 7, 8] [] rfl rfl (by decide) (by decide) (by decide) 4 0 rfl rfl rfl rfl hl.1 rfl (Nat.le_of_ble_eq_true rfl) d_Pr_branchOnSign_116 hf0 (fun r_17 u_16 H locs h hP hD hS => ?_)
                  have hP : va_P D vwCl (wP qp qr qh qm qw qu qf ql qo cI ms mn u_16.1 u_16.2.1 u_16.2.2.1 u_16.2.2.2.1 u_16.2.2.2.2.1 u_16.2.2.2.2.2.1 u_16.2.2.2.2.2.2.1 u_16.2.2.2.2.2.2.2) H := hP.sub [0, 1, 2, 3, 4, 5, 6, 7, 8] rfl
                  have hD : va_D A (wP qp qr qh qm qw qu qf ql qo cI ms mn u_16.1 u_16.2.1 u_16.2.2.1 u_16.2.2.2.1 u_16.2.2.2.2.1 u_16.2.2.2.2.2.1 u_16.2.2.2.2.2.2.1 u_16.2.2.2.2.2.2.2) := hD.sub [0, 1, 2, 3, 4, 5, 6, 7, 8] (by decide) rfl
                  exact W.iret (v := r_17) hx hb hr (fun t ht hW => ⟨⟨r_17, (u_16.1, u_16.2.1, u_16.2.2.1, u_16.2.2.2.1, u_16.2.2.2.2.1, u_16.2.2.2.2.2.1, u_16.2.2.2.2.2.2.1, u_16.2.2.2.2.2.2.2), rfl, h, by rw [ht]; exact hP, hD⟩, hS.F ht⟩) hS.2.2 d_Pr_branchOnSign_119
            · skip
              have h := h.1 c_10
              refine lv_iconst (v := 1) hx hb d_Pr_branchOnSign_82 (by decide) ?_
              refine lv_goto (tgt := 87) hx hb d_Pr_branchOnSign_83 (by decide) ?_
              refine lv_istore (lv' := [(4, .int (1 : Int32)), (3, .int (0 : Int32)), (2, .int (0 : Int32)), (0, .ref qp), (1, .int a0)]) hx hb d_Pr_branchOnSign_87 hl (by decide) rfl (fun ls hl => ?_)
              refine lv_aload_n hx hb d_Pr_branchOnSign_89 rfl (lv_at hl 3 rfl) ?_
              refine lv_iload_n hx hb d_Pr_branchOnSign_90 rfl (lv_at hl 4 rfl) ?_
              refine lv_iload_n hx hb d_Pr_branchOnSign_91 rfl (lv_at hl 1 rfl) ?_
              refine lv_iload hx hb d_Pr_branchOnSign_92 (lv_at hl 0 rfl) ?_
              refine lv_icmp_ne (tgt := 101) hx hb d_Pr_branchOnSign_94 (by decide) (fun c_18 => ?_) (fun c_18 => ?_)
              · skip
                refine lv_iconst (v := 0) hx hb d_Pr_branchOnSign_101 (by decide) ?_
                refine lv_iload_n hx hb d_Pr_branchOnSign_102 rfl (lv_at hl 4 rfl) ?_
                refine zz_Si (As := [.int a0]) (rest := [.int (0 : Int32), .int a0, .ref qp]) X (c_Pr_rt l a0 _ h) ⟨rfl, rfl⟩ m_Pr_rt k_Pr_89 ⟨Nat.le_of_ble_eq_true rfl, Nat.le_of_ble_eq_true rfl⟩ rfl hl.1 rfl (Nat.le_of_ble_eq_true rfl) d_Pr_branchOnSign_103 hf0 (fun r_19 h => ?_)
                refine lv_iconst (v := 2) hx hb d_Pr_branchOnSign_106 (by decide) ?_
                refine lv_iand hx hb d_Pr_branchOnSign_107 ?_
                refine lv_if_eq (tgt := 115) hx hb d_Pr_branchOnSign_108 (by decide) (fun c_20 => ?_) (fun c_20 => ?_)
                · skip
                  have h := h.1 c_20
                  refine lv_iconst (v := 0) hx hb d_Pr_branchOnSign_115 (by decide) ?_
                  refine zz_Wi (As := [.int a0, .int (0 : Int32), .int (0 : Int32)]) (rest := []) (wc := wP qp qr qh qm qw qu qf ql qo cI ms mn g rg hq mf cd fg L O) (wr := []) X hK hP hD hS hA (c_Pr_branch l D cI qp qr qh qm qw qu qf ql qo ms mn g rg hq mf cd fg L O a0 (0 : Int32) (0 : Int32) _ h _) ⟨rfl, rfl⟩ m_Pr_branch k_Pr_249 ⟨Nat.le_of_ble_eq_true rfl, Nat.le_of_ble_eq_true rfl⟩ [0, 1, 2, 3, 4, 5, 6, 7, 8] [] rfl rfl (by decide) (by decide) (by decide) 4 0 rfl rfl rfl rfl hl.1 rfl (Nat.le_of_ble_eq_true rfl) d_Pr_branchOnSign_116 hf0 (fun r_22 u_21 H locs h hP hD hS => ?_)
                  have hP : va_P D vwCl (wP qp qr qh qm qw qu qf ql qo cI ms mn u_21.1 u_21.2.1 u_21.2.2.1 u_21.2.2.2.1 u_21.2.2.2.2.1 u_21.2.2.2.2.2.1 u_21.2.2.2.2.2.2.1 u_21.2.2.2.2.2.2.2) H := hP.sub [0, 1, 2, 3, 4, 5, 6, 7, 8] rfl
                  have hD : va_D A (wP qp qr qh qm qw qu qf ql qo cI ms mn u_21.1 u_21.2.1 u_21.2.2.1 u_21.2.2.2.1 u_21.2.2.2.2.1 u_21.2.2.2.2.2.1 u_21.2.2.2.2.2.2.1 u_21.2.2.2.2.2.2.2) := hD.sub [0, 1, 2, 3, 4, 5, 6, 7, 8] (by decide) rfl
                  exact W.iret (v := r_22) hx hb hr (fun t ht hW => ⟨⟨r_22, (u_21.1, u_21.2.1, u_21.2.2.1, u_21.2.2.2.1, u_21.2.2.2.2.1, u_21.2.2.2.2.2.1, u_21.2.2.2.2.2.2.1, u_21.2.2.2.2.2.2.2), rfl, h, by rw [ht]; exact hP, hD⟩, hS.F ht⟩) hS.2.2 d_Pr_branchOnSign_119
                · skip
                  have h := h.2 c_20
                  refine lv_iconst (v := 1) hx hb d_Pr_branchOnSign_111 (by decide) ?_
                  refine lv_goto (tgt := 116) hx hb d_Pr_branchOnSign_112 (by decide) ?_
                  refine zz_Wi (As := [.int a0, .int (0 : Int32), .int (1 : Int32)]) (rest := []) (wc := wP qp qr qh qm qw qu qf ql qo cI ms mn g rg hq mf cd fg L O) (wr := []) X hK hP hD hS hA (c_Pr_branch l D cI qp qr qh qm qw qu qf ql qo ms mn g rg hq mf cd fg L O a0 (0 : Int32) (1 : Int32) _ h _) ⟨rfl, rfl⟩ m_Pr_branch k_Pr_249 ⟨Nat.le_of_ble_eq_true rfl, Nat.le_of_ble_eq_true rfl⟩ [0, 1, 2, 3, 4, 5, 6, 7, 8] [] rfl rfl (by decide) (by decide) (by decide) 4 0 rfl rfl rfl rfl hl.1 rfl (Nat.le_of_ble_eq_true rfl) d_Pr_branchOnSign_116 hf0 (fun r_24 u_23 H locs h hP hD hS => ?_)
                  have hP : va_P D vwCl (wP qp qr qh qm qw qu qf ql qo cI ms mn u_23.1 u_23.2.1 u_23.2.2.1 u_23.2.2.2.1 u_23.2.2.2.2.1 u_23.2.2.2.2.2.1 u_23.2.2.2.2.2.2.1 u_23.2.2.2.2.2.2.2) H := hP.sub [0, 1, 2, 3, 4, 5, 6, 7, 8] rfl
                  have hD : va_D A (wP qp qr qh qm qw qu qf ql qo cI ms mn u_23.1 u_23.2.1 u_23.2.2.1 u_23.2.2.2.1 u_23.2.2.2.2.1 u_23.2.2.2.2.2.1 u_23.2.2.2.2.2.2.1 u_23.2.2.2.2.2.2.2) := hD.sub [0, 1, 2, 3, 4, 5, 6, 7, 8] (by decide) rfl
                  exact W.iret (v := r_24) hx hb hr (fun t ht hW => ⟨⟨r_24, (u_23.1, u_23.2.1, u_23.2.2.1, u_23.2.2.2.1, u_23.2.2.2.2.1, u_23.2.2.2.2.2.1, u_23.2.2.2.2.2.2.1, u_23.2.2.2.2.2.2.2), rfl, h, by rw [ht]; exact hP, hD⟩, hS.F ht⟩) hS.2.2 d_Pr_branchOnSign_119
              · exact absurd c_18 (by decide)
          · exact absurd c_8 (by decide)
        · skip
          have h := h.2 c_7
          refine lv_iconst (v := 1) hx hb d_Pr_branchOnSign_50 (by decide) ?_
          refine lv_goto (tgt := 55) hx hb d_Pr_branchOnSign_51 (by decide) ?_
          refine lv_istore_n (lv' := [(3, .int (1 : Int32)), (2, .int (0 : Int32)), (0, .ref qp), (1, .int a0)]) hx hb d_Pr_branchOnSign_55 rfl hl (by decide) rfl (fun ls hl => ?_)
          refine lv_iload_n hx hb d_Pr_branchOnSign_56 rfl (lv_at hl 1 rfl) ?_
          refine lv_if_eq (tgt := 73) hx hb d_Pr_branchOnSign_57 (by decide) (fun c_25 => ?_) (fun c_25 => ?_)
          · skip
            refine lv_iload_n hx hb d_Pr_branchOnSign_73 rfl (lv_at hl 3 rfl) ?_
            refine zz_Si (As := [.int a0]) (rest := []) X (c_Pr_rt l a0 _ h) ⟨rfl, rfl⟩ m_Pr_rt k_Pr_89 ⟨Nat.le_of_ble_eq_true rfl, Nat.le_of_ble_eq_true rfl⟩ rfl hl.1 rfl (Nat.le_of_ble_eq_true rfl) d_Pr_branchOnSign_74 hf0 (fun r_26 h => ?_)
            refine lv_iconst (v := 1) hx hb d_Pr_branchOnSign_77 (by decide) ?_
            refine lv_iand hx hb d_Pr_branchOnSign_78 ?_
            refine lv_if_ne (tgt := 86) hx hb d_Pr_branchOnSign_79 (by decide) (fun c_27 => ?_) (fun c_27 => ?_)
            · skip
              have h := h.2 c_27
              refine lv_iconst (v := 0) hx hb d_Pr_branchOnSign_86 (by decide) ?_
              refine lv_istore (lv' := [(4, .int (0 : Int32)), (3, .int (1 : Int32)), (2, .int (0 : Int32)), (0, .ref qp), (1, .int a0)]) hx hb d_Pr_branchOnSign_87 hl (by decide) rfl (fun ls hl => ?_)
              refine lv_aload_n hx hb d_Pr_branchOnSign_89 rfl (lv_at hl 3 rfl) ?_
              refine lv_iload_n hx hb d_Pr_branchOnSign_90 rfl (lv_at hl 4 rfl) ?_
              refine lv_iload_n hx hb d_Pr_branchOnSign_91 rfl (lv_at hl 1 rfl) ?_
              refine lv_iload hx hb d_Pr_branchOnSign_92 (lv_at hl 0 rfl) ?_
              refine lv_icmp_ne (tgt := 101) hx hb d_Pr_branchOnSign_94 (by decide) (fun c_28 => ?_) (fun c_28 => ?_)
              · skip
                refine lv_iconst (v := 0) hx hb d_Pr_branchOnSign_101 (by decide) ?_
                refine lv_iload_n hx hb d_Pr_branchOnSign_102 rfl (lv_at hl 4 rfl) ?_
                refine zz_Si (As := [.int a0]) (rest := [.int (0 : Int32), .int a0, .ref qp]) X (c_Pr_rt l a0 _ h) ⟨rfl, rfl⟩ m_Pr_rt k_Pr_89 ⟨Nat.le_of_ble_eq_true rfl, Nat.le_of_ble_eq_true rfl⟩ rfl hl.1 rfl (Nat.le_of_ble_eq_true rfl) d_Pr_branchOnSign_103 hf0 (fun r_29 h => ?_)
                refine lv_iconst (v := 2) hx hb d_Pr_branchOnSign_106 (by decide) ?_
                refine lv_iand hx hb d_Pr_branchOnSign_107 ?_
                refine lv_if_eq (tgt := 115) hx hb d_Pr_branchOnSign_108 (by decide) (fun c_30 => ?_) (fun c_30 => ?_)
                · skip
                  have h := h.1 c_30
                  refine lv_iconst (v := 0) hx hb d_Pr_branchOnSign_115 (by decide) ?_
                  refine zz_Wi (As := [.int a0, .int (0 : Int32), .int (0 : Int32)]) (rest := []) (wc := wP qp qr qh qm qw qu qf ql qo cI ms mn g rg hq mf cd fg L O) (wr := []) X hK hP hD hS hA (c_Pr_branch l D cI qp qr qh qm qw qu qf ql qo ms mn g rg hq mf cd fg L O a0 (0 : Int32) (0 : Int32) _ h _) ⟨rfl, rfl⟩ m_Pr_branch k_Pr_249 ⟨Nat.le_of_ble_eq_true rfl, Nat.le_of_ble_eq_true rfl⟩ [0, 1, 2, 3, 4, 5, 6, 7, 8] [] rfl rfl (by decide) (by decide) (by decide) 4 0 rfl rfl rfl rfl hl.1 rfl (Nat.le_of_ble_eq_true rfl) d_Pr_branchOnSign_116 hf0 (fun r_32 u_31 H locs h hP hD hS => ?_)
                  have hP : va_P D vwCl (wP qp qr qh qm qw qu qf ql qo cI ms mn u_31.1 u_31.2.1 u_31.2.2.1 u_31.2.2.2.1 u_31.2.2.2.2.1 u_31.2.2.2.2.2.1 u_31.2.2.2.2.2.2.1 u_31.2.2.2.2.2.2.2) H := hP.sub [0, 1, 2, 3, 4, 5, 6, 7, 8] rfl
                  have hD : va_D A (wP qp qr qh qm qw qu qf ql qo cI ms mn u_31.1 u_31.2.1 u_31.2.2.1 u_31.2.2.2.1 u_31.2.2.2.2.1 u_31.2.2.2.2.2.1 u_31.2.2.2.2.2.2.1 u_31.2.2.2.2.2.2.2) := hD.sub [0, 1, 2, 3, 4, 5, 6, 7, 8] (by decide) rfl
                  exact W.iret (v := r_32) hx hb hr (fun t ht hW => ⟨⟨r_32, (u_31.1, u_31.2.1, u_31.2.2.1, u_31.2.2.2.1, u_31.2.2.2.2.1, u_31.2.2.2.2.2.1, u_31.2.2.2.2.2.2.1, u_31.2.2.2.2.2.2.2), rfl, h, by rw [ht]; exact hP, hD⟩, hS.F ht⟩) hS.2.2 d_Pr_branchOnSign_119
                · skip
                  have h := h.2 c_30
                  refine lv_iconst (v := 1) hx hb d_Pr_branchOnSign_111 (by decide) ?_
                  refine lv_goto (tgt := 116) hx hb d_Pr_branchOnSign_112 (by decide) ?_
                  refine zz_Wi (As := [.int a0, .int (0 : Int32), .int (1 : Int32)]) (rest := []) (wc := wP qp qr qh qm qw qu qf ql qo cI ms mn g rg hq mf cd fg L O) (wr := []) X hK hP hD hS hA (c_Pr_branch l D cI qp qr qh qm qw qu qf ql qo ms mn g rg hq mf cd fg L O a0 (0 : Int32) (1 : Int32) _ h _) ⟨rfl, rfl⟩ m_Pr_branch k_Pr_249 ⟨Nat.le_of_ble_eq_true rfl, Nat.le_of_ble_eq_true rfl⟩ [0, 1, 2, 3, 4, 5, 6, 7, 8] [] rfl rfl (by decide) (by decide) (by decide) 4 0 rfl rfl rfl rfl hl.1 rfl (Nat.le_of_ble_eq_true rfl) d_Pr_branchOnSign_116 hf0 (fun r_34 u_33 H locs h hP hD hS => ?_)
                  have hP : va_P D vwCl (wP qp qr qh qm qw qu qf ql qo cI ms mn u_33.1 u_33.2.1 u_33.2.2.1 u_33.2.2.2.1 u_33.2.2.2.2.1 u_33.2.2.2.2.2.1 u_33.2.2.2.2.2.2.1 u_33.2.2.2.2.2.2.2) H := hP.sub [0, 1, 2, 3, 4, 5, 6, 7, 8] rfl
                  have hD : va_D A (wP qp qr qh qm qw qu qf ql qo cI ms mn u_33.1 u_33.2.1 u_33.2.2.1 u_33.2.2.2.1 u_33.2.2.2.2.1 u_33.2.2.2.2.2.1 u_33.2.2.2.2.2.2.1 u_33.2.2.2.2.2.2.2) := hD.sub [0, 1, 2, 3, 4, 5, 6, 7, 8] (by decide) rfl
                  exact W.iret (v := r_34) hx hb hr (fun t ht hW => ⟨⟨r_34, (u_33.1, u_33.2.1, u_33.2.2.1, u_33.2.2.2.1, u_33.2.2.2.2.1, u_33.2.2.2.2.2.1, u_33.2.2.2.2.2.2.1, u_33.2.2.2.2.2.2.2), rfl, h, by rw [ht]; exact hP, hD⟩, hS.F ht⟩) hS.2.2 d_Pr_branchOnSign_119
              · exact absurd c_28 (by decide)
            · skip
              have h := h.1 c_27
              refine lv_iconst (v := 1) hx hb d_Pr_branchOnSign_82 (by decide) ?_
              refine lv_goto (tgt := 87) hx hb d_Pr_branchOnSign_83 (by decide) ?_
              refine lv_istore (lv' := [(4, .int (1 : Int32)), (3, .int (1 : Int32)), (2, .int (0 : Int32)), (0, .ref qp), (1, .int a0)]) hx hb d_Pr_branchOnSign_87 hl (by decide) rfl (fun ls hl => ?_)
              refine lv_aload_n hx hb d_Pr_branchOnSign_89 rfl (lv_at hl 3 rfl) ?_
              refine lv_iload_n hx hb d_Pr_branchOnSign_90 rfl (lv_at hl 4 rfl) ?_
              refine lv_iload_n hx hb d_Pr_branchOnSign_91 rfl (lv_at hl 1 rfl) ?_
              refine lv_iload hx hb d_Pr_branchOnSign_92 (lv_at hl 0 rfl) ?_
              refine lv_icmp_ne (tgt := 101) hx hb d_Pr_branchOnSign_94 (by decide) (fun c_35 => ?_) (fun c_35 => ?_)
              · exact absurd c_35 (by decide)
              · skip
                refine lv_iconst (v := 1) hx hb d_Pr_branchOnSign_97 (by decide) ?_
                refine lv_goto (tgt := 102) hx hb d_Pr_branchOnSign_98 (by decide) ?_
                refine lv_iload_n hx hb d_Pr_branchOnSign_102 rfl (lv_at hl 4 rfl) ?_
                refine zz_Si (As := [.int a0]) (rest := [.int (1 : Int32), .int a0, .ref qp]) X (c_Pr_rt l a0 _ h) ⟨rfl, rfl⟩ m_Pr_rt k_Pr_89 ⟨Nat.le_of_ble_eq_true rfl, Nat.le_of_ble_eq_true rfl⟩ rfl hl.1 rfl (Nat.le_of_ble_eq_true rfl) d_Pr_branchOnSign_103 hf0 (fun r_36 h => ?_)
                refine lv_iconst (v := 2) hx hb d_Pr_branchOnSign_106 (by decide) ?_
                refine lv_iand hx hb d_Pr_branchOnSign_107 ?_
                refine lv_if_eq (tgt := 115) hx hb d_Pr_branchOnSign_108 (by decide) (fun c_37 => ?_) (fun c_37 => ?_)
                · skip
                  have h := h.1 c_37
                  refine lv_iconst (v := 0) hx hb d_Pr_branchOnSign_115 (by decide) ?_
                  refine zz_Wi (As := [.int a0, .int (1 : Int32), .int (0 : Int32)]) (rest := []) (wc := wP qp qr qh qm qw qu qf ql qo cI ms mn g rg hq mf cd fg L O) (wr := []) X hK hP hD hS hA (c_Pr_branch l D cI qp qr qh qm qw qu qf ql qo ms mn g rg hq mf cd fg L O a0 (1 : Int32) (0 : Int32) _ h _) ⟨rfl, rfl⟩ m_Pr_branch k_Pr_249 ⟨Nat.le_of_ble_eq_true rfl, Nat.le_of_ble_eq_true rfl⟩ [0, 1, 2, 3, 4, 5, 6, 7, 8] [] rfl rfl (by decide) (by decide) (by decide) 4 0 rfl rfl rfl rfl hl.1 rfl (Nat.le_of_ble_eq_true rfl) d_Pr_branchOnSign_116 hf0 (fun r_39 u_38 H locs h hP hD hS => ?_)
                  have hP : va_P D vwCl (wP qp qr qh qm qw qu qf ql qo cI ms mn u_38.1 u_38.2.1 u_38.2.2.1 u_38.2.2.2.1 u_38.2.2.2.2.1 u_38.2.2.2.2.2.1 u_38.2.2.2.2.2.2.1 u_38.2.2.2.2.2.2.2) H := hP.sub [0, 1, 2, 3, 4, 5, 6, 7, 8] rfl
                  have hD : va_D A (wP qp qr qh qm qw qu qf ql qo cI ms mn u_38.1 u_38.2.1 u_38.2.2.1 u_38.2.2.2.1 u_38.2.2.2.2.1 u_38.2.2.2.2.2.1 u_38.2.2.2.2.2.2.1 u_38.2.2.2.2.2.2.2) := hD.sub [0, 1, 2, 3, 4, 5, 6, 7, 8] (by decide) rfl
                  exact W.iret (v := r_39) hx hb hr (fun t ht hW => ⟨⟨r_39, (u_38.1, u_38.2.1, u_38.2.2.1, u_38.2.2.2.1, u_38.2.2.2.2.1, u_38.2.2.2.2.2.1, u_38.2.2.2.2.2.2.1, u_38.2.2.2.2.2.2.2), rfl, h, by rw [ht]; exact hP, hD⟩, hS.F ht⟩) hS.2.2 d_Pr_branchOnSign_119
                · skip
                  have h := h.2 c_37
                  refine lv_iconst (v := 1) hx hb d_Pr_branchOnSign_111 (by decide) ?_
                  refine lv_goto (tgt := 116) hx hb d_Pr_branchOnSign_112 (by decide) ?_
                  refine zz_Wi (As := [.int a0, .int (1 : Int32), .int (1 : Int32)]) (rest := []) (wc := wP qp qr qh qm qw qu qf ql qo cI ms mn g rg hq mf cd fg L O) (wr := []) X hK hP hD hS hA (c_Pr_branch l D cI qp qr qh qm qw qu qf ql qo ms mn g rg hq mf cd fg L O a0 (1 : Int32) (1 : Int32) _ h _) ⟨rfl, rfl⟩ m_Pr_branch k_Pr_249 ⟨Nat.le_of_ble_eq_true rfl, Nat.le_of_ble_eq_true rfl⟩ [0, 1, 2, 3, 4, 5, 6, 7, 8] [] rfl rfl (by decide) (by decide) (by decide) 4 0 rfl rfl rfl rfl hl.1 rfl (Nat.le_of_ble_eq_true rfl) d_Pr_branchOnSign_116 hf0 (fun r_41 u_40 H locs h hP hD hS => ?_)
                  have hP : va_P D vwCl (wP qp qr qh qm qw qu qf ql qo cI ms mn u_40.1 u_40.2.1 u_40.2.2.1 u_40.2.2.2.1 u_40.2.2.2.2.1 u_40.2.2.2.2.2.1 u_40.2.2.2.2.2.2.1 u_40.2.2.2.2.2.2.2) H := hP.sub [0, 1, 2, 3, 4, 5, 6, 7, 8] rfl
                  have hD : va_D A (wP qp qr qh qm qw qu qf ql qo cI ms mn u_40.1 u_40.2.1 u_40.2.2.1 u_40.2.2.2.1 u_40.2.2.2.2.1 u_40.2.2.2.2.2.1 u_40.2.2.2.2.2.2.1 u_40.2.2.2.2.2.2.2) := hD.sub [0, 1, 2, 3, 4, 5, 6, 7, 8] (by decide) rfl
                  exact W.iret (v := r_41) hx hb hr (fun t ht hW => ⟨⟨r_41, (u_40.1, u_40.2.1, u_40.2.2.1, u_40.2.2.2.1, u_40.2.2.2.2.1, u_40.2.2.2.2.2.1, u_40.2.2.2.2.2.2.1, u_40.2.2.2.2.2.2.2), rfl, h, by rw [ht]; exact hP, hD⟩, hS.F ht⟩) hS.2.2 d_Pr_branchOnSign_119
          · exact absurd c_25 (by decide)
      · exact absurd c_4 (by decide)
  · skip
    have h := h.2 c_2
    refine lv_iconst (v := 1) hx hb d_Pr_branchOnSign_9 (by decide) ?_
    refine lv_goto (tgt := 14) hx hb d_Pr_branchOnSign_10 (by decide) ?_
    refine lv_istore_n (lv' := [(2, .int (1 : Int32)), (0, .ref qp), (1, .int a0)]) hx hb d_Pr_branchOnSign_14 rfl hl (by decide) rfl (fun ls hl => ?_)
    refine lv_aload_n hx hb d_Pr_branchOnSign_15 rfl (lv_at hl 1 rfl) ?_
    refine g_Pr_68 (v := .int (g 2)) hx hb hT hown hK hP 0 rfl rfl d_Pr_branchOnSign_16 ?_
    refine lv_if_ne (tgt := 35) hx hb d_Pr_branchOnSign_19 (by decide) (fun c_42 => ?_) (fun c_42 => ?_)
    · skip
      have h := h.2 c_42
      refine lv_bipush (v := 8) hx hb d_Pr_branchOnSign_35 (by decide) ?_
      exact W.iret (v := (8 : Int32)) hx hb hr (fun t ht hW => ⟨⟨(8 : Int32), (g, rg, hq, mf, cd, fg, L, O), rfl, h, by rw [ht]; exact hP, hD⟩, hS.F ht⟩) hS.2.2 d_Pr_branchOnSign_37
    · skip
      have h := h.1 c_42
      refine lv_iload_n hx hb d_Pr_branchOnSign_22 rfl (lv_at hl 0 rfl) ?_
      refine lv_if_eq (tgt := 38) hx hb d_Pr_branchOnSign_23 (by decide) (fun c_43 => ?_) (fun c_43 => ?_)
      · exact absurd c_43 (by decide)
      · skip
        refine lv_iload_n hx hb d_Pr_branchOnSign_26 rfl (lv_at hl 2 rfl) ?_
        refine zz_Si (As := [.int a0]) (rest := []) X (c_Pr_rs l a0 _ h) ⟨rfl, rfl⟩ m_Pr_rs k_Pr_83 ⟨Nat.le_of_ble_eq_true rfl, Nat.le_of_ble_eq_true rfl⟩ rfl hl.1 rfl (Nat.le_of_ble_eq_true rfl) d_Pr_branchOnSign_27 hf0 (fun r_44 h => ?_)
        refine lv_bipush (v := 31) hx hb d_Pr_branchOnSign_30 (by decide) ?_
        refine lv_icmp_ne (tgt := 38) hx hb d_Pr_branchOnSign_32 (by decide) (fun c_45 => ?_) (fun c_45 => ?_)
        · skip
          have h := h.2 c_45
          refine lv_aload_n hx hb d_Pr_branchOnSign_38 rfl (lv_at hl 1 rfl) ?_
          refine g_Pr_9 (v := .ref qr) hx hb hT hown hK hP 0 rfl rfl d_Pr_branchOnSign_39 ?_
          refine lv_iload_n hx hb d_Pr_branchOnSign_42 rfl (lv_at hl 2 rfl) ?_
          refine zz_Si (As := [.int a0]) (rest := [.ref qr]) X (c_Pr_rs l a0 _ h) ⟨rfl, rfl⟩ m_Pr_rs k_Pr_83 ⟨Nat.le_of_ble_eq_true rfl, Nat.le_of_ble_eq_true rfl⟩ rfl hl.1 rfl (Nat.le_of_ble_eq_true rfl) d_Pr_branchOnSign_43 hf0 (fun r_46 h => ?_)
          refine va_iald (f := rg) hx hb hK hP 1 0 rfl rfl h.1 d_Pr_branchOnSign_46 ?_
          have h := h.2
          refine lv_topi (fun x_47 ex_47 => ?_)
          have h := h x_47 ex_47
          refine lv_if_ge (tgt := 54) hx hb d_Pr_branchOnSign_47 (by decide) (fun c_48 => ?_) (fun c_48 => ?_)
          · skip
            have h := h.1 c_48
            refine lv_iconst (v := 0) hx hb d_Pr_branchOnSign_54 (by decide) ?_
            refine lv_istore_n (lv' := [(3, .int (0 : Int32)), (2, .int (1 : Int32)), (0, .ref qp), (1, .int a0)]) hx hb d_Pr_branchOnSign_55 rfl hl (by decide) rfl (fun ls hl => ?_)
            refine lv_iload_n hx hb d_Pr_branchOnSign_56 rfl (lv_at hl 1 rfl) ?_
            refine lv_if_eq (tgt := 73) hx hb d_Pr_branchOnSign_57 (by decide) (fun c_49 => ?_) (fun c_49 => ?_)
            · exact absurd c_49 (by decide)
            · skip
              refine lv_aload_n hx hb d_Pr_branchOnSign_60 rfl (lv_at hl 2 rfl) ?_
              refine lv_bipush (v := 31) hx hb d_Pr_branchOnSign_61 (by decide) ?_
              refine lv_aload_n hx hb d_Pr_branchOnSign_63 rfl (lv_at hl 2 rfl) ?_
              refine g_Pr_48 (v := .int (g 0)) hx hb hT hown hK hP 0 rfl rfl d_Pr_branchOnSign_64 ?_
              refine lv_bipush (v := 8) hx hb d_Pr_branchOnSign_67 (by decide) ?_
              refine lv_iadd hx hb d_Pr_branchOnSign_69 ?_
              refine zz_Wv (As := [.int (31 : Int32), .int ((g 0) + (8 : Int32))]) (rest := []) (wc := wP qp qr qh qm qw qu qf ql qo cI ms mn g rg hq mf cd fg L O) (wr := []) X hK hP hD hS hA (c_Pr_write l D cI qp qr qh qm qw qu qf ql qo ms mn g rg hq mf cd fg L O (31 : Int32) ((g 0) + (8 : Int32)) _ h _) ⟨rfl, rfl⟩ m_Pr_write k_Pr_245 ⟨Nat.le_of_ble_eq_true rfl, Nat.le_of_ble_eq_true rfl⟩ [0, 1, 2, 3, 4, 5, 6, 7, 8] [] rfl rfl (by decide) (by decide) (by decide) 4 0 rfl rfl rfl rfl hl.1 rfl (Nat.le_of_ble_eq_true rfl) d_Pr_branchOnSign_70 hf0 (fun u_50 H locs h hP hD hS => ?_)
              have hP : va_P D vwCl (wP qp qr qh qm qw qu qf ql qo cI ms mn u_50.1 u_50.2.1 u_50.2.2.1 u_50.2.2.2.1 u_50.2.2.2.2.1 u_50.2.2.2.2.2.1 u_50.2.2.2.2.2.2.1 u_50.2.2.2.2.2.2.2) H := hP.sub [0, 1, 2, 3, 4, 5, 6, 7, 8] rfl
              have hD : va_D A (wP qp qr qh qm qw qu qf ql qo cI ms mn u_50.1 u_50.2.1 u_50.2.2.1 u_50.2.2.2.1 u_50.2.2.2.2.1 u_50.2.2.2.2.2.1 u_50.2.2.2.2.2.2.1 u_50.2.2.2.2.2.2.2) := hD.sub [0, 1, 2, 3, 4, 5, 6, 7, 8] (by decide) rfl
              refine lv_iload_n hx hb d_Pr_branchOnSign_73 rfl (lv_at hl 3 rfl) ?_
              refine zz_Si (As := [.int a0]) (rest := []) X (c_Pr_rt l a0 _ h) ⟨rfl, rfl⟩ m_Pr_rt k_Pr_89 ⟨Nat.le_of_ble_eq_true rfl, Nat.le_of_ble_eq_true rfl⟩ rfl hl.1 rfl (Nat.le_of_ble_eq_true rfl) d_Pr_branchOnSign_74 hf0 (fun r_52 h => ?_)
              refine lv_iconst (v := 1) hx hb d_Pr_branchOnSign_77 (by decide) ?_
              refine lv_iand hx hb d_Pr_branchOnSign_78 ?_
              refine lv_if_ne (tgt := 86) hx hb d_Pr_branchOnSign_79 (by decide) (fun c_53 => ?_) (fun c_53 => ?_)
              · skip
                have h := h.2 c_53
                refine lv_iconst (v := 0) hx hb d_Pr_branchOnSign_86 (by decide) ?_
                refine lv_istore (lv' := [(4, .int (0 : Int32)), (3, .int (0 : Int32)), (2, .int (1 : Int32)), (0, .ref qp), (1, .int a0)]) hx hb d_Pr_branchOnSign_87 hl (by decide) rfl (fun ls hl => ?_)
                refine lv_aload_n hx hb d_Pr_branchOnSign_89 rfl (lv_at hl 3 rfl) ?_
                refine lv_iload_n hx hb d_Pr_branchOnSign_90 rfl (lv_at hl 4 rfl) ?_
                refine lv_iload_n hx hb d_Pr_branchOnSign_91 rfl (lv_at hl 1 rfl) ?_
                refine lv_iload hx hb d_Pr_branchOnSign_92 (lv_at hl 0 rfl) ?_
                refine lv_icmp_ne (tgt := 101) hx hb d_Pr_branchOnSign_94 (by decide) (fun c_54 => ?_) (fun c_54 => ?_)
                · exact absurd c_54 (by decide)
                · skip
                  refine lv_iconst (v := 1) hx hb d_Pr_branchOnSign_97 (by decide) ?_
                  refine lv_goto (tgt := 102) hx hb d_Pr_branchOnSign_98 (by decide) ?_
                  refine lv_iload_n hx hb d_Pr_branchOnSign_102 rfl (lv_at hl 4 rfl) ?_
                  refine zz_Si (As := [.int a0]) (rest := [.int (1 : Int32), .int a0, .ref qp]) X (c_Pr_rt l a0 _ h) ⟨rfl, rfl⟩ m_Pr_rt k_Pr_89 ⟨Nat.le_of_ble_eq_true rfl, Nat.le_of_ble_eq_true rfl⟩ rfl hl.1 rfl (Nat.le_of_ble_eq_true rfl) d_Pr_branchOnSign_103 hf0 (fun r_55 h => ?_)
                  refine lv_iconst (v := 2) hx hb d_Pr_branchOnSign_106 (by decide) ?_
                  refine lv_iand hx hb d_Pr_branchOnSign_107 ?_
                  refine lv_if_eq (tgt := 115) hx hb d_Pr_branchOnSign_108 (by decide) (fun c_56 => ?_) (fun c_56 => ?_)
                  · skip
                    have h := h.1 c_56
                    refine lv_iconst (v := 0) hx hb d_Pr_branchOnSign_115 (by decide) ?_
                    refine zz_Wi (As := [.int a0, .int (1 : Int32), .int (0 : Int32)]) (rest := []) (wc := wP qp qr qh qm qw qu qf ql qo cI ms mn u_50.1 u_50.2.1 u_50.2.2.1 u_50.2.2.2.1 u_50.2.2.2.2.1 u_50.2.2.2.2.2.1 u_50.2.2.2.2.2.2.1 u_50.2.2.2.2.2.2.2) (wr := []) X hK hP hD hS hA (c_Pr_branch l D cI qp qr qh qm qw qu qf ql qo ms mn u_50.1 u_50.2.1 u_50.2.2.1 u_50.2.2.2.1 u_50.2.2.2.2.1 u_50.2.2.2.2.2.1 u_50.2.2.2.2.2.2.1 u_50.2.2.2.2.2.2.2 a0 (1 : Int32) (0 : Int32) _ h _) ⟨rfl, rfl⟩ m_Pr_branch k_Pr_249 ⟨Nat.le_of_ble_eq_true rfl, Nat.le_of_ble_eq_true rfl⟩ [0, 1, 2, 3, 4, 5, 6, 7, 8] [] rfl rfl (by decide) (by decide) (by decide) 4 0 rfl rfl rfl rfl hl.1 rfl (Nat.le_of_ble_eq_true rfl) d_Pr_branchOnSign_116 hf0 (fun r_58 u_57 H locs h hP hD hS => ?_)
                    have hP : va_P D vwCl (wP qp qr qh qm qw qu qf ql qo cI ms mn u_57.1 u_57.2.1 u_57.2.2.1 u_57.2.2.2.1 u_57.2.2.2.2.1 u_57.2.2.2.2.2.1 u_57.2.2.2.2.2.2.1 u_57.2.2.2.2.2.2.2) H := hP.sub [0, 1, 2, 3, 4, 5, 6, 7, 8] rfl
                    have hD : va_D A (wP qp qr qh qm qw qu qf ql qo cI ms mn u_57.1 u_57.2.1 u_57.2.2.1 u_57.2.2.2.1 u_57.2.2.2.2.1 u_57.2.2.2.2.2.1 u_57.2.2.2.2.2.2.1 u_57.2.2.2.2.2.2.2) := hD.sub [0, 1, 2, 3, 4, 5, 6, 7, 8] (by decide) rfl
                    exact W.iret (v := r_58) hx hb hr (fun t ht hW => ⟨⟨r_58, (u_57.1, u_57.2.1, u_57.2.2.1, u_57.2.2.2.1, u_57.2.2.2.2.1, u_57.2.2.2.2.2.1, u_57.2.2.2.2.2.2.1, u_57.2.2.2.2.2.2.2), rfl, h, by rw [ht]; exact hP, hD⟩, hS.F ht⟩) hS.2.2 d_Pr_branchOnSign_119
                  · skip
                    have h := h.2 c_56
                    refine lv_iconst (v := 1) hx hb d_Pr_branchOnSign_111 (by decide) ?_
                    refine lv_goto (tgt := 116) hx hb d_Pr_branchOnSign_112 (by decide) ?_
                    refine zz_Wi (As := [.int a0, .int (1 : Int32), .int (1 : Int32)]) (rest := []) (wc := wP qp qr qh qm qw qu qf ql qo cI ms mn u_50.1 u_50.2.1 u_50.2.2.1 u_50.2.2.2.1 u_50.2.2.2.2.1 u_50.2.2.2.2.2.1 u_50.2.2.2.2.2.2.1 u_50.2.2.2.2.2.2.2) (wr := []) X hK hP hD hS hA (c_Pr_branch l D cI qp qr qh qm qw qu qf ql qo ms mn u_50.1 u_50.2.1 u_50.2.2.1 u_50.2.2.2.1 u_50.2.2.2.2.1 u_50.2.2.2.2.2.1 u_50.2.2.2.2.2.2.1 u_50.2.2.2.2.2.2.2 a0 (1 : Int32) (1 : Int32) _ h _) ⟨rfl, rfl⟩ m_Pr_branch k_Pr_249 ⟨Nat.le_of_ble_eq_true rfl, Nat.le_of_ble_eq_true rfl⟩ [0, 1, 2, 3, 4, 5, 6, 7, 8] [] rfl rfl (by decide) (by decide) (by decide) 4 0 rfl rfl rfl rfl hl.1 rfl (Nat.le_of_ble_eq_true rfl) d_Pr_branchOnSign_116 hf0 (fun r_60 u_59 H locs h hP hD hS => ?_)
                    have hP : va_P D vwCl (wP qp qr qh qm qw qu qf ql qo cI ms mn u_59.1 u_59.2.1 u_59.2.2.1 u_59.2.2.2.1 u_59.2.2.2.2.1 u_59.2.2.2.2.2.1 u_59.2.2.2.2.2.2.1 u_59.2.2.2.2.2.2.2) H := hP.sub [0, 1, 2, 3, 4, 5, 6, 7, 8] rfl
                    have hD : va_D A (wP qp qr qh qm qw qu qf ql qo cI ms mn u_59.1 u_59.2.1 u_59.2.2.1 u_59.2.2.2.1 u_59.2.2.2.2.1 u_59.2.2.2.2.2.1 u_59.2.2.2.2.2.2.1 u_59.2.2.2.2.2.2.2) := hD.sub [0, 1, 2, 3, 4, 5, 6, 7, 8] (by decide) rfl
                    exact W.iret (v := r_60) hx hb hr (fun t ht hW => ⟨⟨r_60, (u_59.1, u_59.2.1, u_59.2.2.1, u_59.2.2.2.1, u_59.2.2.2.2.1, u_59.2.2.2.2.2.1, u_59.2.2.2.2.2.2.1, u_59.2.2.2.2.2.2.2), rfl, h, by rw [ht]; exact hP, hD⟩, hS.F ht⟩) hS.2.2 d_Pr_branchOnSign_119
              · skip
                have h := h.1 c_53
                refine lv_iconst (v := 1) hx hb d_Pr_branchOnSign_82 (by decide) ?_
                refine lv_goto (tgt := 87) hx hb d_Pr_branchOnSign_83 (by decide) ?_
                refine lv_istore (lv' := [(4, .int (1 : Int32)), (3, .int (0 : Int32)), (2, .int (1 : Int32)), (0, .ref qp), (1, .int a0)]) hx hb d_Pr_branchOnSign_87 hl (by decide) rfl (fun ls hl => ?_)
                refine lv_aload_n hx hb d_Pr_branchOnSign_89 rfl (lv_at hl 3 rfl) ?_
                refine lv_iload_n hx hb d_Pr_branchOnSign_90 rfl (lv_at hl 4 rfl) ?_
                refine lv_iload_n hx hb d_Pr_branchOnSign_91 rfl (lv_at hl 1 rfl) ?_
                refine lv_iload hx hb d_Pr_branchOnSign_92 (lv_at hl 0 rfl) ?_
                refine lv_icmp_ne (tgt := 101) hx hb d_Pr_branchOnSign_94 (by decide) (fun c_61 => ?_) (fun c_61 => ?_)
                · skip
                  refine lv_iconst (v := 0) hx hb d_Pr_branchOnSign_101 (by decide) ?_
                  refine lv_iload_n hx hb d_Pr_branchOnSign_102 rfl (lv_at hl 4 rfl) ?_
                  refine zz_Si (As := [.int a0]) (rest := [.int (0 : Int32), .int a0, .ref qp]) X (c_Pr_rt l a0 _ h) ⟨rfl, rfl⟩ m_Pr_rt k_Pr_89 ⟨Nat.le_of_ble_eq_true rfl, Nat.le_of_ble_eq_true rfl⟩ rfl hl.1 rfl (Nat.le_of_ble_eq_true rfl) d_Pr_branchOnSign_103 hf0 (fun r_62 h => ?_)
                  refine lv_iconst (v := 2) hx hb d_Pr_branchOnSign_106 (by decide) ?_
                  refine lv_iand hx hb d_Pr_branchOnSign_107 ?_
                  refine lv_if_eq (tgt := 115) hx hb d_Pr_branchOnSign_108 (by decide) (fun c_63 => ?_) (fun c_63 => ?_)
                  · skip
                    have h := h.1 c_63
                    refine lv_iconst (v := 0) hx hb d_Pr_branchOnSign_115 (by decide) ?_
                    refine zz_Wi (As := [.int a0, .int (0 : Int32), .int (0 : Int32)]) (rest := []) (wc := wP qp qr qh qm qw qu qf ql qo cI ms mn u_50.1 u_50.2.1 u_50.2.2.1 u_50.2.2.2.1 u_50.2.2.2.2.1 u_50.2.2.2.2.2.1 u_50.2.2.2.2.2.2.1 u_50.2.2.2.2.2.2.2) (wr := []) X hK hP hD hS hA (c_Pr_branch l D cI qp qr qh qm qw qu qf ql qo ms mn u_50.1 u_50.2.1 u_50.2.2.1 u_50.2.2.2.1 u_50.2.2.2.2.1 u_50.2.2.2.2.2.1 u_50.2.2.2.2.2.2.1 u_50.2.2.2.2.2.2.2 a0 (0 : Int32) (0 : Int32) _ h _) ⟨rfl, rfl⟩ m_Pr_branch k_Pr_249 ⟨Nat.le_of_ble_eq_true rfl, Nat.le_of_ble_eq_true rfl⟩ [0, 1, 2, 3, 4, 5, 6, 7, 8] [] rfl rfl (by decide) (by decide) (by decide) 4 0 rfl rfl rfl rfl hl.1 rfl (Nat.le_of_ble_eq_true rfl) d_Pr_branchOnSign_116 hf0 (fun r_65 u_64 H locs h hP hD hS => ?_)
                    have hP : va_P D vwCl (wP qp qr qh qm qw qu qf ql qo cI ms mn u_64.1 u_64.2.1 u_64.2.2.1 u_64.2.2.2.1 u_64.2.2.2.2.1 u_64.2.2.2.2.2.1 u_64.2.2.2.2.2.2.1 u_64.2.2.2.2.2.2.2) H := hP.sub [0, 1, 2, 3, 4, 5, 6, 7, 8] rfl
                    have hD : va_D A (wP qp qr qh qm qw qu qf ql qo cI ms mn u_64.1 u_64.2.1 u_64.2.2.1 u_64.2.2.2.1 u_64.2.2.2.2.1 u_64.2.2.2.2.2.1 u_64.2.2.2.2.2.2.1 u_64.2.2.2.2.2.2.2) := hD.sub [0, 1, 2, 3, 4, 5, 6, 7, 8] (by decide) rfl
                    exact W.iret (v := r_65) hx hb hr (fun t ht hW => ⟨⟨r_65, (u_64.1, u_64.2.1, u_64.2.2.1, u_64.2.2.2.1, u_64.2.2.2.2.1, u_64.2.2.2.2.2.1, u_64.2.2.2.2.2.2.1, u_64.2.2.2.2.2.2.2), rfl, h, by rw [ht]; exact hP, hD⟩, hS.F ht⟩) hS.2.2 d_Pr_branchOnSign_119
                  · skip
                    have h := h.2 c_63
                    refine lv_iconst (v := 1) hx hb d_Pr_branchOnSign_111 (by decide) ?_
                    refine lv_goto (tgt := 116) hx hb d_Pr_branchOnSign_112 (by decide) ?_
                    refine zz_Wi (As := [.int a0, .int (0 : Int32), .int (1 : Int32)]) (rest := []) (wc := wP qp qr qh qm qw qu qf ql qo cI ms mn u_50.1 u_50.2.1 u_50.2.2.1 u_50.2.2.2.1 u_50.2.2.2.2.1 u_50.2.2.2.2.2.1 u_50.2.2.2.2.2.2.1 u_50.2.2.2.2.2.2.2) (wr := []) X hK hP hD hS hA (c_Pr_branch l D cI qp qr qh qm qw qu qf ql qo ms mn u_50.1 u_50.2.1 u_50.2.2.1 u_50.2.2.2.1 u_50.2.2.2.2.1 u_50.2.2.2.2.2.1 u_50.2.2.2.2.2.2.1 u_50.2.2.2.2.2.2.2 a0 (0 : Int32) (1 : Int32) _ h _) ⟨rfl, rfl⟩ m_Pr_branch k_Pr_249 ⟨Nat.le_of_ble_eq_true rfl, Nat.le_of_ble_eq_true rfl⟩ [0, 1, 2, 3, 4, 5, 6, 7, 8] [] rfl rfl (by decide) (by decide) (by decide) 4 0 rfl rfl rfl rfl hl.1 rfl (Nat.le_of_ble_eq_true rfl) d_Pr_branchOnSign_116 hf0 (fun r_67 u_66 H locs h hP hD hS => ?_)
                    have hP : va_P D vwCl (wP qp qr qh qm qw qu qf ql qo cI ms mn u_66.1 u_66.2.1 u_66.2.2.1 u_66.2.2.2.1 u_66.2.2.2.2.1 u_66.2.2.2.2.2.1 u_66.2.2.2.2.2.2.1 u_66.2.2.2.2.2.2.2) H := hP.sub [0, 1, 2, 3, 4, 5, 6, 7, 8] rfl
                    have hD : va_D A (wP qp qr qh qm qw qu qf ql qo cI ms mn u_66.1 u_66.2.1 u_66.2.2.1 u_66.2.2.2.1 u_66.2.2.2.2.1 u_66.2.2.2.2.2.1 u_66.2.2.2.2.2.2.1 u_66.2.2.2.2.2.2.2) := hD.sub [0, 1, 2, 3, 4, 5, 6, 7, 8] (by decide) rfl
                    exact W.iret (v := r_67) hx hb hr (fun t ht hW => ⟨⟨r_67, (u_66.1, u_66.2.1, u_66.2.2.1, u_66.2.2.2.1, u_66.2.2.2.2.1, u_66.2.2.2.2.2.1, u_66.2.2.2.2.2.2.1, u_66.2.2.2.2.2.2.2), rfl, h, by rw [ht]; exact hP, hD⟩, hS.F ht⟩) hS.2.2 d_Pr_branchOnSign_119
                · exact absurd c_61 (by decide)
          · skip
            have h := h.2 c_48
            refine lv_iconst (v := 1) hx hb d_Pr_branchOnSign_50 (by decide) ?_
            refine lv_goto (tgt := 55) hx hb d_Pr_branchOnSign_51 (by decide) ?_
            refine lv_istore_n (lv' := [(3, .int (1 : Int32)), (2, .int (1 : Int32)), (0, .ref qp), (1, .int a0)]) hx hb d_Pr_branchOnSign_55 rfl hl (by decide) rfl (fun ls hl => ?_)
            refine lv_iload_n hx hb d_Pr_branchOnSign_56 rfl (lv_at hl 1 rfl) ?_
            refine lv_if_eq (tgt := 73) hx hb d_Pr_branchOnSign_57 (by decide) (fun c_68 => ?_) (fun c_68 => ?_)
            · exact absurd c_68 (by decide)
            · skip
              refine lv_aload_n hx hb d_Pr_branchOnSign_60 rfl (lv_at hl 2 rfl) ?_
              refine lv_bipush (v := 31) hx hb d_Pr_branchOnSign_61 (by decide) ?_
              refine lv_aload_n hx hb d_Pr_branchOnSign_63 rfl (lv_at hl 2 rfl) ?_
              refine g_Pr_48 (v := .int (g 0)) hx hb hT hown hK hP 0 rfl rfl d_Pr_branchOnSign_64 ?_
              refine lv_bipush (v := 8) hx hb d_Pr_branchOnSign_67 (by decide) ?_
              refine lv_iadd hx hb d_Pr_branchOnSign_69 ?_
              refine zz_Wv (As := [.int (31 : Int32), .int ((g 0) + (8 : Int32))]) (rest := []) (wc := wP qp qr qh qm qw qu qf ql qo cI ms mn g rg hq mf cd fg L O) (wr := []) X hK hP hD hS hA (c_Pr_write l D cI qp qr qh qm qw qu qf ql qo ms mn g rg hq mf cd fg L O (31 : Int32) ((g 0) + (8 : Int32)) _ h _) ⟨rfl, rfl⟩ m_Pr_write k_Pr_245 ⟨Nat.le_of_ble_eq_true rfl, Nat.le_of_ble_eq_true rfl⟩ [0, 1, 2, 3, 4, 5, 6, 7, 8] [] rfl rfl (by decide) (by decide) (by decide) 4 0 rfl rfl rfl rfl hl.1 rfl (Nat.le_of_ble_eq_true rfl) d_Pr_branchOnSign_70 hf0 (fun u_69 H locs h hP hD hS => ?_)
              have hP : va_P D vwCl (wP qp qr qh qm qw qu qf ql qo cI ms mn u_69.1 u_69.2.1 u_69.2.2.1 u_69.2.2.2.1 u_69.2.2.2.2.1 u_69.2.2.2.2.2.1 u_69.2.2.2.2.2.2.1 u_69.2.2.2.2.2.2.2) H := hP.sub [0, 1, 2, 3, 4, 5, 6, 7, 8] rfl
              have hD : va_D A (wP qp qr qh qm qw qu qf ql qo cI ms mn u_69.1 u_69.2.1 u_69.2.2.1 u_69.2.2.2.1 u_69.2.2.2.2.1 u_69.2.2.2.2.2.1 u_69.2.2.2.2.2.2.1 u_69.2.2.2.2.2.2.2) := hD.sub [0, 1, 2, 3, 4, 5, 6, 7, 8] (by decide) rfl
              refine lv_iload_n hx hb d_Pr_branchOnSign_73 rfl (lv_at hl 3 rfl) ?_
              refine zz_Si (As := [.int a0]) (rest := []) X (c_Pr_rt l a0 _ h) ⟨rfl, rfl⟩ m_Pr_rt k_Pr_89 ⟨Nat.le_of_ble_eq_true rfl, Nat.le_of_ble_eq_true rfl⟩ rfl hl.1 rfl (Nat.le_of_ble_eq_true rfl) d_Pr_branchOnSign_74 hf0 (fun r_71 h => ?_)
              refine lv_iconst (v := 1) hx hb d_Pr_branchOnSign_77 (by decide) ?_
              refine lv_iand hx hb d_Pr_branchOnSign_78 ?_
              refine lv_if_ne (tgt := 86) hx hb d_Pr_branchOnSign_79 (by decide) (fun c_72 => ?_) (fun c_72 => ?_)
              · skip
                have h := h.2 c_72
                refine lv_iconst (v := 0) hx hb d_Pr_branchOnSign_86 (by decide) ?_
                refine lv_istore (lv' := [(4, .int (0 : Int32)), (3, .int (1 : Int32)), (2, .int (1 : Int32)), (0, .ref qp), (1, .int a0)]) hx hb d_Pr_branchOnSign_87 hl (by decide) rfl (fun ls hl => ?_)
                refine lv_aload_n hx hb d_Pr_branchOnSign_89 rfl (lv_at hl 3 rfl) ?_
                refine lv_iload_n hx hb d_Pr_branchOnSign_90 rfl (lv_at hl 4 rfl) ?_
                refine lv_iload_n hx hb d_Pr_branchOnSign_91 rfl (lv_at hl 1 rfl) ?_
                refine lv_iload hx hb d_Pr_branchOnSign_92 (lv_at hl 0 rfl) ?_
                refine lv_icmp_ne (tgt := 101) hx hb d_Pr_branchOnSign_94 (by decide) (fun c_73 => ?_) (fun c_73 => ?_)
                · skip
                  refine lv_iconst (v := 0) hx hb d_Pr_branchOnSign_101 (by decide) ?_
                  refine lv_iload_n hx hb d_Pr_branchOnSign_102 rfl (lv_at hl 4 rfl) ?_
                  refine zz_Si (As := [.int a0]) (rest := [.int (0 : Int32), .int a0, .ref qp]) X (c_Pr_rt l a0 _ h) ⟨rfl, rfl⟩ m_Pr_rt k_Pr_89 ⟨Nat.le_of_ble_eq_true rfl, Nat.le_of_ble_eq_true rfl⟩ rfl hl.1 rfl (Nat.le_of_ble_eq_true rfl) d_Pr_branchOnSign_103 hf0 (fun r_74 h => ?_)
                  refine lv_iconst (v := 2) hx hb d_Pr_branchOnSign_106 (by decide) ?_
                  refine lv_iand hx hb d_Pr_branchOnSign_107 ?_
                  refine lv_if_eq (tgt := 115) hx hb d_Pr_branchOnSign_108 (by decide) (fun c_75 => ?_) (fun c_75 => ?_)
                  · skip
                    have h := h.1 c_75
                    refine lv_iconst (v := 0) hx hb d_Pr_branchOnSign_115 (by decide) ?_
                    refine zz_Wi (As := [.int a0, .int (0 : Int32), .int (0 : Int32)]) (rest := []) (wc := wP qp qr qh qm qw qu qf ql qo cI ms mn u_69.1 u_69.2.1 u_69.2.2.1 u_69.2.2.2.1 u_69.2.2.2.2.1 u_69.2.2.2.2.2.1 u_69.2.2.2.2.2.2.1 u_69.2.2.2.2.2.2.2) (wr := []) X hK hP hD hS hA (c_Pr_branch l D cI qp qr qh qm qw qu qf ql qo ms mn u_69.1 u_69.2.1 u_69.2.2.1 u_69.2.2.2.1 u_69.2.2.2.2.1 u_69.2.2.2.2.2.1 u_69.2.2.2.2.2.2.1 u_69.2.2.2.2.2.2.2 a0 (0 : Int32) (0 : Int32) _ h _) ⟨rfl, rfl⟩ m_Pr_branch k_Pr_249 ⟨Nat.le_of_ble_eq_true rfl, Nat.le_of_ble_eq_true rfl⟩ [0, 1, 2, 3, 4, 5, 6, 7, 8] [] rfl rfl (by decide) (by decide) (by decide) 4 0 rfl rfl rfl rfl hl.1 rfl (Nat.le_of_ble_eq_true rfl) d_Pr_branchOnSign_116 hf0 (fun r_77 u_76 H locs h hP hD hS => ?_)
                    have hP : va_P D vwCl (wP qp qr qh qm qw qu qf ql qo cI ms mn u_76.1 u_76.2.1 u_76.2.2.1 u_76.2.2.2.1 u_76.2.2.2.2.1 u_76.2.2.2.2.2.1 u_76.2.2.2.2.2.2.1 u_76.2.2.2.2.2.2.2) H := hP.sub [0, 1, 2, 3, 4, 5, 6, 7, 8] rfl
                    have hD : va_D A (wP qp qr qh qm qw qu qf ql qo cI ms mn u_76.1 u_76.2.1 u_76.2.2.1 u_76.2.2.2.1 u_76.2.2.2.2.1 u_76.2.2.2.2.2.1 u_76.2.2.2.2.2.2.1 u_76.2.2.2.2.2.2.2) := hD.sub [0, 1, 2, 3, 4, 5, 6, 7, 8] (by decide) rfl
                    exact W.iret (v := r_77) hx hb hr (fun t ht hW => ⟨⟨r_77, (u_76.1, u_76.2.1, u_76.2.2.1, u_76.2.2.2.1, u_76.2.2.2.2.1, u_76.2.2.2.2.2.1, u_76.2.2.2.2.2.2.1, u_76.2.2.2.2.2.2.2), rfl, h, by rw [ht]; exact hP, hD⟩, hS.F ht⟩) hS.2.2 d_Pr_branchOnSign_119
                  · skip
                    have h := h.2 c_75
                    refine lv_iconst (v := 1) hx hb d_Pr_branchOnSign_111 (by decide) ?_
                    refine lv_goto (tgt := 116) hx hb d_Pr_branchOnSign_112 (by decide) ?_
                    refine zz_Wi (As := [.int a0, .int (0 : Int32), .int (1 : Int32)]) (rest := []) (wc := wP qp qr qh qm qw qu qf ql qo cI ms mn u_69.1 u_69.2.1 u_69.2.2.1 u_69.2.2.2.1 u_69.2.2.2.2.1 u_69.2.2.2.2.2.1 u_69.2.2.2.2.2.2.1 u_69.2.2.2.2.2.2.2) (wr := []) X hK hP hD hS hA (c_Pr_branch l D cI qp qr qh qm qw qu qf ql qo ms mn u_69.1 u_69.2.1 u_69.2.2.1 u_69.2.2.2.1 u_69.2.2.2.2.1 u_69.2.2.2.2.2.1 u_69.2.2.2.2.2.2.1 u_69.2.2.2.2.2.2.2 a0 (0 : Int32) (1 : Int32) _ h _) ⟨rfl, rfl⟩ m_Pr_branch k_Pr_249 ⟨Nat.le_of_ble_eq_true rfl, Nat.le_of_ble_eq_true rfl⟩ [0, 1, 2, 3, 4, 5, 6, 7, 8] [] rfl rfl (by decide) (by decide) (by decide) 4 0 rfl rfl rfl rfl hl.1 rfl (Nat.le_of_ble_eq_true rfl) d_Pr_branchOnSign_116 hf0 (fun r_79 u_78 H locs h hP hD hS => ?_)
                    have hP : va_P D vwCl (wP qp qr qh qm qw qu qf ql qo cI ms mn u_78.1 u_78.2.1 u_78.2.2.1 u_78.2.2.2.1 u_78.2.2.2.2.1 u_78.2.2.2.2.2.1 u_78.2.2.2.2.2.2.1 u_78.2.2.2.2.2.2.2) H := hP.sub [0, 1, 2, 3, 4, 5, 6, 7, 8] rfl
                    have hD : va_D A (wP qp qr qh qm qw qu qf ql qo cI ms mn u_78.1 u_78.2.1 u_78.2.2.1 u_78.2.2.2.1 u_78.2.2.2.2.1 u_78.2.2.2.2.2.1 u_78.2.2.2.2.2.2.1 u_78.2.2.2.2.2.2.2) := hD.sub [0, 1, 2, 3, 4, 5, 6, 7, 8] (by decide) rfl
                    exact W.iret (v := r_79) hx hb hr (fun t ht hW => ⟨⟨r_79, (u_78.1, u_78.2.1, u_78.2.2.1, u_78.2.2.2.1, u_78.2.2.2.2.1, u_78.2.2.2.2.2.1, u_78.2.2.2.2.2.2.1, u_78.2.2.2.2.2.2.2), rfl, h, by rw [ht]; exact hP, hD⟩, hS.F ht⟩) hS.2.2 d_Pr_branchOnSign_119
                · exact absurd c_73 (by decide)
              · skip
                have h := h.1 c_72
                refine lv_iconst (v := 1) hx hb d_Pr_branchOnSign_82 (by decide) ?_
                refine lv_goto (tgt := 87) hx hb d_Pr_branchOnSign_83 (by decide) ?_
                refine lv_istore (lv' := [(4, .int (1 : Int32)), (3, .int (1 : Int32)), (2, .int (1 : Int32)), (0, .ref qp), (1, .int a0)]) hx hb d_Pr_branchOnSign_87 hl (by decide) rfl (fun ls hl => ?_)
                refine lv_aload_n hx hb d_Pr_branchOnSign_89 rfl (lv_at hl 3 rfl) ?_
                refine lv_iload_n hx hb d_Pr_branchOnSign_90 rfl (lv_at hl 4 rfl) ?_
                refine lv_iload_n hx hb d_Pr_branchOnSign_91 rfl (lv_at hl 1 rfl) ?_
                refine lv_iload hx hb d_Pr_branchOnSign_92 (lv_at hl 0 rfl) ?_
                refine lv_icmp_ne (tgt := 101) hx hb d_Pr_branchOnSign_94 (by decide) (fun c_80 => ?_) (fun c_80 => ?_)
                · exact absurd c_80 (by decide)
                · skip
                  refine lv_iconst (v := 1) hx hb d_Pr_branchOnSign_97 (by decide) ?_
                  refine lv_goto (tgt := 102) hx hb d_Pr_branchOnSign_98 (by decide) ?_
                  refine lv_iload_n hx hb d_Pr_branchOnSign_102 rfl (lv_at hl 4 rfl) ?_
                  refine zz_Si (As := [.int a0]) (rest := [.int (1 : Int32), .int a0, .ref qp]) X (c_Pr_rt l a0 _ h) ⟨rfl, rfl⟩ m_Pr_rt k_Pr_89 ⟨Nat.le_of_ble_eq_true rfl, Nat.le_of_ble_eq_true rfl⟩ rfl hl.1 rfl (Nat.le_of_ble_eq_true rfl) d_Pr_branchOnSign_103 hf0 (fun r_81 h => ?_)
                  refine lv_iconst (v := 2) hx hb d_Pr_branchOnSign_106 (by decide) ?_
                  refine lv_iand hx hb d_Pr_branchOnSign_107 ?_
                  refine lv_if_eq (tgt := 115) hx hb d_Pr_branchOnSign_108 (by decide) (fun c_82 => ?_) (fun c_82 => ?_)
                  · skip
                    have h := h.1 c_82
                    refine lv_iconst (v := 0) hx hb d_Pr_branchOnSign_115 (by decide) ?_
                    refine zz_Wi (As := [.int a0, .int (1 : Int32), .int (0 : Int32)]) (rest := []) (wc := wP qp qr qh qm qw qu qf ql qo cI ms mn u_69.1 u_69.2.1 u_69.2.2.1 u_69.2.2.2.1 u_69.2.2.2.2.1 u_69.2.2.2.2.2.1 u_69.2.2.2.2.2.2.1 u_69.2.2.2.2.2.2.2) (wr := []) X hK hP hD hS hA (c_Pr_branch l D cI qp qr qh qm qw qu qf ql qo ms mn u_69.1 u_69.2.1 u_69.2.2.1 u_69.2.2.2.1 u_69.2.2.2.2.1 u_69.2.2.2.2.2.1 u_69.2.2.2.2.2.2.1 u_69.2.2.2.2.2.2.2 a0 (1 : Int32) (0 : Int32) _ h _) ⟨rfl, rfl⟩ m_Pr_branch k_Pr_249 ⟨Nat.le_of_ble_eq_true rfl, Nat.le_of_ble_eq_true rfl⟩ [0, 1, 2, 3, 4, 5, 6, 7, 8] [] rfl rfl (by decide) (by decide) (by decide) 4 0 rfl rfl rfl rfl hl.1 rfl (Nat.le_of_ble_eq_true rfl) d_Pr_branchOnSign_116 hf0 (fun r_84 u_83 H locs h hP hD hS => ?_)
                    have hP : va_P D vwCl (wP qp qr qh qm qw qu qf ql qo cI ms mn u_83.1 u_83.2.1 u_83.2.2.1 u_83.2.2.2.1 u_83.2.2.2.2.1 u_83.2.2.2.2.2.1 u_83.2.2.2.2.2.2.1 u_83.2.2.2.2.2.2.2) H := hP.sub [0, 1, 2, 3, 4, 5, 6, 7, 8] rfl
                    have hD : va_D A (wP qp qr qh qm qw qu qf ql qo cI ms mn u_83.1 u_83.2.1 u_83.2.2.1 u_83.2.2.2.1 u_83.2.2.2.2.1 u_83.2.2.2.2.2.1 u_83.2.2.2.2.2.2.1 u_83.2.2.2.2.2.2.2) := hD.sub [0, 1, 2, 3, 4, 5, 6, 7, 8] (by decide) rfl
                    exact W.iret (v := r_84) hx hb hr (fun t ht hW => ⟨⟨r_84, (u_83.1, u_83.2.1, u_83.2.2.1, u_83.2.2.2.1, u_83.2.2.2.2.1, u_83.2.2.2.2.2.1, u_83.2.2.2.2.2.2.1, u_83.2.2.2.2.2.2.2), rfl, h, by rw [ht]; exact hP, hD⟩, hS.F ht⟩) hS.2.2 d_Pr_branchOnSign_119
                  · skip
                    have h := h.2 c_82
                    refine lv_iconst (v := 1) hx hb d_Pr_branchOnSign_111 (by decide) ?_
                    refine lv_goto (tgt := 116) hx hb d_Pr_branchOnSign_112 (by decide) ?_
                    refine zz_Wi (As := [.int a0, .int (1 : Int32), .int (1 : Int32)]) (rest := []) (wc := wP qp qr qh qm qw qu qf ql qo cI ms mn u_69.1 u_69.2.1 u_69.2.2.1 u_69.2.2.2.1 u_69.2.2.2.2.1 u_69.2.2.2.2.2.1 u_69.2.2.2.2.2.2.1 u_69.2.2.2.2.2.2.2) (wr := []) X hK hP hD hS hA (c_Pr_branch l D cI qp qr qh qm qw qu qf ql qo ms mn u_69.1 u_69.2.1 u_69.2.2.1 u_69.2.2.2.1 u_69.2.2.2.2.1 u_69.2.2.2.2.2.1 u_69.2.2.2.2.2.2.1 u_69.2.2.2.2.2.2.2 a0 (1 : Int32) (1 : Int32) _ h _) ⟨rfl, rfl⟩ m_Pr_branch k_Pr_249 ⟨Nat.le_of_ble_eq_true rfl, Nat.le_of_ble_eq_true rfl⟩ [0, 1, 2, 3, 4, 5, 6, 7, 8] [] rfl rfl (by decide) (by decide) (by decide) 4 0 rfl rfl rfl rfl hl.1 rfl (Nat.le_of_ble_eq_true rfl) d_Pr_branchOnSign_116 hf0 (fun r_86 u_85 H locs h hP hD hS => ?_)
                    have hP : va_P D vwCl (wP qp qr qh qm qw qu qf ql qo cI ms mn u_85.1 u_85.2.1 u_85.2.2.1 u_85.2.2.2.1 u_85.2.2.2.2.1 u_85.2.2.2.2.2.1 u_85.2.2.2.2.2.2.1 u_85.2.2.2.2.2.2.2) H := hP.sub [0, 1, 2, 3, 4, 5, 6, 7, 8] rfl
                    have hD : va_D A (wP qp qr qh qm qw qu qf ql qo cI ms mn u_85.1 u_85.2.1 u_85.2.2.1 u_85.2.2.2.1 u_85.2.2.2.2.1 u_85.2.2.2.2.2.1 u_85.2.2.2.2.2.2.1 u_85.2.2.2.2.2.2.2) := hD.sub [0, 1, 2, 3, 4, 5, 6, 7, 8] (by decide) rfl
                    exact W.iret (v := r_86) hx hb hr (fun t ht hW => ⟨⟨r_86, (u_85.1, u_85.2.1, u_85.2.2.1, u_85.2.2.2.1, u_85.2.2.2.2.1, u_85.2.2.2.2.2.1, u_85.2.2.2.2.2.2.1, u_85.2.2.2.2.2.2.2), rfl, h, by rw [ht]; exact hP, hD⟩, hS.F ht⟩) hS.2.2 d_Pr_branchOnSign_119
        · skip
          have h := h.1 c_45
          refine lv_bipush (v := 8) hx hb d_Pr_branchOnSign_35 (by decide) ?_
          exact W.iret (v := (8 : Int32)) hx hb hr (fun t ht hW => ⟨⟨(8 : Int32), (g, rg, hq, mf, cd, fg, L, O), rfl, h, by rw [ht]; exact hP, hD⟩, hS.F ht⟩) hS.2.2 d_Pr_branchOnSign_37
