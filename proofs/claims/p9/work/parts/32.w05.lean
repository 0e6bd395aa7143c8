def wp_Md_changed (ms : Int32) (dd : Nat → Int32) (Lwhole : Int64) (Lwhole2 : Int64) (bm : Nat → Int32) (rr : Nat → Int32) (kt : Nat → Int32) (a0 : Int64) (a1 : Int32) (P : Int64 → ((Nat → Int32) × Int64 × Int64 × (Nat → Int32) × (Nat → Int32) × (Nat → Int32)) → Prop) : Prop := wp_Md_take ms dd Lwhole Lwhole2 bm rr kt a0 a1 (fun u_1 => (((u_1.1 14) = (3 : Int32) → ((a1 = (0 : Int32) → wp_Md_noNumber (1 : Int32) (fun r_17 => P r_17 (u_1.1, u_1.2.1, u_1.2.2.1, u_1.2.2.2.1, u_1.2.2.2.2.1, u_1.2.2.2.2.2))) ∧ (¬ a1 = (0 : Int32) → wp_Md_noNumber (0 : Int32) (fun r_16 => P r_16 (u_1.1, u_1.2.1, u_1.2.2.1, u_1.2.2.2.1, u_1.2.2.2.2.1, u_1.2.2.2.2.2))))) ∧ (¬ (u_1.1 14) = (3 : Int32) → (((u_1.1 14) = (2 : Int32) → ((a1 = (0 : Int32) → wp_Md_endless (u_1.1 18) (1 : Int32) (fun r_14 => P r_14 (u_1.1, u_1.2.1, u_1.2.2.1, u_1.2.2.2.1, u_1.2.2.2.2.1, u_1.2.2.2.2.2))) ∧ (¬ a1 = (0 : Int32) → wp_Md_endless (u_1.1 18) (0 : Int32) (fun r_13 => P r_13 (u_1.1, u_1.2.1, u_1.2.2.1, u_1.2.2.2.1, u_1.2.2.2.2.1, u_1.2.2.2.2.2))))) ∧ (¬ (u_1.1 14) = (2 : Int32) → (((u_1.1 14) = (0 : Int32) → ((a1 = (0 : Int32) → wp_Md_signed (u_1.1 18) (1 : Int32) (0 : Int64) (fun r_11 => P r_11 (u_1.1, u_1.2.1, u_1.2.2.1, u_1.2.2.2.1, u_1.2.2.2.2.1, u_1.2.2.2.2.2))) ∧ (¬ a1 = (0 : Int32) → wp_Md_signed (u_1.1 18) (0 : Int32) (0 : Int64) (fun r_10 => P r_10 (u_1.1, u_1.2.1, u_1.2.2.1, u_1.2.2.2.1, u_1.2.2.2.2.1, u_1.2.2.2.2.2))))) ∧ (¬ (u_1.1 14) = (0 : Int32) → ((a1 = (0 : Int32) → wp_Md_rounded (u_1.1 18) u_1.2.1 (u_1.1 15) (0 : Int32) (1 : Int32) (fun r_8 => P r_8 (u_1.1, u_1.2.1, u_1.2.2.1, u_1.2.2.2.1, u_1.2.2.2.2.1, u_1.2.2.2.2.2))) ∧ (¬ a1 = (0 : Int32) → wp_Md_rounded (u_1.1 18) u_1.2.1 (u_1.1 15) (0 : Int32) (0 : Int32) (fun r_7 => P r_7 (u_1.1, u_1.2.1, u_1.2.2.1, u_1.2.2.2.1, u_1.2.2.2.2.1, u_1.2.2.2.2.2)))))))))))
abbrev rm_Md_changed : Room := { frames := 3, cells := 0, slots := 0, locals := 84 }
set_option maxHeartbeats 4000000 in
set_option maxRecDepth 100000 in
theorem c_Md_changed (l : Launch) (D : va_G) (cI : ClassId) (cB : ClassId) (qd : Nat) (qmemory : Nat) (qr : Nat) (qcounts : Nat) (ms : Int32) (dd : Nat → Int32) (Lwhole : Int64) (Lwhole2 : Int64) (bm : Nat → Int32) (rr : Nat → Int32) (kt : Nat → Int32) (a0 : Int64) (a1 : Int32) (P : Int64 → ((Nat → Int32) × Int64 × Int64 × (Nat → Int32) × (Nat → Int32) × (Nat → Int32)) → Prop) (h : wp_Md_changed ms dd Lwhole Lwhole2 bm rr kt a0 a1 P) (sz : Nat) : Met l y_Md_changed (zz_ws y_Md_changed b_Md_changed 4 (some .long)) rm_Md_changed (va_Pc [.ref qd, .long a0, .int a1] (zz_pw D [(cI, .int), (cB, .byte)] (wD qd qmemory qr qcounts cI cB ms dd Lwhole Lwhole2 bm rr kt) sz)) (va_Ql P (zz_qw D (fun u => wD qd qmemory qr qcounts cI cB ms u.1 u.2.1 u.2.2.1 u.2.2.2.1 u.2.2.2.2.1 u.2.2.2.2.2) (va_A (wD qd qmemory qr qcounts cI cB ms dd Lwhole Lwhole2 bm rr kt) sz)) (va_A (wD qd qmemory qr qcounts cI cB ms dd Lwhole Lwhole2 bm rr kt) sz)) 0 0 (va_A (wD qd qmemory qr qcounts cI cB ms dd Lwhole Lwhole2 bm rr kt) sz) := by
  refine Met.ofW (cc := b_Md_changed) (maxL := 4) (ret := (some .long)) (by decide) rfl ?_
  intro p e s m args below meth c s₁ B hml hv
  obtain ⟨rfl, hsz, hP, hK, hD0⟩ := hv
  have hx := B.exec
  have hb := B.bytes
  have hr := B.returns
  have hts := atoms_spec (ws := (zz_ws y_Md_changed b_Md_changed 4 (some .long))) B.pre
  have hown : s.vm.findClass R_Md = some m.cls := findClass_of_methodNamed B.named
  have hlocks := B.notSynchronized
  have hT := zz_hts hts
  have X : CallFix p m c b_Md_changed 4 s ([.ref qd, .long a0, .int a1] : List Value).toArray (zz_ws y_Md_changed b_Md_changed 4 (some .long)) R_Md := ⟨hx, hb, hml, hown, hts⟩
  have hf0 : 0 + 0 ≤ (headSpec (zz_ws y_Md_changed b_Md_changed 4 (some .long)) rm_Md_changed).room.cells ∧ 0 + 0 ≤ (headSpec (zz_ws y_Md_changed b_Md_changed 4 (some .long)) rm_Md_changed).room.slots := ⟨Nat.le_of_ble_eq_true rfl, Nat.le_of_ble_eq_true rfl⟩
  subst hsz
  have hD := hD0.self (sz := s.heap.size)
  generalize hAe : va_A (wD qd qmemory qr qcounts cI cB ms dd Lwhole Lwhole2 bm rr kt) s.heap.size = A at hD ⊢
  have hA : ∀ q : Nat, s.heap.size ≤ q → A q := fun q h => by rw [← hAe]; exact Or.inr h
  have hS : va_S A s.heap s.heap [] := va_S.rf
  have hl := lv_entry ([.ref qd, .long a0, .int a1]) (n := 4) (Nat.le_of_ble_eq_true rfl)
  rw [lg_entry_eq]
  generalize (lg_sl ([.ref qd, .long a0, .int a1]) ++ List.replicate (4 - (lg_sl ([.ref qd, .long a0, .int a1])).length) Slot.unset).toArray = ls at hl ⊢
  have hl : lv_has ls 4 [(0, .ref qd), (1, .long a0), (3, .int a1)] := hl
  refine lv_aload_n hx hb d_Md_changed_0 rfl (lv_at hl 0 rfl) ?_
  refine lv_lload_n hx hb d_Md_changed_1 rfl (lv_at hl 1 rfl) ?_
  refine lv_iload_n hx hb d_Md_changed_2 rfl (lv_at hl 2 rfl) ?_
  refine zz_Wv (As := [.long a0, .int a1]) (rest := []) (wc := wD qd qmemory qr qcounts cI cB ms dd Lwhole Lwhole2 bm rr kt) (wr := []) X hK hP hD hS hA (c_Md_take l D cI cB qd qmemory qr qcounts ms dd Lwhole Lwhole2 bm rr kt a0 a1 _ h _) ⟨rfl, rfl⟩ m_Md_take k_Md_282 ⟨Nat.le_of_ble_eq_true rfl, Nat.le_of_ble_eq_true rfl⟩ [0, 1, 2, 3] [] rfl rfl (by decide) (by decide) (by decide) 6 0 rfl rfl rfl rfl hl.1 rfl (Nat.le_of_ble_eq_true rfl) d_Md_changed_3 hf0 (fun u_1 H locs h hP hD hS => ?_)
  have hP : va_P D vwCl (wD qd qmemory qr qcounts cI cB ms u_1.1 u_1.2.1 u_1.2.2.1 u_1.2.2.2.1 u_1.2.2.2.2.1 u_1.2.2.2.2.2) H := hP.sub [0, 1, 2, 3] rfl
  have hD : va_D A (wD qd qmemory qr qcounts cI cB ms u_1.1 u_1.2.1 u_1.2.2.1 u_1.2.2.2.1 u_1.2.2.2.2.1 u_1.2.2.2.2.2) := hD.sub [0, 1, 2, 3] (by decide) rfl
  refine lv_aload_n hx hb d_Md_changed_6 rfl (lv_at hl 0 rfl) ?_
  refine g_Md_210 (v := .int (u_1.1 14)) hx hb hT hown hK hP 0 rfl rfl d_Md_changed_7 ?_
  refine lv_iconst (v := 3) hx hb d_Md_changed_10 (by decide) ?_
  refine lv_icmp_ne (tgt := 27) hx hb d_Md_changed_11 (by decide) (fun c_3 => ?_) (fun c_3 => ?_)
  · skip
    have h := h.2 c_3
    refine lv_aload_n hx hb d_Md_changed_27 rfl (lv_at hl 0 rfl) ?_
    refine g_Md_210 (v := .int (u_1.1 14)) hx hb hT hown hK hP 0 rfl rfl d_Md_changed_28 ?_
    refine lv_iconst (v := 2) hx hb d_Md_changed_31 (by decide) ?_
    refine lv_icmp_ne (tgt := 52) hx hb d_Md_changed_32 (by decide) (fun c_4 => ?_) (fun c_4 => ?_)
    · skip
      have h := h.2 c_4
      refine lv_aload_n hx hb d_Md_changed_52 rfl (lv_at hl 0 rfl) ?_
      refine g_Md_210 (v := .int (u_1.1 14)) hx hb hT hown hK hP 0 rfl rfl d_Md_changed_53 ?_
      refine lv_if_ne (tgt := 79) hx hb d_Md_changed_56 (by decide) (fun c_5 => ?_) (fun c_5 => ?_)
      · skip
        have h := h.2 c_5
        refine lv_aload_n hx hb d_Md_changed_79 rfl (lv_at hl 0 rfl) ?_
        refine g_Md_197 (v := .int (u_1.1 18)) hx hb hT hown hK hP 0 rfl rfl d_Md_changed_80 ?_
        refine lv_aload_n hx hb d_Md_changed_83 rfl (lv_at hl 0 rfl) ?_
        refine g_Md_200 (v := .long u_1.2.1) hx hb hT hown hK hP 0 rfl rfl d_Md_changed_84 ?_
        refine lv_aload_n hx hb d_Md_changed_87 rfl (lv_at hl 0 rfl) ?_
        refine g_Md_207 (v := .int (u_1.1 15)) hx hb hT hown hK hP 0 rfl rfl d_Md_changed_88 ?_
        refine lv_iconst (v := 0) hx hb d_Md_changed_91 (by decide) ?_
        refine lv_iload_n hx hb d_Md_changed_92 rfl (lv_at hl 2 rfl) ?_
        refine lv_if_ne (tgt := 100) hx hb d_Md_changed_93 (by decide) (fun c_6 => ?_) (fun c_6 => ?_)
        · skip
          have h := h.2 c_6
          refine lv_iconst (v := 0) hx hb d_Md_changed_100 (by decide) ?_
          refine zz_Sl (As := [.int (u_1.1 18), .long u_1.2.1, .int (u_1.1 15), .int (0 : Int32), .int (0 : Int32)]) (rest := []) X (c_Md_rounded l (u_1.1 18) u_1.2.1 (u_1.1 15) (0 : Int32) (0 : Int32) _ h) ⟨rfl, rfl⟩ m_Md_rounded k_Md_246 ⟨Nat.le_of_ble_eq_true rfl, Nat.le_of_ble_eq_true rfl⟩ rfl hl.1 rfl (Nat.le_of_ble_eq_true rfl) d_Md_changed_101 hf0 (fun r_7 h => ?_)
          exact W.lret (v := r_7) hx hb hr (fun t ht hW => ⟨⟨r_7, (u_1.1, u_1.2.1, u_1.2.2.1, u_1.2.2.2.1, u_1.2.2.2.2.1, u_1.2.2.2.2.2), rfl, h, by rw [ht]; exact hP, hD⟩, hS.F ht⟩) hS.2.2 d_Md_changed_104
        · skip
          have h := h.1 c_6
          refine lv_iconst (v := 1) hx hb d_Md_changed_96 (by decide) ?_
          refine lv_goto (tgt := 101) hx hb d_Md_changed_97 (by decide) ?_
          refine zz_Sl (As := [.int (u_1.1 18), .long u_1.2.1, .int (u_1.1 15), .int (0 : Int32), .int (1 : Int32)]) (rest := []) X (c_Md_rounded l (u_1.1 18) u_1.2.1 (u_1.1 15) (0 : Int32) (1 : Int32) _ h) ⟨rfl, rfl⟩ m_Md_rounded k_Md_246 ⟨Nat.le_of_ble_eq_true rfl, Nat.le_of_ble_eq_true rfl⟩ rfl hl.1 rfl (Nat.le_of_ble_eq_true rfl) d_Md_changed_101 hf0 (fun r_8 h => ?_)
          exact W.lret (v := r_8) hx hb hr (fun t ht hW => ⟨⟨r_8, (u_1.1, u_1.2.1, u_1.2.2.1, u_1.2.2.2.1, u_1.2.2.2.2.1, u_1.2.2.2.2.2), rfl, h, by rw [ht]; exact hP, hD⟩, hS.F ht⟩) hS.2.2 d_Md_changed_104
      · skip
        have h := h.1 c_5
        refine lv_aload_n hx hb d_Md_changed_59 rfl (lv_at hl 0 rfl) ?_
        refine g_Md_197 (v := .int (u_1.1 18)) hx hb hT hown hK hP 0 rfl rfl d_Md_changed_60 ?_
        refine lv_iload_n hx hb d_Md_changed_63 rfl (lv_at hl 2 rfl) ?_
        refine lv_if_ne (tgt := 71) hx hb d_Md_changed_64 (by decide) (fun c_9 => ?_) (fun c_9 => ?_)
        · skip
          have h := h.2 c_9
          refine lv_iconst (v := 0) hx hb d_Md_changed_71 (by decide) ?_
          refine lv_lconst (v := 0) hx hb d_Md_changed_72 (by decide) ?_
          refine zz_Sl (As := [.int (u_1.1 18), .int (0 : Int32), .long (0 : Int64)]) (rest := []) X (c_Md_signed l (u_1.1 18) (0 : Int32) (0 : Int64) _ h) ⟨rfl, rfl⟩ m_Md_signed k_Md_229 ⟨Nat.le_of_ble_eq_true rfl, Nat.le_of_ble_eq_true rfl⟩ rfl hl.1 rfl (Nat.le_of_ble_eq_true rfl) d_Md_changed_73 hf0 (fun r_10 h => ?_)
          refine lv_goto (tgt := 104) hx hb d_Md_changed_76 (by decide) ?_
          exact W.lret (v := r_10) hx hb hr (fun t ht hW => ⟨⟨r_10, (u_1.1, u_1.2.1, u_1.2.2.1, u_1.2.2.2.1, u_1.2.2.2.2.1, u_1.2.2.2.2.2), rfl, h, by rw [ht]; exact hP, hD⟩, hS.F ht⟩) hS.2.2 d_Md_changed_104
        · skip
          have h := h.1 c_9
          refine lv_iconst (v := 1) hx hb d_Md_changed_67 (by decide) ?_
          refine lv_goto (tgt := 72) hx hb d_Md_changed_68 (by decide) ?_
          refine lv_lconst (v := 0) hx hb d_Md_changed_72 (by decide) ?_
          refine zz_Sl (As := [.int (u_1.1 18), .int (1 : Int32), .long (0 : Int64)]) (rest := []) X (c_Md_signed l (u_1.1 18) (1 : Int32) (0 : Int64) _ h) ⟨rfl, rfl⟩ m_Md_signed k_Md_229 ⟨Nat.le_of_ble_eq_true rfl, Nat.le_of_ble_eq_true rfl⟩ rfl hl.1 rfl (Nat.le_of_ble_eq_true rfl) d_Md_changed_73 hf0 (fun r_11 h => ?_)
          refine lv_goto (tgt := 104) hx hb d_Md_changed_76 (by decide) ?_
          exact W.lret (v := r_11) hx hb hr (fun t ht hW => ⟨⟨r_11, (u_1.1, u_1.2.1, u_1.2.2.1, u_1.2.2.2.1, u_1.2.2.2.2.1, u_1.2.2.2.2.2), rfl, h, by rw [ht]; exact hP, hD⟩, hS.F ht⟩) hS.2.2 d_Md_changed_104
    · skip
      have h := h.1 c_4
      refine lv_aload_n hx hb d_Md_changed_35 rfl (lv_at hl 0 rfl) ?_
      refine g_Md_197 (v := .int (u_1.1 18)) hx hb hT hown hK hP 0 rfl rfl d_Md_changed_36 ?_
      refine lv_iload_n hx hb d_Md_changed_39 rfl (lv_at hl 2 rfl) ?_
      refine lv_if_ne (tgt := 47) hx hb d_Md_changed_40 (by decide) (fun c_12 => ?_) (fun c_12 => ?_)
      · skip
        have h := h.2 c_12
        refine lv_iconst (v := 0) hx hb d_Md_changed_47 (by decide) ?_
        refine zz_Sl (As := [.int (u_1.1 18), .int (0 : Int32)]) (rest := []) X (c_Md_endless l (u_1.1 18) (0 : Int32) _ h) ⟨rfl, rfl⟩ m_Md_endless k_Md_235 ⟨Nat.le_of_ble_eq_true rfl, Nat.le_of_ble_eq_true rfl⟩ rfl hl.1 rfl (Nat.le_of_ble_eq_true rfl) d_Md_changed_48 hf0 (fun r_13 h => ?_)
        exact W.lret (v := r_13) hx hb hr (fun t ht hW => ⟨⟨r_13, (u_1.1, u_1.2.1, u_1.2.2.1, u_1.2.2.2.1, u_1.2.2.2.2.1, u_1.2.2.2.2.2), rfl, h, by rw [ht]; exact hP, hD⟩, hS.F ht⟩) hS.2.2 d_Md_changed_51
      · skip
        have h := h.1 c_12
        refine lv_iconst (v := 1) hx hb d_Md_changed_43 (by decide) ?_
        refine lv_goto (tgt := 48) hx hb d_Md_changed_44 (by decide) ?_
        refine zz_Sl (As := [.int (u_1.1 18), .int (1 : Int32)]) (rest := []) X (c_Md_endless l (u_1.1 18) (1 : Int32) _ h) ⟨rfl, rfl⟩ m_Md_endless k_Md_235 ⟨Nat.le_of_ble_eq_true rfl, Nat.le_of_ble_eq_true rfl⟩ rfl hl.1 rfl (Nat.le_of_ble_eq_true rfl) d_Md_changed_48 hf0 (fun r_14 h => ?_)
        exact W.lret (v := r_14) hx hb hr (fun t ht hW => ⟨⟨r_14, (u_1.1, u_1.2.1, u_1.2.2.1, u_1.2.2.2.1, u_1.2.2.2.2.1, u_1.2.2.2.2.2), rfl, h, by rw [ht]; exact hP, hD⟩, hS.F ht⟩) hS.2.2 d_Md_changed_51
  · skip
    have h := h.1 c_3
    refine lv_iload_n hx hb d_Md_changed_14 rfl (lv_at hl 2 rfl) ?_
    refine lv_if_ne (tgt := 22) hx hb d_Md_changed_15 (by decide) (fun c_15 => ?_) (fun c_15 => ?_)
    · skip
      have h := h.2 c_15
      refine lv_iconst (v := 0) hx hb d_Md_changed_22 (by decide) ?_
      refine zz_Sl (As := [.int (0 : Int32)]) (rest := []) X (c_Md_noNumber l (0 : Int32) _ h) ⟨rfl, rfl⟩ m_Md_noNumber k_Md_297 ⟨Nat.le_of_ble_eq_true rfl, Nat.le_of_ble_eq_true rfl⟩ rfl hl.1 rfl (Nat.le_of_ble_eq_true rfl) d_Md_changed_23 hf0 (fun r_16 h => ?_)
      exact W.lret (v := r_16) hx hb hr (fun t ht hW => ⟨⟨r_16, (u_1.1, u_1.2.1, u_1.2.2.1, u_1.2.2.2.1, u_1.2.2.2.2.1, u_1.2.2.2.2.2), rfl, h, by rw [ht]; exact hP, hD⟩, hS.F ht⟩) hS.2.2 d_Md_changed_26
    · skip
      have h := h.1 c_15
      refine lv_iconst (v := 1) hx hb d_Md_changed_18 (by decide) ?_
      refine lv_goto (tgt := 23) hx hb d_Md_changed_19 (by decide) ?_
      refine zz_Sl (As := [.int (1 : Int32)]) (rest := []) X (c_Md_noNumber l (1 : Int32) _ h) ⟨rfl, rfl⟩ m_Md_noNumber k_Md_297 ⟨Nat.le_of_ble_eq_true rfl, Nat.le_of_ble_eq_true rfl⟩ rfl hl.1 rfl (Nat.le_of_ble_eq_true rfl) d_Md_changed_23 hf0 (fun r_17 h => ?_)
      exact W.lret (v := r_17) hx hb hr (fun t ht hW => ⟨⟨r_17, (u_1.1, u_1.2.1, u_1.2.2.1, u_1.2.2.2.1, u_1.2.2.2.2.1, u_1.2.2.2.2.2), rfl, h, by rw [ht]; exact hP, hD⟩, hS.F ht⟩) hS.2.2 d_Md_changed_26
def wj_Md_root_106 (ms : Int32) (a0 : Int64) (a1 : Int32) (dd : Nat → Int32) (Lwhole : Int64) (Lwhole2 : Int64) (bm : Nat → Int32) (rr : Nat → Int32) (kt : Nat → Int32) (P : Int64 → Prop) (kk : Int32 → Int64 → Int64 → Int64 → Int32 → Prop) (j106_4 : Int64) (j106_6 : Int32) (j106_7 : Int64) (j106_11 : Int32) (s106_0 : Int64) (s106_1 : Int64) : Prop := ∀ x_1 : Int64, x_1 = (s106_0 ||| s106_1) → ∀ x_2 : Int64, x_2 = ((zz_lshl j106_7 (2 : Int32)) ||| (1 : Int64)) → ∀ x_3 : Int64, x_3 = (zz_lshl j106_7 (1 : Int32)) → ((x_1 < x_2 → ∀ x_5 : Int32, x_5 = j106_11 + 1 → kk x_5 x_1 x_3 j106_4 j106_6) ∧ (¬ x_1 < x_2 → ∀ x_6 : Int64, x_6 = (x_1 - x_2) → ∀ x_7 : Int64, x_7 = (x_3 ||| (1 : Int64)) → ∀ x_8 : Int32, x_8 = j106_11 + 1 → kk x_8 x_6 x_7 j106_4 j106_6))
def wl_Md_root_68 (ms : Int32) (a0 : Int64) (a1 : Int32) (dd : Nat → Int32) (Lwhole : Int64) (Lwhole2 : Int64) (bm : Nat → Int32) (rr : Nat → Int32) (kt : Nat → Int32) (P : Int64 → Prop) : Nat → Int32 → Int64 → Int64 → Int64 → Int32 → Prop
  | 0, _, _, _, _, _ => False
  | n + 1, v11, v9, v7, v4, v6 => (((58 : Int32) ≤ v11 → ∀ x_10 : Int32, x_10 = ((v6 / (2 : Int32)) - (30 : Int32)) → ((v9 ≤ (0 : Int64) → wp_Md_rounded (0 : Int32) v7 x_10 (0 : Int32) a1 (fun r_12 => P r_12)) ∧ (¬ v9 ≤ (0 : Int64) → wp_Md_rounded (0 : Int32) v7 x_10 (1 : Int32) a1 (fun r_13 => P r_13)))) ∧ (¬ (58 : Int32) ≤ v11 → ∀ x_14 : Int32, x_14 = ((54 : Int32) - ((2 : Int32) * v11)) → ((x_14 < (0 : Int32) → wj_Md_root_106 ms a0 a1 dd Lwhole Lwhole2 bm rr kt P (wl_Md_root_68 ms a0 a1 dd Lwhole Lwhole2 bm rr kt P n) v4 v6 v7 v11 (zz_lshl v9 (2 : Int32)) (0 : Int64)) ∧ (¬ x_14 < (0 : Int32) → ∀ x_16 : Int64, x_16 = ((zz_lshr v4 x_14) &&& (3 : Int64)) → wj_Md_root_106 ms a0 a1 dd Lwhole Lwhole2 bm rr kt P (wl_Md_root_68 ms a0 a1 dd Lwhole Lwhole2 bm rr kt P n) v4 v6 v7 v11 (zz_lshl v9 (2 : Int32)) x_16))))
def wj_Md_root_59 (ms : Int32) (a0 : Int64) (a1 : Int32) (dd : Nat → Int32) (Lwhole : Int64) (Lwhole2 : Int64) (bm : Nat → Int32) (rr : Nat → Int32) (kt : Nat → Int32) (P : Int64 → Prop) (j59_4 : Int64) (j59_6 : Int32) : Prop := ∃ n, wl_Md_root_68 ms a0 a1 dd Lwhole Lwhole2 bm rr kt P n (0 : Int32) (0 : Int64) (0 : Int64) j59_4 j59_6
def wp_Md_root (ms : Int32) (dd : Nat → Int32) (Lwhole : Int64) (Lwhole2 : Int64) (bm : Nat → Int32) (rr : Nat → Int32) (kt : Nat → Int32) (a0 : Int64) (a1 : Int32) (P : Int64 → Prop) : Prop := (((dd 14) = (0 : Int32) → P a0) ∧ (¬ (dd 14) = (0 : Int32) → (((dd 18) = (0 : Int32) → (((dd 14) = (2 : Int32) → P a0) ∧ (¬ (dd 14) = (2 : Int32) → ∀ x_20 : Int32, x_20 = (dd 15) → (((x_20 &&& (1 : Int32)) = (0 : Int32) → wj_Md_root_59 ms a0 a1 dd Lwhole Lwhole2 bm rr kt P Lwhole x_20) ∧ (¬ (x_20 &&& (1 : Int32)) = (0 : Int32) → ∀ x_22 : Int64, x_22 = (zz_lshl Lwhole (1 : Int32)) → ∀ x_23 : Int32, x_23 = x_20 + (-1) → wj_Md_root_59 ms a0 a1 dd Lwhole Lwhole2 bm rr kt P x_22 x_23))))) ∧ (¬ (dd 18) = (0 : Int32) → wp_Md_noNumber a1 (fun r_24 => P r_24)))))
abbrev rm_Md_root : Room := { frames := 3, cells := 0, slots := 0, locals := 84 }
set_option maxHeartbeats 4000000 in
set_option maxRecDepth 100000 in
theorem c_Md_root (l : Launch) (D : va_G) (cI : ClassId) (cB : ClassId) (qd : Nat) (qmemory : Nat) (qr : Nat) (qcounts : Nat) (ms : Int32) (dd : Nat → Int32) (Lwhole : Int64) (Lwhole2 : Int64) (bm : Nat → Int32) (rr : Nat → Int32) (kt : Nat → Int32) (a0 : Int64) (a1 : Int32) (P : Int64 → Prop) (h : wp_Md_root ms dd Lwhole Lwhole2 bm rr kt a0 a1 P) : Met l y_Md_root (zz_ws y_Md_root b_Md_root 15 (some .long)) rm_Md_root (va_Pc [.ref qd, .long a0, .int a1] (zz_pr D [(cI, .int), (cB, .byte)] (wD qd qmemory qr qcounts cI cB ms dd Lwhole Lwhole2 bm rr kt))) (vp_Sl P) 0 0 (fun _ => False) := by
  refine Met.ofW (cc := b_Md_root) (maxL := 15) (ret := (some .long)) (by decide) rfl ?_
  intro p e s m args below meth c s₁ B hml hv
  obtain ⟨rfl, hP, hK⟩ := hv
  have hx := B.exec
  have hb := B.bytes
  have hr := B.returns
  have hts := atoms_spec (ws := (zz_ws y_Md_root b_Md_root 15 (some .long))) B.pre
  have hown : s.vm.findClass R_Md = some m.cls := findClass_of_methodNamed B.named
  have hlocks := B.notSynchronized
  have hT := zz_hts hts
  have X : CallFix p m c b_Md_root 15 s ([.ref qd, .long a0, .int a1] : List Value).toArray (zz_ws y_Md_root b_Md_root 15 (some .long)) R_Md := ⟨hx, hb, hml, hown, hts⟩
  have hf0 : 0 + 0 ≤ (headSpec (zz_ws y_Md_root b_Md_root 15 (some .long)) rm_Md_root).room.cells ∧ 0 + 0 ≤ (headSpec (zz_ws y_Md_root b_Md_root 15 (some .long)) rm_Md_root).room.slots := ⟨Nat.le_of_ble_eq_true rfl, Nat.le_of_ble_eq_true rfl⟩
  have hl := lv_entry ([.ref qd, .long a0, .int a1]) (n := 15) (Nat.le_of_ble_eq_true rfl)
  rw [lg_entry_eq]
  generalize (lg_sl ([.ref qd, .long a0, .int a1]) ++ List.replicate (15 - (lg_sl ([.ref qd, .long a0, .int a1])).length) Slot.unset).toArray = ls at hl ⊢
  have hl : lv_has ls 15 [(0, .ref qd), (1, .long a0), (3, .int a1)] := hl
  have jn_59 : ∀ (j59_4 : Int64) (j59_6 : Int32), wj_Md_root_59 ms a0 a1 dd Lwhole Lwhole2 bm rr kt P j59_4 j59_6 → ∀ ls : Array Slot, lv_has ls 15 [(3, .int a1), (4, .long j59_4), (6, .int j59_6)] → W p l e (headSpec (zz_ws y_Md_root b_Md_root 15 (some .long)) rm_Md_root).room s m ([.ref qd, .long a0, .int a1] : List Value).toArray below meth c s.heap [] 0 0 (MQ below (vp_Sl P) ([.ref qd, .long a0, .int a1] : List Value).toArray s 0 0 (fun _ => False)) (F0 m 59 ls []) := by
    intro j59_4 j59_6 h ls hl
    unfold wj_Md_root_59 at h
    refine lv_lconst (v := 0) hx hb d_Md_root_59 (by decide) ?_
    refine lv_lstore (lv' := [(7, .long (0 : Int64)), (3, .int a1), (4, .long j59_4), (6, .int j59_6)]) hx hb d_Md_root_60 hl (by decide) rfl (fun ls hl => ?_)
    refine lv_lconst (v := 0) hx hb d_Md_root_62 (by decide) ?_
    refine lv_lstore (lv' := [(9, .long (0 : Int64)), (7, .long (0 : Int64)), (3, .int a1), (4, .long j59_4), (6, .int j59_6)]) hx hb d_Md_root_63 hl (by decide) rfl (fun ls hl => ?_)
    refine lv_iconst (v := 0) hx hb d_Md_root_65 (by decide) ?_
    refine lv_istore (lv' := [(11, .int (0 : Int32)), (9, .long (0 : Int64)), (7, .long (0 : Int64)), (3, .int a1), (4, .long j59_4), (6, .int j59_6)]) hx hb d_Md_root_66 hl (by decide) rfl (fun ls hl => ?_)
    have lp : ∀ (n : Nat) (v11 : Int32) (v9 : Int64) (v7 : Int64) (v4 : Int64) (v6 : Int32), wl_Md_root_68 ms a0 a1 dd Lwhole Lwhole2 bm rr kt P n v11 v9 v7 v4 v6 → ∀ ls : Array Slot, lv_has ls 15 [(11, .int v11), (9, .long v9), (7, .long v7), (3, .int a1), (4, .long v4), (6, .int v6)] → W p l e (headSpec (zz_ws y_Md_root b_Md_root 15 (some .long)) rm_Md_root).room s m ([.ref qd, .long a0, .int a1] : List Value).toArray below meth c s.heap [] 0 0 (MQ below (vp_Sl P) ([.ref qd, .long a0, .int a1] : List Value).toArray s 0 0 (fun _ => False)) (F0 m 68 ls []) := by
      intro n
      induction n with
      | zero =>
        intro v11 v9 v7 v4 v6 h
        exact False.elim h
      | succ n ih =>
        intro v11 v9 v7 v4 v6 h ls hl
        rw [wl_Md_root_68] at h
        have jn_106 : ∀ (j106_4 : Int64) (j106_6 : Int32) (j106_7 : Int64) (j106_11 : Int32) (s106_0 : Int64) (s106_1 : Int64), wj_Md_root_106 ms a0 a1 dd Lwhole Lwhole2 bm rr kt P (wl_Md_root_68 ms a0 a1 dd Lwhole Lwhole2 bm rr kt P n) j106_4 j106_6 j106_7 j106_11 s106_0 s106_1 → ∀ ls : Array Slot, lv_has ls 15 [(3, .int a1), (4, .long j106_4), (6, .int j106_6), (7, .long j106_7), (11, .int j106_11)] → W p l e (headSpec (zz_ws y_Md_root b_Md_root 15 (some .long)) rm_Md_root).room s m ([.ref qd, .long a0, .int a1] : List Value).toArray below meth c s.heap [] 0 0 (MQ below (vp_Sl P) ([.ref qd, .long a0, .int a1] : List Value).toArray s 0 0 (fun _ => False)) (F0 m 106 ls [.long s106_1, .long s106_0]) := by
          intro j106_4 j106_6 j106_7 j106_11 s106_0 s106_1 h ls hl
          unfold wj_Md_root_106 at h
          refine lv_lor hx hb d_Md_root_106 ?_
          refine lv_topl (fun x_1 ex_1 => ?_)
          have h := h x_1 ex_1
          refine lv_lstore (lv' := [(9, .long x_1), (3, .int a1), (4, .long j106_4), (6, .int j106_6), (7, .long j106_7), (11, .int j106_11)]) hx hb d_Md_root_107 hl (by decide) rfl (fun ls hl => ?_)
          refine lv_lload hx hb d_Md_root_109 (lv_at hl 4 rfl) ?_
          refine lv_iconst (v := 2) hx hb d_Md_root_111 (by decide) ?_
          refine zz_llshl hx hb d_Md_root_112 ?_
          refine lv_lconst (v := 1) hx hb d_Md_root_113 (by decide) ?_
          refine lv_lor hx hb d_Md_root_114 ?_
          refine lv_topl (fun x_2 ex_2 => ?_)
          have h := h x_2 ex_2
          refine lv_lstore (lv' := [(13, .long x_2), (9, .long x_1), (3, .int a1), (4, .long j106_4), (6, .int j106_6), (7, .long j106_7), (11, .int j106_11)]) hx hb d_Md_root_115 hl (by decide) rfl (fun ls hl => ?_)
          refine lv_lload hx hb d_Md_root_117 (lv_at hl 5 rfl) ?_
          refine lv_iconst (v := 1) hx hb d_Md_root_119 (by decide) ?_
          refine zz_llshl hx hb d_Md_root_120 ?_
          refine lv_topl (fun x_3 ex_3 => ?_)
          have h := h x_3 ex_3
          refine lv_lstore (lv' := [(7, .long x_3), (13, .long x_2), (9, .long x_1), (3, .int a1), (4, .long j106_4), (6, .int j106_6), (11, .int j106_11)]) hx hb d_Md_root_121 hl (by decide) rfl (fun ls hl => ?_)
          refine lv_lload hx hb d_Md_root_123 (lv_at hl 2 rfl) ?_
          refine lv_lload hx hb d_Md_root_125 (lv_at hl 1 rfl) ?_
          refine W.lcmp hx hb d_Md_root_127 ?_
          refine lv_if_lt (tgt := 144) hx hb d_Md_root_128 (by decide) (fun c_4 => ?_) (fun c_4 => ?_)
          · have kc_4 := ((lg_cmp_lt _ _).mp c_4)
            have h := h.1 kc_4
            obtain ⟨x_5, ex_5⟩ : ∃ y : Int32, y = j106_11 + 1 := ⟨_, rfl⟩
            have h := h x_5 ex_5
            refine lv_iinc (v := x_5) (lv' := [(11, .int x_5), (7, .long x_3), (13, .long x_2), (9, .long x_1), (3, .int a1), (4, .long j106_4), (6, .int j106_6)]) hx hb d_Md_root_144 hl (k := 6) rfl (by rw [ex_5]; rfl) (by decide) rfl (fun ls hl => ?_)
            refine lv_goto (tgt := 68) hx hb d_Md_root_147 (by decide) ?_
            exact ih x_5 x_1 x_3 j106_4 j106_6 h ls (lv_sub hl [0, 3, 1, 4, 5, 6] rfl)
          · have kc_4 := (fun q => c_4 ((lg_cmp_lt _ _).mpr q))
            have h := h.2 kc_4
            refine lv_lload hx hb d_Md_root_131 (lv_at hl 2 rfl) ?_
            refine lv_lload hx hb d_Md_root_133 (lv_at hl 1 rfl) ?_
            refine lv_lsub hx hb d_Md_root_135 ?_
            refine lv_topl (fun x_6 ex_6 => ?_)
            have h := h x_6 ex_6
            refine lv_lstore (lv' := [(9, .long x_6), (7, .long x_3), (13, .long x_2), (3, .int a1), (4, .long j106_4), (6, .int j106_6), (11, .int j106_11)]) hx hb d_Md_root_136 hl (by decide) rfl (fun ls hl => ?_)
            refine lv_lload hx hb d_Md_root_138 (lv_at hl 1 rfl) ?_
            refine lv_lconst (v := 1) hx hb d_Md_root_140 (by decide) ?_
            refine lv_lor hx hb d_Md_root_141 ?_
            refine lv_topl (fun x_7 ex_7 => ?_)
            have h := h x_7 ex_7
            refine lv_lstore (lv' := [(7, .long x_7), (9, .long x_6), (13, .long x_2), (3, .int a1), (4, .long j106_4), (6, .int j106_6), (11, .int j106_11)]) hx hb d_Md_root_142 hl (by decide) rfl (fun ls hl => ?_)
            obtain ⟨x_8, ex_8⟩ : ∃ y : Int32, y = j106_11 + 1 := ⟨_, rfl⟩
            have h := h x_8 ex_8
            refine lv_iinc (v := x_8) (lv' := [(11, .int x_8), (7, .long x_7), (9, .long x_6), (13, .long x_2), (3, .int a1), (4, .long j106_4), (6, .int j106_6)]) hx hb d_Md_root_144 hl (k := 6) rfl (by rw [ex_8]; rfl) (by decide) rfl (fun ls hl => ?_)
            refine lv_goto (tgt := 68) hx hb d_Md_root_147 (by decide) ?_
            exact ih x_8 x_6 x_7 j106_4 j106_6 h ls (lv_sub hl [0, 2, 1, 4, 5, 6] rfl)
        refine lv_iload hx hb d_Md_root_68 (lv_at hl 0 rfl) ?_
        refine lv_bipush (v := 58) hx hb d_Md_root_70 (by decide) ?_
        refine lv_icmp_ge (tgt := 150) hx hb d_Md_root_72 (by decide) (fun c_9 => ?_) (fun c_9 => ?_)
        · skip
          have h := h.1 c_9
          refine lv_iconst (v := 0) hx hb d_Md_root_150 (by decide) ?_
          refine lv_lload hx hb d_Md_root_151 (lv_at hl 2 rfl) ?_
          refine lv_iload hx hb d_Md_root_153 (lv_at hl 5 rfl) ?_
          refine lv_iconst (v := 2) hx hb d_Md_root_155 (by decide) ?_
          refine lv_idiv hx hb d_Md_root_156 (by decide) ?_
          refine lv_bipush (v := 30) hx hb d_Md_root_157 (by decide) ?_
          refine lv_isub hx hb d_Md_root_159 ?_
          refine lv_topi (fun x_10 ex_10 => ?_)
          have h := h x_10 ex_10
          refine lv_lload hx hb d_Md_root_160 (lv_at hl 1 rfl) ?_
          refine lv_lconst (v := 0) hx hb d_Md_root_162 (by decide) ?_
          refine W.lcmp hx hb d_Md_root_163 ?_
          refine lv_if_le (tgt := 171) hx hb d_Md_root_164 (by decide) (fun c_11 => ?_) (fun c_11 => ?_)
          · have kc_11 := ((lg_cmp_le _ _).mp c_11)
            have h := h.1 kc_11
            refine lv_iconst (v := 0) hx hb d_Md_root_171 (by decide) ?_
            refine lv_iload_n hx hb d_Md_root_172 rfl (lv_at hl 3 rfl) ?_
            refine zz_Sl (As := [.int (0 : Int32), .long v7, .int x_10, .int (0 : Int32), .int a1]) (rest := []) X (c_Md_rounded l (0 : Int32) v7 x_10 (0 : Int32) a1 _ h) ⟨rfl, rfl⟩ m_Md_rounded k_Md_246 ⟨Nat.le_of_ble_eq_true rfl, Nat.le_of_ble_eq_true rfl⟩ rfl hl.1 rfl (Nat.le_of_ble_eq_true rfl) d_Md_root_173 hf0 (fun r_12 h => ?_)
            exact W.lret (v := r_12) hx hb hr (fun t ht hW => ⟨r_12,  rfl, h, ht⟩) t_nil d_Md_root_176
          · have kc_11 := (fun q => c_11 ((lg_cmp_le _ _).mpr q))
            have h := h.2 kc_11
            refine lv_iconst (v := 1) hx hb d_Md_root_167 (by decide) ?_
            refine lv_goto (tgt := 172) hx hb d_Md_root_168 (by decide) ?_
            refine lv_iload_n hx hb d_Md_root_172 rfl (lv_at hl 3 rfl) ?_
            refine zz_Sl (As := [.int (0 : Int32), .long v7, .int x_10, .int (1 : Int32), .int a1]) (rest := []) X (c_Md_rounded l (0 : Int32) v7 x_10 (1 : Int32) a1 _ h) ⟨rfl, rfl⟩ m_Md_rounded k_Md_246 ⟨Nat.le_of_ble_eq_true rfl, Nat.le_of_ble_eq_true rfl⟩ rfl hl.1 rfl (Nat.le_of_ble_eq_true rfl) d_Md_root_173 hf0 (fun r_13 h => ?_)
            exact W.lret (v := r_13) hx hb hr (fun t ht hW => ⟨r_13,  rfl, h, ht⟩) t_nil d_Md_root_176
        · skip
          have h := h.2 c_9
          refine lv_bipush (v := 54) hx hb d_Md_root_75 (by decide) ?_
          refine lv_iconst (v := 2) hx hb d_Md_root_77 (by decide) ?_
          refine lv_iload hx hb d_Md_root_78 (lv_at hl 0 rfl) ?_
          refine lv_imul hx hb d_Md_root_80 ?_
          refine lv_isub hx hb d_Md_root_81 ?_
          refine lv_topi (fun x_14 ex_14 => ?_)
          have h := h x_14 ex_14
          refine lv_istore (lv' := [(12, .int x_14), (11, .int v11), (9, .long v9), (7, .long v7), (3, .int a1), (4, .long v4), (6, .int v6)]) hx hb d_Md_root_82 hl (by decide) rfl (fun ls hl => ?_)
          refine lv_lload hx hb d_Md_root_84 (lv_at hl 2 rfl) ?_
          refine lv_iconst (v := 2) hx hb d_Md_root_86 (by decide) ?_
          refine zz_llshl hx hb d_Md_root_87 ?_
          refine lv_iload hx hb d_Md_root_88 (lv_at hl 0 rfl) ?_
          refine lv_if_lt (tgt := 105) hx hb d_Md_root_90 (by decide) (fun c_15 => ?_) (fun c_15 => ?_)
          · skip
            have h := h.1 c_15
            refine lv_lconst (v := 0) hx hb d_Md_root_105 (by decide) ?_
            exact jn_106 v4 v6 v7 v11 (zz_lshl v9 (2 : Int32)) (0 : Int64) h ls (lv_sub hl [4, 5, 6, 3, 1] rfl)
          · skip
            have h := h.2 c_15
            refine lv_lload hx hb d_Md_root_93 (lv_at hl 5 rfl) ?_
            refine lv_iload hx hb d_Md_root_95 (lv_at hl 0 rfl) ?_
            refine zz_llshr hx hb d_Md_root_97 ?_
            refine lv_ldc2 (v := 3) hx hb hown (hT _ n_Md_305) d_Md_root_98 ?_
            refine lv_land hx hb d_Md_root_101 ?_
            refine lv_topl (fun x_16 ex_16 => ?_)
            have h := h x_16 ex_16
            refine lv_goto (tgt := 106) hx hb d_Md_root_102 (by decide) ?_
            exact jn_106 v4 v6 v7 v11 (zz_lshl v9 (2 : Int32)) x_16 h ls (lv_sub hl [4, 5, 6, 3, 1] rfl)
    obtain ⟨n, h⟩ := h
    exact lp n (0 : Int32) (0 : Int64) (0 : Int64) j59_4 j59_6 h ls hl
  refine lv_aload_n hx hb d_Md_root_0 rfl (lv_at hl 0 rfl) ?_
  refine g_Md_210 (v := .int (dd 14)) hx hb hT hown hK hP 0 rfl rfl d_Md_root_1 ?_
  refine lv_if_ne (tgt := 9) hx hb d_Md_root_4 (by decide) (fun c_17 => ?_) (fun c_17 => ?_)
  · skip
    have h := h.2 c_17
    refine lv_aload_n hx hb d_Md_root_9 rfl (lv_at hl 0 rfl) ?_
    refine g_Md_197 (v := .int (dd 18)) hx hb hT hown hK hP 0 rfl rfl d_Md_root_10 ?_
    refine lv_if_eq (tgt := 21) hx hb d_Md_root_13 (by decide) (fun c_18 => ?_) (fun c_18 => ?_)
    · skip
      have h := h.1 c_18
      refine lv_aload_n hx hb d_Md_root_21 rfl (lv_at hl 0 rfl) ?_
      refine g_Md_210 (v := .int (dd 14)) hx hb hT hown hK hP 0 rfl rfl d_Md_root_22 ?_
      refine lv_iconst (v := 2) hx hb d_Md_root_25 (by decide) ?_
      refine lv_icmp_ne (tgt := 31) hx hb d_Md_root_26 (by decide) (fun c_19 => ?_) (fun c_19 => ?_)
      · skip
        have h := h.2 c_19
        refine lv_aload_n hx hb d_Md_root_31 rfl (lv_at hl 0 rfl) ?_
        refine g_Md_200 (v := .long Lwhole) hx hb hT hown hK hP 0 rfl rfl d_Md_root_32 ?_
        refine lv_lstore (lv' := [(4, .long Lwhole), (0, .ref qd), (1, .long a0), (3, .int a1)]) hx hb d_Md_root_35 hl (by decide) rfl (fun ls hl => ?_)
        refine lv_aload_n hx hb d_Md_root_37 rfl (lv_at hl 1 rfl) ?_
        refine g_Md_207 (v := .int (dd 15)) hx hb hT hown hK hP 0 rfl rfl d_Md_root_38 ?_
        refine lv_topi (fun x_20 ex_20 => ?_)
        have h := h x_20 ex_20
        refine lv_istore (lv' := [(6, .int x_20), (4, .long Lwhole), (0, .ref qd), (1, .long a0), (3, .int a1)]) hx hb d_Md_root_41 hl (by decide) rfl (fun ls hl => ?_)
        refine lv_iload hx hb d_Md_root_43 (lv_at hl 0 rfl) ?_
        refine lv_iconst (v := 1) hx hb d_Md_root_45 (by decide) ?_
        refine lv_iand hx hb d_Md_root_46 ?_
        refine lv_if_eq (tgt := 59) hx hb d_Md_root_47 (by decide) (fun c_21 => ?_) (fun c_21 => ?_)
        · skip
          have h := h.1 c_21
          exact jn_59 Lwhole x_20 h ls (lv_sub hl [4, 1, 0] rfl)
        · skip
          have h := h.2 c_21
          refine lv_lload hx hb d_Md_root_50 (lv_at hl 1 rfl) ?_
          refine lv_iconst (v := 1) hx hb d_Md_root_52 (by decide) ?_
          refine zz_llshl hx hb d_Md_root_53 ?_
          refine lv_topl (fun x_22 ex_22 => ?_)
          have h := h x_22 ex_22
          refine lv_lstore (lv' := [(4, .long x_22), (6, .int x_20), (0, .ref qd), (1, .long a0), (3, .int a1)]) hx hb d_Md_root_54 hl (by decide) rfl (fun ls hl => ?_)
          obtain ⟨x_23, ex_23⟩ : ∃ y : Int32, y = x_20 + (-1) := ⟨_, rfl⟩
          have h := h x_23 ex_23
          refine lv_iinc (v := x_23) (lv' := [(6, .int x_23), (4, .long x_22), (0, .ref qd), (1, .long a0), (3, .int a1)]) hx hb d_Md_root_56 hl (k := 1) rfl (by rw [ex_23]; rfl) (by decide) rfl (fun ls hl => ?_)
          exact jn_59 x_22 x_23 h ls (lv_sub hl [4, 1, 0] rfl)
      · skip
        have h := h.1 c_19
        refine lv_lload_n hx hb d_Md_root_29 rfl (lv_at hl 1 rfl) ?_
        exact W.lret (v := a0) hx hb hr (fun t ht hW => ⟨a0,  rfl, h, ht⟩) t_nil d_Md_root_30
    · skip
      have h := h.2 c_18
      refine lv_iload_n hx hb d_Md_root_16 rfl (lv_at hl 2 rfl) ?_
      refine zz_Sl (As := [.int a1]) (rest := []) X (c_Md_noNumber l a1 _ h) ⟨rfl, rfl⟩ m_Md_noNumber k_Md_297 ⟨Nat.le_of_ble_eq_true rfl, Nat.le_of_ble_eq_true rfl⟩ rfl hl.1 rfl (Nat.le_of_ble_eq_true rfl) d_Md_root_17 hf0 (fun r_24 h => ?_)
      exact W.lret (v := r_24) hx hb hr (fun t ht hW => ⟨r_24,  rfl, h, ht⟩) t_nil d_Md_root_20
  · skip
    have h := h.1 c_17
    refine lv_lload_n hx hb d_Md_root_7 rfl (lv_at hl 1 rfl) ?_
    exact W.lret (v := a0) hx hb hr (fun t ht hW => ⟨a0,  rfl, h, ht⟩) t_nil d_Md_root_8
def wp_Md_one (ms : Int32) (dd : Nat → Int32) (Lwhole : Int64) (Lwhole2 : Int64) (bm : Nat → Int32) (rr : Nat → Int32) (kt : Nat → Int32) (a0 : Int32) (a1 : Int64) (a2 : Int32) (P : Int64 → ((Nat → Int32) × Int64 × Int64 × (Nat → Int32) × (Nat → Int32) × (Nat → Int32)) → Prop) : Prop := ((a2 = (0 : Int32) → ∀ x_2 : Int64, x_2 = (zz_lshl (1 : Int64) (31 : Int32)) → wp_Md_take ms dd Lwhole Lwhole2 bm rr kt a1 a2 (fun u_3 => ((a0 = (6 : Int32) → P a1 (u_3.1, u_3.2.1, u_3.2.2.1, u_3.2.2.2.1, u_3.2.2.2.2.1, u_3.2.2.2.2.2)) ∧ (¬ a0 = (6 : Int32) → (((u_3.1 14) = (3 : Int32) → wp_Md_noNumber a2 (fun r_11 => P r_11 (u_3.1, u_3.2.1, u_3.2.2.1, u_3.2.2.2.1, u_3.2.2.2.2.1, u_3.2.2.2.2.2))) ∧ (¬ (u_3.1 14) = (3 : Int32) → ((a0 = (5 : Int32) → ∀ x_10 : Int64, x_10 = (a1 &&& (x_2 ^^^ (-1 : Int64))) → P x_10 (u_3.1, u_3.2.1, u_3.2.2.1, u_3.2.2.2.1, u_3.2.2.2.2.1, u_3.2.2.2.2.2)) ∧ (¬ a0 = (5 : Int32) → ((a0 = (7 : Int32) → P (a1 ^^^ x_2) (u_3.1, u_3.2.1, u_3.2.2.1, u_3.2.2.2.1, u_3.2.2.2.2.1, u_3.2.2.2.2.2)) ∧ (¬ a0 = (7 : Int32) → wp_Md_root ms u_3.1 u_3.2.1 u_3.2.2.1 u_3.2.2.2.1 u_3.2.2.2.2.1 u_3.2.2.2.2.2 a1 a2 (fun r_9 => P r_9 (u_3.1, u_3.2.1, u_3.2.2.1, u_3.2.2.2.1, u_3.2.2.2.2.1, u_3.2.2.2.2.2)))))))))))) ∧ (¬ a2 = (0 : Int32) → ∀ x_12 : Int64, x_12 = (zz_lshl (1 : Int64) (63 : Int32)) → wp_Md_take ms dd Lwhole Lwhole2 bm rr kt a1 a2 (fun u_13 => ((a0 = (6 : Int32) → P a1 (u_13.1, u_13.2.1, u_13.2.2.1, u_13.2.2.2.1, u_13.2.2.2.2.1, u_13.2.2.2.2.2)) ∧ (¬ a0 = (6 : Int32) → (((u_13.1 14) = (3 : Int32) → wp_Md_noNumber a2 (fun r_21 => P r_21 (u_13.1, u_13.2.1, u_13.2.2.1, u_13.2.2.2.1, u_13.2.2.2.2.1, u_13.2.2.2.2.2))) ∧ (¬ (u_13.1 14) = (3 : Int32) → ((a0 = (5 : Int32) → ∀ x_20 : Int64, x_20 = (a1 &&& (x_12 ^^^ (-1 : Int64))) → P x_20 (u_13.1, u_13.2.1, u_13.2.2.1, u_13.2.2.2.1, u_13.2.2.2.2.1, u_13.2.2.2.2.2)) ∧ (¬ a0 = (5 : Int32) → ((a0 = (7 : Int32) → P (a1 ^^^ x_12) (u_13.1, u_13.2.1, u_13.2.2.1, u_13.2.2.2.1, u_13.2.2.2.2.1, u_13.2.2.2.2.2)) ∧ (¬ a0 = (7 : Int32) → wp_Md_root ms u_13.1 u_13.2.1 u_13.2.2.1 u_13.2.2.2.1 u_13.2.2.2.2.1 u_13.2.2.2.2.2 a1 a2 (fun r_19 => P r_19 (u_13.1, u_13.2.1, u_13.2.2.1, u_13.2.2.2.1, u_13.2.2.2.2.1, u_13.2.2.2.2.2)))))))))))))
abbrev rm_Md_one : Room := { frames := 4, cells := 0, slots := 0, locals := 118 }
set_option maxHeartbeats 4000000 in
set_option maxRecDepth 100000 in
theorem c_Md_one (l : Launch) (D : va_G) (cI : ClassId) (cB : ClassId) (qd : Nat) (qmemory : Nat) (qr : Nat) (qcounts : Nat) (ms : Int32) (dd : Nat → Int32) (Lwhole : Int64) (Lwhole2 : Int64) (bm : Nat → Int32) (rr : Nat → Int32) (kt : Nat → Int32) (a0 : Int32) (a1 : Int64) (a2 : Int32) (P : Int64 → ((Nat → Int32) × Int64 × Int64 × (Nat → Int32) × (Nat → Int32) × (Nat → Int32)) → Prop) (h : wp_Md_one ms dd Lwhole Lwhole2 bm rr kt a0 a1 a2 P) (sz : Nat) : Met l y_Md_one (zz_ws y_Md_one b_Md_one 7 (some .long)) rm_Md_one (va_Pc [.ref qd, .int a0, .long a1, .int a2] (zz_pw D [(cI, .int), (cB, .byte)] (wD qd qmemory qr qcounts cI cB ms dd Lwhole Lwhole2 bm rr kt) sz)) (va_Ql P (zz_qw D (fun u => wD qd qmemory qr qcounts cI cB ms u.1 u.2.1 u.2.2.1 u.2.2.2.1 u.2.2.2.2.1 u.2.2.2.2.2) (va_A (wD qd qmemory qr qcounts cI cB ms dd Lwhole Lwhole2 bm rr kt) sz)) (va_A (wD qd qmemory qr qcounts cI cB ms dd Lwhole Lwhole2 bm rr kt) sz)) 0 0 (va_A (wD qd qmemory qr qcounts cI cB ms dd Lwhole Lwhole2 bm rr kt) sz) := by
  refine Met.ofW (cc := b_Md_one) (maxL := 7) (ret := (some .long)) (by decide) rfl ?_
  intro p e s m args below meth c s₁ B hml hv
  obtain ⟨rfl, hsz, hP, hK, hD0⟩ := hv
  have hx := B.exec
  have hb := B.bytes
  have hr := B.returns
  have hts := atoms_spec (ws := (zz_ws y_Md_one b_Md_one 7 (some .long))) B.pre
  have hown : s.vm.findClass R_Md = some m.cls := findClass_of_methodNamed B.named
  have hlocks := B.notSynchronized
  have hT := zz_hts hts
  have X : CallFix p m c b_Md_one 7 s ([.ref qd, .int a0, .long a1, .int a2] : List Value).toArray (zz_ws y_Md_one b_Md_one 7 (some .long)) R_Md := ⟨hx, hb, hml, hown, hts⟩
  have hf0 : 0 + 0 ≤ (headSpec (zz_ws y_Md_one b_Md_one 7 (some .long)) rm_Md_one).room.cells ∧ 0 + 0 ≤ (headSpec (zz_ws y_Md_one b_Md_one 7 (some .long)) rm_Md_one).room.slots := ⟨Nat.le_of_ble_eq_true rfl, Nat.le_of_ble_eq_true rfl⟩
  subst hsz
  have hD := hD0.self (sz := s.heap.size)
  generalize hAe : va_A (wD qd qmemory qr qcounts cI cB ms dd Lwhole Lwhole2 bm rr kt) s.heap.size = A at hD ⊢
  have hA : ∀ q : Nat, s.heap.size ≤ q → A q := fun q h => by rw [← hAe]; exact Or.inr h
  have hS : va_S A s.heap s.heap [] := va_S.rf
  have hl := lv_entry ([.ref qd, .int a0, .long a1, .int a2]) (n := 7) (Nat.le_of_ble_eq_true rfl)
  rw [lg_entry_eq]
  generalize (lg_sl ([.ref qd, .int a0, .long a1, .int a2]) ++ List.replicate (7 - (lg_sl ([.ref qd, .int a0, .long a1, .int a2])).length) Slot.unset).toArray = ls at hl ⊢
  have hl : lv_has ls 7 [(0, .ref qd), (1, .int a0), (2, .long a1), (4, .int a2)] := hl
  refine lv_lconst (v := 1) hx hb d_Md_one_0 (by decide) ?_
  refine lv_iload hx hb d_Md_one_1 (lv_at hl 3 rfl) ?_
  refine lv_if_eq (tgt := 11) hx hb d_Md_one_3 (by decide) (fun c_1 => ?_) (fun c_1 => ?_)
  · skip
    have h := h.1 c_1
    refine lv_bipush (v := 31) hx hb d_Md_one_11 (by decide) ?_
    refine zz_llshl hx hb d_Md_one_13 ?_
    refine lv_topl (fun x_2 ex_2 => ?_)
    have h := h x_2 ex_2
    refine lv_lstore (lv' := [(5, .long x_2), (0, .ref qd), (1, .int a0), (2, .long a1), (4, .int a2)]) hx hb d_Md_one_14 hl (by decide) rfl (fun ls hl => ?_)
    refine lv_aload_n hx hb d_Md_one_16 rfl (lv_at hl 1 rfl) ?_
    refine lv_lload_n hx hb d_Md_one_17 rfl (lv_at hl 3 rfl) ?_
    refine lv_iload hx hb d_Md_one_18 (lv_at hl 4 rfl) ?_
    refine zz_Wv (As := [.long a1, .int a2]) (rest := []) (wc := wD qd qmemory qr qcounts cI cB ms dd Lwhole Lwhole2 bm rr kt) (wr := []) X hK hP hD hS hA (c_Md_take l D cI cB qd qmemory qr qcounts ms dd Lwhole Lwhole2 bm rr kt a1 a2 _ h _) ⟨rfl, rfl⟩ m_Md_take k_Md_282 ⟨Nat.le_of_ble_eq_true rfl, Nat.le_of_ble_eq_true rfl⟩ [0, 1, 2, 3] [] rfl rfl (by decide) (by decide) (by decide) 6 0 rfl rfl rfl rfl hl.1 rfl (Nat.le_of_ble_eq_true rfl) d_Md_one_20 hf0 (fun u_3 H locs h hP hD hS => ?_)
    have hP : va_P D vwCl (wD qd qmemory qr qcounts cI cB ms u_3.1 u_3.2.1 u_3.2.2.1 u_3.2.2.2.1 u_3.2.2.2.2.1 u_3.2.2.2.2.2) H := hP.sub [0, 1, 2, 3] rfl
    have hD : va_D A (wD qd qmemory qr qcounts cI cB ms u_3.1 u_3.2.1 u_3.2.2.1 u_3.2.2.2.1 u_3.2.2.2.2.1 u_3.2.2.2.2.2) := hD.sub [0, 1, 2, 3] (by decide) rfl
    refine lv_iload_n hx hb d_Md_one_23 rfl (lv_at hl 2 rfl) ?_
    refine lv_bipush (v := 6) hx hb d_Md_one_24 (by decide) ?_
    refine lv_icmp_ne (tgt := 31) hx hb d_Md_one_26 (by decide) (fun c_5 => ?_) (fun c_5 => ?_)
    · skip
      have h := h.2 c_5
      refine lv_aload_n hx hb d_Md_one_31 rfl (lv_at hl 1 rfl) ?_
      refine g_Md_210 (v := .int (u_3.1 14)) hx hb hT hown hK hP 0 rfl rfl d_Md_one_32 ?_
      refine lv_iconst (v := 3) hx hb d_Md_one_35 (by decide) ?_
      refine lv_icmp_ne (tgt := 45) hx hb d_Md_one_36 (by decide) (fun c_6 => ?_) (fun c_6 => ?_)
      · skip
        have h := h.2 c_6
        refine lv_iload_n hx hb d_Md_one_45 rfl (lv_at hl 2 rfl) ?_
        refine lv_iconst (v := 5) hx hb d_Md_one_46 (by decide) ?_
        refine lv_icmp_ne (tgt := 59) hx hb d_Md_one_47 (by decide) (fun c_7 => ?_) (fun c_7 => ?_)
        · skip
          have h := h.2 c_7
          refine lv_iload_n hx hb d_Md_one_59 rfl (lv_at hl 2 rfl) ?_
          refine lv_bipush (v := 7) hx hb d_Md_one_60 (by decide) ?_
          refine lv_icmp_ne (tgt := 70) hx hb d_Md_one_62 (by decide) (fun c_8 => ?_) (fun c_8 => ?_)
          · skip
            have h := h.2 c_8
            refine lv_aload_n hx hb d_Md_one_70 rfl (lv_at hl 1 rfl) ?_
            refine lv_lload_n hx hb d_Md_one_71 rfl (lv_at hl 3 rfl) ?_
            refine lv_iload hx hb d_Md_one_72 (lv_at hl 4 rfl) ?_
            refine zz_Rl (As := [.long a1, .int a2]) (rest := []) (wc := wD qd qmemory qr qcounts cI cB ms u_3.1 u_3.2.1 u_3.2.2.1 u_3.2.2.2.1 u_3.2.2.2.2.1 u_3.2.2.2.2.2) X hK hP (c_Md_root l D cI cB qd qmemory qr qcounts ms u_3.1 u_3.2.1 u_3.2.2.1 u_3.2.2.2.1 u_3.2.2.2.2.1 u_3.2.2.2.2.2 a1 a2 _ h) ⟨rfl, rfl⟩ m_Md_root k_Md_302 ⟨Nat.le_of_ble_eq_true rfl, Nat.le_of_ble_eq_true rfl⟩ [0, 1, 2, 3] rfl 6 0 rfl rfl rfl rfl hl.1 rfl (Nat.le_of_ble_eq_true rfl) d_Md_one_74 hf0 (fun r_9 h => ?_)
            exact W.lret (v := r_9) hx hb hr (fun t ht hW => ⟨⟨r_9, (u_3.1, u_3.2.1, u_3.2.2.1, u_3.2.2.2.1, u_3.2.2.2.2.1, u_3.2.2.2.2.2), rfl, h, by rw [ht]; exact hP, hD⟩, hS.F ht⟩) hS.2.2 d_Md_one_77
          · skip
            have h := h.1 c_8
            refine lv_lload_n hx hb d_Md_one_65 rfl (lv_at hl 3 rfl) ?_
            refine lv_lload hx hb d_Md_one_66 (lv_at hl 0 rfl) ?_
            refine lv_lxor hx hb d_Md_one_68 ?_
            exact W.lret (v := (a1 ^^^ x_2)) hx hb hr (fun t ht hW => ⟨⟨(a1 ^^^ x_2), (u_3.1, u_3.2.1, u_3.2.2.1, u_3.2.2.2.1, u_3.2.2.2.2.1, u_3.2.2.2.2.2), rfl, h, by rw [ht]; exact hP, hD⟩, hS.F ht⟩) hS.2.2 d_Md_one_69
        · skip
          have h := h.1 c_7
          refine lv_lload_n hx hb d_Md_one_50 rfl (lv_at hl 3 rfl) ?_
          refine lv_lload hx hb d_Md_one_51 (lv_at hl 0 rfl) ?_
          refine lv_ldc2 (v := -1) hx hb hown (hT _ n_Md_300) d_Md_one_53 ?_
          refine lv_lxor hx hb d_Md_one_56 ?_
          refine lv_land hx hb d_Md_one_57 ?_
          refine lv_topl (fun x_10 ex_10 => ?_)
          have h := h x_10 ex_10
          exact W.lret (v := x_10) hx hb hr (fun t ht hW => ⟨⟨x_10, (u_3.1, u_3.2.1, u_3.2.2.1, u_3.2.2.2.1, u_3.2.2.2.2.1, u_3.2.2.2.2.2), rfl, h, by rw [ht]; exact hP, hD⟩, hS.F ht⟩) hS.2.2 d_Md_one_58
      · skip
        have h := h.1 c_6
        refine lv_iload hx hb d_Md_one_39 (lv_at hl 4 rfl) ?_
        refine zz_Sl (As := [.int a2]) (rest := []) X (c_Md_noNumber l a2 _ h) ⟨rfl, rfl⟩ m_Md_noNumber k_Md_297 ⟨Nat.le_of_ble_eq_true rfl, Nat.le_of_ble_eq_true rfl⟩ rfl hl.1 rfl (Nat.le_of_ble_eq_true rfl) d_Md_one_41 hf0 (fun r_11 h => ?_)
        exact W.lret (v := r_11) hx hb hr (fun t ht hW => ⟨⟨r_11, (u_3.1, u_3.2.1, u_3.2.2.1, u_3.2.2.2.1, u_3.2.2.2.2.1, u_3.2.2.2.2.2), rfl, h, by rw [ht]; exact hP, hD⟩, hS.F ht⟩) hS.2.2 d_Md_one_44
    · skip
      have h := h.1 c_5
      refine lv_lload_n hx hb d_Md_one_29 rfl (lv_at hl 3 rfl) ?_
      exact W.lret (v := a1) hx hb hr (fun t ht hW => ⟨⟨a1, (u_3.1, u_3.2.1, u_3.2.2.1, u_3.2.2.2.1, u_3.2.2.2.2.1, u_3.2.2.2.2.2), rfl, h, by rw [ht]; exact hP, hD⟩, hS.F ht⟩) hS.2.2 d_Md_one_30
  · skip
    have h := h.2 c_1
    refine lv_bipush (v := 63) hx hb d_Md_one_6 (by decide) ?_
    refine lv_goto (tgt := 13) hx hb d_Md_one_8 (by decide) ?_
    refine zz_llshl hx hb d_Md_one_13 ?_
    refine lv_topl (fun x_12 ex_12 => ?_)
    have h := h x_12 ex_12
    refine lv_lstore (lv' := [(5, .long x_12), (0, .ref qd), (1, .int a0), (2, .long a1), (4, .int a2)]) hx hb d_Md_one_14 hl (by decide) rfl (fun ls hl => ?_)
    refine lv_aload_n hx hb d_Md_one_16 rfl (lv_at hl 1 rfl) ?_
    refine lv_lload_n hx hb d_Md_one_17 rfl (lv_at hl 3 rfl) ?_
    refine lv_iload hx hb d_Md_one_18 (lv_at hl 4 rfl) ?_
    refine zz_Wv (As := [.long a1, .int a2]) (rest := []) (wc := wD qd qmemory qr qcounts cI cB ms dd Lwhole Lwhole2 bm rr kt) (wr := []) X hK hP hD hS hA (c_Md_take l D cI cB qd qmemory qr qcounts ms dd Lwhole Lwhole2 bm rr kt a1 a2 _ h _) ⟨rfl, rfl⟩ m_Md_take k_Md_282 ⟨Nat.le_of_ble_eq_true rfl, Nat.le_of_ble_eq_true rfl⟩ [0, 1, 2, 3] [] rfl rfl (by decide) (by decide) (by decide) 6 0 rfl rfl rfl rfl hl.1 rfl (Nat.le_of_ble_eq_true rfl) d_Md_one_20 hf0 (fun u_13 H locs h hP hD hS => ?_)
    have hP : va_P D vwCl (wD qd qmemory qr qcounts cI cB ms u_13.1 u_13.2.1 u_13.2.2.1 u_13.2.2.2.1 u_13.2.2.2.2.1 u_13.2.2.2.2.2) H := hP.sub [0, 1, 2, 3] rfl
    have hD : va_D A (wD qd qmemory qr qcounts cI cB ms u_13.1 u_13.2.1 u_13.2.2.1 u_13.2.2.2.1 u_13.2.2.2.2.1 u_13.2.2.2.2.2) := hD.sub [0, 1, 2, 3] (by decide) rfl
    refine lv_iload_n hx hb d_Md_one_23 rfl (lv_at hl 2 rfl) ?_
    refine lv_bipush (v := 6) hx hb d_Md_one_24 (by decide) ?_
    refine lv_icmp_ne (tgt := 31) hx hb d_Md_one_26 (by decide) (fun c_15 => ?_) (fun c_15 => ?_)
    · skip
      have h := h.2 c_15
      refine lv_aload_n hx hb d_Md_one_31 rfl (lv_at hl 1 rfl) ?_
      refine g_Md_210 (v := .int (u_13.1 14)) hx hb hT hown hK hP 0 rfl rfl d_Md_one_32 ?_
      refine lv_iconst (v := 3) hx hb d_Md_one_35 (by decide) ?_
      refine lv_icmp_ne (tgt := 45) hx hb d_Md_one_36 (by decide) (fun c_16 => ?_) (fun c_16 => ?_)
      · skip
        have h := h.2 c_16
        refine lv_iload_n hx hb d_Md_one_45 rfl (lv_at hl 2 rfl) ?_
        refine lv_iconst (v := 5) hx hb d_Md_one_46 (by decide) ?_
        refine lv_icmp_ne (tgt := 59) hx hb d_Md_one_47 (by decide) (fun c_17 => ?_) (fun c_17 => ?_)
        · skip
          have h := h.2 c_17
          refine lv_iload_n hx hb d_Md_one_59 rfl (lv_at hl 2 rfl) ?_
          refine lv_bipush (v := 7) hx hb d_Md_one_60 (by decide) ?_
          refine lv_icmp_ne (tgt := 70) hx hb d_Md_one_62 (by decide) (fun c_18 => ?_) (fun c_18 => ?_)
          · skip
            have h := h.2 c_18
            refine lv_aload_n hx hb d_Md_one_70 rfl (lv_at hl 1 rfl) ?_
            refine lv_lload_n hx hb d_Md_one_71 rfl (lv_at hl 3 rfl) ?_
            refine lv_iload hx hb d_Md_one_72 (lv_at hl 4 rfl) ?_
            refine zz_Rl (As := [.long a1, .int a2]) (rest := []) (wc := wD qd qmemory qr qcounts cI cB ms u_13.1 u_13.2.1 u_13.2.2.1 u_13.2.2.2.1 u_13.2.2.2.2.1 u_13.2.2.2.2.2) X hK hP (c_Md_root l D cI cB qd qmemory qr qcounts ms u_13.1 u_13.2.1 u_13.2.2.1 u_13.2.2.2.1 u_13.2.2.2.2.1 u_13.2.2.2.2.2 a1 a2 _ h) ⟨rfl, rfl⟩ m_Md_root k_Md_302 ⟨Nat.le_of_ble_eq_true rfl, Nat.le_of_ble_eq_true rfl⟩ [0, 1, 2, 3] rfl 6 0 rfl rfl rfl rfl hl.1 rfl (Nat.le_of_ble_eq_true rfl) d_Md_one_74 hf0 (fun r_19 h => ?_)
            exact W.lret (v := r_19) hx hb hr (fun t ht hW => ⟨⟨r_19, (u_13.1, u_13.2.1, u_13.2.2.1, u_13.2.2.2.1, u_13.2.2.2.2.1, u_13.2.2.2.2.2), rfl, h, by rw [ht]; exact hP, hD⟩, hS.F ht⟩) hS.2.2 d_Md_one_77
          · skip
            have h := h.1 c_18
            refine lv_lload_n hx hb d_Md_one_65 rfl (lv_at hl 3 rfl) ?_
            refine lv_lload hx hb d_Md_one_66 (lv_at hl 0 rfl) ?_
            refine lv_lxor hx hb d_Md_one_68 ?_
            exact W.lret (v := (a1 ^^^ x_12)) hx hb hr (fun t ht hW => ⟨⟨(a1 ^^^ x_12), (u_13.1, u_13.2.1, u_13.2.2.1, u_13.2.2.2.1, u_13.2.2.2.2.1, u_13.2.2.2.2.2), rfl, h, by rw [ht]; exact hP, hD⟩, hS.F ht⟩) hS.2.2 d_Md_one_69
        · skip
          have h := h.1 c_17
          refine lv_lload_n hx hb d_Md_one_50 rfl (lv_at hl 3 rfl) ?_
          refine lv_lload hx hb d_Md_one_51 (lv_at hl 0 rfl) ?_
          refine lv_ldc2 (v := -1) hx hb hown (hT _ n_Md_300) d_Md_one_53 ?_
          refine lv_lxor hx hb d_Md_one_56 ?_
          refine lv_land hx hb d_Md_one_57 ?_
          refine lv_topl (fun x_20 ex_20 => ?_)
          have h := h x_20 ex_20
          exact W.lret (v := x_20) hx hb hr (fun t ht hW => ⟨⟨x_20, (u_13.1, u_13.2.1, u_13.2.2.1, u_13.2.2.2.1, u_13.2.2.2.2.1, u_13.2.2.2.2.2), rfl, h, by rw [ht]; exact hP, hD⟩, hS.F ht⟩) hS.2.2 d_Md_one_58
      · skip
        have h := h.1 c_16
        refine lv_iload hx hb d_Md_one_39 (lv_at hl 4 rfl) ?_
        refine zz_Sl (As := [.int a2]) (rest := []) X (c_Md_noNumber l a2 _ h) ⟨rfl, rfl⟩ m_Md_noNumber k_Md_297 ⟨Nat.le_of_ble_eq_true rfl, Nat.le_of_ble_eq_true rfl⟩ rfl hl.1 rfl (Nat.le_of_ble_eq_true rfl) d_Md_one_41 hf0 (fun r_21 h => ?_)
        exact W.lret (v := r_21) hx hb hr (fun t ht hW => ⟨⟨r_21, (u_13.1, u_13.2.1, u_13.2.2.1, u_13.2.2.2.1, u_13.2.2.2.2.1, u_13.2.2.2.2.2), rfl, h, by rw [ht]; exact hP, hD⟩, hS.F ht⟩) hS.2.2 d_Md_one_44
    · skip
      have h := h.1 c_15
      refine lv_lload_n hx hb d_Md_one_29 rfl (lv_at hl 3 rfl) ?_
      exact W.lret (v := a1) hx hb hr (fun t ht hW => ⟨⟨a1, (u_13.1, u_13.2.1, u_13.2.2.1, u_13.2.2.2.1, u_13.2.2.2.2.1, u_13.2.2.2.2.2), rfl, h, by rw [ht]; exact hP, hD⟩, hS.F ht⟩) hS.2.2 d_Md_one_30
def wj_Md_reckons_395 (ms : Int32) (a0 : Int32) (a1 : Int32) (a2 : Int32) (a3 : Int32) (a4 : Int32) (P : ((Nat → Int32) × Int64 × Int64 × (Nat → Int32) × (Nat → Int32) × (Nat → Int32)) → Prop) (j395_9 : Int64) (z395dd : Nat → Int32) (z395Lwhole : Int64) (z395Lwhole2 : Int64) (z395bm : Nat → Int32) (z395rr : Nat → Int32) (z395kt : Nat → Int32) : Prop := wp_Md_put_IZJV ms z395dd z395Lwhole z395Lwhole2 z395bm z395rr z395kt a4 a1 j395_9 (fun u_1 => P (u_1.1, u_1.2.1, u_1.2.2.1, u_1.2.2.2.1, u_1.2.2.2.2.1, u_1.2.2.2.2.2))
def wj_Md_reckons_392 (ms : Int32) (a0 : Int32) (a1 : Int32) (a2 : Int32) (a3 : Int32) (a4 : Int32) (P : ((Nat → Int32) × Int64 × Int64 × (Nat → Int32) × (Nat → Int32) × (Nat → Int32)) → Prop) (j392_9 : Int64) (s392_0 : Int32) (s392_1 : Int32) (z392dd : Nat → Int32) (z392Lwhole : Int64) (z392Lwhole2 : Int64) (z392bm : Nat → Int32) (z392rr : Nat → Int32) (z392kt : Nat → Int32) : Prop := ((s392_0 = s392_1 → wj_Md_reckons_395 ms a0 a1 a2 a3 a4 P j392_9 z392dd z392Lwhole z392Lwhole2 z392bm z392rr z392kt) ∧ (¬ s392_0 = s392_1 → P (z392dd, z392Lwhole, z392Lwhole2, z392bm, z392rr, z392kt)))
def wj_Md_reckons_381 (ms : Int32) (a0 : Int32) (a1 : Int32) (a2 : Int32) (a3 : Int32) (a4 : Int32) (P : ((Nat → Int32) × Int64 × Int64 × (Nat → Int32) × (Nat → Int32) × (Nat → Int32)) → Prop) (j381_9 : Int64) (s381_0 : Int32) (z381dd : Nat → Int32) (z381Lwhole : Int64) (z381Lwhole2 : Int64) (z381bm : Nat → Int32) (z381rr : Nat → Int32) (z381kt : Nat → Int32) : Prop := ((a0 = (18 : Int32) → wj_Md_reckons_392 ms a0 a1 a2 a3 a4 P j381_9 s381_0 (1 : Int32) z381dd z381Lwhole z381Lwhole2 z381bm z381rr z381kt) ∧ (¬ a0 = (18 : Int32) → wj_Md_reckons_392 ms a0 a1 a2 a3 a4 P j381_9 s381_0 (0 : Int32) z381dd z381Lwhole z381Lwhole2 z381bm z381rr z381kt))
def wj_Md_reckons_291 (ms : Int32) (a0 : Int32) (a1 : Int32) (a2 : Int32) (a3 : Int32) (a4 : Int32) (P : ((Nat → Int32) × Int64 × Int64 × (Nat → Int32) × (Nat → Int32) × (Nat → Int32)) → Prop) (j291_9 : Int64) (s291_1 : Int32) (s291_2 : Int32) (z291dd : Nat → Int32) (z291Lwhole : Int64) (z291Lwhole2 : Int64) (z291bm : Nat → Int32) (z291rr : Nat → Int32) (z291kt : Nat → Int32) : Prop := wp_Md_changed ms z291dd z291Lwhole z291Lwhole2 z291bm z291rr z291kt j291_9 a1 (fun r_6 u_5 => wp_Md_put_IZJV ms u_5.1 u_5.2.1 u_5.2.2.1 u_5.2.2.2.1 u_5.2.2.2.2.1 u_5.2.2.2.2.2 s291_1 s291_2 r_6 (fun u_7 => P (u_7.1, u_7.2.1, u_7.2.2.1, u_7.2.2.2.1, u_7.2.2.2.2.1, u_7.2.2.2.2.2)))
def wj_Md_reckons_279 (ms : Int32) (a0 : Int32) (a1 : Int32) (a2 : Int32) (a3 : Int32) (a4 : Int32) (P : ((Nat → Int32) × Int64 × Int64 × (Nat → Int32) × (Nat → Int32) × (Nat → Int32)) → Prop) (j279_9 : Int64) (z279dd : Nat → Int32) (z279Lwhole : Int64) (z279Lwhole2 : Int64) (z279bm : Nat → Int32) (z279rr : Nat → Int32) (z279kt : Nat → Int32) : Prop := ((a1 = (0 : Int32) → wj_Md_reckons_291 ms a0 a1 a2 a3 a4 P j279_9 a4 (1 : Int32) z279dd z279Lwhole z279Lwhole2 z279bm z279rr z279kt) ∧ (¬ a1 = (0 : Int32) → wj_Md_reckons_291 ms a0 a1 a2 a3 a4 P j279_9 a4 (0 : Int32) z279dd z279Lwhole z279Lwhole2 z279bm z279rr z279kt))
def wj_Md_reckons_166 (ms : Int32) (a0 : Int32) (a1 : Int32) (a2 : Int32) (a3 : Int32) (a4 : Int32) (P : ((Nat → Int32) × Int64 × Int64 × (Nat → Int32) × (Nat → Int32) × (Nat → Int32)) → Prop) (j166_7 : Int32) (z166dd : Nat → Int32) (z166Lwhole : Int64) (z166Lwhole2 : Int64) (z166bm : Nat → Int32) (z166rr : Nat → Int32) (z166kt : Nat → Int32) : Prop := (((z166dd 5) ≤ (0 : Int32) → wp_Md_bitsOf ms z166dd z166Lwhole z166Lwhole2 z166bm z166rr z166kt a2 a1 (fun r_11 => ((a0 < (48 : Int32) → (((4 : Int32) ≤ a0 → ((j166_7 = (0 : Int32) → ((a0 = (32 : Int32) → wj_Md_reckons_279 ms a0 a1 a2 a3 a4 P r_11 z166dd z166Lwhole z166Lwhole2 z166bm z166rr z166kt) ∧ (¬ a0 = (32 : Int32) → ((a0 = (33 : Int32) → wj_Md_reckons_279 ms a0 a1 a2 a3 a4 P r_11 z166dd z166Lwhole z166Lwhole2 z166bm z166rr z166kt) ∧ (¬ a0 = (33 : Int32) → (((8 : Int32) ≤ a0 → ((a0 = (17 : Int32) → vp_in (66 : Int32) 67 ∧ ∀ x_21 : Int32, x_21 = (z166rr (66 : Int32).toNatClampNeg) → ∀ x_22 : Int32, x_22 = (zz_ushr (z166dd 9) (18 : Int32)) → ∀ x_23 : Int32, x_23 = (zz_shr x_21 (x_22 &&& (7 : Int32))) → ∀ x_24 : Int32, x_24 = (zz_ushr (z166dd 9) (16 : Int32)) → (((x_23 &&& (1 : Int32)) = (x_24 &&& (1 : Int32)) → wj_Md_reckons_395 ms a0 a1 a2 a3 a4 P r_11 z166dd z166Lwhole z166Lwhole2 z166bm z166rr z166kt) ∧ (¬ (x_23 &&& (1 : Int32)) = (x_24 &&& (1 : Int32)) → P (z166dd, z166Lwhole, z166Lwhole2, z166bm, z166rr, z166kt)))) ∧ (¬ a0 = (17 : Int32) → wp_Md_rt ms z166dd z166Lwhole z166Lwhole2 z166bm z166rr z166kt (fun r_19 => ((r_19 = (0 : Int32) → wj_Md_reckons_381 ms a0 a1 a2 a3 a4 P r_11 (1 : Int32) z166dd z166Lwhole z166Lwhole2 z166bm z166rr z166kt) ∧ (¬ r_19 = (0 : Int32) → wj_Md_reckons_381 ms a0 a1 a2 a3 a4 P r_11 (0 : Int32) z166dd z166Lwhole z166Lwhole2 z166bm z166rr z166kt)))))) ∧ (¬ (8 : Int32) ≤ a0 → wp_Md_one ms z166dd z166Lwhole z166Lwhole2 z166bm z166rr z166kt a0 r_11 a1 (fun r_27 u_26 => wp_Md_put_IZJV ms u_26.1 u_26.2.1 u_26.2.2.1 u_26.2.2.2.1 u_26.2.2.2.2.1 u_26.2.2.2.2.2 a4 a1 r_27 (fun u_28 => P (u_28.1, u_28.2.1, u_28.2.2.1, u_28.2.2.2.1, u_28.2.2.2.2.1, u_28.2.2.2.2.2)))))))))) ∧ (¬ j166_7 = (0 : Int32) → wp_Md_wordOf ms z166dd z166Lwhole z166Lwhole2 z166bm z166rr z166kt a0 r_11 a1 (fun r_31 u_30 => ∀ x_32 : Int64, x_32 = (r_31.toInt64 &&& (4294967295 : Int64)) → wp_Md_put_IZJV ms u_30.1 u_30.2.1 u_30.2.2.1 u_30.2.2.2.1 u_30.2.2.2.2.1 u_30.2.2.2.2.2 a4 (0 : Int32) x_32 (fun u_33 => P (u_33.1, u_33.2.1, u_33.2.2.1, u_33.2.2.2.1, u_33.2.2.2.2.1, u_33.2.2.2.2.2)))))) ∧ (¬ (4 : Int32) ≤ a0 → wp_Md_bitsOf ms z166dd z166Lwhole z166Lwhole2 z166bm z166rr z166kt a3 a1 (fun r_35 => wp_Md_two ms z166dd z166Lwhole z166Lwhole2 z166bm z166rr z166kt a0 r_11 r_35 a1 (fun r_37 u_36 => wp_Md_put_IZJV ms u_36.1 u_36.2.1 u_36.2.2.1 u_36.2.2.2.1 u_36.2.2.2.2.1 u_36.2.2.2.2.2 a4 a1 r_37 (fun u_38 => P (u_38.1, u_38.2.1, u_38.2.2.1, u_38.2.2.2.1, u_38.2.2.2.2.1, u_38.2.2.2.2.2))))))) ∧ (¬ a0 < (48 : Int32) → wp_Md_bitsOf ms z166dd z166Lwhole z166Lwhole2 z166bm z166rr z166kt a3 a1 (fun r_40 => wp_Md_compares ms z166dd z166Lwhole z166Lwhole2 z166bm z166rr z166kt (a0 &&& (7 : Int32)) r_11 r_40 a1 (fun u_41 => P (u_41.1, u_41.2.1, u_41.2.2.1, u_41.2.2.2.1, u_41.2.2.2.2.1, u_41.2.2.2.2.2))))))) ∧ (¬ (z166dd 5) ≤ (0 : Int32) → P (z166dd, z166Lwhole, z166Lwhole2, z166bm, z166rr, z166kt)))
def wj_Md_reckons_153 (ms : Int32) (a0 : Int32) (a1 : Int32) (a2 : Int32) (a3 : Int32) (a4 : Int32) (P : ((Nat → Int32) × Int64 × Int64 × (Nat → Int32) × (Nat → Int32) × (Nat → Int32)) → Prop) (j153_7 : Int32) (z153dd : Nat → Int32) (z153Lwhole : Int64) (z153Lwhole2 : Int64) (z153bm : Nat → Int32) (z153rr : Nat → Int32) (z153kt : Nat → Int32) : Prop := ((a0 = (33 : Int32) → wp_Md_even ms z153dd z153Lwhole z153Lwhole2 z153bm z153rr z153kt (1 : Int32) a4 (fun u_44 => wj_Md_reckons_166 ms a0 a1 a2 a3 a4 P j153_7 u_44.1 u_44.2.1 u_44.2.2.1 u_44.2.2.2.1 u_44.2.2.2.2.1 u_44.2.2.2.2.2)) ∧ (¬ a0 = (33 : Int32) → wj_Md_reckons_166 ms a0 a1 a2 a3 a4 P j153_7 z153dd z153Lwhole z153Lwhole2 z153bm z153rr z153kt))
def wj_Md_reckons_146 (ms : Int32) (a0 : Int32) (a1 : Int32) (a2 : Int32) (a3 : Int32) (a4 : Int32) (P : ((Nat → Int32) × Int64 × Int64 × (Nat → Int32) × (Nat → Int32) × (Nat → Int32)) → Prop) (j146_7 : Int32) (z146dd : Nat → Int32) (z146Lwhole : Int64) (z146Lwhole2 : Int64) (z146bm : Nat → Int32) (z146rr : Nat → Int32) (z146kt : Nat → Int32) : Prop := wp_Md_even ms z146dd z146Lwhole z146Lwhole2 z146bm z146rr z146kt a1 a4 (fun u_46 => wj_Md_reckons_153 ms a0 a1 a2 a3 a4 P j146_7 u_46.1 u_46.2.1 u_46.2.2.1 u_46.2.2.2.1 u_46.2.2.2.2.1 u_46.2.2.2.2.2)
def wj_Md_reckons_128 (ms : Int32) (a0 : Int32) (a1 : Int32) (a2 : Int32) (a3 : Int32) (a4 : Int32) (P : ((Nat → Int32) × Int64 × Int64 × (Nat → Int32) × (Nat → Int32) × (Nat → Int32)) → Prop) (j128_7 : Int32) (z128dd : Nat → Int32) (z128Lwhole : Int64) (z128Lwhole2 : Int64) (z128bm : Nat → Int32) (z128rr : Nat → Int32) (z128kt : Nat → Int32) : Prop := ((a0 < (8 : Int32) → wj_Md_reckons_146 ms a0 a1 a2 a3 a4 P j128_7 z128dd z128Lwhole z128Lwhole2 z128bm z128rr z128kt) ∧ (¬ a0 < (8 : Int32) → ((a0 < (17 : Int32) → wj_Md_reckons_153 ms a0 a1 a2 a3 a4 P j128_7 z128dd z128Lwhole z128Lwhole2 z128bm z128rr z128kt) ∧ (¬ a0 < (17 : Int32) → (((20 : Int32) ≤ a0 → wj_Md_reckons_153 ms a0 a1 a2 a3 a4 P j128_7 z128dd z128Lwhole z128Lwhole2 z128bm z128rr z128kt) ∧ (¬ (20 : Int32) ≤ a0 → wj_Md_reckons_146 ms a0 a1 a2 a3 a4 P j128_7 z128dd z128Lwhole z128Lwhole2 z128bm z128rr z128kt))))))
def wj_Md_reckons_97 (ms : Int32) (a0 : Int32) (a1 : Int32) (a2 : Int32) (a3 : Int32) (a4 : Int32) (P : ((Nat → Int32) × Int64 × Int64 × (Nat → Int32) × (Nat → Int32) × (Nat → Int32)) → Prop) (j97_6 : Int32) (j97_7 : Int32) (s97_0 : Int32) (z97dd : Nat → Int32) (z97Lwhole : Int64) (z97Lwhole2 : Int64) (z97bm : Nat → Int32) (z97rr : Nat → Int32) (z97kt : Nat → Int32) : Prop := ((s97_0 = (0 : Int32) → wp_Md_ends ms z97dd z97Lwhole z97Lwhole2 z97bm z97rr z97kt (3 : Int32) (fun u_57 => P (u_57.1, u_57.2.1, u_57.2.2.1, u_57.2.2.2.1, u_57.2.2.2.2.1, u_57.2.2.2.2.2))) ∧ (¬ s97_0 = (0 : Int32) → wp_Md_even ms z97dd z97Lwhole z97Lwhole2 z97bm z97rr z97kt a1 a2 (fun u_52 => ((j97_6 = (0 : Int32) → wj_Md_reckons_128 ms a0 a1 a2 a3 a4 P j97_7 u_52.1 u_52.2.1 u_52.2.2.1 u_52.2.2.2.1 u_52.2.2.2.2.1 u_52.2.2.2.2.2) ∧ (¬ j97_6 = (0 : Int32) → wp_Md_even ms u_52.1 u_52.2.1 u_52.2.2.1 u_52.2.2.2.1 u_52.2.2.2.2.1 u_52.2.2.2.2.2 a1 a3 (fun u_55 => wj_Md_reckons_128 ms a0 a1 a2 a3 a4 P j97_7 u_55.1 u_55.2.1 u_55.2.2.1 u_55.2.2.2.1 u_55.2.2.2.2.1 u_55.2.2.2.2.2))))))
def wj_Md_reckons_92 (ms : Int32) (a0 : Int32) (a1 : Int32) (a2 : Int32) (a3 : Int32) (a4 : Int32) (P : ((Nat → Int32) × Int64 × Int64 × (Nat → Int32) × (Nat → Int32) × (Nat → Int32)) → Prop) (j92_6 : Int32) (j92_7 : Int32) (z92dd : Nat → Int32) (z92Lwhole : Int64) (z92Lwhole2 : Int64) (z92bm : Nat → Int32) (z92rr : Nat → Int32) (z92kt : Nat → Int32) : Prop := wj_Md_reckons_97 ms a0 a1 a2 a3 a4 P j92_6 j92_7 (1 : Int32) z92dd z92Lwhole z92Lwhole2 z92bm z92rr z92kt
def wj_Md_reckons_86 (ms : Int32) (a0 : Int32) (a1 : Int32) (a2 : Int32) (a3 : Int32) (a4 : Int32) (P : ((Nat → Int32) × Int64 × Int64 × (Nat → Int32) × (Nat → Int32) × (Nat → Int32)) → Prop) (j86_6 : Int32) (j86_7 : Int32) (z86dd : Nat → Int32) (z86Lwhole : Int64) (z86Lwhole2 : Int64) (z86bm : Nat → Int32) (z86rr : Nat → Int32) (z86kt : Nat → Int32) : Prop := ((a0 < (48 : Int32) → wj_Md_reckons_97 ms a0 a1 a2 a3 a4 P j86_6 j86_7 (0 : Int32) z86dd z86Lwhole z86Lwhole2 z86bm z86rr z86kt) ∧ (¬ a0 < (48 : Int32) → wj_Md_reckons_92 ms a0 a1 a2 a3 a4 P j86_6 j86_7 z86dd z86Lwhole z86Lwhole2 z86bm z86rr z86kt))
def wj_Md_reckons_76 (ms : Int32) (a0 : Int32) (a1 : Int32) (a2 : Int32) (a3 : Int32) (a4 : Int32) (P : ((Nat → Int32) × Int64 × Int64 × (Nat → Int32) × (Nat → Int32) × (Nat → Int32)) → Prop) (j76_6 : Int32) (j76_7 : Int32) (z76dd : Nat → Int32) (z76Lwhole : Int64) (z76Lwhole2 : Int64) (z76bm : Nat → Int32) (z76rr : Nat → Int32) (z76kt : Nat → Int32) : Prop := ((a0 = (33 : Int32) → ((a1 = (0 : Int32) → wj_Md_reckons_92 ms a0 a1 a2 a3 a4 P j76_6 j76_7 z76dd z76Lwhole z76Lwhole2 z76bm z76rr z76kt) ∧ (¬ a1 = (0 : Int32) → wj_Md_reckons_86 ms a0 a1 a2 a3 a4 P j76_6 j76_7 z76dd z76Lwhole z76Lwhole2 z76bm z76rr z76kt))) ∧ (¬ a0 = (33 : Int32) → wj_Md_reckons_86 ms a0 a1 a2 a3 a4 P j76_6 j76_7 z76dd z76Lwhole z76Lwhole2 z76bm z76rr z76kt))
def wj_Md_reckons_66 (ms : Int32) (a0 : Int32) (a1 : Int32) (a2 : Int32) (a3 : Int32) (a4 : Int32) (P : ((Nat → Int32) × Int64 × Int64 × (Nat → Int32) × (Nat → Int32) × (Nat → Int32)) → Prop) (j66_6 : Int32) (j66_7 : Int32) (z66dd : Nat → Int32) (z66Lwhole : Int64) (z66Lwhole2 : Int64) (z66bm : Nat → Int32) (z66rr : Nat → Int32) (z66kt : Nat → Int32) : Prop := ((a0 = (32 : Int32) → ((a1 = (0 : Int32) → wj_Md_reckons_76 ms a0 a1 a2 a3 a4 P j66_6 j66_7 z66dd z66Lwhole z66Lwhole2 z66bm z66rr z66kt) ∧ (¬ a1 = (0 : Int32) → wj_Md_reckons_92 ms a0 a1 a2 a3 a4 P j66_6 j66_7 z66dd z66Lwhole z66Lwhole2 z66bm z66rr z66kt))) ∧ (¬ a0 = (32 : Int32) → wj_Md_reckons_76 ms a0 a1 a2 a3 a4 P j66_6 j66_7 z66dd z66Lwhole z66Lwhole2 z66bm z66rr z66kt))
def wj_Md_reckons_41 (ms : Int32) (a0 : Int32) (a1 : Int32) (a2 : Int32) (a3 : Int32) (a4 : Int32) (P : ((Nat → Int32) × Int64 × Int64 × (Nat → Int32) × (Nat → Int32) × (Nat → Int32)) → Prop) (j41_6 : Int32) (s41_0 : Int32) (z41dd : Nat → Int32) (z41Lwhole : Int64) (z41Lwhole2 : Int64) (z41bm : Nat → Int32) (z41rr : Nat → Int32) (z41kt : Nat → Int32) : Prop := ((a0 < (8 : Int32) → wj_Md_reckons_92 ms a0 a1 a2 a3 a4 P j41_6 s41_0 z41dd z41Lwhole z41Lwhole2 z41bm z41rr z41kt) ∧ (¬ a0 < (8 : Int32) → ((s41_0 = (0 : Int32) → ((a0 < (17 : Int32) → wj_Md_reckons_66 ms a0 a1 a2 a3 a4 P j41_6 s41_0 z41dd z41Lwhole z41Lwhole2 z41bm z41rr z41kt) ∧ (¬ a0 < (17 : Int32) → ((a0 < (20 : Int32) → wj_Md_reckons_92 ms a0 a1 a2 a3 a4 P j41_6 s41_0 z41dd z41Lwhole z41Lwhole2 z41bm z41rr z41kt) ∧ (¬ a0 < (20 : Int32) → wj_Md_reckons_66 ms a0 a1 a2 a3 a4 P j41_6 s41_0 z41dd z41Lwhole z41Lwhole2 z41bm z41rr z41kt))))) ∧ (¬ s41_0 = (0 : Int32) → wj_Md_reckons_92 ms a0 a1 a2 a3 a4 P j41_6 s41_0 z41dd z41Lwhole z41Lwhole2 z41bm z41rr z41kt))))
def wj_Md_reckons_36 (ms : Int32) (a0 : Int32) (a1 : Int32) (a2 : Int32) (a3 : Int32) (a4 : Int32) (P : ((Nat → Int32) × Int64 × Int64 × (Nat → Int32) × (Nat → Int32) × (Nat → Int32)) → Prop) (j36_6 : Int32) (z36dd : Nat → Int32) (z36Lwhole : Int64) (z36Lwhole2 : Int64) (z36bm : Nat → Int32) (z36rr : Nat → Int32) (z36kt : Nat → Int32) : Prop := wj_Md_reckons_41 ms a0 a1 a2 a3 a4 P j36_6 (1 : Int32) z36dd z36Lwhole z36Lwhole2 z36bm z36rr z36kt
def wj_Md_reckons_30 (ms : Int32) (a0 : Int32) (a1 : Int32) (a2 : Int32) (a3 : Int32) (a4 : Int32) (P : ((Nat → Int32) × Int64 × Int64 × (Nat → Int32) × (Nat → Int32) × (Nat → Int32)) → Prop) (j30_6 : Int32) (z30dd : Nat → Int32) (z30Lwhole : Int64) (z30Lwhole2 : Int64) (z30bm : Nat → Int32) (z30rr : Nat → Int32) (z30kt : Nat → Int32) : Prop := ((a0 = (36 : Int32) → wj_Md_reckons_36 ms a0 a1 a2 a3 a4 P j30_6 z30dd z30Lwhole z30Lwhole2 z30bm z30rr z30kt) ∧ (¬ a0 = (36 : Int32) → wj_Md_reckons_41 ms a0 a1 a2 a3 a4 P j30_6 (0 : Int32) z30dd z30Lwhole z30Lwhole2 z30bm z30rr z30kt))
def wj_Md_reckons_16 (ms : Int32) (a0 : Int32) (a1 : Int32) (a2 : Int32) (a3 : Int32) (a4 : Int32) (P : ((Nat → Int32) × Int64 × Int64 × (Nat → Int32) × (Nat → Int32) × (Nat → Int32)) → Prop) (s16_0 : Int32) (z16dd : Nat → Int32) (z16Lwhole : Int64) (z16Lwhole2 : Int64) (z16bm : Nat → Int32) (z16rr : Nat → Int32) (z16kt : Nat → Int32) : Prop := ((a0 < (12 : Int32) → wj_Md_reckons_30 ms a0 a1 a2 a3 a4 P s16_0 z16dd z16Lwhole z16Lwhole2 z16bm z16rr z16kt) ∧ (¬ a0 < (12 : Int32) → ((a0 < (16 : Int32) → wj_Md_reckons_36 ms a0 a1 a2 a3 a4 P s16_0 z16dd z16Lwhole z16Lwhole2 z16bm z16rr z16kt) ∧ (¬ a0 < (16 : Int32) → wj_Md_reckons_30 ms a0 a1 a2 a3 a4 P s16_0 z16dd z16Lwhole z16Lwhole2 z16bm z16rr z16kt))))
def wj_Md_reckons_11 (ms : Int32) (a0 : Int32) (a1 : Int32) (a2 : Int32) (a3 : Int32) (a4 : Int32) (P : ((Nat → Int32) × Int64 × Int64 × (Nat → Int32) × (Nat → Int32) × (Nat → Int32)) → Prop) (z11dd : Nat → Int32) (z11Lwhole : Int64) (z11Lwhole2 : Int64) (z11bm : Nat → Int32) (z11rr : Nat → Int32) (z11kt : Nat → Int32) : Prop := wj_Md_reckons_16 ms a0 a1 a2 a3 a4 P (1 : Int32) z11dd z11Lwhole z11Lwhole2 z11bm z11rr z11kt
def wp_Md_reckons (ms : Int32) (dd : Nat → Int32) (Lwhole : Int64) (Lwhole2 : Int64) (bm : Nat → Int32) (rr : Nat → Int32) (kt : Nat → Int32) (a0 : Int32) (a1 : Int32) (a2 : Int32) (a3 : Int32) (a4 : Int32) (P : ((Nat → Int32) × Int64 × Int64 × (Nat → Int32) × (Nat → Int32) × (Nat → Int32)) → Prop) : Prop := ((a0 < (4 : Int32) → wj_Md_reckons_11 ms a0 a1 a2 a3 a4 P dd Lwhole Lwhole2 bm rr kt) ∧ (¬ a0 < (4 : Int32) → ((a0 < (48 : Int32) → wj_Md_reckons_16 ms a0 a1 a2 a3 a4 P (0 : Int32) dd Lwhole Lwhole2 bm rr kt) ∧ (¬ a0 < (48 : Int32) → wj_Md_reckons_11 ms a0 a1 a2 a3 a4 P dd Lwhole Lwhole2 bm rr kt))))
abbrev rm_Md_reckons : Room := { frames := 6, cells := 0, slots := 0, locals := 168 }
set_option maxHeartbeats 4000000 in
set_option maxRecDepth 100000 in
theorem c_Md_reckons (l : Launch) (D : va_G) (cI : ClassId) (cB : ClassId) (qd : Nat) (qmemory : Nat) (qr : Nat) (qcounts : Nat) (ms : Int32) (dd : Nat → Int32) (Lwhole : Int64) (Lwhole2 : Int64) (bm : Nat → Int32) (rr : Nat → Int32) (kt : Nat → Int32) (a0 : Int32) (a1 : Int32) (a2 : Int32) (a3 : Int32) (a4 : Int32) (P : ((Nat → Int32) × Int64 × Int64 × (Nat → Int32) × (Nat → Int32) × (Nat → Int32)) → Prop) (h : wp_Md_reckons ms dd Lwhole Lwhole2 bm rr kt a0 a1 a2 a3 a4 P) (sz : Nat) : Met l y_Md_reckons (zz_ws y_Md_reckons b_Md_reckons 11 none) rm_Md_reckons (va_Pc [.ref qd, .int a0, .int a1, .int a2, .int a3, .int a4] (zz_pw D [(cI, .int), (cB, .byte)] (wD qd qmemory qr qcounts cI cB ms dd Lwhole Lwhole2 bm rr kt) sz)) (va_Qv P (zz_qw D (fun u => wD qd qmemory qr qcounts cI cB ms u.1 u.2.1 u.2.2.1 u.2.2.2.1 u.2.2.2.2.1 u.2.2.2.2.2) (va_A (wD qd qmemory qr qcounts cI cB ms dd Lwhole Lwhole2 bm rr kt) sz)) (va_A (wD qd qmemory qr qcounts cI cB ms dd Lwhole Lwhole2 bm rr kt) sz)) 0 0 (va_A (wD qd qmemory qr qcounts cI cB ms dd Lwhole Lwhole2 bm rr kt) sz) := by
  refine Met.ofW (cc := b_Md_reckons) (maxL := 11) (ret := none) (by decide) rfl ?_
  intro p e s m args below meth c s₁ B hml hv
  obtain ⟨rfl, hsz, hP, hK, hD0⟩ := hv
  have hx := B.exec
  have hb := B.bytes
  have hr := B.returns
  have hts := atoms_spec (ws := (zz_ws y_Md_reckons b_Md_reckons 11 none)) B.pre
  have hown : s.vm.findClass R_Md = some m.cls := findClass_of_methodNamed B.named
  have hlocks := B.notSynchronized
  have hT := zz_hts hts
  have X : CallFix p m c b_Md_reckons 11 s ([.ref qd, .int a0, .int a1, .int a2, .int a3, .int a4] : List Value).toArray (zz_ws y_Md_reckons b_Md_reckons 11 none) R_Md := ⟨hx, hb, hml, hown, hts⟩
  have hf0 : 0 + 0 ≤ (headSpec (zz_ws y_Md_reckons b_Md_reckons 11 none) rm_Md_reckons).room.cells ∧ 0 + 0 ≤ (headSpec (zz_ws y_Md_reckons b_Md_reckons 11 none) rm_Md_reckons).room.slots := ⟨Nat.le_of_ble_eq_true rfl, Nat.le_of_ble_eq_true rfl⟩
  subst hsz
  have hD := hD0.self (sz := s.heap.size)
  generalize hAe : va_A (wD qd qmemory qr qcounts cI cB ms dd Lwhole Lwhole2 bm rr kt) s.heap.size = A at hD ⊢
  have hA : ∀ q : Nat, s.heap.size ≤ q → A q := fun q h => by rw [← hAe]; exact Or.inr h
  have hS : va_S A s.heap s.heap [] := va_S.rf
  have hl := lv_entry ([.ref qd, .int a0, .int a1, .int a2, .int a3, .int a4]) (n := 11) (Nat.le_of_ble_eq_true rfl)
  rw [lg_entry_eq]
  generalize (lg_sl ([.ref qd, .int a0, .int a1, .int a2, .int a3, .int a4]) ++ List.replicate (11 - (lg_sl ([.ref qd, .int a0, .int a1, .int a2, .int a3, .int a4])).length) Slot.unset).toArray = ls at hl ⊢
  have hl : lv_has ls 11 [(0, .ref qd), (1, .int a0), (2, .int a1), (3, .int a2), (4, .int a3), (5, .int a4)] := hl
  have jn_395 : ∀ (j395_9 : Int64) (z395dd : Nat → Int32) (z395Lwhole : Int64) (z395Lwhole2 : Int64) (z395bm : Nat → Int32) (z395rr : Nat → Int32) (z395kt : Nat → Int32), wj_Md_reckons_395 ms a0 a1 a2 a3 a4 P j395_9 z395dd z395Lwhole z395Lwhole2 z395bm z395rr z395kt → ∀ (H : Heap) (locs : List Loc), va_P D vwCl (wD qd qmemory qr qcounts cI cB ms z395dd z395Lwhole z395Lwhole2 z395bm z395rr z395kt) H → va_D A (wD qd qmemory qr qcounts cI cB ms z395dd z395Lwhole z395Lwhole2 z395bm z395rr z395kt) → va_S A s.heap H locs → ∀ ls : Array Slot, lv_has ls 11 [(0, .ref qd), (2, .int a1), (5, .int a4), (9, .long j395_9)] → W p l e (headSpec (zz_ws y_Md_reckons b_Md_reckons 11 none) rm_Md_reckons).room s m ([.ref qd, .int a0, .int a1, .int a2, .int a3, .int a4] : List Value).toArray below meth c H locs 0 0 (MQ below (va_Qv P (zz_qw D (fun u => wD qd qmemory qr qcounts cI cB ms u.1 u.2.1 u.2.2.1 u.2.2.2.1 u.2.2.2.2.1 u.2.2.2.2.2) A) A) ([.ref qd, .int a0, .int a1, .int a2, .int a3, .int a4] : List Value).toArray s 0 0 A) (F0 m 395 ls []) := by
    intro j395_9 z395dd z395Lwhole z395Lwhole2 z395bm z395rr z395kt h H locs hP hD hS ls hl
    unfold wj_Md_reckons_395 at h
    refine lv_aload_n hx hb d_Md_reckons_395 rfl (lv_at hl 0 rfl) ?_
    refine lv_iload hx hb d_Md_reckons_396 (lv_at hl 2 rfl) ?_
    refine lv_iload_n hx hb d_Md_reckons_398 rfl (lv_at hl 1 rfl) ?_
    refine lv_lload hx hb d_Md_reckons_399 (lv_at hl 3 rfl) ?_
    refine zz_Wv (As := [.int a4, .int a1, .long j395_9]) (rest := []) (wc := wD qd qmemory qr qcounts cI cB ms z395dd z395Lwhole z395Lwhole2 z395bm z395rr z395kt) (wr := []) X hK hP hD hS hA (c_Md_put_IZJV l D cI cB qd qmemory qr qcounts ms z395dd z395Lwhole z395Lwhole2 z395bm z395rr z395kt a4 a1 j395_9 _ h _) ⟨rfl, rfl⟩ m_Md_put_IZJV k_Md_250 ⟨Nat.le_of_ble_eq_true rfl, Nat.le_of_ble_eq_true rfl⟩ [0, 1, 2, 3] [] rfl rfl (by decide) (by decide) (by decide) 6 0 rfl rfl rfl rfl hl.1 rfl (Nat.le_of_ble_eq_true rfl) d_Md_reckons_401 hf0 (fun u_1 H locs h hP hD hS => ?_)
    have hP : va_P D vwCl (wD qd qmemory qr qcounts cI cB ms u_1.1 u_1.2.1 u_1.2.2.1 u_1.2.2.2.1 u_1.2.2.2.2.1 u_1.2.2.2.2.2) H := hP.sub [0, 1, 2, 3] rfl
    have hD : va_D A (wD qd qmemory qr qcounts cI cB ms u_1.1 u_1.2.1 u_1.2.2.1 u_1.2.2.2.1 u_1.2.2.2.2.1 u_1.2.2.2.2.2) := hD.sub [0, 1, 2, 3] (by decide) rfl
    exact W.vret hx hb hr (fun t ht hW => ⟨⟨(u_1.1, u_1.2.1, u_1.2.2.1, u_1.2.2.2.1, u_1.2.2.2.2.1, u_1.2.2.2.2.2), rfl, h, by rw [ht]; exact hP, hD⟩, hS.F ht⟩) hS.2.2 d_Md_reckons_404
  have jn_392 : ∀ (j392_9 : Int64) (s392_0 : Int32) (s392_1 : Int32) (z392dd : Nat → Int32) (z392Lwhole : Int64) (z392Lwhole2 : Int64) (z392bm : Nat → Int32) (z392rr : Nat → Int32) (z392kt : Nat → Int32), wj_Md_reckons_392 ms a0 a1 a2 a3 a4 P j392_9 s392_0 s392_1 z392dd z392Lwhole z392Lwhole2 z392bm z392rr z392kt → ∀ (H : Heap) (locs : List Loc), va_P D vwCl (wD qd qmemory qr qcounts cI cB ms z392dd z392Lwhole z392Lwhole2 z392bm z392rr z392kt) H → va_D A (wD qd qmemory qr qcounts cI cB ms z392dd z392Lwhole z392Lwhole2 z392bm z392rr z392kt) → va_S A s.heap H locs → ∀ ls : Array Slot, lv_has ls 11 [(0, .ref qd), (2, .int a1), (5, .int a4), (9, .long j392_9)] → W p l e (headSpec (zz_ws y_Md_reckons b_Md_reckons 11 none) rm_Md_reckons).room s m ([.ref qd, .int a0, .int a1, .int a2, .int a3, .int a4] : List Value).toArray below meth c H locs 0 0 (MQ below (va_Qv P (zz_qw D (fun u => wD qd qmemory qr qcounts cI cB ms u.1 u.2.1 u.2.2.1 u.2.2.2.1 u.2.2.2.2.1 u.2.2.2.2.2) A) A) ([.ref qd, .int a0, .int a1, .int a2, .int a3, .int a4] : List Value).toArray s 0 0 A) (F0 m 392 ls [.int s392_1, .int s392_0]) := by
    intro j392_9 s392_0 s392_1 z392dd z392Lwhole z392Lwhole2 z392bm z392rr z392kt h H locs hP hD hS ls hl
    unfold wj_Md_reckons_392 at h
    refine lv_icmp_ne (tgt := 404) hx hb d_Md_reckons_392 (by decide) (fun c_3 => ?_) (fun c_3 => ?_)
    · skip
      have h := h.2 c_3
      exact W.vret hx hb hr (fun t ht hW => ⟨⟨(z392dd, z392Lwhole, z392Lwhole2, z392bm, z392rr, z392kt), rfl, h, by rw [ht]; exact hP, hD⟩, hS.F ht⟩) hS.2.2 d_Md_reckons_404
    · skip
      have h := h.1 c_3
      exact jn_395 j392_9 z392dd z392Lwhole z392Lwhole2 z392bm z392rr z392kt h _ _ hP hD hS ls (lv_sub hl [0, 1, 2, 3] rfl)
  have jn_381 : ∀ (j381_9 : Int64) (s381_0 : Int32) (z381dd : Nat → Int32) (z381Lwhole : Int64) (z381Lwhole2 : Int64) (z381bm : Nat → Int32) (z381rr : Nat → Int32) (z381kt : Nat → Int32), wj_Md_reckons_381 ms a0 a1 a2 a3 a4 P j381_9 s381_0 z381dd z381Lwhole z381Lwhole2 z381bm z381rr z381kt → ∀ (H : Heap) (locs : List Loc), va_P D vwCl (wD qd qmemory qr qcounts cI cB ms z381dd z381Lwhole z381Lwhole2 z381bm z381rr z381kt) H → va_D A (wD qd qmemory qr qcounts cI cB ms z381dd z381Lwhole z381Lwhole2 z381bm z381rr z381kt) → va_S A s.heap H locs → ∀ ls : Array Slot, lv_has ls 11 [(0, .ref qd), (1, .int a0), (2, .int a1), (5, .int a4), (9, .long j381_9)] → W p l e (headSpec (zz_ws y_Md_reckons b_Md_reckons 11 none) rm_Md_reckons).room s m ([.ref qd, .int a0, .int a1, .int a2, .int a3, .int a4] : List Value).toArray below meth c H locs 0 0 (MQ below (va_Qv P (zz_qw D (fun u => wD qd qmemory qr qcounts cI cB ms u.1 u.2.1 u.2.2.1 u.2.2.2.1 u.2.2.2.2.1 u.2.2.2.2.2) A) A) ([.ref qd, .int a0, .int a1, .int a2, .int a3, .int a4] : List Value).toArray s 0 0 A) (F0 m 381 ls [.int s381_0]) := by
    intro j381_9 s381_0 z381dd z381Lwhole z381Lwhole2 z381bm z381rr z381kt h H locs hP hD hS ls hl
    unfold wj_Md_reckons_381 at h
    refine lv_iload_n hx hb d_Md_reckons_381 rfl (lv_at hl 1 rfl) ?_
    refine lv_bipush (v := 18) hx hb d_Md_reckons_382 (by decide) ?_
    refine lv_icmp_ne (tgt := 391) hx hb d_Md_reckons_384 (by decide) (fun c_4 => ?_) (fun c_4 => ?_)
    · skip
      have h := h.2 c_4
      refine lv_iconst (v := 0) hx hb d_Md_reckons_391 (by decide) ?_
      exact jn_392 j381_9 s381_0 (0 : Int32) z381dd z381Lwhole z381Lwhole2 z381bm z381rr z381kt h _ _ hP hD hS ls (lv_sub hl [0, 2, 3, 4] rfl)
    · skip
      have h := h.1 c_4
      refine lv_iconst (v := 1) hx hb d_Md_reckons_387 (by decide) ?_
      refine lv_goto (tgt := 392) hx hb d_Md_reckons_388 (by decide) ?_
      exact jn_392 j381_9 s381_0 (1 : Int32) z381dd z381Lwhole z381Lwhole2 z381bm z381rr z381kt h _ _ hP hD hS ls (lv_sub hl [0, 2, 3, 4] rfl)
  have jn_291 : ∀ (j291_9 : Int64) (s291_1 : Int32) (s291_2 : Int32) (z291dd : Nat → Int32) (z291Lwhole : Int64) (z291Lwhole2 : Int64) (z291bm : Nat → Int32) (z291rr : Nat → Int32) (z291kt : Nat → Int32), wj_Md_reckons_291 ms a0 a1 a2 a3 a4 P j291_9 s291_1 s291_2 z291dd z291Lwhole z291Lwhole2 z291bm z291rr z291kt → ∀ (H : Heap) (locs : List Loc), va_P D vwCl (wD qd qmemory qr qcounts cI cB ms z291dd z291Lwhole z291Lwhole2 z291bm z291rr z291kt) H → va_D A (wD qd qmemory qr qcounts cI cB ms z291dd z291Lwhole z291Lwhole2 z291bm z291rr z291kt) → va_S A s.heap H locs → ∀ ls : Array Slot, lv_has ls 11 [(0, .ref qd), (2, .int a1), (9, .long j291_9)] → W p l e (headSpec (zz_ws y_Md_reckons b_Md_reckons 11 none) rm_Md_reckons).room s m ([.ref qd, .int a0, .int a1, .int a2, .int a3, .int a4] : List Value).toArray below meth c H locs 0 0 (MQ below (va_Qv P (zz_qw D (fun u => wD qd qmemory qr qcounts cI cB ms u.1 u.2.1 u.2.2.1 u.2.2.2.1 u.2.2.2.2.1 u.2.2.2.2.2) A) A) ([.ref qd, .int a0, .int a1, .int a2, .int a3, .int a4] : List Value).toArray s 0 0 A) (F0 m 291 ls [.int s291_2, .int s291_1, .ref qd]) := by
    intro j291_9 s291_1 s291_2 z291dd z291Lwhole z291Lwhole2 z291bm z291rr z291kt h H locs hP hD hS ls hl
    unfold wj_Md_reckons_291 at h
    refine lv_aload_n hx hb d_Md_reckons_291 rfl (lv_at hl 0 rfl) ?_
    refine lv_lload hx hb d_Md_reckons_292 (lv_at hl 2 rfl) ?_
    refine lv_iload_n hx hb d_Md_reckons_294 rfl (lv_at hl 1 rfl) ?_
    refine zz_Wl (As := [.long j291_9, .int a1]) (rest := [.int s291_2, .int s291_1, .ref qd]) (wc := wD qd qmemory qr qcounts cI cB ms z291dd z291Lwhole z291Lwhole2 z291bm z291rr z291kt) (wr := []) X hK hP hD hS hA (c_Md_changed l D cI cB qd qmemory qr qcounts ms z291dd z291Lwhole z291Lwhole2 z291bm z291rr z291kt j291_9 a1 _ h _) ⟨rfl, rfl⟩ m_Md_changed k_Md_274 ⟨Nat.le_of_ble_eq_true rfl, Nat.le_of_ble_eq_true rfl⟩ [0, 1, 2, 3] [] rfl rfl (by decide) (by decide) (by decide) 6 0 rfl rfl rfl rfl hl.1 rfl (Nat.le_of_ble_eq_true rfl) d_Md_reckons_295 hf0 (fun r_6 u_5 H locs h hP hD hS => ?_)
    have hP : va_P D vwCl (wD qd qmemory qr qcounts cI cB ms u_5.1 u_5.2.1 u_5.2.2.1 u_5.2.2.2.1 u_5.2.2.2.2.1 u_5.2.2.2.2.2) H := hP.sub [0, 1, 2, 3] rfl
    have hD : va_D A (wD qd qmemory qr qcounts cI cB ms u_5.1 u_5.2.1 u_5.2.2.1 u_5.2.2.2.1 u_5.2.2.2.2.1 u_5.2.2.2.2.2) := hD.sub [0, 1, 2, 3] (by decide) rfl
    refine zz_Wv (As := [.int s291_1, .int s291_2, .long r_6]) (rest := []) (wc := wD qd qmemory qr qcounts cI cB ms u_5.1 u_5.2.1 u_5.2.2.1 u_5.2.2.2.1 u_5.2.2.2.2.1 u_5.2.2.2.2.2) (wr := []) X hK hP hD hS hA (c_Md_put_IZJV l D cI cB qd qmemory qr qcounts ms u_5.1 u_5.2.1 u_5.2.2.1 u_5.2.2.2.1 u_5.2.2.2.2.1 u_5.2.2.2.2.2 s291_1 s291_2 r_6 _ h _) ⟨rfl, rfl⟩ m_Md_put_IZJV k_Md_250 ⟨Nat.le_of_ble_eq_true rfl, Nat.le_of_ble_eq_true rfl⟩ [0, 1, 2, 3] [] rfl rfl (by decide) (by decide) (by decide) 6 0 rfl rfl rfl rfl hl.1 rfl (Nat.le_of_ble_eq_true rfl) d_Md_reckons_298 hf0 (fun u_7 H locs h hP hD hS => ?_)
    have hP : va_P D vwCl (wD qd qmemory qr qcounts cI cB ms u_7.1 u_7.2.1 u_7.2.2.1 u_7.2.2.2.1 u_7.2.2.2.2.1 u_7.2.2.2.2.2) H := hP.sub [0, 1, 2, 3] rfl
    have hD : va_D A (wD qd qmemory qr qcounts cI cB ms u_7.1 u_7.2.1 u_7.2.2.1 u_7.2.2.2.1 u_7.2.2.2.2.1 u_7.2.2.2.2.2) := hD.sub [0, 1, 2, 3] (by decide) rfl
    refine lv_goto (tgt := 404) hx hb d_Md_reckons_301 (by decide) ?_
    exact W.vret hx hb hr (fun t ht hW => ⟨⟨(u_7.1, u_7.2.1, u_7.2.2.1, u_7.2.2.2.1, u_7.2.2.2.2.1, u_7.2.2.2.2.2), rfl, h, by rw [ht]; exact hP, hD⟩, hS.F ht⟩) hS.2.2 d_Md_reckons_404
  have jn_279 : ∀ (j279_9 : Int64) (z279dd : Nat → Int32) (z279Lwhole : Int64) (z279Lwhole2 : Int64) (z279bm : Nat → Int32) (z279rr : Nat → Int32) (z279kt : Nat → Int32), wj_Md_reckons_279 ms a0 a1 a2 a3 a4 P j279_9 z279dd z279Lwhole z279Lwhole2 z279bm z279rr z279kt → ∀ (H : Heap) (locs : List Loc), va_P D vwCl (wD qd qmemory qr qcounts cI cB ms z279dd z279Lwhole z279Lwhole2 z279bm z279rr z279kt) H → va_D A (wD qd qmemory qr qcounts cI cB ms z279dd z279Lwhole z279Lwhole2 z279bm z279rr z279kt) → va_S A s.heap H locs → ∀ ls : Array Slot, lv_has ls 11 [(0, .ref qd), (2, .int a1), (5, .int a4), (9, .long j279_9)] → W p l e (headSpec (zz_ws y_Md_reckons b_Md_reckons 11 none) rm_Md_reckons).room s m ([.ref qd, .int a0, .int a1, .int a2, .int a3, .int a4] : List Value).toArray below meth c H locs 0 0 (MQ below (va_Qv P (zz_qw D (fun u => wD qd qmemory qr qcounts cI cB ms u.1 u.2.1 u.2.2.1 u.2.2.2.1 u.2.2.2.2.1 u.2.2.2.2.2) A) A) ([.ref qd, .int a0, .int a1, .int a2, .int a3, .int a4] : List Value).toArray s 0 0 A) (F0 m 279 ls []) := by
    intro j279_9 z279dd z279Lwhole z279Lwhole2 z279bm z279rr z279kt h H locs hP hD hS ls hl
    unfold wj_Md_reckons_279 at h
    refine lv_aload_n hx hb d_Md_reckons_279 rfl (lv_at hl 0 rfl) ?_
    refine lv_iload hx hb d_Md_reckons_280 (lv_at hl 2 rfl) ?_
    refine lv_iload_n hx hb d_Md_reckons_282 rfl (lv_at hl 1 rfl) ?_
    refine lv_if_ne (tgt := 290) hx hb d_Md_reckons_283 (by decide) (fun c_9 => ?_) (fun c_9 => ?_)
    · skip
      have h := h.2 c_9
      refine lv_iconst (v := 0) hx hb d_Md_reckons_290 (by decide) ?_
      exact jn_291 j279_9 a4 (0 : Int32) z279dd z279Lwhole z279Lwhole2 z279bm z279rr z279kt h _ _ hP hD hS ls (lv_sub hl [0, 1, 3] rfl)
    · skip
      have h := h.1 c_9
      refine lv_iconst (v := 1) hx hb d_Md_reckons_286 (by decide) ?_
      refine lv_goto (tgt := 291) hx hb d_Md_reckons_287 (by decide) ?_
      exact jn_291 j279_9 a4 (1 : Int32) z279dd z279Lwhole z279Lwhole2 z279bm z279rr z279kt h _ _ hP hD hS ls (lv_sub hl [0, 1, 3] rfl)
  have jn_166 : ∀ (j166_7 : Int32) (z166dd : Nat → Int32) (z166Lwhole : Int64) (z166Lwhole2 : Int64) (z166bm : Nat → Int32) (z166rr : Nat → Int32) (z166kt : Nat → Int32), wj_Md_reckons_166 ms a0 a1 a2 a3 a4 P j166_7 z166dd z166Lwhole z166Lwhole2 z166bm z166rr z166kt → ∀ (H : Heap) (locs : List Loc), va_P D vwCl (wD qd qmemory qr qcounts cI cB ms z166dd z166Lwhole z166Lwhole2 z166bm z166rr z166kt) H → va_D A (wD qd qmemory qr qcounts cI cB ms z166dd z166Lwhole z166Lwhole2 z166bm z166rr z166kt) → va_S A s.heap H locs → ∀ ls : Array Slot, lv_has ls 11 [(0, .ref qd), (1, .int a0), (2, .int a1), (3, .int a2), (4, .int a3), (5, .int a4), (7, .int j166_7)] → W p l e (headSpec (zz_ws y_Md_reckons b_Md_reckons 11 none) rm_Md_reckons).room s m ([.ref qd, .int a0, .int a1, .int a2, .int a3, .int a4] : List Value).toArray below meth c H locs 0 0 (MQ below (va_Qv P (zz_qw D (fun u => wD qd qmemory qr qcounts cI cB ms u.1 u.2.1 u.2.2.1 u.2.2.2.1 u.2.2.2.2.1 u.2.2.2.2.2) A) A) ([.ref qd, .int a0, .int a1, .int a2, .int a3, .int a4] : List Value).toArray s 0 0 A) (F0 m 166 ls []) := by
    intro j166_7 z166dd z166Lwhole z166Lwhole2 z166bm z166rr z166kt h H locs hP hD hS ls hl
    unfold wj_Md_reckons_166 at h
    refine lv_aload_n hx hb d_Md_reckons_166 rfl (lv_at hl 0 rfl) ?_
    refine g_Md_63 (v := .int (z166dd 5)) hx hb hT hown hK hP 0 rfl rfl d_Md_reckons_167 ?_
    refine lv_if_le (tgt := 174) hx hb d_Md_reckons_170 (by decide) (fun c_10 => ?_) (fun c_10 => ?_)
    · skip
      have h := h.1 c_10
      refine lv_aload_n hx hb d_Md_reckons_174 rfl (lv_at hl 0 rfl) ?_
      refine lv_iload_n hx hb d_Md_reckons_175 rfl (lv_at hl 3 rfl) ?_
      refine lv_iload_n hx hb d_Md_reckons_176 rfl (lv_at hl 2 rfl) ?_
      refine zz_Rl (As := [.int a2, .int a1]) (rest := []) (wc := wD qd qmemory qr qcounts cI cB ms z166dd z166Lwhole z166Lwhole2 z166bm z166rr z166kt) X hK hP (c_Md_bitsOf l D cI cB qd qmemory qr qcounts ms z166dd z166Lwhole z166Lwhole2 z166bm z166rr z166kt a2 a1 _ h) ⟨rfl, rfl⟩ m_Md_bitsOf k_Md_258 ⟨Nat.le_of_ble_eq_true rfl, Nat.le_of_ble_eq_true rfl⟩ [0, 1, 2, 3] rfl 6 0 rfl rfl rfl rfl hl.1 rfl (Nat.le_of_ble_eq_true rfl) d_Md_reckons_177 hf0 (fun r_11 h => ?_)
      refine lv_lstore (lv' := [(9, .long r_11), (0, .ref qd), (1, .int a0), (2, .int a1), (3, .int a2), (4, .int a3), (5, .int a4), (7, .int j166_7)]) hx hb d_Md_reckons_180 hl (by decide) rfl (fun ls hl => ?_)
      refine lv_iload_n hx hb d_Md_reckons_182 rfl (lv_at hl 2 rfl) ?_
      refine lv_bipush (v := 48) hx hb d_Md_reckons_183 (by decide) ?_
      refine lv_icmp_lt (tgt := 209) hx hb d_Md_reckons_185 (by decide) (fun c_12 => ?_) (fun c_12 => ?_)
      · skip
        have h := h.1 c_12
        refine lv_iload_n hx hb d_Md_reckons_209 rfl (lv_at hl 2 rfl) ?_
        refine lv_iconst (v := 4) hx hb d_Md_reckons_210 (by decide) ?_
        refine lv_icmp_ge (tgt := 239) hx hb d_Md_reckons_211 (by decide) (fun c_13 => ?_) (fun c_13 => ?_)
        · skip
          have h := h.1 c_13
          refine lv_iload hx hb d_Md_reckons_239 (lv_at hl 7 rfl) ?_
          refine lv_if_eq (tgt := 267) hx hb d_Md_reckons_241 (by decide) (fun c_14 => ?_) (fun c_14 => ?_)
          · skip
            have h := h.1 c_14
            refine lv_iload_n hx hb d_Md_reckons_267 rfl (lv_at hl 2 rfl) ?_
            refine lv_bipush (v := 32) hx hb d_Md_reckons_268 (by decide) ?_
            refine lv_icmp_eq (tgt := 279) hx hb d_Md_reckons_270 (by decide) (fun c_15 => ?_) (fun c_15 => ?_)
            · skip
              have h := h.1 c_15
              exact jn_279 r_11 z166dd z166Lwhole z166Lwhole2 z166bm z166rr z166kt h _ _ hP hD hS ls (lv_sub hl [1, 3, 6, 0] rfl)
            · skip
              have h := h.2 c_15
              refine lv_iload_n hx hb d_Md_reckons_273 rfl (lv_at hl 2 rfl) ?_
              refine lv_bipush (v := 33) hx hb d_Md_reckons_274 (by decide) ?_
              refine lv_icmp_ne (tgt := 304) hx hb d_Md_reckons_276 (by decide) (fun c_16 => ?_) (fun c_16 => ?_)
              · skip
                have h := h.2 c_16
                refine lv_iload_n hx hb d_Md_reckons_304 rfl (lv_at hl 2 rfl) ?_
                refine lv_bipush (v := 8) hx hb d_Md_reckons_305 (by decide) ?_
                refine lv_icmp_ge (tgt := 328) hx hb d_Md_reckons_307 (by decide) (fun c_17 => ?_) (fun c_17 => ?_)
                · skip
                  have h := h.1 c_17
                  refine lv_iload_n hx hb d_Md_reckons_328 rfl (lv_at hl 2 rfl) ?_
                  refine lv_bipush (v := 17) hx hb d_Md_reckons_329 (by decide) ?_
                  refine lv_icmp_ne (tgt := 369) hx hb d_Md_reckons_331 (by decide) (fun c_18 => ?_) (fun c_18 => ?_)
                  · skip
                    have h := h.2 c_18
                    refine lv_aload_n hx hb d_Md_reckons_369 rfl (lv_at hl 1 rfl) ?_
                    refine zz_Ri (As := []) (rest := []) (wc := wD qd qmemory qr qcounts cI cB ms z166dd z166Lwhole z166Lwhole2 z166bm z166rr z166kt) X hK hP (c_Md_rt l D cI cB qd qmemory qr qcounts ms z166dd z166Lwhole z166Lwhole2 z166bm z166rr z166kt _ h) ⟨rfl, rfl⟩ m_Md_rt k_Md_135 ⟨Nat.le_of_ble_eq_true rfl, Nat.le_of_ble_eq_true rfl⟩ [0, 1, 2, 3] rfl 6 0 rfl rfl rfl rfl hl.1 rfl (Nat.le_of_ble_eq_true rfl) d_Md_reckons_370 hf0 (fun r_19 h => ?_)
                    refine lv_if_ne (tgt := 380) hx hb d_Md_reckons_373 (by decide) (fun c_20 => ?_) (fun c_20 => ?_)
                    · skip
                      have h := h.2 c_20
                      refine lv_iconst (v := 0) hx hb d_Md_reckons_380 (by decide) ?_
                      exact jn_381 r_11 (0 : Int32) z166dd z166Lwhole z166Lwhole2 z166bm z166rr z166kt h _ _ hP hD hS ls (lv_sub hl [1, 2, 3, 6, 0] rfl)
                    · skip
                      have h := h.1 c_20
                      refine lv_iconst (v := 1) hx hb d_Md_reckons_376 (by decide) ?_
                      refine lv_goto (tgt := 381) hx hb d_Md_reckons_377 (by decide) ?_
                      exact jn_381 r_11 (1 : Int32) z166dd z166Lwhole z166Lwhole2 z166bm z166rr z166kt h _ _ hP hD hS ls (lv_sub hl [1, 2, 3, 6, 0] rfl)
                  · skip
                    have h := h.1 c_18
                    refine lv_aload_n hx hb d_Md_reckons_334 rfl (lv_at hl 1 rfl) ?_
                    refine g_Md_14 (v := .ref qr) hx hb hT hown hK hP 0 rfl rfl d_Md_reckons_335 ?_
                    refine lv_bipush (v := 66) hx hb d_Md_reckons_338 (by decide) ?_
                    refine va_iald (f := z166rr) hx hb hK hP 2 0 rfl rfl h.1 d_Md_reckons_340 ?_
                    have h := h.2
                    refine lv_topi (fun x_21 ex_21 => ?_)
                    have h := h x_21 ex_21
                    refine lv_aload_n hx hb d_Md_reckons_341 rfl (lv_at hl 1 rfl) ?_
                    refine g_Md_82 (v := .int (z166dd 9)) hx hb hT hown hK hP 0 rfl rfl d_Md_reckons_342 ?_
                    refine lv_bipush (v := 18) hx hb d_Md_reckons_345 (by decide) ?_
                    refine zz_iushr hx hb d_Md_reckons_347 ?_
                    refine lv_topi (fun x_22 ex_22 => ?_)
                    have h := h x_22 ex_22
                    refine lv_bipush (v := 7) hx hb d_Md_reckons_348 (by decide) ?_
                    refine lv_iand hx hb d_Md_reckons_350 ?_
                    refine zz_ishr hx hb d_Md_reckons_351 ?_
                    refine lv_topi (fun x_23 ex_23 => ?_)
                    have h := h x_23 ex_23
                    refine lv_iconst (v := 1) hx hb d_Md_reckons_352 (by decide) ?_
                    refine lv_iand hx hb d_Md_reckons_353 ?_
                    refine lv_aload_n hx hb d_Md_reckons_354 rfl (lv_at hl 1 rfl) ?_
                    refine g_Md_82 (v := .int (z166dd 9)) hx hb hT hown hK hP 0 rfl rfl d_Md_reckons_355 ?_
                    refine lv_bipush (v := 16) hx hb d_Md_reckons_358 (by decide) ?_
                    refine zz_iushr hx hb d_Md_reckons_360 ?_
                    refine lv_topi (fun x_24 ex_24 => ?_)
                    have h := h x_24 ex_24
                    refine lv_iconst (v := 1) hx hb d_Md_reckons_361 (by decide) ?_
                    refine lv_iand hx hb d_Md_reckons_362 ?_
                    refine lv_icmp_ne (tgt := 404) hx hb d_Md_reckons_363 (by decide) (fun c_25 => ?_) (fun c_25 => ?_)
                    · skip
                      have h := h.2 c_25
                      exact W.vret hx hb hr (fun t ht hW => ⟨⟨(z166dd, z166Lwhole, z166Lwhole2, z166bm, z166rr, z166kt), rfl, h, by rw [ht]; exact hP, hD⟩, hS.F ht⟩) hS.2.2 d_Md_reckons_404
                    · skip
                      have h := h.1 c_25
                      refine lv_goto (tgt := 395) hx hb d_Md_reckons_366 (by decide) ?_
                      exact jn_395 r_11 z166dd z166Lwhole z166Lwhole2 z166bm z166rr z166kt h _ _ hP hD hS ls (lv_sub hl [1, 3, 6, 0] rfl)
                · skip
                  have h := h.2 c_17
                  refine lv_aload_n hx hb d_Md_reckons_310 rfl (lv_at hl 1 rfl) ?_
                  refine lv_iload hx hb d_Md_reckons_311 (lv_at hl 6 rfl) ?_
                  refine lv_iload_n hx hb d_Md_reckons_313 rfl (lv_at hl 3 rfl) ?_
                  refine lv_aload_n hx hb d_Md_reckons_314 rfl (lv_at hl 1 rfl) ?_
                  refine lv_iload_n hx hb d_Md_reckons_315 rfl (lv_at hl 2 rfl) ?_
                  refine lv_lload hx hb d_Md_reckons_316 (lv_at hl 0 rfl) ?_
                  refine lv_iload_n hx hb d_Md_reckons_318 rfl (lv_at hl 3 rfl) ?_
                  refine zz_Wl (As := [.int a0, .long r_11, .int a1]) (rest := [.int a1, .int a4, .ref qd]) (wc := wD qd qmemory qr qcounts cI cB ms z166dd z166Lwhole z166Lwhole2 z166bm z166rr z166kt) (wr := []) X hK hP hD hS hA (c_Md_one l D cI cB qd qmemory qr qcounts ms z166dd z166Lwhole z166Lwhole2 z166bm z166rr z166kt a0 r_11 a1 _ h _) ⟨rfl, rfl⟩ m_Md_one k_Md_278 ⟨Nat.le_of_ble_eq_true rfl, Nat.le_of_ble_eq_true rfl⟩ [0, 1, 2, 3] [] rfl rfl (by decide) (by decide) (by decide) 6 0 rfl rfl rfl rfl hl.1 rfl (Nat.le_of_ble_eq_true rfl) d_Md_reckons_319 hf0 (fun r_27 u_26 H locs h hP hD hS => ?_)
                  have hP : va_P D vwCl (wD qd qmemory qr qcounts cI cB ms u_26.1 u_26.2.1 u_26.2.2.1 u_26.2.2.2.1 u_26.2.2.2.2.1 u_26.2.2.2.2.2) H := hP.sub [0, 1, 2, 3] rfl
                  have hD : va_D A (wD qd qmemory qr qcounts cI cB ms u_26.1 u_26.2.1 u_26.2.2.1 u_26.2.2.2.1 u_26.2.2.2.2.1 u_26.2.2.2.2.2) := hD.sub [0, 1, 2, 3] (by decide) rfl
                  refine zz_Wv (As := [.int a4, .int a1, .long r_27]) (rest := []) (wc := wD qd qmemory qr qcounts cI cB ms u_26.1 u_26.2.1 u_26.2.2.1 u_26.2.2.2.1 u_26.2.2.2.2.1 u_26.2.2.2.2.2) (wr := []) X hK hP hD hS hA (c_Md_put_IZJV l D cI cB qd qmemory qr qcounts ms u_26.1 u_26.2.1 u_26.2.2.1 u_26.2.2.2.1 u_26.2.2.2.2.1 u_26.2.2.2.2.2 a4 a1 r_27 _ h _) ⟨rfl, rfl⟩ m_Md_put_IZJV k_Md_250 ⟨Nat.le_of_ble_eq_true rfl, Nat.le_of_ble_eq_true rfl⟩ [0, 1, 2, 3] [] rfl rfl (by decide) (by decide) (by decide) 6 0 rfl rfl rfl rfl hl.1 rfl (Nat.le_of_ble_eq_true rfl) d_Md_reckons_322 hf0 (fun u_28 H locs h hP hD hS => ?_)
                  have hP : va_P D vwCl (wD qd qmemory qr qcounts cI cB ms u_28.1 u_28.2.1 u_28.2.2.1 u_28.2.2.2.1 u_28.2.2.2.2.1 u_28.2.2.2.2.2) H := hP.sub [0, 1, 2, 3] rfl
                  have hD : va_D A (wD qd qmemory qr qcounts cI cB ms u_28.1 u_28.2.1 u_28.2.2.1 u_28.2.2.2.1 u_28.2.2.2.2.1 u_28.2.2.2.2.2) := hD.sub [0, 1, 2, 3] (by decide) rfl
                  refine lv_goto (tgt := 404) hx hb d_Md_reckons_325 (by decide) ?_
                  exact W.vret hx hb hr (fun t ht hW => ⟨⟨(u_28.1, u_28.2.1, u_28.2.2.1, u_28.2.2.2.1, u_28.2.2.2.2.1, u_28.2.2.2.2.2), rfl, h, by rw [ht]; exact hP, hD⟩, hS.F ht⟩) hS.2.2 d_Md_reckons_404
              · skip
                have h := h.1 c_16
                exact jn_279 r_11 z166dd z166Lwhole z166Lwhole2 z166bm z166rr z166kt h _ _ hP hD hS ls (lv_sub hl [1, 3, 6, 0] rfl)
          · skip
            have h := h.2 c_14
            refine lv_aload_n hx hb d_Md_reckons_244 rfl (lv_at hl 1 rfl) ?_
            refine lv_iload hx hb d_Md_reckons_245 (lv_at hl 6 rfl) ?_
            refine lv_iconst (v := 0) hx hb d_Md_reckons_247 (by decide) ?_
            refine lv_aload_n hx hb d_Md_reckons_248 rfl (lv_at hl 1 rfl) ?_
            refine lv_iload_n hx hb d_Md_reckons_249 rfl (lv_at hl 2 rfl) ?_
            refine lv_lload hx hb d_Md_reckons_250 (lv_at hl 0 rfl) ?_
            refine lv_iload_n hx hb d_Md_reckons_252 rfl (lv_at hl 3 rfl) ?_
            refine zz_Wi (As := [.int a0, .long r_11, .int a1]) (rest := [.int (0 : Int32), .int a4, .ref qd]) (wc := wD qd qmemory qr qcounts cI cB ms z166dd z166Lwhole z166Lwhole2 z166bm z166rr z166kt) (wr := []) X hK hP hD hS hA (c_Md_wordOf l D cI cB qd qmemory qr qcounts ms z166dd z166Lwhole z166Lwhole2 z166bm z166rr z166kt a0 r_11 a1 _ h _) ⟨rfl, rfl⟩ m_Md_wordOf k_Md_270 ⟨Nat.le_of_ble_eq_true rfl, Nat.le_of_ble_eq_true rfl⟩ [0, 1, 2, 3] [] rfl rfl (by decide) (by decide) (by decide) 6 0 rfl rfl rfl rfl hl.1 rfl (Nat.le_of_ble_eq_true rfl) d_Md_reckons_253 hf0 (fun r_31 u_30 H locs h hP hD hS => ?_)
            have hP : va_P D vwCl (wD qd qmemory qr qcounts cI cB ms u_30.1 u_30.2.1 u_30.2.2.1 u_30.2.2.2.1 u_30.2.2.2.2.1 u_30.2.2.2.2.2) H := hP.sub [0, 1, 2, 3] rfl
            have hD : va_D A (wD qd qmemory qr qcounts cI cB ms u_30.1 u_30.2.1 u_30.2.2.1 u_30.2.2.2.1 u_30.2.2.2.2.1 u_30.2.2.2.2.2) := hD.sub [0, 1, 2, 3] (by decide) rfl
            refine lv_i2l (v := r_31.toInt64) hx hb d_Md_reckons_256 rfl ?_
            refine lv_ldc2 (v := 4294967295) hx hb hown (hT _ n_Md_163) d_Md_reckons_257 ?_
            refine lv_land hx hb d_Md_reckons_260 ?_
            refine lv_topl (fun x_32 ex_32 => ?_)
            have h := h x_32 ex_32
            refine zz_Wv (As := [.int a4, .int (0 : Int32), .long x_32]) (rest := []) (wc := wD qd qmemory qr qcounts cI cB ms u_30.1 u_30.2.1 u_30.2.2.1 u_30.2.2.2.1 u_30.2.2.2.2.1 u_30.2.2.2.2.2) (wr := []) X hK hP hD hS hA (c_Md_put_IZJV l D cI cB qd qmemory qr qcounts ms u_30.1 u_30.2.1 u_30.2.2.1 u_30.2.2.2.1 u_30.2.2.2.2.1 u_30.2.2.2.2.2 a4 (0 : Int32) x_32 _ h _) ⟨rfl, rfl⟩ m_Md_put_IZJV k_Md_250 ⟨Nat.le_of_ble_eq_true rfl, Nat.le_of_ble_eq_true rfl⟩ [0, 1, 2, 3] [] rfl rfl (by decide) (by decide) (by decide) 6 0 rfl rfl rfl rfl hl.1 rfl (Nat.le_of_ble_eq_true rfl) d_Md_reckons_261 hf0 (fun u_33 H locs h hP hD hS => ?_)
            have hP : va_P D vwCl (wD qd qmemory qr qcounts cI cB ms u_33.1 u_33.2.1 u_33.2.2.1 u_33.2.2.2.1 u_33.2.2.2.2.1 u_33.2.2.2.2.2) H := hP.sub [0, 1, 2, 3] rfl
            have hD : va_D A (wD qd qmemory qr qcounts cI cB ms u_33.1 u_33.2.1 u_33.2.2.1 u_33.2.2.2.1 u_33.2.2.2.2.1 u_33.2.2.2.2.2) := hD.sub [0, 1, 2, 3] (by decide) rfl
            refine lv_goto (tgt := 404) hx hb d_Md_reckons_264 (by decide) ?_
            exact W.vret hx hb hr (fun t ht hW => ⟨⟨(u_33.1, u_33.2.1, u_33.2.2.1, u_33.2.2.2.1, u_33.2.2.2.2.1, u_33.2.2.2.2.2), rfl, h, by rw [ht]; exact hP, hD⟩, hS.F ht⟩) hS.2.2 d_Md_reckons_404
        · skip
          have h := h.2 c_13
          refine lv_aload_n hx hb d_Md_reckons_214 rfl (lv_at hl 1 rfl) ?_
          refine lv_iload hx hb d_Md_reckons_215 (lv_at hl 6 rfl) ?_
          refine lv_iload_n hx hb d_Md_reckons_217 rfl (lv_at hl 3 rfl) ?_
          refine lv_aload_n hx hb d_Md_reckons_218 rfl (lv_at hl 1 rfl) ?_
          refine lv_iload_n hx hb d_Md_reckons_219 rfl (lv_at hl 2 rfl) ?_
          refine lv_lload hx hb d_Md_reckons_220 (lv_at hl 0 rfl) ?_
          refine lv_aload_n hx hb d_Md_reckons_222 rfl (lv_at hl 1 rfl) ?_
          refine lv_iload hx hb d_Md_reckons_223 (lv_at hl 5 rfl) ?_
          refine lv_iload_n hx hb d_Md_reckons_225 rfl (lv_at hl 3 rfl) ?_
          refine zz_Rl (As := [.int a3, .int a1]) (rest := [.long r_11, .int a0, .ref qd, .int a1, .int a4, .ref qd]) (wc := wD qd qmemory qr qcounts cI cB ms z166dd z166Lwhole z166Lwhole2 z166bm z166rr z166kt) X hK hP (c_Md_bitsOf l D cI cB qd qmemory qr qcounts ms z166dd z166Lwhole z166Lwhole2 z166bm z166rr z166kt a3 a1 _ h) ⟨rfl, rfl⟩ m_Md_bitsOf k_Md_258 ⟨Nat.le_of_ble_eq_true rfl, Nat.le_of_ble_eq_true rfl⟩ [0, 1, 2, 3] rfl 6 0 rfl rfl rfl rfl hl.1 rfl (Nat.le_of_ble_eq_true rfl) d_Md_reckons_226 hf0 (fun r_35 h => ?_)
          refine lv_iload_n hx hb d_Md_reckons_229 rfl (lv_at hl 3 rfl) ?_
          refine zz_Wl (As := [.int a0, .long r_11, .long r_35, .int a1]) (rest := [.int a1, .int a4, .ref qd]) (wc := wD qd qmemory qr qcounts cI cB ms z166dd z166Lwhole z166Lwhole2 z166bm z166rr z166kt) (wr := []) X hK hP hD hS hA (c_Md_two l D cI cB qd qmemory qr qcounts ms z166dd z166Lwhole z166Lwhole2 z166bm z166rr z166kt a0 r_11 r_35 a1 _ h _) ⟨rfl, rfl⟩ m_Md_two k_Md_266 ⟨Nat.le_of_ble_eq_true rfl, Nat.le_of_ble_eq_true rfl⟩ [0, 1, 2, 3] [] rfl rfl (by decide) (by decide) (by decide) 6 0 rfl rfl rfl rfl hl.1 rfl (Nat.le_of_ble_eq_true rfl) d_Md_reckons_230 hf0 (fun r_37 u_36 H locs h hP hD hS => ?_)
          have hP : va_P D vwCl (wD qd qmemory qr qcounts cI cB ms u_36.1 u_36.2.1 u_36.2.2.1 u_36.2.2.2.1 u_36.2.2.2.2.1 u_36.2.2.2.2.2) H := hP.sub [0, 1, 2, 3] rfl
          have hD : va_D A (wD qd qmemory qr qcounts cI cB ms u_36.1 u_36.2.1 u_36.2.2.1 u_36.2.2.2.1 u_36.2.2.2.2.1 u_36.2.2.2.2.2) := hD.sub [0, 1, 2, 3] (by decide) rfl
          refine zz_Wv (As := [.int a4, .int a1, .long r_37]) (rest := []) (wc := wD qd qmemory qr qcounts cI cB ms u_36.1 u_36.2.1 u_36.2.2.1 u_36.2.2.2.1 u_36.2.2.2.2.1 u_36.2.2.2.2.2) (wr := []) X hK hP hD hS hA (c_Md_put_IZJV l D cI cB qd qmemory qr qcounts ms u_36.1 u_36.2.1 u_36.2.2.1 u_36.2.2.2.1 u_36.2.2.2.2.1 u_36.2.2.2.2.2 a4 a1 r_37 _ h _) ⟨rfl, rfl⟩ m_Md_put_IZJV k_Md_250 ⟨Nat.le_of_ble_eq_true rfl, Nat.le_of_ble_eq_true rfl⟩ [0, 1, 2, 3] [] rfl rfl (by decide) (by decide) (by decide) 6 0 rfl rfl rfl rfl hl.1 rfl (Nat.le_of_ble_eq_true rfl) d_Md_reckons_233 hf0 (fun u_38 H locs h hP hD hS => ?_)
          have hP : va_P D vwCl (wD qd qmemory qr qcounts cI cB ms u_38.1 u_38.2.1 u_38.2.2.1 u_38.2.2.2.1 u_38.2.2.2.2.1 u_38.2.2.2.2.2) H := hP.sub [0, 1, 2, 3] rfl
          have hD : va_D A (wD qd qmemory qr qcounts cI cB ms u_38.1 u_38.2.1 u_38.2.2.1 u_38.2.2.2.1 u_38.2.2.2.2.1 u_38.2.2.2.2.2) := hD.sub [0, 1, 2, 3] (by decide) rfl
          refine lv_goto (tgt := 404) hx hb d_Md_reckons_236 (by decide) ?_
          exact W.vret hx hb hr (fun t ht hW => ⟨⟨(u_38.1, u_38.2.1, u_38.2.2.1, u_38.2.2.2.1, u_38.2.2.2.2.1, u_38.2.2.2.2.2), rfl, h, by rw [ht]; exact hP, hD⟩, hS.F ht⟩) hS.2.2 d_Md_reckons_404
      · skip
        have h := h.2 c_12
        refine lv_aload_n hx hb d_Md_reckons_188 rfl (lv_at hl 1 rfl) ?_
        refine lv_iload_n hx hb d_Md_reckons_189 rfl (lv_at hl 2 rfl) ?_
        refine lv_bipush (v := 7) hx hb d_Md_reckons_190 (by decide) ?_
        refine lv_iand hx hb d_Md_reckons_192 ?_
        refine lv_lload hx hb d_Md_reckons_193 (lv_at hl 0 rfl) ?_
        refine lv_aload_n hx hb d_Md_reckons_195 rfl (lv_at hl 1 rfl) ?_
        refine lv_iload hx hb d_Md_reckons_196 (lv_at hl 5 rfl) ?_
        refine lv_iload_n hx hb d_Md_reckons_198 rfl (lv_at hl 3 rfl) ?_
        refine zz_Rl (As := [.int a3, .int a1]) (rest := [.long r_11, .int (a0 &&& (7 : Int32)), .ref qd]) (wc := wD qd qmemory qr qcounts cI cB ms z166dd z166Lwhole z166Lwhole2 z166bm z166rr z166kt) X hK hP (c_Md_bitsOf l D cI cB qd qmemory qr qcounts ms z166dd z166Lwhole z166Lwhole2 z166bm z166rr z166kt a3 a1 _ h) ⟨rfl, rfl⟩ m_Md_bitsOf k_Md_258 ⟨Nat.le_of_ble_eq_true rfl, Nat.le_of_ble_eq_true rfl⟩ [0, 1, 2, 3] rfl 6 0 rfl rfl rfl rfl hl.1 rfl (Nat.le_of_ble_eq_true rfl) d_Md_reckons_199 hf0 (fun r_40 h => ?_)
        refine lv_iload_n hx hb d_Md_reckons_202 rfl (lv_at hl 3 rfl) ?_
        refine zz_Wv (As := [.int (a0 &&& (7 : Int32)), .long r_11, .long r_40, .int a1]) (rest := []) (wc := wD qd qmemory qr qcounts cI cB ms z166dd z166Lwhole z166Lwhole2 z166bm z166rr z166kt) (wr := []) X hK hP hD hS hA (c_Md_compares l D cI cB qd qmemory qr qcounts ms z166dd z166Lwhole z166Lwhole2 z166bm z166rr z166kt (a0 &&& (7 : Int32)) r_11 r_40 a1 _ h _) ⟨rfl, rfl⟩ m_Md_compares k_Md_262 ⟨Nat.le_of_ble_eq_true rfl, Nat.le_of_ble_eq_true rfl⟩ [0, 1, 2, 3] [] rfl rfl (by decide) (by decide) (by decide) 6 0 rfl rfl rfl rfl hl.1 rfl (Nat.le_of_ble_eq_true rfl) d_Md_reckons_203 hf0 (fun u_41 H locs h hP hD hS => ?_)
        have hP : va_P D vwCl (wD qd qmemory qr qcounts cI cB ms u_41.1 u_41.2.1 u_41.2.2.1 u_41.2.2.2.1 u_41.2.2.2.2.1 u_41.2.2.2.2.2) H := hP.sub [0, 1, 2, 3] rfl
        have hD : va_D A (wD qd qmemory qr qcounts cI cB ms u_41.1 u_41.2.1 u_41.2.2.1 u_41.2.2.2.1 u_41.2.2.2.2.1 u_41.2.2.2.2.2) := hD.sub [0, 1, 2, 3] (by decide) rfl
        refine lv_goto (tgt := 404) hx hb d_Md_reckons_206 (by decide) ?_
        exact W.vret hx hb hr (fun t ht hW => ⟨⟨(u_41.1, u_41.2.1, u_41.2.2.1, u_41.2.2.2.1, u_41.2.2.2.2.1, u_41.2.2.2.2.2), rfl, h, by rw [ht]; exact hP, hD⟩, hS.F ht⟩) hS.2.2 d_Md_reckons_404
    · skip
      have h := h.2 c_10
      exact W.vret hx hb hr (fun t ht hW => ⟨⟨(z166dd, z166Lwhole, z166Lwhole2, z166bm, z166rr, z166kt), rfl, h, by rw [ht]; exact hP, hD⟩, hS.F ht⟩) hS.2.2 d_Md_reckons_173
  have jn_153 : ∀ (j153_7 : Int32) (z153dd : Nat → Int32) (z153Lwhole : Int64) (z153Lwhole2 : Int64) (z153bm : Nat → Int32) (z153rr : Nat → Int32) (z153kt : Nat → Int32), wj_Md_reckons_153 ms a0 a1 a2 a3 a4 P j153_7 z153dd z153Lwhole z153Lwhole2 z153bm z153rr z153kt → ∀ (H : Heap) (locs : List Loc), va_P D vwCl (wD qd qmemory qr qcounts cI cB ms z153dd z153Lwhole z153Lwhole2 z153bm z153rr z153kt) H → va_D A (wD qd qmemory qr qcounts cI cB ms z153dd z153Lwhole z153Lwhole2 z153bm z153rr z153kt) → va_S A s.heap H locs → ∀ ls : Array Slot, lv_has ls 11 [(0, .ref qd), (1, .int a0), (2, .int a1), (3, .int a2), (4, .int a3), (5, .int a4), (7, .int j153_7)] → W p l e (headSpec (zz_ws y_Md_reckons b_Md_reckons 11 none) rm_Md_reckons).room s m ([.ref qd, .int a0, .int a1, .int a2, .int a3, .int a4] : List Value).toArray below meth c H locs 0 0 (MQ below (va_Qv P (zz_qw D (fun u => wD qd qmemory qr qcounts cI cB ms u.1 u.2.1 u.2.2.1 u.2.2.2.1 u.2.2.2.2.1 u.2.2.2.2.2) A) A) ([.ref qd, .int a0, .int a1, .int a2, .int a3, .int a4] : List Value).toArray s 0 0 A) (F0 m 153 ls []) := by
    intro j153_7 z153dd z153Lwhole z153Lwhole2 z153bm z153rr z153kt h H locs hP hD hS ls hl
    unfold wj_Md_reckons_153 at h
    refine lv_iload_n hx hb d_Md_reckons_153 rfl (lv_at hl 1 rfl) ?_
    refine lv_bipush (v := 33) hx hb d_Md_reckons_154 (by decide) ?_
    refine lv_icmp_ne (tgt := 166) hx hb d_Md_reckons_156 (by decide) (fun c_43 => ?_) (fun c_43 => ?_)
    · skip
      have h := h.2 c_43
      exact jn_166 j153_7 z153dd z153Lwhole z153Lwhole2 z153bm z153rr z153kt h _ _ hP hD hS ls (lv_sub hl [0, 1, 2, 3, 4, 5, 6] rfl)
    · skip
      have h := h.1 c_43
      refine lv_aload_n hx hb d_Md_reckons_159 rfl (lv_at hl 0 rfl) ?_
      refine lv_iconst (v := 1) hx hb d_Md_reckons_160 (by decide) ?_
      refine lv_iload hx hb d_Md_reckons_161 (lv_at hl 5 rfl) ?_
      refine zz_Wv (As := [.int (1 : Int32), .int a4]) (rest := []) (wc := wD qd qmemory qr qcounts cI cB ms z153dd z153Lwhole z153Lwhole2 z153bm z153rr z153kt) (wr := []) X hK hP hD hS hA (c_Md_even l D cI cB qd qmemory qr qcounts ms z153dd z153Lwhole z153Lwhole2 z153bm z153rr z153kt (1 : Int32) a4 _ h _) ⟨rfl, rfl⟩ m_Md_even k_Md_254 ⟨Nat.le_of_ble_eq_true rfl, Nat.le_of_ble_eq_true rfl⟩ [0, 1, 2, 3] [] rfl rfl (by decide) (by decide) (by decide) 6 0 rfl rfl rfl rfl hl.1 rfl (Nat.le_of_ble_eq_true rfl) d_Md_reckons_163 hf0 (fun u_44 H locs h hP hD hS => ?_)
      have hP : va_P D vwCl (wD qd qmemory qr qcounts cI cB ms u_44.1 u_44.2.1 u_44.2.2.1 u_44.2.2.2.1 u_44.2.2.2.2.1 u_44.2.2.2.2.2) H := hP.sub [0, 1, 2, 3] rfl
      have hD : va_D A (wD qd qmemory qr qcounts cI cB ms u_44.1 u_44.2.1 u_44.2.2.1 u_44.2.2.2.1 u_44.2.2.2.2.1 u_44.2.2.2.2.2) := hD.sub [0, 1, 2, 3] (by decide) rfl
      exact jn_166 j153_7 u_44.1 u_44.2.1 u_44.2.2.1 u_44.2.2.2.1 u_44.2.2.2.2.1 u_44.2.2.2.2.2 h _ _ hP hD hS ls (lv_sub hl [0, 1, 2, 3, 4, 5, 6] rfl)
  have jn_146 : ∀ (j146_7 : Int32) (z146dd : Nat → Int32) (z146Lwhole : Int64) (z146Lwhole2 : Int64) (z146bm : Nat → Int32) (z146rr : Nat → Int32) (z146kt : Nat → Int32), wj_Md_reckons_146 ms a0 a1 a2 a3 a4 P j146_7 z146dd z146Lwhole z146Lwhole2 z146bm z146rr z146kt → ∀ (H : Heap) (locs : List Loc), va_P D vwCl (wD qd qmemory qr qcounts cI cB ms z146dd z146Lwhole z146Lwhole2 z146bm z146rr z146kt) H → va_D A (wD qd qmemory qr qcounts cI cB ms z146dd z146Lwhole z146Lwhole2 z146bm z146rr z146kt) → va_S A s.heap H locs → ∀ ls : Array Slot, lv_has ls 11 [(0, .ref qd), (1, .int a0), (2, .int a1), (3, .int a2), (4, .int a3), (5, .int a4), (7, .int j146_7)] → W p l e (headSpec (zz_ws y_Md_reckons b_Md_reckons 11 none) rm_Md_reckons).room s m ([.ref qd, .int a0, .int a1, .int a2, .int a3, .int a4] : List Value).toArray below meth c H locs 0 0 (MQ below (va_Qv P (zz_qw D (fun u => wD qd qmemory qr qcounts cI cB ms u.1 u.2.1 u.2.2.1 u.2.2.2.1 u.2.2.2.2.1 u.2.2.2.2.2) A) A) ([.ref qd, .int a0, .int a1, .int a2, .int a3, .int a4] : List Value).toArray s 0 0 A) (F0 m 146 ls []) := by
    intro j146_7 z146dd z146Lwhole z146Lwhole2 z146bm z146rr z146kt h H locs hP hD hS ls hl
    unfold wj_Md_reckons_146 at h
    refine lv_aload_n hx hb d_Md_reckons_146 rfl (lv_at hl 0 rfl) ?_
    refine lv_iload_n hx hb d_Md_reckons_147 rfl (lv_at hl 2 rfl) ?_
    refine lv_iload hx hb d_Md_reckons_148 (lv_at hl 5 rfl) ?_
    refine zz_Wv (As := [.int a1, .int a4]) (rest := []) (wc := wD qd qmemory qr qcounts cI cB ms z146dd z146Lwhole z146Lwhole2 z146bm z146rr z146kt) (wr := []) X hK hP hD hS hA (c_Md_even l D cI cB qd qmemory qr qcounts ms z146dd z146Lwhole z146Lwhole2 z146bm z146rr z146kt a1 a4 _ h _) ⟨rfl, rfl⟩ m_Md_even k_Md_254 ⟨Nat.le_of_ble_eq_true rfl, Nat.le_of_ble_eq_true rfl⟩ [0, 1, 2, 3] [] rfl rfl (by decide) (by decide) (by decide) 6 0 rfl rfl rfl rfl hl.1 rfl (Nat.le_of_ble_eq_true rfl) d_Md_reckons_150 hf0 (fun u_46 H locs h hP hD hS => ?_)
    have hP : va_P D vwCl (wD qd qmemory qr qcounts cI cB ms u_46.1 u_46.2.1 u_46.2.2.1 u_46.2.2.2.1 u_46.2.2.2.2.1 u_46.2.2.2.2.2) H := hP.sub [0, 1, 2, 3] rfl
    have hD : va_D A (wD qd qmemory qr qcounts cI cB ms u_46.1 u_46.2.1 u_46.2.2.1 u_46.2.2.2.1 u_46.2.2.2.2.1 u_46.2.2.2.2.2) := hD.sub [0, 1, 2, 3] (by decide) rfl
    exact jn_153 j146_7 u_46.1 u_46.2.1 u_46.2.2.1 u_46.2.2.2.1 u_46.2.2.2.2.1 u_46.2.2.2.2.2 h _ _ hP hD hS ls (lv_sub hl [0, 1, 2, 3, 4, 5, 6] rfl)
  have jn_128 : ∀ (j128_7 : Int32) (z128dd : Nat → Int32) (z128Lwhole : Int64) (z128Lwhole2 : Int64) (z128bm : Nat → Int32) (z128rr : Nat → Int32) (z128kt : Nat → Int32), wj_Md_reckons_128 ms a0 a1 a2 a3 a4 P j128_7 z128dd z128Lwhole z128Lwhole2 z128bm z128rr z128kt → ∀ (H : Heap) (locs : List Loc), va_P D vwCl (wD qd qmemory qr qcounts cI cB ms z128dd z128Lwhole z128Lwhole2 z128bm z128rr z128kt) H → va_D A (wD qd qmemory qr qcounts cI cB ms z128dd z128Lwhole z128Lwhole2 z128bm z128rr z128kt) → va_S A s.heap H locs → ∀ ls : Array Slot, lv_has ls 11 [(0, .ref qd), (1, .int a0), (2, .int a1), (3, .int a2), (4, .int a3), (5, .int a4), (7, .int j128_7)] → W p l e (headSpec (zz_ws y_Md_reckons b_Md_reckons 11 none) rm_Md_reckons).room s m ([.ref qd, .int a0, .int a1, .int a2, .int a3, .int a4] : List Value).toArray below meth c H locs 0 0 (MQ below (va_Qv P (zz_qw D (fun u => wD qd qmemory qr qcounts cI cB ms u.1 u.2.1 u.2.2.1 u.2.2.2.1 u.2.2.2.2.1 u.2.2.2.2.2) A) A) ([.ref qd, .int a0, .int a1, .int a2, .int a3, .int a4] : List Value).toArray s 0 0 A) (F0 m 128 ls []) := by
    intro j128_7 z128dd z128Lwhole z128Lwhole2 z128bm z128rr z128kt h H locs hP hD hS ls hl
    unfold wj_Md_reckons_128 at h
    refine lv_iload_n hx hb d_Md_reckons_128 rfl (lv_at hl 1 rfl) ?_
    refine lv_bipush (v := 8) hx hb d_Md_reckons_129 (by decide) ?_
    refine lv_icmp_lt (tgt := 146) hx hb d_Md_reckons_131 (by decide) (fun c_48 => ?_) (fun c_48 => ?_)
    · skip
      have h := h.1 c_48
      exact jn_146 j128_7 z128dd z128Lwhole z128Lwhole2 z128bm z128rr z128kt h _ _ hP hD hS ls (lv_sub hl [0, 1, 2, 3, 4, 5, 6] rfl)
    · skip
      have h := h.2 c_48
      refine lv_iload_n hx hb d_Md_reckons_134 rfl (lv_at hl 1 rfl) ?_
      refine lv_bipush (v := 17) hx hb d_Md_reckons_135 (by decide) ?_
      refine lv_icmp_lt (tgt := 153) hx hb d_Md_reckons_137 (by decide) (fun c_49 => ?_) (fun c_49 => ?_)
      · skip
        have h := h.1 c_49
        exact jn_153 j128_7 z128dd z128Lwhole z128Lwhole2 z128bm z128rr z128kt h _ _ hP hD hS ls (lv_sub hl [0, 1, 2, 3, 4, 5, 6] rfl)
      · skip
        have h := h.2 c_49
        refine lv_iload_n hx hb d_Md_reckons_140 rfl (lv_at hl 1 rfl) ?_
        refine lv_bipush (v := 20) hx hb d_Md_reckons_141 (by decide) ?_
        refine lv_icmp_ge (tgt := 153) hx hb d_Md_reckons_143 (by decide) (fun c_50 => ?_) (fun c_50 => ?_)
        · skip
          have h := h.1 c_50
          exact jn_153 j128_7 z128dd z128Lwhole z128Lwhole2 z128bm z128rr z128kt h _ _ hP hD hS ls (lv_sub hl [0, 1, 2, 3, 4, 5, 6] rfl)
        · skip
          have h := h.2 c_50
          exact jn_146 j128_7 z128dd z128Lwhole z128Lwhole2 z128bm z128rr z128kt h _ _ hP hD hS ls (lv_sub hl [0, 1, 2, 3, 4, 5, 6] rfl)
  have jn_97 : ∀ (j97_6 : Int32) (j97_7 : Int32) (s97_0 : Int32) (z97dd : Nat → Int32) (z97Lwhole : Int64) (z97Lwhole2 : Int64) (z97bm : Nat → Int32) (z97rr : Nat → Int32) (z97kt : Nat → Int32), wj_Md_reckons_97 ms a0 a1 a2 a3 a4 P j97_6 j97_7 s97_0 z97dd z97Lwhole z97Lwhole2 z97bm z97rr z97kt → ∀ (H : Heap) (locs : List Loc), va_P D vwCl (wD qd qmemory qr qcounts cI cB ms z97dd z97Lwhole z97Lwhole2 z97bm z97rr z97kt) H → va_D A (wD qd qmemory qr qcounts cI cB ms z97dd z97Lwhole z97Lwhole2 z97bm z97rr z97kt) → va_S A s.heap H locs → ∀ ls : Array Slot, lv_has ls 11 [(0, .ref qd), (1, .int a0), (2, .int a1), (3, .int a2), (4, .int a3), (5, .int a4), (6, .int j97_6), (7, .int j97_7)] → W p l e (headSpec (zz_ws y_Md_reckons b_Md_reckons 11 none) rm_Md_reckons).room s m ([.ref qd, .int a0, .int a1, .int a2, .int a3, .int a4] : List Value).toArray below meth c H locs 0 0 (MQ below (va_Qv P (zz_qw D (fun u => wD qd qmemory qr qcounts cI cB ms u.1 u.2.1 u.2.2.1 u.2.2.2.1 u.2.2.2.2.1 u.2.2.2.2.2) A) A) ([.ref qd, .int a0, .int a1, .int a2, .int a3, .int a4] : List Value).toArray s 0 0 A) (F0 m 97 ls [.int s97_0]) := by
    intro j97_6 j97_7 s97_0 z97dd z97Lwhole z97Lwhole2 z97bm z97rr z97kt h H locs hP hD hS ls hl
    unfold wj_Md_reckons_97 at h
    refine lv_istore (lv' := [(8, .int s97_0), (0, .ref qd), (1, .int a0), (2, .int a1), (3, .int a2), (4, .int a3), (5, .int a4), (6, .int j97_6), (7, .int j97_7)]) hx hb d_Md_reckons_97 hl (by decide) rfl (fun ls hl => ?_)
    refine lv_iload hx hb d_Md_reckons_99 (lv_at hl 0 rfl) ?_
    refine lv_if_ne (tgt := 110) hx hb d_Md_reckons_101 (by decide) (fun c_51 => ?_) (fun c_51 => ?_)
    · skip
      have h := h.2 c_51
      refine lv_aload_n hx hb d_Md_reckons_110 rfl (lv_at hl 1 rfl) ?_
      refine lv_iload_n hx hb d_Md_reckons_111 rfl (lv_at hl 3 rfl) ?_
      refine lv_iload_n hx hb d_Md_reckons_112 rfl (lv_at hl 4 rfl) ?_
      refine zz_Wv (As := [.int a1, .int a2]) (rest := []) (wc := wD qd qmemory qr qcounts cI cB ms z97dd z97Lwhole z97Lwhole2 z97bm z97rr z97kt) (wr := []) X hK hP hD hS hA (c_Md_even l D cI cB qd qmemory qr qcounts ms z97dd z97Lwhole z97Lwhole2 z97bm z97rr z97kt a1 a2 _ h _) ⟨rfl, rfl⟩ m_Md_even k_Md_254 ⟨Nat.le_of_ble_eq_true rfl, Nat.le_of_ble_eq_true rfl⟩ [0, 1, 2, 3] [] rfl rfl (by decide) (by decide) (by decide) 6 0 rfl rfl rfl rfl hl.1 rfl (Nat.le_of_ble_eq_true rfl) d_Md_reckons_113 hf0 (fun u_52 H locs h hP hD hS => ?_)
      have hP : va_P D vwCl (wD qd qmemory qr qcounts cI cB ms u_52.1 u_52.2.1 u_52.2.2.1 u_52.2.2.2.1 u_52.2.2.2.2.1 u_52.2.2.2.2.2) H := hP.sub [0, 1, 2, 3] rfl
      have hD : va_D A (wD qd qmemory qr qcounts cI cB ms u_52.1 u_52.2.1 u_52.2.2.1 u_52.2.2.2.1 u_52.2.2.2.2.1 u_52.2.2.2.2.2) := hD.sub [0, 1, 2, 3] (by decide) rfl
      refine lv_iload hx hb d_Md_reckons_116 (lv_at hl 7 rfl) ?_
      refine lv_if_eq (tgt := 128) hx hb d_Md_reckons_118 (by decide) (fun c_54 => ?_) (fun c_54 => ?_)
      · skip
        have h := h.1 c_54
        exact jn_128 j97_7 u_52.1 u_52.2.1 u_52.2.2.1 u_52.2.2.2.1 u_52.2.2.2.2.1 u_52.2.2.2.2.2 h _ _ hP hD hS ls (lv_sub hl [1, 2, 3, 4, 5, 6, 8] rfl)
      · skip
        have h := h.2 c_54
        refine lv_aload_n hx hb d_Md_reckons_121 rfl (lv_at hl 1 rfl) ?_
        refine lv_iload_n hx hb d_Md_reckons_122 rfl (lv_at hl 3 rfl) ?_
        refine lv_iload hx hb d_Md_reckons_123 (lv_at hl 5 rfl) ?_
        refine zz_Wv (As := [.int a1, .int a3]) (rest := []) (wc := wD qd qmemory qr qcounts cI cB ms u_52.1 u_52.2.1 u_52.2.2.1 u_52.2.2.2.1 u_52.2.2.2.2.1 u_52.2.2.2.2.2) (wr := []) X hK hP hD hS hA (c_Md_even l D cI cB qd qmemory qr qcounts ms u_52.1 u_52.2.1 u_52.2.2.1 u_52.2.2.2.1 u_52.2.2.2.2.1 u_52.2.2.2.2.2 a1 a3 _ h _) ⟨rfl, rfl⟩ m_Md_even k_Md_254 ⟨Nat.le_of_ble_eq_true rfl, Nat.le_of_ble_eq_true rfl⟩ [0, 1, 2, 3] [] rfl rfl (by decide) (by decide) (by decide) 6 0 rfl rfl rfl rfl hl.1 rfl (Nat.le_of_ble_eq_true rfl) d_Md_reckons_125 hf0 (fun u_55 H locs h hP hD hS => ?_)
        have hP : va_P D vwCl (wD qd qmemory qr qcounts cI cB ms u_55.1 u_55.2.1 u_55.2.2.1 u_55.2.2.2.1 u_55.2.2.2.2.1 u_55.2.2.2.2.2) H := hP.sub [0, 1, 2, 3] rfl
        have hD : va_D A (wD qd qmemory qr qcounts cI cB ms u_55.1 u_55.2.1 u_55.2.2.1 u_55.2.2.2.1 u_55.2.2.2.2.1 u_55.2.2.2.2.2) := hD.sub [0, 1, 2, 3] (by decide) rfl
        exact jn_128 j97_7 u_55.1 u_55.2.1 u_55.2.2.1 u_55.2.2.2.1 u_55.2.2.2.2.1 u_55.2.2.2.2.2 h _ _ hP hD hS ls (lv_sub hl [1, 2, 3, 4, 5, 6, 8] rfl)
    · skip
      have h := h.1 c_51
      refine lv_aload_n hx hb d_Md_reckons_104 rfl (lv_at hl 1 rfl) ?_
      refine lv_iconst (v := 3) hx hb d_Md_reckons_105 (by decide) ?_
      refine zz_Wv (As := [.int (3 : Int32)]) (rest := []) (wc := wD qd qmemory qr qcounts cI cB ms z97dd z97Lwhole z97Lwhole2 z97bm z97rr z97kt) (wr := []) X hK hP hD hS hA (c_Md_ends l D cI cB qd qmemory qr qcounts ms z97dd z97Lwhole z97Lwhole2 z97bm z97rr z97kt (3 : Int32) _ h _) ⟨rfl, rfl⟩ m_Md_ends k_Md_116 ⟨Nat.le_of_ble_eq_true rfl, Nat.le_of_ble_eq_true rfl⟩ [0, 1, 2, 3] [] rfl rfl (by decide) (by decide) (by decide) 6 0 rfl rfl rfl rfl hl.1 rfl (Nat.le_of_ble_eq_true rfl) d_Md_reckons_106 hf0 (fun u_57 H locs h hP hD hS => ?_)
      have hP : va_P D vwCl (wD qd qmemory qr qcounts cI cB ms u_57.1 u_57.2.1 u_57.2.2.1 u_57.2.2.2.1 u_57.2.2.2.2.1 u_57.2.2.2.2.2) H := hP.sub [0, 1, 2, 3] rfl
      have hD : va_D A (wD qd qmemory qr qcounts cI cB ms u_57.1 u_57.2.1 u_57.2.2.1 u_57.2.2.2.1 u_57.2.2.2.2.1 u_57.2.2.2.2.2) := hD.sub [0, 1, 2, 3] (by decide) rfl
      exact W.vret hx hb hr (fun t ht hW => ⟨⟨(u_57.1, u_57.2.1, u_57.2.2.1, u_57.2.2.2.1, u_57.2.2.2.2.1, u_57.2.2.2.2.2), rfl, h, by rw [ht]; exact hP, hD⟩, hS.F ht⟩) hS.2.2 d_Md_reckons_109
  have jn_92 : ∀ (j92_6 : Int32) (j92_7 : Int32) (z92dd : Nat → Int32) (z92Lwhole : Int64) (z92Lwhole2 : Int64) (z92bm : Nat → Int32) (z92rr : Nat → Int32) (z92kt : Nat → Int32), wj_Md_reckons_92 ms a0 a1 a2 a3 a4 P j92_6 j92_7 z92dd z92Lwhole z92Lwhole2 z92bm z92rr z92kt → ∀ (H : Heap) (locs : List Loc), va_P D vwCl (wD qd qmemory qr qcounts cI cB ms z92dd z92Lwhole z92Lwhole2 z92bm z92rr z92kt) H → va_D A (wD qd qmemory qr qcounts cI cB ms z92dd z92Lwhole z92Lwhole2 z92bm z92rr z92kt) → va_S A s.heap H locs → ∀ ls : Array Slot, lv_has ls 11 [(0, .ref qd), (1, .int a0), (2, .int a1), (3, .int a2), (4, .int a3), (5, .int a4), (6, .int j92_6), (7, .int j92_7)] → W p l e (headSpec (zz_ws y_Md_reckons b_Md_reckons 11 none) rm_Md_reckons).room s m ([.ref qd, .int a0, .int a1, .int a2, .int a3, .int a4] : List Value).toArray below meth c H locs 0 0 (MQ below (va_Qv P (zz_qw D (fun u => wD qd qmemory qr qcounts cI cB ms u.1 u.2.1 u.2.2.1 u.2.2.2.1 u.2.2.2.2.1 u.2.2.2.2.2) A) A) ([.ref qd, .int a0, .int a1, .int a2, .int a3, .int a4] : List Value).toArray s 0 0 A) (F0 m 92 ls []) := by
    intro j92_6 j92_7 z92dd z92Lwhole z92Lwhole2 z92bm z92rr z92kt h H locs hP hD hS ls hl
    unfold wj_Md_reckons_92 at h
    refine lv_iconst (v := 1) hx hb d_Md_reckons_92 (by decide) ?_
    refine lv_goto (tgt := 97) hx hb d_Md_reckons_93 (by decide) ?_
    exact jn_97 j92_6 j92_7 (1 : Int32) z92dd z92Lwhole z92Lwhole2 z92bm z92rr z92kt h _ _ hP hD hS ls (lv_sub hl [0, 1, 2, 3, 4, 5, 6, 7] rfl)
  have jn_86 : ∀ (j86_6 : Int32) (j86_7 : Int32) (z86dd : Nat → Int32) (z86Lwhole : Int64) (z86Lwhole2 : Int64) (z86bm : Nat → Int32) (z86rr : Nat → Int32) (z86kt : Nat → Int32), wj_Md_reckons_86 ms a0 a1 a2 a3 a4 P j86_6 j86_7 z86dd z86Lwhole z86Lwhole2 z86bm z86rr z86kt → ∀ (H : Heap) (locs : List Loc), va_P D vwCl (wD qd qmemory qr qcounts cI cB ms z86dd z86Lwhole z86Lwhole2 z86bm z86rr z86kt) H → va_D A (wD qd qmemory qr qcounts cI cB ms z86dd z86Lwhole z86Lwhole2 z86bm z86rr z86kt) → va_S A s.heap H locs → ∀ ls : Array Slot, lv_has ls 11 [(0, .ref qd), (1, .int a0), (2, .int a1), (3, .int a2), (4, .int a3), (5, .int a4), (6, .int j86_6), (7, .int j86_7)] → W p l e (headSpec (zz_ws y_Md_reckons b_Md_reckons 11 none) rm_Md_reckons).room s m ([.ref qd, .int a0, .int a1, .int a2, .int a3, .int a4] : List Value).toArray below meth c H locs 0 0 (MQ below (va_Qv P (zz_qw D (fun u => wD qd qmemory qr qcounts cI cB ms u.1 u.2.1 u.2.2.1 u.2.2.2.1 u.2.2.2.2.1 u.2.2.2.2.2) A) A) ([.ref qd, .int a0, .int a1, .int a2, .int a3, .int a4] : List Value).toArray s 0 0 A) (F0 m 86 ls []) := by
    intro j86_6 j86_7 z86dd z86Lwhole z86Lwhole2 z86bm z86rr z86kt h H locs hP hD hS ls hl
    unfold wj_Md_reckons_86 at h
    refine lv_iload_n hx hb d_Md_reckons_86 rfl (lv_at hl 1 rfl) ?_
    refine lv_bipush (v := 48) hx hb d_Md_reckons_87 (by decide) ?_
    refine lv_icmp_lt (tgt := 96) hx hb d_Md_reckons_89 (by decide) (fun c_59 => ?_) (fun c_59 => ?_)
    · skip
      have h := h.1 c_59
      refine lv_iconst (v := 0) hx hb d_Md_reckons_96 (by decide) ?_
      exact jn_97 j86_6 j86_7 (0 : Int32) z86dd z86Lwhole z86Lwhole2 z86bm z86rr z86kt h _ _ hP hD hS ls (lv_sub hl [0, 1, 2, 3, 4, 5, 6, 7] rfl)
    · skip
      have h := h.2 c_59
      exact jn_92 j86_6 j86_7 z86dd z86Lwhole z86Lwhole2 z86bm z86rr z86kt h _ _ hP hD hS ls (lv_sub hl [0, 1, 2, 3, 4, 5, 6, 7] rfl)
  have jn_76 : ∀ (j76_6 : Int32) (j76_7 : Int32) (z76dd : Nat → Int32) (z76Lwhole : Int64) (z76Lwhole2 : Int64) (z76bm : Nat → Int32) (z76rr : Nat → Int32) (z76kt : Nat → Int32), wj_Md_reckons_76 ms a0 a1 a2 a3 a4 P j76_6 j76_7 z76dd z76Lwhole z76Lwhole2 z76bm z76rr z76kt → ∀ (H : Heap) (locs : List Loc), va_P D vwCl (wD qd qmemory qr qcounts cI cB ms z76dd z76Lwhole z76Lwhole2 z76bm z76rr z76kt) H → va_D A (wD qd qmemory qr qcounts cI cB ms z76dd z76Lwhole z76Lwhole2 z76bm z76rr z76kt) → va_S A s.heap H locs → ∀ ls : Array Slot, lv_has ls 11 [(0, .ref qd), (1, .int a0), (2, .int a1), (3, .int a2), (4, .int a3), (5, .int a4), (6, .int j76_6), (7, .int j76_7)] → W p l e (headSpec (zz_ws y_Md_reckons b_Md_reckons 11 none) rm_Md_reckons).room s m ([.ref qd, .int a0, .int a1, .int a2, .int a3, .int a4] : List Value).toArray below meth c H locs 0 0 (MQ below (va_Qv P (zz_qw D (fun u => wD qd qmemory qr qcounts cI cB ms u.1 u.2.1 u.2.2.1 u.2.2.2.1 u.2.2.2.2.1 u.2.2.2.2.2) A) A) ([.ref qd, .int a0, .int a1, .int a2, .int a3, .int a4] : List Value).toArray s 0 0 A) (F0 m 76 ls []) := by
    intro j76_6 j76_7 z76dd z76Lwhole z76Lwhole2 z76bm z76rr z76kt h H locs hP hD hS ls hl
    unfold wj_Md_reckons_76 at h
    refine lv_iload_n hx hb d_Md_reckons_76 rfl (lv_at hl 1 rfl) ?_
    refine lv_bipush (v := 33) hx hb d_Md_reckons_77 (by decide) ?_
    refine lv_icmp_ne (tgt := 86) hx hb d_Md_reckons_79 (by decide) (fun c_60 => ?_) (fun c_60 => ?_)
    · skip
      have h := h.2 c_60
      exact jn_86 j76_6 j76_7 z76dd z76Lwhole z76Lwhole2 z76bm z76rr z76kt h _ _ hP hD hS ls (lv_sub hl [0, 1, 2, 3, 4, 5, 6, 7] rfl)
    · skip
      have h := h.1 c_60
      refine lv_iload_n hx hb d_Md_reckons_82 rfl (lv_at hl 2 rfl) ?_
      refine lv_if_eq (tgt := 92) hx hb d_Md_reckons_83 (by decide) (fun c_61 => ?_) (fun c_61 => ?_)
      · skip
        have h := h.1 c_61
        exact jn_92 j76_6 j76_7 z76dd z76Lwhole z76Lwhole2 z76bm z76rr z76kt h _ _ hP hD hS ls (lv_sub hl [0, 1, 2, 3, 4, 5, 6, 7] rfl)
      · skip
        have h := h.2 c_61
        exact jn_86 j76_6 j76_7 z76dd z76Lwhole z76Lwhole2 z76bm z76rr z76kt h _ _ hP hD hS ls (lv_sub hl [0, 1, 2, 3, 4, 5, 6, 7] rfl)
  have jn_66 : ∀ (j66_6 : Int32) (j66_7 : Int32) (z66dd : Nat → Int32) (z66Lwhole : Int64) (z66Lwhole2 : Int64) (z66bm : Nat → Int32) (z66rr : Nat → Int32) (z66kt : Nat → Int32), wj_Md_reckons_66 ms a0 a1 a2 a3 a4 P j66_6 j66_7 z66dd z66Lwhole z66Lwhole2 z66bm z66rr z66kt → ∀ (H : Heap) (locs : List Loc), va_P D vwCl (wD qd qmemory qr qcounts cI cB ms z66dd z66Lwhole z66Lwhole2 z66bm z66rr z66kt) H → va_D A (wD qd qmemory qr qcounts cI cB ms z66dd z66Lwhole z66Lwhole2 z66bm z66rr z66kt) → va_S A s.heap H locs → ∀ ls : Array Slot, lv_has ls 11 [(0, .ref qd), (1, .int a0), (2, .int a1), (3, .int a2), (4, .int a3), (5, .int a4), (6, .int j66_6), (7, .int j66_7)] → W p l e (headSpec (zz_ws y_Md_reckons b_Md_reckons 11 none) rm_Md_reckons).room s m ([.ref qd, .int a0, .int a1, .int a2, .int a3, .int a4] : List Value).toArray below meth c H locs 0 0 (MQ below (va_Qv P (zz_qw D (fun u => wD qd qmemory qr qcounts cI cB ms u.1 u.2.1 u.2.2.1 u.2.2.2.1 u.2.2.2.2.1 u.2.2.2.2.2) A) A) ([.ref qd, .int a0, .int a1, .int a2, .int a3, .int a4] : List Value).toArray s 0 0 A) (F0 m 66 ls []) := by
    intro j66_6 j66_7 z66dd z66Lwhole z66Lwhole2 z66bm z66rr z66kt h H locs hP hD hS ls hl
    unfold wj_Md_reckons_66 at h
    refine lv_iload_n hx hb d_Md_reckons_66 rfl (lv_at hl 1 rfl) ?_
    refine lv_bipush (v := 32) hx hb d_Md_reckons_67 (by decide) ?_
    refine lv_icmp_ne (tgt := 76) hx hb d_Md_reckons_69 (by decide) (fun c_62 => ?_) (fun c_62 => ?_)
    · skip
      have h := h.2 c_62
      exact jn_76 j66_6 j66_7 z66dd z66Lwhole z66Lwhole2 z66bm z66rr z66kt h _ _ hP hD hS ls (lv_sub hl [0, 1, 2, 3, 4, 5, 6, 7] rfl)
    · skip
      have h := h.1 c_62
      refine lv_iload_n hx hb d_Md_reckons_72 rfl (lv_at hl 2 rfl) ?_
      refine lv_if_ne (tgt := 92) hx hb d_Md_reckons_73 (by decide) (fun c_63 => ?_) (fun c_63 => ?_)
      · skip
        have h := h.2 c_63
        exact jn_92 j66_6 j66_7 z66dd z66Lwhole z66Lwhole2 z66bm z66rr z66kt h _ _ hP hD hS ls (lv_sub hl [0, 1, 2, 3, 4, 5, 6, 7] rfl)
      · skip
        have h := h.1 c_63
        exact jn_76 j66_6 j66_7 z66dd z66Lwhole z66Lwhole2 z66bm z66rr z66kt h _ _ hP hD hS ls (lv_sub hl [0, 1, 2, 3, 4, 5, 6, 7] rfl)
  have jn_41 : ∀ (j41_6 : Int32) (s41_0 : Int32) (z41dd : Nat → Int32) (z41Lwhole : Int64) (z41Lwhole2 : Int64) (z41bm : Nat → Int32) (z41rr : Nat → Int32) (z41kt : Nat → Int32), wj_Md_reckons_41 ms a0 a1 a2 a3 a4 P j41_6 s41_0 z41dd z41Lwhole z41Lwhole2 z41bm z41rr z41kt → ∀ (H : Heap) (locs : List Loc), va_P D vwCl (wD qd qmemory qr qcounts cI cB ms z41dd z41Lwhole z41Lwhole2 z41bm z41rr z41kt) H → va_D A (wD qd qmemory qr qcounts cI cB ms z41dd z41Lwhole z41Lwhole2 z41bm z41rr z41kt) → va_S A s.heap H locs → ∀ ls : Array Slot, lv_has ls 11 [(0, .ref qd), (1, .int a0), (2, .int a1), (3, .int a2), (4, .int a3), (5, .int a4), (6, .int j41_6)] → W p l e (headSpec (zz_ws y_Md_reckons b_Md_reckons 11 none) rm_Md_reckons).room s m ([.ref qd, .int a0, .int a1, .int a2, .int a3, .int a4] : List Value).toArray below meth c H locs 0 0 (MQ below (va_Qv P (zz_qw D (fun u => wD qd qmemory qr qcounts cI cB ms u.1 u.2.1 u.2.2.1 u.2.2.2.1 u.2.2.2.2.1 u.2.2.2.2.2) A) A) ([.ref qd, .int a0, .int a1, .int a2, .int a3, .int a4] : List Value).toArray s 0 0 A) (F0 m 41 ls [.int s41_0]) := by
    intro j41_6 s41_0 z41dd z41Lwhole z41Lwhole2 z41bm z41rr z41kt h H locs hP hD hS ls hl
    unfold wj_Md_reckons_41 at h
    refine lv_istore (lv' := [(7, .int s41_0), (0, .ref qd), (1, .int a0), (2, .int a1), (3, .int a2), (4, .int a3), (5, .int a4), (6, .int j41_6)]) hx hb d_Md_reckons_41 hl (by decide) rfl (fun ls hl => ?_)
    refine lv_iload_n hx hb d_Md_reckons_43 rfl (lv_at hl 2 rfl) ?_
    refine lv_bipush (v := 8) hx hb d_Md_reckons_44 (by decide) ?_
    refine lv_icmp_lt (tgt := 92) hx hb d_Md_reckons_46 (by decide) (fun c_64 => ?_) (fun c_64 => ?_)
    · skip
      have h := h.1 c_64
      exact jn_92 j41_6 s41_0 z41dd z41Lwhole z41Lwhole2 z41bm z41rr z41kt h _ _ hP hD hS ls (lv_sub hl [1, 2, 3, 4, 5, 6, 7, 0] rfl)
    · skip
      have h := h.2 c_64
      refine lv_iload hx hb d_Md_reckons_49 (lv_at hl 0 rfl) ?_
      refine lv_if_ne (tgt := 92) hx hb d_Md_reckons_51 (by decide) (fun c_65 => ?_) (fun c_65 => ?_)
      · skip
        have h := h.2 c_65
        exact jn_92 j41_6 s41_0 z41dd z41Lwhole z41Lwhole2 z41bm z41rr z41kt h _ _ hP hD hS ls (lv_sub hl [1, 2, 3, 4, 5, 6, 7, 0] rfl)
      · skip
        have h := h.1 c_65
        refine lv_iload_n hx hb d_Md_reckons_54 rfl (lv_at hl 2 rfl) ?_
        refine lv_bipush (v := 17) hx hb d_Md_reckons_55 (by decide) ?_
        refine lv_icmp_lt (tgt := 66) hx hb d_Md_reckons_57 (by decide) (fun c_66 => ?_) (fun c_66 => ?_)
        · skip
          have h := h.1 c_66
          exact jn_66 j41_6 s41_0 z41dd z41Lwhole z41Lwhole2 z41bm z41rr z41kt h _ _ hP hD hS ls (lv_sub hl [1, 2, 3, 4, 5, 6, 7, 0] rfl)
        · skip
          have h := h.2 c_66
          refine lv_iload_n hx hb d_Md_reckons_60 rfl (lv_at hl 2 rfl) ?_
          refine lv_bipush (v := 20) hx hb d_Md_reckons_61 (by decide) ?_
          refine lv_icmp_lt (tgt := 92) hx hb d_Md_reckons_63 (by decide) (fun c_67 => ?_) (fun c_67 => ?_)
          · skip
            have h := h.1 c_67
            exact jn_92 j41_6 s41_0 z41dd z41Lwhole z41Lwhole2 z41bm z41rr z41kt h _ _ hP hD hS ls (lv_sub hl [1, 2, 3, 4, 5, 6, 7, 0] rfl)
          · skip
            have h := h.2 c_67
            exact jn_66 j41_6 s41_0 z41dd z41Lwhole z41Lwhole2 z41bm z41rr z41kt h _ _ hP hD hS ls (lv_sub hl [1, 2, 3, 4, 5, 6, 7, 0] rfl)
  have jn_36 : ∀ (j36_6 : Int32) (z36dd : Nat → Int32) (z36Lwhole : Int64) (z36Lwhole2 : Int64) (z36bm : Nat → Int32) (z36rr : Nat → Int32) (z36kt : Nat → Int32), wj_Md_reckons_36 ms a0 a1 a2 a3 a4 P j36_6 z36dd z36Lwhole z36Lwhole2 z36bm z36rr z36kt → ∀ (H : Heap) (locs : List Loc), va_P D vwCl (wD qd qmemory qr qcounts cI cB ms z36dd z36Lwhole z36Lwhole2 z36bm z36rr z36kt) H → va_D A (wD qd qmemory qr qcounts cI cB ms z36dd z36Lwhole z36Lwhole2 z36bm z36rr z36kt) → va_S A s.heap H locs → ∀ ls : Array Slot, lv_has ls 11 [(0, .ref qd), (1, .int a0), (2, .int a1), (3, .int a2), (4, .int a3), (5, .int a4), (6, .int j36_6)] → W p l e (headSpec (zz_ws y_Md_reckons b_Md_reckons 11 none) rm_Md_reckons).room s m ([.ref qd, .int a0, .int a1, .int a2, .int a3, .int a4] : List Value).toArray below meth c H locs 0 0 (MQ below (va_Qv P (zz_qw D (fun u => wD qd qmemory qr qcounts cI cB ms u.1 u.2.1 u.2.2.1 u.2.2.2.1 u.2.2.2.2.1 u.2.2.2.2.2) A) A) ([.ref qd, .int a0, .int a1, .int a2, .int a3, .int a4] : List Value).toArray s 0 0 A) (F0 m 36 ls []) := by
    intro j36_6 z36dd z36Lwhole z36Lwhole2 z36bm z36rr z36kt h H locs hP hD hS ls hl
    unfold wj_Md_reckons_36 at h
    refine lv_iconst (v := 1) hx hb d_Md_reckons_36 (by decide) ?_
    refine lv_goto (tgt := 41) hx hb d_Md_reckons_37 (by decide) ?_
    exact jn_41 j36_6 (1 : Int32) z36dd z36Lwhole z36Lwhole2 z36bm z36rr z36kt h _ _ hP hD hS ls (lv_sub hl [0, 1, 2, 3, 4, 5, 6] rfl)
  have jn_30 : ∀ (j30_6 : Int32) (z30dd : Nat → Int32) (z30Lwhole : Int64) (z30Lwhole2 : Int64) (z30bm : Nat → Int32) (z30rr : Nat → Int32) (z30kt : Nat → Int32), wj_Md_reckons_30 ms a0 a1 a2 a3 a4 P j30_6 z30dd z30Lwhole z30Lwhole2 z30bm z30rr z30kt → ∀ (H : Heap) (locs : List Loc), va_P D vwCl (wD qd qmemory qr qcounts cI cB ms z30dd z30Lwhole z30Lwhole2 z30bm z30rr z30kt) H → va_D A (wD qd qmemory qr qcounts cI cB ms z30dd z30Lwhole z30Lwhole2 z30bm z30rr z30kt) → va_S A s.heap H locs → ∀ ls : Array Slot, lv_has ls 11 [(0, .ref qd), (1, .int a0), (2, .int a1), (3, .int a2), (4, .int a3), (5, .int a4), (6, .int j30_6)] → W p l e (headSpec (zz_ws y_Md_reckons b_Md_reckons 11 none) rm_Md_reckons).room s m ([.ref qd, .int a0, .int a1, .int a2, .int a3, .int a4] : List Value).toArray below meth c H locs 0 0 (MQ below (va_Qv P (zz_qw D (fun u => wD qd qmemory qr qcounts cI cB ms u.1 u.2.1 u.2.2.1 u.2.2.2.1 u.2.2.2.2.1 u.2.2.2.2.2) A) A) ([.ref qd, .int a0, .int a1, .int a2, .int a3, .int a4] : List Value).toArray s 0 0 A) (F0 m 30 ls []) := by
    intro j30_6 z30dd z30Lwhole z30Lwhole2 z30bm z30rr z30kt h H locs hP hD hS ls hl
    unfold wj_Md_reckons_30 at h
    refine lv_iload_n hx hb d_Md_reckons_30 rfl (lv_at hl 1 rfl) ?_
    refine lv_bipush (v := 36) hx hb d_Md_reckons_31 (by decide) ?_
    refine lv_icmp_ne (tgt := 40) hx hb d_Md_reckons_33 (by decide) (fun c_68 => ?_) (fun c_68 => ?_)
    · skip
      have h := h.2 c_68
      refine lv_iconst (v := 0) hx hb d_Md_reckons_40 (by decide) ?_
      exact jn_41 j30_6 (0 : Int32) z30dd z30Lwhole z30Lwhole2 z30bm z30rr z30kt h _ _ hP hD hS ls (lv_sub hl [0, 1, 2, 3, 4, 5, 6] rfl)
    · skip
      have h := h.1 c_68
      exact jn_36 j30_6 z30dd z30Lwhole z30Lwhole2 z30bm z30rr z30kt h _ _ hP hD hS ls (lv_sub hl [0, 1, 2, 3, 4, 5, 6] rfl)
  have jn_16 : ∀ (s16_0 : Int32) (z16dd : Nat → Int32) (z16Lwhole : Int64) (z16Lwhole2 : Int64) (z16bm : Nat → Int32) (z16rr : Nat → Int32) (z16kt : Nat → Int32), wj_Md_reckons_16 ms a0 a1 a2 a3 a4 P s16_0 z16dd z16Lwhole z16Lwhole2 z16bm z16rr z16kt → ∀ (H : Heap) (locs : List Loc), va_P D vwCl (wD qd qmemory qr qcounts cI cB ms z16dd z16Lwhole z16Lwhole2 z16bm z16rr z16kt) H → va_D A (wD qd qmemory qr qcounts cI cB ms z16dd z16Lwhole z16Lwhole2 z16bm z16rr z16kt) → va_S A s.heap H locs → ∀ ls : Array Slot, lv_has ls 11 [(0, .ref qd), (1, .int a0), (2, .int a1), (3, .int a2), (4, .int a3), (5, .int a4)] → W p l e (headSpec (zz_ws y_Md_reckons b_Md_reckons 11 none) rm_Md_reckons).room s m ([.ref qd, .int a0, .int a1, .int a2, .int a3, .int a4] : List Value).toArray below meth c H locs 0 0 (MQ below (va_Qv P (zz_qw D (fun u => wD qd qmemory qr qcounts cI cB ms u.1 u.2.1 u.2.2.1 u.2.2.2.1 u.2.2.2.2.1 u.2.2.2.2.2) A) A) ([.ref qd, .int a0, .int a1, .int a2, .int a3, .int a4] : List Value).toArray s 0 0 A) (F0 m 16 ls [.int s16_0]) := by
    intro s16_0 z16dd z16Lwhole z16Lwhole2 z16bm z16rr z16kt h H locs hP hD hS ls hl
    unfold wj_Md_reckons_16 at h
    refine lv_istore (lv' := [(6, .int s16_0), (0, .ref qd), (1, .int a0), (2, .int a1), (3, .int a2), (4, .int a3), (5, .int a4)]) hx hb d_Md_reckons_16 hl (by decide) rfl (fun ls hl => ?_)
    refine lv_iload_n hx hb d_Md_reckons_18 rfl (lv_at hl 2 rfl) ?_
    refine lv_bipush (v := 12) hx hb d_Md_reckons_19 (by decide) ?_
    refine lv_icmp_lt (tgt := 30) hx hb d_Md_reckons_21 (by decide) (fun c_69 => ?_) (fun c_69 => ?_)
    · skip
      have h := h.1 c_69
      exact jn_30 s16_0 z16dd z16Lwhole z16Lwhole2 z16bm z16rr z16kt h _ _ hP hD hS ls (lv_sub hl [1, 2, 3, 4, 5, 6, 0] rfl)
    · skip
      have h := h.2 c_69
      refine lv_iload_n hx hb d_Md_reckons_24 rfl (lv_at hl 2 rfl) ?_
      refine lv_bipush (v := 16) hx hb d_Md_reckons_25 (by decide) ?_
      refine lv_icmp_lt (tgt := 36) hx hb d_Md_reckons_27 (by decide) (fun c_70 => ?_) (fun c_70 => ?_)
      · skip
        have h := h.1 c_70
        exact jn_36 s16_0 z16dd z16Lwhole z16Lwhole2 z16bm z16rr z16kt h _ _ hP hD hS ls (lv_sub hl [1, 2, 3, 4, 5, 6, 0] rfl)
      · skip
        have h := h.2 c_70
        exact jn_30 s16_0 z16dd z16Lwhole z16Lwhole2 z16bm z16rr z16kt h _ _ hP hD hS ls (lv_sub hl [1, 2, 3, 4, 5, 6, 0] rfl)
  have jn_11 : ∀ (z11dd : Nat → Int32) (z11Lwhole : Int64) (z11Lwhole2 : Int64) (z11bm : Nat → Int32) (z11rr : Nat → Int32) (z11kt : Nat → Int32), wj_Md_reckons_11 ms a0 a1 a2 a3 a4 P z11dd z11Lwhole z11Lwhole2 z11bm z11rr z11kt → ∀ (H : Heap) (locs : List Loc), va_P D vwCl (wD qd qmemory qr qcounts cI cB ms z11dd z11Lwhole z11Lwhole2 z11bm z11rr z11kt) H → va_D A (wD qd qmemory qr qcounts cI cB ms z11dd z11Lwhole z11Lwhole2 z11bm z11rr z11kt) → va_S A s.heap H locs → ∀ ls : Array Slot, lv_has ls 11 [(0, .ref qd), (1, .int a0), (2, .int a1), (3, .int a2), (4, .int a3), (5, .int a4)] → W p l e (headSpec (zz_ws y_Md_reckons b_Md_reckons 11 none) rm_Md_reckons).room s m ([.ref qd, .int a0, .int a1, .int a2, .int a3, .int a4] : List Value).toArray below meth c H locs 0 0 (MQ below (va_Qv P (zz_qw D (fun u => wD qd qmemory qr qcounts cI cB ms u.1 u.2.1 u.2.2.1 u.2.2.2.1 u.2.2.2.2.1 u.2.2.2.2.2) A) A) ([.ref qd, .int a0, .int a1, .int a2, .int a3, .int a4] : List Value).toArray s 0 0 A) (F0 m 11 ls []) := by
    intro z11dd z11Lwhole z11Lwhole2 z11bm z11rr z11kt h H locs hP hD hS ls hl
    unfold wj_Md_reckons_11 at h
    refine lv_iconst (v := 1) hx hb d_Md_reckons_11 (by decide) ?_
    refine lv_goto (tgt := 16) hx hb d_Md_reckons_12 (by decide) ?_
    exact jn_16 (1 : Int32) z11dd z11Lwhole z11Lwhole2 z11bm z11rr z11kt h _ _ hP hD hS ls (lv_sub hl [0, 1, 2, 3, 4, 5] rfl)
  refine lv_iload_n hx hb d_Md_reckons_0 rfl (lv_at hl 1 rfl) ?_
  refine lv_iconst (v := 4) hx hb d_Md_reckons_1 (by decide) ?_
  refine lv_icmp_lt (tgt := 11) hx hb d_Md_reckons_2 (by decide) (fun c_71 => ?_) (fun c_71 => ?_)
  · skip
    have h := h.1 c_71
    exact jn_11 dd Lwhole Lwhole2 bm rr kt h _ _ hP hD hS ls (lv_sub hl [0, 1, 2, 3, 4, 5] rfl)
  · skip
    have h := h.2 c_71
    refine lv_iload_n hx hb d_Md_reckons_5 rfl (lv_at hl 1 rfl) ?_
    refine lv_bipush (v := 48) hx hb d_Md_reckons_6 (by decide) ?_
    refine lv_icmp_lt (tgt := 15) hx hb d_Md_reckons_8 (by decide) (fun c_72 => ?_) (fun c_72 => ?_)
    · skip
      have h := h.1 c_72
      refine lv_iconst (v := 0) hx hb d_Md_reckons_15 (by decide) ?_
      exact jn_16 (0 : Int32) dd Lwhole Lwhole2 bm rr kt h _ _ hP hD hS ls (lv_sub hl [0, 1, 2, 3, 4, 5] rfl)
    · skip
      have h := h.2 c_72
      exact jn_11 dd Lwhole Lwhole2 bm rr kt h _ _ hP hD hS ls (lv_sub hl [0, 1, 2, 3, 4, 5] rfl)
