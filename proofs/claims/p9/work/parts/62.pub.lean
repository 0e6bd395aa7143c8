def wp_Co_put (ms : Int32) (mn : Nat) (g : Nat → Int32) (rg : Nat → Int32) (hq : Nat → Int32) (mf : Nat → Int32) (cd : Int32) (fg : Nat → Int32) (L : Int32 × Int32 × Int32 × Int64) (O : Int32 × Int32 × Int32 × Int64) (a0 : Int32) (a1 : Int32) (P : Int32 → ((Nat → Int32) × (Nat → Int32) × (Nat → Int32) × (Nat → Int32) × Int32 × (Nat → Int32) × (Int32 × Int32 × Int32 × Int64) × (Int32 × Int32 × Int32 × Int64)) → Prop) (PX : String → ((Nat → Int32) × (Nat → Int32) × (Nat → Int32) × (Nat → Int32) × Int32 × (Nat → Int32) × (Int32 × Int32 × Int32 × Int64) × (Int32 × Int32 × Int32 × Int64)) → Prop) : Prop := wp_Me_good ms mn mf a0 (4 : Int32) (fun r_1 => ((r_1 = (0 : Int32) → PX "java/lang/IllegalArgumentException" (g, rg, hq, mf, cd, fg, L, O)) ∧ (¬ r_1 = (0 : Int32) → wp_Me_read ms mn mf a0 (4 : Int32) (fun r_3 => wp_Me_write ms mn mf a0 (4 : Int32) a1 (fun u_4 => P r_3 (g, rg, hq, u_4, cd, fg, L, O))))))
abbrev rm_Co_put : Room := { frames := 6, cells := 1, slots := 6, locals := 90 }
set_option maxHeartbeats 4000000 in
set_option maxRecDepth 100000 in
theorem c_Co_put (l : Launch) (hl0 : l.stackTraces = false) (D : va_G) (cI : ClassId) (qc : Nat) (qp : Nat) (qr : Nat) (qh : Nat) (qm : Nat) (qw : Nat) (qu : Nat) (qf : Nat) (ql : Nat) (qo : Nat) (ms : Int32) (mn : Nat) (g : Nat → Int32) (rg : Nat → Int32) (hq : Nat → Int32) (mf : Nat → Int32) (cd : Int32) (fg : Nat → Int32) (L : Int32 × Int32 × Int32 × Int64) (O : Int32 × Int32 × Int32 × Int64) (a0 : Int32) (a1 : Int32) (P : Int32 → ((Nat → Int32) × (Nat → Int32) × (Nat → Int32) × (Nat → Int32) × Int32 × (Nat → Int32) × (Int32 × Int32 × Int32 × Int64) × (Int32 × Int32 × Int32 × Int64)) → Prop) (PX : String → ((Nat → Int32) × (Nat → Int32) × (Nat → Int32) × (Nat → Int32) × Int32 × (Nat → Int32) × (Int32 × Int32 × Int32 × Int64) × (Int32 × Int32 × Int32 × Int64)) → Prop) (h : wp_Co_put ms mn g rg hq mf cd fg L O a0 a1 P PX) (sz : Nat) : vx_Met l y_Co_put (zz_ws y_Co_put b_Co_put 4 (some .int)) rm_Co_put (va_Pc [.ref qc, .int a0, .int a1] (zz_px D [(cI, .int)] (wC qc qp qr qh qm qw qu qf ql qo cI ms mn g rg hq mf cd fg L O) sz)) (va_Qi P (zz_qw D (fun u => wC qc qp qr qh qm qw qu qf ql qo cI ms mn u.1 u.2.1 u.2.2.1 u.2.2.2.1 u.2.2.2.2.1 u.2.2.2.2.2.1 u.2.2.2.2.2.2.1 u.2.2.2.2.2.2.2) (va_A (wC qc qp qr qh qm qw qu qf ql qo cI ms mn g rg hq mf cd fg L O) sz)) (va_A (wC qc qp qr qh qm qw qu qf ql qo cI ms mn g rg hq mf cd fg L O) sz)) (vx_X (fun _ : (Nat → Int32) × (Nat → Int32) × (Nat → Int32) × (Nat → Int32) × Int32 × (Nat → Int32) × (Int32 × Int32 × Int32 × Int64) × (Int32 × Int32 × Int32 × Int64) => True) (zz_xw D (fun u => wC qc qp qr qh qm qw qu qf ql qo cI ms mn u.1 u.2.1 u.2.2.1 u.2.2.2.1 u.2.2.2.2.1 u.2.2.2.2.2.1 u.2.2.2.2.2.2.1 u.2.2.2.2.2.2.2) (va_A (wC qc qp qr qh qm qw qu qf ql qo cI ms mn g rg hq mf cd fg L O) sz) PX) (va_A (wC qc qp qr qh qm qw qu qf ql qo cI ms mn g rg hq mf cd fg L O) sz)) 1 6 (va_A (wC qc qp qr qh qm qw qu qf ql qo cI ms mn g rg hq mf cd fg L O) sz) := by
  refine vx_ofW (cc := b_Co_put) (maxL := 4) (ret := (some .int)) (by decide) rfl ?_
  intro p e s m args below meth c s₁ B hml htab hv
  obtain ⟨rfl, ⟨hsz, hP, hK, hD0⟩, hE⟩ := hv
  have hx := B.exec
  have hb := B.bytes
  have hr := B.returns
  have hts := atoms_spec (ws := (zz_ws y_Co_put b_Co_put 4 (some .int))) B.pre
  have hown : s.vm.findClass R_Co = some m.cls := findClass_of_methodNamed B.named
  have hlocks := B.notSynchronized
  have hT := zz_hts hts
  have X : CallFix p m c b_Co_put 4 s ([.ref qc, .int a0, .int a1] : List Value).toArray (zz_ws y_Co_put b_Co_put 4 (some .int)) R_Co := ⟨hx, hb, hml, hown, hts⟩
  have hf0 : 0 + 0 ≤ (headSpec (zz_ws y_Co_put b_Co_put 4 (some .int)) rm_Co_put).room.cells ∧ 0 + 0 ≤ (headSpec (zz_ws y_Co_put b_Co_put 4 (some .int)) rm_Co_put).room.slots := ⟨Nat.le_of_ble_eq_true rfl, Nat.le_of_ble_eq_true rfl⟩
  subst hsz
  have hD := hD0.self (sz := s.heap.size)
  generalize hAe : va_A (wC qc qp qr qh qm qw qu qf ql qo cI ms mn g rg hq mf cd fg L O) s.heap.size = A at hD hE ⊢
  have hA : ∀ q : Nat, s.heap.size ≤ q → A q := fun q h => by rw [← hAe]; exact Or.inr h
  have hS : va_S A s.heap s.heap [] := va_S.rf
  have hl := lv_entry ([.ref qc, .int a0, .int a1]) (n := 4) (Nat.le_of_ble_eq_true rfl)
  rw [lg_entry_eq]
  generalize (lg_sl ([.ref qc, .int a0, .int a1]) ++ List.replicate (4 - (lg_sl ([.ref qc, .int a0, .int a1])).length) Slot.unset).toArray = ls at hl ⊢
  have hl : lv_has ls 4 [(0, .ref qc), (1, .int a0), (2, .int a1)] := hl
  refine lv_aload_n hx hb d_Co_put_0 rfl (lv_at hl 0 rfl) ?_
  refine g_Co_12 (v := .ref qm) hx hb hT hown hK hP 0 rfl rfl d_Co_put_1 ?_
  refine lv_iload_n hx hb d_Co_put_4 rfl (lv_at hl 1 rfl) ?_
  refine lv_iconst (v := 4) hx hb d_Co_put_5 (by decide) ?_
  refine zz_Ri (As := [.int a0, .int (4 : Int32)]) (rest := []) (wc := wM qm qw cI ms mn mf) X hK hP (c_Me_good l D cI qm qw ms mn mf a0 (4 : Int32) _ h) ⟨rfl, rfl⟩ m_Me_good k_Co_27 ⟨Nat.le_of_ble_eq_true rfl, Nat.le_of_ble_eq_true rfl⟩ [4, 5] rfl 3 4 rfl rfl rfl rfl hl.1 rfl (Nat.le_of_ble_eq_true rfl) d_Co_put_6 hf0 (fun r_1 h => ?_)
  refine lv_if_ne (tgt := 22) hx hb d_Co_put_9 (by decide) (fun c_2 => ?_) (fun c_2 => ?_)
  · skip
    have h := h.2 c_2
    refine lv_aload_n hx hb d_Co_put_22 rfl (lv_at hl 0 rfl) ?_
    refine g_Co_12 (v := .ref qm) hx hb hT hown hK hP 0 rfl rfl d_Co_put_23 ?_
    refine lv_iload_n hx hb d_Co_put_26 rfl (lv_at hl 1 rfl) ?_
    refine lv_iconst (v := 4) hx hb d_Co_put_27 (by decide) ?_
    refine zz_Ri (As := [.int a0, .int (4 : Int32)]) (rest := []) (wc := wM qm qw cI ms mn mf) X hK hP (c_Me_read l D cI qm qw ms mn mf a0 (4 : Int32) _ h) ⟨rfl, rfl⟩ m_Me_read k_Co_38 ⟨Nat.le_of_ble_eq_true rfl, Nat.le_of_ble_eq_true rfl⟩ [4, 5] rfl 3 4 rfl rfl rfl rfl hl.1 rfl (Nat.le_of_ble_eq_true rfl) d_Co_put_28 hf0 (fun r_3 h => ?_)
    refine lv_istore_n (lv' := [(3, .int r_3), (0, .ref qc), (1, .int a0), (2, .int a1)]) hx hb d_Co_put_31 rfl hl (by decide) rfl (fun ls hl => ?_)
    refine lv_aload_n hx hb d_Co_put_32 rfl (lv_at hl 1 rfl) ?_
    refine g_Co_12 (v := .ref qm) hx hb hT hown hK hP 0 rfl rfl d_Co_put_33 ?_
    refine lv_iload_n hx hb d_Co_put_36 rfl (lv_at hl 2 rfl) ?_
    refine lv_iconst (v := 4) hx hb d_Co_put_37 (by decide) ?_
    refine lv_iload_n hx hb d_Co_put_38 rfl (lv_at hl 3 rfl) ?_
    refine zz_Wv (As := [.int a0, .int (4 : Int32), .int a1]) (rest := []) (wc := wM qm qw cI ms mn mf) (wr := [(qc, .inr (5, [.ref qm, .ref qp])), (qp, .inr (4, [.ref qm, .ref qr, .ref qh, .ref qu, .int (g 0), .int (g 1), .int (g 2), .int (g 3), .int (g 4), .int (g 5), .int (g 6), .int (g 7), .int (g 8), .int (g 9), .int (g 10), .int (g 11)])), (qr, .inl (cI, 32, .inl rg)), (qh, .inr (2, [.int (hq 0), .int (hq 1), .int (hq 2), .int (hq 3)])), (qu, .inr (1, [.ref qf, .int cd, .ref ql, .ref qo])), (qf, .inl (cI, 32, .inl fg)), (ql, .inr (0, [.int L.1, .int L.2.1, .int L.2.2.1, .long L.2.2.2])), (qo, .inr (0, [.int O.1, .int O.2.1, .int O.2.2.1, .long O.2.2.2]))]) X hK hP hD hS hA (c_Me_write l D cI qm qw ms mn mf a0 (4 : Int32) a1 _ h _) ⟨rfl, rfl⟩ m_Me_write k_Co_42 ⟨Nat.le_of_ble_eq_true rfl, Nat.le_of_ble_eq_true rfl⟩ [4, 5] [0, 1, 2, 3, 6, 7, 8, 9] rfl rfl (by decide) (by decide) (by decide) 3 4 rfl rfl rfl rfl hl.1 rfl (Nat.le_of_ble_eq_true rfl) d_Co_put_39 hf0 (fun u_4 H locs h hP hD hS => ?_)
    have hP : va_P D vwCl (wC qc qp qr qh qm qw qu qf ql qo cI ms mn g rg hq u_4 cd fg L O) H := hP.sub [0, 1, 2, 3, 8, 9, 4, 5, 6, 7] rfl
    have hD : va_D A (wC qc qp qr qh qm qw qu qf ql qo cI ms mn g rg hq u_4 cd fg L O) := hD.sub [0, 1, 2, 3, 8, 9, 4, 5, 6, 7] (by decide) rfl
    refine lv_iload_n hx hb d_Co_put_42 rfl (lv_at hl 0 rfl) ?_
    refine W.widen (k := 1) (n := 6) (Nat.zero_le _) (Nat.zero_le _) ?_
    refine vx_ret ?_
    exact W.iret (v := r_3) hx hb hr (fun t ht hW => ⟨⟨r_3, (g, rg, hq, u_4, cd, fg, L, O), rfl, h, by rw [ht]; exact hP, hD⟩, hS.F ht⟩) hS.2.2 d_Co_put_43
  · skip
    have h := h.1 c_2
    exact zz_thr (E := "java/lang/IllegalArgumentException") hx hb hl0 hT hown hE (by decide +kernel) xl_31 xi_31 hE.2.2.1.1 (zz_str_33 hE.2.2.1) xa_35 xb_35 xg_35 hP hD hS (by rw [hml]; exact hl.1) d_Co_put_12 d_Co_put_15 d_Co_put_16 d_Co_put_18 d_Co_put_21 htab (Nat.le_of_ble_eq_true rfl) (Nat.le_of_ble_eq_true rfl) (Nat.le_of_ble_eq_true rfl) (Nat.le_of_ble_eq_true rfl) hlocks (Nat.le_of_ble_eq_true rfl) (Nat.le_of_ble_eq_true rfl) (g, rg, hq, mf, cd, fg, L, O) rfl h
def wp_Co_word (ms : Int32) (mn : Nat) (g : Nat → Int32) (rg : Nat → Int32) (hq : Nat → Int32) (mf : Nat → Int32) (cd : Int32) (fg : Nat → Int32) (L : Int32 × Int32 × Int32 × Int64) (O : Int32 × Int32 × Int32 × Int64) (a0 : Int32) (P : Int32 → ((Nat → Int32) × (Nat → Int32) × (Nat → Int32) × (Nat → Int32) × Int32 × (Nat → Int32) × (Int32 × Int32 × Int32 × Int64) × (Int32 × Int32 × Int32 × Int64)) → Prop) (PX : String → ((Nat → Int32) × (Nat → Int32) × (Nat → Int32) × (Nat → Int32) × Int32 × (Nat → Int32) × (Int32 × Int32 × Int32 × Int64) × (Int32 × Int32 × Int32 × Int64)) → Prop) : Prop := wp_Me_good ms mn mf a0 (4 : Int32) (fun r_1 => ((r_1 = (0 : Int32) → PX "java/lang/IllegalArgumentException" (g, rg, hq, mf, cd, fg, L, O)) ∧ (¬ r_1 = (0 : Int32) → wp_Me_read ms mn mf a0 (4 : Int32) (fun r_3 => P r_3 (g, rg, hq, mf, cd, fg, L, O)))))
abbrev rm_Co_word : Room := { frames := 6, cells := 1, slots := 6, locals := 90 }
set_option maxHeartbeats 4000000 in
set_option maxRecDepth 100000 in
theorem c_Co_word (l : Launch) (hl0 : l.stackTraces = false) (D : va_G) (cI : ClassId) (qc : Nat) (qp : Nat) (qr : Nat) (qh : Nat) (qm : Nat) (qw : Nat) (qu : Nat) (qf : Nat) (ql : Nat) (qo : Nat) (ms : Int32) (mn : Nat) (g : Nat → Int32) (rg : Nat → Int32) (hq : Nat → Int32) (mf : Nat → Int32) (cd : Int32) (fg : Nat → Int32) (L : Int32 × Int32 × Int32 × Int64) (O : Int32 × Int32 × Int32 × Int64) (a0 : Int32) (P : Int32 → ((Nat → Int32) × (Nat → Int32) × (Nat → Int32) × (Nat → Int32) × Int32 × (Nat → Int32) × (Int32 × Int32 × Int32 × Int64) × (Int32 × Int32 × Int32 × Int64)) → Prop) (PX : String → ((Nat → Int32) × (Nat → Int32) × (Nat → Int32) × (Nat → Int32) × Int32 × (Nat → Int32) × (Int32 × Int32 × Int32 × Int64) × (Int32 × Int32 × Int32 × Int64)) → Prop) (h : wp_Co_word ms mn g rg hq mf cd fg L O a0 P PX) (sz : Nat) : vx_Met l y_Co_word (zz_ws y_Co_word b_Co_word 2 (some .int)) rm_Co_word (va_Pc [.ref qc, .int a0] (zz_px D [(cI, .int)] (wC qc qp qr qh qm qw qu qf ql qo cI ms mn g rg hq mf cd fg L O) sz)) (va_Qi P (zz_qw D (fun u => wC qc qp qr qh qm qw qu qf ql qo cI ms mn u.1 u.2.1 u.2.2.1 u.2.2.2.1 u.2.2.2.2.1 u.2.2.2.2.2.1 u.2.2.2.2.2.2.1 u.2.2.2.2.2.2.2) (va_A (wC qc qp qr qh qm qw qu qf ql qo cI ms mn g rg hq mf cd fg L O) sz)) (va_A (wC qc qp qr qh qm qw qu qf ql qo cI ms mn g rg hq mf cd fg L O) sz)) (vx_X (fun _ : (Nat → Int32) × (Nat → Int32) × (Nat → Int32) × (Nat → Int32) × Int32 × (Nat → Int32) × (Int32 × Int32 × Int32 × Int64) × (Int32 × Int32 × Int32 × Int64) => True) (zz_xw D (fun u => wC qc qp qr qh qm qw qu qf ql qo cI ms mn u.1 u.2.1 u.2.2.1 u.2.2.2.1 u.2.2.2.2.1 u.2.2.2.2.2.1 u.2.2.2.2.2.2.1 u.2.2.2.2.2.2.2) (va_A (wC qc qp qr qh qm qw qu qf ql qo cI ms mn g rg hq mf cd fg L O) sz) PX) (va_A (wC qc qp qr qh qm qw qu qf ql qo cI ms mn g rg hq mf cd fg L O) sz)) 1 6 (va_A (wC qc qp qr qh qm qw qu qf ql qo cI ms mn g rg hq mf cd fg L O) sz) := by
  refine vx_ofW (cc := b_Co_word) (maxL := 2) (ret := (some .int)) (by decide) rfl ?_
  intro p e s m args below meth c s₁ B hml htab hv
  obtain ⟨rfl, ⟨hsz, hP, hK, hD0⟩, hE⟩ := hv
  have hx := B.exec
  have hb := B.bytes
  have hr := B.returns
  have hts := atoms_spec (ws := (zz_ws y_Co_word b_Co_word 2 (some .int))) B.pre
  have hown : s.vm.findClass R_Co = some m.cls := findClass_of_methodNamed B.named
  have hlocks := B.notSynchronized
  have hT := zz_hts hts
  have X : CallFix p m c b_Co_word 2 s ([.ref qc, .int a0] : List Value).toArray (zz_ws y_Co_word b_Co_word 2 (some .int)) R_Co := ⟨hx, hb, hml, hown, hts⟩
  have hf0 : 0 + 0 ≤ (headSpec (zz_ws y_Co_word b_Co_word 2 (some .int)) rm_Co_word).room.cells ∧ 0 + 0 ≤ (headSpec (zz_ws y_Co_word b_Co_word 2 (some .int)) rm_Co_word).room.slots := ⟨Nat.le_of_ble_eq_true rfl, Nat.le_of_ble_eq_true rfl⟩
  subst hsz
  have hD := hD0.self (sz := s.heap.size)
  generalize hAe : va_A (wC qc qp qr qh qm qw qu qf ql qo cI ms mn g rg hq mf cd fg L O) s.heap.size = A at hD hE ⊢
  have hA : ∀ q : Nat, s.heap.size ≤ q → A q := fun q h => by rw [← hAe]; exact Or.inr h
  have hS : va_S A s.heap s.heap [] := va_S.rf
  have hl := lv_entry ([.ref qc, .int a0]) (n := 2) (Nat.le_of_ble_eq_true rfl)
  rw [lg_entry_eq]
  generalize (lg_sl ([.ref qc, .int a0]) ++ List.replicate (2 - (lg_sl ([.ref qc, .int a0])).length) Slot.unset).toArray = ls at hl ⊢
  have hl : lv_has ls 2 [(0, .ref qc), (1, .int a0)] := hl
  refine lv_aload_n hx hb d_Co_word_0 rfl (lv_at hl 0 rfl) ?_
  refine g_Co_12 (v := .ref qm) hx hb hT hown hK hP 0 rfl rfl d_Co_word_1 ?_
  refine lv_iload_n hx hb d_Co_word_4 rfl (lv_at hl 1 rfl) ?_
  refine lv_iconst (v := 4) hx hb d_Co_word_5 (by decide) ?_
  refine zz_Ri (As := [.int a0, .int (4 : Int32)]) (rest := []) (wc := wM qm qw cI ms mn mf) X hK hP (c_Me_good l D cI qm qw ms mn mf a0 (4 : Int32) _ h) ⟨rfl, rfl⟩ m_Me_good k_Co_27 ⟨Nat.le_of_ble_eq_true rfl, Nat.le_of_ble_eq_true rfl⟩ [4, 5] rfl 3 4 rfl rfl rfl rfl hl.1 rfl (Nat.le_of_ble_eq_true rfl) d_Co_word_6 hf0 (fun r_1 h => ?_)
  refine lv_if_ne (tgt := 22) hx hb d_Co_word_9 (by decide) (fun c_2 => ?_) (fun c_2 => ?_)
  · skip
    have h := h.2 c_2
    refine lv_aload_n hx hb d_Co_word_22 rfl (lv_at hl 0 rfl) ?_
    refine g_Co_12 (v := .ref qm) hx hb hT hown hK hP 0 rfl rfl d_Co_word_23 ?_
    refine lv_iload_n hx hb d_Co_word_26 rfl (lv_at hl 1 rfl) ?_
    refine lv_iconst (v := 4) hx hb d_Co_word_27 (by decide) ?_
    refine zz_Ri (As := [.int a0, .int (4 : Int32)]) (rest := []) (wc := wM qm qw cI ms mn mf) X hK hP (c_Me_read l D cI qm qw ms mn mf a0 (4 : Int32) _ h) ⟨rfl, rfl⟩ m_Me_read k_Co_38 ⟨Nat.le_of_ble_eq_true rfl, Nat.le_of_ble_eq_true rfl⟩ [4, 5] rfl 3 4 rfl rfl rfl rfl hl.1 rfl (Nat.le_of_ble_eq_true rfl) d_Co_word_28 hf0 (fun r_3 h => ?_)
    refine W.widen (k := 1) (n := 6) (Nat.zero_le _) (Nat.zero_le _) ?_
    refine vx_ret ?_
    exact W.iret (v := r_3) hx hb hr (fun t ht hW => ⟨⟨r_3, (g, rg, hq, mf, cd, fg, L, O), rfl, h, by rw [ht]; exact hP, hD⟩, hS.F ht⟩) hS.2.2 d_Co_word_31
  · skip
    have h := h.1 c_2
    exact zz_thr (E := "java/lang/IllegalArgumentException") hx hb hl0 hT hown hE (by decide +kernel) xl_31 xi_31 hE.2.2.1.1 (zz_str_33 hE.2.2.1) xa_35 xb_35 xg_35 hP hD hS (by rw [hml]; exact hl.1) d_Co_word_12 d_Co_word_15 d_Co_word_16 d_Co_word_18 d_Co_word_21 htab (Nat.le_of_ble_eq_true rfl) (Nat.le_of_ble_eq_true rfl) (Nat.le_of_ble_eq_true rfl) (Nat.le_of_ble_eq_true rfl) hlocks (Nat.le_of_ble_eq_true rfl) (Nat.le_of_ble_eq_true rfl) (g, rg, hq, mf, cd, fg, L, O) rfl h
def wp_Co_go (ms : Int32) (mn : Nat) (g : Nat → Int32) (rg : Nat → Int32) (hq : Nat → Int32) (mf : Nat → Int32) (cd : Int32) (fg : Nat → Int32) (L : Int32 × Int32 × Int32 × Int64) (O : Int32 × Int32 × Int32 × Int64) (a0 : Int32) (P : Int32 → ((Nat → Int32) × (Nat → Int32) × (Nat → Int32) × (Nat → Int32) × Int32 × (Nat → Int32) × (Int32 × Int32 × Int32 × Int64) × (Int32 × Int32 × Int32 × Int64)) → Prop) (PX : String → ((Nat → Int32) × (Nat → Int32) × (Nat → Int32) × (Nat → Int32) × Int32 × (Nat → Int32) × (Int32 × Int32 × Int32 × Int64) × (Int32 × Int32 × Int32 × Int64)) → Prop) : Prop := (((a0 &&& (3 : Int32)) = (0 : Int32) → ∀ x_2 : Int32, x_2 = (g 0) → wp_Pr_startAt ms mn g rg hq mf cd fg L O a0 (fun u_3 => P x_2 (u_3.1, u_3.2.1, u_3.2.2.1, u_3.2.2.2.1, u_3.2.2.2.2.1, u_3.2.2.2.2.2.1, u_3.2.2.2.2.2.2.1, u_3.2.2.2.2.2.2.2))) ∧ (¬ (a0 &&& (3 : Int32)) = (0 : Int32) → PX "java/lang/IllegalArgumentException" (g, rg, hq, mf, cd, fg, L, O)))
abbrev rm_Co_go : Room := { frames := 6, cells := 1, slots := 6, locals := 90 }
set_option maxHeartbeats 4000000 in
set_option maxRecDepth 100000 in
theorem c_Co_go (l : Launch) (hl0 : l.stackTraces = false) (D : va_G) (cI : ClassId) (qc : Nat) (qp : Nat) (qr : Nat) (qh : Nat) (qm : Nat) (qw : Nat) (qu : Nat) (qf : Nat) (ql : Nat) (qo : Nat) (ms : Int32) (mn : Nat) (g : Nat → Int32) (rg : Nat → Int32) (hq : Nat → Int32) (mf : Nat → Int32) (cd : Int32) (fg : Nat → Int32) (L : Int32 × Int32 × Int32 × Int64) (O : Int32 × Int32 × Int32 × Int64) (a0 : Int32) (P : Int32 → ((Nat → Int32) × (Nat → Int32) × (Nat → Int32) × (Nat → Int32) × Int32 × (Nat → Int32) × (Int32 × Int32 × Int32 × Int64) × (Int32 × Int32 × Int32 × Int64)) → Prop) (PX : String → ((Nat → Int32) × (Nat → Int32) × (Nat → Int32) × (Nat → Int32) × Int32 × (Nat → Int32) × (Int32 × Int32 × Int32 × Int64) × (Int32 × Int32 × Int32 × Int64)) → Prop) (h : wp_Co_go ms mn g rg hq mf cd fg L O a0 P PX) (sz : Nat) : vx_Met l y_Co_go (zz_ws y_Co_go b_Co_go 3 (some .int)) rm_Co_go (va_Pc [.ref qc, .int a0] (zz_px D [(cI, .int)] (wC qc qp qr qh qm qw qu qf ql qo cI ms mn g rg hq mf cd fg L O) sz)) (va_Qi P (zz_qw D (fun u => wC qc qp qr qh qm qw qu qf ql qo cI ms mn u.1 u.2.1 u.2.2.1 u.2.2.2.1 u.2.2.2.2.1 u.2.2.2.2.2.1 u.2.2.2.2.2.2.1 u.2.2.2.2.2.2.2) (va_A (wC qc qp qr qh qm qw qu qf ql qo cI ms mn g rg hq mf cd fg L O) sz)) (va_A (wC qc qp qr qh qm qw qu qf ql qo cI ms mn g rg hq mf cd fg L O) sz)) (vx_X (fun _ : (Nat → Int32) × (Nat → Int32) × (Nat → Int32) × (Nat → Int32) × Int32 × (Nat → Int32) × (Int32 × Int32 × Int32 × Int64) × (Int32 × Int32 × Int32 × Int64) => True) (zz_xw D (fun u => wC qc qp qr qh qm qw qu qf ql qo cI ms mn u.1 u.2.1 u.2.2.1 u.2.2.2.1 u.2.2.2.2.1 u.2.2.2.2.2.1 u.2.2.2.2.2.2.1 u.2.2.2.2.2.2.2) (va_A (wC qc qp qr qh qm qw qu qf ql qo cI ms mn g rg hq mf cd fg L O) sz) PX) (va_A (wC qc qp qr qh qm qw qu qf ql qo cI ms mn g rg hq mf cd fg L O) sz)) 1 6 (va_A (wC qc qp qr qh qm qw qu qf ql qo cI ms mn g rg hq mf cd fg L O) sz) := by
  refine vx_ofW (cc := b_Co_go) (maxL := 3) (ret := (some .int)) (by decide) rfl ?_
  intro p e s m args below meth c s₁ B hml htab hv
  obtain ⟨rfl, ⟨hsz, hP, hK, hD0⟩, hE⟩ := hv
  have hx := B.exec
  have hb := B.bytes
  have hr := B.returns
  have hts := atoms_spec (ws := (zz_ws y_Co_go b_Co_go 3 (some .int))) B.pre
  have hown : s.vm.findClass R_Co = some m.cls := findClass_of_methodNamed B.named
  have hlocks := B.notSynchronized
  have hT := zz_hts hts
  have X : CallFix p m c b_Co_go 3 s ([.ref qc, .int a0] : List Value).toArray (zz_ws y_Co_go b_Co_go 3 (some .int)) R_Co := ⟨hx, hb, hml, hown, hts⟩
  have hf0 : 0 + 0 ≤ (headSpec (zz_ws y_Co_go b_Co_go 3 (some .int)) rm_Co_go).room.cells ∧ 0 + 0 ≤ (headSpec (zz_ws y_Co_go b_Co_go 3 (some .int)) rm_Co_go).room.slots := ⟨Nat.le_of_ble_eq_true rfl, Nat.le_of_ble_eq_true rfl⟩
  subst hsz
  have hD := hD0.self (sz := s.heap.size)
  generalize hAe : va_A (wC qc qp qr qh qm qw qu qf ql qo cI ms mn g rg hq mf cd fg L O) s.heap.size = A at hD hE ⊢
  have hA : ∀ q : Nat, s.heap.size ≤ q → A q := fun q h => by rw [← hAe]; exact Or.inr h
  have hS : va_S A s.heap s.heap [] := va_S.rf
  have hl := lv_entry ([.ref qc, .int a0]) (n := 3) (Nat.le_of_ble_eq_true rfl)
  rw [lg_entry_eq]
  generalize (lg_sl ([.ref qc, .int a0]) ++ List.replicate (3 - (lg_sl ([.ref qc, .int a0])).length) Slot.unset).toArray = ls at hl ⊢
  have hl : lv_has ls 3 [(0, .ref qc), (1, .int a0)] := hl
  refine lv_iload_n hx hb d_Co_go_0 rfl (lv_at hl 1 rfl) ?_
  refine lv_iconst (v := 3) hx hb d_Co_go_1 (by decide) ?_
  refine lv_iand hx hb d_Co_go_2 ?_
  refine lv_if_eq (tgt := 16) hx hb d_Co_go_3 (by decide) (fun c_1 => ?_) (fun c_1 => ?_)
  · skip
    have h := h.1 c_1
    refine lv_aload_n hx hb d_Co_go_16 rfl (lv_at hl 0 rfl) ?_
    refine g_Co_23 (v := .ref qp) hx hb hT hown hK hP 0 rfl rfl d_Co_go_17 ?_
    refine g_Co_48 (v := .int (g 0)) hx hb hT hown hK hP 1 rfl rfl d_Co_go_20 ?_
    refine lv_topi (fun x_2 ex_2 => ?_)
    have h := h x_2 ex_2
    refine lv_istore_n (lv' := [(2, .int x_2), (0, .ref qc), (1, .int a0)]) hx hb d_Co_go_23 rfl hl (by decide) rfl (fun ls hl => ?_)
    refine lv_aload_n hx hb d_Co_go_24 rfl (lv_at hl 1 rfl) ?_
    refine g_Co_23 (v := .ref qp) hx hb hT hown hK hP 0 rfl rfl d_Co_go_25 ?_
    refine lv_iload_n hx hb d_Co_go_28 rfl (lv_at hl 2 rfl) ?_
    refine zz_Wv (As := [.int a0]) (rest := []) (wc := wP qp qr qh qm qw qu qf ql qo cI ms mn g rg hq mf cd fg L O) (wr := [(qc, .inr (5, [.ref qm, .ref qp]))]) X hK hP hD hS hA (c_Pr_startAt l D cI qp qr qh qm qw qu qf ql qo ms mn g rg hq mf cd fg L O a0 _ h _) ⟨rfl, rfl⟩ m_Pr_startAt k_Co_52 ⟨Nat.le_of_ble_eq_true rfl, Nat.le_of_ble_eq_true rfl⟩ [1, 2, 3, 4, 5, 6, 7, 8, 9] [0] rfl rfl (by decide) (by decide) (by decide) 4 1 rfl rfl rfl rfl hl.1 rfl (Nat.le_of_ble_eq_true rfl) d_Co_go_29 hf0 (fun u_3 H locs h hP hD hS => ?_)
    have hP : va_P D vwCl (wC qc qp qr qh qm qw qu qf ql qo cI ms mn u_3.1 u_3.2.1 u_3.2.2.1 u_3.2.2.2.1 u_3.2.2.2.2.1 u_3.2.2.2.2.2.1 u_3.2.2.2.2.2.2.1 u_3.2.2.2.2.2.2.2) H := hP.sub [0, 1, 2, 3, 4, 5, 6, 7, 8, 9] rfl
    have hD : va_D A (wC qc qp qr qh qm qw qu qf ql qo cI ms mn u_3.1 u_3.2.1 u_3.2.2.1 u_3.2.2.2.1 u_3.2.2.2.2.1 u_3.2.2.2.2.2.1 u_3.2.2.2.2.2.2.1 u_3.2.2.2.2.2.2.2) := hD.sub [0, 1, 2, 3, 4, 5, 6, 7, 8, 9] (by decide) rfl
    refine lv_iload_n hx hb d_Co_go_32 rfl (lv_at hl 0 rfl) ?_
    refine W.widen (k := 1) (n := 6) (Nat.zero_le _) (Nat.zero_le _) ?_
    refine vx_ret ?_
    exact W.iret (v := x_2) hx hb hr (fun t ht hW => ⟨⟨x_2, (u_3.1, u_3.2.1, u_3.2.2.1, u_3.2.2.2.1, u_3.2.2.2.2.1, u_3.2.2.2.2.2.1, u_3.2.2.2.2.2.2.1, u_3.2.2.2.2.2.2.2), rfl, h, by rw [ht]; exact hP, hD⟩, hS.F ht⟩) hS.2.2 d_Co_go_33
  · skip
    have h := h.2 c_1
    exact zz_thr (E := "java/lang/IllegalArgumentException") hx hb hl0 hT hown hE (by decide +kernel) xl_31 xi_31 hE.2.2.1.1 (zz_str_46 hE.2.2.1) xa_35 xb_35 xg_35 hP hD hS (by rw [hml]; exact hl.1) d_Co_go_6 d_Co_go_9 d_Co_go_10 d_Co_go_12 d_Co_go_15 htab (Nat.le_of_ble_eq_true rfl) (Nat.le_of_ble_eq_true rfl) (Nat.le_of_ble_eq_true rfl) (Nat.le_of_ble_eq_true rfl) hlocks (Nat.le_of_ble_eq_true rfl) (Nat.le_of_ble_eq_true rfl) (g, rg, hq, mf, cd, fg, L, O) rfl h
def wp_Co_set (ms : Int32) (mn : Nat) (g : Nat → Int32) (rg : Nat → Int32) (hq : Nat → Int32) (mf : Nat → Int32) (cd : Int32) (fg : Nat → Int32) (L : Int32 × Int32 × Int32 × Int64) (O : Int32 × Int32 × Int32 × Int64) (a0 : Int32) (a1 : Int32) (P : Int32 → ((Nat → Int32) × (Nat → Int32) × (Nat → Int32) × (Nat → Int32) × Int32 × (Nat → Int32) × (Int32 × Int32 × Int32 × Int64) × (Int32 × Int32 × Int32 × Int64)) → Prop) (PX : String → ((Nat → Int32) × (Nat → Int32) × (Nat → Int32) × (Nat → Int32) × Int32 × (Nat → Int32) × (Int32 × Int32 × Int32 × Int64) × (Int32 × Int32 × Int32 × Int64)) → Prop) : Prop := ((a0 < (0 : Int32) → PX "java/lang/IndexOutOfBoundsException" (g, rg, hq, mf, cd, fg, L, O)) ∧ (¬ a0 < (0 : Int32) → ((a0 ≤ (66 : Int32) → wp_Co_held ms mn g rg hq mf cd fg L O a0 (fun r_3 => wp_Co_hold ms mn g rg hq mf cd fg L O a0 a1 (fun u_4 => P r_3 (u_4.1, u_4.2.1, u_4.2.2.1, u_4.2.2.2.1, u_4.2.2.2.2.1, u_4.2.2.2.2.2.1, u_4.2.2.2.2.2.2.1, u_4.2.2.2.2.2.2.2)))) ∧ (¬ a0 ≤ (66 : Int32) → PX "java/lang/IndexOutOfBoundsException" (g, rg, hq, mf, cd, fg, L, O)))))
abbrev rm_Co_set : Room := { frames := 6, cells := 1, slots := 6, locals := 90 }
set_option maxHeartbeats 4000000 in
set_option maxRecDepth 100000 in
theorem c_Co_set (l : Launch) (hl0 : l.stackTraces = false) (D : va_G) (cI : ClassId) (qc : Nat) (qp : Nat) (qr : Nat) (qh : Nat) (qm : Nat) (qw : Nat) (qu : Nat) (qf : Nat) (ql : Nat) (qo : Nat) (ms : Int32) (mn : Nat) (g : Nat → Int32) (rg : Nat → Int32) (hq : Nat → Int32) (mf : Nat → Int32) (cd : Int32) (fg : Nat → Int32) (L : Int32 × Int32 × Int32 × Int64) (O : Int32 × Int32 × Int32 × Int64) (a0 : Int32) (a1 : Int32) (P : Int32 → ((Nat → Int32) × (Nat → Int32) × (Nat → Int32) × (Nat → Int32) × Int32 × (Nat → Int32) × (Int32 × Int32 × Int32 × Int64) × (Int32 × Int32 × Int32 × Int64)) → Prop) (PX : String → ((Nat → Int32) × (Nat → Int32) × (Nat → Int32) × (Nat → Int32) × Int32 × (Nat → Int32) × (Int32 × Int32 × Int32 × Int64) × (Int32 × Int32 × Int32 × Int64)) → Prop) (h : wp_Co_set ms mn g rg hq mf cd fg L O a0 a1 P PX) (sz : Nat) : vx_Met l y_Co_set (zz_ws y_Co_set b_Co_set 4 (some .int)) rm_Co_set (va_Pc [.ref qc, .int a0, .int a1] (zz_px D [(cI, .int)] (wC qc qp qr qh qm qw qu qf ql qo cI ms mn g rg hq mf cd fg L O) sz)) (va_Qi P (zz_qw D (fun u => wC qc qp qr qh qm qw qu qf ql qo cI ms mn u.1 u.2.1 u.2.2.1 u.2.2.2.1 u.2.2.2.2.1 u.2.2.2.2.2.1 u.2.2.2.2.2.2.1 u.2.2.2.2.2.2.2) (va_A (wC qc qp qr qh qm qw qu qf ql qo cI ms mn g rg hq mf cd fg L O) sz)) (va_A (wC qc qp qr qh qm qw qu qf ql qo cI ms mn g rg hq mf cd fg L O) sz)) (vx_X (fun _ : (Nat → Int32) × (Nat → Int32) × (Nat → Int32) × (Nat → Int32) × Int32 × (Nat → Int32) × (Int32 × Int32 × Int32 × Int64) × (Int32 × Int32 × Int32 × Int64) => True) (zz_xw D (fun u => wC qc qp qr qh qm qw qu qf ql qo cI ms mn u.1 u.2.1 u.2.2.1 u.2.2.2.1 u.2.2.2.2.1 u.2.2.2.2.2.1 u.2.2.2.2.2.2.1 u.2.2.2.2.2.2.2) (va_A (wC qc qp qr qh qm qw qu qf ql qo cI ms mn g rg hq mf cd fg L O) sz) PX) (va_A (wC qc qp qr qh qm qw qu qf ql qo cI ms mn g rg hq mf cd fg L O) sz)) 1 6 (va_A (wC qc qp qr qh qm qw qu qf ql qo cI ms mn g rg hq mf cd fg L O) sz) := by
  refine vx_ofW (cc := b_Co_set) (maxL := 4) (ret := (some .int)) (by decide) rfl ?_
  intro p e s m args below meth c s₁ B hml htab hv
  obtain ⟨rfl, ⟨hsz, hP, hK, hD0⟩, hE⟩ := hv
  have hx := B.exec
  have hb := B.bytes
  have hr := B.returns
  have hts := atoms_spec (ws := (zz_ws y_Co_set b_Co_set 4 (some .int))) B.pre
  have hown : s.vm.findClass R_Co = some m.cls := findClass_of_methodNamed B.named
  have hlocks := B.notSynchronized
  have hT := zz_hts hts
  have X : CallFix p m c b_Co_set 4 s ([.ref qc, .int a0, .int a1] : List Value).toArray (zz_ws y_Co_set b_Co_set 4 (some .int)) R_Co := ⟨hx, hb, hml, hown, hts⟩
  have hf0 : 0 + 0 ≤ (headSpec (zz_ws y_Co_set b_Co_set 4 (some .int)) rm_Co_set).room.cells ∧ 0 + 0 ≤ (headSpec (zz_ws y_Co_set b_Co_set 4 (some .int)) rm_Co_set).room.slots := ⟨Nat.le_of_ble_eq_true rfl, Nat.le_of_ble_eq_true rfl⟩
  subst hsz
  have hD := hD0.self (sz := s.heap.size)
  generalize hAe : va_A (wC qc qp qr qh qm qw qu qf ql qo cI ms mn g rg hq mf cd fg L O) s.heap.size = A at hD hE ⊢
  have hA : ∀ q : Nat, s.heap.size ≤ q → A q := fun q h => by rw [← hAe]; exact Or.inr h
  have hS : va_S A s.heap s.heap [] := va_S.rf
  have hl := lv_entry ([.ref qc, .int a0, .int a1]) (n := 4) (Nat.le_of_ble_eq_true rfl)
  rw [lg_entry_eq]
  generalize (lg_sl ([.ref qc, .int a0, .int a1]) ++ List.replicate (4 - (lg_sl ([.ref qc, .int a0, .int a1])).length) Slot.unset).toArray = ls at hl ⊢
  have hl : lv_has ls 4 [(0, .ref qc), (1, .int a0), (2, .int a1)] := hl
  refine lv_iload_n hx hb d_Co_set_0 rfl (lv_at hl 1 rfl) ?_
  refine lv_if_lt (tgt := 10) hx hb d_Co_set_1 (by decide) (fun c_1 => ?_) (fun c_1 => ?_)
  · skip
    have h := h.1 c_1
    exact zz_thr (E := "java/lang/IndexOutOfBoundsException") hx hb hl0 hT hown hE (by decide +kernel) xl_55 xi_55 hE.2.2.1.2.1 (zz_str_57 hE.2.2.1) xa_59 xb_59 xg_59 hP hD hS (by rw [hml]; exact hl.1) d_Co_set_10 d_Co_set_13 d_Co_set_14 d_Co_set_16 d_Co_set_19 htab (Nat.le_of_ble_eq_true rfl) (Nat.le_of_ble_eq_true rfl) (Nat.le_of_ble_eq_true rfl) (Nat.le_of_ble_eq_true rfl) hlocks (Nat.le_of_ble_eq_true rfl) (Nat.le_of_ble_eq_true rfl) (g, rg, hq, mf, cd, fg, L, O) rfl h
  · skip
    have h := h.2 c_1
    refine lv_iload_n hx hb d_Co_set_4 rfl (lv_at hl 1 rfl) ?_
    refine lv_bipush (v := 66) hx hb d_Co_set_5 (by decide) ?_
    refine lv_icmp_le (tgt := 20) hx hb d_Co_set_7 (by decide) (fun c_2 => ?_) (fun c_2 => ?_)
    · skip
      have h := h.1 c_2
      refine lv_aload_n hx hb d_Co_set_20 rfl (lv_at hl 0 rfl) ?_
      refine lv_iload_n hx hb d_Co_set_21 rfl (lv_at hl 1 rfl) ?_
      refine zz_Ri (As := [.int a0]) (rest := []) (wc := wC qc qp qr qh qm qw qu qf ql qo cI ms mn g rg hq mf cd fg L O) X hK hP (c_Co_held l D cI qc qp qr qh qm qw qu qf ql qo ms mn g rg hq mf cd fg L O a0 _ h) ⟨rfl, rfl⟩ m_Co_held k_Co_60 ⟨Nat.le_of_ble_eq_true rfl, Nat.le_of_ble_eq_true rfl⟩ [0, 1, 2, 3, 4, 5, 6, 7, 8, 9] rfl 5 0 rfl rfl rfl rfl hl.1 rfl (Nat.le_of_ble_eq_true rfl) d_Co_set_22 hf0 (fun r_3 h => ?_)
      refine lv_istore_n (lv' := [(3, .int r_3), (0, .ref qc), (1, .int a0), (2, .int a1)]) hx hb d_Co_set_25 rfl hl (by decide) rfl (fun ls hl => ?_)
      refine lv_aload_n hx hb d_Co_set_26 rfl (lv_at hl 1 rfl) ?_
      refine lv_iload_n hx hb d_Co_set_27 rfl (lv_at hl 2 rfl) ?_
      refine lv_iload_n hx hb d_Co_set_28 rfl (lv_at hl 3 rfl) ?_
      refine zz_Wv (As := [.int a0, .int a1]) (rest := []) (wc := wC qc qp qr qh qm qw qu qf ql qo cI ms mn g rg hq mf cd fg L O) (wr := []) X hK hP hD hS hA (c_Co_hold l D cI qc qp qr qh qm qw qu qf ql qo ms mn g rg hq mf cd fg L O a0 a1 _ h _) ⟨rfl, rfl⟩ m_Co_hold k_Co_64 ⟨Nat.le_of_ble_eq_true rfl, Nat.le_of_ble_eq_true rfl⟩ [0, 1, 2, 3, 4, 5, 6, 7, 8, 9] [] rfl rfl (by decide) (by decide) (by decide) 5 0 rfl rfl rfl rfl hl.1 rfl (Nat.le_of_ble_eq_true rfl) d_Co_set_29 hf0 (fun u_4 H locs h hP hD hS => ?_)
      have hP : va_P D vwCl (wC qc qp qr qh qm qw qu qf ql qo cI ms mn u_4.1 u_4.2.1 u_4.2.2.1 u_4.2.2.2.1 u_4.2.2.2.2.1 u_4.2.2.2.2.2.1 u_4.2.2.2.2.2.2.1 u_4.2.2.2.2.2.2.2) H := hP.sub [0, 1, 2, 3, 4, 5, 6, 7, 8, 9] rfl
      have hD : va_D A (wC qc qp qr qh qm qw qu qf ql qo cI ms mn u_4.1 u_4.2.1 u_4.2.2.1 u_4.2.2.2.1 u_4.2.2.2.2.1 u_4.2.2.2.2.2.1 u_4.2.2.2.2.2.2.1 u_4.2.2.2.2.2.2.2) := hD.sub [0, 1, 2, 3, 4, 5, 6, 7, 8, 9] (by decide) rfl
      refine lv_iload_n hx hb d_Co_set_32 rfl (lv_at hl 0 rfl) ?_
      refine W.widen (k := 1) (n := 6) (Nat.zero_le _) (Nat.zero_le _) ?_
      refine vx_ret ?_
      exact W.iret (v := r_3) hx hb hr (fun t ht hW => ⟨⟨r_3, (u_4.1, u_4.2.1, u_4.2.2.1, u_4.2.2.2.1, u_4.2.2.2.2.1, u_4.2.2.2.2.2.1, u_4.2.2.2.2.2.2.1, u_4.2.2.2.2.2.2.2), rfl, h, by rw [ht]; exact hP, hD⟩, hS.F ht⟩) hS.2.2 d_Co_set_33
    · skip
      have h := h.2 c_2
      exact zz_thr (E := "java/lang/IndexOutOfBoundsException") hx hb hl0 hT hown hE (by decide +kernel) xl_55 xi_55 hE.2.2.1.2.1 (zz_str_57 hE.2.2.1) xa_59 xb_59 xg_59 hP hD hS (by rw [hml]; exact hl.1) d_Co_set_10 d_Co_set_13 d_Co_set_14 d_Co_set_16 d_Co_set_19 htab (Nat.le_of_ble_eq_true rfl) (Nat.le_of_ble_eq_true rfl) (Nat.le_of_ble_eq_true rfl) (Nat.le_of_ble_eq_true rfl) hlocks (Nat.le_of_ble_eq_true rfl) (Nat.le_of_ble_eq_true rfl) (g, rg, hq, mf, cd, fg, L, O) rfl h
def wp_Co_get (ms : Int32) (mn : Nat) (g : Nat → Int32) (rg : Nat → Int32) (hq : Nat → Int32) (mf : Nat → Int32) (cd : Int32) (fg : Nat → Int32) (L : Int32 × Int32 × Int32 × Int64) (O : Int32 × Int32 × Int32 × Int64) (a0 : Int32) (P : Int32 → ((Nat → Int32) × (Nat → Int32) × (Nat → Int32) × (Nat → Int32) × Int32 × (Nat → Int32) × (Int32 × Int32 × Int32 × Int64) × (Int32 × Int32 × Int32 × Int64)) → Prop) (PX : String → ((Nat → Int32) × (Nat → Int32) × (Nat → Int32) × (Nat → Int32) × Int32 × (Nat → Int32) × (Int32 × Int32 × Int32 × Int64) × (Int32 × Int32 × Int32 × Int64)) → Prop) : Prop := ((a0 < (0 : Int32) → PX "java/lang/IndexOutOfBoundsException" (g, rg, hq, mf, cd, fg, L, O)) ∧ (¬ a0 < (0 : Int32) → ((a0 ≤ (66 : Int32) → ((a0 = (32 : Int32) → (((hq 2) = (0 : Int32) → PX "java/lang/IllegalStateException" (g, rg, hq, mf, cd, fg, L, O)) ∧ (¬ (hq 2) = (0 : Int32) → ((a0 = (33 : Int32) → (((hq 3) = (0 : Int32) → PX "java/lang/IllegalStateException" (g, rg, hq, mf, cd, fg, L, O)) ∧ (¬ (hq 3) = (0 : Int32) → wp_Co_held ms mn g rg hq mf cd fg L O a0 (fun r_12 => P r_12 (g, rg, hq, mf, cd, fg, L, O))))) ∧ (¬ a0 = (33 : Int32) → wp_Co_held ms mn g rg hq mf cd fg L O a0 (fun r_10 => P r_10 (g, rg, hq, mf, cd, fg, L, O))))))) ∧ (¬ a0 = (32 : Int32) → ((a0 = (33 : Int32) → (((hq 3) = (0 : Int32) → PX "java/lang/IllegalStateException" (g, rg, hq, mf, cd, fg, L, O)) ∧ (¬ (hq 3) = (0 : Int32) → wp_Co_held ms mn g rg hq mf cd fg L O a0 (fun r_7 => P r_7 (g, rg, hq, mf, cd, fg, L, O))))) ∧ (¬ a0 = (33 : Int32) → wp_Co_held ms mn g rg hq mf cd fg L O a0 (fun r_5 => P r_5 (g, rg, hq, mf, cd, fg, L, O))))))) ∧ (¬ a0 ≤ (66 : Int32) → PX "java/lang/IndexOutOfBoundsException" (g, rg, hq, mf, cd, fg, L, O)))))
abbrev rm_Co_get : Room := { frames := 6, cells := 1, slots := 6, locals := 90 }
set_option maxHeartbeats 4000000 in
set_option maxRecDepth 100000 in
theorem c_Co_get (l : Launch) (hl0 : l.stackTraces = false) (D : va_G) (cI : ClassId) (qc : Nat) (qp : Nat) (qr : Nat) (qh : Nat) (qm : Nat) (qw : Nat) (qu : Nat) (qf : Nat) (ql : Nat) (qo : Nat) (ms : Int32) (mn : Nat) (g : Nat → Int32) (rg : Nat → Int32) (hq : Nat → Int32) (mf : Nat → Int32) (cd : Int32) (fg : Nat → Int32) (L : Int32 × Int32 × Int32 × Int64) (O : Int32 × Int32 × Int32 × Int64) (a0 : Int32) (P : Int32 → ((Nat → Int32) × (Nat → Int32) × (Nat → Int32) × (Nat → Int32) × Int32 × (Nat → Int32) × (Int32 × Int32 × Int32 × Int64) × (Int32 × Int32 × Int32 × Int64)) → Prop) (PX : String → ((Nat → Int32) × (Nat → Int32) × (Nat → Int32) × (Nat → Int32) × Int32 × (Nat → Int32) × (Int32 × Int32 × Int32 × Int64) × (Int32 × Int32 × Int32 × Int64)) → Prop) (h : wp_Co_get ms mn g rg hq mf cd fg L O a0 P PX) (sz : Nat) : vx_Met l y_Co_get (zz_ws y_Co_get b_Co_get 2 (some .int)) rm_Co_get (va_Pc [.ref qc, .int a0] (zz_px D [(cI, .int)] (wC qc qp qr qh qm qw qu qf ql qo cI ms mn g rg hq mf cd fg L O) sz)) (va_Qi P (zz_qw D (fun u => wC qc qp qr qh qm qw qu qf ql qo cI ms mn u.1 u.2.1 u.2.2.1 u.2.2.2.1 u.2.2.2.2.1 u.2.2.2.2.2.1 u.2.2.2.2.2.2.1 u.2.2.2.2.2.2.2) (va_A (wC qc qp qr qh qm qw qu qf ql qo cI ms mn g rg hq mf cd fg L O) sz)) (va_A (wC qc qp qr qh qm qw qu qf ql qo cI ms mn g rg hq mf cd fg L O) sz)) (vx_X (fun _ : (Nat → Int32) × (Nat → Int32) × (Nat → Int32) × (Nat → Int32) × Int32 × (Nat → Int32) × (Int32 × Int32 × Int32 × Int64) × (Int32 × Int32 × Int32 × Int64) => True) (zz_xw D (fun u => wC qc qp qr qh qm qw qu qf ql qo cI ms mn u.1 u.2.1 u.2.2.1 u.2.2.2.1 u.2.2.2.2.1 u.2.2.2.2.2.1 u.2.2.2.2.2.2.1 u.2.2.2.2.2.2.2) (va_A (wC qc qp qr qh qm qw qu qf ql qo cI ms mn g rg hq mf cd fg L O) sz) PX) (va_A (wC qc qp qr qh qm qw qu qf ql qo cI ms mn g rg hq mf cd fg L O) sz)) 1 6 (va_A (wC qc qp qr qh qm qw qu qf ql qo cI ms mn g rg hq mf cd fg L O) sz) := by
  refine vx_ofW (cc := b_Co_get) (maxL := 2) (ret := (some .int)) (by decide) rfl ?_
  intro p e s m args below meth c s₁ B hml htab hv
  obtain ⟨rfl, ⟨hsz, hP, hK, hD0⟩, hE⟩ := hv
  have hx := B.exec
  have hb := B.bytes
  have hr := B.returns
  have hts := atoms_spec (ws := (zz_ws y_Co_get b_Co_get 2 (some .int))) B.pre
  have hown : s.vm.findClass R_Co = some m.cls := findClass_of_methodNamed B.named
  have hlocks := B.notSynchronized
  have hT := zz_hts hts
  have X : CallFix p m c b_Co_get 2 s ([.ref qc, .int a0] : List Value).toArray (zz_ws y_Co_get b_Co_get 2 (some .int)) R_Co := ⟨hx, hb, hml, hown, hts⟩
  have hf0 : 0 + 0 ≤ (headSpec (zz_ws y_Co_get b_Co_get 2 (some .int)) rm_Co_get).room.cells ∧ 0 + 0 ≤ (headSpec (zz_ws y_Co_get b_Co_get 2 (some .int)) rm_Co_get).room.slots := ⟨Nat.le_of_ble_eq_true rfl, Nat.le_of_ble_eq_true rfl⟩
  subst hsz
  have hD := hD0.self (sz := s.heap.size)
  generalize hAe : va_A (wC qc qp qr qh qm qw qu qf ql qo cI ms mn g rg hq mf cd fg L O) s.heap.size = A at hD hE ⊢
  have hA : ∀ q : Nat, s.heap.size ≤ q → A q := fun q h => by rw [← hAe]; exact Or.inr h
  have hS : va_S A s.heap s.heap [] := va_S.rf
  have hl := lv_entry ([.ref qc, .int a0]) (n := 2) (Nat.le_of_ble_eq_true rfl)
  rw [lg_entry_eq]
  generalize (lg_sl ([.ref qc, .int a0]) ++ List.replicate (2 - (lg_sl ([.ref qc, .int a0])).length) Slot.unset).toArray = ls at hl ⊢
  have hl : lv_has ls 2 [(0, .ref qc), (1, .int a0)] := hl
  refine lv_iload_n hx hb d_Co_get_0 rfl (lv_at hl 1 rfl) ?_
  refine lv_if_lt (tgt := 10) hx hb d_Co_get_1 (by decide) (fun c_1 => ?_) (fun c_1 => ?_)
  · skip
    have h := h.1 c_1
    exact zz_thr (E := "java/lang/IndexOutOfBoundsException") hx hb hl0 hT hown hE (by decide +kernel) xl_55 xi_55 hE.2.2.1.2.1 (zz_str_57 hE.2.2.1) xa_59 xb_59 xg_59 hP hD hS (by rw [hml]; exact hl.1) d_Co_get_10 d_Co_get_13 d_Co_get_14 d_Co_get_16 d_Co_get_19 htab (Nat.le_of_ble_eq_true rfl) (Nat.le_of_ble_eq_true rfl) (Nat.le_of_ble_eq_true rfl) (Nat.le_of_ble_eq_true rfl) hlocks (Nat.le_of_ble_eq_true rfl) (Nat.le_of_ble_eq_true rfl) (g, rg, hq, mf, cd, fg, L, O) rfl h
  · skip
    have h := h.2 c_1
    refine lv_iload_n hx hb d_Co_get_4 rfl (lv_at hl 1 rfl) ?_
    refine lv_bipush (v := 66) hx hb d_Co_get_5 (by decide) ?_
    refine lv_icmp_le (tgt := 20) hx hb d_Co_get_7 (by decide) (fun c_2 => ?_) (fun c_2 => ?_)
    · skip
      have h := h.1 c_2
      refine lv_iload_n hx hb d_Co_get_20 rfl (lv_at hl 1 rfl) ?_
      refine lv_bipush (v := 32) hx hb d_Co_get_21 (by decide) ?_
      refine lv_icmp_ne (tgt := 39) hx hb d_Co_get_23 (by decide) (fun c_3 => ?_) (fun c_3 => ?_)
      · skip
        have h := h.2 c_3
        refine lv_iload_n hx hb d_Co_get_39 rfl (lv_at hl 1 rfl) ?_
        refine lv_bipush (v := 33) hx hb d_Co_get_40 (by decide) ?_
        refine lv_icmp_ne (tgt := 68) hx hb d_Co_get_42 (by decide) (fun c_4 => ?_) (fun c_4 => ?_)
        · skip
          have h := h.2 c_4
          refine lv_aload_n hx hb d_Co_get_68 rfl (lv_at hl 0 rfl) ?_
          refine lv_iload_n hx hb d_Co_get_69 rfl (lv_at hl 1 rfl) ?_
          refine zz_Ri (As := [.int a0]) (rest := []) (wc := wC qc qp qr qh qm qw qu qf ql qo cI ms mn g rg hq mf cd fg L O) X hK hP (c_Co_held l D cI qc qp qr qh qm qw qu qf ql qo ms mn g rg hq mf cd fg L O a0 _ h) ⟨rfl, rfl⟩ m_Co_held k_Co_60 ⟨Nat.le_of_ble_eq_true rfl, Nat.le_of_ble_eq_true rfl⟩ [0, 1, 2, 3, 4, 5, 6, 7, 8, 9] rfl 5 0 rfl rfl rfl rfl hl.1 rfl (Nat.le_of_ble_eq_true rfl) d_Co_get_70 hf0 (fun r_5 h => ?_)
          refine W.widen (k := 1) (n := 6) (Nat.zero_le _) (Nat.zero_le _) ?_
          refine vx_ret ?_
          exact W.iret (v := r_5) hx hb hr (fun t ht hW => ⟨⟨r_5, (g, rg, hq, mf, cd, fg, L, O), rfl, h, by rw [ht]; exact hP, hD⟩, hS.F ht⟩) hS.2.2 d_Co_get_73
        · skip
          have h := h.1 c_4
          refine lv_aload_n hx hb d_Co_get_45 rfl (lv_at hl 0 rfl) ?_
          refine g_Co_23 (v := .ref qp) hx hb hT hown hK hP 0 rfl rfl d_Co_get_46 ?_
          refine g_Co_68 (v := .ref qh) hx hb hT hown hK hP 1 rfl rfl d_Co_get_49 ?_
          refine g_Co_78 (v := .int (hq 3)) hx hb hT hown hK hP 3 rfl rfl d_Co_get_52 ?_
          refine lv_if_ne (tgt := 68) hx hb d_Co_get_55 (by decide) (fun c_6 => ?_) (fun c_6 => ?_)
          · skip
            have h := h.2 c_6
            refine lv_aload_n hx hb d_Co_get_68 rfl (lv_at hl 0 rfl) ?_
            refine lv_iload_n hx hb d_Co_get_69 rfl (lv_at hl 1 rfl) ?_
            refine zz_Ri (As := [.int a0]) (rest := []) (wc := wC qc qp qr qh qm qw qu qf ql qo cI ms mn g rg hq mf cd fg L O) X hK hP (c_Co_held l D cI qc qp qr qh qm qw qu qf ql qo ms mn g rg hq mf cd fg L O a0 _ h) ⟨rfl, rfl⟩ m_Co_held k_Co_60 ⟨Nat.le_of_ble_eq_true rfl, Nat.le_of_ble_eq_true rfl⟩ [0, 1, 2, 3, 4, 5, 6, 7, 8, 9] rfl 5 0 rfl rfl rfl rfl hl.1 rfl (Nat.le_of_ble_eq_true rfl) d_Co_get_70 hf0 (fun r_7 h => ?_)
            refine W.widen (k := 1) (n := 6) (Nat.zero_le _) (Nat.zero_le _) ?_
            refine vx_ret ?_
            exact W.iret (v := r_7) hx hb hr (fun t ht hW => ⟨⟨r_7, (g, rg, hq, mf, cd, fg, L, O), rfl, h, by rw [ht]; exact hP, hD⟩, hS.F ht⟩) hS.2.2 d_Co_get_73
          · skip
            have h := h.1 c_6
            exact zz_thr (E := "java/lang/IllegalStateException") hx hb hl0 hT hown hE (by decide +kernel) xl_81 xi_81 hE.2.2.1.2.2.1 (zz_str_83 hE.2.2.1) xa_85 xb_85 xg_85 hP hD hS (by rw [hml]; exact hl.1) d_Co_get_58 d_Co_get_61 d_Co_get_62 d_Co_get_64 d_Co_get_67 htab (Nat.le_of_ble_eq_true rfl) (Nat.le_of_ble_eq_true rfl) (Nat.le_of_ble_eq_true rfl) (Nat.le_of_ble_eq_true rfl) hlocks (Nat.le_of_ble_eq_true rfl) (Nat.le_of_ble_eq_true rfl) (g, rg, hq, mf, cd, fg, L, O) rfl h
      · skip
        have h := h.1 c_3
        refine lv_aload_n hx hb d_Co_get_26 rfl (lv_at hl 0 rfl) ?_
        refine g_Co_23 (v := .ref qp) hx hb hT hown hK hP 0 rfl rfl d_Co_get_27 ?_
        refine g_Co_68 (v := .ref qh) hx hb hT hown hK hP 1 rfl rfl d_Co_get_30 ?_
        refine g_Co_72 (v := .int (hq 2)) hx hb hT hown hK hP 3 rfl rfl d_Co_get_33 ?_
        refine lv_if_eq (tgt := 58) hx hb d_Co_get_36 (by decide) (fun c_8 => ?_) (fun c_8 => ?_)
        · skip
          have h := h.1 c_8
          exact zz_thr (E := "java/lang/IllegalStateException") hx hb hl0 hT hown hE (by decide +kernel) xl_81 xi_81 hE.2.2.1.2.2.1 (zz_str_83 hE.2.2.1) xa_85 xb_85 xg_85 hP hD hS (by rw [hml]; exact hl.1) d_Co_get_58 d_Co_get_61 d_Co_get_62 d_Co_get_64 d_Co_get_67 htab (Nat.le_of_ble_eq_true rfl) (Nat.le_of_ble_eq_true rfl) (Nat.le_of_ble_eq_true rfl) (Nat.le_of_ble_eq_true rfl) hlocks (Nat.le_of_ble_eq_true rfl) (Nat.le_of_ble_eq_true rfl) (g, rg, hq, mf, cd, fg, L, O) rfl h
        · skip
          have h := h.2 c_8
          refine lv_iload_n hx hb d_Co_get_39 rfl (lv_at hl 1 rfl) ?_
          refine lv_bipush (v := 33) hx hb d_Co_get_40 (by decide) ?_
          refine lv_icmp_ne (tgt := 68) hx hb d_Co_get_42 (by decide) (fun c_9 => ?_) (fun c_9 => ?_)
          · skip
            have h := h.2 c_9
            refine lv_aload_n hx hb d_Co_get_68 rfl (lv_at hl 0 rfl) ?_
            refine lv_iload_n hx hb d_Co_get_69 rfl (lv_at hl 1 rfl) ?_
            refine zz_Ri (As := [.int a0]) (rest := []) (wc := wC qc qp qr qh qm qw qu qf ql qo cI ms mn g rg hq mf cd fg L O) X hK hP (c_Co_held l D cI qc qp qr qh qm qw qu qf ql qo ms mn g rg hq mf cd fg L O a0 _ h) ⟨rfl, rfl⟩ m_Co_held k_Co_60 ⟨Nat.le_of_ble_eq_true rfl, Nat.le_of_ble_eq_true rfl⟩ [0, 1, 2, 3, 4, 5, 6, 7, 8, 9] rfl 5 0 rfl rfl rfl rfl hl.1 rfl (Nat.le_of_ble_eq_true rfl) d_Co_get_70 hf0 (fun r_10 h => ?_)
            refine W.widen (k := 1) (n := 6) (Nat.zero_le _) (Nat.zero_le _) ?_
            refine vx_ret ?_
            exact W.iret (v := r_10) hx hb hr (fun t ht hW => ⟨⟨r_10, (g, rg, hq, mf, cd, fg, L, O), rfl, h, by rw [ht]; exact hP, hD⟩, hS.F ht⟩) hS.2.2 d_Co_get_73
          · skip
            have h := h.1 c_9
            refine lv_aload_n hx hb d_Co_get_45 rfl (lv_at hl 0 rfl) ?_
            refine g_Co_23 (v := .ref qp) hx hb hT hown hK hP 0 rfl rfl d_Co_get_46 ?_
            refine g_Co_68 (v := .ref qh) hx hb hT hown hK hP 1 rfl rfl d_Co_get_49 ?_
            refine g_Co_78 (v := .int (hq 3)) hx hb hT hown hK hP 3 rfl rfl d_Co_get_52 ?_
            refine lv_if_ne (tgt := 68) hx hb d_Co_get_55 (by decide) (fun c_11 => ?_) (fun c_11 => ?_)
            · skip
              have h := h.2 c_11
              refine lv_aload_n hx hb d_Co_get_68 rfl (lv_at hl 0 rfl) ?_
              refine lv_iload_n hx hb d_Co_get_69 rfl (lv_at hl 1 rfl) ?_
              refine zz_Ri (As := [.int a0]) (rest := []) (wc := wC qc qp qr qh qm qw qu qf ql qo cI ms mn g rg hq mf cd fg L O) X hK hP (c_Co_held l D cI qc qp qr qh qm qw qu qf ql qo ms mn g rg hq mf cd fg L O a0 _ h) ⟨rfl, rfl⟩ m_Co_held k_Co_60 ⟨Nat.le_of_ble_eq_true rfl, Nat.le_of_ble_eq_true rfl⟩ [0, 1, 2, 3, 4, 5, 6, 7, 8, 9] rfl 5 0 rfl rfl rfl rfl hl.1 rfl (Nat.le_of_ble_eq_true rfl) d_Co_get_70 hf0 (fun r_12 h => ?_)
              refine W.widen (k := 1) (n := 6) (Nat.zero_le _) (Nat.zero_le _) ?_
              refine vx_ret ?_
              exact W.iret (v := r_12) hx hb hr (fun t ht hW => ⟨⟨r_12, (g, rg, hq, mf, cd, fg, L, O), rfl, h, by rw [ht]; exact hP, hD⟩, hS.F ht⟩) hS.2.2 d_Co_get_73
            · skip
              have h := h.1 c_11
              exact zz_thr (E := "java/lang/IllegalStateException") hx hb hl0 hT hown hE (by decide +kernel) xl_81 xi_81 hE.2.2.1.2.2.1 (zz_str_83 hE.2.2.1) xa_85 xb_85 xg_85 hP hD hS (by rw [hml]; exact hl.1) d_Co_get_58 d_Co_get_61 d_Co_get_62 d_Co_get_64 d_Co_get_67 htab (Nat.le_of_ble_eq_true rfl) (Nat.le_of_ble_eq_true rfl) (Nat.le_of_ble_eq_true rfl) (Nat.le_of_ble_eq_true rfl) hlocks (Nat.le_of_ble_eq_true rfl) (Nat.le_of_ble_eq_true rfl) (g, rg, hq, mf, cd, fg, L, O) rfl h
    · skip
      have h := h.2 c_2
      exact zz_thr (E := "java/lang/IndexOutOfBoundsException") hx hb hl0 hT hown hE (by decide +kernel) xl_55 xi_55 hE.2.2.1.2.1 (zz_str_57 hE.2.2.1) xa_59 xb_59 xg_59 hP hD hS (by rw [hml]; exact hl.1) d_Co_get_10 d_Co_get_13 d_Co_get_14 d_Co_get_16 d_Co_get_19 htab (Nat.le_of_ble_eq_true rfl) (Nat.le_of_ble_eq_true rfl) (Nat.le_of_ble_eq_true rfl) (Nat.le_of_ble_eq_true rfl) hlocks (Nat.le_of_ble_eq_true rfl) (Nat.le_of_ble_eq_true rfl) (g, rg, hq, mf, cd, fg, L, O) rfl h
def wp_Co_pass (ms : Int32) (mn : Nat) (g : Nat → Int32) (rg : Nat → Int32) (hq : Nat → Int32) (mf : Nat → Int32) (cd : Int32) (fg : Nat → Int32) (L : Int32 × Int32 × Int32 × Int64) (O : Int32 × Int32 × Int32 × Int64) (P : Int32 → ((Nat → Int32) × (Nat → Int32) × (Nat → Int32) × (Nat → Int32) × Int32 × (Nat → Int32) × (Int32 × Int32 × Int32 × Int64) × (Int32 × Int32 × Int32 × Int64)) → Prop) (PX : String → ((Nat → Int32) × (Nat → Int32) × (Nat → Int32) × (Nat → Int32) × Int32 × (Nat → Int32) × (Int32 × Int32 × Int32 × Int64) × (Int32 × Int32 × Int32 × Int64)) → Prop) : Prop := (((g 5) = (6 : Int32) → wp_Pr_stepOver ms mn g rg hq mf cd fg L O (fun u_2 => P (u_2.1 6) (u_2.1, u_2.2.1, u_2.2.2.1, u_2.2.2.2.1, u_2.2.2.2.2.1, u_2.2.2.2.2.2.1, u_2.2.2.2.2.2.2.1, u_2.2.2.2.2.2.2.2))) ∧ (¬ (g 5) = (6 : Int32) → (((g 5) = (7 : Int32) → wp_Pr_stepOver ms mn g rg hq mf cd fg L O (fun u_5 => P (u_5.1 6) (u_5.1, u_5.2.1, u_5.2.2.1, u_5.2.2.2.1, u_5.2.2.2.2.1, u_5.2.2.2.2.2.1, u_5.2.2.2.2.2.2.1, u_5.2.2.2.2.2.2.2))) ∧ (¬ (g 5) = (7 : Int32) → PX "java/lang/IllegalStateException" (g, rg, hq, mf, cd, fg, L, O)))))
abbrev rm_Co_pass : Room := { frames := 6, cells := 1, slots := 6, locals := 90 }
set_option maxHeartbeats 4000000 in
set_option maxRecDepth 100000 in
theorem c_Co_pass (l : Launch) (hl0 : l.stackTraces = false) (D : va_G) (cI : ClassId) (qc : Nat) (qp : Nat) (qr : Nat) (qh : Nat) (qm : Nat) (qw : Nat) (qu : Nat) (qf : Nat) (ql : Nat) (qo : Nat) (ms : Int32) (mn : Nat) (g : Nat → Int32) (rg : Nat → Int32) (hq : Nat → Int32) (mf : Nat → Int32) (cd : Int32) (fg : Nat → Int32) (L : Int32 × Int32 × Int32 × Int64) (O : Int32 × Int32 × Int32 × Int64) (P : Int32 → ((Nat → Int32) × (Nat → Int32) × (Nat → Int32) × (Nat → Int32) × Int32 × (Nat → Int32) × (Int32 × Int32 × Int32 × Int64) × (Int32 × Int32 × Int32 × Int64)) → Prop) (PX : String → ((Nat → Int32) × (Nat → Int32) × (Nat → Int32) × (Nat → Int32) × Int32 × (Nat → Int32) × (Int32 × Int32 × Int32 × Int64) × (Int32 × Int32 × Int32 × Int64)) → Prop) (h : wp_Co_pass ms mn g rg hq mf cd fg L O P PX) (sz : Nat) : vx_Met l y_Co_pass (zz_ws y_Co_pass b_Co_pass 1 (some .int)) rm_Co_pass (va_Pc [.ref qc] (zz_px D [(cI, .int)] (wC qc qp qr qh qm qw qu qf ql qo cI ms mn g rg hq mf cd fg L O) sz)) (va_Qi P (zz_qw D (fun u => wC qc qp qr qh qm qw qu qf ql qo cI ms mn u.1 u.2.1 u.2.2.1 u.2.2.2.1 u.2.2.2.2.1 u.2.2.2.2.2.1 u.2.2.2.2.2.2.1 u.2.2.2.2.2.2.2) (va_A (wC qc qp qr qh qm qw qu qf ql qo cI ms mn g rg hq mf cd fg L O) sz)) (va_A (wC qc qp qr qh qm qw qu qf ql qo cI ms mn g rg hq mf cd fg L O) sz)) (vx_X (fun _ : (Nat → Int32) × (Nat → Int32) × (Nat → Int32) × (Nat → Int32) × Int32 × (Nat → Int32) × (Int32 × Int32 × Int32 × Int64) × (Int32 × Int32 × Int32 × Int64) => True) (zz_xw D (fun u => wC qc qp qr qh qm qw qu qf ql qo cI ms mn u.1 u.2.1 u.2.2.1 u.2.2.2.1 u.2.2.2.2.1 u.2.2.2.2.2.1 u.2.2.2.2.2.2.1 u.2.2.2.2.2.2.2) (va_A (wC qc qp qr qh qm qw qu qf ql qo cI ms mn g rg hq mf cd fg L O) sz) PX) (va_A (wC qc qp qr qh qm qw qu qf ql qo cI ms mn g rg hq mf cd fg L O) sz)) 1 6 (va_A (wC qc qp qr qh qm qw qu qf ql qo cI ms mn g rg hq mf cd fg L O) sz) := by
  refine vx_ofW (cc := b_Co_pass) (maxL := 1) (ret := (some .int)) (by decide) rfl ?_
  intro p e s m args below meth c s₁ B hml htab hv
  obtain ⟨rfl, ⟨hsz, hP, hK, hD0⟩, hE⟩ := hv
  have hx := B.exec
  have hb := B.bytes
  have hr := B.returns
  have hts := atoms_spec (ws := (zz_ws y_Co_pass b_Co_pass 1 (some .int))) B.pre
  have hown : s.vm.findClass R_Co = some m.cls := findClass_of_methodNamed B.named
  have hlocks := B.notSynchronized
  have hT := zz_hts hts
  have X : CallFix p m c b_Co_pass 1 s ([.ref qc] : List Value).toArray (zz_ws y_Co_pass b_Co_pass 1 (some .int)) R_Co := ⟨hx, hb, hml, hown, hts⟩
  have hf0 : 0 + 0 ≤ (headSpec (zz_ws y_Co_pass b_Co_pass 1 (some .int)) rm_Co_pass).room.cells ∧ 0 + 0 ≤ (headSpec (zz_ws y_Co_pass b_Co_pass 1 (some .int)) rm_Co_pass).room.slots := ⟨Nat.le_of_ble_eq_true rfl, Nat.le_of_ble_eq_true rfl⟩
  subst hsz
  have hD := hD0.self (sz := s.heap.size)
  generalize hAe : va_A (wC qc qp qr qh qm qw qu qf ql qo cI ms mn g rg hq mf cd fg L O) s.heap.size = A at hD hE ⊢
  have hA : ∀ q : Nat, s.heap.size ≤ q → A q := fun q h => by rw [← hAe]; exact Or.inr h
  have hS : va_S A s.heap s.heap [] := va_S.rf
  have hl := lv_entry ([.ref qc]) (n := 1) (Nat.le_of_ble_eq_true rfl)
  rw [lg_entry_eq]
  generalize (lg_sl ([.ref qc]) ++ List.replicate (1 - (lg_sl ([.ref qc])).length) Slot.unset).toArray = ls at hl ⊢
  have hl : lv_has ls 1 [(0, .ref qc)] := hl
  refine lv_aload_n hx hb d_Co_pass_0 rfl (lv_at hl 0 rfl) ?_
  refine g_Co_23 (v := .ref qp) hx hb hT hown hK hP 0 rfl rfl d_Co_pass_1 ?_
  refine g_Co_88 (v := .int (g 5)) hx hb hT hown hK hP 1 rfl rfl d_Co_pass_4 ?_
  refine lv_bipush (v := 6) hx hb d_Co_pass_7 (by decide) ?_
  refine lv_icmp_eq (tgt := 34) hx hb d_Co_pass_9 (by decide) (fun c_1 => ?_) (fun c_1 => ?_)
  · skip
    have h := h.1 c_1
    refine lv_aload_n hx hb d_Co_pass_34 rfl (lv_at hl 0 rfl) ?_
    refine g_Co_23 (v := .ref qp) hx hb hT hown hK hP 0 rfl rfl d_Co_pass_35 ?_
    refine zz_Wv (As := []) (rest := []) (wc := wP qp qr qh qm qw qu qf ql qo cI ms mn g rg hq mf cd fg L O) (wr := [(qc, .inr (5, [.ref qm, .ref qp]))]) X hK hP hD hS hA (c_Pr_stepOver l D cI qp qr qh qm qw qu qf ql qo ms mn g rg hq mf cd fg L O _ h _) ⟨rfl, rfl⟩ m_Pr_stepOver k_Co_98 ⟨Nat.le_of_ble_eq_true rfl, Nat.le_of_ble_eq_true rfl⟩ [1, 2, 3, 4, 5, 6, 7, 8, 9] [0] rfl rfl (by decide) (by decide) (by decide) 4 1 rfl rfl rfl rfl hl.1 rfl (Nat.le_of_ble_eq_true rfl) d_Co_pass_38 hf0 (fun u_2 H locs h hP hD hS => ?_)
    have hP : va_P D vwCl (wC qc qp qr qh qm qw qu qf ql qo cI ms mn u_2.1 u_2.2.1 u_2.2.2.1 u_2.2.2.2.1 u_2.2.2.2.2.1 u_2.2.2.2.2.2.1 u_2.2.2.2.2.2.2.1 u_2.2.2.2.2.2.2.2) H := hP.sub [0, 1, 2, 3, 4, 5, 6, 7, 8, 9] rfl
    have hD : va_D A (wC qc qp qr qh qm qw qu qf ql qo cI ms mn u_2.1 u_2.2.1 u_2.2.2.1 u_2.2.2.2.1 u_2.2.2.2.2.1 u_2.2.2.2.2.2.1 u_2.2.2.2.2.2.2.1 u_2.2.2.2.2.2.2.2) := hD.sub [0, 1, 2, 3, 4, 5, 6, 7, 8, 9] (by decide) rfl
    refine lv_aload_n hx hb d_Co_pass_41 rfl (lv_at hl 0 rfl) ?_
    refine g_Co_23 (v := .ref qp) hx hb hT hown hK hP 0 rfl rfl d_Co_pass_42 ?_
    refine g_Co_101 (v := .int (u_2.1 6)) hx hb hT hown hK hP 1 rfl rfl d_Co_pass_45 ?_
    refine W.widen (k := 1) (n := 6) (Nat.zero_le _) (Nat.zero_le _) ?_
    refine vx_ret ?_
    exact W.iret (v := (u_2.1 6)) hx hb hr (fun t ht hW => ⟨⟨(u_2.1 6), (u_2.1, u_2.2.1, u_2.2.2.1, u_2.2.2.2.1, u_2.2.2.2.2.1, u_2.2.2.2.2.2.1, u_2.2.2.2.2.2.2.1, u_2.2.2.2.2.2.2.2), rfl, h, by rw [ht]; exact hP, hD⟩, hS.F ht⟩) hS.2.2 d_Co_pass_48
  · skip
    have h := h.2 c_1
    refine lv_aload_n hx hb d_Co_pass_12 rfl (lv_at hl 0 rfl) ?_
    refine g_Co_23 (v := .ref qp) hx hb hT hown hK hP 0 rfl rfl d_Co_pass_13 ?_
    refine g_Co_88 (v := .int (g 5)) hx hb hT hown hK hP 1 rfl rfl d_Co_pass_16 ?_
    refine lv_bipush (v := 7) hx hb d_Co_pass_19 (by decide) ?_
    refine lv_icmp_eq (tgt := 34) hx hb d_Co_pass_21 (by decide) (fun c_4 => ?_) (fun c_4 => ?_)
    · skip
      have h := h.1 c_4
      refine lv_aload_n hx hb d_Co_pass_34 rfl (lv_at hl 0 rfl) ?_
      refine g_Co_23 (v := .ref qp) hx hb hT hown hK hP 0 rfl rfl d_Co_pass_35 ?_
      refine zz_Wv (As := []) (rest := []) (wc := wP qp qr qh qm qw qu qf ql qo cI ms mn g rg hq mf cd fg L O) (wr := [(qc, .inr (5, [.ref qm, .ref qp]))]) X hK hP hD hS hA (c_Pr_stepOver l D cI qp qr qh qm qw qu qf ql qo ms mn g rg hq mf cd fg L O _ h _) ⟨rfl, rfl⟩ m_Pr_stepOver k_Co_98 ⟨Nat.le_of_ble_eq_true rfl, Nat.le_of_ble_eq_true rfl⟩ [1, 2, 3, 4, 5, 6, 7, 8, 9] [0] rfl rfl (by decide) (by decide) (by decide) 4 1 rfl rfl rfl rfl hl.1 rfl (Nat.le_of_ble_eq_true rfl) d_Co_pass_38 hf0 (fun u_5 H locs h hP hD hS => ?_)
      have hP : va_P D vwCl (wC qc qp qr qh qm qw qu qf ql qo cI ms mn u_5.1 u_5.2.1 u_5.2.2.1 u_5.2.2.2.1 u_5.2.2.2.2.1 u_5.2.2.2.2.2.1 u_5.2.2.2.2.2.2.1 u_5.2.2.2.2.2.2.2) H := hP.sub [0, 1, 2, 3, 4, 5, 6, 7, 8, 9] rfl
      have hD : va_D A (wC qc qp qr qh qm qw qu qf ql qo cI ms mn u_5.1 u_5.2.1 u_5.2.2.1 u_5.2.2.2.1 u_5.2.2.2.2.1 u_5.2.2.2.2.2.1 u_5.2.2.2.2.2.2.1 u_5.2.2.2.2.2.2.2) := hD.sub [0, 1, 2, 3, 4, 5, 6, 7, 8, 9] (by decide) rfl
      refine lv_aload_n hx hb d_Co_pass_41 rfl (lv_at hl 0 rfl) ?_
      refine g_Co_23 (v := .ref qp) hx hb hT hown hK hP 0 rfl rfl d_Co_pass_42 ?_
      refine g_Co_101 (v := .int (u_5.1 6)) hx hb hT hown hK hP 1 rfl rfl d_Co_pass_45 ?_
      refine W.widen (k := 1) (n := 6) (Nat.zero_le _) (Nat.zero_le _) ?_
      refine vx_ret ?_
      exact W.iret (v := (u_5.1 6)) hx hb hr (fun t ht hW => ⟨⟨(u_5.1 6), (u_5.1, u_5.2.1, u_5.2.2.1, u_5.2.2.2.1, u_5.2.2.2.2.1, u_5.2.2.2.2.2.1, u_5.2.2.2.2.2.2.1, u_5.2.2.2.2.2.2.2), rfl, h, by rw [ht]; exact hP, hD⟩, hS.F ht⟩) hS.2.2 d_Co_pass_48
    · skip
      have h := h.2 c_4
      exact zz_thr (E := "java/lang/IllegalStateException") hx hb hl0 hT hown hE (by decide +kernel) xl_81 xi_81 hE.2.2.1.2.2.1 (zz_str_96 hE.2.2.1) xa_85 xb_85 xg_85 hP hD hS (by rw [hml]; exact hl.1) d_Co_pass_24 d_Co_pass_27 d_Co_pass_28 d_Co_pass_30 d_Co_pass_33 htab (Nat.le_of_ble_eq_true rfl) (Nat.le_of_ble_eq_true rfl) (Nat.le_of_ble_eq_true rfl) (Nat.le_of_ble_eq_true rfl) hlocks (Nat.le_of_ble_eq_true rfl) (Nat.le_of_ble_eq_true rfl) (g, rg, hq, mf, cd, fg, L, O) rfl h
def wp_Co_state (ms : Int32) (mn : Nat) (g : Nat → Int32) (rg : Nat → Int32) (hq : Nat → Int32) (mf : Nat → Int32) (cd : Int32) (fg : Nat → Int32) (L : Int32 × Int32 × Int32 × Int64) (O : Int32 × Int32 × Int32 × Int64) (a0 : Int32) (P : Int32 → ((Nat → Int32) × (Nat → Int32) × (Nat → Int32) × (Nat → Int32) × Int32 × (Nat → Int32) × (Int32 × Int32 × Int32 × Int64) × (Int32 × Int32 × Int32 × Int64)) → Prop) (PX : String → ((Nat → Int32) × (Nat → Int32) × (Nat → Int32) × (Nat → Int32) × Int32 × (Nat → Int32) × (Int32 × Int32 × Int32 × Int64) × (Int32 × Int32 × Int32 × Int64)) → Prop) : Prop := (((a0 = (0 : Int32)) → P (g 0) (g, rg, hq, mf, cd, fg, L, O)) ∧ (¬ (a0 = (0 : Int32)) → (((a0 = (1 : Int32)) → P (g 1) (g, rg, hq, mf, cd, fg, L, O)) ∧ (¬ (a0 = (1 : Int32)) → (((a0 = (2 : Int32)) → (((g 2) = (0 : Int32) → P (0 : Int32) (g, rg, hq, mf, cd, fg, L, O)) ∧ (¬ (g 2) = (0 : Int32) → P (1 : Int32) (g, rg, hq, mf, cd, fg, L, O)))) ∧ (¬ (a0 = (2 : Int32)) → (((a0 = (3 : Int32)) → P (g 7) (g, rg, hq, mf, cd, fg, L, O)) ∧ (¬ (a0 = (3 : Int32)) → (((a0 = (4 : Int32)) → P (g 8) (g, rg, hq, mf, cd, fg, L, O)) ∧ (¬ (a0 = (4 : Int32)) → (((a0 = (5 : Int32)) → P (g 9) (g, rg, hq, mf, cd, fg, L, O)) ∧ (¬ (a0 = (5 : Int32)) → (((a0 = (6 : Int32)) → P (g 10) (g, rg, hq, mf, cd, fg, L, O)) ∧ (¬ (a0 = (6 : Int32)) → (((a0 = (7 : Int32)) → P (g 11) (g, rg, hq, mf, cd, fg, L, O)) ∧ (¬ (a0 = (7 : Int32)) → PX "java/lang/IndexOutOfBoundsException" (g, rg, hq, mf, cd, fg, L, O)))))))))))))))))
abbrev rm_Co_state : Room := { frames := 6, cells := 1, slots := 6, locals := 90 }
set_option maxHeartbeats 4000000 in
set_option maxRecDepth 100000 in
theorem c_Co_state (l : Launch) (hl0 : l.stackTraces = false) (D : va_G) (cI : ClassId) (qc : Nat) (qp : Nat) (qr : Nat) (qh : Nat) (qm : Nat) (qw : Nat) (qu : Nat) (qf : Nat) (ql : Nat) (qo : Nat) (ms : Int32) (mn : Nat) (g : Nat → Int32) (rg : Nat → Int32) (hq : Nat → Int32) (mf : Nat → Int32) (cd : Int32) (fg : Nat → Int32) (L : Int32 × Int32 × Int32 × Int64) (O : Int32 × Int32 × Int32 × Int64) (a0 : Int32) (P : Int32 → ((Nat → Int32) × (Nat → Int32) × (Nat → Int32) × (Nat → Int32) × Int32 × (Nat → Int32) × (Int32 × Int32 × Int32 × Int64) × (Int32 × Int32 × Int32 × Int64)) → Prop) (PX : String → ((Nat → Int32) × (Nat → Int32) × (Nat → Int32) × (Nat → Int32) × Int32 × (Nat → Int32) × (Int32 × Int32 × Int32 × Int64) × (Int32 × Int32 × Int32 × Int64)) → Prop) (h : wp_Co_state ms mn g rg hq mf cd fg L O a0 P PX) (sz : Nat) : vx_Met l y_Co_state (zz_ws y_Co_state b_Co_state 2 (some .int)) rm_Co_state (va_Pc [.ref qc, .int a0] (zz_px D [(cI, .int)] (wC qc qp qr qh qm qw qu qf ql qo cI ms mn g rg hq mf cd fg L O) sz)) (va_Qi P (zz_qw D (fun u => wC qc qp qr qh qm qw qu qf ql qo cI ms mn u.1 u.2.1 u.2.2.1 u.2.2.2.1 u.2.2.2.2.1 u.2.2.2.2.2.1 u.2.2.2.2.2.2.1 u.2.2.2.2.2.2.2) (va_A (wC qc qp qr qh qm qw qu qf ql qo cI ms mn g rg hq mf cd fg L O) sz)) (va_A (wC qc qp qr qh qm qw qu qf ql qo cI ms mn g rg hq mf cd fg L O) sz)) (vx_X (fun _ : (Nat → Int32) × (Nat → Int32) × (Nat → Int32) × (Nat → Int32) × Int32 × (Nat → Int32) × (Int32 × Int32 × Int32 × Int64) × (Int32 × Int32 × Int32 × Int64) => True) (zz_xw D (fun u => wC qc qp qr qh qm qw qu qf ql qo cI ms mn u.1 u.2.1 u.2.2.1 u.2.2.2.1 u.2.2.2.2.1 u.2.2.2.2.2.1 u.2.2.2.2.2.2.1 u.2.2.2.2.2.2.2) (va_A (wC qc qp qr qh qm qw qu qf ql qo cI ms mn g rg hq mf cd fg L O) sz) PX) (va_A (wC qc qp qr qh qm qw qu qf ql qo cI ms mn g rg hq mf cd fg L O) sz)) 1 6 (va_A (wC qc qp qr qh qm qw qu qf ql qo cI ms mn g rg hq mf cd fg L O) sz) := by
  refine vx_ofW (cc := b_Co_state) (maxL := 2) (ret := (some .int)) (by decide) rfl ?_
  intro p e s m args below meth c s₁ B hml htab hv
  obtain ⟨rfl, ⟨hsz, hP, hK, hD0⟩, hE⟩ := hv
  have hx := B.exec
  have hb := B.bytes
  have hr := B.returns
  have hts := atoms_spec (ws := (zz_ws y_Co_state b_Co_state 2 (some .int))) B.pre
  have hown : s.vm.findClass R_Co = some m.cls := findClass_of_methodNamed B.named
  have hlocks := B.notSynchronized
  have hT := zz_hts hts
  have X : CallFix p m c b_Co_state 2 s ([.ref qc, .int a0] : List Value).toArray (zz_ws y_Co_state b_Co_state 2 (some .int)) R_Co := ⟨hx, hb, hml, hown, hts⟩
  have hf0 : 0 + 0 ≤ (headSpec (zz_ws y_Co_state b_Co_state 2 (some .int)) rm_Co_state).room.cells ∧ 0 + 0 ≤ (headSpec (zz_ws y_Co_state b_Co_state 2 (some .int)) rm_Co_state).room.slots := ⟨Nat.le_of_ble_eq_true rfl, Nat.le_of_ble_eq_true rfl⟩
  subst hsz
  have hD := hD0.self (sz := s.heap.size)
  generalize hAe : va_A (wC qc qp qr qh qm qw qu qf ql qo cI ms mn g rg hq mf cd fg L O) s.heap.size = A at hD hE ⊢
  have hA : ∀ q : Nat, s.heap.size ≤ q → A q := fun q h => by rw [← hAe]; exact Or.inr h
  have hS : va_S A s.heap s.heap [] := va_S.rf
  have hl := lv_entry ([.ref qc, .int a0]) (n := 2) (Nat.le_of_ble_eq_true rfl)
  rw [lg_entry_eq]
  generalize (lg_sl ([.ref qc, .int a0]) ++ List.replicate (2 - (lg_sl ([.ref qc, .int a0])).length) Slot.unset).toArray = ls at hl ⊢
  have hl : lv_has ls 2 [(0, .ref qc), (1, .int a0)] := hl
  refine lv_iload_n hx hb d_Co_state_0 rfl (lv_at hl 1 rfl) ?_
  by_cases c_1 : a0 = (0 : Int32)
  · have h := h.1 c_1
    have h0 := c_1
    refine lv_tableIn (off := 47) (tgt := 48) hx hb d_Co_state_1 (by rw [h0]; decide) (by rw [h0]; decide) (by rw [h0]; rfl) (by decide) ?_
    refine lv_aload_n hx hb d_Co_state_48 rfl (lv_at hl 0 rfl) ?_
    refine g_Co_23 (v := .ref qp) hx hb hT hown hK hP 0 rfl rfl d_Co_state_49 ?_
    refine g_Co_48 (v := .int (g 0)) hx hb hT hown hK hP 1 rfl rfl d_Co_state_52 ?_
    refine W.widen (k := 1) (n := 6) (Nat.zero_le _) (Nat.zero_le _) ?_
    refine vx_ret ?_
    exact W.iret (v := (g 0)) hx hb hr (fun t ht hW => ⟨⟨(g 0), (g, rg, hq, mf, cd, fg, L, O), rfl, h, by rw [ht]; exact hP, hD⟩, hS.F ht⟩) hS.2.2 d_Co_state_55
  · have h := h.2 c_1
    by_cases c_2 : a0 = (1 : Int32)
    · have h := h.1 c_2
      have h0 := c_2
      refine lv_tableIn (off := 55) (tgt := 56) hx hb d_Co_state_1 (by rw [h0]; decide) (by rw [h0]; decide) (by rw [h0]; rfl) (by decide) ?_
      refine lv_aload_n hx hb d_Co_state_56 rfl (lv_at hl 0 rfl) ?_
      refine g_Co_23 (v := .ref qp) hx hb hT hown hK hP 0 rfl rfl d_Co_state_57 ?_
      refine g_Co_104 (v := .int (g 1)) hx hb hT hown hK hP 1 rfl rfl d_Co_state_60 ?_
      refine W.widen (k := 1) (n := 6) (Nat.zero_le _) (Nat.zero_le _) ?_
      refine vx_ret ?_
      exact W.iret (v := (g 1)) hx hb hr (fun t ht hW => ⟨⟨(g 1), (g, rg, hq, mf, cd, fg, L, O), rfl, h, by rw [ht]; exact hP, hD⟩, hS.F ht⟩) hS.2.2 d_Co_state_63
    · have h := h.2 c_2
      by_cases c_3 : a0 = (2 : Int32)
      · have h := h.1 c_3
        have h0 := c_3
        refine lv_tableIn (off := 63) (tgt := 64) hx hb d_Co_state_1 (by rw [h0]; decide) (by rw [h0]; decide) (by rw [h0]; rfl) (by decide) ?_
        refine lv_aload_n hx hb d_Co_state_64 rfl (lv_at hl 0 rfl) ?_
        refine g_Co_23 (v := .ref qp) hx hb hT hown hK hP 0 rfl rfl d_Co_state_65 ?_
        refine g_Co_107 (v := .int (g 2)) hx hb hT hown hK hP 1 rfl rfl d_Co_state_68 ?_
        refine lv_if_eq (tgt := 78) hx hb d_Co_state_71 (by decide) (fun c_4 => ?_) (fun c_4 => ?_)
        · skip
          have h := h.1 c_4
          refine lv_iconst (v := 0) hx hb d_Co_state_78 (by decide) ?_
          refine W.widen (k := 1) (n := 6) (Nat.zero_le _) (Nat.zero_le _) ?_
          refine vx_ret ?_
          exact W.iret (v := (0 : Int32)) hx hb hr (fun t ht hW => ⟨⟨(0 : Int32), (g, rg, hq, mf, cd, fg, L, O), rfl, h, by rw [ht]; exact hP, hD⟩, hS.F ht⟩) hS.2.2 d_Co_state_79
        · skip
          have h := h.2 c_4
          refine lv_iconst (v := 1) hx hb d_Co_state_74 (by decide) ?_
          refine lv_goto (tgt := 79) hx hb d_Co_state_75 (by decide) ?_
          refine W.widen (k := 1) (n := 6) (Nat.zero_le _) (Nat.zero_le _) ?_
          refine vx_ret ?_
          exact W.iret (v := (1 : Int32)) hx hb hr (fun t ht hW => ⟨⟨(1 : Int32), (g, rg, hq, mf, cd, fg, L, O), rfl, h, by rw [ht]; exact hP, hD⟩, hS.F ht⟩) hS.2.2 d_Co_state_79
      · have h := h.2 c_3
        by_cases c_5 : a0 = (3 : Int32)
        · have h := h.1 c_5
          have h0 := c_5
          refine lv_tableIn (off := 79) (tgt := 80) hx hb d_Co_state_1 (by rw [h0]; decide) (by rw [h0]; decide) (by rw [h0]; rfl) (by decide) ?_
          refine lv_aload_n hx hb d_Co_state_80 rfl (lv_at hl 0 rfl) ?_
          refine g_Co_23 (v := .ref qp) hx hb hT hown hK hP 0 rfl rfl d_Co_state_81 ?_
          refine g_Co_110 (v := .int (g 7)) hx hb hT hown hK hP 1 rfl rfl d_Co_state_84 ?_
          refine W.widen (k := 1) (n := 6) (Nat.zero_le _) (Nat.zero_le _) ?_
          refine vx_ret ?_
          exact W.iret (v := (g 7)) hx hb hr (fun t ht hW => ⟨⟨(g 7), (g, rg, hq, mf, cd, fg, L, O), rfl, h, by rw [ht]; exact hP, hD⟩, hS.F ht⟩) hS.2.2 d_Co_state_87
        · have h := h.2 c_5
          by_cases c_6 : a0 = (4 : Int32)
          · have h := h.1 c_6
            have h0 := c_6
            refine lv_tableIn (off := 87) (tgt := 88) hx hb d_Co_state_1 (by rw [h0]; decide) (by rw [h0]; decide) (by rw [h0]; rfl) (by decide) ?_
            refine lv_aload_n hx hb d_Co_state_88 rfl (lv_at hl 0 rfl) ?_
            refine g_Co_23 (v := .ref qp) hx hb hT hown hK hP 0 rfl rfl d_Co_state_89 ?_
            refine g_Co_113 (v := .int (g 8)) hx hb hT hown hK hP 1 rfl rfl d_Co_state_92 ?_
            refine W.widen (k := 1) (n := 6) (Nat.zero_le _) (Nat.zero_le _) ?_
            refine vx_ret ?_
            exact W.iret (v := (g 8)) hx hb hr (fun t ht hW => ⟨⟨(g 8), (g, rg, hq, mf, cd, fg, L, O), rfl, h, by rw [ht]; exact hP, hD⟩, hS.F ht⟩) hS.2.2 d_Co_state_95
          · have h := h.2 c_6
            by_cases c_7 : a0 = (5 : Int32)
            · have h := h.1 c_7
              have h0 := c_7
              refine lv_tableIn (off := 95) (tgt := 96) hx hb d_Co_state_1 (by rw [h0]; decide) (by rw [h0]; decide) (by rw [h0]; rfl) (by decide) ?_
              refine lv_aload_n hx hb d_Co_state_96 rfl (lv_at hl 0 rfl) ?_
              refine g_Co_23 (v := .ref qp) hx hb hT hown hK hP 0 rfl rfl d_Co_state_97 ?_
              refine g_Co_116 (v := .int (g 9)) hx hb hT hown hK hP 1 rfl rfl d_Co_state_100 ?_
              refine W.widen (k := 1) (n := 6) (Nat.zero_le _) (Nat.zero_le _) ?_
              refine vx_ret ?_
              exact W.iret (v := (g 9)) hx hb hr (fun t ht hW => ⟨⟨(g 9), (g, rg, hq, mf, cd, fg, L, O), rfl, h, by rw [ht]; exact hP, hD⟩, hS.F ht⟩) hS.2.2 d_Co_state_103
            · have h := h.2 c_7
              by_cases c_8 : a0 = (6 : Int32)
              · have h := h.1 c_8
                have h0 := c_8
                refine lv_tableIn (off := 103) (tgt := 104) hx hb d_Co_state_1 (by rw [h0]; decide) (by rw [h0]; decide) (by rw [h0]; rfl) (by decide) ?_
                refine lv_aload_n hx hb d_Co_state_104 rfl (lv_at hl 0 rfl) ?_
                refine g_Co_23 (v := .ref qp) hx hb hT hown hK hP 0 rfl rfl d_Co_state_105 ?_
                refine g_Co_119 (v := .int (g 10)) hx hb hT hown hK hP 1 rfl rfl d_Co_state_108 ?_
                refine W.widen (k := 1) (n := 6) (Nat.zero_le _) (Nat.zero_le _) ?_
                refine vx_ret ?_
                exact W.iret (v := (g 10)) hx hb hr (fun t ht hW => ⟨⟨(g 10), (g, rg, hq, mf, cd, fg, L, O), rfl, h, by rw [ht]; exact hP, hD⟩, hS.F ht⟩) hS.2.2 d_Co_state_111
              · have h := h.2 c_8
                by_cases c_9 : a0 = (7 : Int32)
                · have h := h.1 c_9
                  have h0 := c_9
                  refine lv_tableIn (off := 111) (tgt := 112) hx hb d_Co_state_1 (by rw [h0]; decide) (by rw [h0]; decide) (by rw [h0]; rfl) (by decide) ?_
                  refine lv_aload_n hx hb d_Co_state_112 rfl (lv_at hl 0 rfl) ?_
                  refine g_Co_23 (v := .ref qp) hx hb hT hown hK hP 0 rfl rfl d_Co_state_113 ?_
                  refine g_Co_122 (v := .int (g 11)) hx hb hT hown hK hP 1 rfl rfl d_Co_state_116 ?_
                  refine W.widen (k := 1) (n := 6) (Nat.zero_le _) (Nat.zero_le _) ?_
                  refine vx_ret ?_
                  exact W.iret (v := (g 11)) hx hb hr (fun t ht hW => ⟨⟨(g 11), (g, rg, hq, mf, cd, fg, L, O), rfl, h, by rw [ht]; exact hP, hD⟩, hS.F ht⟩) hS.2.2 d_Co_state_119
                · have h := h.2 c_9
                  refine zz_swD (tgt := 120) hx hb [0, 1, 2, 3, 4, 5, 6, 7] d_Co_state_1 (by decide +kernel) (by decide) (List.forall_mem_cons.mpr ⟨lv_neT (k := 0) c_1 (by decide), List.forall_mem_cons.mpr ⟨lv_neT (k := 1) c_2 (by decide), List.forall_mem_cons.mpr ⟨lv_neT (k := 2) c_3 (by decide), List.forall_mem_cons.mpr ⟨lv_neT (k := 3) c_5 (by decide), List.forall_mem_cons.mpr ⟨lv_neT (k := 4) c_6 (by decide), List.forall_mem_cons.mpr ⟨lv_neT (k := 5) c_7 (by decide), List.forall_mem_cons.mpr ⟨lv_neT (k := 6) c_8 (by decide), List.forall_mem_cons.mpr ⟨lv_neT (k := 7) c_9 (by decide), fun _ h9 => nomatch h9⟩⟩⟩⟩⟩⟩⟩⟩) (by decide) ?_
                  exact zz_thr (E := "java/lang/IndexOutOfBoundsException") hx hb hl0 hT hown hE (by decide +kernel) xl_55 xi_55 hE.2.2.1.2.1 (zz_str_125 hE.2.2.1) xa_59 xb_59 xg_59 hP hD hS (by rw [hml]; exact hl.1) d_Co_state_120 d_Co_state_123 d_Co_state_124 d_Co_state_126 d_Co_state_129 htab (Nat.le_of_ble_eq_true rfl) (Nat.le_of_ble_eq_true rfl) (Nat.le_of_ble_eq_true rfl) (Nat.le_of_ble_eq_true rfl) hlocks (Nat.le_of_ble_eq_true rfl) (Nat.le_of_ble_eq_true rfl) (g, rg, hq, mf, cd, fg, L, O) rfl h
def wl_Co_run_44 (ms : Int32) (mn : Nat) (a0 : Int32) (P : Int32 → ((Nat → Int32) × (Nat → Int32) × (Nat → Int32) × (Nat → Int32) × Int32 × (Nat → Int32) × (Int32 × Int32 × Int32 × Int64) × (Int32 × Int32 × Int32 × Int64)) → Prop) : Nat → Int32 → (Nat → Int32) → (Nat → Int32) → (Nat → Int32) → (Nat → Int32) → Int32 → (Nat → Int32) → Int32 × Int32 × Int32 × Int64 → Int32 × Int32 × Int32 × Int64 → Prop
  | 0, _, _, _, _, _, _, _, _, _ => False
  | n + 1, v2, wg, wrg, whq, wmf, wcd, wfg, wL, wO => ((a0 ≤ v2 → P a0 (wg, wrg, whq, wmf, wcd, wfg, wL, wO)) ∧ (¬ a0 ≤ v2 → wp_Pr_step ms mn wg wrg whq wmf wcd wfg wL wO (fun u_5 => (((u_5.1 5) = (0 : Int32) → ∀ x_8 : Int32, x_8 = v2 + 1 → wl_Co_run_44 ms mn a0 P n x_8 u_5.1 u_5.2.1 u_5.2.2.1 u_5.2.2.2.1 u_5.2.2.2.2.1 u_5.2.2.2.2.2.1 u_5.2.2.2.2.2.2.1 u_5.2.2.2.2.2.2.2) ∧ (¬ (u_5.1 5) = (0 : Int32) → P v2 (u_5.1, u_5.2.1, u_5.2.2.1, u_5.2.2.2.1, u_5.2.2.2.2.1, u_5.2.2.2.2.2.1, u_5.2.2.2.2.2.2.1, u_5.2.2.2.2.2.2.2))))))
def wp_Co_run (ms : Int32) (mn : Nat) (g : Nat → Int32) (rg : Nat → Int32) (hq : Nat → Int32) (mf : Nat → Int32) (cd : Int32) (fg : Nat → Int32) (L : Int32 × Int32 × Int32 × Int64) (O : Int32 × Int32 × Int32 × Int64) (a0 : Int32) (P : Int32 → ((Nat → Int32) × (Nat → Int32) × (Nat → Int32) × (Nat → Int32) × Int32 × (Nat → Int32) × (Int32 × Int32 × Int32 × Int64) × (Int32 × Int32 × Int32 × Int64)) → Prop) (PX : String → ((Nat → Int32) × (Nat → Int32) × (Nat → Int32) × (Nat → Int32) × Int32 × (Nat → Int32) × (Int32 × Int32 × Int32 × Int64) × (Int32 × Int32 × Int32 × Int64)) → Prop) : Prop := ((a0 < (1 : Int32) → PX "java/lang/IllegalArgumentException" (g, rg, hq, mf, cd, fg, L, O)) ∧ (¬ a0 < (1 : Int32) → ((a0 ≤ (10000 : Int32) → (((g 5) = (0 : Int32) → ∃ n, wl_Co_run_44 ms mn a0 P n (0 : Int32) g rg hq mf cd fg L O) ∧ (¬ (g 5) = (0 : Int32) → PX "java/lang/IllegalStateException" (g, rg, hq, mf, cd, fg, L, O)))) ∧ (¬ a0 ≤ (10000 : Int32) → PX "java/lang/IllegalArgumentException" (g, rg, hq, mf, cd, fg, L, O)))))
abbrev rm_Co_run : Room := { frames := 7, cells := 1, slots := 6, locals := 175 }
set_option maxHeartbeats 4000000 in
set_option maxRecDepth 100000 in
theorem c_Co_run (l : Launch) (hl0 : l.stackTraces = false) (D : va_G) (cI : ClassId) (qc : Nat) (qp : Nat) (qr : Nat) (qh : Nat) (qm : Nat) (qw : Nat) (qu : Nat) (qf : Nat) (ql : Nat) (qo : Nat) (ms : Int32) (mn : Nat) (g : Nat → Int32) (rg : Nat → Int32) (hq : Nat → Int32) (mf : Nat → Int32) (cd : Int32) (fg : Nat → Int32) (L : Int32 × Int32 × Int32 × Int64) (O : Int32 × Int32 × Int32 × Int64) (a0 : Int32) (P : Int32 → ((Nat → Int32) × (Nat → Int32) × (Nat → Int32) × (Nat → Int32) × Int32 × (Nat → Int32) × (Int32 × Int32 × Int32 × Int64) × (Int32 × Int32 × Int32 × Int64)) → Prop) (PX : String → ((Nat → Int32) × (Nat → Int32) × (Nat → Int32) × (Nat → Int32) × Int32 × (Nat → Int32) × (Int32 × Int32 × Int32 × Int64) × (Int32 × Int32 × Int32 × Int64)) → Prop) (h : wp_Co_run ms mn g rg hq mf cd fg L O a0 P PX) (sz : Nat) : vx_Met l y_Co_run (zz_ws y_Co_run b_Co_run 3 (some .int)) rm_Co_run (va_Pc [.ref qc, .int a0] (zz_px D [(cI, .int)] (wC qc qp qr qh qm qw qu qf ql qo cI ms mn g rg hq mf cd fg L O) sz)) (va_Qi P (zz_qw D (fun u => wC qc qp qr qh qm qw qu qf ql qo cI ms mn u.1 u.2.1 u.2.2.1 u.2.2.2.1 u.2.2.2.2.1 u.2.2.2.2.2.1 u.2.2.2.2.2.2.1 u.2.2.2.2.2.2.2) (va_A (wC qc qp qr qh qm qw qu qf ql qo cI ms mn g rg hq mf cd fg L O) sz)) (va_A (wC qc qp qr qh qm qw qu qf ql qo cI ms mn g rg hq mf cd fg L O) sz)) (vx_X (fun _ : (Nat → Int32) × (Nat → Int32) × (Nat → Int32) × (Nat → Int32) × Int32 × (Nat → Int32) × (Int32 × Int32 × Int32 × Int64) × (Int32 × Int32 × Int32 × Int64) => True) (zz_xw D (fun u => wC qc qp qr qh qm qw qu qf ql qo cI ms mn u.1 u.2.1 u.2.2.1 u.2.2.2.1 u.2.2.2.2.1 u.2.2.2.2.2.1 u.2.2.2.2.2.2.1 u.2.2.2.2.2.2.2) (va_A (wC qc qp qr qh qm qw qu qf ql qo cI ms mn g rg hq mf cd fg L O) sz) PX) (va_A (wC qc qp qr qh qm qw qu qf ql qo cI ms mn g rg hq mf cd fg L O) sz)) 1 6 (va_A (wC qc qp qr qh qm qw qu qf ql qo cI ms mn g rg hq mf cd fg L O) sz) := by
  refine vx_ofW (cc := b_Co_run) (maxL := 3) (ret := (some .int)) (by decide) rfl ?_
  intro p e s m args below meth c s₁ B hml htab hv
  obtain ⟨rfl, ⟨hsz, hP, hK, hD0⟩, hE⟩ := hv
  have hx := B.exec
  have hb := B.bytes
  have hr := B.returns
  have hts := atoms_spec (ws := (zz_ws y_Co_run b_Co_run 3 (some .int))) B.pre
  have hown : s.vm.findClass R_Co = some m.cls := findClass_of_methodNamed B.named
  have hlocks := B.notSynchronized
  have hT := zz_hts hts
  have X : CallFix p m c b_Co_run 3 s ([.ref qc, .int a0] : List Value).toArray (zz_ws y_Co_run b_Co_run 3 (some .int)) R_Co := ⟨hx, hb, hml, hown, hts⟩
  have hf0 : 0 + 0 ≤ (headSpec (zz_ws y_Co_run b_Co_run 3 (some .int)) rm_Co_run).room.cells ∧ 0 + 0 ≤ (headSpec (zz_ws y_Co_run b_Co_run 3 (some .int)) rm_Co_run).room.slots := ⟨Nat.le_of_ble_eq_true rfl, Nat.le_of_ble_eq_true rfl⟩
  subst hsz
  have hD := hD0.self (sz := s.heap.size)
  generalize hAe : va_A (wC qc qp qr qh qm qw qu qf ql qo cI ms mn g rg hq mf cd fg L O) s.heap.size = A at hD hE ⊢
  have hA : ∀ q : Nat, s.heap.size ≤ q → A q := fun q h => by rw [← hAe]; exact Or.inr h
  have hS : va_S A s.heap s.heap [] := va_S.rf
  have hl := lv_entry ([.ref qc, .int a0]) (n := 3) (Nat.le_of_ble_eq_true rfl)
  rw [lg_entry_eq]
  generalize (lg_sl ([.ref qc, .int a0]) ++ List.replicate (3 - (lg_sl ([.ref qc, .int a0])).length) Slot.unset).toArray = ls at hl ⊢
  have hl : lv_has ls 3 [(0, .ref qc), (1, .int a0)] := hl
  refine lv_iload_n hx hb d_Co_run_0 rfl (lv_at hl 1 rfl) ?_
  refine lv_iconst (v := 1) hx hb d_Co_run_1 (by decide) ?_
  refine lv_icmp_lt (tgt := 12) hx hb d_Co_run_2 (by decide) (fun c_1 => ?_) (fun c_1 => ?_)
  · skip
    have h := h.1 c_1
    exact zz_thr (E := "java/lang/IllegalArgumentException") hx hb hl0 hT hown hE (by decide +kernel) xl_31 xi_31 hE.2.2.1.1 (zz_str_86 hE.2.2.1) xa_35 xb_35 xg_35 hP hD hS (by rw [hml]; exact hl.1) d_Co_run_12 d_Co_run_15 d_Co_run_16 d_Co_run_18 d_Co_run_21 htab (Nat.le_of_ble_eq_true rfl) (Nat.le_of_ble_eq_true rfl) (Nat.le_of_ble_eq_true rfl) (Nat.le_of_ble_eq_true rfl) hlocks (Nat.le_of_ble_eq_true rfl) (Nat.le_of_ble_eq_true rfl) (g, rg, hq, mf, cd, fg, L, O) rfl h
  · skip
    have h := h.2 c_1
    refine lv_iload_n hx hb d_Co_run_5 rfl (lv_at hl 1 rfl) ?_
    refine lv_sipush (v := 10000) hx hb d_Co_run_6 (by decide) ?_
    refine lv_icmp_le (tgt := 22) hx hb d_Co_run_9 (by decide) (fun c_2 => ?_) (fun c_2 => ?_)
    · skip
      have h := h.1 c_2
      refine lv_aload_n hx hb d_Co_run_22 rfl (lv_at hl 0 rfl) ?_
      refine g_Co_23 (v := .ref qp) hx hb hT hown hK hP 0 rfl rfl d_Co_run_23 ?_
      refine g_Co_88 (v := .int (g 5)) hx hb hT hown hK hP 1 rfl rfl d_Co_run_26 ?_
      refine lv_if_eq (tgt := 42) hx hb d_Co_run_29 (by decide) (fun c_3 => ?_) (fun c_3 => ?_)
      · skip
        have h := h.1 c_3
        refine lv_iconst (v := 0) hx hb d_Co_run_42 (by decide) ?_
        refine lv_istore_n (lv' := [(2, .int (0 : Int32)), (0, .ref qc), (1, .int a0)]) hx hb d_Co_run_43 rfl hl (by decide) rfl (fun ls hl => ?_)
        have lp : ∀ (n : Nat) (v2 : Int32) (wg : Nat → Int32) (wrg : Nat → Int32) (whq : Nat → Int32) (wmf : Nat → Int32) (wcd : Int32) (wfg : Nat → Int32) (wL : Int32 × Int32 × Int32 × Int64) (wO : Int32 × Int32 × Int32 × Int64), wl_Co_run_44 ms mn a0 P n v2 wg wrg whq wmf wcd wfg wL wO → ∀ (H : Heap) (locs : List Loc), va_P D vwCl (wC qc qp qr qh qm qw qu qf ql qo cI ms mn wg wrg whq wmf wcd wfg wL wO) H → va_D A (wC qc qp qr qh qm qw qu qf ql qo cI ms mn wg wrg whq wmf wcd wfg wL wO) → va_S A s.heap H locs → ∀ ls : Array Slot, lv_has ls 3 [(2, .int v2), (0, .ref qc), (1, .int a0)] → W p l e (headSpec (zz_ws y_Co_run b_Co_run 3 (some .int)) rm_Co_run).room s m ([.ref qc, .int a0] : List Value).toArray below meth c H locs 0 0 (vx_MQ below (va_Qi P (zz_qw D (fun u => wC qc qp qr qh qm qw qu qf ql qo cI ms mn u.1 u.2.1 u.2.2.1 u.2.2.2.1 u.2.2.2.2.1 u.2.2.2.2.2.1 u.2.2.2.2.2.2.1 u.2.2.2.2.2.2.2) A) A) (vx_X (fun _ : (Nat → Int32) × (Nat → Int32) × (Nat → Int32) × (Nat → Int32) × Int32 × (Nat → Int32) × (Int32 × Int32 × Int32 × Int64) × (Int32 × Int32 × Int32 × Int64) => True) (zz_xw D (fun u => wC qc qp qr qh qm qw qu qf ql qo cI ms mn u.1 u.2.1 u.2.2.1 u.2.2.2.1 u.2.2.2.2.1 u.2.2.2.2.2.1 u.2.2.2.2.2.2.1 u.2.2.2.2.2.2.2) A PX) A) ([.ref qc, .int a0] : List Value).toArray s 1 6 A) (F0 m 44 ls []) := by
          intro n
          induction n with
          | zero =>
            intro v2 wg wrg whq wmf wcd wfg wL wO h
            exact False.elim h
          | succ n ih =>
            intro v2 wg wrg whq wmf wcd wfg wL wO h H locs hP hD hS ls hl
            rw [wl_Co_run_44] at h
            refine lv_iload_n hx hb d_Co_run_44 rfl (lv_at hl 0 rfl) ?_
            refine lv_iload_n hx hb d_Co_run_45 rfl (lv_at hl 2 rfl) ?_
            refine lv_icmp_ge (tgt := 74) hx hb d_Co_run_46 (by decide) (fun c_4 => ?_) (fun c_4 => ?_)
            · skip
              have h := h.1 c_4
              refine lv_iload_n hx hb d_Co_run_74 rfl (lv_at hl 2 rfl) ?_
              refine W.widen (k := 1) (n := 6) (Nat.zero_le _) (Nat.zero_le _) ?_
              refine vx_ret ?_
              exact W.iret (v := a0) hx hb hr (fun t ht hW => ⟨⟨a0, (wg, wrg, whq, wmf, wcd, wfg, wL, wO), rfl, h, by rw [ht]; exact hP, hD⟩, hS.F ht⟩) hS.2.2 d_Co_run_75
            · skip
              have h := h.2 c_4
              refine lv_aload_n hx hb d_Co_run_49 rfl (lv_at hl 1 rfl) ?_
              refine g_Co_23 (v := .ref qp) hx hb hT hown hK hP 0 rfl rfl d_Co_run_50 ?_
              refine zz_Wv (As := []) (rest := []) (wc := wP qp qr qh qm qw qu qf ql qo cI ms mn wg wrg whq wmf wcd wfg wL wO) (wr := [(qc, .inr (5, [.ref qm, .ref qp]))]) X hK hP hD hS hA (c_Pr_step l D cI qp qr qh qm qw qu qf ql qo ms mn wg wrg whq wmf wcd wfg wL wO _ h _) ⟨rfl, rfl⟩ m_Pr_step k_Co_93 ⟨Nat.le_of_ble_eq_true rfl, Nat.le_of_ble_eq_true rfl⟩ [1, 2, 3, 4, 5, 6, 7, 8, 9] [0] rfl rfl (by decide) (by decide) (by decide) 4 1 rfl rfl rfl rfl hl.1 rfl (Nat.le_of_ble_eq_true rfl) d_Co_run_53 hf0 (fun u_5 H locs h hP hD hS => ?_)
              have hP : va_P D vwCl (wC qc qp qr qh qm qw qu qf ql qo cI ms mn u_5.1 u_5.2.1 u_5.2.2.1 u_5.2.2.2.1 u_5.2.2.2.2.1 u_5.2.2.2.2.2.1 u_5.2.2.2.2.2.2.1 u_5.2.2.2.2.2.2.2) H := hP.sub [0, 1, 2, 3, 4, 5, 6, 7, 8, 9] rfl
              have hD : va_D A (wC qc qp qr qh qm qw qu qf ql qo cI ms mn u_5.1 u_5.2.1 u_5.2.2.1 u_5.2.2.2.1 u_5.2.2.2.2.1 u_5.2.2.2.2.2.1 u_5.2.2.2.2.2.2.1 u_5.2.2.2.2.2.2.2) := hD.sub [0, 1, 2, 3, 4, 5, 6, 7, 8, 9] (by decide) rfl
              refine lv_aload_n hx hb d_Co_run_56 rfl (lv_at hl 1 rfl) ?_
              refine g_Co_23 (v := .ref qp) hx hb hT hown hK hP 0 rfl rfl d_Co_run_57 ?_
              refine g_Co_88 (v := .int (u_5.1 5)) hx hb hT hown hK hP 1 rfl rfl d_Co_run_60 ?_
              refine lv_if_eq (tgt := 68) hx hb d_Co_run_63 (by decide) (fun c_7 => ?_) (fun c_7 => ?_)
              · skip
                have h := h.1 c_7
                obtain ⟨x_8, ex_8⟩ : ∃ y : Int32, y = v2 + 1 := ⟨_, rfl⟩
                have h := h x_8 ex_8
                refine lv_iinc (v := x_8) (lv' := [(2, .int x_8), (0, .ref qc), (1, .int a0)]) hx hb d_Co_run_68 hl (k := 0) rfl (by rw [ex_8]; rfl) (by decide) rfl (fun ls hl => ?_)
                refine lv_goto (tgt := 44) hx hb d_Co_run_71 (by decide) ?_
                exact ih x_8 u_5.1 u_5.2.1 u_5.2.2.1 u_5.2.2.2.1 u_5.2.2.2.2.1 u_5.2.2.2.2.2.1 u_5.2.2.2.2.2.2.1 u_5.2.2.2.2.2.2.2 h H locs hP hD hS ls (lv_sub hl [0, 1, 2] rfl)
              · skip
                have h := h.2 c_7
                refine lv_iload_n hx hb d_Co_run_66 rfl (lv_at hl 0 rfl) ?_
                refine W.widen (k := 1) (n := 6) (Nat.zero_le _) (Nat.zero_le _) ?_
                refine vx_ret ?_
                exact W.iret (v := v2) hx hb hr (fun t ht hW => ⟨⟨v2, (u_5.1, u_5.2.1, u_5.2.2.1, u_5.2.2.2.1, u_5.2.2.2.2.1, u_5.2.2.2.2.2.1, u_5.2.2.2.2.2.2.1, u_5.2.2.2.2.2.2.2), rfl, h, by rw [ht]; exact hP, hD⟩, hS.F ht⟩) hS.2.2 d_Co_run_67
        obtain ⟨n, h⟩ := h
        exact lp n (0 : Int32) g rg hq mf cd fg L O h _ _ hP hD hS ls hl
      · skip
        have h := h.2 c_3
        exact zz_thr (E := "java/lang/IllegalStateException") hx hb hl0 hT hown hE (by decide +kernel) xl_81 xi_81 hE.2.2.1.2.2.1 (zz_str_91 hE.2.2.1) xa_85 xb_85 xg_85 hP hD hS (by rw [hml]; exact hl.1) d_Co_run_32 d_Co_run_35 d_Co_run_36 d_Co_run_38 d_Co_run_41 htab (Nat.le_of_ble_eq_true rfl) (Nat.le_of_ble_eq_true rfl) (Nat.le_of_ble_eq_true rfl) (Nat.le_of_ble_eq_true rfl) hlocks (Nat.le_of_ble_eq_true rfl) (Nat.le_of_ble_eq_true rfl) (g, rg, hq, mf, cd, fg, L, O) rfl h
    · skip
      have h := h.2 c_2
      exact zz_thr (E := "java/lang/IllegalArgumentException") hx hb hl0 hT hown hE (by decide +kernel) xl_31 xi_31 hE.2.2.1.1 (zz_str_86 hE.2.2.1) xa_35 xb_35 xg_35 hP hD hS (by rw [hml]; exact hl.1) d_Co_run_12 d_Co_run_15 d_Co_run_16 d_Co_run_18 d_Co_run_21 htab (Nat.le_of_ble_eq_true rfl) (Nat.le_of_ble_eq_true rfl) (Nat.le_of_ble_eq_true rfl) (Nat.le_of_ble_eq_true rfl) hlocks (Nat.le_of_ble_eq_true rfl) (Nat.le_of_ble_eq_true rfl) (g, rg, hq, mf, cd, fg, L, O) rfl h
