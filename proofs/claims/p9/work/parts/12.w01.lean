def wp_Fr_awayFromZero (L : Int32 × Int32 × Int32 × Int64) (a0 : Int32) (a1 : Int64) (a2 : Int64) (a3 : Int64) (P : Int32 → Prop) : Prop := ((a0 = (0 : Int32) → ((a3 < a2 → P (1 : Int32)) ∧ (¬ a3 < a2 → ((a2 = a3 → (((a1 &&& (1 : Int64)) = (0 : Int64) → P (0 : Int32)) ∧ (¬ (a1 &&& (1 : Int64)) = (0 : Int64) → P (1 : Int32)))) ∧ (¬ a2 = a3 → P (0 : Int32)))))) ∧ (¬ a0 = (0 : Int32) → ((a0 = (1 : Int32) → P (0 : Int32)) ∧ (¬ a0 = (1 : Int32) → ((a2 = (0 : Int64) → P (0 : Int32)) ∧ (¬ a2 = (0 : Int64) → ((a0 = (2 : Int32) → ((L.1 = (1 : Int32) → P (0 : Int32)) ∧ (¬ L.1 = (1 : Int32) → P (1 : Int32)))) ∧ (¬ a0 = (2 : Int32) → ((L.1 = (0 : Int32) → P (0 : Int32)) ∧ (¬ L.1 = (0 : Int32) → P (1 : Int32)))))))))))
abbrev rm_Fr_awayFromZero : Room := { frames := 0, cells := 0, slots := 0, locals := 0 }
set_option maxHeartbeats 4000000 in
set_option maxRecDepth 100000 in
theorem c_Fr_awayFromZero (l : Launch) (D : va_G) (cI : ClassId) (q : Nat) (L : Int32 × Int32 × Int32 × Int64) (a0 : Int32) (a1 : Int64) (a2 : Int64) (a3 : Int64) (P : Int32 → Prop) (h : wp_Fr_awayFromZero L a0 a1 a2 a3 P) : Met l y_Fr_awayFromZero (zz_ws y_Fr_awayFromZero b_Fr_awayFromZero 8 (some .boolean)) rm_Fr_awayFromZero (va_Pc [.ref q, .int a0, .long a1, .long a2, .long a3] (zz_pr D [(cI, .int)] (wF1 q L))) (vp_Si P) 0 0 (fun _ => False) := by
  refine Met.ofW (cc := b_Fr_awayFromZero) (maxL := 8) (ret := (some .boolean)) (by decide) rfl ?_
  intro p e s m args below meth c s₁ B hml hv
  obtain ⟨rfl, hP, hK⟩ := hv
  have hx := B.exec
  have hb := B.bytes
  have hr := B.returns
  have hts := atoms_spec (ws := (zz_ws y_Fr_awayFromZero b_Fr_awayFromZero 8 (some .boolean))) B.pre
  have hown : s.vm.findClass R_Fr = some m.cls := findClass_of_methodNamed B.named
  have hlocks := B.notSynchronized
  have hT := zz_hts hts
  have X : CallFix p m c b_Fr_awayFromZero 8 s ([.ref q, .int a0, .long a1, .long a2, .long a3] : List Value).toArray (zz_ws y_Fr_awayFromZero b_Fr_awayFromZero 8 (some .boolean)) R_Fr := ⟨hx, hb, hml, hown, hts⟩
  have hf0 : 0 + 0 ≤ (headSpec (zz_ws y_Fr_awayFromZero b_Fr_awayFromZero 8 (some .boolean)) rm_Fr_awayFromZero).room.cells ∧ 0 + 0 ≤ (headSpec (zz_ws y_Fr_awayFromZero b_Fr_awayFromZero 8 (some .boolean)) rm_Fr_awayFromZero).room.slots := ⟨Nat.le_of_ble_eq_true rfl, Nat.le_of_ble_eq_true rfl⟩
  have hl := lv_entry ([.ref q, .int a0, .long a1, .long a2, .long a3]) (n := 8) (Nat.le_of_ble_eq_true rfl)
  rw [lg_entry_eq]
  generalize (lg_sl ([.ref q, .int a0, .long a1, .long a2, .long a3]) ++ List.replicate (8 - (lg_sl ([.ref q, .int a0, .long a1, .long a2, .long a3])).length) Slot.unset).toArray = ls at hl ⊢
  have hl : lv_has ls 8 [(0, .ref q), (1, .int a0), (2, .long a1), (4, .long a2), (6, .long a3)] := hl
  refine lv_iload_n hx hb d_Fr_awayFromZero_0 rfl (lv_at hl 1 rfl) ?_
  refine lv_if_ne (tgt := 34) hx hb d_Fr_awayFromZero_1 (by decide) (fun c_1 => ?_) (fun c_1 => ?_)
  · skip
    have h := h.2 c_1
    refine lv_iload_n hx hb d_Fr_awayFromZero_34 rfl (lv_at hl 1 rfl) ?_
    refine lv_iconst (v := 1) hx hb d_Fr_awayFromZero_35 (by decide) ?_
    refine lv_icmp_ne (tgt := 41) hx hb d_Fr_awayFromZero_36 (by decide) (fun c_2 => ?_) (fun c_2 => ?_)
    · skip
      have h := h.2 c_2
      refine lv_lload hx hb d_Fr_awayFromZero_41 (lv_at hl 3 rfl) ?_
      refine lv_lconst (v := 0) hx hb d_Fr_awayFromZero_43 (by decide) ?_
      refine W.lcmp hx hb d_Fr_awayFromZero_44 ?_
      refine lv_if_eq (tgt := 69) hx hb d_Fr_awayFromZero_45 (by decide) (fun c_3 => ?_) (fun c_3 => ?_)
      · have kc_3 := ((lg_cmp_eq _ _).mp c_3)
        have h := h.1 kc_3
        refine lv_iconst (v := 0) hx hb d_Fr_awayFromZero_69 (by decide) ?_
        exact W.zret (v := (0 : Int32)) hx hb hr (zz_bz_n (Or.inl rfl)) (fun t ht hW => ⟨(0 : Int32),  rfl, h, ht⟩) t_nil d_Fr_awayFromZero_70
      · have kc_3 := (fun q => c_3 ((lg_cmp_eq _ _).mpr q))
        have h := h.2 kc_3
        refine lv_aload_n hx hb d_Fr_awayFromZero_48 rfl (lv_at hl 0 rfl) ?_
        refine g_Fr_13 (v := .int L.1) hx hb hT hown hK hP 0 rfl rfl d_Fr_awayFromZero_49 ?_
        refine lv_iload_n hx hb d_Fr_awayFromZero_52 rfl (lv_at hl 1 rfl) ?_
        refine lv_iconst (v := 2) hx hb d_Fr_awayFromZero_53 (by decide) ?_
        refine lv_icmp_ne (tgt := 61) hx hb d_Fr_awayFromZero_54 (by decide) (fun c_4 => ?_) (fun c_4 => ?_)
        · skip
          have h := h.2 c_4
          refine lv_iconst (v := 0) hx hb d_Fr_awayFromZero_61 (by decide) ?_
          refine lv_icmp_eq (tgt := 69) hx hb d_Fr_awayFromZero_62 (by decide) (fun c_5 => ?_) (fun c_5 => ?_)
          · skip
            have h := h.1 c_5
            refine lv_iconst (v := 0) hx hb d_Fr_awayFromZero_69 (by decide) ?_
            exact W.zret (v := (0 : Int32)) hx hb hr (zz_bz_n (Or.inl rfl)) (fun t ht hW => ⟨(0 : Int32),  rfl, h, ht⟩) t_nil d_Fr_awayFromZero_70
          · skip
            have h := h.2 c_5
            refine lv_iconst (v := 1) hx hb d_Fr_awayFromZero_65 (by decide) ?_
            refine lv_goto (tgt := 70) hx hb d_Fr_awayFromZero_66 (by decide) ?_
            exact W.zret (v := (1 : Int32)) hx hb hr (zz_bz_n (Or.inr rfl)) (fun t ht hW => ⟨(1 : Int32),  rfl, h, ht⟩) t_nil d_Fr_awayFromZero_70
        · skip
          have h := h.1 c_4
          refine lv_iconst (v := 1) hx hb d_Fr_awayFromZero_57 (by decide) ?_
          refine lv_goto (tgt := 62) hx hb d_Fr_awayFromZero_58 (by decide) ?_
          refine lv_icmp_eq (tgt := 69) hx hb d_Fr_awayFromZero_62 (by decide) (fun c_6 => ?_) (fun c_6 => ?_)
          · skip
            have h := h.1 c_6
            refine lv_iconst (v := 0) hx hb d_Fr_awayFromZero_69 (by decide) ?_
            exact W.zret (v := (0 : Int32)) hx hb hr (zz_bz_n (Or.inl rfl)) (fun t ht hW => ⟨(0 : Int32),  rfl, h, ht⟩) t_nil d_Fr_awayFromZero_70
          · skip
            have h := h.2 c_6
            refine lv_iconst (v := 1) hx hb d_Fr_awayFromZero_65 (by decide) ?_
            refine lv_goto (tgt := 70) hx hb d_Fr_awayFromZero_66 (by decide) ?_
            exact W.zret (v := (1 : Int32)) hx hb hr (zz_bz_n (Or.inr rfl)) (fun t ht hW => ⟨(1 : Int32),  rfl, h, ht⟩) t_nil d_Fr_awayFromZero_70
    · skip
      have h := h.1 c_2
      refine lv_iconst (v := 0) hx hb d_Fr_awayFromZero_39 (by decide) ?_
      exact W.zret (v := (0 : Int32)) hx hb hr (zz_bz_n (Or.inl rfl)) (fun t ht hW => ⟨(0 : Int32),  rfl, h, ht⟩) t_nil d_Fr_awayFromZero_40
  · skip
    have h := h.1 c_1
    refine lv_lload hx hb d_Fr_awayFromZero_4 (lv_at hl 3 rfl) ?_
    refine lv_lload hx hb d_Fr_awayFromZero_6 (lv_at hl 4 rfl) ?_
    refine W.lcmp hx hb d_Fr_awayFromZero_8 ?_
    refine lv_if_gt (tgt := 28) hx hb d_Fr_awayFromZero_9 (by decide) (fun c_7 => ?_) (fun c_7 => ?_)
    · have kc_7 := ((lg_cmp_gt _ _).mp c_7)
      have h := h.1 kc_7
      refine lv_iconst (v := 1) hx hb d_Fr_awayFromZero_28 (by decide) ?_
      refine lv_goto (tgt := 33) hx hb d_Fr_awayFromZero_29 (by decide) ?_
      exact W.zret (v := (1 : Int32)) hx hb hr (zz_bz_n (Or.inr rfl)) (fun t ht hW => ⟨(1 : Int32),  rfl, h, ht⟩) t_nil d_Fr_awayFromZero_33
    · have kc_7 := (fun q => c_7 ((lg_cmp_gt _ _).mpr q))
      have h := h.2 kc_7
      refine lv_lload hx hb d_Fr_awayFromZero_12 (lv_at hl 3 rfl) ?_
      refine lv_lload hx hb d_Fr_awayFromZero_14 (lv_at hl 4 rfl) ?_
      refine W.lcmp hx hb d_Fr_awayFromZero_16 ?_
      refine lv_if_ne (tgt := 32) hx hb d_Fr_awayFromZero_17 (by decide) (fun c_8 => ?_) (fun c_8 => ?_)
      · have kc_8 := (fun q => c_8 ((lg_cmp_eq _ _).mpr q))
        have h := h.2 kc_8
        refine lv_iconst (v := 0) hx hb d_Fr_awayFromZero_32 (by decide) ?_
        exact W.zret (v := (0 : Int32)) hx hb hr (zz_bz_n (Or.inl rfl)) (fun t ht hW => ⟨(0 : Int32),  rfl, h, ht⟩) t_nil d_Fr_awayFromZero_33
      · have kc_8 := ((lg_cmp_eq _ _).mp c_8)
        have h := h.1 kc_8
        refine lv_lload_n hx hb d_Fr_awayFromZero_20 rfl (lv_at hl 2 rfl) ?_
        refine lv_lconst (v := 1) hx hb d_Fr_awayFromZero_21 (by decide) ?_
        refine lv_land hx hb d_Fr_awayFromZero_22 ?_
        refine lv_lconst (v := 0) hx hb d_Fr_awayFromZero_23 (by decide) ?_
        refine W.lcmp hx hb d_Fr_awayFromZero_24 ?_
        refine lv_if_eq (tgt := 32) hx hb d_Fr_awayFromZero_25 (by decide) (fun c_9 => ?_) (fun c_9 => ?_)
        · have kc_9 := ((lg_cmp_eq _ _).mp c_9)
          have h := h.1 kc_9
          refine lv_iconst (v := 0) hx hb d_Fr_awayFromZero_32 (by decide) ?_
          exact W.zret (v := (0 : Int32)) hx hb hr (zz_bz_n (Or.inl rfl)) (fun t ht hW => ⟨(0 : Int32),  rfl, h, ht⟩) t_nil d_Fr_awayFromZero_33
        · have kc_9 := (fun q => c_9 ((lg_cmp_eq _ _).mpr q))
          have h := h.2 kc_9
          refine lv_iconst (v := 1) hx hb d_Fr_awayFromZero_28 (by decide) ?_
          refine lv_goto (tgt := 33) hx hb d_Fr_awayFromZero_29 (by decide) ?_
          exact W.zret (v := (1 : Int32)) hx hb hr (zz_bz_n (Or.inr rfl)) (fun t ht hW => ⟨(1 : Int32),  rfl, h, ht⟩) t_nil d_Fr_awayFromZero_33
def wp_Fr_rounded (L : Int32 × Int32 × Int32 × Int64) (a0 : Int32) (P : Int64 → Prop) : Prop := wp_Fr_lowest a0 (fun r_1 => ∀ x_2 : Int32, x_2 = (L.2.2.1 - r_1) → wp_Fr_lowest a0 (fun r_3 => ((L.2.2.1 ≤ ((1 : Int32) - r_3) → wp_Fr_width a0 (fun r_5 => ∀ x_6 : Int32, x_6 = (if (0 : Int32) < x_2 then (0 : Int32) else x_2) → ∀ x_7 : Int32, x_7 = (((62 : Int32) - r_5) - x_6) → ((x_7 ≤ (63 : Int32) → ∀ x_9 : Int64, x_9 = (zz_lushr L.2.2.2 x_7) → ∀ x_10 : Int64, x_10 = ((zz_lshl (1 : Int64) x_7) - (1 : Int64)) → ∀ x_11 : Int64, x_11 = (L.2.2.2 &&& x_10) → ∀ x_12 : Int64, x_12 = (zz_lshl (1 : Int64) (x_7 - (1 : Int32))) → wp_Fr_awayFromZero L (0 : Int32) x_9 x_11 x_12 (fun r_13 => ((r_13 = (0 : Int32) → ∀ x_15 : Int32, x_15 = (if x_2 < (0 : Int32) then (0 : Int32) else x_2) → wp_Fr_width a0 (fun r_16 => ∀ x_17 : Int64, x_17 = ((zz_lshl x_15.toInt64 r_16) + x_9) → P x_17)) ∧ (¬ r_13 = (0 : Int32) → ∀ x_18 : Int64, x_18 = (x_9 + (1 : Int64)) → ∀ x_19 : Int32, x_19 = (if x_2 < (0 : Int32) then (0 : Int32) else x_2) → wp_Fr_width a0 (fun r_20 => ∀ x_21 : Int64, x_21 = ((zz_lshl x_19.toInt64 r_20) + x_18) → P x_21))))) ∧ (¬ x_7 ≤ (63 : Int32) → P (0 : Int64))))) ∧ (¬ L.2.2.1 ≤ ((1 : Int32) - r_3) → wp_Fr_infinity a0 (fun r_22 => P r_22)))))
abbrev rm_Fr_rounded : Room := { frames := 1, cells := 0, slots := 0, locals := 27 }
set_option maxHeartbeats 4000000 in
set_option maxRecDepth 100000 in
theorem c_Fr_rounded (l : Launch) (D : va_G) (cI : ClassId) (q : Nat) (L : Int32 × Int32 × Int32 × Int64) (a0 : Int32) (P : Int64 → Prop) (h : wp_Fr_rounded L a0 P) : Met l y_Fr_rounded (zz_ws y_Fr_rounded b_Fr_rounded 8 (some .long)) rm_Fr_rounded (va_Pc [.ref q, .int a0] (zz_pr D [(cI, .int)] (wF1 q L))) (vp_Sl P) 0 0 (fun _ => False) := by
  refine Met.ofW (cc := b_Fr_rounded) (maxL := 8) (ret := (some .long)) (by decide) rfl ?_
  intro p e s m args below meth c s₁ B hml hv
  obtain ⟨rfl, hP, hK⟩ := hv
  have hx := B.exec
  have hb := B.bytes
  have hr := B.returns
  have hts := atoms_spec (ws := (zz_ws y_Fr_rounded b_Fr_rounded 8 (some .long))) B.pre
  have hown : s.vm.findClass R_Fr = some m.cls := findClass_of_methodNamed B.named
  have hlocks := B.notSynchronized
  have hT := zz_hts hts
  have X : CallFix p m c b_Fr_rounded 8 s ([.ref q, .int a0] : List Value).toArray (zz_ws y_Fr_rounded b_Fr_rounded 8 (some .long)) R_Fr := ⟨hx, hb, hml, hown, hts⟩
  have hf0 : 0 + 0 ≤ (headSpec (zz_ws y_Fr_rounded b_Fr_rounded 8 (some .long)) rm_Fr_rounded).room.cells ∧ 0 + 0 ≤ (headSpec (zz_ws y_Fr_rounded b_Fr_rounded 8 (some .long)) rm_Fr_rounded).room.slots := ⟨Nat.le_of_ble_eq_true rfl, Nat.le_of_ble_eq_true rfl⟩
  have hl := lv_entry ([.ref q, .int a0]) (n := 8) (Nat.le_of_ble_eq_true rfl)
  rw [lg_entry_eq]
  generalize (lg_sl ([.ref q, .int a0]) ++ List.replicate (8 - (lg_sl ([.ref q, .int a0])).length) Slot.unset).toArray = ls at hl ⊢
  have hl : lv_has ls 8 [(0, .ref q), (1, .int a0)] := hl
  refine lv_aload_n hx hb d_Fr_rounded_0 rfl (lv_at hl 0 rfl) ?_
  refine g_Fr_38 (v := .int L.2.2.1) hx hb hT hown hK hP 0 rfl rfl d_Fr_rounded_1 ?_
  refine lv_iload_n hx hb d_Fr_rounded_4 rfl (lv_at hl 1 rfl) ?_
  refine zz_Si (As := [.int a0]) (rest := [.int L.2.2.1]) X (c_Fr_lowest l a0 _ h) ⟨rfl, rfl⟩ m_Fr_lowest k_Fr_21 ⟨Nat.le_of_ble_eq_true rfl, Nat.le_of_ble_eq_true rfl⟩ rfl hl.1 rfl (Nat.le_of_ble_eq_true rfl) d_Fr_rounded_5 hf0 (fun r_1 h => ?_)
  refine lv_isub hx hb d_Fr_rounded_8 ?_
  refine lv_topi (fun x_2 ex_2 => ?_)
  have h := h x_2 ex_2
  refine lv_istore_n (lv' := [(2, .int x_2), (0, .ref q), (1, .int a0)]) hx hb d_Fr_rounded_9 rfl hl (by decide) rfl (fun ls hl => ?_)
  refine lv_aload_n hx hb d_Fr_rounded_10 rfl (lv_at hl 1 rfl) ?_
  refine g_Fr_38 (v := .int L.2.2.1) hx hb hT hown hK hP 0 rfl rfl d_Fr_rounded_11 ?_
  refine lv_iconst (v := 1) hx hb d_Fr_rounded_14 (by decide) ?_
  refine lv_iload_n hx hb d_Fr_rounded_15 rfl (lv_at hl 2 rfl) ?_
  refine zz_Si (As := [.int a0]) (rest := [.int (1 : Int32), .int L.2.2.1]) X (c_Fr_lowest l a0 _ h) ⟨rfl, rfl⟩ m_Fr_lowest k_Fr_21 ⟨Nat.le_of_ble_eq_true rfl, Nat.le_of_ble_eq_true rfl⟩ rfl hl.1 rfl (Nat.le_of_ble_eq_true rfl) d_Fr_rounded_16 hf0 (fun r_3 h => ?_)
  refine lv_isub hx hb d_Fr_rounded_19 ?_
  refine lv_icmp_le (tgt := 28) hx hb d_Fr_rounded_20 (by decide) (fun c_4 => ?_) (fun c_4 => ?_)
  · skip
    have h := h.1 c_4
    refine lv_bipush (v := 62) hx hb d_Fr_rounded_28 (by decide) ?_
    refine lv_iload_n hx hb d_Fr_rounded_30 rfl (lv_at hl 2 rfl) ?_
    refine zz_Si (As := [.int a0]) (rest := [.int (62 : Int32)]) X (c_Fr_width l a0 _ h) ⟨rfl, rfl⟩ m_Fr_width k_Fr_7 ⟨Nat.le_of_ble_eq_true rfl, Nat.le_of_ble_eq_true rfl⟩ rfl hl.1 rfl (Nat.le_of_ble_eq_true rfl) d_Fr_rounded_31 hf0 (fun r_5 h => ?_)
    refine lv_isub hx hb d_Fr_rounded_34 ?_
    refine lv_iload_n hx hb d_Fr_rounded_35 rfl (lv_at hl 0 rfl) ?_
    refine lv_iconst (v := 0) hx hb d_Fr_rounded_36 (by decide) ?_
    refine va_mmin hx hb (hml.trans hl.1.symm) hown (hT _ k_Fr_52) (hT _ jm_min_s) (hT _ jm_i) (hT _ jm_min_c) (Nat.le_of_ble_eq_true rfl) (Nat.le_of_ble_eq_true rfl) (Nat.le_of_ble_eq_true rfl) (Nat.le_of_ble_eq_true rfl) d_Fr_rounded_37 ?_
    refine lv_topi (fun x_6 ex_6 => ?_)
    have h := h x_6 ex_6
    refine lv_isub hx hb d_Fr_rounded_40 ?_
    refine lv_topi (fun x_7 ex_7 => ?_)
    have h := h x_7 ex_7
    refine lv_istore_n (lv' := [(3, .int x_7), (2, .int x_2), (0, .ref q), (1, .int a0)]) hx hb d_Fr_rounded_41 rfl hl (by decide) rfl (fun ls hl => ?_)
    refine lv_iload_n hx hb d_Fr_rounded_42 rfl (lv_at hl 0 rfl) ?_
    refine lv_bipush (v := 63) hx hb d_Fr_rounded_43 (by decide) ?_
    refine lv_icmp_le (tgt := 50) hx hb d_Fr_rounded_45 (by decide) (fun c_8 => ?_) (fun c_8 => ?_)
    · skip
      have h := h.1 c_8
      refine lv_aload_n hx hb d_Fr_rounded_50 rfl (lv_at hl 2 rfl) ?_
      refine g_Fr_34 (v := .long L.2.2.2) hx hb hT hown hK hP 0 rfl rfl d_Fr_rounded_51 ?_
      refine lv_iload_n hx hb d_Fr_rounded_54 rfl (lv_at hl 0 rfl) ?_
      refine zz_llushr hx hb d_Fr_rounded_55 ?_
      refine lv_topl (fun x_9 ex_9 => ?_)
      have h := h x_9 ex_9
      refine lv_lstore (lv' := [(4, .long x_9), (3, .int x_7), (2, .int x_2), (0, .ref q), (1, .int a0)]) hx hb d_Fr_rounded_56 hl (by decide) rfl (fun ls hl => ?_)
      refine lv_aload_n hx hb d_Fr_rounded_58 rfl (lv_at hl 3 rfl) ?_
      refine g_Fr_34 (v := .long L.2.2.2) hx hb hT hown hK hP 0 rfl rfl d_Fr_rounded_59 ?_
      refine lv_lconst (v := 1) hx hb d_Fr_rounded_62 (by decide) ?_
      refine lv_iload_n hx hb d_Fr_rounded_63 rfl (lv_at hl 1 rfl) ?_
      refine zz_llshl hx hb d_Fr_rounded_64 ?_
      refine lv_lconst (v := 1) hx hb d_Fr_rounded_65 (by decide) ?_
      refine lv_lsub hx hb d_Fr_rounded_66 ?_
      refine lv_topl (fun x_10 ex_10 => ?_)
      have h := h x_10 ex_10
      refine lv_land hx hb d_Fr_rounded_67 ?_
      refine lv_topl (fun x_11 ex_11 => ?_)
      have h := h x_11 ex_11
      refine lv_lstore (lv' := [(6, .long x_11), (4, .long x_9), (3, .int x_7), (2, .int x_2), (0, .ref q), (1, .int a0)]) hx hb d_Fr_rounded_68 hl (by decide) rfl (fun ls hl => ?_)
      refine lv_aload_n hx hb d_Fr_rounded_70 rfl (lv_at hl 4 rfl) ?_
      refine lv_iconst (v := 0) hx hb d_Fr_rounded_71 (by decide) ?_
      refine lv_lload hx hb d_Fr_rounded_72 (lv_at hl 1 rfl) ?_
      refine lv_lload hx hb d_Fr_rounded_74 (lv_at hl 0 rfl) ?_
      refine lv_lconst (v := 1) hx hb d_Fr_rounded_76 (by decide) ?_
      refine lv_iload_n hx hb d_Fr_rounded_77 rfl (lv_at hl 2 rfl) ?_
      refine lv_iconst (v := 1) hx hb d_Fr_rounded_78 (by decide) ?_
      refine lv_isub hx hb d_Fr_rounded_79 ?_
      refine zz_llshl hx hb d_Fr_rounded_80 ?_
      refine lv_topl (fun x_12 ex_12 => ?_)
      have h := h x_12 ex_12
      refine zz_Ri (As := [.int (0 : Int32), .long x_9, .long x_11, .long x_12]) (rest := []) (wc := wF1 q L) X hK hP (c_Fr_awayFromZero l D cI q L (0 : Int32) x_9 x_11 x_12 _ h) ⟨rfl, rfl⟩ m_Fr_awayFromZero k_Fr_56 ⟨Nat.le_of_ble_eq_true rfl, Nat.le_of_ble_eq_true rfl⟩ [0] rfl 0 0 rfl rfl rfl rfl hl.1 rfl (Nat.le_of_ble_eq_true rfl) d_Fr_rounded_81 hf0 (fun r_13 h => ?_)
      refine lv_if_eq (tgt := 93) hx hb d_Fr_rounded_84 (by decide) (fun c_14 => ?_) (fun c_14 => ?_)
      · skip
        have h := h.1 c_14
        refine lv_iload_n hx hb d_Fr_rounded_93 rfl (lv_at hl 3 rfl) ?_
        refine lv_iconst (v := 0) hx hb d_Fr_rounded_94 (by decide) ?_
        refine va_mmax hx hb (hml.trans hl.1.symm) hown (hT _ k_Fr_60) (hT _ jm_max_s) (hT _ jm_i) (hT _ jm_max_c) (Nat.le_of_ble_eq_true rfl) (Nat.le_of_ble_eq_true rfl) (Nat.le_of_ble_eq_true rfl) (Nat.le_of_ble_eq_true rfl) d_Fr_rounded_95 ?_
        refine lv_topi (fun x_15 ex_15 => ?_)
        have h := h x_15 ex_15
        refine lv_i2l (v := x_15.toInt64) hx hb d_Fr_rounded_98 rfl ?_
        refine lv_iload_n hx hb d_Fr_rounded_99 rfl (lv_at hl 5 rfl) ?_
        refine zz_Si (As := [.int a0]) (rest := [.long x_15.toInt64]) X (c_Fr_width l a0 _ h) ⟨rfl, rfl⟩ m_Fr_width k_Fr_7 ⟨Nat.le_of_ble_eq_true rfl, Nat.le_of_ble_eq_true rfl⟩ rfl hl.1 rfl (Nat.le_of_ble_eq_true rfl) d_Fr_rounded_100 hf0 (fun r_16 h => ?_)
        refine zz_llshl hx hb d_Fr_rounded_103 ?_
        refine lv_lload hx hb d_Fr_rounded_104 (lv_at hl 1 rfl) ?_
        refine lv_ladd hx hb d_Fr_rounded_106 ?_
        refine lv_topl (fun x_17 ex_17 => ?_)
        have h := h x_17 ex_17
        exact W.lret (v := x_17) hx hb hr (fun t ht hW => ⟨x_17,  rfl, h, ht⟩) t_nil d_Fr_rounded_107
      · skip
        have h := h.2 c_14
        refine lv_lload hx hb d_Fr_rounded_87 (lv_at hl 1 rfl) ?_
        refine lv_lconst (v := 1) hx hb d_Fr_rounded_89 (by decide) ?_
        refine lv_ladd hx hb d_Fr_rounded_90 ?_
        refine lv_topl (fun x_18 ex_18 => ?_)
        have h := h x_18 ex_18
        refine lv_lstore (lv' := [(4, .long x_18), (6, .long x_11), (3, .int x_7), (2, .int x_2), (0, .ref q), (1, .int a0)]) hx hb d_Fr_rounded_91 hl (by decide) rfl (fun ls hl => ?_)
        refine lv_iload_n hx hb d_Fr_rounded_93 rfl (lv_at hl 3 rfl) ?_
        refine lv_iconst (v := 0) hx hb d_Fr_rounded_94 (by decide) ?_
        refine va_mmax hx hb (hml.trans hl.1.symm) hown (hT _ k_Fr_60) (hT _ jm_max_s) (hT _ jm_i) (hT _ jm_max_c) (Nat.le_of_ble_eq_true rfl) (Nat.le_of_ble_eq_true rfl) (Nat.le_of_ble_eq_true rfl) (Nat.le_of_ble_eq_true rfl) d_Fr_rounded_95 ?_
        refine lv_topi (fun x_19 ex_19 => ?_)
        have h := h x_19 ex_19
        refine lv_i2l (v := x_19.toInt64) hx hb d_Fr_rounded_98 rfl ?_
        refine lv_iload_n hx hb d_Fr_rounded_99 rfl (lv_at hl 5 rfl) ?_
        refine zz_Si (As := [.int a0]) (rest := [.long x_19.toInt64]) X (c_Fr_width l a0 _ h) ⟨rfl, rfl⟩ m_Fr_width k_Fr_7 ⟨Nat.le_of_ble_eq_true rfl, Nat.le_of_ble_eq_true rfl⟩ rfl hl.1 rfl (Nat.le_of_ble_eq_true rfl) d_Fr_rounded_100 hf0 (fun r_20 h => ?_)
        refine zz_llshl hx hb d_Fr_rounded_103 ?_
        refine lv_lload hx hb d_Fr_rounded_104 (lv_at hl 0 rfl) ?_
        refine lv_ladd hx hb d_Fr_rounded_106 ?_
        refine lv_topl (fun x_21 ex_21 => ?_)
        have h := h x_21 ex_21
        exact W.lret (v := x_21) hx hb hr (fun t ht hW => ⟨x_21,  rfl, h, ht⟩) t_nil d_Fr_rounded_107
    · skip
      have h := h.2 c_8
      refine lv_lconst (v := 0) hx hb d_Fr_rounded_48 (by decide) ?_
      exact W.lret (v := (0 : Int64)) hx hb hr (fun t ht hW => ⟨(0 : Int64),  rfl, h, ht⟩) t_nil d_Fr_rounded_49
  · skip
    have h := h.2 c_4
    refine lv_iload_n hx hb d_Fr_rounded_23 rfl (lv_at hl 2 rfl) ?_
    refine zz_Sl (As := [.int a0]) (rest := []) X (c_Fr_infinity l a0 _ h) ⟨rfl, rfl⟩ m_Fr_infinity k_Fr_45 ⟨Nat.le_of_ble_eq_true rfl, Nat.le_of_ble_eq_true rfl⟩ rfl hl.1 rfl (Nat.le_of_ble_eq_true rfl) d_Fr_rounded_24 hf0 (fun r_22 h => ?_)
    exact W.lret (v := r_22) hx hb hr (fun t ht hW => ⟨r_22,  rfl, h, ht⟩) t_nil d_Fr_rounded_27
def wp_Fr_pack (L : Int32 × Int32 × Int32 × Int64) (a0 : Int32) (P : Int64 → Prop) : Prop := ((L.1 = (0 : Int32) → (((L.2.1 = (0 : Int32)) → P (0 : Int64)) ∧ (¬ (L.2.1 = (0 : Int32)) → (((L.2.1 = (1 : Int32)) → wp_Fr_rounded L a0 (fun r_4 => P ((0 : Int64) ||| r_4))) ∧ (¬ (L.2.1 = (1 : Int32)) → (((L.2.1 = (2 : Int32)) → wp_Fr_infinity a0 (fun r_6 => P ((0 : Int64) ||| r_6))) ∧ (¬ (L.2.1 = (2 : Int32)) → ((a0 = (0 : Int32) → P (2143289343 : Int64)) ∧ (¬ a0 = (0 : Int32) → P (9221120237041090559 : Int64)))))))))) ∧ (¬ L.1 = (0 : Int32) → ((a0 = (0 : Int32) → ∀ x_9 : Int64, x_9 = (zz_lshl (1 : Int64) (31 : Int32)) → (((L.2.1 = (0 : Int32)) → P x_9) ∧ (¬ (L.2.1 = (0 : Int32)) → (((L.2.1 = (1 : Int32)) → wp_Fr_rounded L a0 (fun r_12 => P (x_9 ||| r_12))) ∧ (¬ (L.2.1 = (1 : Int32)) → (((L.2.1 = (2 : Int32)) → wp_Fr_infinity a0 (fun r_14 => P (x_9 ||| r_14))) ∧ (¬ (L.2.1 = (2 : Int32)) → P (2143289343 : Int64)))))))) ∧ (¬ a0 = (0 : Int32) → ∀ x_16 : Int64, x_16 = (zz_lshl (1 : Int64) (63 : Int32)) → (((L.2.1 = (0 : Int32)) → P x_16) ∧ (¬ (L.2.1 = (0 : Int32)) → (((L.2.1 = (1 : Int32)) → wp_Fr_rounded L a0 (fun r_19 => P (x_16 ||| r_19))) ∧ (¬ (L.2.1 = (1 : Int32)) → (((L.2.1 = (2 : Int32)) → wp_Fr_infinity a0 (fun r_21 => P (x_16 ||| r_21))) ∧ (¬ (L.2.1 = (2 : Int32)) → P (9221120237041090559 : Int64)))))))))))
abbrev rm_Fr_pack : Room := { frames := 2, cells := 0, slots := 0, locals := 54 }
set_option maxHeartbeats 4000000 in
set_option maxRecDepth 100000 in
theorem c_Fr_pack (l : Launch) (D : va_G) (cI : ClassId) (q : Nat) (L : Int32 × Int32 × Int32 × Int64) (a0 : Int32) (P : Int64 → Prop) (h : wp_Fr_pack L a0 P) : Met l y_Fr_pack (zz_ws y_Fr_pack b_Fr_pack 4 (some .long)) rm_Fr_pack (va_Pc [.ref q, .int a0] (zz_pr D [(cI, .int)] (wF1 q L))) (vp_Sl P) 0 0 (fun _ => False) := by
  refine Met.ofW (cc := b_Fr_pack) (maxL := 4) (ret := (some .long)) (by decide) rfl ?_
  intro p e s m args below meth c s₁ B hml hv
  obtain ⟨rfl, hP, hK⟩ := hv
  have hx := B.exec
  have hb := B.bytes
  have hr := B.returns
  have hts := atoms_spec (ws := (zz_ws y_Fr_pack b_Fr_pack 4 (some .long))) B.pre
  have hown : s.vm.findClass R_Fr = some m.cls := findClass_of_methodNamed B.named
  have hlocks := B.notSynchronized
  have hT := zz_hts hts
  have X : CallFix p m c b_Fr_pack 4 s ([.ref q, .int a0] : List Value).toArray (zz_ws y_Fr_pack b_Fr_pack 4 (some .long)) R_Fr := ⟨hx, hb, hml, hown, hts⟩
  have hf0 : 0 + 0 ≤ (headSpec (zz_ws y_Fr_pack b_Fr_pack 4 (some .long)) rm_Fr_pack).room.cells ∧ 0 + 0 ≤ (headSpec (zz_ws y_Fr_pack b_Fr_pack 4 (some .long)) rm_Fr_pack).room.slots := ⟨Nat.le_of_ble_eq_true rfl, Nat.le_of_ble_eq_true rfl⟩
  have hl := lv_entry ([.ref q, .int a0]) (n := 4) (Nat.le_of_ble_eq_true rfl)
  rw [lg_entry_eq]
  generalize (lg_sl ([.ref q, .int a0]) ++ List.replicate (4 - (lg_sl ([.ref q, .int a0])).length) Slot.unset).toArray = ls at hl ⊢
  have hl : lv_has ls 4 [(0, .ref q), (1, .int a0)] := hl
  refine lv_aload_n hx hb d_Fr_pack_0 rfl (lv_at hl 0 rfl) ?_
  refine g_Fr_13 (v := .int L.1) hx hb hT hown hK hP 0 rfl rfl d_Fr_pack_1 ?_
  refine lv_if_eq (tgt := 23) hx hb d_Fr_pack_4 (by decide) (fun c_1 => ?_) (fun c_1 => ?_)
  · skip
    have h := h.1 c_1
    refine lv_lconst (v := 0) hx hb d_Fr_pack_23 (by decide) ?_
    refine lv_lstore_n (lv' := [(2, .long (0 : Int64)), (0, .ref q), (1, .int a0)]) hx hb d_Fr_pack_24 rfl hl (by decide) rfl (fun ls hl => ?_)
    refine lv_aload_n hx hb d_Fr_pack_25 rfl (lv_at hl 1 rfl) ?_
    refine g_Fr_17 (v := .int L.2.1) hx hb hT hown hK hP 0 rfl rfl d_Fr_pack_26 ?_
    by_cases c_2 : L.2.1 = (0 : Int32)
    · have h := h.1 c_2
      have h0 := c_2
      refine lv_tableIn (off := 27) (tgt := 56) hx hb d_Fr_pack_29 (by rw [h0]; decide) (by rw [h0]; decide) (by rw [h0]; rfl) (by decide) ?_
      refine lv_lload_n hx hb d_Fr_pack_56 rfl (lv_at hl 0 rfl) ?_
      exact W.lret (v := (0 : Int64)) hx hb hr (fun t ht hW => ⟨(0 : Int64),  rfl, h, ht⟩) t_nil d_Fr_pack_57
    · have h := h.2 c_2
      by_cases c_3 : L.2.1 = (1 : Int32)
      · have h := h.1 c_3
        have h0 := c_3
        refine lv_tableIn (off := 29) (tgt := 58) hx hb d_Fr_pack_29 (by rw [h0]; decide) (by rw [h0]; decide) (by rw [h0]; rfl) (by decide) ?_
        refine lv_lload_n hx hb d_Fr_pack_58 rfl (lv_at hl 0 rfl) ?_
        refine lv_aload_n hx hb d_Fr_pack_59 rfl (lv_at hl 1 rfl) ?_
        refine lv_iload_n hx hb d_Fr_pack_60 rfl (lv_at hl 2 rfl) ?_
        refine zz_Rl (As := [.int a0]) (rest := [.long (0 : Int64)]) (wc := wF1 q L) X hK hP (c_Fr_rounded l D cI q L a0 _ h) ⟨rfl, rfl⟩ m_Fr_rounded k_Fr_41 ⟨Nat.le_of_ble_eq_true rfl, Nat.le_of_ble_eq_true rfl⟩ [0] rfl 0 0 rfl rfl rfl rfl hl.1 rfl (Nat.le_of_ble_eq_true rfl) d_Fr_pack_61 hf0 (fun r_4 h => ?_)
        refine lv_lor hx hb d_Fr_pack_64 ?_
        exact W.lret (v := ((0 : Int64) ||| r_4)) hx hb hr (fun t ht hW => ⟨((0 : Int64) ||| r_4),  rfl, h, ht⟩) t_nil d_Fr_pack_65
      · have h := h.2 c_3
        by_cases c_5 : L.2.1 = (2 : Int32)
        · have h := h.1 c_5
          have h0 := c_5
          refine lv_tableIn (off := 37) (tgt := 66) hx hb d_Fr_pack_29 (by rw [h0]; decide) (by rw [h0]; decide) (by rw [h0]; rfl) (by decide) ?_
          refine lv_lload_n hx hb d_Fr_pack_66 rfl (lv_at hl 0 rfl) ?_
          refine lv_iload_n hx hb d_Fr_pack_67 rfl (lv_at hl 2 rfl) ?_
          refine zz_Sl (As := [.int a0]) (rest := [.long (0 : Int64)]) X (c_Fr_infinity l a0 _ h) ⟨rfl, rfl⟩ m_Fr_infinity k_Fr_45 ⟨Nat.le_of_ble_eq_true rfl, Nat.le_of_ble_eq_true rfl⟩ rfl hl.1 rfl (Nat.le_of_ble_eq_true rfl) d_Fr_pack_68 hf0 (fun r_6 h => ?_)
          refine lv_lor hx hb d_Fr_pack_71 ?_
          exact W.lret (v := ((0 : Int64) ||| r_6)) hx hb hr (fun t ht hW => ⟨((0 : Int64) ||| r_6),  rfl, h, ht⟩) t_nil d_Fr_pack_72
        · have h := h.2 c_5
          refine zz_swD (tgt := 73) hx hb [0, 1, 2] d_Fr_pack_29 (by decide +kernel) (by decide) (List.forall_mem_cons.mpr ⟨lv_neT (k := 0) c_2 (by decide), List.forall_mem_cons.mpr ⟨lv_neT (k := 1) c_3 (by decide), List.forall_mem_cons.mpr ⟨lv_neT (k := 2) c_5 (by decide), fun _ h9 => nomatch h9⟩⟩⟩) (by decide) ?_
          refine lv_iload_n hx hb d_Fr_pack_73 rfl (lv_at hl 2 rfl) ?_
          refine lv_if_eq (tgt := 83) hx hb d_Fr_pack_74 (by decide) (fun c_7 => ?_) (fun c_7 => ?_)
          · skip
            have h := h.1 c_7
            refine lv_ldc2 (v := 2143289343) hx hb hown (hT _ n_Fr_50) d_Fr_pack_83 ?_
            exact W.lret (v := (2143289343 : Int64)) hx hb hr (fun t ht hW => ⟨(2143289343 : Int64),  rfl, h, ht⟩) t_nil d_Fr_pack_86
          · skip
            have h := h.2 c_7
            refine lv_ldc2 (v := 9221120237041090559) hx hb hown (hT _ n_Fr_48) d_Fr_pack_77 ?_
            refine lv_goto (tgt := 86) hx hb d_Fr_pack_80 (by decide) ?_
            exact W.lret (v := (9221120237041090559 : Int64)) hx hb hr (fun t ht hW => ⟨(9221120237041090559 : Int64),  rfl, h, ht⟩) t_nil d_Fr_pack_86
  · skip
    have h := h.2 c_1
    refine lv_lconst (v := 1) hx hb d_Fr_pack_7 (by decide) ?_
    refine lv_iload_n hx hb d_Fr_pack_8 rfl (lv_at hl 1 rfl) ?_
    refine lv_if_eq (tgt := 17) hx hb d_Fr_pack_9 (by decide) (fun c_8 => ?_) (fun c_8 => ?_)
    · skip
      have h := h.1 c_8
      refine lv_bipush (v := 31) hx hb d_Fr_pack_17 (by decide) ?_
      refine zz_llshl hx hb d_Fr_pack_19 ?_
      refine lv_topl (fun x_9 ex_9 => ?_)
      have h := h x_9 ex_9
      refine lv_goto (tgt := 24) hx hb d_Fr_pack_20 (by decide) ?_
      refine lv_lstore_n (lv' := [(2, .long x_9), (0, .ref q), (1, .int a0)]) hx hb d_Fr_pack_24 rfl hl (by decide) rfl (fun ls hl => ?_)
      refine lv_aload_n hx hb d_Fr_pack_25 rfl (lv_at hl 1 rfl) ?_
      refine g_Fr_17 (v := .int L.2.1) hx hb hT hown hK hP 0 rfl rfl d_Fr_pack_26 ?_
      by_cases c_10 : L.2.1 = (0 : Int32)
      · have h := h.1 c_10
        have h0 := c_10
        refine lv_tableIn (off := 27) (tgt := 56) hx hb d_Fr_pack_29 (by rw [h0]; decide) (by rw [h0]; decide) (by rw [h0]; rfl) (by decide) ?_
        refine lv_lload_n hx hb d_Fr_pack_56 rfl (lv_at hl 0 rfl) ?_
        exact W.lret (v := x_9) hx hb hr (fun t ht hW => ⟨x_9,  rfl, h, ht⟩) t_nil d_Fr_pack_57
      · have h := h.2 c_10
        by_cases c_11 : L.2.1 = (1 : Int32)
        · have h := h.1 c_11
          have h0 := c_11
          refine lv_tableIn (off := 29) (tgt := 58) hx hb d_Fr_pack_29 (by rw [h0]; decide) (by rw [h0]; decide) (by rw [h0]; rfl) (by decide) ?_
          refine lv_lload_n hx hb d_Fr_pack_58 rfl (lv_at hl 0 rfl) ?_
          refine lv_aload_n hx hb d_Fr_pack_59 rfl (lv_at hl 1 rfl) ?_
          refine lv_iload_n hx hb d_Fr_pack_60 rfl (lv_at hl 2 rfl) ?_
          refine zz_Rl (As := [.int a0]) (rest := [.long x_9]) (wc := wF1 q L) X hK hP (c_Fr_rounded l D cI q L a0 _ h) ⟨rfl, rfl⟩ m_Fr_rounded k_Fr_41 ⟨Nat.le_of_ble_eq_true rfl, Nat.le_of_ble_eq_true rfl⟩ [0] rfl 0 0 rfl rfl rfl rfl hl.1 rfl (Nat.le_of_ble_eq_true rfl) d_Fr_pack_61 hf0 (fun r_12 h => ?_)
          refine lv_lor hx hb d_Fr_pack_64 ?_
          exact W.lret (v := (x_9 ||| r_12)) hx hb hr (fun t ht hW => ⟨(x_9 ||| r_12),  rfl, h, ht⟩) t_nil d_Fr_pack_65
        · have h := h.2 c_11
          by_cases c_13 : L.2.1 = (2 : Int32)
          · have h := h.1 c_13
            have h0 := c_13
            refine lv_tableIn (off := 37) (tgt := 66) hx hb d_Fr_pack_29 (by rw [h0]; decide) (by rw [h0]; decide) (by rw [h0]; rfl) (by decide) ?_
            refine lv_lload_n hx hb d_Fr_pack_66 rfl (lv_at hl 0 rfl) ?_
            refine lv_iload_n hx hb d_Fr_pack_67 rfl (lv_at hl 2 rfl) ?_
            refine zz_Sl (As := [.int a0]) (rest := [.long x_9]) X (c_Fr_infinity l a0 _ h) ⟨rfl, rfl⟩ m_Fr_infinity k_Fr_45 ⟨Nat.le_of_ble_eq_true rfl, Nat.le_of_ble_eq_true rfl⟩ rfl hl.1 rfl (Nat.le_of_ble_eq_true rfl) d_Fr_pack_68 hf0 (fun r_14 h => ?_)
            refine lv_lor hx hb d_Fr_pack_71 ?_
            exact W.lret (v := (x_9 ||| r_14)) hx hb hr (fun t ht hW => ⟨(x_9 ||| r_14),  rfl, h, ht⟩) t_nil d_Fr_pack_72
          · have h := h.2 c_13
            refine zz_swD (tgt := 73) hx hb [0, 1, 2] d_Fr_pack_29 (by decide +kernel) (by decide) (List.forall_mem_cons.mpr ⟨lv_neT (k := 0) c_10 (by decide), List.forall_mem_cons.mpr ⟨lv_neT (k := 1) c_11 (by decide), List.forall_mem_cons.mpr ⟨lv_neT (k := 2) c_13 (by decide), fun _ h9 => nomatch h9⟩⟩⟩) (by decide) ?_
            refine lv_iload_n hx hb d_Fr_pack_73 rfl (lv_at hl 2 rfl) ?_
            refine lv_if_eq (tgt := 83) hx hb d_Fr_pack_74 (by decide) (fun c_15 => ?_) (fun c_15 => ?_)
            · skip
              refine lv_ldc2 (v := 2143289343) hx hb hown (hT _ n_Fr_50) d_Fr_pack_83 ?_
              exact W.lret (v := (2143289343 : Int64)) hx hb hr (fun t ht hW => ⟨(2143289343 : Int64),  rfl, h, ht⟩) t_nil d_Fr_pack_86
            · exact absurd c_8 c_15
    · skip
      have h := h.2 c_8
      refine lv_bipush (v := 63) hx hb d_Fr_pack_12 (by decide) ?_
      refine lv_goto (tgt := 19) hx hb d_Fr_pack_14 (by decide) ?_
      refine zz_llshl hx hb d_Fr_pack_19 ?_
      refine lv_topl (fun x_16 ex_16 => ?_)
      have h := h x_16 ex_16
      refine lv_goto (tgt := 24) hx hb d_Fr_pack_20 (by decide) ?_
      refine lv_lstore_n (lv' := [(2, .long x_16), (0, .ref q), (1, .int a0)]) hx hb d_Fr_pack_24 rfl hl (by decide) rfl (fun ls hl => ?_)
      refine lv_aload_n hx hb d_Fr_pack_25 rfl (lv_at hl 1 rfl) ?_
      refine g_Fr_17 (v := .int L.2.1) hx hb hT hown hK hP 0 rfl rfl d_Fr_pack_26 ?_
      by_cases c_17 : L.2.1 = (0 : Int32)
      · have h := h.1 c_17
        have h0 := c_17
        refine lv_tableIn (off := 27) (tgt := 56) hx hb d_Fr_pack_29 (by rw [h0]; decide) (by rw [h0]; decide) (by rw [h0]; rfl) (by decide) ?_
        refine lv_lload_n hx hb d_Fr_pack_56 rfl (lv_at hl 0 rfl) ?_
        exact W.lret (v := x_16) hx hb hr (fun t ht hW => ⟨x_16,  rfl, h, ht⟩) t_nil d_Fr_pack_57
      · have h := h.2 c_17
        by_cases c_18 : L.2.1 = (1 : Int32)
        · have h := h.1 c_18
          have h0 := c_18
          refine lv_tableIn (off := 29) (tgt := 58) hx hb d_Fr_pack_29 (by rw [h0]; decide) (by rw [h0]; decide) (by rw [h0]; rfl) (by decide) ?_
          refine lv_lload_n hx hb d_Fr_pack_58 rfl (lv_at hl 0 rfl) ?_
          refine lv_aload_n hx hb d_Fr_pack_59 rfl (lv_at hl 1 rfl) ?_
          refine lv_iload_n hx hb d_Fr_pack_60 rfl (lv_at hl 2 rfl) ?_
          refine zz_Rl (As := [.int a0]) (rest := [.long x_16]) (wc := wF1 q L) X hK hP (c_Fr_rounded l D cI q L a0 _ h) ⟨rfl, rfl⟩ m_Fr_rounded k_Fr_41 ⟨Nat.le_of_ble_eq_true rfl, Nat.le_of_ble_eq_true rfl⟩ [0] rfl 0 0 rfl rfl rfl rfl hl.1 rfl (Nat.le_of_ble_eq_true rfl) d_Fr_pack_61 hf0 (fun r_19 h => ?_)
          refine lv_lor hx hb d_Fr_pack_64 ?_
          exact W.lret (v := (x_16 ||| r_19)) hx hb hr (fun t ht hW => ⟨(x_16 ||| r_19),  rfl, h, ht⟩) t_nil d_Fr_pack_65
        · have h := h.2 c_18
          by_cases c_20 : L.2.1 = (2 : Int32)
          · have h := h.1 c_20
            have h0 := c_20
            refine lv_tableIn (off := 37) (tgt := 66) hx hb d_Fr_pack_29 (by rw [h0]; decide) (by rw [h0]; decide) (by rw [h0]; rfl) (by decide) ?_
            refine lv_lload_n hx hb d_Fr_pack_66 rfl (lv_at hl 0 rfl) ?_
            refine lv_iload_n hx hb d_Fr_pack_67 rfl (lv_at hl 2 rfl) ?_
            refine zz_Sl (As := [.int a0]) (rest := [.long x_16]) X (c_Fr_infinity l a0 _ h) ⟨rfl, rfl⟩ m_Fr_infinity k_Fr_45 ⟨Nat.le_of_ble_eq_true rfl, Nat.le_of_ble_eq_true rfl⟩ rfl hl.1 rfl (Nat.le_of_ble_eq_true rfl) d_Fr_pack_68 hf0 (fun r_21 h => ?_)
            refine lv_lor hx hb d_Fr_pack_71 ?_
            exact W.lret (v := (x_16 ||| r_21)) hx hb hr (fun t ht hW => ⟨(x_16 ||| r_21),  rfl, h, ht⟩) t_nil d_Fr_pack_72
          · have h := h.2 c_20
            refine zz_swD (tgt := 73) hx hb [0, 1, 2] d_Fr_pack_29 (by decide +kernel) (by decide) (List.forall_mem_cons.mpr ⟨lv_neT (k := 0) c_17 (by decide), List.forall_mem_cons.mpr ⟨lv_neT (k := 1) c_18 (by decide), List.forall_mem_cons.mpr ⟨lv_neT (k := 2) c_20 (by decide), fun _ h9 => nomatch h9⟩⟩⟩) (by decide) ?_
            refine lv_iload_n hx hb d_Fr_pack_73 rfl (lv_at hl 2 rfl) ?_
            refine lv_if_eq (tgt := 83) hx hb d_Fr_pack_74 (by decide) (fun c_22 => ?_) (fun c_22 => ?_)
            · exact absurd c_22 c_8
            · skip
              refine lv_ldc2 (v := 9221120237041090559) hx hb hown (hT _ n_Fr_48) d_Fr_pack_77 ?_
              refine lv_goto (tgt := 86) hx hb d_Fr_pack_80 (by decide) ?_
              exact W.lret (v := (9221120237041090559 : Int64)) hx hb hr (fun t ht hW => ⟨(9221120237041090559 : Int64),  rfl, h, ht⟩) t_nil d_Fr_pack_86
def wp_Fr_toWord (L : Int32 × Int32 × Int32 × Int64) (a0 : Int32) (P : Int32 → Prop) : Prop := ((L.2.1 = (0 : Int32) → P (0 : Int32)) ∧ (¬ L.2.1 = (0 : Int32) → ((L.2.1 = (1 : Int32) → ((L.2.2.1 ≤ (31 : Int32) → (((-1 : Int32) ≤ L.2.2.1 → ∀ x_7 : Int32, x_7 = ((62 : Int32) - L.2.2.1) → ∀ x_8 : Int64, x_8 = (zz_lushr L.2.2.2 x_7) → ∀ x_9 : Int64, x_9 = ((zz_lshl (1 : Int64) x_7) - (1 : Int64)) → ∀ x_10 : Int64, x_10 = (L.2.2.2 &&& x_9) → ∀ x_11 : Int64, x_11 = (zz_lshl (1 : Int64) (x_7 - (1 : Int32))) → wp_Fr_awayFromZero L a0 x_8 x_10 x_11 (fun r_12 => ((r_12 = (0 : Int32) → ((L.1 = (0 : Int32) → ((x_8 = x_8.toInt32.toInt64 → P x_8.toInt32) ∧ (¬ x_8 = x_8.toInt32.toInt64 → P (2147483647 : Int32)))) ∧ (¬ L.1 = (0 : Int32) → ∀ x_16 : Int64, x_16 = (-x_8) → ((x_16 = x_16.toInt32.toInt64 → P x_16.toInt32) ∧ (¬ x_16 = x_16.toInt32.toInt64 → P (2147483647 : Int32)))))) ∧ (¬ r_12 = (0 : Int32) → ∀ x_18 : Int64, x_18 = (x_8 + (1 : Int64)) → ((L.1 = (0 : Int32) → ((x_18 = x_18.toInt32.toInt64 → P x_18.toInt32) ∧ (¬ x_18 = x_18.toInt32.toInt64 → P (2147483647 : Int32)))) ∧ (¬ L.1 = (0 : Int32) → ∀ x_21 : Int64, x_21 = (-x_18) → ((x_21 = x_21.toInt32.toInt64 → P x_21.toInt32) ∧ (¬ x_21 = x_21.toInt32.toInt64 → P (2147483647 : Int32))))))))) ∧ (¬ (-1 : Int32) ≤ L.2.2.1 → ∀ x_25 : Int64, x_25 = (zz_lushr (1 : Int64) (63 : Int32)) → ∀ x_26 : Int64, x_26 = (zz_lshl (1 : Int64) (63 : Int32)) → ∀ x_27 : Int64, x_27 = ((1 : Int64) &&& (x_26 - (1 : Int64))) → ∀ x_28 : Int64, x_28 = (zz_lshl (1 : Int64) ((63 : Int32) - (1 : Int32))) → wp_Fr_awayFromZero L a0 x_25 x_27 x_28 (fun r_29 => ((r_29 = (0 : Int32) → ((L.1 = (0 : Int32) → ((x_25 = x_25.toInt32.toInt64 → P x_25.toInt32) ∧ (¬ x_25 = x_25.toInt32.toInt64 → P (2147483647 : Int32)))) ∧ (¬ L.1 = (0 : Int32) → ∀ x_33 : Int64, x_33 = (-x_25) → ((x_33 = x_33.toInt32.toInt64 → P x_33.toInt32) ∧ (¬ x_33 = x_33.toInt32.toInt64 → P (2147483647 : Int32)))))) ∧ (¬ r_29 = (0 : Int32) → ∀ x_35 : Int64, x_35 = (x_25 + (1 : Int64)) → ((L.1 = (0 : Int32) → ((x_35 = x_35.toInt32.toInt64 → P x_35.toInt32) ∧ (¬ x_35 = x_35.toInt32.toInt64 → P (2147483647 : Int32)))) ∧ (¬ L.1 = (0 : Int32) → ∀ x_38 : Int64, x_38 = (-x_35) → ((x_38 = x_38.toInt32.toInt64 → P x_38.toInt32) ∧ (¬ x_38 = x_38.toInt32.toInt64 → P (2147483647 : Int32))))))))))) ∧ (¬ L.2.2.1 ≤ (31 : Int32) → P (2147483647 : Int32)))) ∧ (¬ L.2.1 = (1 : Int32) → P (2147483647 : Int32)))))
abbrev rm_Fr_toWord : Room := { frames := 1, cells := 0, slots := 0, locals := 27 }
set_option maxHeartbeats 4000000 in
set_option maxRecDepth 100000 in
theorem c_Fr_toWord (l : Launch) (D : va_G) (cI : ClassId) (q : Nat) (L : Int32 × Int32 × Int32 × Int64) (a0 : Int32) (P : Int32 → Prop) (h : wp_Fr_toWord L a0 P) : Met l y_Fr_toWord (zz_ws y_Fr_toWord b_Fr_toWord 12 (some .int)) rm_Fr_toWord (va_Pc [.ref q, .int a0] (zz_pr D [(cI, .int)] (wF1 q L))) (vp_Si P) 0 0 (fun _ => False) := by
  refine Met.ofW (cc := b_Fr_toWord) (maxL := 12) (ret := (some .int)) (by decide) rfl ?_
  intro p e s m args below meth c s₁ B hml hv
  obtain ⟨rfl, hP, hK⟩ := hv
  have hx := B.exec
  have hb := B.bytes
  have hr := B.returns
  have hts := atoms_spec (ws := (zz_ws y_Fr_toWord b_Fr_toWord 12 (some .int))) B.pre
  have hown : s.vm.findClass R_Fr = some m.cls := findClass_of_methodNamed B.named
  have hlocks := B.notSynchronized
  have hT := zz_hts hts
  have X : CallFix p m c b_Fr_toWord 12 s ([.ref q, .int a0] : List Value).toArray (zz_ws y_Fr_toWord b_Fr_toWord 12 (some .int)) R_Fr := ⟨hx, hb, hml, hown, hts⟩
  have hf0 : 0 + 0 ≤ (headSpec (zz_ws y_Fr_toWord b_Fr_toWord 12 (some .int)) rm_Fr_toWord).room.cells ∧ 0 + 0 ≤ (headSpec (zz_ws y_Fr_toWord b_Fr_toWord 12 (some .int)) rm_Fr_toWord).room.slots := ⟨Nat.le_of_ble_eq_true rfl, Nat.le_of_ble_eq_true rfl⟩
  have hl := lv_entry ([.ref q, .int a0]) (n := 12) (Nat.le_of_ble_eq_true rfl)
  rw [lg_entry_eq]
  generalize (lg_sl ([.ref q, .int a0]) ++ List.replicate (12 - (lg_sl ([.ref q, .int a0])).length) Slot.unset).toArray = ls at hl ⊢
  have hl : lv_has ls 12 [(0, .ref q), (1, .int a0)] := hl
  refine lv_aload_n hx hb d_Fr_toWord_0 rfl (lv_at hl 0 rfl) ?_
  refine g_Fr_17 (v := .int L.2.1) hx hb hT hown hK hP 0 rfl rfl d_Fr_toWord_1 ?_
  refine lv_if_ne (tgt := 9) hx hb d_Fr_toWord_4 (by decide) (fun c_1 => ?_) (fun c_1 => ?_)
  · skip
    have h := h.2 c_1
    refine lv_aload_n hx hb d_Fr_toWord_9 rfl (lv_at hl 0 rfl) ?_
    refine g_Fr_17 (v := .int L.2.1) hx hb hT hown hK hP 0 rfl rfl d_Fr_toWord_10 ?_
    refine lv_iconst (v := 1) hx hb d_Fr_toWord_13 (by decide) ?_
    refine lv_icmp_ne (tgt := 26) hx hb d_Fr_toWord_14 (by decide) (fun c_2 => ?_) (fun c_2 => ?_)
    · skip
      have h := h.2 c_2
      refine lv_ldc (v := 2147483647) hx hb hown (hT _ n_Fr_63) d_Fr_toWord_26 ?_
      exact W.iret (v := (2147483647 : Int32)) hx hb hr (fun t ht hW => ⟨(2147483647 : Int32),  rfl, h, ht⟩) t_nil d_Fr_toWord_28
    · skip
      have h := h.1 c_2
      refine lv_aload_n hx hb d_Fr_toWord_17 rfl (lv_at hl 0 rfl) ?_
      refine g_Fr_38 (v := .int L.2.2.1) hx hb hT hown hK hP 0 rfl rfl d_Fr_toWord_18 ?_
      refine lv_bipush (v := 31) hx hb d_Fr_toWord_21 (by decide) ?_
      refine lv_icmp_le (tgt := 29) hx hb d_Fr_toWord_23 (by decide) (fun c_3 => ?_) (fun c_3 => ?_)
      · skip
        have h := h.1 c_3
        refine lv_aload_n hx hb d_Fr_toWord_29 rfl (lv_at hl 0 rfl) ?_
        refine g_Fr_38 (v := .int L.2.2.1) hx hb hT hown hK hP 0 rfl rfl d_Fr_toWord_30 ?_
        refine lv_iconst (v := -1) hx hb d_Fr_toWord_33 (by decide) ?_
        refine lv_icmp_ge (tgt := 41) hx hb d_Fr_toWord_34 (by decide) (fun c_4 => ?_) (fun c_4 => ?_)
        · skip
          have h := h.1 c_4
          refine lv_iconst (v := 0) hx hb d_Fr_toWord_41 (by decide) ?_
          refine lv_istore_n (lv' := [(2, .int (0 : Int32)), (0, .ref q), (1, .int a0)]) hx hb d_Fr_toWord_42 rfl hl (by decide) rfl (fun ls hl => ?_)
          refine lv_iload_n hx hb d_Fr_toWord_43 rfl (lv_at hl 0 rfl) ?_
          refine lv_if_eq (tgt := 51) hx hb d_Fr_toWord_44 (by decide) (fun c_5 => ?_) (fun c_5 => ?_)
          · skip
            refine lv_aload_n hx hb d_Fr_toWord_51 rfl (lv_at hl 1 rfl) ?_
            refine g_Fr_34 (v := .long L.2.2.2) hx hb hT hown hK hP 0 rfl rfl d_Fr_toWord_52 ?_
            refine lv_lstore_n (lv' := [(3, .long L.2.2.2), (2, .int (0 : Int32)), (0, .ref q), (1, .int a0)]) hx hb d_Fr_toWord_55 rfl hl (by decide) rfl (fun ls hl => ?_)
            refine lv_iload_n hx hb d_Fr_toWord_56 rfl (lv_at hl 1 rfl) ?_
            refine lv_if_eq (tgt := 65) hx hb d_Fr_toWord_57 (by decide) (fun c_6 => ?_) (fun c_6 => ?_)
            · skip
              refine lv_bipush (v := 62) hx hb d_Fr_toWord_65 (by decide) ?_
              refine lv_aload_n hx hb d_Fr_toWord_67 rfl (lv_at hl 2 rfl) ?_
              refine g_Fr_38 (v := .int L.2.2.1) hx hb hT hown hK hP 0 rfl rfl d_Fr_toWord_68 ?_
              refine lv_isub hx hb d_Fr_toWord_71 ?_
              refine lv_topi (fun x_7 ex_7 => ?_)
              have h := h x_7 ex_7
              refine lv_istore (lv' := [(5, .int x_7), (3, .long L.2.2.2), (2, .int (0 : Int32)), (0, .ref q), (1, .int a0)]) hx hb d_Fr_toWord_72 hl (by decide) rfl (fun ls hl => ?_)
              refine lv_lload_n hx hb d_Fr_toWord_74 rfl (lv_at hl 1 rfl) ?_
              refine lv_iload hx hb d_Fr_toWord_75 (lv_at hl 0 rfl) ?_
              refine zz_llushr hx hb d_Fr_toWord_77 ?_
              refine lv_topl (fun x_8 ex_8 => ?_)
              have h := h x_8 ex_8
              refine lv_lstore (lv' := [(6, .long x_8), (5, .int x_7), (3, .long L.2.2.2), (2, .int (0 : Int32)), (0, .ref q), (1, .int a0)]) hx hb d_Fr_toWord_78 hl (by decide) rfl (fun ls hl => ?_)
              refine lv_lload_n hx hb d_Fr_toWord_80 rfl (lv_at hl 2 rfl) ?_
              refine lv_lconst (v := 1) hx hb d_Fr_toWord_81 (by decide) ?_
              refine lv_iload hx hb d_Fr_toWord_82 (lv_at hl 1 rfl) ?_
              refine zz_llshl hx hb d_Fr_toWord_84 ?_
              refine lv_lconst (v := 1) hx hb d_Fr_toWord_85 (by decide) ?_
              refine lv_lsub hx hb d_Fr_toWord_86 ?_
              refine lv_topl (fun x_9 ex_9 => ?_)
              have h := h x_9 ex_9
              refine lv_land hx hb d_Fr_toWord_87 ?_
              refine lv_topl (fun x_10 ex_10 => ?_)
              have h := h x_10 ex_10
              refine lv_lstore (lv' := [(8, .long x_10), (6, .long x_8), (5, .int x_7), (3, .long L.2.2.2), (2, .int (0 : Int32)), (0, .ref q), (1, .int a0)]) hx hb d_Fr_toWord_88 hl (by decide) rfl (fun ls hl => ?_)
              refine lv_aload_n hx hb d_Fr_toWord_90 rfl (lv_at hl 5 rfl) ?_
              refine lv_iload_n hx hb d_Fr_toWord_91 rfl (lv_at hl 6 rfl) ?_
              refine lv_lload hx hb d_Fr_toWord_92 (lv_at hl 1 rfl) ?_
              refine lv_lload hx hb d_Fr_toWord_94 (lv_at hl 0 rfl) ?_
              refine lv_lconst (v := 1) hx hb d_Fr_toWord_96 (by decide) ?_
              refine lv_iload hx hb d_Fr_toWord_97 (lv_at hl 2 rfl) ?_
              refine lv_iconst (v := 1) hx hb d_Fr_toWord_99 (by decide) ?_
              refine lv_isub hx hb d_Fr_toWord_100 ?_
              refine zz_llshl hx hb d_Fr_toWord_101 ?_
              refine lv_topl (fun x_11 ex_11 => ?_)
              have h := h x_11 ex_11
              refine zz_Ri (As := [.int a0, .long x_8, .long x_10, .long x_11]) (rest := []) (wc := wF1 q L) X hK hP (c_Fr_awayFromZero l D cI q L a0 x_8 x_10 x_11 _ h) ⟨rfl, rfl⟩ m_Fr_awayFromZero k_Fr_56 ⟨Nat.le_of_ble_eq_true rfl, Nat.le_of_ble_eq_true rfl⟩ [0] rfl 0 0 rfl rfl rfl rfl hl.1 rfl (Nat.le_of_ble_eq_true rfl) d_Fr_toWord_102 hf0 (fun r_12 h => ?_)
              refine lv_if_eq (tgt := 114) hx hb d_Fr_toWord_105 (by decide) (fun c_13 => ?_) (fun c_13 => ?_)
              · skip
                have h := h.1 c_13
                refine lv_aload_n hx hb d_Fr_toWord_114 rfl (lv_at hl 5 rfl) ?_
                refine g_Fr_13 (v := .int L.1) hx hb hT hown hK hP 0 rfl rfl d_Fr_toWord_115 ?_
                refine lv_if_eq (tgt := 127) hx hb d_Fr_toWord_118 (by decide) (fun c_14 => ?_) (fun c_14 => ?_)
                · skip
                  have h := h.1 c_14
                  refine lv_lload hx hb d_Fr_toWord_127 (lv_at hl 1 rfl) ?_
                  refine lv_lstore (lv' := [(10, .long x_8), (8, .long x_10), (6, .long x_8), (5, .int x_7), (3, .long L.2.2.2), (2, .int (0 : Int32)), (0, .ref q), (1, .int a0)]) hx hb d_Fr_toWord_129 hl (by decide) rfl (fun ls hl => ?_)
                  refine lv_lload hx hb d_Fr_toWord_131 (lv_at hl 0 rfl) ?_
                  refine lv_lload hx hb d_Fr_toWord_133 (lv_at hl 0 rfl) ?_
                  refine lv_l2i (v := x_8.toInt32) hx hb d_Fr_toWord_135 rfl ?_
                  refine lv_i2l (v := x_8.toInt32.toInt64) hx hb d_Fr_toWord_136 rfl ?_
                  refine W.lcmp hx hb d_Fr_toWord_137 ?_
                  refine lv_if_ne (tgt := 147) hx hb d_Fr_toWord_138 (by decide) (fun c_15 => ?_) (fun c_15 => ?_)
                  · have kc_15 := (fun q => c_15 ((lg_cmp_eq _ _).mpr q))
                    have h := h.2 kc_15
                    refine lv_ldc (v := 2147483647) hx hb hown (hT _ n_Fr_63) d_Fr_toWord_147 ?_
                    exact W.iret (v := (2147483647 : Int32)) hx hb hr (fun t ht hW => ⟨(2147483647 : Int32),  rfl, h, ht⟩) t_nil d_Fr_toWord_149
                  · have kc_15 := ((lg_cmp_eq _ _).mp c_15)
                    have h := h.1 kc_15
                    refine lv_lload hx hb d_Fr_toWord_141 (lv_at hl 0 rfl) ?_
                    refine lv_l2i (v := x_8.toInt32) hx hb d_Fr_toWord_143 rfl ?_
                    refine lv_goto (tgt := 149) hx hb d_Fr_toWord_144 (by decide) ?_
                    exact W.iret (v := x_8.toInt32) hx hb hr (fun t ht hW => ⟨x_8.toInt32,  rfl, h, ht⟩) t_nil d_Fr_toWord_149
                · skip
                  have h := h.2 c_14
                  refine lv_lload hx hb d_Fr_toWord_121 (lv_at hl 1 rfl) ?_
                  refine lv_lneg hx hb d_Fr_toWord_123 ?_
                  refine lv_goto (tgt := 129) hx hb d_Fr_toWord_124 (by decide) ?_
                  refine lv_topl (fun x_16 ex_16 => ?_)
                  have h := h x_16 ex_16
                  refine lv_lstore (lv' := [(10, .long x_16), (8, .long x_10), (6, .long x_8), (5, .int x_7), (3, .long L.2.2.2), (2, .int (0 : Int32)), (0, .ref q), (1, .int a0)]) hx hb d_Fr_toWord_129 hl (by decide) rfl (fun ls hl => ?_)
                  refine lv_lload hx hb d_Fr_toWord_131 (lv_at hl 0 rfl) ?_
                  refine lv_lload hx hb d_Fr_toWord_133 (lv_at hl 0 rfl) ?_
                  refine lv_l2i (v := x_16.toInt32) hx hb d_Fr_toWord_135 rfl ?_
                  refine lv_i2l (v := x_16.toInt32.toInt64) hx hb d_Fr_toWord_136 rfl ?_
                  refine W.lcmp hx hb d_Fr_toWord_137 ?_
                  refine lv_if_ne (tgt := 147) hx hb d_Fr_toWord_138 (by decide) (fun c_17 => ?_) (fun c_17 => ?_)
                  · have kc_17 := (fun q => c_17 ((lg_cmp_eq _ _).mpr q))
                    have h := h.2 kc_17
                    refine lv_ldc (v := 2147483647) hx hb hown (hT _ n_Fr_63) d_Fr_toWord_147 ?_
                    exact W.iret (v := (2147483647 : Int32)) hx hb hr (fun t ht hW => ⟨(2147483647 : Int32),  rfl, h, ht⟩) t_nil d_Fr_toWord_149
                  · have kc_17 := ((lg_cmp_eq _ _).mp c_17)
                    have h := h.1 kc_17
                    refine lv_lload hx hb d_Fr_toWord_141 (lv_at hl 0 rfl) ?_
                    refine lv_l2i (v := x_16.toInt32) hx hb d_Fr_toWord_143 rfl ?_
                    refine lv_goto (tgt := 149) hx hb d_Fr_toWord_144 (by decide) ?_
                    exact W.iret (v := x_16.toInt32) hx hb hr (fun t ht hW => ⟨x_16.toInt32,  rfl, h, ht⟩) t_nil d_Fr_toWord_149
              · skip
                have h := h.2 c_13
                refine lv_lload hx hb d_Fr_toWord_108 (lv_at hl 1 rfl) ?_
                refine lv_lconst (v := 1) hx hb d_Fr_toWord_110 (by decide) ?_
                refine lv_ladd hx hb d_Fr_toWord_111 ?_
                refine lv_topl (fun x_18 ex_18 => ?_)
                have h := h x_18 ex_18
                refine lv_lstore (lv' := [(6, .long x_18), (8, .long x_10), (5, .int x_7), (3, .long L.2.2.2), (2, .int (0 : Int32)), (0, .ref q), (1, .int a0)]) hx hb d_Fr_toWord_112 hl (by decide) rfl (fun ls hl => ?_)
                refine lv_aload_n hx hb d_Fr_toWord_114 rfl (lv_at hl 5 rfl) ?_
                refine g_Fr_13 (v := .int L.1) hx hb hT hown hK hP 0 rfl rfl d_Fr_toWord_115 ?_
                refine lv_if_eq (tgt := 127) hx hb d_Fr_toWord_118 (by decide) (fun c_19 => ?_) (fun c_19 => ?_)
                · skip
                  have h := h.1 c_19
                  refine lv_lload hx hb d_Fr_toWord_127 (lv_at hl 0 rfl) ?_
                  refine lv_lstore (lv' := [(10, .long x_18), (6, .long x_18), (8, .long x_10), (5, .int x_7), (3, .long L.2.2.2), (2, .int (0 : Int32)), (0, .ref q), (1, .int a0)]) hx hb d_Fr_toWord_129 hl (by decide) rfl (fun ls hl => ?_)
                  refine lv_lload hx hb d_Fr_toWord_131 (lv_at hl 0 rfl) ?_
                  refine lv_lload hx hb d_Fr_toWord_133 (lv_at hl 0 rfl) ?_
                  refine lv_l2i (v := x_18.toInt32) hx hb d_Fr_toWord_135 rfl ?_
                  refine lv_i2l (v := x_18.toInt32.toInt64) hx hb d_Fr_toWord_136 rfl ?_
                  refine W.lcmp hx hb d_Fr_toWord_137 ?_
                  refine lv_if_ne (tgt := 147) hx hb d_Fr_toWord_138 (by decide) (fun c_20 => ?_) (fun c_20 => ?_)
                  · have kc_20 := (fun q => c_20 ((lg_cmp_eq _ _).mpr q))
                    have h := h.2 kc_20
                    refine lv_ldc (v := 2147483647) hx hb hown (hT _ n_Fr_63) d_Fr_toWord_147 ?_
                    exact W.iret (v := (2147483647 : Int32)) hx hb hr (fun t ht hW => ⟨(2147483647 : Int32),  rfl, h, ht⟩) t_nil d_Fr_toWord_149
                  · have kc_20 := ((lg_cmp_eq _ _).mp c_20)
                    have h := h.1 kc_20
                    refine lv_lload hx hb d_Fr_toWord_141 (lv_at hl 0 rfl) ?_
                    refine lv_l2i (v := x_18.toInt32) hx hb d_Fr_toWord_143 rfl ?_
                    refine lv_goto (tgt := 149) hx hb d_Fr_toWord_144 (by decide) ?_
                    exact W.iret (v := x_18.toInt32) hx hb hr (fun t ht hW => ⟨x_18.toInt32,  rfl, h, ht⟩) t_nil d_Fr_toWord_149
                · skip
                  have h := h.2 c_19
                  refine lv_lload hx hb d_Fr_toWord_121 (lv_at hl 0 rfl) ?_
                  refine lv_lneg hx hb d_Fr_toWord_123 ?_
                  refine lv_goto (tgt := 129) hx hb d_Fr_toWord_124 (by decide) ?_
                  refine lv_topl (fun x_21 ex_21 => ?_)
                  have h := h x_21 ex_21
                  refine lv_lstore (lv' := [(10, .long x_21), (6, .long x_18), (8, .long x_10), (5, .int x_7), (3, .long L.2.2.2), (2, .int (0 : Int32)), (0, .ref q), (1, .int a0)]) hx hb d_Fr_toWord_129 hl (by decide) rfl (fun ls hl => ?_)
                  refine lv_lload hx hb d_Fr_toWord_131 (lv_at hl 0 rfl) ?_
                  refine lv_lload hx hb d_Fr_toWord_133 (lv_at hl 0 rfl) ?_
                  refine lv_l2i (v := x_21.toInt32) hx hb d_Fr_toWord_135 rfl ?_
                  refine lv_i2l (v := x_21.toInt32.toInt64) hx hb d_Fr_toWord_136 rfl ?_
                  refine W.lcmp hx hb d_Fr_toWord_137 ?_
                  refine lv_if_ne (tgt := 147) hx hb d_Fr_toWord_138 (by decide) (fun c_22 => ?_) (fun c_22 => ?_)
                  · have kc_22 := (fun q => c_22 ((lg_cmp_eq _ _).mpr q))
                    have h := h.2 kc_22
                    refine lv_ldc (v := 2147483647) hx hb hown (hT _ n_Fr_63) d_Fr_toWord_147 ?_
                    exact W.iret (v := (2147483647 : Int32)) hx hb hr (fun t ht hW => ⟨(2147483647 : Int32),  rfl, h, ht⟩) t_nil d_Fr_toWord_149
                  · have kc_22 := ((lg_cmp_eq _ _).mp c_22)
                    have h := h.1 kc_22
                    refine lv_lload hx hb d_Fr_toWord_141 (lv_at hl 0 rfl) ?_
                    refine lv_l2i (v := x_21.toInt32) hx hb d_Fr_toWord_143 rfl ?_
                    refine lv_goto (tgt := 149) hx hb d_Fr_toWord_144 (by decide) ?_
                    exact W.iret (v := x_21.toInt32) hx hb hr (fun t ht hW => ⟨x_21.toInt32,  rfl, h, ht⟩) t_nil d_Fr_toWord_149
            · exact absurd c_6 (by decide)
          · exact absurd c_5 (by decide)
        · skip
          have h := h.2 c_4
          refine lv_iconst (v := 1) hx hb d_Fr_toWord_37 (by decide) ?_
          refine lv_goto (tgt := 42) hx hb d_Fr_toWord_38 (by decide) ?_
          refine lv_istore_n (lv' := [(2, .int (1 : Int32)), (0, .ref q), (1, .int a0)]) hx hb d_Fr_toWord_42 rfl hl (by decide) rfl (fun ls hl => ?_)
          refine lv_iload_n hx hb d_Fr_toWord_43 rfl (lv_at hl 0 rfl) ?_
          refine lv_if_eq (tgt := 51) hx hb d_Fr_toWord_44 (by decide) (fun c_23 => ?_) (fun c_23 => ?_)
          · exact absurd c_23 (by decide)
          · skip
            refine lv_lconst (v := 1) hx hb d_Fr_toWord_47 (by decide) ?_
            refine lv_goto (tgt := 55) hx hb d_Fr_toWord_48 (by decide) ?_
            refine lv_lstore_n (lv' := [(3, .long (1 : Int64)), (2, .int (1 : Int32)), (0, .ref q), (1, .int a0)]) hx hb d_Fr_toWord_55 rfl hl (by decide) rfl (fun ls hl => ?_)
            refine lv_iload_n hx hb d_Fr_toWord_56 rfl (lv_at hl 1 rfl) ?_
            refine lv_if_eq (tgt := 65) hx hb d_Fr_toWord_57 (by decide) (fun c_24 => ?_) (fun c_24 => ?_)
            · exact absurd c_24 (by decide)
            · skip
              refine lv_bipush (v := 63) hx hb d_Fr_toWord_60 (by decide) ?_
              refine lv_goto (tgt := 72) hx hb d_Fr_toWord_62 (by decide) ?_
              refine lv_istore (lv' := [(5, .int (63 : Int32)), (3, .long (1 : Int64)), (2, .int (1 : Int32)), (0, .ref q), (1, .int a0)]) hx hb d_Fr_toWord_72 hl (by decide) rfl (fun ls hl => ?_)
              refine lv_lload_n hx hb d_Fr_toWord_74 rfl (lv_at hl 1 rfl) ?_
              refine lv_iload hx hb d_Fr_toWord_75 (lv_at hl 0 rfl) ?_
              refine zz_llushr hx hb d_Fr_toWord_77 ?_
              refine lv_topl (fun x_25 ex_25 => ?_)
              have h := h x_25 ex_25
              refine lv_lstore (lv' := [(6, .long x_25), (5, .int (63 : Int32)), (3, .long (1 : Int64)), (2, .int (1 : Int32)), (0, .ref q), (1, .int a0)]) hx hb d_Fr_toWord_78 hl (by decide) rfl (fun ls hl => ?_)
              refine lv_lload_n hx hb d_Fr_toWord_80 rfl (lv_at hl 2 rfl) ?_
              refine lv_lconst (v := 1) hx hb d_Fr_toWord_81 (by decide) ?_
              refine lv_iload hx hb d_Fr_toWord_82 (lv_at hl 1 rfl) ?_
              refine zz_llshl hx hb d_Fr_toWord_84 ?_
              refine lv_topl (fun x_26 ex_26 => ?_)
              have h := h x_26 ex_26
              refine lv_lconst (v := 1) hx hb d_Fr_toWord_85 (by decide) ?_
              refine lv_lsub hx hb d_Fr_toWord_86 ?_
              refine lv_land hx hb d_Fr_toWord_87 ?_
              refine lv_topl (fun x_27 ex_27 => ?_)
              have h := h x_27 ex_27
              refine lv_lstore (lv' := [(8, .long x_27), (6, .long x_25), (5, .int (63 : Int32)), (3, .long (1 : Int64)), (2, .int (1 : Int32)), (0, .ref q), (1, .int a0)]) hx hb d_Fr_toWord_88 hl (by decide) rfl (fun ls hl => ?_)
              refine lv_aload_n hx hb d_Fr_toWord_90 rfl (lv_at hl 5 rfl) ?_
              refine lv_iload_n hx hb d_Fr_toWord_91 rfl (lv_at hl 6 rfl) ?_
              refine lv_lload hx hb d_Fr_toWord_92 (lv_at hl 1 rfl) ?_
              refine lv_lload hx hb d_Fr_toWord_94 (lv_at hl 0 rfl) ?_
              refine lv_lconst (v := 1) hx hb d_Fr_toWord_96 (by decide) ?_
              refine lv_iload hx hb d_Fr_toWord_97 (lv_at hl 2 rfl) ?_
              refine lv_iconst (v := 1) hx hb d_Fr_toWord_99 (by decide) ?_
              refine lv_isub hx hb d_Fr_toWord_100 ?_
              refine zz_llshl hx hb d_Fr_toWord_101 ?_
              refine lv_topl (fun x_28 ex_28 => ?_)
              have h := h x_28 ex_28
              refine zz_Ri (As := [.int a0, .long x_25, .long x_27, .long x_28]) (rest := []) (wc := wF1 q L) X hK hP (c_Fr_awayFromZero l D cI q L a0 x_25 x_27 x_28 _ h) ⟨rfl, rfl⟩ m_Fr_awayFromZero k_Fr_56 ⟨Nat.le_of_ble_eq_true rfl, Nat.le_of_ble_eq_true rfl⟩ [0] rfl 0 0 rfl rfl rfl rfl hl.1 rfl (Nat.le_of_ble_eq_true rfl) d_Fr_toWord_102 hf0 (fun r_29 h => ?_)
              refine lv_if_eq (tgt := 114) hx hb d_Fr_toWord_105 (by decide) (fun c_30 => ?_) (fun c_30 => ?_)
              · skip
                have h := h.1 c_30
                refine lv_aload_n hx hb d_Fr_toWord_114 rfl (lv_at hl 5 rfl) ?_
                refine g_Fr_13 (v := .int L.1) hx hb hT hown hK hP 0 rfl rfl d_Fr_toWord_115 ?_
                refine lv_if_eq (tgt := 127) hx hb d_Fr_toWord_118 (by decide) (fun c_31 => ?_) (fun c_31 => ?_)
                · skip
                  have h := h.1 c_31
                  refine lv_lload hx hb d_Fr_toWord_127 (lv_at hl 1 rfl) ?_
                  refine lv_lstore (lv' := [(10, .long x_25), (8, .long x_27), (6, .long x_25), (5, .int (63 : Int32)), (3, .long (1 : Int64)), (2, .int (1 : Int32)), (0, .ref q), (1, .int a0)]) hx hb d_Fr_toWord_129 hl (by decide) rfl (fun ls hl => ?_)
                  refine lv_lload hx hb d_Fr_toWord_131 (lv_at hl 0 rfl) ?_
                  refine lv_lload hx hb d_Fr_toWord_133 (lv_at hl 0 rfl) ?_
                  refine lv_l2i (v := x_25.toInt32) hx hb d_Fr_toWord_135 rfl ?_
                  refine lv_i2l (v := x_25.toInt32.toInt64) hx hb d_Fr_toWord_136 rfl ?_
                  refine W.lcmp hx hb d_Fr_toWord_137 ?_
                  refine lv_if_ne (tgt := 147) hx hb d_Fr_toWord_138 (by decide) (fun c_32 => ?_) (fun c_32 => ?_)
                  · have kc_32 := (fun q => c_32 ((lg_cmp_eq _ _).mpr q))
                    have h := h.2 kc_32
                    refine lv_ldc (v := 2147483647) hx hb hown (hT _ n_Fr_63) d_Fr_toWord_147 ?_
                    exact W.iret (v := (2147483647 : Int32)) hx hb hr (fun t ht hW => ⟨(2147483647 : Int32),  rfl, h, ht⟩) t_nil d_Fr_toWord_149
                  · have kc_32 := ((lg_cmp_eq _ _).mp c_32)
                    have h := h.1 kc_32
                    refine lv_lload hx hb d_Fr_toWord_141 (lv_at hl 0 rfl) ?_
                    refine lv_l2i (v := x_25.toInt32) hx hb d_Fr_toWord_143 rfl ?_
                    refine lv_goto (tgt := 149) hx hb d_Fr_toWord_144 (by decide) ?_
                    exact W.iret (v := x_25.toInt32) hx hb hr (fun t ht hW => ⟨x_25.toInt32,  rfl, h, ht⟩) t_nil d_Fr_toWord_149
                · skip
                  have h := h.2 c_31
                  refine lv_lload hx hb d_Fr_toWord_121 (lv_at hl 1 rfl) ?_
                  refine lv_lneg hx hb d_Fr_toWord_123 ?_
                  refine lv_goto (tgt := 129) hx hb d_Fr_toWord_124 (by decide) ?_
                  refine lv_topl (fun x_33 ex_33 => ?_)
                  have h := h x_33 ex_33
                  refine lv_lstore (lv' := [(10, .long x_33), (8, .long x_27), (6, .long x_25), (5, .int (63 : Int32)), (3, .long (1 : Int64)), (2, .int (1 : Int32)), (0, .ref q), (1, .int a0)]) hx hb d_Fr_toWord_129 hl (by decide) rfl (fun ls hl => ?_)
                  refine lv_lload hx hb d_Fr_toWord_131 (lv_at hl 0 rfl) ?_
                  refine lv_lload hx hb d_Fr_toWord_133 (lv_at hl 0 rfl) ?_
                  refine lv_l2i (v := x_33.toInt32) hx hb d_Fr_toWord_135 rfl ?_
                  refine lv_i2l (v := x_33.toInt32.toInt64) hx hb d_Fr_toWord_136 rfl ?_
                  refine W.lcmp hx hb d_Fr_toWord_137 ?_
                  refine lv_if_ne (tgt := 147) hx hb d_Fr_toWord_138 (by decide) (fun c_34 => ?_) (fun c_34 => ?_)
                  · have kc_34 := (fun q => c_34 ((lg_cmp_eq _ _).mpr q))
                    have h := h.2 kc_34
                    refine lv_ldc (v := 2147483647) hx hb hown (hT _ n_Fr_63) d_Fr_toWord_147 ?_
                    exact W.iret (v := (2147483647 : Int32)) hx hb hr (fun t ht hW => ⟨(2147483647 : Int32),  rfl, h, ht⟩) t_nil d_Fr_toWord_149
                  · have kc_34 := ((lg_cmp_eq _ _).mp c_34)
                    have h := h.1 kc_34
                    refine lv_lload hx hb d_Fr_toWord_141 (lv_at hl 0 rfl) ?_
                    refine lv_l2i (v := x_33.toInt32) hx hb d_Fr_toWord_143 rfl ?_
                    refine lv_goto (tgt := 149) hx hb d_Fr_toWord_144 (by decide) ?_
                    exact W.iret (v := x_33.toInt32) hx hb hr (fun t ht hW => ⟨x_33.toInt32,  rfl, h, ht⟩) t_nil d_Fr_toWord_149
              · skip
                have h := h.2 c_30
                refine lv_lload hx hb d_Fr_toWord_108 (lv_at hl 1 rfl) ?_
                refine lv_lconst (v := 1) hx hb d_Fr_toWord_110 (by decide) ?_
                refine lv_ladd hx hb d_Fr_toWord_111 ?_
                refine lv_topl (fun x_35 ex_35 => ?_)
                have h := h x_35 ex_35
                refine lv_lstore (lv' := [(6, .long x_35), (8, .long x_27), (5, .int (63 : Int32)), (3, .long (1 : Int64)), (2, .int (1 : Int32)), (0, .ref q), (1, .int a0)]) hx hb d_Fr_toWord_112 hl (by decide) rfl (fun ls hl => ?_)
                refine lv_aload_n hx hb d_Fr_toWord_114 rfl (lv_at hl 5 rfl) ?_
                refine g_Fr_13 (v := .int L.1) hx hb hT hown hK hP 0 rfl rfl d_Fr_toWord_115 ?_
                refine lv_if_eq (tgt := 127) hx hb d_Fr_toWord_118 (by decide) (fun c_36 => ?_) (fun c_36 => ?_)
                · skip
                  have h := h.1 c_36
                  refine lv_lload hx hb d_Fr_toWord_127 (lv_at hl 0 rfl) ?_
                  refine lv_lstore (lv' := [(10, .long x_35), (6, .long x_35), (8, .long x_27), (5, .int (63 : Int32)), (3, .long (1 : Int64)), (2, .int (1 : Int32)), (0, .ref q), (1, .int a0)]) hx hb d_Fr_toWord_129 hl (by decide) rfl (fun ls hl => ?_)
                  refine lv_lload hx hb d_Fr_toWord_131 (lv_at hl 0 rfl) ?_
                  refine lv_lload hx hb d_Fr_toWord_133 (lv_at hl 0 rfl) ?_
                  refine lv_l2i (v := x_35.toInt32) hx hb d_Fr_toWord_135 rfl ?_
                  refine lv_i2l (v := x_35.toInt32.toInt64) hx hb d_Fr_toWord_136 rfl ?_
                  refine W.lcmp hx hb d_Fr_toWord_137 ?_
                  refine lv_if_ne (tgt := 147) hx hb d_Fr_toWord_138 (by decide) (fun c_37 => ?_) (fun c_37 => ?_)
                  · have kc_37 := (fun q => c_37 ((lg_cmp_eq _ _).mpr q))
                    have h := h.2 kc_37
                    refine lv_ldc (v := 2147483647) hx hb hown (hT _ n_Fr_63) d_Fr_toWord_147 ?_
                    exact W.iret (v := (2147483647 : Int32)) hx hb hr (fun t ht hW => ⟨(2147483647 : Int32),  rfl, h, ht⟩) t_nil d_Fr_toWord_149
                  · have kc_37 := ((lg_cmp_eq _ _).mp c_37)
                    have h := h.1 kc_37
                    refine lv_lload hx hb d_Fr_toWord_141 (lv_at hl 0 rfl) ?_
                    refine lv_l2i (v := x_35.toInt32) hx hb d_Fr_toWord_143 rfl ?_
                    refine lv_goto (tgt := 149) hx hb d_Fr_toWord_144 (by decide) ?_
                    exact W.iret (v := x_35.toInt32) hx hb hr (fun t ht hW => ⟨x_35.toInt32,  rfl, h, ht⟩) t_nil d_Fr_toWord_149
                · skip
                  have h := h.2 c_36
                  refine lv_lload hx hb d_Fr_toWord_121 (lv_at hl 0 rfl) ?_
                  refine lv_lneg hx hb d_Fr_toWord_123 ?_
                  refine lv_goto (tgt := 129) hx hb d_Fr_toWord_124 (by decide) ?_
                  refine lv_topl (fun x_38 ex_38 => ?_)
                  have h := h x_38 ex_38
                  refine lv_lstore (lv' := [(10, .long x_38), (6, .long x_35), (8, .long x_27), (5, .int (63 : Int32)), (3, .long (1 : Int64)), (2, .int (1 : Int32)), (0, .ref q), (1, .int a0)]) hx hb d_Fr_toWord_129 hl (by decide) rfl (fun ls hl => ?_)
                  refine lv_lload hx hb d_Fr_toWord_131 (lv_at hl 0 rfl) ?_
                  refine lv_lload hx hb d_Fr_toWord_133 (lv_at hl 0 rfl) ?_
                  refine lv_l2i (v := x_38.toInt32) hx hb d_Fr_toWord_135 rfl ?_
                  refine lv_i2l (v := x_38.toInt32.toInt64) hx hb d_Fr_toWord_136 rfl ?_
                  refine W.lcmp hx hb d_Fr_toWord_137 ?_
                  refine lv_if_ne (tgt := 147) hx hb d_Fr_toWord_138 (by decide) (fun c_39 => ?_) (fun c_39 => ?_)
                  · have kc_39 := (fun q => c_39 ((lg_cmp_eq _ _).mpr q))
                    have h := h.2 kc_39
                    refine lv_ldc (v := 2147483647) hx hb hown (hT _ n_Fr_63) d_Fr_toWord_147 ?_
                    exact W.iret (v := (2147483647 : Int32)) hx hb hr (fun t ht hW => ⟨(2147483647 : Int32),  rfl, h, ht⟩) t_nil d_Fr_toWord_149
                  · have kc_39 := ((lg_cmp_eq _ _).mp c_39)
                    have h := h.1 kc_39
                    refine lv_lload hx hb d_Fr_toWord_141 (lv_at hl 0 rfl) ?_
                    refine lv_l2i (v := x_38.toInt32) hx hb d_Fr_toWord_143 rfl ?_
                    refine lv_goto (tgt := 149) hx hb d_Fr_toWord_144 (by decide) ?_
                    exact W.iret (v := x_38.toInt32) hx hb hr (fun t ht hW => ⟨x_38.toInt32,  rfl, h, ht⟩) t_nil d_Fr_toWord_149
      · skip
        have h := h.2 c_3
        refine lv_ldc (v := 2147483647) hx hb hown (hT _ n_Fr_63) d_Fr_toWord_26 ?_
        exact W.iret (v := (2147483647 : Int32)) hx hb hr (fun t ht hW => ⟨(2147483647 : Int32),  rfl, h, ht⟩) t_nil d_Fr_toWord_28
  · skip
    have h := h.1 c_1
    refine lv_iconst (v := 0) hx hb d_Fr_toWord_7 (by decide) ?_
    exact W.iret (v := (0 : Int32)) hx hb hr (fun t ht hW => ⟨(0 : Int32),  rfl, h, ht⟩) t_nil d_Fr_toWord_8
def wp_Fr_side (L : Int32 × Int32 × Int32 × Int64) (P : Int32 → Prop) : Prop := ((L.2.1 = (0 : Int32) → P (0 : Int32)) ∧ (¬ L.2.1 = (0 : Int32) → ((L.1 = (0 : Int32) → P (1 : Int32)) ∧ (¬ L.1 = (0 : Int32) → P (-1 : Int32)))))
abbrev rm_Fr_side : Room := { frames := 0, cells := 0, slots := 0, locals := 0 }
set_option maxHeartbeats 4000000 in
set_option maxRecDepth 100000 in
theorem c_Fr_side (l : Launch) (D : va_G) (cI : ClassId) (q : Nat) (L : Int32 × Int32 × Int32 × Int64) (P : Int32 → Prop) (h : wp_Fr_side L P) : Met l y_Fr_side (zz_ws y_Fr_side b_Fr_side 1 (some .int)) rm_Fr_side (va_Pc [.ref q] (zz_pr D [(cI, .int)] (wF1 q L))) (vp_Si P) 0 0 (fun _ => False) := by
  refine Met.ofW (cc := b_Fr_side) (maxL := 1) (ret := (some .int)) (by decide) rfl ?_
  intro p e s m args below meth c s₁ B hml hv
  obtain ⟨rfl, hP, hK⟩ := hv
  have hx := B.exec
  have hb := B.bytes
  have hr := B.returns
  have hts := atoms_spec (ws := (zz_ws y_Fr_side b_Fr_side 1 (some .int))) B.pre
  have hown : s.vm.findClass R_Fr = some m.cls := findClass_of_methodNamed B.named
  have hlocks := B.notSynchronized
  have hT := zz_hts hts
  have X : CallFix p m c b_Fr_side 1 s ([.ref q] : List Value).toArray (zz_ws y_Fr_side b_Fr_side 1 (some .int)) R_Fr := ⟨hx, hb, hml, hown, hts⟩
  have hf0 : 0 + 0 ≤ (headSpec (zz_ws y_Fr_side b_Fr_side 1 (some .int)) rm_Fr_side).room.cells ∧ 0 + 0 ≤ (headSpec (zz_ws y_Fr_side b_Fr_side 1 (some .int)) rm_Fr_side).room.slots := ⟨Nat.le_of_ble_eq_true rfl, Nat.le_of_ble_eq_true rfl⟩
  have hl := lv_entry ([.ref q]) (n := 1) (Nat.le_of_ble_eq_true rfl)
  rw [lg_entry_eq]
  generalize (lg_sl ([.ref q]) ++ List.replicate (1 - (lg_sl ([.ref q])).length) Slot.unset).toArray = ls at hl ⊢
  have hl : lv_has ls 1 [(0, .ref q)] := hl
  refine lv_aload_n hx hb d_Fr_side_0 rfl (lv_at hl 0 rfl) ?_
  refine g_Fr_17 (v := .int L.2.1) hx hb hT hown hK hP 0 rfl rfl d_Fr_side_1 ?_
  refine lv_if_ne (tgt := 11) hx hb d_Fr_side_4 (by decide) (fun c_1 => ?_) (fun c_1 => ?_)
  · skip
    have h := h.2 c_1
    refine lv_aload_n hx hb d_Fr_side_11 rfl (lv_at hl 0 rfl) ?_
    refine g_Fr_13 (v := .int L.1) hx hb hT hown hK hP 0 rfl rfl d_Fr_side_12 ?_
    refine lv_if_eq (tgt := 22) hx hb d_Fr_side_15 (by decide) (fun c_2 => ?_) (fun c_2 => ?_)
    · skip
      have h := h.1 c_2
      refine lv_iconst (v := 1) hx hb d_Fr_side_22 (by decide) ?_
      exact W.iret (v := (1 : Int32)) hx hb hr (fun t ht hW => ⟨(1 : Int32),  rfl, h, ht⟩) t_nil d_Fr_side_23
    · skip
      have h := h.2 c_2
      refine lv_iconst (v := -1) hx hb d_Fr_side_18 (by decide) ?_
      refine lv_goto (tgt := 23) hx hb d_Fr_side_19 (by decide) ?_
      exact W.iret (v := (-1 : Int32)) hx hb hr (fun t ht hW => ⟨(-1 : Int32),  rfl, h, ht⟩) t_nil d_Fr_side_23
  · skip
    have h := h.1 c_1
    refine lv_iconst (v := 0) hx hb d_Fr_side_7 (by decide) ?_
    refine lv_goto (tgt := 23) hx hb d_Fr_side_8 (by decide) ?_
    exact W.iret (v := (0 : Int32)) hx hb hr (fun t ht hW => ⟨(0 : Int32),  rfl, h, ht⟩) t_nil d_Fr_side_23
def wp_Fr_copy (L : Int32 × Int32 × Int32 × Int64) (O : Int32 × Int32 × Int32 × Int64) (P : ((Int32 × Int32 × Int32 × Int64) × (Int32 × Int32 × Int32 × Int64)) → Prop) : Prop := zz_bz O.1 ∧ P ((O.1, O.2.1, O.2.2.1, O.2.2.2), O)
abbrev rm_Fr_copy : Room := { frames := 0, cells := 0, slots := 0, locals := 0 }
set_option maxHeartbeats 4000000 in
set_option maxRecDepth 100000 in
theorem c_Fr_copy (l : Launch) (D : va_G) (cI : ClassId) (q : Nat) (qo : Nat) (L : Int32 × Int32 × Int32 × Int64) (O : Int32 × Int32 × Int32 × Int64) (P : ((Int32 × Int32 × Int32 × Int64) × (Int32 × Int32 × Int32 × Int64)) → Prop) (h : wp_Fr_copy L O P) (sz : Nat) : Met l y_Fr_copy (zz_ws y_Fr_copy b_Fr_copy 2 none) rm_Fr_copy (va_Pc [.ref q, .ref qo] (zz_pw D [(cI, .int)] (wF2 q qo L O) sz)) (va_Qv P (zz_qw D (fun u => wF2 q qo u.1 u.2) (va_A (wF2 q qo L O) sz)) (va_A (wF2 q qo L O) sz)) 0 0 (va_A (wF2 q qo L O) sz) := by
  refine Met.ofW (cc := b_Fr_copy) (maxL := 2) (ret := none) (by decide) rfl ?_
  intro p e s m args below meth c s₁ B hml hv
  obtain ⟨rfl, hsz, hP, hK, hD0⟩ := hv
  have hx := B.exec
  have hb := B.bytes
  have hr := B.returns
  have hts := atoms_spec (ws := (zz_ws y_Fr_copy b_Fr_copy 2 none)) B.pre
  have hown : s.vm.findClass R_Fr = some m.cls := findClass_of_methodNamed B.named
  have hlocks := B.notSynchronized
  have hT := zz_hts hts
  have X : CallFix p m c b_Fr_copy 2 s ([.ref q, .ref qo] : List Value).toArray (zz_ws y_Fr_copy b_Fr_copy 2 none) R_Fr := ⟨hx, hb, hml, hown, hts⟩
  have hf0 : 0 + 0 ≤ (headSpec (zz_ws y_Fr_copy b_Fr_copy 2 none) rm_Fr_copy).room.cells ∧ 0 + 0 ≤ (headSpec (zz_ws y_Fr_copy b_Fr_copy 2 none) rm_Fr_copy).room.slots := ⟨Nat.le_of_ble_eq_true rfl, Nat.le_of_ble_eq_true rfl⟩
  subst hsz
  have hD := hD0.self (sz := s.heap.size)
  generalize hAe : va_A (wF2 q qo L O) s.heap.size = A at hD ⊢
  have hA : ∀ q : Nat, s.heap.size ≤ q → A q := fun q h => by rw [← hAe]; exact Or.inr h
  have hS : va_S A s.heap s.heap [] := va_S.rf
  have hl := lv_entry ([.ref q, .ref qo]) (n := 2) (Nat.le_of_ble_eq_true rfl)
  rw [lg_entry_eq]
  generalize (lg_sl ([.ref q, .ref qo]) ++ List.replicate (2 - (lg_sl ([.ref q, .ref qo])).length) Slot.unset).toArray = ls at hl ⊢
  have hl : lv_has ls 2 [(0, .ref q), (1, .ref qo)] := hl
  refine lv_aload_n hx hb d_Fr_copy_0 rfl (lv_at hl 0 rfl) ?_
  refine lv_aload_n hx hb d_Fr_copy_1 rfl (lv_at hl 1 rfl) ?_
  refine g_Fr_13 (v := .int O.1) hx hb hT hown hK hP 1 rfl rfl d_Fr_copy_2 ?_
  refine p_Fr_13 hx hb hT hown hK hP hD hS 0 rfl rfl h.1 d_Fr_copy_5 (fun H locs (hP : va_P D vwCl (wF2 q qo (O.1, L.2.1, L.2.2.1, L.2.2.2) O) H) (hD : va_D A (wF2 q qo (O.1, L.2.1, L.2.2.1, L.2.2.2) O)) hS => ?_)
  have h := h.2
  refine lv_aload_n hx hb d_Fr_copy_8 rfl (lv_at hl 0 rfl) ?_
  refine lv_aload_n hx hb d_Fr_copy_9 rfl (lv_at hl 1 rfl) ?_
  refine g_Fr_17 (v := .int O.2.1) hx hb hT hown hK hP 1 rfl rfl d_Fr_copy_10 ?_
  refine p_Fr_17 hx hb hT hown hK hP hD hS 0 rfl rfl d_Fr_copy_13 (fun H locs (hP : va_P D vwCl (wF2 q qo (O.1, O.2.1, L.2.2.1, L.2.2.2) O) H) (hD : va_D A (wF2 q qo (O.1, O.2.1, L.2.2.1, L.2.2.2) O)) hS => ?_)
  refine lv_aload_n hx hb d_Fr_copy_16 rfl (lv_at hl 0 rfl) ?_
  refine lv_aload_n hx hb d_Fr_copy_17 rfl (lv_at hl 1 rfl) ?_
  refine g_Fr_38 (v := .int O.2.2.1) hx hb hT hown hK hP 1 rfl rfl d_Fr_copy_18 ?_
  refine p_Fr_38 hx hb hT hown hK hP hD hS 0 rfl rfl d_Fr_copy_21 (fun H locs (hP : va_P D vwCl (wF2 q qo (O.1, O.2.1, O.2.2.1, L.2.2.2) O) H) (hD : va_D A (wF2 q qo (O.1, O.2.1, O.2.2.1, L.2.2.2) O)) hS => ?_)
  refine lv_aload_n hx hb d_Fr_copy_24 rfl (lv_at hl 0 rfl) ?_
  refine lv_aload_n hx hb d_Fr_copy_25 rfl (lv_at hl 1 rfl) ?_
  refine g_Fr_34 (v := .long O.2.2.2) hx hb hT hown hK hP 1 rfl rfl d_Fr_copy_26 ?_
  refine p_Fr_34 hx hb hT hown hK hP hD hS 0 rfl rfl d_Fr_copy_29 (fun H locs (hP : va_P D vwCl (wF2 q qo (O.1, O.2.1, O.2.2.1, O.2.2.2) O) H) (hD : va_D A (wF2 q qo (O.1, O.2.1, O.2.2.1, O.2.2.2) O)) hS => ?_)
  exact W.vret hx hb hr (fun t ht hW => ⟨⟨((O.1, O.2.1, O.2.2.1, O.2.2.2), O), rfl, h, by rw [ht]; exact hP, hD⟩, hS.F ht⟩) hS.2.2 d_Fr_copy_32
def wp_Fr_addFinite (L : Int32 × Int32 × Int32 × Int64) (O : Int32 × Int32 × Int32 × Int64) (P : ((Int32 × Int32 × Int32 × Int64) × (Int32 × Int32 × Int32 × Int64)) → Prop) : Prop := ∀ x_1 : Int32, x_1 = (if L.2.2.1 < O.2.2.1 then O.2.2.1 else L.2.2.1) → ∀ x_2 : Int64, x_2 = (zz_lushr L.2.2.2 (1 : Int32)) → wp_Fr_cut x_2 (x_1 - L.2.2.1) (fun r_3 => ∀ x_4 : Int64, x_4 = (zz_lushr O.2.2.2 (1 : Int32)) → wp_Fr_cut x_4 (x_1 - O.2.2.1) (fun r_5 => ((L.1 = (0 : Int32) → ((O.1 = (0 : Int32) → ∀ x_8 : Int64, x_8 = (r_3 + r_5) → (((0 : Int64) ≤ x_8 → ∀ x_10 : Int64, x_10 = (if 0 < x_8 then x_8 else -x_8) → wp_Fr_become ((0 : Int32), L.2.1, L.2.2.1, L.2.2.2) x_10 (x_1 + (1 : Int32)) (fun u_11 => P (u_11, O))) ∧ (¬ (0 : Int64) ≤ x_8 → ∀ x_13 : Int64, x_13 = (if 0 < x_8 then x_8 else -x_8) → wp_Fr_become ((1 : Int32), L.2.1, L.2.2.1, L.2.2.2) x_13 (x_1 + (1 : Int32)) (fun u_14 => P (u_14, O))))) ∧ (¬ O.1 = (0 : Int32) → ∀ x_16 : Int64, x_16 = (r_3 + (-r_5)) → (((0 : Int64) ≤ x_16 → ∀ x_18 : Int64, x_18 = (if 0 < x_16 then x_16 else -x_16) → wp_Fr_become ((0 : Int32), L.2.1, L.2.2.1, L.2.2.2) x_18 (x_1 + (1 : Int32)) (fun u_19 => P (u_19, O))) ∧ (¬ (0 : Int64) ≤ x_16 → ∀ x_21 : Int64, x_21 = (if 0 < x_16 then x_16 else -x_16) → wp_Fr_become ((1 : Int32), L.2.1, L.2.2.1, L.2.2.2) x_21 (x_1 + (1 : Int32)) (fun u_22 => P (u_22, O))))))) ∧ (¬ L.1 = (0 : Int32) → ((O.1 = (0 : Int32) → ∀ x_25 : Int64, x_25 = ((-r_3) + r_5) → (((0 : Int64) ≤ x_25 → ∀ x_27 : Int64, x_27 = (if 0 < x_25 then x_25 else -x_25) → wp_Fr_become ((0 : Int32), L.2.1, L.2.2.1, L.2.2.2) x_27 (x_1 + (1 : Int32)) (fun u_28 => P (u_28, O))) ∧ (¬ (0 : Int64) ≤ x_25 → ∀ x_30 : Int64, x_30 = (if 0 < x_25 then x_25 else -x_25) → wp_Fr_become ((1 : Int32), L.2.1, L.2.2.1, L.2.2.2) x_30 (x_1 + (1 : Int32)) (fun u_31 => P (u_31, O))))) ∧ (¬ O.1 = (0 : Int32) → ∀ x_33 : Int64, x_33 = ((-r_3) + (-r_5)) → (((0 : Int64) ≤ x_33 → ∀ x_35 : Int64, x_35 = (if 0 < x_33 then x_33 else -x_33) → wp_Fr_become ((0 : Int32), L.2.1, L.2.2.1, L.2.2.2) x_35 (x_1 + (1 : Int32)) (fun u_36 => P (u_36, O))) ∧ (¬ (0 : Int64) ≤ x_33 → ∀ x_38 : Int64, x_38 = (if 0 < x_33 then x_33 else -x_33) → wp_Fr_become ((1 : Int32), L.2.1, L.2.2.1, L.2.2.2) x_38 (x_1 + (1 : Int32)) (fun u_39 => P (u_39, O))))))))))
abbrev rm_Fr_addFinite : Room := { frames := 1, cells := 0, slots := 0, locals := 24 }
set_option maxHeartbeats 4000000 in
set_option maxRecDepth 100000 in
theorem c_Fr_addFinite (l : Launch) (D : va_G) (cI : ClassId) (q : Nat) (qo : Nat) (L : Int32 × Int32 × Int32 × Int64) (O : Int32 × Int32 × Int32 × Int64) (P : ((Int32 × Int32 × Int32 × Int64) × (Int32 × Int32 × Int32 × Int64)) → Prop) (h : wp_Fr_addFinite L O P) (sz : Nat) : Met l y_Fr_addFinite (zz_ws y_Fr_addFinite b_Fr_addFinite 9 none) rm_Fr_addFinite (va_Pc [.ref q, .ref qo] (zz_pw D [(cI, .int)] (wF2 q qo L O) sz)) (va_Qv P (zz_qw D (fun u => wF2 q qo u.1 u.2) (va_A (wF2 q qo L O) sz)) (va_A (wF2 q qo L O) sz)) 0 0 (va_A (wF2 q qo L O) sz) := by
  refine Met.ofW (cc := b_Fr_addFinite) (maxL := 9) (ret := none) (by decide) rfl ?_
  intro p e s m args below meth c s₁ B hml hv
  obtain ⟨rfl, hsz, hP, hK, hD0⟩ := hv
  have hx := B.exec
  have hb := B.bytes
  have hr := B.returns
  have hts := atoms_spec (ws := (zz_ws y_Fr_addFinite b_Fr_addFinite 9 none)) B.pre
  have hown : s.vm.findClass R_Fr = some m.cls := findClass_of_methodNamed B.named
  have hlocks := B.notSynchronized
  have hT := zz_hts hts
  have X : CallFix p m c b_Fr_addFinite 9 s ([.ref q, .ref qo] : List Value).toArray (zz_ws y_Fr_addFinite b_Fr_addFinite 9 none) R_Fr := ⟨hx, hb, hml, hown, hts⟩
  have hf0 : 0 + 0 ≤ (headSpec (zz_ws y_Fr_addFinite b_Fr_addFinite 9 none) rm_Fr_addFinite).room.cells ∧ 0 + 0 ≤ (headSpec (zz_ws y_Fr_addFinite b_Fr_addFinite 9 none) rm_Fr_addFinite).room.slots := ⟨Nat.le_of_ble_eq_true rfl, Nat.le_of_ble_eq_true rfl⟩
  subst hsz
  have hD := hD0.self (sz := s.heap.size)
  generalize hAe : va_A (wF2 q qo L O) s.heap.size = A at hD ⊢
  have hA : ∀ q : Nat, s.heap.size ≤ q → A q := fun q h => by rw [← hAe]; exact Or.inr h
  have hS : va_S A s.heap s.heap [] := va_S.rf
  have hl := lv_entry ([.ref q, .ref qo]) (n := 9) (Nat.le_of_ble_eq_true rfl)
  rw [lg_entry_eq]
  generalize (lg_sl ([.ref q, .ref qo]) ++ List.replicate (9 - (lg_sl ([.ref q, .ref qo])).length) Slot.unset).toArray = ls at hl ⊢
  have hl : lv_has ls 9 [(0, .ref q), (1, .ref qo)] := hl
  refine lv_aload_n hx hb d_Fr_addFinite_0 rfl (lv_at hl 0 rfl) ?_
  refine g_Fr_38 (v := .int L.2.2.1) hx hb hT hown hK hP 0 rfl rfl d_Fr_addFinite_1 ?_
  refine lv_aload_n hx hb d_Fr_addFinite_4 rfl (lv_at hl 1 rfl) ?_
  refine g_Fr_38 (v := .int O.2.2.1) hx hb hT hown hK hP 1 rfl rfl d_Fr_addFinite_5 ?_
  refine va_mmax hx hb (hml.trans hl.1.symm) hown (hT _ k_Fr_60) (hT _ jm_max_s) (hT _ jm_i) (hT _ jm_max_c) (Nat.le_of_ble_eq_true rfl) (Nat.le_of_ble_eq_true rfl) (Nat.le_of_ble_eq_true rfl) (Nat.le_of_ble_eq_true rfl) d_Fr_addFinite_8 ?_
  refine lv_topi (fun x_1 ex_1 => ?_)
  have h := h x_1 ex_1
  refine lv_istore_n (lv' := [(2, .int x_1), (0, .ref q), (1, .ref qo)]) hx hb d_Fr_addFinite_11 rfl hl (by decide) rfl (fun ls hl => ?_)
  refine lv_aload_n hx hb d_Fr_addFinite_12 rfl (lv_at hl 1 rfl) ?_
  refine g_Fr_34 (v := .long L.2.2.2) hx hb hT hown hK hP 0 rfl rfl d_Fr_addFinite_13 ?_
  refine lv_iconst (v := 1) hx hb d_Fr_addFinite_16 (by decide) ?_
  refine zz_llushr hx hb d_Fr_addFinite_17 ?_
  refine lv_topl (fun x_2 ex_2 => ?_)
  have h := h x_2 ex_2
  refine lv_iload_n hx hb d_Fr_addFinite_18 rfl (lv_at hl 0 rfl) ?_
  refine lv_aload_n hx hb d_Fr_addFinite_19 rfl (lv_at hl 1 rfl) ?_
  refine g_Fr_38 (v := .int L.2.2.1) hx hb hT hown hK hP 0 rfl rfl d_Fr_addFinite_20 ?_
  refine lv_isub hx hb d_Fr_addFinite_23 ?_
  refine zz_Sl (As := [.long x_2, .int (x_1 - L.2.2.1)]) (rest := []) X (c_Fr_cut l x_2 (x_1 - L.2.2.1) _ h) ⟨rfl, rfl⟩ m_Fr_cut k_Fr_71 ⟨Nat.le_of_ble_eq_true rfl, Nat.le_of_ble_eq_true rfl⟩ rfl hl.1 rfl (Nat.le_of_ble_eq_true rfl) d_Fr_addFinite_24 hf0 (fun r_3 h => ?_)
  refine lv_lstore_n (lv' := [(3, .long r_3), (2, .int x_1), (0, .ref q), (1, .ref qo)]) hx hb d_Fr_addFinite_27 rfl hl (by decide) rfl (fun ls hl => ?_)
  refine lv_aload_n hx hb d_Fr_addFinite_28 rfl (lv_at hl 3 rfl) ?_
  refine g_Fr_34 (v := .long O.2.2.2) hx hb hT hown hK hP 1 rfl rfl d_Fr_addFinite_29 ?_
  refine lv_iconst (v := 1) hx hb d_Fr_addFinite_32 (by decide) ?_
  refine zz_llushr hx hb d_Fr_addFinite_33 ?_
  refine lv_topl (fun x_4 ex_4 => ?_)
  have h := h x_4 ex_4
  refine lv_iload_n hx hb d_Fr_addFinite_34 rfl (lv_at hl 1 rfl) ?_
  refine lv_aload_n hx hb d_Fr_addFinite_35 rfl (lv_at hl 3 rfl) ?_
  refine g_Fr_38 (v := .int O.2.2.1) hx hb hT hown hK hP 1 rfl rfl d_Fr_addFinite_36 ?_
  refine lv_isub hx hb d_Fr_addFinite_39 ?_
  refine zz_Sl (As := [.long x_4, .int (x_1 - O.2.2.1)]) (rest := []) X (c_Fr_cut l x_4 (x_1 - O.2.2.1) _ h) ⟨rfl, rfl⟩ m_Fr_cut k_Fr_71 ⟨Nat.le_of_ble_eq_true rfl, Nat.le_of_ble_eq_true rfl⟩ rfl hl.1 rfl (Nat.le_of_ble_eq_true rfl) d_Fr_addFinite_40 hf0 (fun r_5 h => ?_)
  refine lv_lstore (lv' := [(5, .long r_5), (3, .long r_3), (2, .int x_1), (0, .ref q), (1, .ref qo)]) hx hb d_Fr_addFinite_43 hl (by decide) rfl (fun ls hl => ?_)
  refine lv_aload_n hx hb d_Fr_addFinite_45 rfl (lv_at hl 3 rfl) ?_
  refine g_Fr_13 (v := .int L.1) hx hb hT hown hK hP 0 rfl rfl d_Fr_addFinite_46 ?_
  refine lv_if_eq (tgt := 57) hx hb d_Fr_addFinite_49 (by decide) (fun c_6 => ?_) (fun c_6 => ?_)
  · skip
    have h := h.1 c_6
    refine lv_lload_n hx hb d_Fr_addFinite_57 rfl (lv_at hl 1 rfl) ?_
    refine lv_aload_n hx hb d_Fr_addFinite_58 rfl (lv_at hl 4 rfl) ?_
    refine g_Fr_13 (v := .int O.1) hx hb hT hown hK hP 1 rfl rfl d_Fr_addFinite_59 ?_
    refine lv_if_eq (tgt := 71) hx hb d_Fr_addFinite_62 (by decide) (fun c_7 => ?_) (fun c_7 => ?_)
    · skip
      have h := h.1 c_7
      refine lv_lload hx hb d_Fr_addFinite_71 (lv_at hl 0 rfl) ?_
      refine lv_ladd hx hb d_Fr_addFinite_73 ?_
      refine lv_topl (fun x_8 ex_8 => ?_)
      have h := h x_8 ex_8
      refine lv_lstore (lv' := [(7, .long x_8), (5, .long r_5), (3, .long r_3), (2, .int x_1), (0, .ref q), (1, .ref qo)]) hx hb d_Fr_addFinite_74 hl (by decide) rfl (fun ls hl => ?_)
      refine lv_aload_n hx hb d_Fr_addFinite_76 rfl (lv_at hl 4 rfl) ?_
      refine lv_lload hx hb d_Fr_addFinite_77 (lv_at hl 0 rfl) ?_
      refine lv_lconst (v := 0) hx hb d_Fr_addFinite_79 (by decide) ?_
      refine W.lcmp hx hb d_Fr_addFinite_80 ?_
      refine lv_if_ge (tgt := 88) hx hb d_Fr_addFinite_81 (by decide) (fun c_9 => ?_) (fun c_9 => ?_)
      · have kc_9 := ((lg_cmp_ge _ _).mp c_9)
        have h := h.1 kc_9
        refine lv_iconst (v := 0) hx hb d_Fr_addFinite_88 (by decide) ?_
        refine p_Fr_13 hx hb hT hown hK hP hD hS 0 rfl rfl (Or.inl rfl) d_Fr_addFinite_89 (fun H locs (hP : va_P D vwCl (wF2 q qo ((0 : Int32), L.2.1, L.2.2.1, L.2.2.2) O) H) (hD : va_D A (wF2 q qo ((0 : Int32), L.2.1, L.2.2.1, L.2.2.2) O)) hS => ?_)
        refine lv_aload_n hx hb d_Fr_addFinite_92 rfl (lv_at hl 4 rfl) ?_
        refine lv_lload hx hb d_Fr_addFinite_93 (lv_at hl 0 rfl) ?_
        refine va_mabs_long hx hb (hml.trans hl.1.symm) hown (hT _ k_Fr_28) (hT _ jm_abs_long_s) (hT _ jm_i) (hT _ jm_abs_long_c) (Nat.le_of_ble_eq_true rfl) (Nat.le_of_ble_eq_true rfl) (Nat.le_of_ble_eq_true rfl) (Nat.le_of_ble_eq_true rfl) d_Fr_addFinite_95 ?_
        refine lv_topl (fun x_10 ex_10 => ?_)
        have h := h x_10 ex_10
        refine lv_iload_n hx hb d_Fr_addFinite_98 rfl (lv_at hl 3 rfl) ?_
        refine lv_iconst (v := 1) hx hb d_Fr_addFinite_99 (by decide) ?_
        refine lv_iadd hx hb d_Fr_addFinite_100 ?_
        refine zz_Wv (As := [.long x_10, .int (x_1 + (1 : Int32))]) (rest := []) (wc := wF1 q ((0 : Int32), L.2.1, L.2.2.1, L.2.2.2)) (wr := [(qo, .inr (0, [.int O.1, .int O.2.1, .int O.2.2.1, .long O.2.2.2]))]) X hK hP hD hS hA (c_Fr_become l D cI q ((0 : Int32), L.2.1, L.2.2.1, L.2.2.2) x_10 (x_1 + (1 : Int32)) _ h _) ⟨rfl, rfl⟩ m_Fr_become k_Fr_24 ⟨Nat.le_of_ble_eq_true rfl, Nat.le_of_ble_eq_true rfl⟩ [0] [1] rfl rfl (by decide) (by decide) (by decide) 0 0 rfl rfl rfl rfl hl.1 rfl (Nat.le_of_ble_eq_true rfl) d_Fr_addFinite_101 hf0 (fun u_11 H locs h hP hD hS => ?_)
        have hP : va_P D vwCl (wF2 q qo u_11 O) H := hP.sub [1, 0] rfl
        have hD : va_D A (wF2 q qo u_11 O) := hD.sub [1, 0] (by decide) rfl
        exact W.vret hx hb hr (fun t ht hW => ⟨⟨(u_11, O), rfl, h, by rw [ht]; exact hP, hD⟩, hS.F ht⟩) hS.2.2 d_Fr_addFinite_104
      · have kc_9 := (fun q => c_9 ((lg_cmp_ge _ _).mpr q))
        have h := h.2 kc_9
        refine lv_iconst (v := 1) hx hb d_Fr_addFinite_84 (by decide) ?_
        refine lv_goto (tgt := 89) hx hb d_Fr_addFinite_85 (by decide) ?_
        refine p_Fr_13 hx hb hT hown hK hP hD hS 0 rfl rfl (Or.inr rfl) d_Fr_addFinite_89 (fun H locs (hP : va_P D vwCl (wF2 q qo ((1 : Int32), L.2.1, L.2.2.1, L.2.2.2) O) H) (hD : va_D A (wF2 q qo ((1 : Int32), L.2.1, L.2.2.1, L.2.2.2) O)) hS => ?_)
        refine lv_aload_n hx hb d_Fr_addFinite_92 rfl (lv_at hl 4 rfl) ?_
        refine lv_lload hx hb d_Fr_addFinite_93 (lv_at hl 0 rfl) ?_
        refine va_mabs_long hx hb (hml.trans hl.1.symm) hown (hT _ k_Fr_28) (hT _ jm_abs_long_s) (hT _ jm_i) (hT _ jm_abs_long_c) (Nat.le_of_ble_eq_true rfl) (Nat.le_of_ble_eq_true rfl) (Nat.le_of_ble_eq_true rfl) (Nat.le_of_ble_eq_true rfl) d_Fr_addFinite_95 ?_
        refine lv_topl (fun x_13 ex_13 => ?_)
        have h := h x_13 ex_13
        refine lv_iload_n hx hb d_Fr_addFinite_98 rfl (lv_at hl 3 rfl) ?_
        refine lv_iconst (v := 1) hx hb d_Fr_addFinite_99 (by decide) ?_
        refine lv_iadd hx hb d_Fr_addFinite_100 ?_
        refine zz_Wv (As := [.long x_13, .int (x_1 + (1 : Int32))]) (rest := []) (wc := wF1 q ((1 : Int32), L.2.1, L.2.2.1, L.2.2.2)) (wr := [(qo, .inr (0, [.int O.1, .int O.2.1, .int O.2.2.1, .long O.2.2.2]))]) X hK hP hD hS hA (c_Fr_become l D cI q ((1 : Int32), L.2.1, L.2.2.1, L.2.2.2) x_13 (x_1 + (1 : Int32)) _ h _) ⟨rfl, rfl⟩ m_Fr_become k_Fr_24 ⟨Nat.le_of_ble_eq_true rfl, Nat.le_of_ble_eq_true rfl⟩ [0] [1] rfl rfl (by decide) (by decide) (by decide) 0 0 rfl rfl rfl rfl hl.1 rfl (Nat.le_of_ble_eq_true rfl) d_Fr_addFinite_101 hf0 (fun u_14 H locs h hP hD hS => ?_)
        have hP : va_P D vwCl (wF2 q qo u_14 O) H := hP.sub [1, 0] rfl
        have hD : va_D A (wF2 q qo u_14 O) := hD.sub [1, 0] (by decide) rfl
        exact W.vret hx hb hr (fun t ht hW => ⟨⟨(u_14, O), rfl, h, by rw [ht]; exact hP, hD⟩, hS.F ht⟩) hS.2.2 d_Fr_addFinite_104
    · skip
      have h := h.2 c_7
      refine lv_lload hx hb d_Fr_addFinite_65 (lv_at hl 0 rfl) ?_
      refine lv_lneg hx hb d_Fr_addFinite_67 ?_
      refine lv_goto (tgt := 73) hx hb d_Fr_addFinite_68 (by decide) ?_
      refine lv_ladd hx hb d_Fr_addFinite_73 ?_
      refine lv_topl (fun x_16 ex_16 => ?_)
      have h := h x_16 ex_16
      refine lv_lstore (lv' := [(7, .long x_16), (5, .long r_5), (3, .long r_3), (2, .int x_1), (0, .ref q), (1, .ref qo)]) hx hb d_Fr_addFinite_74 hl (by decide) rfl (fun ls hl => ?_)
      refine lv_aload_n hx hb d_Fr_addFinite_76 rfl (lv_at hl 4 rfl) ?_
      refine lv_lload hx hb d_Fr_addFinite_77 (lv_at hl 0 rfl) ?_
      refine lv_lconst (v := 0) hx hb d_Fr_addFinite_79 (by decide) ?_
      refine W.lcmp hx hb d_Fr_addFinite_80 ?_
      refine lv_if_ge (tgt := 88) hx hb d_Fr_addFinite_81 (by decide) (fun c_17 => ?_) (fun c_17 => ?_)
      · have kc_17 := ((lg_cmp_ge _ _).mp c_17)
        have h := h.1 kc_17
        refine lv_iconst (v := 0) hx hb d_Fr_addFinite_88 (by decide) ?_
        refine p_Fr_13 hx hb hT hown hK hP hD hS 0 rfl rfl (Or.inl rfl) d_Fr_addFinite_89 (fun H locs (hP : va_P D vwCl (wF2 q qo ((0 : Int32), L.2.1, L.2.2.1, L.2.2.2) O) H) (hD : va_D A (wF2 q qo ((0 : Int32), L.2.1, L.2.2.1, L.2.2.2) O)) hS => ?_)
        refine lv_aload_n hx hb d_Fr_addFinite_92 rfl (lv_at hl 4 rfl) ?_
        refine lv_lload hx hb d_Fr_addFinite_93 (lv_at hl 0 rfl) ?_
        refine va_mabs_long hx hb (hml.trans hl.1.symm) hown (hT _ k_Fr_28) (hT _ jm_abs_long_s) (hT _ jm_i) (hT _ jm_abs_long_c) (Nat.le_of_ble_eq_true rfl) (Nat.le_of_ble_eq_true rfl) (Nat.le_of_ble_eq_true rfl) (Nat.le_of_ble_eq_true rfl) d_Fr_addFinite_95 ?_
        refine lv_topl (fun x_18 ex_18 => ?_)
        have h := h x_18 ex_18
        refine lv_iload_n hx hb d_Fr_addFinite_98 rfl (lv_at hl 3 rfl) ?_
        refine lv_iconst (v := 1) hx hb d_Fr_addFinite_99 (by decide) ?_
        refine lv_iadd hx hb d_Fr_addFinite_100 ?_
        refine zz_Wv (As := [.long x_18, .int (x_1 + (1 : Int32))]) (rest := []) (wc := wF1 q ((0 : Int32), L.2.1, L.2.2.1, L.2.2.2)) (wr := [(qo, .inr (0, [.int O.1, .int O.2.1, .int O.2.2.1, .long O.2.2.2]))]) X hK hP hD hS hA (c_Fr_become l D cI q ((0 : Int32), L.2.1, L.2.2.1, L.2.2.2) x_18 (x_1 + (1 : Int32)) _ h _) ⟨rfl, rfl⟩ m_Fr_become k_Fr_24 ⟨Nat.le_of_ble_eq_true rfl, Nat.le_of_ble_eq_true rfl⟩ [0] [1] rfl rfl (by decide) (by decide) (by decide) 0 0 rfl rfl rfl rfl hl.1 rfl (Nat.le_of_ble_eq_true rfl) d_Fr_addFinite_101 hf0 (fun u_19 H locs h hP hD hS => ?_)
        have hP : va_P D vwCl (wF2 q qo u_19 O) H := hP.sub [1, 0] rfl
        have hD : va_D A (wF2 q qo u_19 O) := hD.sub [1, 0] (by decide) rfl
        exact W.vret hx hb hr (fun t ht hW => ⟨⟨(u_19, O), rfl, h, by rw [ht]; exact hP, hD⟩, hS.F ht⟩) hS.2.2 d_Fr_addFinite_104
      · have kc_17 := (fun q => c_17 ((lg_cmp_ge _ _).mpr q))
        have h := h.2 kc_17
        refine lv_iconst (v := 1) hx hb d_Fr_addFinite_84 (by decide) ?_
        refine lv_goto (tgt := 89) hx hb d_Fr_addFinite_85 (by decide) ?_
        refine p_Fr_13 hx hb hT hown hK hP hD hS 0 rfl rfl (Or.inr rfl) d_Fr_addFinite_89 (fun H locs (hP : va_P D vwCl (wF2 q qo ((1 : Int32), L.2.1, L.2.2.1, L.2.2.2) O) H) (hD : va_D A (wF2 q qo ((1 : Int32), L.2.1, L.2.2.1, L.2.2.2) O)) hS => ?_)
        refine lv_aload_n hx hb d_Fr_addFinite_92 rfl (lv_at hl 4 rfl) ?_
        refine lv_lload hx hb d_Fr_addFinite_93 (lv_at hl 0 rfl) ?_
        refine va_mabs_long hx hb (hml.trans hl.1.symm) hown (hT _ k_Fr_28) (hT _ jm_abs_long_s) (hT _ jm_i) (hT _ jm_abs_long_c) (Nat.le_of_ble_eq_true rfl) (Nat.le_of_ble_eq_true rfl) (Nat.le_of_ble_eq_true rfl) (Nat.le_of_ble_eq_true rfl) d_Fr_addFinite_95 ?_
        refine lv_topl (fun x_21 ex_21 => ?_)
        have h := h x_21 ex_21
        refine lv_iload_n hx hb d_Fr_addFinite_98 rfl (lv_at hl 3 rfl) ?_
        refine lv_iconst (v := 1) hx hb d_Fr_addFinite_99 (by decide) ?_
        refine lv_iadd hx hb d_Fr_addFinite_100 ?_
        refine zz_Wv (As := [.long x_21, .int (x_1 + (1 : Int32))]) (rest := []) (wc := wF1 q ((1 : Int32), L.2.1, L.2.2.1, L.2.2.2)) (wr := [(qo, .inr (0, [.int O.1, .int O.2.1, .int O.2.2.1, .long O.2.2.2]))]) X hK hP hD hS hA (c_Fr_become l D cI q ((1 : Int32), L.2.1, L.2.2.1, L.2.2.2) x_21 (x_1 + (1 : Int32)) _ h _) ⟨rfl, rfl⟩ m_Fr_become k_Fr_24 ⟨Nat.le_of_ble_eq_true rfl, Nat.le_of_ble_eq_true rfl⟩ [0] [1] rfl rfl (by decide) (by decide) (by decide) 0 0 rfl rfl rfl rfl hl.1 rfl (Nat.le_of_ble_eq_true rfl) d_Fr_addFinite_101 hf0 (fun u_22 H locs h hP hD hS => ?_)
        have hP : va_P D vwCl (wF2 q qo u_22 O) H := hP.sub [1, 0] rfl
        have hD : va_D A (wF2 q qo u_22 O) := hD.sub [1, 0] (by decide) rfl
        exact W.vret hx hb hr (fun t ht hW => ⟨⟨(u_22, O), rfl, h, by rw [ht]; exact hP, hD⟩, hS.F ht⟩) hS.2.2 d_Fr_addFinite_104
  · skip
    have h := h.2 c_6
    refine lv_lload_n hx hb d_Fr_addFinite_52 rfl (lv_at hl 1 rfl) ?_
    refine lv_lneg hx hb d_Fr_addFinite_53 ?_
    refine lv_goto (tgt := 58) hx hb d_Fr_addFinite_54 (by decide) ?_
    refine lv_aload_n hx hb d_Fr_addFinite_58 rfl (lv_at hl 4 rfl) ?_
    refine g_Fr_13 (v := .int O.1) hx hb hT hown hK hP 1 rfl rfl d_Fr_addFinite_59 ?_
    refine lv_if_eq (tgt := 71) hx hb d_Fr_addFinite_62 (by decide) (fun c_24 => ?_) (fun c_24 => ?_)
    · skip
      have h := h.1 c_24
      refine lv_lload hx hb d_Fr_addFinite_71 (lv_at hl 0 rfl) ?_
      refine lv_ladd hx hb d_Fr_addFinite_73 ?_
      refine lv_topl (fun x_25 ex_25 => ?_)
      have h := h x_25 ex_25
      refine lv_lstore (lv' := [(7, .long x_25), (5, .long r_5), (3, .long r_3), (2, .int x_1), (0, .ref q), (1, .ref qo)]) hx hb d_Fr_addFinite_74 hl (by decide) rfl (fun ls hl => ?_)
      refine lv_aload_n hx hb d_Fr_addFinite_76 rfl (lv_at hl 4 rfl) ?_
      refine lv_lload hx hb d_Fr_addFinite_77 (lv_at hl 0 rfl) ?_
      refine lv_lconst (v := 0) hx hb d_Fr_addFinite_79 (by decide) ?_
      refine W.lcmp hx hb d_Fr_addFinite_80 ?_
      refine lv_if_ge (tgt := 88) hx hb d_Fr_addFinite_81 (by decide) (fun c_26 => ?_) (fun c_26 => ?_)
      · have kc_26 := ((lg_cmp_ge _ _).mp c_26)
        have h := h.1 kc_26
        refine lv_iconst (v := 0) hx hb d_Fr_addFinite_88 (by decide) ?_
        refine p_Fr_13 hx hb hT hown hK hP hD hS 0 rfl rfl (Or.inl rfl) d_Fr_addFinite_89 (fun H locs (hP : va_P D vwCl (wF2 q qo ((0 : Int32), L.2.1, L.2.2.1, L.2.2.2) O) H) (hD : va_D A (wF2 q qo ((0 : Int32), L.2.1, L.2.2.1, L.2.2.2) O)) hS => ?_)
        refine lv_aload_n hx hb d_Fr_addFinite_92 rfl (lv_at hl 4 rfl) ?_
        refine lv_lload hx hb d_Fr_addFinite_93 (lv_at hl 0 rfl) ?_
        refine va_mabs_long hx hb (hml.trans hl.1.symm) hown (hT _ k_Fr_28) (hT _ jm_abs_long_s) (hT _ jm_i) (hT _ jm_abs_long_c) (Nat.le_of_ble_eq_true rfl) (Nat.le_of_ble_eq_true rfl) (Nat.le_of_ble_eq_true rfl) (Nat.le_of_ble_eq_true rfl) d_Fr_addFinite_95 ?_
        refine lv_topl (fun x_27 ex_27 => ?_)
        have h := h x_27 ex_27
        refine lv_iload_n hx hb d_Fr_addFinite_98 rfl (lv_at hl 3 rfl) ?_
        refine lv_iconst (v := 1) hx hb d_Fr_addFinite_99 (by decide) ?_
        refine lv_iadd hx hb d_Fr_addFinite_100 ?_
        refine zz_Wv (As := [.long x_27, .int (x_1 + (1 : Int32))]) (rest := []) (wc := wF1 q ((0 : Int32), L.2.1, L.2.2.1, L.2.2.2)) (wr := [(qo, .inr (0, [.int O.1, .int O.2.1, .int O.2.2.1, .long O.2.2.2]))]) X hK hP hD hS hA (c_Fr_become l D cI q ((0 : Int32), L.2.1, L.2.2.1, L.2.2.2) x_27 (x_1 + (1 : Int32)) _ h _) ⟨rfl, rfl⟩ m_Fr_become k_Fr_24 ⟨Nat.le_of_ble_eq_true rfl, Nat.le_of_ble_eq_true rfl⟩ [0] [1] rfl rfl (by decide) (by decide) (by decide) 0 0 rfl rfl rfl rfl hl.1 rfl (Nat.le_of_ble_eq_true rfl) d_Fr_addFinite_101 hf0 (fun u_28 H locs h hP hD hS => ?_)
        have hP : va_P D vwCl (wF2 q qo u_28 O) H := hP.sub [1, 0] rfl
        have hD : va_D A (wF2 q qo u_28 O) := hD.sub [1, 0] (by decide) rfl
        exact W.vret hx hb hr (fun t ht hW => ⟨⟨(u_28, O), rfl, h, by rw [ht]; exact hP, hD⟩, hS.F ht⟩) hS.2.2 d_Fr_addFinite_104
      · have kc_26 := (fun q => c_26 ((lg_cmp_ge _ _).mpr q))
        have h := h.2 kc_26
        refine lv_iconst (v := 1) hx hb d_Fr_addFinite_84 (by decide) ?_
        refine lv_goto (tgt := 89) hx hb d_Fr_addFinite_85 (by decide) ?_
        refine p_Fr_13 hx hb hT hown hK hP hD hS 0 rfl rfl (Or.inr rfl) d_Fr_addFinite_89 (fun H locs (hP : va_P D vwCl (wF2 q qo ((1 : Int32), L.2.1, L.2.2.1, L.2.2.2) O) H) (hD : va_D A (wF2 q qo ((1 : Int32), L.2.1, L.2.2.1, L.2.2.2) O)) hS => ?_)
        refine lv_aload_n hx hb d_Fr_addFinite_92 rfl (lv_at hl 4 rfl) ?_
        refine lv_lload hx hb d_Fr_addFinite_93 (lv_at hl 0 rfl) ?_
        refine va_mabs_long hx hb (hml.trans hl.1.symm) hown (hT _ k_Fr_28) (hT _ jm_abs_long_s) (hT _ jm_i) (hT _ jm_abs_long_c) (Nat.le_of_ble_eq_true rfl) (Nat.le_of_ble_eq_true rfl) (Nat.le_of_ble_eq_true rfl) (Nat.le_of_ble_eq_true rfl) d_Fr_addFinite_95 ?_
        refine lv_topl (fun x_30 ex_30 => ?_)
        have h := h x_30 ex_30
        refine lv_iload_n hx hb d_Fr_addFinite_98 rfl (lv_at hl 3 rfl) ?_
        refine lv_iconst (v := 1) hx hb d_Fr_addFinite_99 (by decide) ?_
        refine lv_iadd hx hb d_Fr_addFinite_100 ?_
        refine zz_Wv (As := [.long x_30, .int (x_1 + (1 : Int32))]) (rest := []) (wc := wF1 q ((1 : Int32), L.2.1, L.2.2.1, L.2.2.2)) (wr := [(qo, .inr (0, [.int O.1, .int O.2.1, .int O.2.2.1, .long O.2.2.2]))]) X hK hP hD hS hA (c_Fr_become l D cI q ((1 : Int32), L.2.1, L.2.2.1, L.2.2.2) x_30 (x_1 + (1 : Int32)) _ h _) ⟨rfl, rfl⟩ m_Fr_become k_Fr_24 ⟨Nat.le_of_ble_eq_true rfl, Nat.le_of_ble_eq_true rfl⟩ [0] [1] rfl rfl (by decide) (by decide) (by decide) 0 0 rfl rfl rfl rfl hl.1 rfl (Nat.le_of_ble_eq_true rfl) d_Fr_addFinite_101 hf0 (fun u_31 H locs h hP hD hS => ?_)
        have hP : va_P D vwCl (wF2 q qo u_31 O) H := hP.sub [1, 0] rfl
        have hD : va_D A (wF2 q qo u_31 O) := hD.sub [1, 0] (by decide) rfl
        exact W.vret hx hb hr (fun t ht hW => ⟨⟨(u_31, O), rfl, h, by rw [ht]; exact hP, hD⟩, hS.F ht⟩) hS.2.2 d_Fr_addFinite_104
    · skip
      have h := h.2 c_24
      refine lv_lload hx hb d_Fr_addFinite_65 (lv_at hl 0 rfl) ?_
      refine lv_lneg hx hb d_Fr_addFinite_67 ?_
      refine lv_goto (tgt := 73) hx hb d_Fr_addFinite_68 (by decide) ?_
      refine lv_ladd hx hb d_Fr_addFinite_73 ?_
      refine lv_topl (fun x_33 ex_33 => ?_)
      have h := h x_33 ex_33
      refine lv_lstore (lv' := [(7, .long x_33), (5, .long r_5), (3, .long r_3), (2, .int x_1), (0, .ref q), (1, .ref qo)]) hx hb d_Fr_addFinite_74 hl (by decide) rfl (fun ls hl => ?_)
      refine lv_aload_n hx hb d_Fr_addFinite_76 rfl (lv_at hl 4 rfl) ?_
      refine lv_lload hx hb d_Fr_addFinite_77 (lv_at hl 0 rfl) ?_
      refine lv_lconst (v := 0) hx hb d_Fr_addFinite_79 (by decide) ?_
      refine W.lcmp hx hb d_Fr_addFinite_80 ?_
      refine lv_if_ge (tgt := 88) hx hb d_Fr_addFinite_81 (by decide) (fun c_34 => ?_) (fun c_34 => ?_)
      · have kc_34 := ((lg_cmp_ge _ _).mp c_34)
        have h := h.1 kc_34
        refine lv_iconst (v := 0) hx hb d_Fr_addFinite_88 (by decide) ?_
        refine p_Fr_13 hx hb hT hown hK hP hD hS 0 rfl rfl (Or.inl rfl) d_Fr_addFinite_89 (fun H locs (hP : va_P D vwCl (wF2 q qo ((0 : Int32), L.2.1, L.2.2.1, L.2.2.2) O) H) (hD : va_D A (wF2 q qo ((0 : Int32), L.2.1, L.2.2.1, L.2.2.2) O)) hS => ?_)
        refine lv_aload_n hx hb d_Fr_addFinite_92 rfl (lv_at hl 4 rfl) ?_
        refine lv_lload hx hb d_Fr_addFinite_93 (lv_at hl 0 rfl) ?_
        refine va_mabs_long hx hb (hml.trans hl.1.symm) hown (hT _ k_Fr_28) (hT _ jm_abs_long_s) (hT _ jm_i) (hT _ jm_abs_long_c) (Nat.le_of_ble_eq_true rfl) (Nat.le_of_ble_eq_true rfl) (Nat.le_of_ble_eq_true rfl) (Nat.le_of_ble_eq_true rfl) d_Fr_addFinite_95 ?_
        refine lv_topl (fun x_35 ex_35 => ?_)
        have h := h x_35 ex_35
        refine lv_iload_n hx hb d_Fr_addFinite_98 rfl (lv_at hl 3 rfl) ?_
        refine lv_iconst (v := 1) hx hb d_Fr_addFinite_99 (by decide) ?_
        refine lv_iadd hx hb d_Fr_addFinite_100 ?_
        refine zz_Wv (As := [.long x_35, .int (x_1 + (1 : Int32))]) (rest := []) (wc := wF1 q ((0 : Int32), L.2.1, L.2.2.1, L.2.2.2)) (wr := [(qo, .inr (0, [.int O.1, .int O.2.1, .int O.2.2.1, .long O.2.2.2]))]) X hK hP hD hS hA (c_Fr_become l D cI q ((0 : Int32), L.2.1, L.2.2.1, L.2.2.2) x_35 (x_1 + (1 : Int32)) _ h _) ⟨rfl, rfl⟩ m_Fr_become k_Fr_24 ⟨Nat.le_of_ble_eq_true rfl, Nat.le_of_ble_eq_true rfl⟩ [0] [1] rfl rfl (by decide) (by decide) (by decide) 0 0 rfl rfl rfl rfl hl.1 rfl (Nat.le_of_ble_eq_true rfl) d_Fr_addFinite_101 hf0 (fun u_36 H locs h hP hD hS => ?_)
        have hP : va_P D vwCl (wF2 q qo u_36 O) H := hP.sub [1, 0] rfl
        have hD : va_D A (wF2 q qo u_36 O) := hD.sub [1, 0] (by decide) rfl
        exact W.vret hx hb hr (fun t ht hW => ⟨⟨(u_36, O), rfl, h, by rw [ht]; exact hP, hD⟩, hS.F ht⟩) hS.2.2 d_Fr_addFinite_104
      · have kc_34 := (fun q => c_34 ((lg_cmp_ge _ _).mpr q))
        have h := h.2 kc_34
        refine lv_iconst (v := 1) hx hb d_Fr_addFinite_84 (by decide) ?_
        refine lv_goto (tgt := 89) hx hb d_Fr_addFinite_85 (by decide) ?_
        refine p_Fr_13 hx hb hT hown hK hP hD hS 0 rfl rfl (Or.inr rfl) d_Fr_addFinite_89 (fun H locs (hP : va_P D vwCl (wF2 q qo ((1 : Int32), L.2.1, L.2.2.1, L.2.2.2) O) H) (hD : va_D A (wF2 q qo ((1 : Int32), L.2.1, L.2.2.1, L.2.2.2) O)) hS => ?_)
        refine lv_aload_n hx hb d_Fr_addFinite_92 rfl (lv_at hl 4 rfl) ?_
        refine lv_lload hx hb d_Fr_addFinite_93 (lv_at hl 0 rfl) ?_
        refine va_mabs_long hx hb (hml.trans hl.1.symm) hown (hT _ k_Fr_28) (hT _ jm_abs_long_s) (hT _ jm_i) (hT _ jm_abs_long_c) (Nat.le_of_ble_eq_true rfl) (Nat.le_of_ble_eq_true rfl) (Nat.le_of_ble_eq_true rfl) (Nat.le_of_ble_eq_true rfl) d_Fr_addFinite_95 ?_
        refine lv_topl (fun x_38 ex_38 => ?_)
        have h := h x_38 ex_38
        refine lv_iload_n hx hb d_Fr_addFinite_98 rfl (lv_at hl 3 rfl) ?_
        refine lv_iconst (v := 1) hx hb d_Fr_addFinite_99 (by decide) ?_
        refine lv_iadd hx hb d_Fr_addFinite_100 ?_
        refine zz_Wv (As := [.long x_38, .int (x_1 + (1 : Int32))]) (rest := []) (wc := wF1 q ((1 : Int32), L.2.1, L.2.2.1, L.2.2.2)) (wr := [(qo, .inr (0, [.int O.1, .int O.2.1, .int O.2.2.1, .long O.2.2.2]))]) X hK hP hD hS hA (c_Fr_become l D cI q ((1 : Int32), L.2.1, L.2.2.1, L.2.2.2) x_38 (x_1 + (1 : Int32)) _ h _) ⟨rfl, rfl⟩ m_Fr_become k_Fr_24 ⟨Nat.le_of_ble_eq_true rfl, Nat.le_of_ble_eq_true rfl⟩ [0] [1] rfl rfl (by decide) (by decide) (by decide) 0 0 rfl rfl rfl rfl hl.1 rfl (Nat.le_of_ble_eq_true rfl) d_Fr_addFinite_101 hf0 (fun u_39 H locs h hP hD hS => ?_)
        have hP : va_P D vwCl (wF2 q qo u_39 O) H := hP.sub [1, 0] rfl
        have hD : va_D A (wF2 q qo u_39 O) := hD.sub [1, 0] (by decide) rfl
        exact W.vret hx hb hr (fun t ht hW => ⟨⟨(u_39, O), rfl, h, by rw [ht]; exact hP, hD⟩, hS.F ht⟩) hS.2.2 d_Fr_addFinite_104
def wp_Fr_add (L : Int32 × Int32 × Int32 × Int64) (O : Int32 × Int32 × Int32 × Int64) (P : ((Int32 × Int32 × Int32 × Int64) × (Int32 × Int32 × Int32 × Int64)) → Prop) : Prop := ((L.2.1 = (1 : Int32) → ((O.2.1 = (1 : Int32) → wp_Fr_addFinite L O (fun u_47 => P (u_47.1, u_47.2))) ∧ (¬ O.2.1 = (1 : Int32) → ((L.2.1 = (0 : Int32) → ((O.2.1 = (0 : Int32) → ((L.1 = (0 : Int32) → P (((0 : Int32), L.2.1, L.2.2.1, L.2.2.2), O)) ∧ (¬ L.1 = (0 : Int32) → ((O.1 = (0 : Int32) → P (((0 : Int32), L.2.1, L.2.2.1, L.2.2.2), O)) ∧ (¬ O.1 = (0 : Int32) → P (((1 : Int32), L.2.1, L.2.2.1, L.2.2.2), O)))))) ∧ (¬ O.2.1 = (0 : Int32) → ((L.2.1 = (2 : Int32) → ((O.2.1 = (2 : Int32) → ((L.1 = O.1 → P ((L.1, (2 : Int32), L.2.2.1, L.2.2.2), O)) ∧ (¬ L.1 = O.1 → P ((L.1, (3 : Int32), L.2.2.1, L.2.2.2), O)))) ∧ (¬ O.2.1 = (2 : Int32) → ((O.2.1 ≤ L.2.1 → P (L, O)) ∧ (¬ O.2.1 ≤ L.2.1 → wp_Fr_copy L O (fun u_42 => P (u_42.1, u_42.2))))))) ∧ (¬ L.2.1 = (2 : Int32) → ((O.2.1 ≤ L.2.1 → P (L, O)) ∧ (¬ O.2.1 ≤ L.2.1 → wp_Fr_copy L O (fun u_38 => P (u_38.1, u_38.2))))))))) ∧ (¬ L.2.1 = (0 : Int32) → ((L.2.1 = (2 : Int32) → ((O.2.1 = (2 : Int32) → ((L.1 = O.1 → P ((L.1, (2 : Int32), L.2.2.1, L.2.2.2), O)) ∧ (¬ L.1 = O.1 → P ((L.1, (3 : Int32), L.2.2.1, L.2.2.2), O)))) ∧ (¬ O.2.1 = (2 : Int32) → ((O.2.1 ≤ L.2.1 → P (L, O)) ∧ (¬ O.2.1 ≤ L.2.1 → wp_Fr_copy L O (fun u_32 => P (u_32.1, u_32.2))))))) ∧ (¬ L.2.1 = (2 : Int32) → ((O.2.1 ≤ L.2.1 → P (L, O)) ∧ (¬ O.2.1 ≤ L.2.1 → wp_Fr_copy L O (fun u_28 => P (u_28.1, u_28.2))))))))))) ∧ (¬ L.2.1 = (1 : Int32) → ((L.2.1 = (0 : Int32) → ((O.2.1 = (0 : Int32) → ((L.1 = (0 : Int32) → P (((0 : Int32), L.2.1, L.2.2.1, L.2.2.2), O)) ∧ (¬ L.1 = (0 : Int32) → ((O.1 = (0 : Int32) → P (((0 : Int32), L.2.1, L.2.2.1, L.2.2.2), O)) ∧ (¬ O.1 = (0 : Int32) → P (((1 : Int32), L.2.1, L.2.2.1, L.2.2.2), O)))))) ∧ (¬ O.2.1 = (0 : Int32) → ((L.2.1 = (2 : Int32) → ((O.2.1 = (2 : Int32) → ((L.1 = O.1 → P ((L.1, (2 : Int32), L.2.2.1, L.2.2.2), O)) ∧ (¬ L.1 = O.1 → P ((L.1, (3 : Int32), L.2.2.1, L.2.2.2), O)))) ∧ (¬ O.2.1 = (2 : Int32) → ((O.2.1 ≤ L.2.1 → P (L, O)) ∧ (¬ O.2.1 ≤ L.2.1 → wp_Fr_copy L O (fun u_19 => P (u_19.1, u_19.2))))))) ∧ (¬ L.2.1 = (2 : Int32) → ((O.2.1 ≤ L.2.1 → P (L, O)) ∧ (¬ O.2.1 ≤ L.2.1 → wp_Fr_copy L O (fun u_15 => P (u_15.1, u_15.2))))))))) ∧ (¬ L.2.1 = (0 : Int32) → ((L.2.1 = (2 : Int32) → ((O.2.1 = (2 : Int32) → ((L.1 = O.1 → P ((L.1, (2 : Int32), L.2.2.1, L.2.2.2), O)) ∧ (¬ L.1 = O.1 → P ((L.1, (3 : Int32), L.2.2.1, L.2.2.2), O)))) ∧ (¬ O.2.1 = (2 : Int32) → ((O.2.1 ≤ L.2.1 → P (L, O)) ∧ (¬ O.2.1 ≤ L.2.1 → wp_Fr_copy L O (fun u_9 => P (u_9.1, u_9.2))))))) ∧ (¬ L.2.1 = (2 : Int32) → ((O.2.1 ≤ L.2.1 → P (L, O)) ∧ (¬ O.2.1 ≤ L.2.1 → wp_Fr_copy L O (fun u_5 => P (u_5.1, u_5.2))))))))))
abbrev rm_Fr_add : Room := { frames := 2, cells := 0, slots := 0, locals := 52 }
set_option maxHeartbeats 4000000 in
set_option maxRecDepth 100000 in
theorem c_Fr_add (l : Launch) (D : va_G) (cI : ClassId) (q : Nat) (qo : Nat) (L : Int32 × Int32 × Int32 × Int64) (O : Int32 × Int32 × Int32 × Int64) (P : ((Int32 × Int32 × Int32 × Int64) × (Int32 × Int32 × Int32 × Int64)) → Prop) (h : wp_Fr_add L O P) (sz : Nat) : Met l y_Fr_add (zz_ws y_Fr_add b_Fr_add 2 none) rm_Fr_add (va_Pc [.ref q, .ref qo] (zz_pw D [(cI, .int)] (wF2 q qo L O) sz)) (va_Qv P (zz_qw D (fun u => wF2 q qo u.1 u.2) (va_A (wF2 q qo L O) sz)) (va_A (wF2 q qo L O) sz)) 0 0 (va_A (wF2 q qo L O) sz) := by
  refine Met.ofW (cc := b_Fr_add) (maxL := 2) (ret := none) (by decide) rfl ?_
  intro p e s m args below meth c s₁ B hml hv
  obtain ⟨rfl, hsz, hP, hK, hD0⟩ := hv
  have hx := B.exec
  have hb := B.bytes
  have hr := B.returns
  have hts := atoms_spec (ws := (zz_ws y_Fr_add b_Fr_add 2 none)) B.pre
  have hown : s.vm.findClass R_Fr = some m.cls := findClass_of_methodNamed B.named
  have hlocks := B.notSynchronized
  have hT := zz_hts hts
  have X : CallFix p m c b_Fr_add 2 s ([.ref q, .ref qo] : List Value).toArray (zz_ws y_Fr_add b_Fr_add 2 none) R_Fr := ⟨hx, hb, hml, hown, hts⟩
  have hf0 : 0 + 0 ≤ (headSpec (zz_ws y_Fr_add b_Fr_add 2 none) rm_Fr_add).room.cells ∧ 0 + 0 ≤ (headSpec (zz_ws y_Fr_add b_Fr_add 2 none) rm_Fr_add).room.slots := ⟨Nat.le_of_ble_eq_true rfl, Nat.le_of_ble_eq_true rfl⟩
  subst hsz
  have hD := hD0.self (sz := s.heap.size)
  generalize hAe : va_A (wF2 q qo L O) s.heap.size = A at hD ⊢
  have hA : ∀ q : Nat, s.heap.size ≤ q → A q := fun q h => by rw [← hAe]; exact Or.inr h
  have hS : va_S A s.heap s.heap [] := va_S.rf
  have hl := lv_entry ([.ref q, .ref qo]) (n := 2) (Nat.le_of_ble_eq_true rfl)
  rw [lg_entry_eq]
  generalize (lg_sl ([.ref q, .ref qo]) ++ List.replicate (2 - (lg_sl ([.ref q, .ref qo])).length) Slot.unset).toArray = ls at hl ⊢
  have hl : lv_has ls 2 [(0, .ref q), (1, .ref qo)] := hl
  refine lv_aload_n hx hb d_Fr_add_0 rfl (lv_at hl 0 rfl) ?_
  refine g_Fr_17 (v := .int L.2.1) hx hb hT hown hK hP 0 rfl rfl d_Fr_add_1 ?_
  refine lv_iconst (v := 1) hx hb d_Fr_add_4 (by decide) ?_
  refine lv_icmp_ne (tgt := 24) hx hb d_Fr_add_5 (by decide) (fun c_1 => ?_) (fun c_1 => ?_)
  · skip
    have h := h.2 c_1
    refine lv_aload_n hx hb d_Fr_add_24 rfl (lv_at hl 0 rfl) ?_
    refine g_Fr_17 (v := .int L.2.1) hx hb hT hown hK hP 0 rfl rfl d_Fr_add_25 ?_
    refine lv_if_ne (tgt := 64) hx hb d_Fr_add_28 (by decide) (fun c_2 => ?_) (fun c_2 => ?_)
    · skip
      have h := h.2 c_2
      refine lv_aload_n hx hb d_Fr_add_64 rfl (lv_at hl 0 rfl) ?_
      refine g_Fr_17 (v := .int L.2.1) hx hb hT hown hK hP 0 rfl rfl d_Fr_add_65 ?_
      refine lv_iconst (v := 2) hx hb d_Fr_add_68 (by decide) ?_
      refine lv_icmp_ne (tgt := 103) hx hb d_Fr_add_69 (by decide) (fun c_3 => ?_) (fun c_3 => ?_)
      · skip
        have h := h.2 c_3
        refine lv_aload_n hx hb d_Fr_add_103 rfl (lv_at hl 1 rfl) ?_
        refine g_Fr_17 (v := .int O.2.1) hx hb hT hown hK hP 1 rfl rfl d_Fr_add_104 ?_
        refine lv_aload_n hx hb d_Fr_add_107 rfl (lv_at hl 0 rfl) ?_
        refine g_Fr_17 (v := .int L.2.1) hx hb hT hown hK hP 0 rfl rfl d_Fr_add_108 ?_
        refine lv_icmp_le (tgt := 119) hx hb d_Fr_add_111 (by decide) (fun c_4 => ?_) (fun c_4 => ?_)
        · skip
          have h := h.1 c_4
          exact W.vret hx hb hr (fun t ht hW => ⟨⟨(L, O), rfl, h, by rw [ht]; exact hP, hD⟩, hS.F ht⟩) hS.2.2 d_Fr_add_119
        · skip
          have h := h.2 c_4
          refine lv_aload_n hx hb d_Fr_add_114 rfl (lv_at hl 0 rfl) ?_
          refine lv_aload_n hx hb d_Fr_add_115 rfl (lv_at hl 1 rfl) ?_
          refine zz_Wv (As := [.ref qo]) (rest := []) (wc := wF2 q qo L O) (wr := []) X hK hP hD hS hA (c_Fr_copy l D cI q qo L O _ h _) ⟨rfl, rfl⟩ m_Fr_copy k_Fr_68 ⟨Nat.le_of_ble_eq_true rfl, Nat.le_of_ble_eq_true rfl⟩ [0, 1] [] rfl rfl (by decide) (by decide) (by decide) 0 0 rfl rfl rfl rfl hl.1 rfl (Nat.le_of_ble_eq_true rfl) d_Fr_add_116 hf0 (fun u_5 H locs h hP hD hS => ?_)
          have hP : va_P D vwCl (wF2 q qo u_5.1 u_5.2) H := hP.sub [0, 1] rfl
          have hD : va_D A (wF2 q qo u_5.1 u_5.2) := hD.sub [0, 1] (by decide) rfl
          exact W.vret hx hb hr (fun t ht hW => ⟨⟨(u_5.1, u_5.2), rfl, h, by rw [ht]; exact hP, hD⟩, hS.F ht⟩) hS.2.2 d_Fr_add_119
      · skip
        have h := h.1 c_3
        refine lv_aload_n hx hb d_Fr_add_72 rfl (lv_at hl 1 rfl) ?_
        refine g_Fr_17 (v := .int O.2.1) hx hb hT hown hK hP 1 rfl rfl d_Fr_add_73 ?_
        refine lv_iconst (v := 2) hx hb d_Fr_add_76 (by decide) ?_
        refine lv_icmp_ne (tgt := 103) hx hb d_Fr_add_77 (by decide) (fun c_7 => ?_) (fun c_7 => ?_)
        · skip
          have h := h.2 c_7
          refine lv_aload_n hx hb d_Fr_add_103 rfl (lv_at hl 1 rfl) ?_
          refine g_Fr_17 (v := .int O.2.1) hx hb hT hown hK hP 1 rfl rfl d_Fr_add_104 ?_
          refine lv_aload_n hx hb d_Fr_add_107 rfl (lv_at hl 0 rfl) ?_
          refine g_Fr_17 (v := .int L.2.1) hx hb hT hown hK hP 0 rfl rfl d_Fr_add_108 ?_
          refine lv_icmp_le (tgt := 119) hx hb d_Fr_add_111 (by decide) (fun c_8 => ?_) (fun c_8 => ?_)
          · skip
            have h := h.1 c_8
            exact W.vret hx hb hr (fun t ht hW => ⟨⟨(L, O), rfl, h, by rw [ht]; exact hP, hD⟩, hS.F ht⟩) hS.2.2 d_Fr_add_119
          · skip
            have h := h.2 c_8
            refine lv_aload_n hx hb d_Fr_add_114 rfl (lv_at hl 0 rfl) ?_
            refine lv_aload_n hx hb d_Fr_add_115 rfl (lv_at hl 1 rfl) ?_
            refine zz_Wv (As := [.ref qo]) (rest := []) (wc := wF2 q qo L O) (wr := []) X hK hP hD hS hA (c_Fr_copy l D cI q qo L O _ h _) ⟨rfl, rfl⟩ m_Fr_copy k_Fr_68 ⟨Nat.le_of_ble_eq_true rfl, Nat.le_of_ble_eq_true rfl⟩ [0, 1] [] rfl rfl (by decide) (by decide) (by decide) 0 0 rfl rfl rfl rfl hl.1 rfl (Nat.le_of_ble_eq_true rfl) d_Fr_add_116 hf0 (fun u_9 H locs h hP hD hS => ?_)
            have hP : va_P D vwCl (wF2 q qo u_9.1 u_9.2) H := hP.sub [0, 1] rfl
            have hD : va_D A (wF2 q qo u_9.1 u_9.2) := hD.sub [0, 1] (by decide) rfl
            exact W.vret hx hb hr (fun t ht hW => ⟨⟨(u_9.1, u_9.2), rfl, h, by rw [ht]; exact hP, hD⟩, hS.F ht⟩) hS.2.2 d_Fr_add_119
        · skip
          have h := h.1 c_7
          refine lv_aload_n hx hb d_Fr_add_80 rfl (lv_at hl 0 rfl) ?_
          refine lv_aload_n hx hb d_Fr_add_81 rfl (lv_at hl 0 rfl) ?_
          refine g_Fr_13 (v := .int L.1) hx hb hT hown hK hP 0 rfl rfl d_Fr_add_82 ?_
          refine lv_aload_n hx hb d_Fr_add_85 rfl (lv_at hl 1 rfl) ?_
          refine g_Fr_13 (v := .int O.1) hx hb hT hown hK hP 1 rfl rfl d_Fr_add_86 ?_
          refine lv_icmp_ne (tgt := 96) hx hb d_Fr_add_89 (by decide) (fun c_11 => ?_) (fun c_11 => ?_)
          · skip
            have h := h.2 c_11
            refine lv_iconst (v := 3) hx hb d_Fr_add_96 (by decide) ?_
            refine p_Fr_17 hx hb hT hown hK hP hD hS 0 rfl rfl d_Fr_add_97 (fun H locs (hP : va_P D vwCl (wF2 q qo (L.1, (3 : Int32), L.2.2.1, L.2.2.2) O) H) (hD : va_D A (wF2 q qo (L.1, (3 : Int32), L.2.2.1, L.2.2.2) O)) hS => ?_)
            refine lv_goto (tgt := 119) hx hb d_Fr_add_100 (by decide) ?_
            exact W.vret hx hb hr (fun t ht hW => ⟨⟨((L.1, (3 : Int32), L.2.2.1, L.2.2.2), O), rfl, h, by rw [ht]; exact hP, hD⟩, hS.F ht⟩) hS.2.2 d_Fr_add_119
          · skip
            have h := h.1 c_11
            refine lv_iconst (v := 2) hx hb d_Fr_add_92 (by decide) ?_
            refine lv_goto (tgt := 97) hx hb d_Fr_add_93 (by decide) ?_
            refine p_Fr_17 hx hb hT hown hK hP hD hS 0 rfl rfl d_Fr_add_97 (fun H locs (hP : va_P D vwCl (wF2 q qo (L.1, (2 : Int32), L.2.2.1, L.2.2.2) O) H) (hD : va_D A (wF2 q qo (L.1, (2 : Int32), L.2.2.1, L.2.2.2) O)) hS => ?_)
            refine lv_goto (tgt := 119) hx hb d_Fr_add_100 (by decide) ?_
            exact W.vret hx hb hr (fun t ht hW => ⟨⟨((L.1, (2 : Int32), L.2.2.1, L.2.2.2), O), rfl, h, by rw [ht]; exact hP, hD⟩, hS.F ht⟩) hS.2.2 d_Fr_add_119
    · skip
      have h := h.1 c_2
      refine lv_aload_n hx hb d_Fr_add_31 rfl (lv_at hl 1 rfl) ?_
      refine g_Fr_17 (v := .int O.2.1) hx hb hT hown hK hP 1 rfl rfl d_Fr_add_32 ?_
      refine lv_if_ne (tgt := 64) hx hb d_Fr_add_35 (by decide) (fun c_12 => ?_) (fun c_12 => ?_)
      · skip
        have h := h.2 c_12
        refine lv_aload_n hx hb d_Fr_add_64 rfl (lv_at hl 0 rfl) ?_
        refine g_Fr_17 (v := .int L.2.1) hx hb hT hown hK hP 0 rfl rfl d_Fr_add_65 ?_
        refine lv_iconst (v := 2) hx hb d_Fr_add_68 (by decide) ?_
        refine lv_icmp_ne (tgt := 103) hx hb d_Fr_add_69 (by decide) (fun c_13 => ?_) (fun c_13 => ?_)
        · skip
          have h := h.2 c_13
          refine lv_aload_n hx hb d_Fr_add_103 rfl (lv_at hl 1 rfl) ?_
          refine g_Fr_17 (v := .int O.2.1) hx hb hT hown hK hP 1 rfl rfl d_Fr_add_104 ?_
          refine lv_aload_n hx hb d_Fr_add_107 rfl (lv_at hl 0 rfl) ?_
          refine g_Fr_17 (v := .int L.2.1) hx hb hT hown hK hP 0 rfl rfl d_Fr_add_108 ?_
          refine lv_icmp_le (tgt := 119) hx hb d_Fr_add_111 (by decide) (fun c_14 => ?_) (fun c_14 => ?_)
          · skip
            have h := h.1 c_14
            exact W.vret hx hb hr (fun t ht hW => ⟨⟨(L, O), rfl, h, by rw [ht]; exact hP, hD⟩, hS.F ht⟩) hS.2.2 d_Fr_add_119
          · skip
            have h := h.2 c_14
            refine lv_aload_n hx hb d_Fr_add_114 rfl (lv_at hl 0 rfl) ?_
            refine lv_aload_n hx hb d_Fr_add_115 rfl (lv_at hl 1 rfl) ?_
            refine zz_Wv (As := [.ref qo]) (rest := []) (wc := wF2 q qo L O) (wr := []) X hK hP hD hS hA (c_Fr_copy l D cI q qo L O _ h _) ⟨rfl, rfl⟩ m_Fr_copy k_Fr_68 ⟨Nat.le_of_ble_eq_true rfl, Nat.le_of_ble_eq_true rfl⟩ [0, 1] [] rfl rfl (by decide) (by decide) (by decide) 0 0 rfl rfl rfl rfl hl.1 rfl (Nat.le_of_ble_eq_true rfl) d_Fr_add_116 hf0 (fun u_15 H locs h hP hD hS => ?_)
            have hP : va_P D vwCl (wF2 q qo u_15.1 u_15.2) H := hP.sub [0, 1] rfl
            have hD : va_D A (wF2 q qo u_15.1 u_15.2) := hD.sub [0, 1] (by decide) rfl
            exact W.vret hx hb hr (fun t ht hW => ⟨⟨(u_15.1, u_15.2), rfl, h, by rw [ht]; exact hP, hD⟩, hS.F ht⟩) hS.2.2 d_Fr_add_119
        · skip
          have h := h.1 c_13
          refine lv_aload_n hx hb d_Fr_add_72 rfl (lv_at hl 1 rfl) ?_
          refine g_Fr_17 (v := .int O.2.1) hx hb hT hown hK hP 1 rfl rfl d_Fr_add_73 ?_
          refine lv_iconst (v := 2) hx hb d_Fr_add_76 (by decide) ?_
          refine lv_icmp_ne (tgt := 103) hx hb d_Fr_add_77 (by decide) (fun c_17 => ?_) (fun c_17 => ?_)
          · skip
            have h := h.2 c_17
            refine lv_aload_n hx hb d_Fr_add_103 rfl (lv_at hl 1 rfl) ?_
            refine g_Fr_17 (v := .int O.2.1) hx hb hT hown hK hP 1 rfl rfl d_Fr_add_104 ?_
            refine lv_aload_n hx hb d_Fr_add_107 rfl (lv_at hl 0 rfl) ?_
            refine g_Fr_17 (v := .int L.2.1) hx hb hT hown hK hP 0 rfl rfl d_Fr_add_108 ?_
            refine lv_icmp_le (tgt := 119) hx hb d_Fr_add_111 (by decide) (fun c_18 => ?_) (fun c_18 => ?_)
            · skip
              have h := h.1 c_18
              exact W.vret hx hb hr (fun t ht hW => ⟨⟨(L, O), rfl, h, by rw [ht]; exact hP, hD⟩, hS.F ht⟩) hS.2.2 d_Fr_add_119
            · skip
              have h := h.2 c_18
              refine lv_aload_n hx hb d_Fr_add_114 rfl (lv_at hl 0 rfl) ?_
              refine lv_aload_n hx hb d_Fr_add_115 rfl (lv_at hl 1 rfl) ?_
              refine zz_Wv (As := [.ref qo]) (rest := []) (wc := wF2 q qo L O) (wr := []) X hK hP hD hS hA (c_Fr_copy l D cI q qo L O _ h _) ⟨rfl, rfl⟩ m_Fr_copy k_Fr_68 ⟨Nat.le_of_ble_eq_true rfl, Nat.le_of_ble_eq_true rfl⟩ [0, 1] [] rfl rfl (by decide) (by decide) (by decide) 0 0 rfl rfl rfl rfl hl.1 rfl (Nat.le_of_ble_eq_true rfl) d_Fr_add_116 hf0 (fun u_19 H locs h hP hD hS => ?_)
              have hP : va_P D vwCl (wF2 q qo u_19.1 u_19.2) H := hP.sub [0, 1] rfl
              have hD : va_D A (wF2 q qo u_19.1 u_19.2) := hD.sub [0, 1] (by decide) rfl
              exact W.vret hx hb hr (fun t ht hW => ⟨⟨(u_19.1, u_19.2), rfl, h, by rw [ht]; exact hP, hD⟩, hS.F ht⟩) hS.2.2 d_Fr_add_119
          · skip
            have h := h.1 c_17
            refine lv_aload_n hx hb d_Fr_add_80 rfl (lv_at hl 0 rfl) ?_
            refine lv_aload_n hx hb d_Fr_add_81 rfl (lv_at hl 0 rfl) ?_
            refine g_Fr_13 (v := .int L.1) hx hb hT hown hK hP 0 rfl rfl d_Fr_add_82 ?_
            refine lv_aload_n hx hb d_Fr_add_85 rfl (lv_at hl 1 rfl) ?_
            refine g_Fr_13 (v := .int O.1) hx hb hT hown hK hP 1 rfl rfl d_Fr_add_86 ?_
            refine lv_icmp_ne (tgt := 96) hx hb d_Fr_add_89 (by decide) (fun c_21 => ?_) (fun c_21 => ?_)
            · skip
              have h := h.2 c_21
              refine lv_iconst (v := 3) hx hb d_Fr_add_96 (by decide) ?_
              refine p_Fr_17 hx hb hT hown hK hP hD hS 0 rfl rfl d_Fr_add_97 (fun H locs (hP : va_P D vwCl (wF2 q qo (L.1, (3 : Int32), L.2.2.1, L.2.2.2) O) H) (hD : va_D A (wF2 q qo (L.1, (3 : Int32), L.2.2.1, L.2.2.2) O)) hS => ?_)
              refine lv_goto (tgt := 119) hx hb d_Fr_add_100 (by decide) ?_
              exact W.vret hx hb hr (fun t ht hW => ⟨⟨((L.1, (3 : Int32), L.2.2.1, L.2.2.2), O), rfl, h, by rw [ht]; exact hP, hD⟩, hS.F ht⟩) hS.2.2 d_Fr_add_119
            · skip
              have h := h.1 c_21
              refine lv_iconst (v := 2) hx hb d_Fr_add_92 (by decide) ?_
              refine lv_goto (tgt := 97) hx hb d_Fr_add_93 (by decide) ?_
              refine p_Fr_17 hx hb hT hown hK hP hD hS 0 rfl rfl d_Fr_add_97 (fun H locs (hP : va_P D vwCl (wF2 q qo (L.1, (2 : Int32), L.2.2.1, L.2.2.2) O) H) (hD : va_D A (wF2 q qo (L.1, (2 : Int32), L.2.2.1, L.2.2.2) O)) hS => ?_)
              refine lv_goto (tgt := 119) hx hb d_Fr_add_100 (by decide) ?_
              exact W.vret hx hb hr (fun t ht hW => ⟨⟨((L.1, (2 : Int32), L.2.2.1, L.2.2.2), O), rfl, h, by rw [ht]; exact hP, hD⟩, hS.F ht⟩) hS.2.2 d_Fr_add_119
      · skip
        have h := h.1 c_12
        refine lv_aload_n hx hb d_Fr_add_38 rfl (lv_at hl 0 rfl) ?_
        refine lv_aload_n hx hb d_Fr_add_39 rfl (lv_at hl 0 rfl) ?_
        refine g_Fr_13 (v := .int L.1) hx hb hT hown hK hP 0 rfl rfl d_Fr_add_40 ?_
        refine lv_if_eq (tgt := 57) hx hb d_Fr_add_43 (by decide) (fun c_22 => ?_) (fun c_22 => ?_)
        · skip
          have h := h.1 c_22
          refine lv_iconst (v := 0) hx hb d_Fr_add_57 (by decide) ?_
          refine p_Fr_13 hx hb hT hown hK hP hD hS 0 rfl rfl (Or.inl rfl) d_Fr_add_58 (fun H locs (hP : va_P D vwCl (wF2 q qo ((0 : Int32), L.2.1, L.2.2.1, L.2.2.2) O) H) (hD : va_D A (wF2 q qo ((0 : Int32), L.2.1, L.2.2.1, L.2.2.2) O)) hS => ?_)
          refine lv_goto (tgt := 119) hx hb d_Fr_add_61 (by decide) ?_
          exact W.vret hx hb hr (fun t ht hW => ⟨⟨(((0 : Int32), L.2.1, L.2.2.1, L.2.2.2), O), rfl, h, by rw [ht]; exact hP, hD⟩, hS.F ht⟩) hS.2.2 d_Fr_add_119
        · skip
          have h := h.2 c_22
          refine lv_aload_n hx hb d_Fr_add_46 rfl (lv_at hl 1 rfl) ?_
          refine g_Fr_13 (v := .int O.1) hx hb hT hown hK hP 1 rfl rfl d_Fr_add_47 ?_
          refine lv_if_eq (tgt := 57) hx hb d_Fr_add_50 (by decide) (fun c_23 => ?_) (fun c_23 => ?_)
          · skip
            have h := h.1 c_23
            refine lv_iconst (v := 0) hx hb d_Fr_add_57 (by decide) ?_
            refine p_Fr_13 hx hb hT hown hK hP hD hS 0 rfl rfl (Or.inl rfl) d_Fr_add_58 (fun H locs (hP : va_P D vwCl (wF2 q qo ((0 : Int32), L.2.1, L.2.2.1, L.2.2.2) O) H) (hD : va_D A (wF2 q qo ((0 : Int32), L.2.1, L.2.2.1, L.2.2.2) O)) hS => ?_)
            refine lv_goto (tgt := 119) hx hb d_Fr_add_61 (by decide) ?_
            exact W.vret hx hb hr (fun t ht hW => ⟨⟨(((0 : Int32), L.2.1, L.2.2.1, L.2.2.2), O), rfl, h, by rw [ht]; exact hP, hD⟩, hS.F ht⟩) hS.2.2 d_Fr_add_119
          · skip
            have h := h.2 c_23
            refine lv_iconst (v := 1) hx hb d_Fr_add_53 (by decide) ?_
            refine lv_goto (tgt := 58) hx hb d_Fr_add_54 (by decide) ?_
            refine p_Fr_13 hx hb hT hown hK hP hD hS 0 rfl rfl (Or.inr rfl) d_Fr_add_58 (fun H locs (hP : va_P D vwCl (wF2 q qo ((1 : Int32), L.2.1, L.2.2.1, L.2.2.2) O) H) (hD : va_D A (wF2 q qo ((1 : Int32), L.2.1, L.2.2.1, L.2.2.2) O)) hS => ?_)
            refine lv_goto (tgt := 119) hx hb d_Fr_add_61 (by decide) ?_
            exact W.vret hx hb hr (fun t ht hW => ⟨⟨(((1 : Int32), L.2.1, L.2.2.1, L.2.2.2), O), rfl, h, by rw [ht]; exact hP, hD⟩, hS.F ht⟩) hS.2.2 d_Fr_add_119
  · skip
    have h := h.1 c_1
    refine lv_aload_n hx hb d_Fr_add_8 rfl (lv_at hl 1 rfl) ?_
    refine g_Fr_17 (v := .int O.2.1) hx hb hT hown hK hP 1 rfl rfl d_Fr_add_9 ?_
    refine lv_iconst (v := 1) hx hb d_Fr_add_12 (by decide) ?_
    refine lv_icmp_ne (tgt := 24) hx hb d_Fr_add_13 (by decide) (fun c_24 => ?_) (fun c_24 => ?_)
    · skip
      have h := h.2 c_24
      refine lv_aload_n hx hb d_Fr_add_24 rfl (lv_at hl 0 rfl) ?_
      refine g_Fr_17 (v := .int L.2.1) hx hb hT hown hK hP 0 rfl rfl d_Fr_add_25 ?_
      refine lv_if_ne (tgt := 64) hx hb d_Fr_add_28 (by decide) (fun c_25 => ?_) (fun c_25 => ?_)
      · skip
        have h := h.2 c_25
        refine lv_aload_n hx hb d_Fr_add_64 rfl (lv_at hl 0 rfl) ?_
        refine g_Fr_17 (v := .int L.2.1) hx hb hT hown hK hP 0 rfl rfl d_Fr_add_65 ?_
        refine lv_iconst (v := 2) hx hb d_Fr_add_68 (by decide) ?_
        refine lv_icmp_ne (tgt := 103) hx hb d_Fr_add_69 (by decide) (fun c_26 => ?_) (fun c_26 => ?_)
        · skip
          have h := h.2 c_26
          refine lv_aload_n hx hb d_Fr_add_103 rfl (lv_at hl 1 rfl) ?_
          refine g_Fr_17 (v := .int O.2.1) hx hb hT hown hK hP 1 rfl rfl d_Fr_add_104 ?_
          refine lv_aload_n hx hb d_Fr_add_107 rfl (lv_at hl 0 rfl) ?_
          refine g_Fr_17 (v := .int L.2.1) hx hb hT hown hK hP 0 rfl rfl d_Fr_add_108 ?_
          refine lv_icmp_le (tgt := 119) hx hb d_Fr_add_111 (by decide) (fun c_27 => ?_) (fun c_27 => ?_)
          · skip
            have h := h.1 c_27
            exact W.vret hx hb hr (fun t ht hW => ⟨⟨(L, O), rfl, h, by rw [ht]; exact hP, hD⟩, hS.F ht⟩) hS.2.2 d_Fr_add_119
          · skip
            have h := h.2 c_27
            refine lv_aload_n hx hb d_Fr_add_114 rfl (lv_at hl 0 rfl) ?_
            refine lv_aload_n hx hb d_Fr_add_115 rfl (lv_at hl 1 rfl) ?_
            refine zz_Wv (As := [.ref qo]) (rest := []) (wc := wF2 q qo L O) (wr := []) X hK hP hD hS hA (c_Fr_copy l D cI q qo L O _ h _) ⟨rfl, rfl⟩ m_Fr_copy k_Fr_68 ⟨Nat.le_of_ble_eq_true rfl, Nat.le_of_ble_eq_true rfl⟩ [0, 1] [] rfl rfl (by decide) (by decide) (by decide) 0 0 rfl rfl rfl rfl hl.1 rfl (Nat.le_of_ble_eq_true rfl) d_Fr_add_116 hf0 (fun u_28 H locs h hP hD hS => ?_)
            have hP : va_P D vwCl (wF2 q qo u_28.1 u_28.2) H := hP.sub [0, 1] rfl
            have hD : va_D A (wF2 q qo u_28.1 u_28.2) := hD.sub [0, 1] (by decide) rfl
            exact W.vret hx hb hr (fun t ht hW => ⟨⟨(u_28.1, u_28.2), rfl, h, by rw [ht]; exact hP, hD⟩, hS.F ht⟩) hS.2.2 d_Fr_add_119
        · skip
          have h := h.1 c_26
          refine lv_aload_n hx hb d_Fr_add_72 rfl (lv_at hl 1 rfl) ?_
          refine g_Fr_17 (v := .int O.2.1) hx hb hT hown hK hP 1 rfl rfl d_Fr_add_73 ?_
          refine lv_iconst (v := 2) hx hb d_Fr_add_76 (by decide) ?_
          refine lv_icmp_ne (tgt := 103) hx hb d_Fr_add_77 (by decide) (fun c_30 => ?_) (fun c_30 => ?_)
          · skip
            have h := h.2 c_30
            refine lv_aload_n hx hb d_Fr_add_103 rfl (lv_at hl 1 rfl) ?_
            refine g_Fr_17 (v := .int O.2.1) hx hb hT hown hK hP 1 rfl rfl d_Fr_add_104 ?_
            refine lv_aload_n hx hb d_Fr_add_107 rfl (lv_at hl 0 rfl) ?_
            refine g_Fr_17 (v := .int L.2.1) hx hb hT hown hK hP 0 rfl rfl d_Fr_add_108 ?_
            refine lv_icmp_le (tgt := 119) hx hb d_Fr_add_111 (by decide) (fun c_31 => ?_) (fun c_31 => ?_)
            · skip
              have h := h.1 c_31
              exact W.vret hx hb hr (fun t ht hW => ⟨⟨(L, O), rfl, h, by rw [ht]; exact hP, hD⟩, hS.F ht⟩) hS.2.2 d_Fr_add_119
            · skip
              have h := h.2 c_31
              refine lv_aload_n hx hb d_Fr_add_114 rfl (lv_at hl 0 rfl) ?_
              refine lv_aload_n hx hb d_Fr_add_115 rfl (lv_at hl 1 rfl) ?_
              refine zz_Wv (As := [.ref qo]) (rest := []) (wc := wF2 q qo L O) (wr := []) X hK hP hD hS hA (c_Fr_copy l D cI q qo L O _ h _) ⟨rfl, rfl⟩ m_Fr_copy k_Fr_68 ⟨Nat.le_of_ble_eq_true rfl, Nat.le_of_ble_eq_true rfl⟩ [0, 1] [] rfl rfl (by decide) (by decide) (by decide) 0 0 rfl rfl rfl rfl hl.1 rfl (Nat.le_of_ble_eq_true rfl) d_Fr_add_116 hf0 (fun u_32 H locs h hP hD hS => ?_)
              have hP : va_P D vwCl (wF2 q qo u_32.1 u_32.2) H := hP.sub [0, 1] rfl
              have hD : va_D A (wF2 q qo u_32.1 u_32.2) := hD.sub [0, 1] (by decide) rfl
              exact W.vret hx hb hr (fun t ht hW => ⟨⟨(u_32.1, u_32.2), rfl, h, by rw [ht]; exact hP, hD⟩, hS.F ht⟩) hS.2.2 d_Fr_add_119
          · skip
            have h := h.1 c_30
            refine lv_aload_n hx hb d_Fr_add_80 rfl (lv_at hl 0 rfl) ?_
            refine lv_aload_n hx hb d_Fr_add_81 rfl (lv_at hl 0 rfl) ?_
            refine g_Fr_13 (v := .int L.1) hx hb hT hown hK hP 0 rfl rfl d_Fr_add_82 ?_
            refine lv_aload_n hx hb d_Fr_add_85 rfl (lv_at hl 1 rfl) ?_
            refine g_Fr_13 (v := .int O.1) hx hb hT hown hK hP 1 rfl rfl d_Fr_add_86 ?_
            refine lv_icmp_ne (tgt := 96) hx hb d_Fr_add_89 (by decide) (fun c_34 => ?_) (fun c_34 => ?_)
            · skip
              have h := h.2 c_34
              refine lv_iconst (v := 3) hx hb d_Fr_add_96 (by decide) ?_
              refine p_Fr_17 hx hb hT hown hK hP hD hS 0 rfl rfl d_Fr_add_97 (fun H locs (hP : va_P D vwCl (wF2 q qo (L.1, (3 : Int32), L.2.2.1, L.2.2.2) O) H) (hD : va_D A (wF2 q qo (L.1, (3 : Int32), L.2.2.1, L.2.2.2) O)) hS => ?_)
              refine lv_goto (tgt := 119) hx hb d_Fr_add_100 (by decide) ?_
              exact W.vret hx hb hr (fun t ht hW => ⟨⟨((L.1, (3 : Int32), L.2.2.1, L.2.2.2), O), rfl, h, by rw [ht]; exact hP, hD⟩, hS.F ht⟩) hS.2.2 d_Fr_add_119
            · skip
              have h := h.1 c_34
              refine lv_iconst (v := 2) hx hb d_Fr_add_92 (by decide) ?_
              refine lv_goto (tgt := 97) hx hb d_Fr_add_93 (by decide) ?_
              refine p_Fr_17 hx hb hT hown hK hP hD hS 0 rfl rfl d_Fr_add_97 (fun H locs (hP : va_P D vwCl (wF2 q qo (L.1, (2 : Int32), L.2.2.1, L.2.2.2) O) H) (hD : va_D A (wF2 q qo (L.1, (2 : Int32), L.2.2.1, L.2.2.2) O)) hS => ?_)
              refine lv_goto (tgt := 119) hx hb d_Fr_add_100 (by decide) ?_
              exact W.vret hx hb hr (fun t ht hW => ⟨⟨((L.1, (2 : Int32), L.2.2.1, L.2.2.2), O), rfl, h, by rw [ht]; exact hP, hD⟩, hS.F ht⟩) hS.2.2 d_Fr_add_119
      · skip
        have h := h.1 c_25
        refine lv_aload_n hx hb d_Fr_add_31 rfl (lv_at hl 1 rfl) ?_
        refine g_Fr_17 (v := .int O.2.1) hx hb hT hown hK hP 1 rfl rfl d_Fr_add_32 ?_
        refine lv_if_ne (tgt := 64) hx hb d_Fr_add_35 (by decide) (fun c_35 => ?_) (fun c_35 => ?_)
        · skip
          have h := h.2 c_35
          refine lv_aload_n hx hb d_Fr_add_64 rfl (lv_at hl 0 rfl) ?_
          refine g_Fr_17 (v := .int L.2.1) hx hb hT hown hK hP 0 rfl rfl d_Fr_add_65 ?_
          refine lv_iconst (v := 2) hx hb d_Fr_add_68 (by decide) ?_
          refine lv_icmp_ne (tgt := 103) hx hb d_Fr_add_69 (by decide) (fun c_36 => ?_) (fun c_36 => ?_)
          · skip
            have h := h.2 c_36
            refine lv_aload_n hx hb d_Fr_add_103 rfl (lv_at hl 1 rfl) ?_
            refine g_Fr_17 (v := .int O.2.1) hx hb hT hown hK hP 1 rfl rfl d_Fr_add_104 ?_
            refine lv_aload_n hx hb d_Fr_add_107 rfl (lv_at hl 0 rfl) ?_
            refine g_Fr_17 (v := .int L.2.1) hx hb hT hown hK hP 0 rfl rfl d_Fr_add_108 ?_
            refine lv_icmp_le (tgt := 119) hx hb d_Fr_add_111 (by decide) (fun c_37 => ?_) (fun c_37 => ?_)
            · skip
              have h := h.1 c_37
              exact W.vret hx hb hr (fun t ht hW => ⟨⟨(L, O), rfl, h, by rw [ht]; exact hP, hD⟩, hS.F ht⟩) hS.2.2 d_Fr_add_119
            · skip
              have h := h.2 c_37
              refine lv_aload_n hx hb d_Fr_add_114 rfl (lv_at hl 0 rfl) ?_
              refine lv_aload_n hx hb d_Fr_add_115 rfl (lv_at hl 1 rfl) ?_
              refine zz_Wv (As := [.ref qo]) (rest := []) (wc := wF2 q qo L O) (wr := []) X hK hP hD hS hA (c_Fr_copy l D cI q qo L O _ h _) ⟨rfl, rfl⟩ m_Fr_copy k_Fr_68 ⟨Nat.le_of_ble_eq_true rfl, Nat.le_of_ble_eq_true rfl⟩ [0, 1] [] rfl rfl (by decide) (by decide) (by decide) 0 0 rfl rfl rfl rfl hl.1 rfl (Nat.le_of_ble_eq_true rfl) d_Fr_add_116 hf0 (fun u_38 H locs h hP hD hS => ?_)
              have hP : va_P D vwCl (wF2 q qo u_38.1 u_38.2) H := hP.sub [0, 1] rfl
              have hD : va_D A (wF2 q qo u_38.1 u_38.2) := hD.sub [0, 1] (by decide) rfl
              exact W.vret hx hb hr (fun t ht hW => ⟨⟨(u_38.1, u_38.2), rfl, h, by rw [ht]; exact hP, hD⟩, hS.F ht⟩) hS.2.2 d_Fr_add_119
          · skip
            have h := h.1 c_36
            refine lv_aload_n hx hb d_Fr_add_72 rfl (lv_at hl 1 rfl) ?_
            refine g_Fr_17 (v := .int O.2.1) hx hb hT hown hK hP 1 rfl rfl d_Fr_add_73 ?_
            refine lv_iconst (v := 2) hx hb d_Fr_add_76 (by decide) ?_
            refine lv_icmp_ne (tgt := 103) hx hb d_Fr_add_77 (by decide) (fun c_40 => ?_) (fun c_40 => ?_)
            · skip
              have h := h.2 c_40
              refine lv_aload_n hx hb d_Fr_add_103 rfl (lv_at hl 1 rfl) ?_
              refine g_Fr_17 (v := .int O.2.1) hx hb hT hown hK hP 1 rfl rfl d_Fr_add_104 ?_
              refine lv_aload_n hx hb d_Fr_add_107 rfl (lv_at hl 0 rfl) ?_
              refine g_Fr_17 (v := .int L.2.1) hx hb hT hown hK hP 0 rfl rfl d_Fr_add_108 ?_
              refine lv_icmp_le (tgt := 119) hx hb d_Fr_add_111 (by decide) (fun c_41 => ?_) (fun c_41 => ?_)
              · skip
                have h := h.1 c_41
                exact W.vret hx hb hr (fun t ht hW => ⟨⟨(L, O), rfl, h, by rw [ht]; exact hP, hD⟩, hS.F ht⟩) hS.2.2 d_Fr_add_119
              · skip
                have h := h.2 c_41
                refine lv_aload_n hx hb d_Fr_add_114 rfl (lv_at hl 0 rfl) ?_
                refine lv_aload_n hx hb d_Fr_add_115 rfl (lv_at hl 1 rfl) ?_
                refine zz_Wv (As := [.ref qo]) (rest := []) (wc := wF2 q qo L O) (wr := []) X hK hP hD hS hA (c_Fr_copy l D cI q qo L O _ h _) ⟨rfl, rfl⟩ m_Fr_copy k_Fr_68 ⟨Nat.le_of_ble_eq_true rfl, Nat.le_of_ble_eq_true rfl⟩ [0, 1] [] rfl rfl (by decide) (by decide) (by decide) 0 0 rfl rfl rfl rfl hl.1 rfl (Nat.le_of_ble_eq_true rfl) d_Fr_add_116 hf0 (fun u_42 H locs h hP hD hS => ?_)
                have hP : va_P D vwCl (wF2 q qo u_42.1 u_42.2) H := hP.sub [0, 1] rfl
                have hD : va_D A (wF2 q qo u_42.1 u_42.2) := hD.sub [0, 1] (by decide) rfl
                exact W.vret hx hb hr (fun t ht hW => ⟨⟨(u_42.1, u_42.2), rfl, h, by rw [ht]; exact hP, hD⟩, hS.F ht⟩) hS.2.2 d_Fr_add_119
            · skip
              have h := h.1 c_40
              refine lv_aload_n hx hb d_Fr_add_80 rfl (lv_at hl 0 rfl) ?_
              refine lv_aload_n hx hb d_Fr_add_81 rfl (lv_at hl 0 rfl) ?_
              refine g_Fr_13 (v := .int L.1) hx hb hT hown hK hP 0 rfl rfl d_Fr_add_82 ?_
              refine lv_aload_n hx hb d_Fr_add_85 rfl (lv_at hl 1 rfl) ?_
              refine g_Fr_13 (v := .int O.1) hx hb hT hown hK hP 1 rfl rfl d_Fr_add_86 ?_
              refine lv_icmp_ne (tgt := 96) hx hb d_Fr_add_89 (by decide) (fun c_44 => ?_) (fun c_44 => ?_)
              · skip
                have h := h.2 c_44
                refine lv_iconst (v := 3) hx hb d_Fr_add_96 (by decide) ?_
                refine p_Fr_17 hx hb hT hown hK hP hD hS 0 rfl rfl d_Fr_add_97 (fun H locs (hP : va_P D vwCl (wF2 q qo (L.1, (3 : Int32), L.2.2.1, L.2.2.2) O) H) (hD : va_D A (wF2 q qo (L.1, (3 : Int32), L.2.2.1, L.2.2.2) O)) hS => ?_)
                refine lv_goto (tgt := 119) hx hb d_Fr_add_100 (by decide) ?_
                exact W.vret hx hb hr (fun t ht hW => ⟨⟨((L.1, (3 : Int32), L.2.2.1, L.2.2.2), O), rfl, h, by rw [ht]; exact hP, hD⟩, hS.F ht⟩) hS.2.2 d_Fr_add_119
              · skip
                have h := h.1 c_44
                refine lv_iconst (v := 2) hx hb d_Fr_add_92 (by decide) ?_
                refine lv_goto (tgt := 97) hx hb d_Fr_add_93 (by decide) ?_
                refine p_Fr_17 hx hb hT hown hK hP hD hS 0 rfl rfl d_Fr_add_97 (fun H locs (hP : va_P D vwCl (wF2 q qo (L.1, (2 : Int32), L.2.2.1, L.2.2.2) O) H) (hD : va_D A (wF2 q qo (L.1, (2 : Int32), L.2.2.1, L.2.2.2) O)) hS => ?_)
                refine lv_goto (tgt := 119) hx hb d_Fr_add_100 (by decide) ?_
                exact W.vret hx hb hr (fun t ht hW => ⟨⟨((L.1, (2 : Int32), L.2.2.1, L.2.2.2), O), rfl, h, by rw [ht]; exact hP, hD⟩, hS.F ht⟩) hS.2.2 d_Fr_add_119
        · skip
          have h := h.1 c_35
          refine lv_aload_n hx hb d_Fr_add_38 rfl (lv_at hl 0 rfl) ?_
          refine lv_aload_n hx hb d_Fr_add_39 rfl (lv_at hl 0 rfl) ?_
          refine g_Fr_13 (v := .int L.1) hx hb hT hown hK hP 0 rfl rfl d_Fr_add_40 ?_
          refine lv_if_eq (tgt := 57) hx hb d_Fr_add_43 (by decide) (fun c_45 => ?_) (fun c_45 => ?_)
          · skip
            have h := h.1 c_45
            refine lv_iconst (v := 0) hx hb d_Fr_add_57 (by decide) ?_
            refine p_Fr_13 hx hb hT hown hK hP hD hS 0 rfl rfl (Or.inl rfl) d_Fr_add_58 (fun H locs (hP : va_P D vwCl (wF2 q qo ((0 : Int32), L.2.1, L.2.2.1, L.2.2.2) O) H) (hD : va_D A (wF2 q qo ((0 : Int32), L.2.1, L.2.2.1, L.2.2.2) O)) hS => ?_)
            refine lv_goto (tgt := 119) hx hb d_Fr_add_61 (by decide) ?_
            exact W.vret hx hb hr (fun t ht hW => ⟨⟨(((0 : Int32), L.2.1, L.2.2.1, L.2.2.2), O), rfl, h, by rw [ht]; exact hP, hD⟩, hS.F ht⟩) hS.2.2 d_Fr_add_119
          · skip
            have h := h.2 c_45
            refine lv_aload_n hx hb d_Fr_add_46 rfl (lv_at hl 1 rfl) ?_
            refine g_Fr_13 (v := .int O.1) hx hb hT hown hK hP 1 rfl rfl d_Fr_add_47 ?_
            refine lv_if_eq (tgt := 57) hx hb d_Fr_add_50 (by decide) (fun c_46 => ?_) (fun c_46 => ?_)
            · skip
              have h := h.1 c_46
              refine lv_iconst (v := 0) hx hb d_Fr_add_57 (by decide) ?_
              refine p_Fr_13 hx hb hT hown hK hP hD hS 0 rfl rfl (Or.inl rfl) d_Fr_add_58 (fun H locs (hP : va_P D vwCl (wF2 q qo ((0 : Int32), L.2.1, L.2.2.1, L.2.2.2) O) H) (hD : va_D A (wF2 q qo ((0 : Int32), L.2.1, L.2.2.1, L.2.2.2) O)) hS => ?_)
              refine lv_goto (tgt := 119) hx hb d_Fr_add_61 (by decide) ?_
              exact W.vret hx hb hr (fun t ht hW => ⟨⟨(((0 : Int32), L.2.1, L.2.2.1, L.2.2.2), O), rfl, h, by rw [ht]; exact hP, hD⟩, hS.F ht⟩) hS.2.2 d_Fr_add_119
            · skip
              have h := h.2 c_46
              refine lv_iconst (v := 1) hx hb d_Fr_add_53 (by decide) ?_
              refine lv_goto (tgt := 58) hx hb d_Fr_add_54 (by decide) ?_
              refine p_Fr_13 hx hb hT hown hK hP hD hS 0 rfl rfl (Or.inr rfl) d_Fr_add_58 (fun H locs (hP : va_P D vwCl (wF2 q qo ((1 : Int32), L.2.1, L.2.2.1, L.2.2.2) O) H) (hD : va_D A (wF2 q qo ((1 : Int32), L.2.1, L.2.2.1, L.2.2.2) O)) hS => ?_)
              refine lv_goto (tgt := 119) hx hb d_Fr_add_61 (by decide) ?_
              exact W.vret hx hb hr (fun t ht hW => ⟨⟨(((1 : Int32), L.2.1, L.2.2.1, L.2.2.2), O), rfl, h, by rw [ht]; exact hP, hD⟩, hS.F ht⟩) hS.2.2 d_Fr_add_119
    · skip
      have h := h.1 c_24
      refine lv_aload_n hx hb d_Fr_add_16 rfl (lv_at hl 0 rfl) ?_
      refine lv_aload_n hx hb d_Fr_add_17 rfl (lv_at hl 1 rfl) ?_
      refine zz_Wv (As := [.ref qo]) (rest := []) (wc := wF2 q qo L O) (wr := []) X hK hP hD hS hA (c_Fr_addFinite l D cI q qo L O _ h _) ⟨rfl, rfl⟩ m_Fr_addFinite k_Fr_64 ⟨Nat.le_of_ble_eq_true rfl, Nat.le_of_ble_eq_true rfl⟩ [0, 1] [] rfl rfl (by decide) (by decide) (by decide) 0 0 rfl rfl rfl rfl hl.1 rfl (Nat.le_of_ble_eq_true rfl) d_Fr_add_18 hf0 (fun u_47 H locs h hP hD hS => ?_)
      have hP : va_P D vwCl (wF2 q qo u_47.1 u_47.2) H := hP.sub [0, 1] rfl
      have hD : va_D A (wF2 q qo u_47.1 u_47.2) := hD.sub [0, 1] (by decide) rfl
      refine lv_goto (tgt := 119) hx hb d_Fr_add_21 (by decide) ?_
      exact W.vret hx hb hr (fun t ht hW => ⟨⟨(u_47.1, u_47.2), rfl, h, by rw [ht]; exact hP, hD⟩, hS.F ht⟩) hS.2.2 d_Fr_add_119
