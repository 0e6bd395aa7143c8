def wp_Fr_order (L : Int32 × Int32 × Int32 × Int64) (O : Int32 × Int32 × Int32 × Int64) (P : Int32 → Prop) : Prop := ((L.2.1 = (3 : Int32) → P (1 : Int32)) ∧ (¬ L.2.1 = (3 : Int32) → ((O.2.1 = (3 : Int32) → P (1 : Int32)) ∧ (¬ O.2.1 = (3 : Int32) → wp_Fr_side L (fun r_3 => wp_Fr_side O (fun r_4 => ((r_3 = r_4 → wp_Fr_compareSize L O (fun r_6 => ((r_6 = (0 : Int32) → P (2 : Int32)) ∧ (¬ r_6 = (0 : Int32) → (((0 : Int32) ≤ r_6 → (((0 : Int32) = L.1 → P (0 : Int32)) ∧ (¬ (0 : Int32) = L.1 → P (4 : Int32)))) ∧ (¬ (0 : Int32) ≤ r_6 → (((1 : Int32) = L.1 → P (0 : Int32)) ∧ (¬ (1 : Int32) = L.1 → P (4 : Int32))))))))) ∧ (¬ r_3 = r_4 → ((r_4 ≤ r_3 → P (0 : Int32)) ∧ (¬ r_4 ≤ r_3 → P (4 : Int32)))))))))))
abbrev rm_Fr_order : Room := { frames := 2, cells := 0, slots := 0, locals := 44 }
set_option maxHeartbeats 4000000 in
set_option maxRecDepth 100000 in
theorem c_Fr_order (l : Launch) (D : va_G) (cI : ClassId) (q : Nat) (qo : Nat) (L : Int32 × Int32 × Int32 × Int64) (O : Int32 × Int32 × Int32 × Int64) (P : Int32 → Prop) (h : wp_Fr_order L O P) : Met l y_Fr_order (zz_ws y_Fr_order b_Fr_order 5 (some .int)) rm_Fr_order (va_Pc [.ref q, .ref qo] (zz_pr D [(cI, .int)] (wF2 q qo L O))) (vp_Si P) 0 0 (fun _ => False) := by
  refine Met.ofW (cc := b_Fr_order) (maxL := 5) (ret := (some .int)) (by decide) rfl ?_
  intro p e s m args below meth c s₁ B hml hv
  obtain ⟨rfl, hP, hK⟩ := hv
  have hx := B.exec
  have hb := B.bytes
  have hr := B.returns
  have hts := atoms_spec (ws := (zz_ws y_Fr_order b_Fr_order 5 (some .int))) B.pre
  have hown : s.vm.findClass R_Fr = some m.cls := findClass_of_methodNamed B.named
  have hlocks := B.notSynchronized
  have hT := zz_hts hts
  have X : CallFix p m c b_Fr_order 5 s ([.ref q, .ref qo] : List Value).toArray (zz_ws y_Fr_order b_Fr_order 5 (some .int)) R_Fr := ⟨hx, hb, hml, hown, hts⟩
  have hf0 : 0 + 0 ≤ (headSpec (zz_ws y_Fr_order b_Fr_order 5 (some .int)) rm_Fr_order).room.cells ∧ 0 + 0 ≤ (headSpec (zz_ws y_Fr_order b_Fr_order 5 (some .int)) rm_Fr_order).room.slots := ⟨Nat.le_of_ble_eq_true rfl, Nat.le_of_ble_eq_true rfl⟩
  have hl := lv_entry ([.ref q, .ref qo]) (n := 5) (Nat.le_of_ble_eq_true rfl)
  rw [lg_entry_eq]
  generalize (lg_sl ([.ref q, .ref qo]) ++ List.replicate (5 - (lg_sl ([.ref q, .ref qo])).length) Slot.unset).toArray = ls at hl ⊢
  have hl : lv_has ls 5 [(0, .ref q), (1, .ref qo)] := hl
  refine lv_aload_n hx hb d_Fr_order_0 rfl (lv_at hl 0 rfl) ?_
  refine g_Fr_17 (v := .int L.2.1) hx hb hT hown hK hP 0 rfl rfl d_Fr_order_1 ?_
  refine lv_iconst (v := 3) hx hb d_Fr_order_4 (by decide) ?_
  refine lv_icmp_eq (tgt := 16) hx hb d_Fr_order_5 (by decide) (fun c_1 => ?_) (fun c_1 => ?_)
  · skip
    have h := h.1 c_1
    refine lv_iconst (v := 1) hx hb d_Fr_order_16 (by decide) ?_
    exact W.iret (v := (1 : Int32)) hx hb hr (fun t ht hW => ⟨(1 : Int32),  rfl, h, ht⟩) t_nil d_Fr_order_17
  · skip
    have h := h.2 c_1
    refine lv_aload_n hx hb d_Fr_order_8 rfl (lv_at hl 1 rfl) ?_
    refine g_Fr_17 (v := .int O.2.1) hx hb hT hown hK hP 1 rfl rfl d_Fr_order_9 ?_
    refine lv_iconst (v := 3) hx hb d_Fr_order_12 (by decide) ?_
    refine lv_icmp_ne (tgt := 18) hx hb d_Fr_order_13 (by decide) (fun c_2 => ?_) (fun c_2 => ?_)
    · skip
      have h := h.2 c_2
      refine lv_aload_n hx hb d_Fr_order_18 rfl (lv_at hl 0 rfl) ?_
      refine zz_Ri (As := []) (rest := []) (wc := wF1 q L) X hK hP (c_Fr_side l D cI q L _ h) ⟨rfl, rfl⟩ m_Fr_side k_Fr_88 ⟨Nat.le_of_ble_eq_true rfl, Nat.le_of_ble_eq_true rfl⟩ [0] rfl 0 0 rfl rfl rfl rfl hl.1 rfl (Nat.le_of_ble_eq_true rfl) d_Fr_order_19 hf0 (fun r_3 h => ?_)
      refine lv_istore_n (lv' := [(2, .int r_3), (0, .ref q), (1, .ref qo)]) hx hb d_Fr_order_22 rfl hl (by decide) rfl (fun ls hl => ?_)
      refine lv_aload_n hx hb d_Fr_order_23 rfl (lv_at hl 2 rfl) ?_
      refine zz_Ri (As := []) (rest := []) (wc := wF1 qo O) X hK hP (c_Fr_side l D cI qo O _ h) ⟨rfl, rfl⟩ m_Fr_side k_Fr_88 ⟨Nat.le_of_ble_eq_true rfl, Nat.le_of_ble_eq_true rfl⟩ [1] rfl 0 1 rfl rfl rfl rfl hl.1 rfl (Nat.le_of_ble_eq_true rfl) d_Fr_order_24 hf0 (fun r_4 h => ?_)
      refine lv_istore_n (lv' := [(3, .int r_4), (2, .int r_3), (0, .ref q), (1, .ref qo)]) hx hb d_Fr_order_27 rfl hl (by decide) rfl (fun ls hl => ?_)
      refine lv_iload_n hx hb d_Fr_order_28 rfl (lv_at hl 1 rfl) ?_
      refine lv_iload_n hx hb d_Fr_order_29 rfl (lv_at hl 0 rfl) ?_
      refine lv_icmp_eq (tgt := 44) hx hb d_Fr_order_30 (by decide) (fun c_5 => ?_) (fun c_5 => ?_)
      · skip
        have h := h.1 c_5
        refine lv_aload_n hx hb d_Fr_order_44 rfl (lv_at hl 2 rfl) ?_
        refine lv_aload_n hx hb d_Fr_order_45 rfl (lv_at hl 3 rfl) ?_
        refine zz_Ri (As := [.ref qo]) (rest := []) (wc := wF2 q qo L O) X hK hP (c_Fr_compareSize l D cI q qo L O _ h) ⟨rfl, rfl⟩ m_Fr_compareSize k_Fr_92 ⟨Nat.le_of_ble_eq_true rfl, Nat.le_of_ble_eq_true rfl⟩ [0, 1] rfl 0 0 rfl rfl rfl rfl hl.1 rfl (Nat.le_of_ble_eq_true rfl) d_Fr_order_46 hf0 (fun r_6 h => ?_)
        refine lv_istore (lv' := [(4, .int r_6), (3, .int r_4), (2, .int r_3), (0, .ref q), (1, .ref qo)]) hx hb d_Fr_order_49 hl (by decide) rfl (fun ls hl => ?_)
        refine lv_iload hx hb d_Fr_order_51 (lv_at hl 0 rfl) ?_
        refine lv_if_ne (tgt := 58) hx hb d_Fr_order_53 (by decide) (fun c_7 => ?_) (fun c_7 => ?_)
        · skip
          have h := h.2 c_7
          refine lv_iload hx hb d_Fr_order_58 (lv_at hl 0 rfl) ?_
          refine lv_if_ge (tgt := 67) hx hb d_Fr_order_60 (by decide) (fun c_8 => ?_) (fun c_8 => ?_)
          · skip
            have h := h.1 c_8
            refine lv_iconst (v := 0) hx hb d_Fr_order_67 (by decide) ?_
            refine lv_aload_n hx hb d_Fr_order_68 rfl (lv_at hl 3 rfl) ?_
            refine g_Fr_13 (v := .int L.1) hx hb hT hown hK hP 0 rfl rfl d_Fr_order_69 ?_
            refine lv_icmp_eq (tgt := 79) hx hb d_Fr_order_72 (by decide) (fun c_9 => ?_) (fun c_9 => ?_)
            · skip
              have h := h.1 c_9
              refine lv_iconst (v := 0) hx hb d_Fr_order_79 (by decide) ?_
              exact W.iret (v := (0 : Int32)) hx hb hr (fun t ht hW => ⟨(0 : Int32),  rfl, h, ht⟩) t_nil d_Fr_order_80
            · skip
              have h := h.2 c_9
              refine lv_iconst (v := 4) hx hb d_Fr_order_75 (by decide) ?_
              refine lv_goto (tgt := 80) hx hb d_Fr_order_76 (by decide) ?_
              exact W.iret (v := (4 : Int32)) hx hb hr (fun t ht hW => ⟨(4 : Int32),  rfl, h, ht⟩) t_nil d_Fr_order_80
          · skip
            have h := h.2 c_8
            refine lv_iconst (v := 1) hx hb d_Fr_order_63 (by decide) ?_
            refine lv_goto (tgt := 68) hx hb d_Fr_order_64 (by decide) ?_
            refine lv_aload_n hx hb d_Fr_order_68 rfl (lv_at hl 3 rfl) ?_
            refine g_Fr_13 (v := .int L.1) hx hb hT hown hK hP 0 rfl rfl d_Fr_order_69 ?_
            refine lv_icmp_eq (tgt := 79) hx hb d_Fr_order_72 (by decide) (fun c_10 => ?_) (fun c_10 => ?_)
            · skip
              have h := h.1 c_10
              refine lv_iconst (v := 0) hx hb d_Fr_order_79 (by decide) ?_
              exact W.iret (v := (0 : Int32)) hx hb hr (fun t ht hW => ⟨(0 : Int32),  rfl, h, ht⟩) t_nil d_Fr_order_80
            · skip
              have h := h.2 c_10
              refine lv_iconst (v := 4) hx hb d_Fr_order_75 (by decide) ?_
              refine lv_goto (tgt := 80) hx hb d_Fr_order_76 (by decide) ?_
              exact W.iret (v := (4 : Int32)) hx hb hr (fun t ht hW => ⟨(4 : Int32),  rfl, h, ht⟩) t_nil d_Fr_order_80
        · skip
          have h := h.1 c_7
          refine lv_iconst (v := 2) hx hb d_Fr_order_56 (by decide) ?_
          exact W.iret (v := (2 : Int32)) hx hb hr (fun t ht hW => ⟨(2 : Int32),  rfl, h, ht⟩) t_nil d_Fr_order_57
      · skip
        have h := h.2 c_5
        refine lv_iload_n hx hb d_Fr_order_33 rfl (lv_at hl 1 rfl) ?_
        refine lv_iload_n hx hb d_Fr_order_34 rfl (lv_at hl 0 rfl) ?_
        refine lv_icmp_ge (tgt := 42) hx hb d_Fr_order_35 (by decide) (fun c_11 => ?_) (fun c_11 => ?_)
        · skip
          have h := h.1 c_11
          refine lv_iconst (v := 0) hx hb d_Fr_order_42 (by decide) ?_
          exact W.iret (v := (0 : Int32)) hx hb hr (fun t ht hW => ⟨(0 : Int32),  rfl, h, ht⟩) t_nil d_Fr_order_43
        · skip
          have h := h.2 c_11
          refine lv_iconst (v := 4) hx hb d_Fr_order_38 (by decide) ?_
          refine lv_goto (tgt := 43) hx hb d_Fr_order_39 (by decide) ?_
          exact W.iret (v := (4 : Int32)) hx hb hr (fun t ht hW => ⟨(4 : Int32),  rfl, h, ht⟩) t_nil d_Fr_order_43
    · skip
      have h := h.1 c_2
      refine lv_iconst (v := 1) hx hb d_Fr_order_16 (by decide) ?_
      exact W.iret (v := (1 : Int32)) hx hb hr (fun t ht hW => ⟨(1 : Int32),  rfl, h, ht⟩) t_nil d_Fr_order_17
def wp_Hl_keepHi (hq : Nat → Int32) (a0 : Int32) (P : ((Nat → Int32)) → Prop) : Prop := P (upd (upd hq 0 a0) 2 (1 : Int32))
abbrev rm_Hl_keepHi : Room := { frames := 0, cells := 0, slots := 0, locals := 0 }
set_option maxHeartbeats 4000000 in
set_option maxRecDepth 100000 in
theorem c_Hl_keepHi (l : Launch) (D : va_G) (cI : ClassId) (qh : Nat) (hq : Nat → Int32) (a0 : Int32) (P : ((Nat → Int32)) → Prop) (h : wp_Hl_keepHi hq a0 P) (sz : Nat) : Met l y_Hl_keepHi (zz_ws y_Hl_keepHi b_Hl_keepHi 2 none) rm_Hl_keepHi (va_Pc [.ref qh, .int a0] (zz_pw D [(cI, .int)] (wH qh hq) sz)) (va_Qv P (zz_qw D (fun u => wH qh u) (va_A (wH qh hq) sz)) (va_A (wH qh hq) sz)) 0 0 (va_A (wH qh hq) sz) := by
  refine Met.ofW (cc := b_Hl_keepHi) (maxL := 2) (ret := none) (by decide) rfl ?_
  intro p e s m args below meth c s₁ B hml hv
  obtain ⟨rfl, hsz, hP, hK, hD0⟩ := hv
  have hx := B.exec
  have hb := B.bytes
  have hr := B.returns
  have hts := atoms_spec (ws := (zz_ws y_Hl_keepHi b_Hl_keepHi 2 none)) B.pre
  have hown : s.vm.findClass R_Hl = some m.cls := findClass_of_methodNamed B.named
  have hlocks := B.notSynchronized
  have hT := zz_hts hts
  have X : CallFix p m c b_Hl_keepHi 2 s ([.ref qh, .int a0] : List Value).toArray (zz_ws y_Hl_keepHi b_Hl_keepHi 2 none) R_Hl := ⟨hx, hb, hml, hown, hts⟩
  have hf0 : 0 + 0 ≤ (headSpec (zz_ws y_Hl_keepHi b_Hl_keepHi 2 none) rm_Hl_keepHi).room.cells ∧ 0 + 0 ≤ (headSpec (zz_ws y_Hl_keepHi b_Hl_keepHi 2 none) rm_Hl_keepHi).room.slots := ⟨Nat.le_of_ble_eq_true rfl, Nat.le_of_ble_eq_true rfl⟩
  subst hsz
  have hD := hD0.self (sz := s.heap.size)
  generalize hAe : va_A (wH qh hq) s.heap.size = A at hD ⊢
  have hA : ∀ q : Nat, s.heap.size ≤ q → A q := fun q h => by rw [← hAe]; exact Or.inr h
  have hS : va_S A s.heap s.heap [] := va_S.rf
  have hl := lv_entry ([.ref qh, .int a0]) (n := 2) (Nat.le_of_ble_eq_true rfl)
  rw [lg_entry_eq]
  generalize (lg_sl ([.ref qh, .int a0]) ++ List.replicate (2 - (lg_sl ([.ref qh, .int a0])).length) Slot.unset).toArray = ls at hl ⊢
  have hl : lv_has ls 2 [(0, .ref qh), (1, .int a0)] := hl
  refine lv_aload_n hx hb d_Hl_keepHi_0 rfl (lv_at hl 0 rfl) ?_
  refine lv_iload_n hx hb d_Hl_keepHi_1 rfl (lv_at hl 1 rfl) ?_
  refine p_Hl_16 hx hb hT hown hK hP hD hS 0 rfl rfl d_Hl_keepHi_2 (fun H locs (hP : va_P D vwCl (wH qh (upd hq 0 a0)) H) (hD : va_D A (wH qh (upd hq 0 a0))) hS => ?_)
  refine lv_aload_n hx hb d_Hl_keepHi_5 rfl (lv_at hl 0 rfl) ?_
  refine lv_iconst (v := 1) hx hb d_Hl_keepHi_6 (by decide) ?_
  refine p_Hl_7 hx hb hT hown hK hP hD hS 0 rfl rfl (Or.inr rfl) d_Hl_keepHi_7 (fun H locs (hP : va_P D vwCl (wH qh (upd (upd hq 0 a0) 2 (1 : Int32))) H) (hD : va_D A (wH qh (upd (upd hq 0 a0) 2 (1 : Int32)))) hS => ?_)
  exact W.vret hx hb hr (fun t ht hW => ⟨⟨(upd (upd hq 0 a0) 2 (1 : Int32)), rfl, h, by rw [ht]; exact hP, hD⟩, hS.F ht⟩) hS.2.2 d_Hl_keepHi_10
def wp_Hl_keepLo (hq : Nat → Int32) (a0 : Int32) (P : ((Nat → Int32)) → Prop) : Prop := P (upd (upd hq 1 a0) 3 (1 : Int32))
abbrev rm_Hl_keepLo : Room := { frames := 0, cells := 0, slots := 0, locals := 0 }
set_option maxHeartbeats 4000000 in
set_option maxRecDepth 100000 in
theorem c_Hl_keepLo (l : Launch) (D : va_G) (cI : ClassId) (qh : Nat) (hq : Nat → Int32) (a0 : Int32) (P : ((Nat → Int32)) → Prop) (h : wp_Hl_keepLo hq a0 P) (sz : Nat) : Met l y_Hl_keepLo (zz_ws y_Hl_keepLo b_Hl_keepLo 2 none) rm_Hl_keepLo (va_Pc [.ref qh, .int a0] (zz_pw D [(cI, .int)] (wH qh hq) sz)) (va_Qv P (zz_qw D (fun u => wH qh u) (va_A (wH qh hq) sz)) (va_A (wH qh hq) sz)) 0 0 (va_A (wH qh hq) sz) := by
  refine Met.ofW (cc := b_Hl_keepLo) (maxL := 2) (ret := none) (by decide) rfl ?_
  intro p e s m args below meth c s₁ B hml hv
  obtain ⟨rfl, hsz, hP, hK, hD0⟩ := hv
  have hx := B.exec
  have hb := B.bytes
  have hr := B.returns
  have hts := atoms_spec (ws := (zz_ws y_Hl_keepLo b_Hl_keepLo 2 none)) B.pre
  have hown : s.vm.findClass R_Hl = some m.cls := findClass_of_methodNamed B.named
  have hlocks := B.notSynchronized
  have hT := zz_hts hts
  have X : CallFix p m c b_Hl_keepLo 2 s ([.ref qh, .int a0] : List Value).toArray (zz_ws y_Hl_keepLo b_Hl_keepLo 2 none) R_Hl := ⟨hx, hb, hml, hown, hts⟩
  have hf0 : 0 + 0 ≤ (headSpec (zz_ws y_Hl_keepLo b_Hl_keepLo 2 none) rm_Hl_keepLo).room.cells ∧ 0 + 0 ≤ (headSpec (zz_ws y_Hl_keepLo b_Hl_keepLo 2 none) rm_Hl_keepLo).room.slots := ⟨Nat.le_of_ble_eq_true rfl, Nat.le_of_ble_eq_true rfl⟩
  subst hsz
  have hD := hD0.self (sz := s.heap.size)
  generalize hAe : va_A (wH qh hq) s.heap.size = A at hD ⊢
  have hA : ∀ q : Nat, s.heap.size ≤ q → A q := fun q h => by rw [← hAe]; exact Or.inr h
  have hS : va_S A s.heap s.heap [] := va_S.rf
  have hl := lv_entry ([.ref qh, .int a0]) (n := 2) (Nat.le_of_ble_eq_true rfl)
  rw [lg_entry_eq]
  generalize (lg_sl ([.ref qh, .int a0]) ++ List.replicate (2 - (lg_sl ([.ref qh, .int a0])).length) Slot.unset).toArray = ls at hl ⊢
  have hl : lv_has ls 2 [(0, .ref qh), (1, .int a0)] := hl
  refine lv_aload_n hx hb d_Hl_keepLo_0 rfl (lv_at hl 0 rfl) ?_
  refine lv_iload_n hx hb d_Hl_keepLo_1 rfl (lv_at hl 1 rfl) ?_
  refine p_Hl_20 hx hb hT hown hK hP hD hS 0 rfl rfl d_Hl_keepLo_2 (fun H locs (hP : va_P D vwCl (wH qh (upd hq 1 a0)) H) (hD : va_D A (wH qh (upd hq 1 a0))) hS => ?_)
  refine lv_aload_n hx hb d_Hl_keepLo_5 rfl (lv_at hl 0 rfl) ?_
  refine lv_iconst (v := 1) hx hb d_Hl_keepLo_6 (by decide) ?_
  refine p_Hl_13 hx hb hT hown hK hP hD hS 0 rfl rfl (Or.inr rfl) d_Hl_keepLo_7 (fun H locs (hP : va_P D vwCl (wH qh (upd (upd hq 1 a0) 3 (1 : Int32))) H) (hD : va_D A (wH qh (upd (upd hq 1 a0) 3 (1 : Int32)))) hS => ?_)
  exact W.vret hx hb hr (fun t ht hW => ⟨⟨(upd (upd hq 1 a0) 3 (1 : Int32)), rfl, h, by rw [ht]; exact hP, hD⟩, hS.F ht⟩) hS.2.2 d_Hl_keepLo_10
def wp_Hl_keep (hq : Nat → Int32) (a0 : Int64) (P : ((Nat → Int32)) → Prop) : Prop := ∀ x_1 : Int32, x_1 = (zz_lushr a0 (32 : Int32)).toInt32 → wp_Hl_keepHi hq x_1 (fun u_2 => wp_Hl_keepLo u_2 a0.toInt32 (fun u_4 => P u_4))
abbrev rm_Hl_keep : Room := { frames := 1, cells := 0, slots := 0, locals := 21 }
set_option maxHeartbeats 4000000 in
set_option maxRecDepth 100000 in
theorem c_Hl_keep (l : Launch) (D : va_G) (cI : ClassId) (qh : Nat) (hq : Nat → Int32) (a0 : Int64) (P : ((Nat → Int32)) → Prop) (h : wp_Hl_keep hq a0 P) (sz : Nat) : Met l y_Hl_keep (zz_ws y_Hl_keep b_Hl_keep 3 none) rm_Hl_keep (va_Pc [.ref qh, .long a0] (zz_pw D [(cI, .int)] (wH qh hq) sz)) (va_Qv P (zz_qw D (fun u => wH qh u) (va_A (wH qh hq) sz)) (va_A (wH qh hq) sz)) 0 0 (va_A (wH qh hq) sz) := by
  refine Met.ofW (cc := b_Hl_keep) (maxL := 3) (ret := none) (by decide) rfl ?_
  intro p e s m args below meth c s₁ B hml hv
  obtain ⟨rfl, hsz, hP, hK, hD0⟩ := hv
  have hx := B.exec
  have hb := B.bytes
  have hr := B.returns
  have hts := atoms_spec (ws := (zz_ws y_Hl_keep b_Hl_keep 3 none)) B.pre
  have hown : s.vm.findClass R_Hl = some m.cls := findClass_of_methodNamed B.named
  have hlocks := B.notSynchronized
  have hT := zz_hts hts
  have X : CallFix p m c b_Hl_keep 3 s ([.ref qh, .long a0] : List Value).toArray (zz_ws y_Hl_keep b_Hl_keep 3 none) R_Hl := ⟨hx, hb, hml, hown, hts⟩
  have hf0 : 0 + 0 ≤ (headSpec (zz_ws y_Hl_keep b_Hl_keep 3 none) rm_Hl_keep).room.cells ∧ 0 + 0 ≤ (headSpec (zz_ws y_Hl_keep b_Hl_keep 3 none) rm_Hl_keep).room.slots := ⟨Nat.le_of_ble_eq_true rfl, Nat.le_of_ble_eq_true rfl⟩
  subst hsz
  have hD := hD0.self (sz := s.heap.size)
  generalize hAe : va_A (wH qh hq) s.heap.size = A at hD ⊢
  have hA : ∀ q : Nat, s.heap.size ≤ q → A q := fun q h => by rw [← hAe]; exact Or.inr h
  have hS : va_S A s.heap s.heap [] := va_S.rf
  have hl := lv_entry ([.ref qh, .long a0]) (n := 3) (Nat.le_of_ble_eq_true rfl)
  rw [lg_entry_eq]
  generalize (lg_sl ([.ref qh, .long a0]) ++ List.replicate (3 - (lg_sl ([.ref qh, .long a0])).length) Slot.unset).toArray = ls at hl ⊢
  have hl : lv_has ls 3 [(0, .ref qh), (1, .long a0)] := hl
  refine lv_aload_n hx hb d_Hl_keep_0 rfl (lv_at hl 0 rfl) ?_
  refine lv_lload_n hx hb d_Hl_keep_1 rfl (lv_at hl 1 rfl) ?_
  refine lv_bipush (v := 32) hx hb d_Hl_keep_2 (by decide) ?_
  refine zz_llushr hx hb d_Hl_keep_4 ?_
  refine lv_l2i (v := (zz_lushr a0 (32 : Int32)).toInt32) hx hb d_Hl_keep_5 rfl ?_
  refine lv_topi (fun x_1 ex_1 => ?_)
  have h := h x_1 ex_1
  refine zz_Wv (As := [.int x_1]) (rest := []) (wc := wH qh hq) (wr := []) X hK hP hD hS hA (c_Hl_keepHi l D cI qh hq x_1 _ h _) ⟨rfl, rfl⟩ m_Hl_keepHi k_Hl_23 ⟨Nat.le_of_ble_eq_true rfl, Nat.le_of_ble_eq_true rfl⟩ [0] [] rfl rfl (by decide) (by decide) (by decide) 2 0 rfl rfl rfl rfl hl.1 rfl (Nat.le_of_ble_eq_true rfl) d_Hl_keep_6 hf0 (fun u_2 H locs h hP hD hS => ?_)
  have hP : va_P D vwCl (wH qh u_2) H := hP.sub [0] rfl
  have hD : va_D A (wH qh u_2) := hD.sub [0] (by decide) rfl
  refine lv_aload_n hx hb d_Hl_keep_9 rfl (lv_at hl 0 rfl) ?_
  refine lv_lload_n hx hb d_Hl_keep_10 rfl (lv_at hl 1 rfl) ?_
  refine lv_l2i (v := a0.toInt32) hx hb d_Hl_keep_11 rfl ?_
  refine zz_Wv (As := [.int a0.toInt32]) (rest := []) (wc := wH qh u_2) (wr := []) X hK hP hD hS hA (c_Hl_keepLo l D cI qh u_2 a0.toInt32 _ h _) ⟨rfl, rfl⟩ m_Hl_keepLo k_Hl_27 ⟨Nat.le_of_ble_eq_true rfl, Nat.le_of_ble_eq_true rfl⟩ [0] [] rfl rfl (by decide) (by decide) (by decide) 2 0 rfl rfl rfl rfl hl.1 rfl (Nat.le_of_ble_eq_true rfl) d_Hl_keep_12 hf0 (fun u_4 H locs h hP hD hS => ?_)
  have hP : va_P D vwCl (wH qh u_4) H := hP.sub [0] rfl
  have hD : va_D A (wH qh u_4) := hD.sub [0] (by decide) rfl
  exact W.vret hx hb hr (fun t ht hW => ⟨⟨u_4, rfl, h, by rw [ht]; exact hP, hD⟩, hS.F ht⟩) hS.2.2 d_Hl_keep_15
def wp_Hl_forget (hq : Nat → Int32) (P : ((Nat → Int32)) → Prop) : Prop := P (upd (upd (upd (upd hq 0 (0 : Int32)) 1 (0 : Int32)) 2 (0 : Int32)) 3 (0 : Int32))
abbrev rm_Hl_forget : Room := { frames := 0, cells := 0, slots := 0, locals := 0 }
set_option maxHeartbeats 4000000 in
set_option maxRecDepth 100000 in
theorem c_Hl_forget (l : Launch) (D : va_G) (cI : ClassId) (qh : Nat) (hq : Nat → Int32) (P : ((Nat → Int32)) → Prop) (h : wp_Hl_forget hq P) (sz : Nat) : Met l y_Hl_forget (zz_ws y_Hl_forget b_Hl_forget 1 none) rm_Hl_forget (va_Pc [.ref qh] (zz_pw D [(cI, .int)] (wH qh hq) sz)) (va_Qv P (zz_qw D (fun u => wH qh u) (va_A (wH qh hq) sz)) (va_A (wH qh hq) sz)) 0 0 (va_A (wH qh hq) sz) := by
  refine Met.ofW (cc := b_Hl_forget) (maxL := 1) (ret := none) (by decide) rfl ?_
  intro p e s m args below meth c s₁ B hml hv
  obtain ⟨rfl, hsz, hP, hK, hD0⟩ := hv
  have hx := B.exec
  have hb := B.bytes
  have hr := B.returns
  have hts := atoms_spec (ws := (zz_ws y_Hl_forget b_Hl_forget 1 none)) B.pre
  have hown : s.vm.findClass R_Hl = some m.cls := findClass_of_methodNamed B.named
  have hlocks := B.notSynchronized
  have hT := zz_hts hts
  have X : CallFix p m c b_Hl_forget 1 s ([.ref qh] : List Value).toArray (zz_ws y_Hl_forget b_Hl_forget 1 none) R_Hl := ⟨hx, hb, hml, hown, hts⟩
  have hf0 : 0 + 0 ≤ (headSpec (zz_ws y_Hl_forget b_Hl_forget 1 none) rm_Hl_forget).room.cells ∧ 0 + 0 ≤ (headSpec (zz_ws y_Hl_forget b_Hl_forget 1 none) rm_Hl_forget).room.slots := ⟨Nat.le_of_ble_eq_true rfl, Nat.le_of_ble_eq_true rfl⟩
  subst hsz
  have hD := hD0.self (sz := s.heap.size)
  generalize hAe : va_A (wH qh hq) s.heap.size = A at hD ⊢
  have hA : ∀ q : Nat, s.heap.size ≤ q → A q := fun q h => by rw [← hAe]; exact Or.inr h
  have hS : va_S A s.heap s.heap [] := va_S.rf
  have hl := lv_entry ([.ref qh]) (n := 1) (Nat.le_of_ble_eq_true rfl)
  rw [lg_entry_eq]
  generalize (lg_sl ([.ref qh]) ++ List.replicate (1 - (lg_sl ([.ref qh])).length) Slot.unset).toArray = ls at hl ⊢
  have hl : lv_has ls 1 [(0, .ref qh)] := hl
  refine lv_aload_n hx hb d_Hl_forget_0 rfl (lv_at hl 0 rfl) ?_
  refine lv_iconst (v := 0) hx hb d_Hl_forget_1 (by decide) ?_
  refine p_Hl_16 hx hb hT hown hK hP hD hS 0 rfl rfl d_Hl_forget_2 (fun H locs (hP : va_P D vwCl (wH qh (upd hq 0 (0 : Int32))) H) (hD : va_D A (wH qh (upd hq 0 (0 : Int32)))) hS => ?_)
  refine lv_aload_n hx hb d_Hl_forget_5 rfl (lv_at hl 0 rfl) ?_
  refine lv_iconst (v := 0) hx hb d_Hl_forget_6 (by decide) ?_
  refine p_Hl_20 hx hb hT hown hK hP hD hS 0 rfl rfl d_Hl_forget_7 (fun H locs (hP : va_P D vwCl (wH qh (upd (upd hq 0 (0 : Int32)) 1 (0 : Int32))) H) (hD : va_D A (wH qh (upd (upd hq 0 (0 : Int32)) 1 (0 : Int32)))) hS => ?_)
  refine lv_aload_n hx hb d_Hl_forget_10 rfl (lv_at hl 0 rfl) ?_
  refine lv_iconst (v := 0) hx hb d_Hl_forget_11 (by decide) ?_
  refine p_Hl_7 hx hb hT hown hK hP hD hS 0 rfl rfl (Or.inl rfl) d_Hl_forget_12 (fun H locs (hP : va_P D vwCl (wH qh (upd (upd (upd hq 0 (0 : Int32)) 1 (0 : Int32)) 2 (0 : Int32))) H) (hD : va_D A (wH qh (upd (upd (upd hq 0 (0 : Int32)) 1 (0 : Int32)) 2 (0 : Int32)))) hS => ?_)
  refine lv_aload_n hx hb d_Hl_forget_15 rfl (lv_at hl 0 rfl) ?_
  refine lv_iconst (v := 0) hx hb d_Hl_forget_16 (by decide) ?_
  refine p_Hl_13 hx hb hT hown hK hP hD hS 0 rfl rfl (Or.inl rfl) d_Hl_forget_17 (fun H locs (hP : va_P D vwCl (wH qh (upd (upd (upd (upd hq 0 (0 : Int32)) 1 (0 : Int32)) 2 (0 : Int32)) 3 (0 : Int32))) H) (hD : va_D A (wH qh (upd (upd (upd (upd hq 0 (0 : Int32)) 1 (0 : Int32)) 2 (0 : Int32)) 3 (0 : Int32)))) hS => ?_)
  exact W.vret hx hb hr (fun t ht hW => ⟨⟨(upd (upd (upd (upd hq 0 (0 : Int32)) 1 (0 : Int32)) 2 (0 : Int32)) 3 (0 : Int32)), rfl, h, by rw [ht]; exact hP, hD⟩, hS.F ht⟩) hS.2.2 d_Hl_forget_20
def wp_Hl_divide (hq : Nat → Int32) (a0 : Int64) (a1 : Int64) (P : ((Nat → Int32)) → Prop) : Prop := ((a1 = (0 : Int64) → wp_Hl_forget hq (fun u_6 => P u_6)) ∧ (¬ a1 = (0 : Int64) → ¬ a1 = 0 ∧ wp_Hl_keepHi hq ((a0 - a0 / a1 * a1).toInt32) (fun u_2 => ¬ a1 = 0 ∧ wp_Hl_keepLo u_2 ((a0 / a1).toInt32) (fun u_4 => P u_4))))
abbrev rm_Hl_divide : Room := { frames := 1, cells := 0, slots := 0, locals := 21 }
set_option maxHeartbeats 4000000 in
set_option maxRecDepth 100000 in
theorem c_Hl_divide (l : Launch) (D : va_G) (cI : ClassId) (qh : Nat) (hq : Nat → Int32) (a0 : Int64) (a1 : Int64) (P : ((Nat → Int32)) → Prop) (h : wp_Hl_divide hq a0 a1 P) (sz : Nat) : Met l y_Hl_divide (zz_ws y_Hl_divide b_Hl_divide 5 none) rm_Hl_divide (va_Pc [.ref qh, .long a0, .long a1] (zz_pw D [(cI, .int)] (wH qh hq) sz)) (va_Qv P (zz_qw D (fun u => wH qh u) (va_A (wH qh hq) sz)) (va_A (wH qh hq) sz)) 0 0 (va_A (wH qh hq) sz) := by
  refine Met.ofW (cc := b_Hl_divide) (maxL := 5) (ret := none) (by decide) rfl ?_
  intro p e s m args below meth c s₁ B hml hv
  obtain ⟨rfl, hsz, hP, hK, hD0⟩ := hv
  have hx := B.exec
  have hb := B.bytes
  have hr := B.returns
  have hts := atoms_spec (ws := (zz_ws y_Hl_divide b_Hl_divide 5 none)) B.pre
  have hown : s.vm.findClass R_Hl = some m.cls := findClass_of_methodNamed B.named
  have hlocks := B.notSynchronized
  have hT := zz_hts hts
  have X : CallFix p m c b_Hl_divide 5 s ([.ref qh, .long a0, .long a1] : List Value).toArray (zz_ws y_Hl_divide b_Hl_divide 5 none) R_Hl := ⟨hx, hb, hml, hown, hts⟩
  have hf0 : 0 + 0 ≤ (headSpec (zz_ws y_Hl_divide b_Hl_divide 5 none) rm_Hl_divide).room.cells ∧ 0 + 0 ≤ (headSpec (zz_ws y_Hl_divide b_Hl_divide 5 none) rm_Hl_divide).room.slots := ⟨Nat.le_of_ble_eq_true rfl, Nat.le_of_ble_eq_true rfl⟩
  subst hsz
  have hD := hD0.self (sz := s.heap.size)
  generalize hAe : va_A (wH qh hq) s.heap.size = A at hD ⊢
  have hA : ∀ q : Nat, s.heap.size ≤ q → A q := fun q h => by rw [← hAe]; exact Or.inr h
  have hS : va_S A s.heap s.heap [] := va_S.rf
  have hl := lv_entry ([.ref qh, .long a0, .long a1]) (n := 5) (Nat.le_of_ble_eq_true rfl)
  rw [lg_entry_eq]
  generalize (lg_sl ([.ref qh, .long a0, .long a1]) ++ List.replicate (5 - (lg_sl ([.ref qh, .long a0, .long a1])).length) Slot.unset).toArray = ls at hl ⊢
  have hl : lv_has ls 5 [(0, .ref qh), (1, .long a0), (3, .long a1)] := hl
  refine lv_lload_n hx hb d_Hl_divide_0 rfl (lv_at hl 2 rfl) ?_
  refine lv_lconst (v := 0) hx hb d_Hl_divide_1 (by decide) ?_
  refine W.lcmp hx hb d_Hl_divide_2 ?_
  refine lv_if_ne (tgt := 13) hx hb d_Hl_divide_3 (by decide) (fun c_1 => ?_) (fun c_1 => ?_)
  · have kc_1 := (fun q => c_1 ((lg_cmp_eq _ _).mpr q))
    have h := h.2 kc_1
    refine lv_aload_n hx hb d_Hl_divide_13 rfl (lv_at hl 0 rfl) ?_
    refine lv_lload_n hx hb d_Hl_divide_14 rfl (lv_at hl 1 rfl) ?_
    refine lv_lload_n hx hb d_Hl_divide_15 rfl (lv_at hl 2 rfl) ?_
    refine lv_lrem hx hb d_Hl_divide_16 h.1 ?_
    have h := h.2
    refine lv_l2i (v := (a0 - a0 / a1 * a1).toInt32) hx hb d_Hl_divide_17 rfl ?_
    refine zz_Wv (As := [.int (a0 - a0 / a1 * a1).toInt32]) (rest := []) (wc := wH qh hq) (wr := []) X hK hP hD hS hA (c_Hl_keepHi l D cI qh hq ((a0 - a0 / a1 * a1).toInt32) _ h _) ⟨rfl, rfl⟩ m_Hl_keepHi k_Hl_23 ⟨Nat.le_of_ble_eq_true rfl, Nat.le_of_ble_eq_true rfl⟩ [0] [] rfl rfl (by decide) (by decide) (by decide) 2 0 rfl rfl rfl rfl hl.1 rfl (Nat.le_of_ble_eq_true rfl) d_Hl_divide_18 hf0 (fun u_2 H locs h hP hD hS => ?_)
    have hP : va_P D vwCl (wH qh u_2) H := hP.sub [0] rfl
    have hD : va_D A (wH qh u_2) := hD.sub [0] (by decide) rfl
    refine lv_aload_n hx hb d_Hl_divide_21 rfl (lv_at hl 0 rfl) ?_
    refine lv_lload_n hx hb d_Hl_divide_22 rfl (lv_at hl 1 rfl) ?_
    refine lv_lload_n hx hb d_Hl_divide_23 rfl (lv_at hl 2 rfl) ?_
    refine lv_ldiv hx hb d_Hl_divide_24 h.1 ?_
    have h := h.2
    refine lv_l2i (v := (a0 / a1).toInt32) hx hb d_Hl_divide_25 rfl ?_
    refine zz_Wv (As := [.int (a0 / a1).toInt32]) (rest := []) (wc := wH qh u_2) (wr := []) X hK hP hD hS hA (c_Hl_keepLo l D cI qh u_2 ((a0 / a1).toInt32) _ h _) ⟨rfl, rfl⟩ m_Hl_keepLo k_Hl_27 ⟨Nat.le_of_ble_eq_true rfl, Nat.le_of_ble_eq_true rfl⟩ [0] [] rfl rfl (by decide) (by decide) (by decide) 2 0 rfl rfl rfl rfl hl.1 rfl (Nat.le_of_ble_eq_true rfl) d_Hl_divide_26 hf0 (fun u_4 H locs h hP hD hS => ?_)
    have hP : va_P D vwCl (wH qh u_4) H := hP.sub [0] rfl
    have hD : va_D A (wH qh u_4) := hD.sub [0] (by decide) rfl
    exact W.vret hx hb hr (fun t ht hW => ⟨⟨u_4, rfl, h, by rw [ht]; exact hP, hD⟩, hS.F ht⟩) hS.2.2 d_Hl_divide_29
  · have kc_1 := ((lg_cmp_eq _ _).mp c_1)
    have h := h.1 kc_1
    refine lv_aload_n hx hb d_Hl_divide_6 rfl (lv_at hl 0 rfl) ?_
    refine zz_Wv (As := []) (rest := []) (wc := wH qh hq) (wr := []) X hK hP hD hS hA (c_Hl_forget l D cI qh hq _ h _) ⟨rfl, rfl⟩ m_Hl_forget k_Hl_32 ⟨Nat.le_of_ble_eq_true rfl, Nat.le_of_ble_eq_true rfl⟩ [0] [] rfl rfl (by decide) (by decide) (by decide) 2 0 rfl rfl rfl rfl hl.1 rfl (Nat.le_of_ble_eq_true rfl) d_Hl_divide_7 hf0 (fun u_6 H locs h hP hD hS => ?_)
    have hP : va_P D vwCl (wH qh u_6) H := hP.sub [0] rfl
    have hD : va_D A (wH qh u_6) := hD.sub [0] (by decide) rfl
    refine lv_goto (tgt := 29) hx hb d_Hl_divide_10 (by decide) ?_
    exact W.vret hx hb hr (fun t ht hW => ⟨⟨u_6, rfl, h, by rw [ht]; exact hP, hD⟩, hS.F ht⟩) hS.2.2 d_Hl_divide_29
def wp_Hl_both (hq : Nat → Int32) (P : Int64 → Prop) : Prop := ∀ x_1 : Int64, x_1 = (zz_lshl ((hq 0).toInt64) (32 : Int32)) → ∀ x_2 : Int64, x_2 = ((hq 1).toInt64 &&& (4294967295 : Int64)) → P (x_1 ||| x_2)
abbrev rm_Hl_both : Room := { frames := 0, cells := 0, slots := 0, locals := 0 }
set_option maxHeartbeats 4000000 in
set_option maxRecDepth 100000 in
theorem c_Hl_both (l : Launch) (D : va_G) (cI : ClassId) (qh : Nat) (hq : Nat → Int32) (P : Int64 → Prop) (h : wp_Hl_both hq P) : Met l y_Hl_both (zz_ws y_Hl_both b_Hl_both 1 (some .long)) rm_Hl_both (va_Pc [.ref qh] (zz_pr D [(cI, .int)] (wH qh hq))) (vp_Sl P) 0 0 (fun _ => False) := by
  refine Met.ofW (cc := b_Hl_both) (maxL := 1) (ret := (some .long)) (by decide) rfl ?_
  intro p e s m args below meth c s₁ B hml hv
  obtain ⟨rfl, hP, hK⟩ := hv
  have hx := B.exec
  have hb := B.bytes
  have hr := B.returns
  have hts := atoms_spec (ws := (zz_ws y_Hl_both b_Hl_both 1 (some .long))) B.pre
  have hown : s.vm.findClass R_Hl = some m.cls := findClass_of_methodNamed B.named
  have hlocks := B.notSynchronized
  have hT := zz_hts hts
  have X : CallFix p m c b_Hl_both 1 s ([.ref qh] : List Value).toArray (zz_ws y_Hl_both b_Hl_both 1 (some .long)) R_Hl := ⟨hx, hb, hml, hown, hts⟩
  have hf0 : 0 + 0 ≤ (headSpec (zz_ws y_Hl_both b_Hl_both 1 (some .long)) rm_Hl_both).room.cells ∧ 0 + 0 ≤ (headSpec (zz_ws y_Hl_both b_Hl_both 1 (some .long)) rm_Hl_both).room.slots := ⟨Nat.le_of_ble_eq_true rfl, Nat.le_of_ble_eq_true rfl⟩
  have hl := lv_entry ([.ref qh]) (n := 1) (Nat.le_of_ble_eq_true rfl)
  rw [lg_entry_eq]
  generalize (lg_sl ([.ref qh]) ++ List.replicate (1 - (lg_sl ([.ref qh])).length) Slot.unset).toArray = ls at hl ⊢
  have hl : lv_has ls 1 [(0, .ref qh)] := hl
  refine lv_aload_n hx hb d_Hl_both_0 rfl (lv_at hl 0 rfl) ?_
  refine g_Hl_16 (v := .int (hq 0)) hx hb hT hown hK hP 0 rfl rfl d_Hl_both_1 ?_
  refine lv_i2l (v := (hq 0).toInt64) hx hb d_Hl_both_4 rfl ?_
  refine lv_bipush (v := 32) hx hb d_Hl_both_5 (by decide) ?_
  refine zz_llshl hx hb d_Hl_both_7 ?_
  refine lv_topl (fun x_1 ex_1 => ?_)
  have h := h x_1 ex_1
  refine lv_aload_n hx hb d_Hl_both_8 rfl (lv_at hl 0 rfl) ?_
  refine g_Hl_20 (v := .int (hq 1)) hx hb hT hown hK hP 0 rfl rfl d_Hl_both_9 ?_
  refine lv_i2l (v := (hq 1).toInt64) hx hb d_Hl_both_12 rfl ?_
  refine lv_ldc2 (v := 4294967295) hx hb hown (hT _ n_Hl_30) d_Hl_both_13 ?_
  refine lv_land hx hb d_Hl_both_16 ?_
  refine lv_topl (fun x_2 ex_2 => ?_)
  have h := h x_2 ex_2
  refine lv_lor hx hb d_Hl_both_17 ?_
  exact W.lret (v := (x_1 ||| x_2)) hx hb hr (fun t ht hW => ⟨(x_1 ||| x_2),  rfl, h, ht⟩) t_nil d_Hl_both_18
def wp_Hl_known (hq : Nat → Int32) (P : Int32 → Prop) : Prop := (((hq 2) = (0 : Int32) → P (0 : Int32)) ∧ (¬ (hq 2) = (0 : Int32) → (((hq 3) = (0 : Int32) → P (0 : Int32)) ∧ (¬ (hq 3) = (0 : Int32) → P (1 : Int32)))))
abbrev rm_Hl_known : Room := { frames := 0, cells := 0, slots := 0, locals := 0 }
set_option maxHeartbeats 4000000 in
set_option maxRecDepth 100000 in
theorem c_Hl_known (l : Launch) (D : va_G) (cI : ClassId) (qh : Nat) (hq : Nat → Int32) (P : Int32 → Prop) (h : wp_Hl_known hq P) : Met l y_Hl_known (zz_ws y_Hl_known b_Hl_known 1 (some .boolean)) rm_Hl_known (va_Pc [.ref qh] (zz_pr D [(cI, .int)] (wH qh hq))) (vp_Si P) 0 0 (fun _ => False) := by
  refine Met.ofW (cc := b_Hl_known) (maxL := 1) (ret := (some .boolean)) (by decide) rfl ?_
  intro p e s m args below meth c s₁ B hml hv
  obtain ⟨rfl, hP, hK⟩ := hv
  have hx := B.exec
  have hb := B.bytes
  have hr := B.returns
  have hts := atoms_spec (ws := (zz_ws y_Hl_known b_Hl_known 1 (some .boolean))) B.pre
  have hown : s.vm.findClass R_Hl = some m.cls := findClass_of_methodNamed B.named
  have hlocks := B.notSynchronized
  have hT := zz_hts hts
  have X : CallFix p m c b_Hl_known 1 s ([.ref qh] : List Value).toArray (zz_ws y_Hl_known b_Hl_known 1 (some .boolean)) R_Hl := ⟨hx, hb, hml, hown, hts⟩
  have hf0 : 0 + 0 ≤ (headSpec (zz_ws y_Hl_known b_Hl_known 1 (some .boolean)) rm_Hl_known).room.cells ∧ 0 + 0 ≤ (headSpec (zz_ws y_Hl_known b_Hl_known 1 (some .boolean)) rm_Hl_known).room.slots := ⟨Nat.le_of_ble_eq_true rfl, Nat.le_of_ble_eq_true rfl⟩
  have hl := lv_entry ([.ref qh]) (n := 1) (Nat.le_of_ble_eq_true rfl)
  rw [lg_entry_eq]
  generalize (lg_sl ([.ref qh]) ++ List.replicate (1 - (lg_sl ([.ref qh])).length) Slot.unset).toArray = ls at hl ⊢
  have hl : lv_has ls 1 [(0, .ref qh)] := hl
  refine lv_aload_n hx hb d_Hl_known_0 rfl (lv_at hl 0 rfl) ?_
  refine g_Hl_7 (v := .int (hq 2)) hx hb hT hown hK hP 0 rfl rfl d_Hl_known_1 ?_
  refine lv_if_eq (tgt := 18) hx hb d_Hl_known_4 (by decide) (fun c_1 => ?_) (fun c_1 => ?_)
  · skip
    have h := h.1 c_1
    refine lv_iconst (v := 0) hx hb d_Hl_known_18 (by decide) ?_
    exact W.zret (v := (0 : Int32)) hx hb hr (zz_bz_n (Or.inl rfl)) (fun t ht hW => ⟨(0 : Int32),  rfl, h, ht⟩) t_nil d_Hl_known_19
  · skip
    have h := h.2 c_1
    refine lv_aload_n hx hb d_Hl_known_7 rfl (lv_at hl 0 rfl) ?_
    refine g_Hl_13 (v := .int (hq 3)) hx hb hT hown hK hP 0 rfl rfl d_Hl_known_8 ?_
    refine lv_if_eq (tgt := 18) hx hb d_Hl_known_11 (by decide) (fun c_2 => ?_) (fun c_2 => ?_)
    · skip
      have h := h.1 c_2
      refine lv_iconst (v := 0) hx hb d_Hl_known_18 (by decide) ?_
      exact W.zret (v := (0 : Int32)) hx hb hr (zz_bz_n (Or.inl rfl)) (fun t ht hW => ⟨(0 : Int32),  rfl, h, ht⟩) t_nil d_Hl_known_19
    · skip
      have h := h.2 c_2
      refine lv_iconst (v := 1) hx hb d_Hl_known_14 (by decide) ?_
      refine lv_goto (tgt := 19) hx hb d_Hl_known_15 (by decide) ?_
      exact W.zret (v := (1 : Int32)) hx hb hr (zz_bz_n (Or.inr rfl)) (fun t ht hW => ⟨(1 : Int32),  rfl, h, ht⟩) t_nil d_Hl_known_19
def wp_Me_shift (a0 : Int32) (a1 : Int32) (P : Int32 → Prop) : Prop := ∀ x_1 : Int32, x_1 = (((4 : Int32) - a1) - (a0 &&& (3 : Int32))) → P (x_1 * (8 : Int32))
abbrev rm_Me_shift : Room := { frames := 0, cells := 0, slots := 0, locals := 0 }
set_option maxHeartbeats 4000000 in
set_option maxRecDepth 100000 in
theorem c_Me_shift (l : Launch) (a0 : Int32) (a1 : Int32) (P : Int32 → Prop) (h : wp_Me_shift a0 a1 P) : Met l y_Me_shift (zz_ws y_Me_shift b_Me_shift 2 (some .int)) rm_Me_shift (fun v _ => v = ([.int a0, .int a1] : List Value).toArray) (vp_Si P) 0 0 (fun _ => False) := by
  refine Met.ofW (cc := b_Me_shift) (maxL := 2) (ret := (some .int)) (by decide) rfl ?_
  intro p e s m args below meth c s₁ B hml hv
  subst hv
  have hx := B.exec
  have hb := B.bytes
  have hr := B.returns
  have hts := atoms_spec (ws := (zz_ws y_Me_shift b_Me_shift 2 (some .int))) B.pre
  have hown : s.vm.findClass R_Me = some m.cls := findClass_of_methodNamed B.named
  have hlocks := B.notSynchronized
  have hT := zz_hts hts
  have X : CallFix p m c b_Me_shift 2 s ([.int a0, .int a1] : List Value).toArray (zz_ws y_Me_shift b_Me_shift 2 (some .int)) R_Me := ⟨hx, hb, hml, hown, hts⟩
  have hf0 : 0 + 0 ≤ (headSpec (zz_ws y_Me_shift b_Me_shift 2 (some .int)) rm_Me_shift).room.cells ∧ 0 + 0 ≤ (headSpec (zz_ws y_Me_shift b_Me_shift 2 (some .int)) rm_Me_shift).room.slots := ⟨Nat.le_of_ble_eq_true rfl, Nat.le_of_ble_eq_true rfl⟩
  have hl := lv_entry ([.int a0, .int a1]) (n := 2) (Nat.le_of_ble_eq_true rfl)
  rw [lg_entry_eq]
  generalize (lg_sl ([.int a0, .int a1]) ++ List.replicate (2 - (lg_sl ([.int a0, .int a1])).length) Slot.unset).toArray = ls at hl ⊢
  have hl : lv_has ls 2 [(0, .int a0), (1, .int a1)] := hl
  refine lv_iconst (v := 4) hx hb d_Me_shift_0 (by decide) ?_
  refine lv_iload_n hx hb d_Me_shift_1 rfl (lv_at hl 1 rfl) ?_
  refine lv_isub hx hb d_Me_shift_2 ?_
  refine lv_iload_n hx hb d_Me_shift_3 rfl (lv_at hl 0 rfl) ?_
  refine lv_iconst (v := 3) hx hb d_Me_shift_4 (by decide) ?_
  refine lv_iand hx hb d_Me_shift_5 ?_
  refine lv_isub hx hb d_Me_shift_6 ?_
  refine lv_topi (fun x_1 ex_1 => ?_)
  have h := h x_1 ex_1
  refine lv_bipush (v := 8) hx hb d_Me_shift_7 (by decide) ?_
  refine lv_imul hx hb d_Me_shift_9 ?_
  exact W.iret (v := (x_1 * (8 : Int32))) hx hb hr (fun t ht hW => ⟨(x_1 * (8 : Int32)),  rfl, h, ht⟩) t_nil d_Me_shift_10
def wp_Me_mask (a0 : Int32) (P : Int32 → Prop) : Prop := ∀ x_1 : Int32, x_1 = (((4 : Int32) - a0) * (8 : Int32)) → P (zz_ushr (-1 : Int32) x_1)
abbrev rm_Me_mask : Room := { frames := 0, cells := 0, slots := 0, locals := 0 }
set_option maxHeartbeats 4000000 in
set_option maxRecDepth 100000 in
theorem c_Me_mask (l : Launch) (a0 : Int32) (P : Int32 → Prop) (h : wp_Me_mask a0 P) : Met l y_Me_mask (zz_ws y_Me_mask b_Me_mask 1 (some .int)) rm_Me_mask (fun v _ => v = ([.int a0] : List Value).toArray) (vp_Si P) 0 0 (fun _ => False) := by
  refine Met.ofW (cc := b_Me_mask) (maxL := 1) (ret := (some .int)) (by decide) rfl ?_
  intro p e s m args below meth c s₁ B hml hv
  subst hv
  have hx := B.exec
  have hb := B.bytes
  have hr := B.returns
  have hts := atoms_spec (ws := (zz_ws y_Me_mask b_Me_mask 1 (some .int))) B.pre
  have hown : s.vm.findClass R_Me = some m.cls := findClass_of_methodNamed B.named
  have hlocks := B.notSynchronized
  have hT := zz_hts hts
  have X : CallFix p m c b_Me_mask 1 s ([.int a0] : List Value).toArray (zz_ws y_Me_mask b_Me_mask 1 (some .int)) R_Me := ⟨hx, hb, hml, hown, hts⟩
  have hf0 : 0 + 0 ≤ (headSpec (zz_ws y_Me_mask b_Me_mask 1 (some .int)) rm_Me_mask).room.cells ∧ 0 + 0 ≤ (headSpec (zz_ws y_Me_mask b_Me_mask 1 (some .int)) rm_Me_mask).room.slots := ⟨Nat.le_of_ble_eq_true rfl, Nat.le_of_ble_eq_true rfl⟩
  have hl := lv_entry ([.int a0]) (n := 1) (Nat.le_of_ble_eq_true rfl)
  rw [lg_entry_eq]
  generalize (lg_sl ([.int a0]) ++ List.replicate (1 - (lg_sl ([.int a0])).length) Slot.unset).toArray = ls at hl ⊢
  have hl : lv_has ls 1 [(0, .int a0)] := hl
  refine lv_iconst (v := -1) hx hb d_Me_mask_0 (by decide) ?_
  refine lv_iconst (v := 4) hx hb d_Me_mask_1 (by decide) ?_
  refine lv_iload_n hx hb d_Me_mask_2 rfl (lv_at hl 0 rfl) ?_
  refine lv_isub hx hb d_Me_mask_3 ?_
  refine lv_bipush (v := 8) hx hb d_Me_mask_4 (by decide) ?_
  refine lv_imul hx hb d_Me_mask_6 ?_
  refine lv_topi (fun x_1 ex_1 => ?_)
  have h := h x_1 ex_1
  refine zz_iushr hx hb d_Me_mask_7 ?_
  exact W.iret (v := (zz_ushr (-1 : Int32) x_1)) hx hb hr (fun t ht hW => ⟨(zz_ushr (-1 : Int32) x_1),  rfl, h, ht⟩) t_nil d_Me_mask_8
def wp_Me_good (ms : Int32) (mn : Nat) (mf : Nat → Int32) (a0 : Int32) (a1 : Int32) (P : Int32 → Prop) : Prop := ((a0 < (0 : Int32) → P (0 : Int32)) ∧ (¬ a0 < (0 : Int32) → (((ms - a1) < a0 → P (0 : Int32)) ∧ (¬ (ms - a1) < a0 → (((a0 &&& (a1 - (1 : Int32))) = (0 : Int32) → P (1 : Int32)) ∧ (¬ (a0 &&& (a1 - (1 : Int32))) = (0 : Int32) → P (0 : Int32)))))))
abbrev rm_Me_good : Room := { frames := 0, cells := 0, slots := 0, locals := 0 }
set_option maxHeartbeats 4000000 in
set_option maxRecDepth 100000 in
theorem c_Me_good (l : Launch) (D : va_G) (cI : ClassId) (qm : Nat) (qw : Nat) (ms : Int32) (mn : Nat) (mf : Nat → Int32) (a0 : Int32) (a1 : Int32) (P : Int32 → Prop) (h : wp_Me_good ms mn mf a0 a1 P) : Met l y_Me_good (zz_ws y_Me_good b_Me_good 3 (some .boolean)) rm_Me_good (va_Pc [.ref qm, .int a0, .int a1] (zz_pr D [(cI, .int)] (wM qm qw cI ms mn mf))) (vp_Si P) 0 0 (fun _ => False) := by
  refine Met.ofW (cc := b_Me_good) (maxL := 3) (ret := (some .boolean)) (by decide) rfl ?_
  intro p e s m args below meth c s₁ B hml hv
  obtain ⟨rfl, hP, hK⟩ := hv
  have hx := B.exec
  have hb := B.bytes
  have hr := B.returns
  have hts := atoms_spec (ws := (zz_ws y_Me_good b_Me_good 3 (some .boolean))) B.pre
  have hown : s.vm.findClass R_Me = some m.cls := findClass_of_methodNamed B.named
  have hlocks := B.notSynchronized
  have hT := zz_hts hts
  have X : CallFix p m c b_Me_good 3 s ([.ref qm, .int a0, .int a1] : List Value).toArray (zz_ws y_Me_good b_Me_good 3 (some .boolean)) R_Me := ⟨hx, hb, hml, hown, hts⟩
  have hf0 : 0 + 0 ≤ (headSpec (zz_ws y_Me_good b_Me_good 3 (some .boolean)) rm_Me_good).room.cells ∧ 0 + 0 ≤ (headSpec (zz_ws y_Me_good b_Me_good 3 (some .boolean)) rm_Me_good).room.slots := ⟨Nat.le_of_ble_eq_true rfl, Nat.le_of_ble_eq_true rfl⟩
  have hl := lv_entry ([.ref qm, .int a0, .int a1]) (n := 3) (Nat.le_of_ble_eq_true rfl)
  rw [lg_entry_eq]
  generalize (lg_sl ([.ref qm, .int a0, .int a1]) ++ List.replicate (3 - (lg_sl ([.ref qm, .int a0, .int a1])).length) Slot.unset).toArray = ls at hl ⊢
  have hl : lv_has ls 3 [(0, .ref qm), (1, .int a0), (2, .int a1)] := hl
  refine lv_iload_n hx hb d_Me_good_0 rfl (lv_at hl 1 rfl) ?_
  refine lv_if_lt (tgt := 26) hx hb d_Me_good_1 (by decide) (fun c_1 => ?_) (fun c_1 => ?_)
  · skip
    have h := h.1 c_1
    refine lv_iconst (v := 0) hx hb d_Me_good_26 (by decide) ?_
    exact W.zret (v := (0 : Int32)) hx hb hr (zz_bz_n (Or.inl rfl)) (fun t ht hW => ⟨(0 : Int32),  rfl, h, ht⟩) t_nil d_Me_good_27
  · skip
    have h := h.2 c_1
    refine lv_iload_n hx hb d_Me_good_4 rfl (lv_at hl 1 rfl) ?_
    refine lv_aload_n hx hb d_Me_good_5 rfl (lv_at hl 0 rfl) ?_
    refine g_Me_19 (v := .int ms) hx hb hT hown hK hP 0 rfl rfl d_Me_good_6 ?_
    refine lv_iload_n hx hb d_Me_good_9 rfl (lv_at hl 2 rfl) ?_
    refine lv_isub hx hb d_Me_good_10 ?_
    refine lv_icmp_gt (tgt := 26) hx hb d_Me_good_11 (by decide) (fun c_2 => ?_) (fun c_2 => ?_)
    · skip
      have h := h.1 c_2
      refine lv_iconst (v := 0) hx hb d_Me_good_26 (by decide) ?_
      exact W.zret (v := (0 : Int32)) hx hb hr (zz_bz_n (Or.inl rfl)) (fun t ht hW => ⟨(0 : Int32),  rfl, h, ht⟩) t_nil d_Me_good_27
    · skip
      have h := h.2 c_2
      refine lv_iload_n hx hb d_Me_good_14 rfl (lv_at hl 1 rfl) ?_
      refine lv_iload_n hx hb d_Me_good_15 rfl (lv_at hl 2 rfl) ?_
      refine lv_iconst (v := 1) hx hb d_Me_good_16 (by decide) ?_
      refine lv_isub hx hb d_Me_good_17 ?_
      refine lv_iand hx hb d_Me_good_18 ?_
      refine lv_if_ne (tgt := 26) hx hb d_Me_good_19 (by decide) (fun c_3 => ?_) (fun c_3 => ?_)
      · skip
        have h := h.2 c_3
        refine lv_iconst (v := 0) hx hb d_Me_good_26 (by decide) ?_
        exact W.zret (v := (0 : Int32)) hx hb hr (zz_bz_n (Or.inl rfl)) (fun t ht hW => ⟨(0 : Int32),  rfl, h, ht⟩) t_nil d_Me_good_27
      · skip
        have h := h.1 c_3
        refine lv_iconst (v := 1) hx hb d_Me_good_22 (by decide) ?_
        refine lv_goto (tgt := 27) hx hb d_Me_good_23 (by decide) ?_
        exact W.zret (v := (1 : Int32)) hx hb hr (zz_bz_n (Or.inr rfl)) (fun t ht hW => ⟨(1 : Int32),  rfl, h, ht⟩) t_nil d_Me_good_27
def wp_Me_read (ms : Int32) (mn : Nat) (mf : Nat → Int32) (a0 : Int32) (a1 : Int32) (P : Int32 → Prop) : Prop := vp_in (zz_ushr a0 (2 : Int32)) mn ∧ ∀ x_1 : Int32, x_1 = (mf (zz_ushr a0 (2 : Int32)).toNatClampNeg) → wp_Me_shift a0 a1 (fun r_2 => wp_Me_mask a1 (fun r_3 => P ((zz_ushr x_1 r_2) &&& r_3)))
abbrev rm_Me_read : Room := { frames := 1, cells := 0, slots := 0, locals := 21 }
set_option maxHeartbeats 4000000 in
set_option maxRecDepth 100000 in
theorem c_Me_read (l : Launch) (D : va_G) (cI : ClassId) (qm : Nat) (qw : Nat) (ms : Int32) (mn : Nat) (mf : Nat → Int32) (a0 : Int32) (a1 : Int32) (P : Int32 → Prop) (h : wp_Me_read ms mn mf a0 a1 P) : Met l y_Me_read (zz_ws y_Me_read b_Me_read 3 (some .int)) rm_Me_read (va_Pc [.ref qm, .int a0, .int a1] (zz_pr D [(cI, .int)] (wM qm qw cI ms mn mf))) (vp_Si P) 0 0 (fun _ => False) := by
  refine Met.ofW (cc := b_Me_read) (maxL := 3) (ret := (some .int)) (by decide) rfl ?_
  intro p e s m args below meth c s₁ B hml hv
  obtain ⟨rfl, hP, hK⟩ := hv
  have hx := B.exec
  have hb := B.bytes
  have hr := B.returns
  have hts := atoms_spec (ws := (zz_ws y_Me_read b_Me_read 3 (some .int))) B.pre
  have hown : s.vm.findClass R_Me = some m.cls := findClass_of_methodNamed B.named
  have hlocks := B.notSynchronized
  have hT := zz_hts hts
  have X : CallFix p m c b_Me_read 3 s ([.ref qm, .int a0, .int a1] : List Value).toArray (zz_ws y_Me_read b_Me_read 3 (some .int)) R_Me := ⟨hx, hb, hml, hown, hts⟩
  have hf0 : 0 + 0 ≤ (headSpec (zz_ws y_Me_read b_Me_read 3 (some .int)) rm_Me_read).room.cells ∧ 0 + 0 ≤ (headSpec (zz_ws y_Me_read b_Me_read 3 (some .int)) rm_Me_read).room.slots := ⟨Nat.le_of_ble_eq_true rfl, Nat.le_of_ble_eq_true rfl⟩
  have hl := lv_entry ([.ref qm, .int a0, .int a1]) (n := 3) (Nat.le_of_ble_eq_true rfl)
  rw [lg_entry_eq]
  generalize (lg_sl ([.ref qm, .int a0, .int a1]) ++ List.replicate (3 - (lg_sl ([.ref qm, .int a0, .int a1])).length) Slot.unset).toArray = ls at hl ⊢
  have hl : lv_has ls 3 [(0, .ref qm), (1, .int a0), (2, .int a1)] := hl
  refine lv_aload_n hx hb d_Me_read_0 rfl (lv_at hl 0 rfl) ?_
  refine g_Me_23 (v := .ref qw) hx hb hT hown hK hP 0 rfl rfl d_Me_read_1 ?_
  refine lv_iload_n hx hb d_Me_read_4 rfl (lv_at hl 1 rfl) ?_
  refine lv_iconst (v := 2) hx hb d_Me_read_5 (by decide) ?_
  refine zz_iushr hx hb d_Me_read_6 ?_
  refine va_iald (f := mf) hx hb hK hP 1 0 rfl rfl h.1 d_Me_read_7 ?_
  have h := h.2
  refine lv_topi (fun x_1 ex_1 => ?_)
  have h := h x_1 ex_1
  refine lv_iload_n hx hb d_Me_read_8 rfl (lv_at hl 1 rfl) ?_
  refine lv_iload_n hx hb d_Me_read_9 rfl (lv_at hl 2 rfl) ?_
  refine zz_Si (As := [.int a0, .int a1]) (rest := [.int x_1]) X (c_Me_shift l a0 a1 _ h) ⟨rfl, rfl⟩ m_Me_shift k_Me_27 ⟨Nat.le_of_ble_eq_true rfl, Nat.le_of_ble_eq_true rfl⟩ rfl hl.1 rfl (Nat.le_of_ble_eq_true rfl) d_Me_read_10 hf0 (fun r_2 h => ?_)
  refine zz_iushr hx hb d_Me_read_13 ?_
  refine lv_iload_n hx hb d_Me_read_14 rfl (lv_at hl 2 rfl) ?_
  refine zz_Si (As := [.int a1]) (rest := [.int (zz_ushr x_1 r_2)]) X (c_Me_mask l a1 _ h) ⟨rfl, rfl⟩ m_Me_mask k_Me_30 ⟨Nat.le_of_ble_eq_true rfl, Nat.le_of_ble_eq_true rfl⟩ rfl hl.1 rfl (Nat.le_of_ble_eq_true rfl) d_Me_read_15 hf0 (fun r_3 h => ?_)
  refine lv_iand hx hb d_Me_read_18 ?_
  exact W.iret (v := ((zz_ushr x_1 r_2) &&& r_3)) hx hb hr (fun t ht hW => ⟨((zz_ushr x_1 r_2) &&& r_3),  rfl, h, ht⟩) t_nil d_Me_read_19
def wp_Me_write (ms : Int32) (mn : Nat) (mf : Nat → Int32) (a0 : Int32) (a1 : Int32) (a2 : Int32) (P : ((Nat → Int32)) → Prop) : Prop := wp_Me_shift a0 a1 (fun r_1 => vp_in (zz_ushr a0 (2 : Int32)) mn ∧ ∀ x_2 : Int32, x_2 = (mf (zz_ushr a0 (2 : Int32)).toNatClampNeg) → wp_Me_mask a1 (fun r_3 => ∀ x_4 : Int32, x_4 = ((zz_shl r_3 r_1) ^^^ (-1 : Int32)) → ∀ x_5 : Int32, x_5 = (x_2 &&& x_4) → wp_Me_mask a1 (fun r_6 => ∀ x_7 : Int32, x_7 = (x_5 ||| (zz_shl (a2 &&& r_6) r_1)) → vp_in (zz_ushr a0 (2 : Int32)) mn ∧ P (upd mf (zz_ushr a0 (2 : Int32)).toNatClampNeg x_7))))
abbrev rm_Me_write : Room := { frames := 1, cells := 0, slots := 0, locals := 21 }
set_option maxHeartbeats 4000000 in
set_option maxRecDepth 100000 in
theorem c_Me_write (l : Launch) (D : va_G) (cI : ClassId) (qm : Nat) (qw : Nat) (ms : Int32) (mn : Nat) (mf : Nat → Int32) (a0 : Int32) (a1 : Int32) (a2 : Int32) (P : ((Nat → Int32)) → Prop) (h : wp_Me_write ms mn mf a0 a1 a2 P) (sz : Nat) : Met l y_Me_write (zz_ws y_Me_write b_Me_write 6 none) rm_Me_write (va_Pc [.ref qm, .int a0, .int a1, .int a2] (zz_pw D [(cI, .int)] (wM qm qw cI ms mn mf) sz)) (va_Qv P (zz_qw D (fun u => wM qm qw cI ms mn u) (va_A (wM qm qw cI ms mn mf) sz)) (va_A (wM qm qw cI ms mn mf) sz)) 0 0 (va_A (wM qm qw cI ms mn mf) sz) := by
  refine Met.ofW (cc := b_Me_write) (maxL := 6) (ret := none) (by decide) rfl ?_
  intro p e s m args below meth c s₁ B hml hv
  obtain ⟨rfl, hsz, hP, hK, hD0⟩ := hv
  have hx := B.exec
  have hb := B.bytes
  have hr := B.returns
  have hts := atoms_spec (ws := (zz_ws y_Me_write b_Me_write 6 none)) B.pre
  have hown : s.vm.findClass R_Me = some m.cls := findClass_of_methodNamed B.named
  have hlocks := B.notSynchronized
  have hT := zz_hts hts
  have X : CallFix p m c b_Me_write 6 s ([.ref qm, .int a0, .int a1, .int a2] : List Value).toArray (zz_ws y_Me_write b_Me_write 6 none) R_Me := ⟨hx, hb, hml, hown, hts⟩
  have hf0 : 0 + 0 ≤ (headSpec (zz_ws y_Me_write b_Me_write 6 none) rm_Me_write).room.cells ∧ 0 + 0 ≤ (headSpec (zz_ws y_Me_write b_Me_write 6 none) rm_Me_write).room.slots := ⟨Nat.le_of_ble_eq_true rfl, Nat.le_of_ble_eq_true rfl⟩
  subst hsz
  have hD := hD0.self (sz := s.heap.size)
  generalize hAe : va_A (wM qm qw cI ms mn mf) s.heap.size = A at hD ⊢
  have hA : ∀ q : Nat, s.heap.size ≤ q → A q := fun q h => by rw [← hAe]; exact Or.inr h
  have hS : va_S A s.heap s.heap [] := va_S.rf
  have hl := lv_entry ([.ref qm, .int a0, .int a1, .int a2]) (n := 6) (Nat.le_of_ble_eq_true rfl)
  rw [lg_entry_eq]
  generalize (lg_sl ([.ref qm, .int a0, .int a1, .int a2]) ++ List.replicate (6 - (lg_sl ([.ref qm, .int a0, .int a1, .int a2])).length) Slot.unset).toArray = ls at hl ⊢
  have hl : lv_has ls 6 [(0, .ref qm), (1, .int a0), (2, .int a1), (3, .int a2)] := hl
  refine lv_iload_n hx hb d_Me_write_0 rfl (lv_at hl 1 rfl) ?_
  refine lv_iload_n hx hb d_Me_write_1 rfl (lv_at hl 2 rfl) ?_
  refine zz_Si (As := [.int a0, .int a1]) (rest := []) X (c_Me_shift l a0 a1 _ h) ⟨rfl, rfl⟩ m_Me_shift k_Me_27 ⟨Nat.le_of_ble_eq_true rfl, Nat.le_of_ble_eq_true rfl⟩ rfl hl.1 rfl (Nat.le_of_ble_eq_true rfl) d_Me_write_2 hf0 (fun r_1 h => ?_)
  refine lv_istore (lv' := [(4, .int r_1), (0, .ref qm), (1, .int a0), (2, .int a1), (3, .int a2)]) hx hb d_Me_write_5 hl (by decide) rfl (fun ls hl => ?_)
  refine lv_aload_n hx hb d_Me_write_7 rfl (lv_at hl 1 rfl) ?_
  refine g_Me_23 (v := .ref qw) hx hb hT hown hK hP 0 rfl rfl d_Me_write_8 ?_
  refine lv_iload_n hx hb d_Me_write_11 rfl (lv_at hl 2 rfl) ?_
  refine lv_iconst (v := 2) hx hb d_Me_write_12 (by decide) ?_
  refine zz_iushr hx hb d_Me_write_13 ?_
  refine va_iald (f := mf) hx hb hK hP 1 0 rfl rfl h.1 d_Me_write_14 ?_
  have h := h.2
  refine lv_topi (fun x_2 ex_2 => ?_)
  have h := h x_2 ex_2
  refine lv_iload_n hx hb d_Me_write_15 rfl (lv_at hl 3 rfl) ?_
  refine zz_Si (As := [.int a1]) (rest := [.int x_2]) X (c_Me_mask l a1 _ h) ⟨rfl, rfl⟩ m_Me_mask k_Me_30 ⟨Nat.le_of_ble_eq_true rfl, Nat.le_of_ble_eq_true rfl⟩ rfl hl.1 rfl (Nat.le_of_ble_eq_true rfl) d_Me_write_16 hf0 (fun r_3 h => ?_)
  refine lv_iload hx hb d_Me_write_19 (lv_at hl 0 rfl) ?_
  refine zz_ishl hx hb d_Me_write_21 ?_
  refine lv_iconst (v := -1) hx hb d_Me_write_22 (by decide) ?_
  refine lv_ixor hx hb d_Me_write_23 ?_
  refine lv_topi (fun x_4 ex_4 => ?_)
  have h := h x_4 ex_4
  refine lv_iand hx hb d_Me_write_24 ?_
  refine lv_topi (fun x_5 ex_5 => ?_)
  have h := h x_5 ex_5
  refine lv_istore (lv' := [(5, .int x_5), (4, .int r_1), (0, .ref qm), (1, .int a0), (2, .int a1), (3, .int a2)]) hx hb d_Me_write_25 hl (by decide) rfl (fun ls hl => ?_)
  refine lv_aload_n hx hb d_Me_write_27 rfl (lv_at hl 2 rfl) ?_
  refine g_Me_23 (v := .ref qw) hx hb hT hown hK hP 0 rfl rfl d_Me_write_28 ?_
  refine lv_iload_n hx hb d_Me_write_31 rfl (lv_at hl 3 rfl) ?_
  refine lv_iconst (v := 2) hx hb d_Me_write_32 (by decide) ?_
  refine zz_iushr hx hb d_Me_write_33 ?_
  refine lv_iload hx hb d_Me_write_34 (lv_at hl 0 rfl) ?_
  refine lv_iload_n hx hb d_Me_write_36 rfl (lv_at hl 5 rfl) ?_
  refine lv_iload_n hx hb d_Me_write_37 rfl (lv_at hl 4 rfl) ?_
  refine zz_Si (As := [.int a1]) (rest := [.int a2, .int x_5, .int (zz_ushr a0 (2 : Int32)), .ref qw]) X (c_Me_mask l a1 _ h) ⟨rfl, rfl⟩ m_Me_mask k_Me_30 ⟨Nat.le_of_ble_eq_true rfl, Nat.le_of_ble_eq_true rfl⟩ rfl hl.1 rfl (Nat.le_of_ble_eq_true rfl) d_Me_write_38 hf0 (fun r_6 h => ?_)
  refine lv_iand hx hb d_Me_write_41 ?_
  refine lv_iload hx hb d_Me_write_42 (lv_at hl 1 rfl) ?_
  refine zz_ishl hx hb d_Me_write_44 ?_
  refine lv_ior hx hb d_Me_write_45 ?_
  refine lv_topi (fun x_7 ex_7 => ?_)
  have h := h x_7 ex_7
  refine va_iast (f := mf) hx hb hK hP hD hS 1 0 rfl rfl h.1 d_Me_write_46 (fun H locs (hP : va_P D vwCl (wM qm qw cI ms mn (upd mf (zz_ushr a0 (2 : Int32)).toNatClampNeg x_7)) H) (hD : va_D A (wM qm qw cI ms mn (upd mf (zz_ushr a0 (2 : Int32)).toNatClampNeg x_7))) hS => ?_)
  have h := h.2
  exact W.vret hx hb hr (fun t ht hW => ⟨⟨(upd mf (zz_ushr a0 (2 : Int32)).toNatClampNeg x_7), rfl, h, by rw [ht]; exact hP, hD⟩, hS.F ht⟩) hS.2.2 d_Me_write_47
def wp_Fu_odd (a0 : Int32) (a1 : Int32) (P : Int32 → Prop) : Prop := ((a0 = (0 : Int32) → P (0 : Int32)) ∧ (¬ a0 = (0 : Int32) → (((a1 &&& (1 : Int32)) = (0 : Int32) → P (0 : Int32)) ∧ (¬ (a1 &&& (1 : Int32)) = (0 : Int32) → P (1 : Int32)))))
abbrev rm_Fu_odd : Room := { frames := 0, cells := 0, slots := 0, locals := 0 }
set_option maxHeartbeats 4000000 in
set_option maxRecDepth 100000 in
theorem c_Fu_odd (l : Launch) (a0 : Int32) (a1 : Int32) (P : Int32 → Prop) (h : wp_Fu_odd a0 a1 P) : Met l y_Fu_odd (zz_ws y_Fu_odd b_Fu_odd 2 (some .boolean)) rm_Fu_odd (fun v _ => v = ([.int a0, .int a1] : List Value).toArray) (vp_Si P) 0 0 (fun _ => False) := by
  refine Met.ofW (cc := b_Fu_odd) (maxL := 2) (ret := (some .boolean)) (by decide) rfl ?_
  intro p e s m args below meth c s₁ B hml hv
  subst hv
  have hx := B.exec
  have hb := B.bytes
  have hr := B.returns
  have hts := atoms_spec (ws := (zz_ws y_Fu_odd b_Fu_odd 2 (some .boolean))) B.pre
  have hown : s.vm.findClass R_Fu = some m.cls := findClass_of_methodNamed B.named
  have hlocks := B.notSynchronized
  have hT := zz_hts hts
  have X : CallFix p m c b_Fu_odd 2 s ([.int a0, .int a1] : List Value).toArray (zz_ws y_Fu_odd b_Fu_odd 2 (some .boolean)) R_Fu := ⟨hx, hb, hml, hown, hts⟩
  have hf0 : 0 + 0 ≤ (headSpec (zz_ws y_Fu_odd b_Fu_odd 2 (some .boolean)) rm_Fu_odd).room.cells ∧ 0 + 0 ≤ (headSpec (zz_ws y_Fu_odd b_Fu_odd 2 (some .boolean)) rm_Fu_odd).room.slots := ⟨Nat.le_of_ble_eq_true rfl, Nat.le_of_ble_eq_true rfl⟩
  have hl := lv_entry ([.int a0, .int a1]) (n := 2) (Nat.le_of_ble_eq_true rfl)
  rw [lg_entry_eq]
  generalize (lg_sl ([.int a0, .int a1]) ++ List.replicate (2 - (lg_sl ([.int a0, .int a1])).length) Slot.unset).toArray = ls at hl ⊢
  have hl : lv_has ls 2 [(0, .int a0), (1, .int a1)] := hl
  refine lv_iload_n hx hb d_Fu_odd_0 rfl (lv_at hl 0 rfl) ?_
  refine lv_if_eq (tgt := 14) hx hb d_Fu_odd_1 (by decide) (fun c_1 => ?_) (fun c_1 => ?_)
  · skip
    have h := h.1 c_1
    refine lv_iconst (v := 0) hx hb d_Fu_odd_14 (by decide) ?_
    exact W.zret (v := (0 : Int32)) hx hb hr (zz_bz_n (Or.inl rfl)) (fun t ht hW => ⟨(0 : Int32),  rfl, h, ht⟩) t_nil d_Fu_odd_15
  · skip
    have h := h.2 c_1
    refine lv_iload_n hx hb d_Fu_odd_4 rfl (lv_at hl 1 rfl) ?_
    refine lv_iconst (v := 1) hx hb d_Fu_odd_5 (by decide) ?_
    refine lv_iand hx hb d_Fu_odd_6 ?_
    refine lv_if_eq (tgt := 14) hx hb d_Fu_odd_7 (by decide) (fun c_2 => ?_) (fun c_2 => ?_)
    · skip
      have h := h.1 c_2
      refine lv_iconst (v := 0) hx hb d_Fu_odd_14 (by decide) ?_
      exact W.zret (v := (0 : Int32)) hx hb hr (zz_bz_n (Or.inl rfl)) (fun t ht hW => ⟨(0 : Int32),  rfl, h, ht⟩) t_nil d_Fu_odd_15
    · skip
      have h := h.2 c_2
      refine lv_iconst (v := 1) hx hb d_Fu_odd_10 (by decide) ?_
      refine lv_goto (tgt := 15) hx hb d_Fu_odd_11 (by decide) ?_
      exact W.zret (v := (1 : Int32)) hx hb hr (zz_bz_n (Or.inr rfl)) (fun t ht hW => ⟨(1 : Int32),  rfl, h, ht⟩) t_nil d_Fu_odd_15
def wp_Fu_ft (a0 : Int32) (P : Int32 → Prop) : Prop := ∀ x_1 : Int32, x_1 = ((zz_ushr a0 (16 : Int32)) &&& (31 : Int32)) → P x_1
abbrev rm_Fu_ft : Room := { frames := 0, cells := 0, slots := 0, locals := 0 }
set_option maxHeartbeats 4000000 in
set_option maxRecDepth 100000 in
theorem c_Fu_ft (l : Launch) (a0 : Int32) (P : Int32 → Prop) (h : wp_Fu_ft a0 P) : Met l y_Fu_ft (zz_ws y_Fu_ft b_Fu_ft 1 (some .int)) rm_Fu_ft (fun v _ => v = ([.int a0] : List Value).toArray) (vp_Si P) 0 0 (fun _ => False) := by
  refine Met.ofW (cc := b_Fu_ft) (maxL := 1) (ret := (some .int)) (by decide) rfl ?_
  intro p e s m args below meth c s₁ B hml hv
  subst hv
  have hx := B.exec
  have hb := B.bytes
  have hr := B.returns
  have hts := atoms_spec (ws := (zz_ws y_Fu_ft b_Fu_ft 1 (some .int))) B.pre
  have hown : s.vm.findClass R_Fu = some m.cls := findClass_of_methodNamed B.named
  have hlocks := B.notSynchronized
  have hT := zz_hts hts
  have X : CallFix p m c b_Fu_ft 1 s ([.int a0] : List Value).toArray (zz_ws y_Fu_ft b_Fu_ft 1 (some .int)) R_Fu := ⟨hx, hb, hml, hown, hts⟩
  have hf0 : 0 + 0 ≤ (headSpec (zz_ws y_Fu_ft b_Fu_ft 1 (some .int)) rm_Fu_ft).room.cells ∧ 0 + 0 ≤ (headSpec (zz_ws y_Fu_ft b_Fu_ft 1 (some .int)) rm_Fu_ft).room.slots := ⟨Nat.le_of_ble_eq_true rfl, Nat.le_of_ble_eq_true rfl⟩
  have hl := lv_entry ([.int a0]) (n := 1) (Nat.le_of_ble_eq_true rfl)
  rw [lg_entry_eq]
  generalize (lg_sl ([.int a0]) ++ List.replicate (1 - (lg_sl ([.int a0])).length) Slot.unset).toArray = ls at hl ⊢
  have hl : lv_has ls 1 [(0, .int a0)] := hl
  refine lv_iload_n hx hb d_Fu_ft_0 rfl (lv_at hl 0 rfl) ?_
  refine lv_bipush (v := 16) hx hb d_Fu_ft_1 (by decide) ?_
  refine zz_iushr hx hb d_Fu_ft_3 ?_
  refine lv_bipush (v := 31) hx hb d_Fu_ft_4 (by decide) ?_
  refine lv_iand hx hb d_Fu_ft_6 ?_
  refine lv_topi (fun x_1 ex_1 => ?_)
  have h := h x_1 ex_1
  exact W.iret (v := x_1) hx hb hr (fun t ht hW => ⟨x_1,  rfl, h, ht⟩) t_nil d_Fu_ft_7
def wp_Fu_fs (a0 : Int32) (P : Int32 → Prop) : Prop := ∀ x_1 : Int32, x_1 = ((zz_ushr a0 (11 : Int32)) &&& (31 : Int32)) → P x_1
abbrev rm_Fu_fs : Room := { frames := 0, cells := 0, slots := 0, locals := 0 }
set_option maxHeartbeats 4000000 in
set_option maxRecDepth 100000 in
theorem c_Fu_fs (l : Launch) (a0 : Int32) (P : Int32 → Prop) (h : wp_Fu_fs a0 P) : Met l y_Fu_fs (zz_ws y_Fu_fs b_Fu_fs 1 (some .int)) rm_Fu_fs (fun v _ => v = ([.int a0] : List Value).toArray) (vp_Si P) 0 0 (fun _ => False) := by
  refine Met.ofW (cc := b_Fu_fs) (maxL := 1) (ret := (some .int)) (by decide) rfl ?_
  intro p e s m args below meth c s₁ B hml hv
  subst hv
  have hx := B.exec
  have hb := B.bytes
  have hr := B.returns
  have hts := atoms_spec (ws := (zz_ws y_Fu_fs b_Fu_fs 1 (some .int))) B.pre
  have hown : s.vm.findClass R_Fu = some m.cls := findClass_of_methodNamed B.named
  have hlocks := B.notSynchronized
  have hT := zz_hts hts
  have X : CallFix p m c b_Fu_fs 1 s ([.int a0] : List Value).toArray (zz_ws y_Fu_fs b_Fu_fs 1 (some .int)) R_Fu := ⟨hx, hb, hml, hown, hts⟩
  have hf0 : 0 + 0 ≤ (headSpec (zz_ws y_Fu_fs b_Fu_fs 1 (some .int)) rm_Fu_fs).room.cells ∧ 0 + 0 ≤ (headSpec (zz_ws y_Fu_fs b_Fu_fs 1 (some .int)) rm_Fu_fs).room.slots := ⟨Nat.le_of_ble_eq_true rfl, Nat.le_of_ble_eq_true rfl⟩
  have hl := lv_entry ([.int a0]) (n := 1) (Nat.le_of_ble_eq_true rfl)
  rw [lg_entry_eq]
  generalize (lg_sl ([.int a0]) ++ List.replicate (1 - (lg_sl ([.int a0])).length) Slot.unset).toArray = ls at hl ⊢
  have hl : lv_has ls 1 [(0, .int a0)] := hl
  refine lv_iload_n hx hb d_Fu_fs_0 rfl (lv_at hl 0 rfl) ?_
  refine lv_bipush (v := 11) hx hb d_Fu_fs_1 (by decide) ?_
  refine zz_iushr hx hb d_Fu_fs_3 ?_
  refine lv_bipush (v := 31) hx hb d_Fu_fs_4 (by decide) ?_
  refine lv_iand hx hb d_Fu_fs_6 ?_
  refine lv_topi (fun x_1 ex_1 => ?_)
  have h := h x_1 ex_1
  exact W.iret (v := x_1) hx hb hr (fun t ht hW => ⟨x_1,  rfl, h, ht⟩) t_nil d_Fu_fs_7
def wp_Fu_fd (a0 : Int32) (P : Int32 → Prop) : Prop := ∀ x_1 : Int32, x_1 = ((zz_ushr a0 (6 : Int32)) &&& (31 : Int32)) → P x_1
abbrev rm_Fu_fd : Room := { frames := 0, cells := 0, slots := 0, locals := 0 }
set_option maxHeartbeats 4000000 in
set_option maxRecDepth 100000 in
theorem c_Fu_fd (l : Launch) (a0 : Int32) (P : Int32 → Prop) (h : wp_Fu_fd a0 P) : Met l y_Fu_fd (zz_ws y_Fu_fd b_Fu_fd 1 (some .int)) rm_Fu_fd (fun v _ => v = ([.int a0] : List Value).toArray) (vp_Si P) 0 0 (fun _ => False) := by
  refine Met.ofW (cc := b_Fu_fd) (maxL := 1) (ret := (some .int)) (by decide) rfl ?_
  intro p e s m args below meth c s₁ B hml hv
  subst hv
  have hx := B.exec
  have hb := B.bytes
  have hr := B.returns
  have hts := atoms_spec (ws := (zz_ws y_Fu_fd b_Fu_fd 1 (some .int))) B.pre
  have hown : s.vm.findClass R_Fu = some m.cls := findClass_of_methodNamed B.named
  have hlocks := B.notSynchronized
  have hT := zz_hts hts
  have X : CallFix p m c b_Fu_fd 1 s ([.int a0] : List Value).toArray (zz_ws y_Fu_fd b_Fu_fd 1 (some .int)) R_Fu := ⟨hx, hb, hml, hown, hts⟩
  have hf0 : 0 + 0 ≤ (headSpec (zz_ws y_Fu_fd b_Fu_fd 1 (some .int)) rm_Fu_fd).room.cells ∧ 0 + 0 ≤ (headSpec (zz_ws y_Fu_fd b_Fu_fd 1 (some .int)) rm_Fu_fd).room.slots := ⟨Nat.le_of_ble_eq_true rfl, Nat.le_of_ble_eq_true rfl⟩
  have hl := lv_entry ([.int a0]) (n := 1) (Nat.le_of_ble_eq_true rfl)
  rw [lg_entry_eq]
  generalize (lg_sl ([.int a0]) ++ List.replicate (1 - (lg_sl ([.int a0])).length) Slot.unset).toArray = ls at hl ⊢
  have hl : lv_has ls 1 [(0, .int a0)] := hl
  refine lv_iload_n hx hb d_Fu_fd_0 rfl (lv_at hl 0 rfl) ?_
  refine lv_bipush (v := 6) hx hb d_Fu_fd_1 (by decide) ?_
  refine zz_iushr hx hb d_Fu_fd_3 ?_
  refine lv_bipush (v := 31) hx hb d_Fu_fd_4 (by decide) ?_
  refine lv_iand hx hb d_Fu_fd_6 ?_
  refine lv_topi (fun x_1 ex_1 => ?_)
  have h := h x_1 ex_1
  exact W.iret (v := x_1) hx hb hr (fun t ht hW => ⟨x_1,  rfl, h, ht⟩) t_nil d_Fu_fd_7
def wp_Fu_conditionAsAsked (cd : Int32) (fg : Nat → Int32) (L : Int32 × Int32 × Int32 × Int64) (O : Int32 × Int32 × Int32 × Int64) (a0 : Int32) (P : Int32 → Prop) : Prop := ∀ x_1 : Int32, x_1 = ((zz_ushr a0 (18 : Int32)) &&& (7 : Int32)) → ∀ x_2 : Int32, x_2 = ((zz_ushr cd x_1) &&& (1 : Int32)) → ∀ x_3 : Int32, x_3 = ((zz_ushr a0 (16 : Int32)) &&& (1 : Int32)) → ((x_2 = x_3 → P (1 : Int32)) ∧ (¬ x_2 = x_3 → P (0 : Int32)))
abbrev rm_Fu_conditionAsAsked : Room := { frames := 0, cells := 0, slots := 0, locals := 0 }
set_option maxHeartbeats 4000000 in
set_option maxRecDepth 100000 in
theorem c_Fu_conditionAsAsked (l : Launch) (D : va_G) (cI : ClassId) (qu : Nat) (qf : Nat) (ql : Nat) (qo : Nat) (cd : Int32) (fg : Nat → Int32) (L : Int32 × Int32 × Int32 × Int64) (O : Int32 × Int32 × Int32 × Int64) (a0 : Int32) (P : Int32 → Prop) (h : wp_Fu_conditionAsAsked cd fg L O a0 P) : Met l y_Fu_conditionAsAsked (zz_ws y_Fu_conditionAsAsked b_Fu_conditionAsAsked 2 (some .boolean)) rm_Fu_conditionAsAsked (va_Pc [.ref qu, .int a0] (zz_pr D [(cI, .int)] (wU qu qf ql qo cI cd fg L O))) (vp_Si P) 0 0 (fun _ => False) := by
  refine Met.ofW (cc := b_Fu_conditionAsAsked) (maxL := 2) (ret := (some .boolean)) (by decide) rfl ?_
  intro p e s m args below meth c s₁ B hml hv
  obtain ⟨rfl, hP, hK⟩ := hv
  have hx := B.exec
  have hb := B.bytes
  have hr := B.returns
  have hts := atoms_spec (ws := (zz_ws y_Fu_conditionAsAsked b_Fu_conditionAsAsked 2 (some .boolean))) B.pre
  have hown : s.vm.findClass R_Fu = some m.cls := findClass_of_methodNamed B.named
  have hlocks := B.notSynchronized
  have hT := zz_hts hts
  have X : CallFix p m c b_Fu_conditionAsAsked 2 s ([.ref qu, .int a0] : List Value).toArray (zz_ws y_Fu_conditionAsAsked b_Fu_conditionAsAsked 2 (some .boolean)) R_Fu := ⟨hx, hb, hml, hown, hts⟩
  have hf0 : 0 + 0 ≤ (headSpec (zz_ws y_Fu_conditionAsAsked b_Fu_conditionAsAsked 2 (some .boolean)) rm_Fu_conditionAsAsked).room.cells ∧ 0 + 0 ≤ (headSpec (zz_ws y_Fu_conditionAsAsked b_Fu_conditionAsAsked 2 (some .boolean)) rm_Fu_conditionAsAsked).room.slots := ⟨Nat.le_of_ble_eq_true rfl, Nat.le_of_ble_eq_true rfl⟩
  have hl := lv_entry ([.ref qu, .int a0]) (n := 2) (Nat.le_of_ble_eq_true rfl)
  rw [lg_entry_eq]
  generalize (lg_sl ([.ref qu, .int a0]) ++ List.replicate (2 - (lg_sl ([.ref qu, .int a0])).length) Slot.unset).toArray = ls at hl ⊢
  have hl : lv_has ls 2 [(0, .ref qu), (1, .int a0)] := hl
  refine lv_aload_n hx hb d_Fu_conditionAsAsked_0 rfl (lv_at hl 0 rfl) ?_
  refine g_Fu_25 (v := .int cd) hx hb hT hown hK hP 0 rfl rfl d_Fu_conditionAsAsked_1 ?_
  refine lv_iload_n hx hb d_Fu_conditionAsAsked_4 rfl (lv_at hl 1 rfl) ?_
  refine lv_bipush (v := 18) hx hb d_Fu_conditionAsAsked_5 (by decide) ?_
  refine zz_iushr hx hb d_Fu_conditionAsAsked_7 ?_
  refine lv_bipush (v := 7) hx hb d_Fu_conditionAsAsked_8 (by decide) ?_
  refine lv_iand hx hb d_Fu_conditionAsAsked_10 ?_
  refine lv_topi (fun x_1 ex_1 => ?_)
  have h := h x_1 ex_1
  refine zz_iushr hx hb d_Fu_conditionAsAsked_11 ?_
  refine lv_iconst (v := 1) hx hb d_Fu_conditionAsAsked_12 (by decide) ?_
  refine lv_iand hx hb d_Fu_conditionAsAsked_13 ?_
  refine lv_topi (fun x_2 ex_2 => ?_)
  have h := h x_2 ex_2
  refine lv_iload_n hx hb d_Fu_conditionAsAsked_14 rfl (lv_at hl 1 rfl) ?_
  refine lv_bipush (v := 16) hx hb d_Fu_conditionAsAsked_15 (by decide) ?_
  refine zz_iushr hx hb d_Fu_conditionAsAsked_17 ?_
  refine lv_iconst (v := 1) hx hb d_Fu_conditionAsAsked_18 (by decide) ?_
  refine lv_iand hx hb d_Fu_conditionAsAsked_19 ?_
  refine lv_topi (fun x_3 ex_3 => ?_)
  have h := h x_3 ex_3
  refine lv_icmp_ne (tgt := 27) hx hb d_Fu_conditionAsAsked_20 (by decide) (fun c_4 => ?_) (fun c_4 => ?_)
  · skip
    have h := h.2 c_4
    refine lv_iconst (v := 0) hx hb d_Fu_conditionAsAsked_27 (by decide) ?_
    exact W.zret (v := (0 : Int32)) hx hb hr (zz_bz_n (Or.inl rfl)) (fun t ht hW => ⟨(0 : Int32),  rfl, h, ht⟩) t_nil d_Fu_conditionAsAsked_28
  · skip
    have h := h.1 c_4
    refine lv_iconst (v := 1) hx hb d_Fu_conditionAsAsked_23 (by decide) ?_
    refine lv_goto (tgt := 28) hx hb d_Fu_conditionAsAsked_24 (by decide) ?_
    exact W.zret (v := (1 : Int32)) hx hb hr (zz_bz_n (Or.inr rfl)) (fun t ht hW => ⟨(1 : Int32),  rfl, h, ht⟩) t_nil d_Fu_conditionAsAsked_28
def wp_Fu_bits (cd : Int32) (fg : Nat → Int32) (L : Int32 × Int32 × Int32 × Int64) (O : Int32 × Int32 × Int32 × Int64) (a0 : Int32) (a1 : Int32) (P : Int64 → Prop) : Prop := vp_in a0 32 ∧ ∀ x_1 : Int32, x_1 = (fg a0.toNatClampNeg) → ∀ x_2 : Int64, x_2 = (x_1.toInt64 &&& (4294967295 : Int64)) → ((a1 = (0 : Int32) → P x_2) ∧ (¬ a1 = (0 : Int32) → vp_in (a0 ||| (1 : Int32)) 32 ∧ ∀ x_4 : Int32, x_4 = (fg (a0 ||| (1 : Int32)).toNatClampNeg) → ∀ x_5 : Int64, x_5 = (zz_lshl x_4.toInt64 (32 : Int32)) → P (x_5 ||| x_2)))
abbrev rm_Fu_bits : Room := { frames := 0, cells := 0, slots := 0, locals := 0 }
set_option maxHeartbeats 4000000 in
set_option maxRecDepth 100000 in
theorem c_Fu_bits (l : Launch) (D : va_G) (cI : ClassId) (qu : Nat) (qf : Nat) (ql : Nat) (qo : Nat) (cd : Int32) (fg : Nat → Int32) (L : Int32 × Int32 × Int32 × Int64) (O : Int32 × Int32 × Int32 × Int64) (a0 : Int32) (a1 : Int32) (P : Int64 → Prop) (h : wp_Fu_bits cd fg L O a0 a1 P) : Met l y_Fu_bits (zz_ws y_Fu_bits b_Fu_bits 5 (some .long)) rm_Fu_bits (va_Pc [.ref qu, .int a0, .int a1] (zz_pr D [(cI, .int)] (wU qu qf ql qo cI cd fg L O))) (vp_Sl P) 0 0 (fun _ => False) := by
  refine Met.ofW (cc := b_Fu_bits) (maxL := 5) (ret := (some .long)) (by decide) rfl ?_
  intro p e s m args below meth c s₁ B hml hv
  obtain ⟨rfl, hP, hK⟩ := hv
  have hx := B.exec
  have hb := B.bytes
  have hr := B.returns
  have hts := atoms_spec (ws := (zz_ws y_Fu_bits b_Fu_bits 5 (some .long))) B.pre
  have hown : s.vm.findClass R_Fu = some m.cls := findClass_of_methodNamed B.named
  have hlocks := B.notSynchronized
  have hT := zz_hts hts
  have X : CallFix p m c b_Fu_bits 5 s ([.ref qu, .int a0, .int a1] : List Value).toArray (zz_ws y_Fu_bits b_Fu_bits 5 (some .long)) R_Fu := ⟨hx, hb, hml, hown, hts⟩
  have hf0 : 0 + 0 ≤ (headSpec (zz_ws y_Fu_bits b_Fu_bits 5 (some .long)) rm_Fu_bits).room.cells ∧ 0 + 0 ≤ (headSpec (zz_ws y_Fu_bits b_Fu_bits 5 (some .long)) rm_Fu_bits).room.slots := ⟨Nat.le_of_ble_eq_true rfl, Nat.le_of_ble_eq_true rfl⟩
  have hl := lv_entry ([.ref qu, .int a0, .int a1]) (n := 5) (Nat.le_of_ble_eq_true rfl)
  rw [lg_entry_eq]
  generalize (lg_sl ([.ref qu, .int a0, .int a1]) ++ List.replicate (5 - (lg_sl ([.ref qu, .int a0, .int a1])).length) Slot.unset).toArray = ls at hl ⊢
  have hl : lv_has ls 5 [(0, .ref qu), (1, .int a0), (2, .int a1)] := hl
  refine lv_aload_n hx hb d_Fu_bits_0 rfl (lv_at hl 0 rfl) ?_
  refine g_Fu_9 (v := .ref qf) hx hb hT hown hK hP 0 rfl rfl d_Fu_bits_1 ?_
  refine lv_iload_n hx hb d_Fu_bits_4 rfl (lv_at hl 1 rfl) ?_
  refine va_iald (f := fg) hx hb hK hP 1 0 rfl rfl h.1 d_Fu_bits_5 ?_
  have h := h.2
  refine lv_topi (fun x_1 ex_1 => ?_)
  have h := h x_1 ex_1
  refine lv_i2l (v := x_1.toInt64) hx hb d_Fu_bits_6 rfl ?_
  refine lv_ldc2 (v := 4294967295) hx hb hown (hT _ n_Fu_116) d_Fu_bits_7 ?_
  refine lv_land hx hb d_Fu_bits_10 ?_
  refine lv_topl (fun x_2 ex_2 => ?_)
  have h := h x_2 ex_2
  refine lv_lstore_n (lv' := [(3, .long x_2), (0, .ref qu), (1, .int a0), (2, .int a1)]) hx hb d_Fu_bits_11 rfl hl (by decide) rfl (fun ls hl => ?_)
  refine lv_iload_n hx hb d_Fu_bits_12 rfl (lv_at hl 3 rfl) ?_
  refine lv_if_eq (tgt := 33) hx hb d_Fu_bits_13 (by decide) (fun c_3 => ?_) (fun c_3 => ?_)
  · skip
    have h := h.1 c_3
    refine lv_lload_n hx hb d_Fu_bits_33 rfl (lv_at hl 0 rfl) ?_
    exact W.lret (v := x_2) hx hb hr (fun t ht hW => ⟨x_2,  rfl, h, ht⟩) t_nil d_Fu_bits_34
  · skip
    have h := h.2 c_3
    refine lv_aload_n hx hb d_Fu_bits_16 rfl (lv_at hl 1 rfl) ?_
    refine g_Fu_9 (v := .ref qf) hx hb hT hown hK hP 0 rfl rfl d_Fu_bits_17 ?_
    refine lv_iload_n hx hb d_Fu_bits_20 rfl (lv_at hl 2 rfl) ?_
    refine lv_iconst (v := 1) hx hb d_Fu_bits_21 (by decide) ?_
    refine lv_ior hx hb d_Fu_bits_22 ?_
    refine va_iald (f := fg) hx hb hK hP 1 0 rfl rfl h.1 d_Fu_bits_23 ?_
    have h := h.2
    refine lv_topi (fun x_4 ex_4 => ?_)
    have h := h x_4 ex_4
    refine lv_i2l (v := x_4.toInt64) hx hb d_Fu_bits_24 rfl ?_
    refine lv_bipush (v := 32) hx hb d_Fu_bits_25 (by decide) ?_
    refine zz_llshl hx hb d_Fu_bits_27 ?_
    refine lv_topl (fun x_5 ex_5 => ?_)
    have h := h x_5 ex_5
    refine lv_lload_n hx hb d_Fu_bits_28 rfl (lv_at hl 0 rfl) ?_
    refine lv_lor hx hb d_Fu_bits_29 ?_
    refine lv_goto (tgt := 34) hx hb d_Fu_bits_30 (by decide) ?_
    exact W.lret (v := (x_5 ||| x_2)) hx hb hr (fun t ht hW => ⟨(x_5 ||| x_2),  rfl, h, ht⟩) t_nil d_Fu_bits_34
def wp_Fu_result (cd : Int32) (fg : Nat → Int32) (L : Int32 × Int32 × Int32 × Int64) (O : Int32 × Int32 × Int32 × Int64) (a0 : Int32) (a1 : Int64) (a2 : Int32) (P : Int32 → (Int32 × (Nat → Int32) × (Int32 × Int32 × Int32 × Int64) × (Int32 × Int32 × Int32 × Int64)) → Prop) : Prop := wp_Fu_fd a0 (fun r_1 => vp_in r_1 32 ∧ ((a2 = (0 : Int32) → P (0 : Int32) (cd, (upd fg r_1.toNatClampNeg a1.toInt32), L, O)) ∧ (¬ a2 = (0 : Int32) → wp_Fu_fd a0 (fun r_3 => ∀ x_4 : Int32, x_4 = (zz_lushr a1 (32 : Int32)).toInt32 → vp_in (r_3 ||| (1 : Int32)) 32 ∧ P (0 : Int32) (cd, (upd (upd fg r_1.toNatClampNeg a1.toInt32) (r_3 ||| (1 : Int32)).toNatClampNeg x_4), L, O)))))
abbrev rm_Fu_result : Room := { frames := 1, cells := 0, slots := 0, locals := 20 }
set_option maxHeartbeats 4000000 in
set_option maxRecDepth 100000 in
theorem c_Fu_result (l : Launch) (D : va_G) (cI : ClassId) (qu : Nat) (qf : Nat) (ql : Nat) (qo : Nat) (cd : Int32) (fg : Nat → Int32) (L : Int32 × Int32 × Int32 × Int64) (O : Int32 × Int32 × Int32 × Int64) (a0 : Int32) (a1 : Int64) (a2 : Int32) (P : Int32 → (Int32 × (Nat → Int32) × (Int32 × Int32 × Int32 × Int64) × (Int32 × Int32 × Int32 × Int64)) → Prop) (h : wp_Fu_result cd fg L O a0 a1 a2 P) (sz : Nat) : Met l y_Fu_result (zz_ws y_Fu_result b_Fu_result 5 (some .int)) rm_Fu_result (va_Pc [.ref qu, .int a0, .long a1, .int a2] (zz_pw D [(cI, .int)] (wU qu qf ql qo cI cd fg L O) sz)) (va_Qi P (zz_qw D (fun u => wU qu qf ql qo cI u.1 u.2.1 u.2.2.1 u.2.2.2) (va_A (wU qu qf ql qo cI cd fg L O) sz)) (va_A (wU qu qf ql qo cI cd fg L O) sz)) 0 0 (va_A (wU qu qf ql qo cI cd fg L O) sz) := by
  refine Met.ofW (cc := b_Fu_result) (maxL := 5) (ret := (some .int)) (by decide) rfl ?_
  intro p e s m args below meth c s₁ B hml hv
  obtain ⟨rfl, hsz, hP, hK, hD0⟩ := hv
  have hx := B.exec
  have hb := B.bytes
  have hr := B.returns
  have hts := atoms_spec (ws := (zz_ws y_Fu_result b_Fu_result 5 (some .int))) B.pre
  have hown : s.vm.findClass R_Fu = some m.cls := findClass_of_methodNamed B.named
  have hlocks := B.notSynchronized
  have hT := zz_hts hts
  have X : CallFix p m c b_Fu_result 5 s ([.ref qu, .int a0, .long a1, .int a2] : List Value).toArray (zz_ws y_Fu_result b_Fu_result 5 (some .int)) R_Fu := ⟨hx, hb, hml, hown, hts⟩
  have hf0 : 0 + 0 ≤ (headSpec (zz_ws y_Fu_result b_Fu_result 5 (some .int)) rm_Fu_result).room.cells ∧ 0 + 0 ≤ (headSpec (zz_ws y_Fu_result b_Fu_result 5 (some .int)) rm_Fu_result).room.slots := ⟨Nat.le_of_ble_eq_true rfl, Nat.le_of_ble_eq_true rfl⟩
  subst hsz
  have hD := hD0.self (sz := s.heap.size)
  generalize hAe : va_A (wU qu qf ql qo cI cd fg L O) s.heap.size = A at hD ⊢
  have hA : ∀ q : Nat, s.heap.size ≤ q → A q := fun q h => by rw [← hAe]; exact Or.inr h
  have hS : va_S A s.heap s.heap [] := va_S.rf
  have hl := lv_entry ([.ref qu, .int a0, .long a1, .int a2]) (n := 5) (Nat.le_of_ble_eq_true rfl)
  rw [lg_entry_eq]
  generalize (lg_sl ([.ref qu, .int a0, .long a1, .int a2]) ++ List.replicate (5 - (lg_sl ([.ref qu, .int a0, .long a1, .int a2])).length) Slot.unset).toArray = ls at hl ⊢
  have hl : lv_has ls 5 [(0, .ref qu), (1, .int a0), (2, .long a1), (4, .int a2)] := hl
  refine lv_aload_n hx hb d_Fu_result_0 rfl (lv_at hl 0 rfl) ?_
  refine g_Fu_9 (v := .ref qf) hx hb hT hown hK hP 0 rfl rfl d_Fu_result_1 ?_
  refine lv_iload_n hx hb d_Fu_result_4 rfl (lv_at hl 1 rfl) ?_
  refine zz_Si (As := [.int a0]) (rest := [.ref qf]) X (c_Fu_fd l a0 _ h) ⟨rfl, rfl⟩ m_Fu_fd k_Fu_59 ⟨Nat.le_of_ble_eq_true rfl, Nat.le_of_ble_eq_true rfl⟩ rfl hl.1 rfl (Nat.le_of_ble_eq_true rfl) d_Fu_result_5 hf0 (fun r_1 h => ?_)
  refine lv_lload_n hx hb d_Fu_result_8 rfl (lv_at hl 2 rfl) ?_
  refine lv_l2i (v := a1.toInt32) hx hb d_Fu_result_9 rfl ?_
  refine va_iast (f := fg) hx hb hK hP hD hS 1 0 rfl rfl h.1 d_Fu_result_10 (fun H locs (hP : va_P D vwCl (wU qu qf ql qo cI cd (upd fg r_1.toNatClampNeg a1.toInt32) L O) H) (hD : va_D A (wU qu qf ql qo cI cd (upd fg r_1.toNatClampNeg a1.toInt32) L O)) hS => ?_)
  have h := h.2
  refine lv_iload hx hb d_Fu_result_11 (lv_at hl 3 rfl) ?_
  refine lv_if_eq (tgt := 32) hx hb d_Fu_result_13 (by decide) (fun c_2 => ?_) (fun c_2 => ?_)
  · skip
    have h := h.1 c_2
    refine lv_iconst (v := 0) hx hb d_Fu_result_32 (by decide) ?_
    exact W.iret (v := (0 : Int32)) hx hb hr (fun t ht hW => ⟨⟨(0 : Int32), (cd, (upd fg r_1.toNatClampNeg a1.toInt32), L, O), rfl, h, by rw [ht]; exact hP, hD⟩, hS.F ht⟩) hS.2.2 d_Fu_result_33
  · skip
    have h := h.2 c_2
    refine lv_aload_n hx hb d_Fu_result_16 rfl (lv_at hl 0 rfl) ?_
    refine g_Fu_9 (v := .ref qf) hx hb hT hown hK hP 0 rfl rfl d_Fu_result_17 ?_
    refine lv_iload_n hx hb d_Fu_result_20 rfl (lv_at hl 1 rfl) ?_
    refine zz_Si (As := [.int a0]) (rest := [.ref qf]) X (c_Fu_fd l a0 _ h) ⟨rfl, rfl⟩ m_Fu_fd k_Fu_59 ⟨Nat.le_of_ble_eq_true rfl, Nat.le_of_ble_eq_true rfl⟩ rfl hl.1 rfl (Nat.le_of_ble_eq_true rfl) d_Fu_result_21 hf0 (fun r_3 h => ?_)
    refine lv_iconst (v := 1) hx hb d_Fu_result_24 (by decide) ?_
    refine lv_ior hx hb d_Fu_result_25 ?_
    refine lv_lload_n hx hb d_Fu_result_26 rfl (lv_at hl 2 rfl) ?_
    refine lv_bipush (v := 32) hx hb d_Fu_result_27 (by decide) ?_
    refine zz_llushr hx hb d_Fu_result_29 ?_
    refine lv_l2i (v := (zz_lushr a1 (32 : Int32)).toInt32) hx hb d_Fu_result_30 rfl ?_
    refine lv_topi (fun x_4 ex_4 => ?_)
    have h := h x_4 ex_4
    refine va_iast (f := (upd fg r_1.toNatClampNeg a1.toInt32)) hx hb hK hP hD hS 1 0 rfl rfl h.1 d_Fu_result_31 (fun H locs (hP : va_P D vwCl (wU qu qf ql qo cI cd (upd (upd fg r_1.toNatClampNeg a1.toInt32) (r_3 ||| (1 : Int32)).toNatClampNeg x_4) L O) H) (hD : va_D A (wU qu qf ql qo cI cd (upd (upd fg r_1.toNatClampNeg a1.toInt32) (r_3 ||| (1 : Int32)).toNatClampNeg x_4) L O)) hS => ?_)
    have h := h.2
    refine lv_iconst (v := 0) hx hb d_Fu_result_32 (by decide) ?_
    exact W.iret (v := (0 : Int32)) hx hb hr (fun t ht hW => ⟨⟨(0 : Int32), (cd, (upd (upd fg r_1.toNatClampNeg a1.toInt32) (r_3 ||| (1 : Int32)).toNatClampNeg x_4), L, O), rfl, h, by rw [ht]; exact hP, hD⟩, hS.F ht⟩) hS.2.2 d_Fu_result_33
def wp_Fu_convertFromWord (cd : Int32) (fg : Nat → Int32) (L : Int32 × Int32 × Int32 × Int64) (O : Int32 × Int32 × Int32 × Int64) (a0 : Int32) (P : Int32 → (Int32 × (Nat → Int32) × (Int32 × Int32 × Int32 × Int64) × (Int32 × Int32 × Int32 × Int64)) → Prop) : Prop := ∀ x_1 : Int32, x_1 = (a0 &&& (63 : Int32)) → ((x_1 = (33 : Int32) → wp_Fu_fd a0 (fun r_16 => wp_Fu_odd (1 : Int32) r_16 (fun r_17 => ((r_17 = (0 : Int32) → wp_Fu_fs a0 (fun r_19 => vp_in r_19 32 ∧ ∀ x_20 : Int32, x_20 = (fg r_19.toNatClampNeg) → wp_Fr_fromWord L x_20 (fun u_21 => wp_Fr_pack u_21 (1 : Int32) (fun r_23 => wp_Fu_result cd fg u_21 O a0 r_23 (1 : Int32) (fun r_25 u_24 => P r_25 (u_24.1, u_24.2.1, u_24.2.2.1, u_24.2.2.2)))))) ∧ (¬ r_17 = (0 : Int32) → P (8 : Int32) (cd, fg, L, O)))))) ∧ (¬ x_1 = (33 : Int32) → ((x_1 = (32 : Int32) → wp_Fu_fd a0 (fun r_5 => wp_Fu_odd (0 : Int32) r_5 (fun r_6 => ((r_6 = (0 : Int32) → wp_Fu_fs a0 (fun r_8 => vp_in r_8 32 ∧ ∀ x_9 : Int32, x_9 = (fg r_8.toNatClampNeg) → wp_Fr_fromWord L x_9 (fun u_10 => wp_Fr_pack u_10 (0 : Int32) (fun r_12 => wp_Fu_result cd fg u_10 O a0 r_12 (0 : Int32) (fun r_14 u_13 => P r_14 (u_13.1, u_13.2.1, u_13.2.2.1, u_13.2.2.2)))))) ∧ (¬ r_6 = (0 : Int32) → P (8 : Int32) (cd, fg, L, O)))))) ∧ (¬ x_1 = (32 : Int32) → P (3 : Int32) (cd, fg, L, O)))))
abbrev rm_Fu_convertFromWord : Room := { frames := 3, cells := 0, slots := 0, locals := 77 }
set_option maxHeartbeats 4000000 in
set_option maxRecDepth 100000 in
theorem c_Fu_convertFromWord (l : Launch) (D : va_G) (cI : ClassId) (qu : Nat) (qf : Nat) (ql : Nat) (qo : Nat) (cd : Int32) (fg : Nat → Int32) (L : Int32 × Int32 × Int32 × Int64) (O : Int32 × Int32 × Int32 × Int64) (a0 : Int32) (P : Int32 → (Int32 × (Nat → Int32) × (Int32 × Int32 × Int32 × Int64) × (Int32 × Int32 × Int32 × Int64)) → Prop) (h : wp_Fu_convertFromWord cd fg L O a0 P) (sz : Nat) : Met l y_Fu_convertFromWord (zz_ws y_Fu_convertFromWord b_Fu_convertFromWord 4 (some .int)) rm_Fu_convertFromWord (va_Pc [.ref qu, .int a0] (zz_pw D [(cI, .int)] (wU qu qf ql qo cI cd fg L O) sz)) (va_Qi P (zz_qw D (fun u => wU qu qf ql qo cI u.1 u.2.1 u.2.2.1 u.2.2.2) (va_A (wU qu qf ql qo cI cd fg L O) sz)) (va_A (wU qu qf ql qo cI cd fg L O) sz)) 0 0 (va_A (wU qu qf ql qo cI cd fg L O) sz) := by
  refine Met.ofW (cc := b_Fu_convertFromWord) (maxL := 4) (ret := (some .int)) (by decide) rfl ?_
  intro p e s m args below meth c s₁ B hml hv
  obtain ⟨rfl, hsz, hP, hK, hD0⟩ := hv
  have hx := B.exec
  have hb := B.bytes
  have hr := B.returns
  have hts := atoms_spec (ws := (zz_ws y_Fu_convertFromWord b_Fu_convertFromWord 4 (some .int))) B.pre
  have hown : s.vm.findClass R_Fu = some m.cls := findClass_of_methodNamed B.named
  have hlocks := B.notSynchronized
  have hT := zz_hts hts
  have X : CallFix p m c b_Fu_convertFromWord 4 s ([.ref qu, .int a0] : List Value).toArray (zz_ws y_Fu_convertFromWord b_Fu_convertFromWord 4 (some .int)) R_Fu := ⟨hx, hb, hml, hown, hts⟩
  have hf0 : 0 + 0 ≤ (headSpec (zz_ws y_Fu_convertFromWord b_Fu_convertFromWord 4 (some .int)) rm_Fu_convertFromWord).room.cells ∧ 0 + 0 ≤ (headSpec (zz_ws y_Fu_convertFromWord b_Fu_convertFromWord 4 (some .int)) rm_Fu_convertFromWord).room.slots := ⟨Nat.le_of_ble_eq_true rfl, Nat.le_of_ble_eq_true rfl⟩
  subst hsz
  have hD := hD0.self (sz := s.heap.size)
  generalize hAe : va_A (wU qu qf ql qo cI cd fg L O) s.heap.size = A at hD ⊢
  have hA : ∀ q : Nat, s.heap.size ≤ q → A q := fun q h => by rw [← hAe]; exact Or.inr h
  have hS : va_S A s.heap s.heap [] := va_S.rf
  have hl := lv_entry ([.ref qu, .int a0]) (n := 4) (Nat.le_of_ble_eq_true rfl)
  rw [lg_entry_eq]
  generalize (lg_sl ([.ref qu, .int a0]) ++ List.replicate (4 - (lg_sl ([.ref qu, .int a0])).length) Slot.unset).toArray = ls at hl ⊢
  have hl : lv_has ls 4 [(0, .ref qu), (1, .int a0)] := hl
  refine lv_iload_n hx hb d_Fu_convertFromWord_0 rfl (lv_at hl 1 rfl) ?_
  refine lv_bipush (v := 63) hx hb d_Fu_convertFromWord_1 (by decide) ?_
  refine lv_iand hx hb d_Fu_convertFromWord_3 ?_
  refine lv_topi (fun x_1 ex_1 => ?_)
  have h := h x_1 ex_1
  refine lv_istore_n (lv' := [(2, .int x_1), (0, .ref qu), (1, .int a0)]) hx hb d_Fu_convertFromWord_4 rfl hl (by decide) rfl (fun ls hl => ?_)
  refine lv_iload_n hx hb d_Fu_convertFromWord_5 rfl (lv_at hl 0 rfl) ?_
  refine lv_bipush (v := 33) hx hb d_Fu_convertFromWord_6 (by decide) ?_
  refine lv_icmp_ne (tgt := 15) hx hb d_Fu_convertFromWord_8 (by decide) (fun c_2 => ?_) (fun c_2 => ?_)
  · skip
    have h := h.2 c_2
    refine lv_iconst (v := 0) hx hb d_Fu_convertFromWord_15 (by decide) ?_
    refine lv_istore_n (lv' := [(3, .int (0 : Int32)), (2, .int x_1), (0, .ref qu), (1, .int a0)]) hx hb d_Fu_convertFromWord_16 rfl hl (by decide) rfl (fun ls hl => ?_)
    refine lv_iload_n hx hb d_Fu_convertFromWord_17 rfl (lv_at hl 0 rfl) ?_
    refine lv_if_ne (tgt := 29) hx hb d_Fu_convertFromWord_18 (by decide) (fun c_3 => ?_) (fun c_3 => ?_)
    · exact absurd c_3 (by decide)
    · skip
      refine lv_iload_n hx hb d_Fu_convertFromWord_21 rfl (lv_at hl 1 rfl) ?_
      refine lv_bipush (v := 32) hx hb d_Fu_convertFromWord_22 (by decide) ?_
      refine lv_icmp_eq (tgt := 29) hx hb d_Fu_convertFromWord_24 (by decide) (fun c_4 => ?_) (fun c_4 => ?_)
      · skip
        have h := h.1 c_4
        refine lv_iload_n hx hb d_Fu_convertFromWord_29 rfl (lv_at hl 0 rfl) ?_
        refine lv_iload_n hx hb d_Fu_convertFromWord_30 rfl (lv_at hl 3 rfl) ?_
        refine zz_Si (As := [.int a0]) (rest := [.int (0 : Int32)]) X (c_Fu_fd l a0 _ h) ⟨rfl, rfl⟩ m_Fu_fd k_Fu_59 ⟨Nat.le_of_ble_eq_true rfl, Nat.le_of_ble_eq_true rfl⟩ rfl hl.1 rfl (Nat.le_of_ble_eq_true rfl) d_Fu_convertFromWord_31 hf0 (fun r_5 h => ?_)
        refine zz_Si (As := [.int (0 : Int32), .int r_5]) (rest := []) X (c_Fu_odd l (0 : Int32) r_5 _ h) ⟨rfl, rfl⟩ m_Fu_odd k_Fu_62 ⟨Nat.le_of_ble_eq_true rfl, Nat.le_of_ble_eq_true rfl⟩ rfl hl.1 rfl (Nat.le_of_ble_eq_true rfl) d_Fu_convertFromWord_34 hf0 (fun r_6 h => ?_)
        refine lv_if_eq (tgt := 43) hx hb d_Fu_convertFromWord_37 (by decide) (fun c_7 => ?_) (fun c_7 => ?_)
        · skip
          have h := h.1 c_7
          refine lv_aload_n hx hb d_Fu_convertFromWord_43 rfl (lv_at hl 2 rfl) ?_
          refine g_Fu_18 (v := .ref ql) hx hb hT hown hK hP 0 rfl rfl d_Fu_convertFromWord_44 ?_
          refine lv_aload_n hx hb d_Fu_convertFromWord_47 rfl (lv_at hl 2 rfl) ?_
          refine g_Fu_9 (v := .ref qf) hx hb hT hown hK hP 0 rfl rfl d_Fu_convertFromWord_48 ?_
          refine lv_iload_n hx hb d_Fu_convertFromWord_51 rfl (lv_at hl 3 rfl) ?_
          refine zz_Si (As := [.int a0]) (rest := [.ref qf, .ref ql]) X (c_Fu_fs l a0 _ h) ⟨rfl, rfl⟩ m_Fu_fs k_Fu_53 ⟨Nat.le_of_ble_eq_true rfl, Nat.le_of_ble_eq_true rfl⟩ rfl hl.1 rfl (Nat.le_of_ble_eq_true rfl) d_Fu_convertFromWord_52 hf0 (fun r_8 h => ?_)
          refine va_iald (f := fg) hx hb hK hP 1 0 rfl rfl h.1 d_Fu_convertFromWord_55 ?_
          have h := h.2
          refine lv_topi (fun x_9 ex_9 => ?_)
          have h := h x_9 ex_9
          refine zz_Wv (As := [.int x_9]) (rest := []) (wc := wF1 ql L) (wr := [(qu, .inr (1, [.ref qf, .int cd, .ref ql, .ref qo])), (qf, .inl (cI, 32, .inl fg)), (qo, .inr (0, [.int O.1, .int O.2.1, .int O.2.2.1, .long O.2.2.2]))]) X hK hP hD hS hA (c_Fr_fromWord l D cI ql L x_9 _ h _) ⟨rfl, rfl⟩ m_Fr_fromWord k_Fu_112 ⟨Nat.le_of_ble_eq_true rfl, Nat.le_of_ble_eq_true rfl⟩ [2] [0, 1, 3] rfl rfl (by decide) (by decide) (by decide) 0 2 rfl rfl rfl rfl hl.1 rfl (Nat.le_of_ble_eq_true rfl) d_Fu_convertFromWord_56 hf0 (fun u_10 H locs h hP hD hS => ?_)
          have hP : va_P D vwCl (wU qu qf ql qo cI cd fg u_10 O) H := hP.sub [0, 1, 3, 2] rfl
          have hD : va_D A (wU qu qf ql qo cI cd fg u_10 O) := hD.sub [0, 1, 3, 2] (by decide) rfl
          refine lv_aload_n hx hb d_Fu_convertFromWord_59 rfl (lv_at hl 2 rfl) ?_
          refine lv_iload_n hx hb d_Fu_convertFromWord_60 rfl (lv_at hl 3 rfl) ?_
          refine lv_aload_n hx hb d_Fu_convertFromWord_61 rfl (lv_at hl 2 rfl) ?_
          refine g_Fu_18 (v := .ref ql) hx hb hT hown hK hP 0 rfl rfl d_Fu_convertFromWord_62 ?_
          refine lv_iload_n hx hb d_Fu_convertFromWord_65 rfl (lv_at hl 0 rfl) ?_
          refine zz_Rl (As := [.int (0 : Int32)]) (rest := [.int a0, .ref qu]) (wc := wF1 ql u_10) X hK hP (c_Fr_pack l D cI ql u_10 (0 : Int32) _ h) ⟨rfl, rfl⟩ m_Fr_pack k_Fu_87 ⟨Nat.le_of_ble_eq_true rfl, Nat.le_of_ble_eq_true rfl⟩ [2] rfl 0 2 rfl rfl rfl rfl hl.1 rfl (Nat.le_of_ble_eq_true rfl) d_Fu_convertFromWord_66 hf0 (fun r_12 h => ?_)
          refine lv_iload_n hx hb d_Fu_convertFromWord_69 rfl (lv_at hl 0 rfl) ?_
          refine zz_Wi (As := [.int a0, .long r_12, .int (0 : Int32)]) (rest := []) (wc := wU qu qf ql qo cI cd fg u_10 O) (wr := []) X hK hP hD hS hA (c_Fu_result l D cI qu qf ql qo cd fg u_10 O a0 r_12 (0 : Int32) _ h _) ⟨rfl, rfl⟩ m_Fu_result k_Fu_91 ⟨Nat.le_of_ble_eq_true rfl, Nat.le_of_ble_eq_true rfl⟩ [0, 1, 2, 3] [] rfl rfl (by decide) (by decide) (by decide) 1 0 rfl rfl rfl rfl hl.1 rfl (Nat.le_of_ble_eq_true rfl) d_Fu_convertFromWord_70 hf0 (fun r_14 u_13 H locs h hP hD hS => ?_)
          have hP : va_P D vwCl (wU qu qf ql qo cI u_13.1 u_13.2.1 u_13.2.2.1 u_13.2.2.2) H := hP.sub [0, 1, 2, 3] rfl
          have hD : va_D A (wU qu qf ql qo cI u_13.1 u_13.2.1 u_13.2.2.1 u_13.2.2.2) := hD.sub [0, 1, 2, 3] (by decide) rfl
          exact W.iret (v := r_14) hx hb hr (fun t ht hW => ⟨⟨r_14, (u_13.1, u_13.2.1, u_13.2.2.1, u_13.2.2.2), rfl, h, by rw [ht]; exact hP, hD⟩, hS.F ht⟩) hS.2.2 d_Fu_convertFromWord_73
        · skip
          have h := h.2 c_7
          refine lv_bipush (v := 8) hx hb d_Fu_convertFromWord_40 (by decide) ?_
          exact W.iret (v := (8 : Int32)) hx hb hr (fun t ht hW => ⟨⟨(8 : Int32), (cd, fg, L, O), rfl, h, by rw [ht]; exact hP, hD⟩, hS.F ht⟩) hS.2.2 d_Fu_convertFromWord_42
      · skip
        have h := h.2 c_4
        refine lv_iconst (v := 3) hx hb d_Fu_convertFromWord_27 (by decide) ?_
        exact W.iret (v := (3 : Int32)) hx hb hr (fun t ht hW => ⟨⟨(3 : Int32), (cd, fg, L, O), rfl, h, by rw [ht]; exact hP, hD⟩, hS.F ht⟩) hS.2.2 d_Fu_convertFromWord_28
  · skip
    have h := h.1 c_2
    refine lv_iconst (v := 1) hx hb d_Fu_convertFromWord_11 (by decide) ?_
    refine lv_goto (tgt := 16) hx hb d_Fu_convertFromWord_12 (by decide) ?_
    refine lv_istore_n (lv' := [(3, .int (1 : Int32)), (2, .int x_1), (0, .ref qu), (1, .int a0)]) hx hb d_Fu_convertFromWord_16 rfl hl (by decide) rfl (fun ls hl => ?_)
    refine lv_iload_n hx hb d_Fu_convertFromWord_17 rfl (lv_at hl 0 rfl) ?_
    refine lv_if_ne (tgt := 29) hx hb d_Fu_convertFromWord_18 (by decide) (fun c_15 => ?_) (fun c_15 => ?_)
    · skip
      refine lv_iload_n hx hb d_Fu_convertFromWord_29 rfl (lv_at hl 0 rfl) ?_
      refine lv_iload_n hx hb d_Fu_convertFromWord_30 rfl (lv_at hl 3 rfl) ?_
      refine zz_Si (As := [.int a0]) (rest := [.int (1 : Int32)]) X (c_Fu_fd l a0 _ h) ⟨rfl, rfl⟩ m_Fu_fd k_Fu_59 ⟨Nat.le_of_ble_eq_true rfl, Nat.le_of_ble_eq_true rfl⟩ rfl hl.1 rfl (Nat.le_of_ble_eq_true rfl) d_Fu_convertFromWord_31 hf0 (fun r_16 h => ?_)
      refine zz_Si (As := [.int (1 : Int32), .int r_16]) (rest := []) X (c_Fu_odd l (1 : Int32) r_16 _ h) ⟨rfl, rfl⟩ m_Fu_odd k_Fu_62 ⟨Nat.le_of_ble_eq_true rfl, Nat.le_of_ble_eq_true rfl⟩ rfl hl.1 rfl (Nat.le_of_ble_eq_true rfl) d_Fu_convertFromWord_34 hf0 (fun r_17 h => ?_)
      refine lv_if_eq (tgt := 43) hx hb d_Fu_convertFromWord_37 (by decide) (fun c_18 => ?_) (fun c_18 => ?_)
      · skip
        have h := h.1 c_18
        refine lv_aload_n hx hb d_Fu_convertFromWord_43 rfl (lv_at hl 2 rfl) ?_
        refine g_Fu_18 (v := .ref ql) hx hb hT hown hK hP 0 rfl rfl d_Fu_convertFromWord_44 ?_
        refine lv_aload_n hx hb d_Fu_convertFromWord_47 rfl (lv_at hl 2 rfl) ?_
        refine g_Fu_9 (v := .ref qf) hx hb hT hown hK hP 0 rfl rfl d_Fu_convertFromWord_48 ?_
        refine lv_iload_n hx hb d_Fu_convertFromWord_51 rfl (lv_at hl 3 rfl) ?_
        refine zz_Si (As := [.int a0]) (rest := [.ref qf, .ref ql]) X (c_Fu_fs l a0 _ h) ⟨rfl, rfl⟩ m_Fu_fs k_Fu_53 ⟨Nat.le_of_ble_eq_true rfl, Nat.le_of_ble_eq_true rfl⟩ rfl hl.1 rfl (Nat.le_of_ble_eq_true rfl) d_Fu_convertFromWord_52 hf0 (fun r_19 h => ?_)
        refine va_iald (f := fg) hx hb hK hP 1 0 rfl rfl h.1 d_Fu_convertFromWord_55 ?_
        have h := h.2
        refine lv_topi (fun x_20 ex_20 => ?_)
        have h := h x_20 ex_20
        refine zz_Wv (As := [.int x_20]) (rest := []) (wc := wF1 ql L) (wr := [(qu, .inr (1, [.ref qf, .int cd, .ref ql, .ref qo])), (qf, .inl (cI, 32, .inl fg)), (qo, .inr (0, [.int O.1, .int O.2.1, .int O.2.2.1, .long O.2.2.2]))]) X hK hP hD hS hA (c_Fr_fromWord l D cI ql L x_20 _ h _) ⟨rfl, rfl⟩ m_Fr_fromWord k_Fu_112 ⟨Nat.le_of_ble_eq_true rfl, Nat.le_of_ble_eq_true rfl⟩ [2] [0, 1, 3] rfl rfl (by decide) (by decide) (by decide) 0 2 rfl rfl rfl rfl hl.1 rfl (Nat.le_of_ble_eq_true rfl) d_Fu_convertFromWord_56 hf0 (fun u_21 H locs h hP hD hS => ?_)
        have hP : va_P D vwCl (wU qu qf ql qo cI cd fg u_21 O) H := hP.sub [0, 1, 3, 2] rfl
        have hD : va_D A (wU qu qf ql qo cI cd fg u_21 O) := hD.sub [0, 1, 3, 2] (by decide) rfl
        refine lv_aload_n hx hb d_Fu_convertFromWord_59 rfl (lv_at hl 2 rfl) ?_
        refine lv_iload_n hx hb d_Fu_convertFromWord_60 rfl (lv_at hl 3 rfl) ?_
        refine lv_aload_n hx hb d_Fu_convertFromWord_61 rfl (lv_at hl 2 rfl) ?_
        refine g_Fu_18 (v := .ref ql) hx hb hT hown hK hP 0 rfl rfl d_Fu_convertFromWord_62 ?_
        refine lv_iload_n hx hb d_Fu_convertFromWord_65 rfl (lv_at hl 0 rfl) ?_
        refine zz_Rl (As := [.int (1 : Int32)]) (rest := [.int a0, .ref qu]) (wc := wF1 ql u_21) X hK hP (c_Fr_pack l D cI ql u_21 (1 : Int32) _ h) ⟨rfl, rfl⟩ m_Fr_pack k_Fu_87 ⟨Nat.le_of_ble_eq_true rfl, Nat.le_of_ble_eq_true rfl⟩ [2] rfl 0 2 rfl rfl rfl rfl hl.1 rfl (Nat.le_of_ble_eq_true rfl) d_Fu_convertFromWord_66 hf0 (fun r_23 h => ?_)
        refine lv_iload_n hx hb d_Fu_convertFromWord_69 rfl (lv_at hl 0 rfl) ?_
        refine zz_Wi (As := [.int a0, .long r_23, .int (1 : Int32)]) (rest := []) (wc := wU qu qf ql qo cI cd fg u_21 O) (wr := []) X hK hP hD hS hA (c_Fu_result l D cI qu qf ql qo cd fg u_21 O a0 r_23 (1 : Int32) _ h _) ⟨rfl, rfl⟩ m_Fu_result k_Fu_91 ⟨Nat.le_of_ble_eq_true rfl, Nat.le_of_ble_eq_true rfl⟩ [0, 1, 2, 3] [] rfl rfl (by decide) (by decide) (by decide) 1 0 rfl rfl rfl rfl hl.1 rfl (Nat.le_of_ble_eq_true rfl) d_Fu_convertFromWord_70 hf0 (fun r_25 u_24 H locs h hP hD hS => ?_)
        have hP : va_P D vwCl (wU qu qf ql qo cI u_24.1 u_24.2.1 u_24.2.2.1 u_24.2.2.2) H := hP.sub [0, 1, 2, 3] rfl
        have hD : va_D A (wU qu qf ql qo cI u_24.1 u_24.2.1 u_24.2.2.1 u_24.2.2.2) := hD.sub [0, 1, 2, 3] (by decide) rfl
        exact W.iret (v := r_25) hx hb hr (fun t ht hW => ⟨⟨r_25, (u_24.1, u_24.2.1, u_24.2.2.1, u_24.2.2.2), rfl, h, by rw [ht]; exact hP, hD⟩, hS.F ht⟩) hS.2.2 d_Fu_convertFromWord_73
      · skip
        have h := h.2 c_18
        refine lv_bipush (v := 8) hx hb d_Fu_convertFromWord_40 (by decide) ?_
        exact W.iret (v := (8 : Int32)) hx hb hr (fun t ht hW => ⟨⟨(8 : Int32), (cd, fg, L, O), rfl, h, by rw [ht]; exact hP, hD⟩, hS.F ht⟩) hS.2.2 d_Fu_convertFromWord_42
    · exact absurd c_15 (by decide)
def wp_Fu_compute (cd : Int32) (fg : Nat → Int32) (L : Int32 × Int32 × Int32 × Int64) (O : Int32 × Int32 × Int32 × Int64) (a0 : Int32) (a1 : Int32) (P : Int32 → (Int32 × (Nat → Int32) × (Int32 × Int32 × Int32 × Int64) × (Int32 × Int32 × Int32 × Int64)) → Prop) : Prop := wp_Fu_fs a0 (fun r_1 => wp_Fu_ft a0 (fun r_2 => wp_Fu_fd a0 (fun r_3 => wp_Fu_odd a1 ((r_1 ||| r_2) ||| r_3) (fun r_4 => ((r_4 = (0 : Int32) → wp_Fu_fs a0 (fun r_6 => wp_Fu_bits cd fg L O r_6 a1 (fun r_7 => wp_Fr_unpack L r_7 a1 (fun u_8 => wp_Fu_ft a0 (fun r_10 => wp_Fu_bits cd fg u_8 O r_10 a1 (fun r_11 => wp_Fr_unpack O r_11 a1 (fun u_12 => ((((a0 &&& (63 : Int32)) = (0 : Int32)) → wp_Fr_add u_8 u_12 (fun u_15 => wp_Fr_pack u_15.1 a1 (fun r_17 => wp_Fu_result cd fg u_15.1 u_15.2 a0 r_17 a1 (fun r_19 u_18 => P r_19 (u_18.1, u_18.2.1, u_18.2.2.1, u_18.2.2.2))))) ∧ (¬ ((a0 &&& (63 : Int32)) = (0 : Int32)) → ((((a0 &&& (63 : Int32)) = (1 : Int32)) → wp_Fr_negate u_12 (fun u_21 => wp_Fr_add u_8 u_21 (fun u_23 => wp_Fr_pack u_23.1 a1 (fun r_25 => wp_Fu_result cd fg u_23.1 u_23.2 a0 r_25 a1 (fun r_27 u_26 => P r_27 (u_26.1, u_26.2.1, u_26.2.2.1, u_26.2.2.2)))))) ∧ (¬ ((a0 &&& (63 : Int32)) = (1 : Int32)) → ((((a0 &&& (63 : Int32)) = (2 : Int32)) → wp_Fr_multiply u_8 u_12 (fun u_29 => wp_Fr_pack u_29.1 a1 (fun r_31 => wp_Fu_result cd fg u_29.1 u_29.2 a0 r_31 a1 (fun r_33 u_32 => P r_33 (u_32.1, u_32.2.1, u_32.2.2.1, u_32.2.2.2))))) ∧ (¬ ((a0 &&& (63 : Int32)) = (2 : Int32)) → wp_Fr_divide u_8 u_12 (fun u_34 => wp_Fr_pack u_34.1 a1 (fun r_36 => wp_Fu_result cd fg u_34.1 u_34.2 a0 r_36 a1 (fun r_38 u_37 => P r_38 (u_37.1, u_37.2.1, u_37.2.2.1, u_37.2.2.2))))))))))))))))) ∧ (¬ r_4 = (0 : Int32) → P (8 : Int32) (cd, fg, L, O)))))))
abbrev rm_Fu_compute : Room := { frames := 3, cells := 0, slots := 0, locals := 86 }
set_option maxHeartbeats 4000000 in
set_option maxRecDepth 100000 in
theorem c_Fu_compute (l : Launch) (D : va_G) (cI : ClassId) (qu : Nat) (qf : Nat) (ql : Nat) (qo : Nat) (cd : Int32) (fg : Nat → Int32) (L : Int32 × Int32 × Int32 × Int64) (O : Int32 × Int32 × Int32 × Int64) (a0 : Int32) (a1 : Int32) (P : Int32 → (Int32 × (Nat → Int32) × (Int32 × Int32 × Int32 × Int64) × (Int32 × Int32 × Int32 × Int64)) → Prop) (h : wp_Fu_compute cd fg L O a0 a1 P) (sz : Nat) : Met l y_Fu_compute (zz_ws y_Fu_compute b_Fu_compute 3 (some .int)) rm_Fu_compute (va_Pc [.ref qu, .int a0, .int a1] (zz_pw D [(cI, .int)] (wU qu qf ql qo cI cd fg L O) sz)) (va_Qi P (zz_qw D (fun u => wU qu qf ql qo cI u.1 u.2.1 u.2.2.1 u.2.2.2) (va_A (wU qu qf ql qo cI cd fg L O) sz)) (va_A (wU qu qf ql qo cI cd fg L O) sz)) 0 0 (va_A (wU qu qf ql qo cI cd fg L O) sz) := by
  refine Met.ofW (cc := b_Fu_compute) (maxL := 3) (ret := (some .int)) (by decide) rfl ?_
  intro p e s m args below meth c s₁ B hml hv
  obtain ⟨rfl, hsz, hP, hK, hD0⟩ := hv
  have hx := B.exec
  have hb := B.bytes
  have hr := B.returns
  have hts := atoms_spec (ws := (zz_ws y_Fu_compute b_Fu_compute 3 (some .int))) B.pre
  have hown : s.vm.findClass R_Fu = some m.cls := findClass_of_methodNamed B.named
  have hlocks := B.notSynchronized
  have hT := zz_hts hts
  have X : CallFix p m c b_Fu_compute 3 s ([.ref qu, .int a0, .int a1] : List Value).toArray (zz_ws y_Fu_compute b_Fu_compute 3 (some .int)) R_Fu := ⟨hx, hb, hml, hown, hts⟩
  have hf0 : 0 + 0 ≤ (headSpec (zz_ws y_Fu_compute b_Fu_compute 3 (some .int)) rm_Fu_compute).room.cells ∧ 0 + 0 ≤ (headSpec (zz_ws y_Fu_compute b_Fu_compute 3 (some .int)) rm_Fu_compute).room.slots := ⟨Nat.le_of_ble_eq_true rfl, Nat.le_of_ble_eq_true rfl⟩
  subst hsz
  have hD := hD0.self (sz := s.heap.size)
  generalize hAe : va_A (wU qu qf ql qo cI cd fg L O) s.heap.size = A at hD ⊢
  have hA : ∀ q : Nat, s.heap.size ≤ q → A q := fun q h => by rw [← hAe]; exact Or.inr h
  have hS : va_S A s.heap s.heap [] := va_S.rf
  have hl := lv_entry ([.ref qu, .int a0, .int a1]) (n := 3) (Nat.le_of_ble_eq_true rfl)
  rw [lg_entry_eq]
  generalize (lg_sl ([.ref qu, .int a0, .int a1]) ++ List.replicate (3 - (lg_sl ([.ref qu, .int a0, .int a1])).length) Slot.unset).toArray = ls at hl ⊢
  have hl : lv_has ls 3 [(0, .ref qu), (1, .int a0), (2, .int a1)] := hl
  refine lv_iload_n hx hb d_Fu_compute_0 rfl (lv_at hl 2 rfl) ?_
  refine lv_iload_n hx hb d_Fu_compute_1 rfl (lv_at hl 1 rfl) ?_
  refine zz_Si (As := [.int a0]) (rest := [.int a1]) X (c_Fu_fs l a0 _ h) ⟨rfl, rfl⟩ m_Fu_fs k_Fu_53 ⟨Nat.le_of_ble_eq_true rfl, Nat.le_of_ble_eq_true rfl⟩ rfl hl.1 rfl (Nat.le_of_ble_eq_true rfl) d_Fu_compute_2 hf0 (fun r_1 h => ?_)
  refine lv_iload_n hx hb d_Fu_compute_5 rfl (lv_at hl 1 rfl) ?_
  refine zz_Si (As := [.int a0]) (rest := [.int r_1, .int a1]) X (c_Fu_ft l a0 _ h) ⟨rfl, rfl⟩ m_Fu_ft k_Fu_56 ⟨Nat.le_of_ble_eq_true rfl, Nat.le_of_ble_eq_true rfl⟩ rfl hl.1 rfl (Nat.le_of_ble_eq_true rfl) d_Fu_compute_6 hf0 (fun r_2 h => ?_)
  refine lv_ior hx hb d_Fu_compute_9 ?_
  refine lv_iload_n hx hb d_Fu_compute_10 rfl (lv_at hl 1 rfl) ?_
  refine zz_Si (As := [.int a0]) (rest := [.int (r_1 ||| r_2), .int a1]) X (c_Fu_fd l a0 _ h) ⟨rfl, rfl⟩ m_Fu_fd k_Fu_59 ⟨Nat.le_of_ble_eq_true rfl, Nat.le_of_ble_eq_true rfl⟩ rfl hl.1 rfl (Nat.le_of_ble_eq_true rfl) d_Fu_compute_11 hf0 (fun r_3 h => ?_)
  refine lv_ior hx hb d_Fu_compute_14 ?_
  refine zz_Si (As := [.int a1, .int ((r_1 ||| r_2) ||| r_3)]) (rest := []) X (c_Fu_odd l a1 ((r_1 ||| r_2) ||| r_3) _ h) ⟨rfl, rfl⟩ m_Fu_odd k_Fu_62 ⟨Nat.le_of_ble_eq_true rfl, Nat.le_of_ble_eq_true rfl⟩ rfl hl.1 rfl (Nat.le_of_ble_eq_true rfl) d_Fu_compute_15 hf0 (fun r_4 h => ?_)
  refine lv_if_eq (tgt := 24) hx hb d_Fu_compute_18 (by decide) (fun c_5 => ?_) (fun c_5 => ?_)
  · skip
    have h := h.1 c_5
    refine lv_aload_n hx hb d_Fu_compute_24 rfl (lv_at hl 0 rfl) ?_
    refine g_Fu_18 (v := .ref ql) hx hb hT hown hK hP 0 rfl rfl d_Fu_compute_25 ?_
    refine lv_aload_n hx hb d_Fu_compute_28 rfl (lv_at hl 0 rfl) ?_
    refine lv_iload_n hx hb d_Fu_compute_29 rfl (lv_at hl 1 rfl) ?_
    refine zz_Si (As := [.int a0]) (rest := [.ref qu, .ref ql]) X (c_Fu_fs l a0 _ h) ⟨rfl, rfl⟩ m_Fu_fs k_Fu_53 ⟨Nat.le_of_ble_eq_true rfl, Nat.le_of_ble_eq_true rfl⟩ rfl hl.1 rfl (Nat.le_of_ble_eq_true rfl) d_Fu_compute_30 hf0 (fun r_6 h => ?_)
    refine lv_iload_n hx hb d_Fu_compute_33 rfl (lv_at hl 2 rfl) ?_
    refine zz_Rl (As := [.int r_6, .int a1]) (rest := [.ref ql]) (wc := wU qu qf ql qo cI cd fg L O) X hK hP (c_Fu_bits l D cI qu qf ql qo cd fg L O r_6 a1 _ h) ⟨rfl, rfl⟩ m_Fu_bits k_Fu_66 ⟨Nat.le_of_ble_eq_true rfl, Nat.le_of_ble_eq_true rfl⟩ [0, 1, 2, 3] rfl 1 0 rfl rfl rfl rfl hl.1 rfl (Nat.le_of_ble_eq_true rfl) d_Fu_compute_34 hf0 (fun r_7 h => ?_)
    refine lv_iload_n hx hb d_Fu_compute_37 rfl (lv_at hl 2 rfl) ?_
    refine zz_Wv (As := [.long r_7, .int a1]) (rest := []) (wc := wF1 ql L) (wr := [(qu, .inr (1, [.ref qf, .int cd, .ref ql, .ref qo])), (qf, .inl (cI, 32, .inl fg)), (qo, .inr (0, [.int O.1, .int O.2.1, .int O.2.2.1, .long O.2.2.2]))]) X hK hP hD hS hA (c_Fr_unpack l D cI ql L r_7 a1 _ h _) ⟨rfl, rfl⟩ m_Fr_unpack k_Fu_70 ⟨Nat.le_of_ble_eq_true rfl, Nat.le_of_ble_eq_true rfl⟩ [2] [0, 1, 3] rfl rfl (by decide) (by decide) (by decide) 0 2 rfl rfl rfl rfl hl.1 rfl (Nat.le_of_ble_eq_true rfl) d_Fu_compute_38 hf0 (fun u_8 H locs h hP hD hS => ?_)
    have hP : va_P D vwCl (wU qu qf ql qo cI cd fg u_8 O) H := hP.sub [0, 1, 3, 2] rfl
    have hD : va_D A (wU qu qf ql qo cI cd fg u_8 O) := hD.sub [0, 1, 3, 2] (by decide) rfl
    refine lv_aload_n hx hb d_Fu_compute_41 rfl (lv_at hl 0 rfl) ?_
    refine g_Fu_22 (v := .ref qo) hx hb hT hown hK hP 0 rfl rfl d_Fu_compute_42 ?_
    refine lv_aload_n hx hb d_Fu_compute_45 rfl (lv_at hl 0 rfl) ?_
    refine lv_iload_n hx hb d_Fu_compute_46 rfl (lv_at hl 1 rfl) ?_
    refine zz_Si (As := [.int a0]) (rest := [.ref qu, .ref qo]) X (c_Fu_ft l a0 _ h) ⟨rfl, rfl⟩ m_Fu_ft k_Fu_56 ⟨Nat.le_of_ble_eq_true rfl, Nat.le_of_ble_eq_true rfl⟩ rfl hl.1 rfl (Nat.le_of_ble_eq_true rfl) d_Fu_compute_47 hf0 (fun r_10 h => ?_)
    refine lv_iload_n hx hb d_Fu_compute_50 rfl (lv_at hl 2 rfl) ?_
    refine zz_Rl (As := [.int r_10, .int a1]) (rest := [.ref qo]) (wc := wU qu qf ql qo cI cd fg u_8 O) X hK hP (c_Fu_bits l D cI qu qf ql qo cd fg u_8 O r_10 a1 _ h) ⟨rfl, rfl⟩ m_Fu_bits k_Fu_66 ⟨Nat.le_of_ble_eq_true rfl, Nat.le_of_ble_eq_true rfl⟩ [0, 1, 2, 3] rfl 1 0 rfl rfl rfl rfl hl.1 rfl (Nat.le_of_ble_eq_true rfl) d_Fu_compute_51 hf0 (fun r_11 h => ?_)
    refine lv_iload_n hx hb d_Fu_compute_54 rfl (lv_at hl 2 rfl) ?_
    refine zz_Wv (As := [.long r_11, .int a1]) (rest := []) (wc := wF1 qo O) (wr := [(qu, .inr (1, [.ref qf, .int cd, .ref ql, .ref qo])), (qf, .inl (cI, 32, .inl fg)), (ql, .inr (0, [.int u_8.1, .int u_8.2.1, .int u_8.2.2.1, .long u_8.2.2.2]))]) X hK hP hD hS hA (c_Fr_unpack l D cI qo O r_11 a1 _ h _) ⟨rfl, rfl⟩ m_Fr_unpack k_Fu_70 ⟨Nat.le_of_ble_eq_true rfl, Nat.le_of_ble_eq_true rfl⟩ [3] [0, 1, 2] rfl rfl (by decide) (by decide) (by decide) 0 3 rfl rfl rfl rfl hl.1 rfl (Nat.le_of_ble_eq_true rfl) d_Fu_compute_55 hf0 (fun u_12 H locs h hP hD hS => ?_)
    have hP : va_P D vwCl (wU qu qf ql qo cI cd fg u_8 u_12) H := hP.sub [0, 1, 2, 3] rfl
    have hD : va_D A (wU qu qf ql qo cI cd fg u_8 u_12) := hD.sub [0, 1, 2, 3] (by decide) rfl
    refine lv_iload_n hx hb d_Fu_compute_58 rfl (lv_at hl 1 rfl) ?_
    refine lv_bipush (v := 63) hx hb d_Fu_compute_59 (by decide) ?_
    refine lv_iand hx hb d_Fu_compute_61 ?_
    by_cases c_14 : (a0 &&& (63 : Int32)) = (0 : Int32)
    · have h := h.1 c_14
      have h0 := c_14
      refine lv_tableIn (off := 26) (tgt := 88) hx hb d_Fu_compute_62 (by rw [h0]; decide) (by rw [h0]; decide) (by rw [h0]; rfl) (by decide) ?_
      refine lv_aload_n hx hb d_Fu_compute_88 rfl (lv_at hl 0 rfl) ?_
      refine g_Fu_18 (v := .ref ql) hx hb hT hown hK hP 0 rfl rfl d_Fu_compute_89 ?_
      refine lv_aload_n hx hb d_Fu_compute_92 rfl (lv_at hl 0 rfl) ?_
      refine g_Fu_22 (v := .ref qo) hx hb hT hown hK hP 0 rfl rfl d_Fu_compute_93 ?_
      refine zz_Wv (As := [.ref qo]) (rest := []) (wc := wF2 ql qo u_8 u_12) (wr := [(qu, .inr (1, [.ref qf, .int cd, .ref ql, .ref qo])), (qf, .inl (cI, 32, .inl fg))]) X hK hP hD hS hA (c_Fr_add l D cI ql qo u_8 u_12 _ h _) ⟨rfl, rfl⟩ m_Fr_add k_Fu_74 ⟨Nat.le_of_ble_eq_true rfl, Nat.le_of_ble_eq_true rfl⟩ [2, 3] [0, 1] rfl rfl (by decide) (by decide) (by decide) 0 2 rfl rfl rfl rfl hl.1 rfl (Nat.le_of_ble_eq_true rfl) d_Fu_compute_96 hf0 (fun u_15 H locs h hP hD hS => ?_)
      have hP : va_P D vwCl (wU qu qf ql qo cI cd fg u_15.1 u_15.2) H := hP.sub [0, 1, 2, 3] rfl
      have hD : va_D A (wU qu qf ql qo cI cd fg u_15.1 u_15.2) := hD.sub [0, 1, 2, 3] (by decide) rfl
      refine lv_goto (tgt := 148) hx hb d_Fu_compute_99 (by decide) ?_
      refine lv_aload_n hx hb d_Fu_compute_148 rfl (lv_at hl 0 rfl) ?_
      refine lv_iload_n hx hb d_Fu_compute_149 rfl (lv_at hl 1 rfl) ?_
      refine lv_aload_n hx hb d_Fu_compute_150 rfl (lv_at hl 0 rfl) ?_
      refine g_Fu_18 (v := .ref ql) hx hb hT hown hK hP 0 rfl rfl d_Fu_compute_151 ?_
      refine lv_iload_n hx hb d_Fu_compute_154 rfl (lv_at hl 2 rfl) ?_
      refine zz_Rl (As := [.int a1]) (rest := [.int a0, .ref qu]) (wc := wF1 ql u_15.1) X hK hP (c_Fr_pack l D cI ql u_15.1 a1 _ h) ⟨rfl, rfl⟩ m_Fr_pack k_Fu_87 ⟨Nat.le_of_ble_eq_true rfl, Nat.le_of_ble_eq_true rfl⟩ [2] rfl 0 2 rfl rfl rfl rfl hl.1 rfl (Nat.le_of_ble_eq_true rfl) d_Fu_compute_155 hf0 (fun r_17 h => ?_)
      refine lv_iload_n hx hb d_Fu_compute_158 rfl (lv_at hl 2 rfl) ?_
      refine zz_Wi (As := [.int a0, .long r_17, .int a1]) (rest := []) (wc := wU qu qf ql qo cI cd fg u_15.1 u_15.2) (wr := []) X hK hP hD hS hA (c_Fu_result l D cI qu qf ql qo cd fg u_15.1 u_15.2 a0 r_17 a1 _ h _) ⟨rfl, rfl⟩ m_Fu_result k_Fu_91 ⟨Nat.le_of_ble_eq_true rfl, Nat.le_of_ble_eq_true rfl⟩ [0, 1, 2, 3] [] rfl rfl (by decide) (by decide) (by decide) 1 0 rfl rfl rfl rfl hl.1 rfl (Nat.le_of_ble_eq_true rfl) d_Fu_compute_159 hf0 (fun r_19 u_18 H locs h hP hD hS => ?_)
      have hP : va_P D vwCl (wU qu qf ql qo cI u_18.1 u_18.2.1 u_18.2.2.1 u_18.2.2.2) H := hP.sub [0, 1, 2, 3] rfl
      have hD : va_D A (wU qu qf ql qo cI u_18.1 u_18.2.1 u_18.2.2.1 u_18.2.2.2) := hD.sub [0, 1, 2, 3] (by decide) rfl
      exact W.iret (v := r_19) hx hb hr (fun t ht hW => ⟨⟨r_19, (u_18.1, u_18.2.1, u_18.2.2.1, u_18.2.2.2), rfl, h, by rw [ht]; exact hP, hD⟩, hS.F ht⟩) hS.2.2 d_Fu_compute_162
    · have h := h.2 c_14
      by_cases c_20 : (a0 &&& (63 : Int32)) = (1 : Int32)
      · have h := h.1 c_20
        have h0 := c_20
        refine lv_tableIn (off := 40) (tgt := 102) hx hb d_Fu_compute_62 (by rw [h0]; decide) (by rw [h0]; decide) (by rw [h0]; rfl) (by decide) ?_
        refine lv_aload_n hx hb d_Fu_compute_102 rfl (lv_at hl 0 rfl) ?_
        refine g_Fu_22 (v := .ref qo) hx hb hT hown hK hP 0 rfl rfl d_Fu_compute_103 ?_
        refine zz_Wv (As := []) (rest := []) (wc := wF1 qo u_12) (wr := [(qu, .inr (1, [.ref qf, .int cd, .ref ql, .ref qo])), (qf, .inl (cI, 32, .inl fg)), (ql, .inr (0, [.int u_8.1, .int u_8.2.1, .int u_8.2.2.1, .long u_8.2.2.2]))]) X hK hP hD hS hA (c_Fr_negate l D cI qo u_12 _ h _) ⟨rfl, rfl⟩ m_Fr_negate k_Fu_78 ⟨Nat.le_of_ble_eq_true rfl, Nat.le_of_ble_eq_true rfl⟩ [3] [0, 1, 2] rfl rfl (by decide) (by decide) (by decide) 0 3 rfl rfl rfl rfl hl.1 rfl (Nat.le_of_ble_eq_true rfl) d_Fu_compute_106 hf0 (fun u_21 H locs h hP hD hS => ?_)
        have hP : va_P D vwCl (wU qu qf ql qo cI cd fg u_8 u_21) H := hP.sub [0, 1, 2, 3] rfl
        have hD : va_D A (wU qu qf ql qo cI cd fg u_8 u_21) := hD.sub [0, 1, 2, 3] (by decide) rfl
        refine lv_aload_n hx hb d_Fu_compute_109 rfl (lv_at hl 0 rfl) ?_
        refine g_Fu_18 (v := .ref ql) hx hb hT hown hK hP 0 rfl rfl d_Fu_compute_110 ?_
        refine lv_aload_n hx hb d_Fu_compute_113 rfl (lv_at hl 0 rfl) ?_
        refine g_Fu_22 (v := .ref qo) hx hb hT hown hK hP 0 rfl rfl d_Fu_compute_114 ?_
        refine zz_Wv (As := [.ref qo]) (rest := []) (wc := wF2 ql qo u_8 u_21) (wr := [(qu, .inr (1, [.ref qf, .int cd, .ref ql, .ref qo])), (qf, .inl (cI, 32, .inl fg))]) X hK hP hD hS hA (c_Fr_add l D cI ql qo u_8 u_21 _ h _) ⟨rfl, rfl⟩ m_Fr_add k_Fu_74 ⟨Nat.le_of_ble_eq_true rfl, Nat.le_of_ble_eq_true rfl⟩ [2, 3] [0, 1] rfl rfl (by decide) (by decide) (by decide) 0 2 rfl rfl rfl rfl hl.1 rfl (Nat.le_of_ble_eq_true rfl) d_Fu_compute_117 hf0 (fun u_23 H locs h hP hD hS => ?_)
        have hP : va_P D vwCl (wU qu qf ql qo cI cd fg u_23.1 u_23.2) H := hP.sub [0, 1, 2, 3] rfl
        have hD : va_D A (wU qu qf ql qo cI cd fg u_23.1 u_23.2) := hD.sub [0, 1, 2, 3] (by decide) rfl
        refine lv_goto (tgt := 148) hx hb d_Fu_compute_120 (by decide) ?_
        refine lv_aload_n hx hb d_Fu_compute_148 rfl (lv_at hl 0 rfl) ?_
        refine lv_iload_n hx hb d_Fu_compute_149 rfl (lv_at hl 1 rfl) ?_
        refine lv_aload_n hx hb d_Fu_compute_150 rfl (lv_at hl 0 rfl) ?_
        refine g_Fu_18 (v := .ref ql) hx hb hT hown hK hP 0 rfl rfl d_Fu_compute_151 ?_
        refine lv_iload_n hx hb d_Fu_compute_154 rfl (lv_at hl 2 rfl) ?_
        refine zz_Rl (As := [.int a1]) (rest := [.int a0, .ref qu]) (wc := wF1 ql u_23.1) X hK hP (c_Fr_pack l D cI ql u_23.1 a1 _ h) ⟨rfl, rfl⟩ m_Fr_pack k_Fu_87 ⟨Nat.le_of_ble_eq_true rfl, Nat.le_of_ble_eq_true rfl⟩ [2] rfl 0 2 rfl rfl rfl rfl hl.1 rfl (Nat.le_of_ble_eq_true rfl) d_Fu_compute_155 hf0 (fun r_25 h => ?_)
        refine lv_iload_n hx hb d_Fu_compute_158 rfl (lv_at hl 2 rfl) ?_
        refine zz_Wi (As := [.int a0, .long r_25, .int a1]) (rest := []) (wc := wU qu qf ql qo cI cd fg u_23.1 u_23.2) (wr := []) X hK hP hD hS hA (c_Fu_result l D cI qu qf ql qo cd fg u_23.1 u_23.2 a0 r_25 a1 _ h _) ⟨rfl, rfl⟩ m_Fu_result k_Fu_91 ⟨Nat.le_of_ble_eq_true rfl, Nat.le_of_ble_eq_true rfl⟩ [0, 1, 2, 3] [] rfl rfl (by decide) (by decide) (by decide) 1 0 rfl rfl rfl rfl hl.1 rfl (Nat.le_of_ble_eq_true rfl) d_Fu_compute_159 hf0 (fun r_27 u_26 H locs h hP hD hS => ?_)
        have hP : va_P D vwCl (wU qu qf ql qo cI u_26.1 u_26.2.1 u_26.2.2.1 u_26.2.2.2) H := hP.sub [0, 1, 2, 3] rfl
        have hD : va_D A (wU qu qf ql qo cI u_26.1 u_26.2.1 u_26.2.2.1 u_26.2.2.2) := hD.sub [0, 1, 2, 3] (by decide) rfl
        exact W.iret (v := r_27) hx hb hr (fun t ht hW => ⟨⟨r_27, (u_26.1, u_26.2.1, u_26.2.2.1, u_26.2.2.2), rfl, h, by rw [ht]; exact hP, hD⟩, hS.F ht⟩) hS.2.2 d_Fu_compute_162
      · have h := h.2 c_20
        by_cases c_28 : (a0 &&& (63 : Int32)) = (2 : Int32)
        · have h := h.1 c_28
          have h0 := c_28
          refine lv_tableIn (off := 61) (tgt := 123) hx hb d_Fu_compute_62 (by rw [h0]; decide) (by rw [h0]; decide) (by rw [h0]; rfl) (by decide) ?_
          refine lv_aload_n hx hb d_Fu_compute_123 rfl (lv_at hl 0 rfl) ?_
          refine g_Fu_18 (v := .ref ql) hx hb hT hown hK hP 0 rfl rfl d_Fu_compute_124 ?_
          refine lv_aload_n hx hb d_Fu_compute_127 rfl (lv_at hl 0 rfl) ?_
          refine g_Fu_22 (v := .ref qo) hx hb hT hown hK hP 0 rfl rfl d_Fu_compute_128 ?_
          refine zz_Wv (As := [.ref qo]) (rest := []) (wc := wF2 ql qo u_8 u_12) (wr := [(qu, .inr (1, [.ref qf, .int cd, .ref ql, .ref qo])), (qf, .inl (cI, 32, .inl fg))]) X hK hP hD hS hA (c_Fr_multiply l D cI ql qo u_8 u_12 _ h _) ⟨rfl, rfl⟩ m_Fr_multiply k_Fu_81 ⟨Nat.le_of_ble_eq_true rfl, Nat.le_of_ble_eq_true rfl⟩ [2, 3] [0, 1] rfl rfl (by decide) (by decide) (by decide) 0 2 rfl rfl rfl rfl hl.1 rfl (Nat.le_of_ble_eq_true rfl) d_Fu_compute_131 hf0 (fun u_29 H locs h hP hD hS => ?_)
          have hP : va_P D vwCl (wU qu qf ql qo cI cd fg u_29.1 u_29.2) H := hP.sub [0, 1, 2, 3] rfl
          have hD : va_D A (wU qu qf ql qo cI cd fg u_29.1 u_29.2) := hD.sub [0, 1, 2, 3] (by decide) rfl
          refine lv_goto (tgt := 148) hx hb d_Fu_compute_134 (by decide) ?_
          refine lv_aload_n hx hb d_Fu_compute_148 rfl (lv_at hl 0 rfl) ?_
          refine lv_iload_n hx hb d_Fu_compute_149 rfl (lv_at hl 1 rfl) ?_
          refine lv_aload_n hx hb d_Fu_compute_150 rfl (lv_at hl 0 rfl) ?_
          refine g_Fu_18 (v := .ref ql) hx hb hT hown hK hP 0 rfl rfl d_Fu_compute_151 ?_
          refine lv_iload_n hx hb d_Fu_compute_154 rfl (lv_at hl 2 rfl) ?_
          refine zz_Rl (As := [.int a1]) (rest := [.int a0, .ref qu]) (wc := wF1 ql u_29.1) X hK hP (c_Fr_pack l D cI ql u_29.1 a1 _ h) ⟨rfl, rfl⟩ m_Fr_pack k_Fu_87 ⟨Nat.le_of_ble_eq_true rfl, Nat.le_of_ble_eq_true rfl⟩ [2] rfl 0 2 rfl rfl rfl rfl hl.1 rfl (Nat.le_of_ble_eq_true rfl) d_Fu_compute_155 hf0 (fun r_31 h => ?_)
          refine lv_iload_n hx hb d_Fu_compute_158 rfl (lv_at hl 2 rfl) ?_
          refine zz_Wi (As := [.int a0, .long r_31, .int a1]) (rest := []) (wc := wU qu qf ql qo cI cd fg u_29.1 u_29.2) (wr := []) X hK hP hD hS hA (c_Fu_result l D cI qu qf ql qo cd fg u_29.1 u_29.2 a0 r_31 a1 _ h _) ⟨rfl, rfl⟩ m_Fu_result k_Fu_91 ⟨Nat.le_of_ble_eq_true rfl, Nat.le_of_ble_eq_true rfl⟩ [0, 1, 2, 3] [] rfl rfl (by decide) (by decide) (by decide) 1 0 rfl rfl rfl rfl hl.1 rfl (Nat.le_of_ble_eq_true rfl) d_Fu_compute_159 hf0 (fun r_33 u_32 H locs h hP hD hS => ?_)
          have hP : va_P D vwCl (wU qu qf ql qo cI u_32.1 u_32.2.1 u_32.2.2.1 u_32.2.2.2) H := hP.sub [0, 1, 2, 3] rfl
          have hD : va_D A (wU qu qf ql qo cI u_32.1 u_32.2.1 u_32.2.2.1 u_32.2.2.2) := hD.sub [0, 1, 2, 3] (by decide) rfl
          exact W.iret (v := r_33) hx hb hr (fun t ht hW => ⟨⟨r_33, (u_32.1, u_32.2.1, u_32.2.2.1, u_32.2.2.2), rfl, h, by rw [ht]; exact hP, hD⟩, hS.F ht⟩) hS.2.2 d_Fu_compute_162
        · have h := h.2 c_28
          refine zz_swD (tgt := 137) hx hb [0, 1, 2] d_Fu_compute_62 (by decide +kernel) (by decide) (List.forall_mem_cons.mpr ⟨lv_neT (k := 0) c_14 (by decide), List.forall_mem_cons.mpr ⟨lv_neT (k := 1) c_20 (by decide), List.forall_mem_cons.mpr ⟨lv_neT (k := 2) c_28 (by decide), fun _ h9 => nomatch h9⟩⟩⟩) (by decide) ?_
          refine lv_aload_n hx hb d_Fu_compute_137 rfl (lv_at hl 0 rfl) ?_
          refine g_Fu_18 (v := .ref ql) hx hb hT hown hK hP 0 rfl rfl d_Fu_compute_138 ?_
          refine lv_aload_n hx hb d_Fu_compute_141 rfl (lv_at hl 0 rfl) ?_
          refine g_Fu_22 (v := .ref qo) hx hb hT hown hK hP 0 rfl rfl d_Fu_compute_142 ?_
          refine zz_Wv (As := [.ref qo]) (rest := []) (wc := wF2 ql qo u_8 u_12) (wr := [(qu, .inr (1, [.ref qf, .int cd, .ref ql, .ref qo])), (qf, .inl (cI, 32, .inl fg))]) X hK hP hD hS hA (c_Fr_divide l D cI ql qo u_8 u_12 _ h _) ⟨rfl, rfl⟩ m_Fr_divide k_Fu_84 ⟨Nat.le_of_ble_eq_true rfl, Nat.le_of_ble_eq_true rfl⟩ [2, 3] [0, 1] rfl rfl (by decide) (by decide) (by decide) 0 2 rfl rfl rfl rfl hl.1 rfl (Nat.le_of_ble_eq_true rfl) d_Fu_compute_145 hf0 (fun u_34 H locs h hP hD hS => ?_)
          have hP : va_P D vwCl (wU qu qf ql qo cI cd fg u_34.1 u_34.2) H := hP.sub [0, 1, 2, 3] rfl
          have hD : va_D A (wU qu qf ql qo cI cd fg u_34.1 u_34.2) := hD.sub [0, 1, 2, 3] (by decide) rfl
          refine lv_aload_n hx hb d_Fu_compute_148 rfl (lv_at hl 0 rfl) ?_
          refine lv_iload_n hx hb d_Fu_compute_149 rfl (lv_at hl 1 rfl) ?_
          refine lv_aload_n hx hb d_Fu_compute_150 rfl (lv_at hl 0 rfl) ?_
          refine g_Fu_18 (v := .ref ql) hx hb hT hown hK hP 0 rfl rfl d_Fu_compute_151 ?_
          refine lv_iload_n hx hb d_Fu_compute_154 rfl (lv_at hl 2 rfl) ?_
          refine zz_Rl (As := [.int a1]) (rest := [.int a0, .ref qu]) (wc := wF1 ql u_34.1) X hK hP (c_Fr_pack l D cI ql u_34.1 a1 _ h) ⟨rfl, rfl⟩ m_Fr_pack k_Fu_87 ⟨Nat.le_of_ble_eq_true rfl, Nat.le_of_ble_eq_true rfl⟩ [2] rfl 0 2 rfl rfl rfl rfl hl.1 rfl (Nat.le_of_ble_eq_true rfl) d_Fu_compute_155 hf0 (fun r_36 h => ?_)
          refine lv_iload_n hx hb d_Fu_compute_158 rfl (lv_at hl 2 rfl) ?_
          refine zz_Wi (As := [.int a0, .long r_36, .int a1]) (rest := []) (wc := wU qu qf ql qo cI cd fg u_34.1 u_34.2) (wr := []) X hK hP hD hS hA (c_Fu_result l D cI qu qf ql qo cd fg u_34.1 u_34.2 a0 r_36 a1 _ h _) ⟨rfl, rfl⟩ m_Fu_result k_Fu_91 ⟨Nat.le_of_ble_eq_true rfl, Nat.le_of_ble_eq_true rfl⟩ [0, 1, 2, 3] [] rfl rfl (by decide) (by decide) (by decide) 1 0 rfl rfl rfl rfl hl.1 rfl (Nat.le_of_ble_eq_true rfl) d_Fu_compute_159 hf0 (fun r_38 u_37 H locs h hP hD hS => ?_)
          have hP : va_P D vwCl (wU qu qf ql qo cI u_37.1 u_37.2.1 u_37.2.2.1 u_37.2.2.2) H := hP.sub [0, 1, 2, 3] rfl
          have hD : va_D A (wU qu qf ql qo cI u_37.1 u_37.2.1 u_37.2.2.1 u_37.2.2.2) := hD.sub [0, 1, 2, 3] (by decide) rfl
          exact W.iret (v := r_38) hx hb hr (fun t ht hW => ⟨⟨r_38, (u_37.1, u_37.2.1, u_37.2.2.1, u_37.2.2.2), rfl, h, by rw [ht]; exact hP, hD⟩, hS.F ht⟩) hS.2.2 d_Fu_compute_162
  · skip
    have h := h.2 c_5
    refine lv_bipush (v := 8) hx hb d_Fu_compute_21 (by decide) ?_
    exact W.iret (v := (8 : Int32)) hx hb hr (fun t ht hW => ⟨⟨(8 : Int32), (cd, fg, L, O), rfl, h, by rw [ht]; exact hP, hD⟩, hS.F ht⟩) hS.2.2 d_Fu_compute_23
def wp_Fu_change (cd : Int32) (fg : Nat → Int32) (L : Int32 × Int32 × Int32 × Int64) (O : Int32 × Int32 × Int32 × Int64) (a0 : Int32) (a1 : Int32) (P : Int32 → (Int32 × (Nat → Int32) × (Int32 × Int32 × Int32 × Int64) × (Int32 × Int32 × Int32 × Int64)) → Prop) : Prop := wp_Fu_fs a0 (fun r_1 => wp_Fu_fd a0 (fun r_2 => wp_Fu_odd a1 (r_1 ||| r_2) (fun r_3 => ((r_3 = (0 : Int32) → wp_Fu_fs a0 (fun r_5 => wp_Fu_bits cd fg L O r_5 a1 (fun r_6 => wp_Fr_unpack L r_6 a1 (fun u_7 => ((((a0 &&& (63 : Int32)) = (4 : Int32)) → wp_Fr_root u_7 (fun u_10 => wp_Fr_pack u_10 a1 (fun r_12 => wp_Fu_result cd fg u_10 O a0 r_12 a1 (fun r_14 u_13 => P r_14 (u_13.1, u_13.2.1, u_13.2.2.1, u_13.2.2.2))))) ∧ (¬ ((a0 &&& (63 : Int32)) = (4 : Int32)) → ((((a0 &&& (63 : Int32)) = (5 : Int32)) → wp_Fr_dropSign u_7 (fun u_16 => wp_Fr_pack u_16 a1 (fun r_18 => wp_Fu_result cd fg u_16 O a0 r_18 a1 (fun r_20 u_19 => P r_20 (u_19.1, u_19.2.1, u_19.2.2.1, u_19.2.2.2))))) ∧ (¬ ((a0 &&& (63 : Int32)) = (5 : Int32)) → ((((a0 &&& (63 : Int32)) = (6 : Int32)) → wp_Fu_result cd fg u_7 O a0 r_6 a1 (fun r_23 u_22 => P r_23 (u_22.1, u_22.2.1, u_22.2.2.1, u_22.2.2.2))) ∧ (¬ ((a0 &&& (63 : Int32)) = (6 : Int32)) → wp_Fr_negate u_7 (fun u_24 => wp_Fr_pack u_24 a1 (fun r_26 => wp_Fu_result cd fg u_24 O a0 r_26 a1 (fun r_28 u_27 => P r_28 (u_27.1, u_27.2.1, u_27.2.2.1, u_27.2.2.2)))))))))))))) ∧ (¬ r_3 = (0 : Int32) → P (8 : Int32) (cd, fg, L, O))))))
abbrev rm_Fu_change : Room := { frames := 3, cells := 0, slots := 0, locals := 77 }
set_option maxHeartbeats 4000000 in
set_option maxRecDepth 100000 in
theorem c_Fu_change (l : Launch) (D : va_G) (cI : ClassId) (qu : Nat) (qf : Nat) (ql : Nat) (qo : Nat) (cd : Int32) (fg : Nat → Int32) (L : Int32 × Int32 × Int32 × Int64) (O : Int32 × Int32 × Int32 × Int64) (a0 : Int32) (a1 : Int32) (P : Int32 → (Int32 × (Nat → Int32) × (Int32 × Int32 × Int32 × Int64) × (Int32 × Int32 × Int32 × Int64)) → Prop) (h : wp_Fu_change cd fg L O a0 a1 P) (sz : Nat) : Met l y_Fu_change (zz_ws y_Fu_change b_Fu_change 5 (some .int)) rm_Fu_change (va_Pc [.ref qu, .int a0, .int a1] (zz_pw D [(cI, .int)] (wU qu qf ql qo cI cd fg L O) sz)) (va_Qi P (zz_qw D (fun u => wU qu qf ql qo cI u.1 u.2.1 u.2.2.1 u.2.2.2) (va_A (wU qu qf ql qo cI cd fg L O) sz)) (va_A (wU qu qf ql qo cI cd fg L O) sz)) 0 0 (va_A (wU qu qf ql qo cI cd fg L O) sz) := by
  refine Met.ofW (cc := b_Fu_change) (maxL := 5) (ret := (some .int)) (by decide) rfl ?_
  intro p e s m args below meth c s₁ B hml hv
  obtain ⟨rfl, hsz, hP, hK, hD0⟩ := hv
  have hx := B.exec
  have hb := B.bytes
  have hr := B.returns
  have hts := atoms_spec (ws := (zz_ws y_Fu_change b_Fu_change 5 (some .int))) B.pre
  have hown : s.vm.findClass R_Fu = some m.cls := findClass_of_methodNamed B.named
  have hlocks := B.notSynchronized
  have hT := zz_hts hts
  have X : CallFix p m c b_Fu_change 5 s ([.ref qu, .int a0, .int a1] : List Value).toArray (zz_ws y_Fu_change b_Fu_change 5 (some .int)) R_Fu := ⟨hx, hb, hml, hown, hts⟩
  have hf0 : 0 + 0 ≤ (headSpec (zz_ws y_Fu_change b_Fu_change 5 (some .int)) rm_Fu_change).room.cells ∧ 0 + 0 ≤ (headSpec (zz_ws y_Fu_change b_Fu_change 5 (some .int)) rm_Fu_change).room.slots := ⟨Nat.le_of_ble_eq_true rfl, Nat.le_of_ble_eq_true rfl⟩
  subst hsz
  have hD := hD0.self (sz := s.heap.size)
  generalize hAe : va_A (wU qu qf ql qo cI cd fg L O) s.heap.size = A at hD ⊢
  have hA : ∀ q : Nat, s.heap.size ≤ q → A q := fun q h => by rw [← hAe]; exact Or.inr h
  have hS : va_S A s.heap s.heap [] := va_S.rf
  have hl := lv_entry ([.ref qu, .int a0, .int a1]) (n := 5) (Nat.le_of_ble_eq_true rfl)
  rw [lg_entry_eq]
  generalize (lg_sl ([.ref qu, .int a0, .int a1]) ++ List.replicate (5 - (lg_sl ([.ref qu, .int a0, .int a1])).length) Slot.unset).toArray = ls at hl ⊢
  have hl : lv_has ls 5 [(0, .ref qu), (1, .int a0), (2, .int a1)] := hl
  refine lv_iload_n hx hb d_Fu_change_0 rfl (lv_at hl 2 rfl) ?_
  refine lv_iload_n hx hb d_Fu_change_1 rfl (lv_at hl 1 rfl) ?_
  refine zz_Si (As := [.int a0]) (rest := [.int a1]) X (c_Fu_fs l a0 _ h) ⟨rfl, rfl⟩ m_Fu_fs k_Fu_53 ⟨Nat.le_of_ble_eq_true rfl, Nat.le_of_ble_eq_true rfl⟩ rfl hl.1 rfl (Nat.le_of_ble_eq_true rfl) d_Fu_change_2 hf0 (fun r_1 h => ?_)
  refine lv_iload_n hx hb d_Fu_change_5 rfl (lv_at hl 1 rfl) ?_
  refine zz_Si (As := [.int a0]) (rest := [.int r_1, .int a1]) X (c_Fu_fd l a0 _ h) ⟨rfl, rfl⟩ m_Fu_fd k_Fu_59 ⟨Nat.le_of_ble_eq_true rfl, Nat.le_of_ble_eq_true rfl⟩ rfl hl.1 rfl (Nat.le_of_ble_eq_true rfl) d_Fu_change_6 hf0 (fun r_2 h => ?_)
  refine lv_ior hx hb d_Fu_change_9 ?_
  refine zz_Si (As := [.int a1, .int (r_1 ||| r_2)]) (rest := []) X (c_Fu_odd l a1 (r_1 ||| r_2) _ h) ⟨rfl, rfl⟩ m_Fu_odd k_Fu_62 ⟨Nat.le_of_ble_eq_true rfl, Nat.le_of_ble_eq_true rfl⟩ rfl hl.1 rfl (Nat.le_of_ble_eq_true rfl) d_Fu_change_10 hf0 (fun r_3 h => ?_)
  refine lv_if_eq (tgt := 19) hx hb d_Fu_change_13 (by decide) (fun c_4 => ?_) (fun c_4 => ?_)
  · skip
    have h := h.1 c_4
    refine lv_aload_n hx hb d_Fu_change_19 rfl (lv_at hl 0 rfl) ?_
    refine lv_iload_n hx hb d_Fu_change_20 rfl (lv_at hl 1 rfl) ?_
    refine zz_Si (As := [.int a0]) (rest := [.ref qu]) X (c_Fu_fs l a0 _ h) ⟨rfl, rfl⟩ m_Fu_fs k_Fu_53 ⟨Nat.le_of_ble_eq_true rfl, Nat.le_of_ble_eq_true rfl⟩ rfl hl.1 rfl (Nat.le_of_ble_eq_true rfl) d_Fu_change_21 hf0 (fun r_5 h => ?_)
    refine lv_iload_n hx hb d_Fu_change_24 rfl (lv_at hl 2 rfl) ?_
    refine zz_Rl (As := [.int r_5, .int a1]) (rest := []) (wc := wU qu qf ql qo cI cd fg L O) X hK hP (c_Fu_bits l D cI qu qf ql qo cd fg L O r_5 a1 _ h) ⟨rfl, rfl⟩ m_Fu_bits k_Fu_66 ⟨Nat.le_of_ble_eq_true rfl, Nat.le_of_ble_eq_true rfl⟩ [0, 1, 2, 3] rfl 1 0 rfl rfl rfl rfl hl.1 rfl (Nat.le_of_ble_eq_true rfl) d_Fu_change_25 hf0 (fun r_6 h => ?_)
    refine lv_lstore_n (lv' := [(3, .long r_6), (0, .ref qu), (1, .int a0), (2, .int a1)]) hx hb d_Fu_change_28 rfl hl (by decide) rfl (fun ls hl => ?_)
    refine lv_aload_n hx hb d_Fu_change_29 rfl (lv_at hl 1 rfl) ?_
    refine g_Fu_18 (v := .ref ql) hx hb hT hown hK hP 0 rfl rfl d_Fu_change_30 ?_
    refine lv_lload_n hx hb d_Fu_change_33 rfl (lv_at hl 0 rfl) ?_
    refine lv_iload_n hx hb d_Fu_change_34 rfl (lv_at hl 3 rfl) ?_
    refine zz_Wv (As := [.long r_6, .int a1]) (rest := []) (wc := wF1 ql L) (wr := [(qu, .inr (1, [.ref qf, .int cd, .ref ql, .ref qo])), (qf, .inl (cI, 32, .inl fg)), (qo, .inr (0, [.int O.1, .int O.2.1, .int O.2.2.1, .long O.2.2.2]))]) X hK hP hD hS hA (c_Fr_unpack l D cI ql L r_6 a1 _ h _) ⟨rfl, rfl⟩ m_Fr_unpack k_Fu_70 ⟨Nat.le_of_ble_eq_true rfl, Nat.le_of_ble_eq_true rfl⟩ [2] [0, 1, 3] rfl rfl (by decide) (by decide) (by decide) 0 2 rfl rfl rfl rfl hl.1 rfl (Nat.le_of_ble_eq_true rfl) d_Fu_change_35 hf0 (fun u_7 H locs h hP hD hS => ?_)
    have hP : va_P D vwCl (wU qu qf ql qo cI cd fg u_7 O) H := hP.sub [0, 1, 3, 2] rfl
    have hD : va_D A (wU qu qf ql qo cI cd fg u_7 O) := hD.sub [0, 1, 3, 2] (by decide) rfl
    refine lv_iload_n hx hb d_Fu_change_38 rfl (lv_at hl 2 rfl) ?_
    refine lv_bipush (v := 63) hx hb d_Fu_change_39 (by decide) ?_
    refine lv_iand hx hb d_Fu_change_41 ?_
    by_cases c_9 : (a0 &&& (63 : Int32)) = (4 : Int32)
    · have h := h.1 c_9
      have h0 := c_9
      refine lv_tableIn (off := 26) (tgt := 68) hx hb d_Fu_change_42 (by rw [h0]; decide) (by rw [h0]; decide) (by rw [h0]; rfl) (by decide) ?_
      refine lv_aload_n hx hb d_Fu_change_68 rfl (lv_at hl 1 rfl) ?_
      refine g_Fu_18 (v := .ref ql) hx hb hT hown hK hP 0 rfl rfl d_Fu_change_69 ?_
      refine zz_Wv (As := []) (rest := []) (wc := wF1 ql u_7) (wr := [(qu, .inr (1, [.ref qf, .int cd, .ref ql, .ref qo])), (qf, .inl (cI, 32, .inl fg)), (qo, .inr (0, [.int O.1, .int O.2.1, .int O.2.2.1, .long O.2.2.2]))]) X hK hP hD hS hA (c_Fr_root l D cI ql u_7 _ h _) ⟨rfl, rfl⟩ m_Fr_root k_Fu_95 ⟨Nat.le_of_ble_eq_true rfl, Nat.le_of_ble_eq_true rfl⟩ [2] [0, 1, 3] rfl rfl (by decide) (by decide) (by decide) 0 2 rfl rfl rfl rfl hl.1 rfl (Nat.le_of_ble_eq_true rfl) d_Fu_change_72 hf0 (fun u_10 H locs h hP hD hS => ?_)
      have hP : va_P D vwCl (wU qu qf ql qo cI cd fg u_10 O) H := hP.sub [0, 1, 3, 2] rfl
      have hD : va_D A (wU qu qf ql qo cI cd fg u_10 O) := hD.sub [0, 1, 3, 2] (by decide) rfl
      refine lv_goto (tgt := 103) hx hb d_Fu_change_75 (by decide) ?_
      refine lv_aload_n hx hb d_Fu_change_103 rfl (lv_at hl 1 rfl) ?_
      refine lv_iload_n hx hb d_Fu_change_104 rfl (lv_at hl 2 rfl) ?_
      refine lv_aload_n hx hb d_Fu_change_105 rfl (lv_at hl 1 rfl) ?_
      refine g_Fu_18 (v := .ref ql) hx hb hT hown hK hP 0 rfl rfl d_Fu_change_106 ?_
      refine lv_iload_n hx hb d_Fu_change_109 rfl (lv_at hl 3 rfl) ?_
      refine zz_Rl (As := [.int a1]) (rest := [.int a0, .ref qu]) (wc := wF1 ql u_10) X hK hP (c_Fr_pack l D cI ql u_10 a1 _ h) ⟨rfl, rfl⟩ m_Fr_pack k_Fu_87 ⟨Nat.le_of_ble_eq_true rfl, Nat.le_of_ble_eq_true rfl⟩ [2] rfl 0 2 rfl rfl rfl rfl hl.1 rfl (Nat.le_of_ble_eq_true rfl) d_Fu_change_110 hf0 (fun r_12 h => ?_)
      refine lv_iload_n hx hb d_Fu_change_113 rfl (lv_at hl 3 rfl) ?_
      refine zz_Wi (As := [.int a0, .long r_12, .int a1]) (rest := []) (wc := wU qu qf ql qo cI cd fg u_10 O) (wr := []) X hK hP hD hS hA (c_Fu_result l D cI qu qf ql qo cd fg u_10 O a0 r_12 a1 _ h _) ⟨rfl, rfl⟩ m_Fu_result k_Fu_91 ⟨Nat.le_of_ble_eq_true rfl, Nat.le_of_ble_eq_true rfl⟩ [0, 1, 2, 3] [] rfl rfl (by decide) (by decide) (by decide) 1 0 rfl rfl rfl rfl hl.1 rfl (Nat.le_of_ble_eq_true rfl) d_Fu_change_114 hf0 (fun r_14 u_13 H locs h hP hD hS => ?_)
      have hP : va_P D vwCl (wU qu qf ql qo cI u_13.1 u_13.2.1 u_13.2.2.1 u_13.2.2.2) H := hP.sub [0, 1, 2, 3] rfl
      have hD : va_D A (wU qu qf ql qo cI u_13.1 u_13.2.1 u_13.2.2.1 u_13.2.2.2) := hD.sub [0, 1, 2, 3] (by decide) rfl
      exact W.iret (v := r_14) hx hb hr (fun t ht hW => ⟨⟨r_14, (u_13.1, u_13.2.1, u_13.2.2.1, u_13.2.2.2), rfl, h, by rw [ht]; exact hP, hD⟩, hS.F ht⟩) hS.2.2 d_Fu_change_117
    · have h := h.2 c_9
      by_cases c_15 : (a0 &&& (63 : Int32)) = (5 : Int32)
      · have h := h.1 c_15
        have h0 := c_15
        refine lv_tableIn (off := 36) (tgt := 78) hx hb d_Fu_change_42 (by rw [h0]; decide) (by rw [h0]; decide) (by rw [h0]; rfl) (by decide) ?_
        refine lv_aload_n hx hb d_Fu_change_78 rfl (lv_at hl 1 rfl) ?_
        refine g_Fu_18 (v := .ref ql) hx hb hT hown hK hP 0 rfl rfl d_Fu_change_79 ?_
        refine zz_Wv (As := []) (rest := []) (wc := wF1 ql u_7) (wr := [(qu, .inr (1, [.ref qf, .int cd, .ref ql, .ref qo])), (qf, .inl (cI, 32, .inl fg)), (qo, .inr (0, [.int O.1, .int O.2.1, .int O.2.2.1, .long O.2.2.2]))]) X hK hP hD hS hA (c_Fr_dropSign l D cI ql u_7 _ h _) ⟨rfl, rfl⟩ m_Fr_dropSign k_Fu_98 ⟨Nat.le_of_ble_eq_true rfl, Nat.le_of_ble_eq_true rfl⟩ [2] [0, 1, 3] rfl rfl (by decide) (by decide) (by decide) 0 2 rfl rfl rfl rfl hl.1 rfl (Nat.le_of_ble_eq_true rfl) d_Fu_change_82 hf0 (fun u_16 H locs h hP hD hS => ?_)
        have hP : va_P D vwCl (wU qu qf ql qo cI cd fg u_16 O) H := hP.sub [0, 1, 3, 2] rfl
        have hD : va_D A (wU qu qf ql qo cI cd fg u_16 O) := hD.sub [0, 1, 3, 2] (by decide) rfl
        refine lv_goto (tgt := 103) hx hb d_Fu_change_85 (by decide) ?_
        refine lv_aload_n hx hb d_Fu_change_103 rfl (lv_at hl 1 rfl) ?_
        refine lv_iload_n hx hb d_Fu_change_104 rfl (lv_at hl 2 rfl) ?_
        refine lv_aload_n hx hb d_Fu_change_105 rfl (lv_at hl 1 rfl) ?_
        refine g_Fu_18 (v := .ref ql) hx hb hT hown hK hP 0 rfl rfl d_Fu_change_106 ?_
        refine lv_iload_n hx hb d_Fu_change_109 rfl (lv_at hl 3 rfl) ?_
        refine zz_Rl (As := [.int a1]) (rest := [.int a0, .ref qu]) (wc := wF1 ql u_16) X hK hP (c_Fr_pack l D cI ql u_16 a1 _ h) ⟨rfl, rfl⟩ m_Fr_pack k_Fu_87 ⟨Nat.le_of_ble_eq_true rfl, Nat.le_of_ble_eq_true rfl⟩ [2] rfl 0 2 rfl rfl rfl rfl hl.1 rfl (Nat.le_of_ble_eq_true rfl) d_Fu_change_110 hf0 (fun r_18 h => ?_)
        refine lv_iload_n hx hb d_Fu_change_113 rfl (lv_at hl 3 rfl) ?_
        refine zz_Wi (As := [.int a0, .long r_18, .int a1]) (rest := []) (wc := wU qu qf ql qo cI cd fg u_16 O) (wr := []) X hK hP hD hS hA (c_Fu_result l D cI qu qf ql qo cd fg u_16 O a0 r_18 a1 _ h _) ⟨rfl, rfl⟩ m_Fu_result k_Fu_91 ⟨Nat.le_of_ble_eq_true rfl, Nat.le_of_ble_eq_true rfl⟩ [0, 1, 2, 3] [] rfl rfl (by decide) (by decide) (by decide) 1 0 rfl rfl rfl rfl hl.1 rfl (Nat.le_of_ble_eq_true rfl) d_Fu_change_114 hf0 (fun r_20 u_19 H locs h hP hD hS => ?_)
        have hP : va_P D vwCl (wU qu qf ql qo cI u_19.1 u_19.2.1 u_19.2.2.1 u_19.2.2.2) H := hP.sub [0, 1, 2, 3] rfl
        have hD : va_D A (wU qu qf ql qo cI u_19.1 u_19.2.1 u_19.2.2.1 u_19.2.2.2) := hD.sub [0, 1, 2, 3] (by decide) rfl
        exact W.iret (v := r_20) hx hb hr (fun t ht hW => ⟨⟨r_20, (u_19.1, u_19.2.1, u_19.2.2.1, u_19.2.2.2), rfl, h, by rw [ht]; exact hP, hD⟩, hS.F ht⟩) hS.2.2 d_Fu_change_117
      · have h := h.2 c_15
        by_cases c_21 : (a0 &&& (63 : Int32)) = (6 : Int32)
        · have h := h.1 c_21
          have h0 := c_21
          refine lv_tableIn (off := 46) (tgt := 88) hx hb d_Fu_change_42 (by rw [h0]; decide) (by rw [h0]; decide) (by rw [h0]; rfl) (by decide) ?_
          refine lv_aload_n hx hb d_Fu_change_88 rfl (lv_at hl 1 rfl) ?_
          refine lv_iload_n hx hb d_Fu_change_89 rfl (lv_at hl 2 rfl) ?_
          refine lv_lload_n hx hb d_Fu_change_90 rfl (lv_at hl 0 rfl) ?_
          refine lv_iload_n hx hb d_Fu_change_91 rfl (lv_at hl 3 rfl) ?_
          refine zz_Wi (As := [.int a0, .long r_6, .int a1]) (rest := []) (wc := wU qu qf ql qo cI cd fg u_7 O) (wr := []) X hK hP hD hS hA (c_Fu_result l D cI qu qf ql qo cd fg u_7 O a0 r_6 a1 _ h _) ⟨rfl, rfl⟩ m_Fu_result k_Fu_91 ⟨Nat.le_of_ble_eq_true rfl, Nat.le_of_ble_eq_true rfl⟩ [0, 1, 2, 3] [] rfl rfl (by decide) (by decide) (by decide) 1 0 rfl rfl rfl rfl hl.1 rfl (Nat.le_of_ble_eq_true rfl) d_Fu_change_92 hf0 (fun r_23 u_22 H locs h hP hD hS => ?_)
          have hP : va_P D vwCl (wU qu qf ql qo cI u_22.1 u_22.2.1 u_22.2.2.1 u_22.2.2.2) H := hP.sub [0, 1, 2, 3] rfl
          have hD : va_D A (wU qu qf ql qo cI u_22.1 u_22.2.1 u_22.2.2.1 u_22.2.2.2) := hD.sub [0, 1, 2, 3] (by decide) rfl
          exact W.iret (v := r_23) hx hb hr (fun t ht hW => ⟨⟨r_23, (u_22.1, u_22.2.1, u_22.2.2.1, u_22.2.2.2), rfl, h, by rw [ht]; exact hP, hD⟩, hS.F ht⟩) hS.2.2 d_Fu_change_95
        · have h := h.2 c_21
          refine zz_swD (tgt := 96) hx hb [4, 5, 6] d_Fu_change_42 (by decide +kernel) (by decide) (List.forall_mem_cons.mpr ⟨lv_neT (k := 4) c_9 (by decide), List.forall_mem_cons.mpr ⟨lv_neT (k := 5) c_15 (by decide), List.forall_mem_cons.mpr ⟨lv_neT (k := 6) c_21 (by decide), fun _ h9 => nomatch h9⟩⟩⟩) (by decide) ?_
          refine lv_aload_n hx hb d_Fu_change_96 rfl (lv_at hl 1 rfl) ?_
          refine g_Fu_18 (v := .ref ql) hx hb hT hown hK hP 0 rfl rfl d_Fu_change_97 ?_
          refine zz_Wv (As := []) (rest := []) (wc := wF1 ql u_7) (wr := [(qu, .inr (1, [.ref qf, .int cd, .ref ql, .ref qo])), (qf, .inl (cI, 32, .inl fg)), (qo, .inr (0, [.int O.1, .int O.2.1, .int O.2.2.1, .long O.2.2.2]))]) X hK hP hD hS hA (c_Fr_negate l D cI ql u_7 _ h _) ⟨rfl, rfl⟩ m_Fr_negate k_Fu_78 ⟨Nat.le_of_ble_eq_true rfl, Nat.le_of_ble_eq_true rfl⟩ [2] [0, 1, 3] rfl rfl (by decide) (by decide) (by decide) 0 2 rfl rfl rfl rfl hl.1 rfl (Nat.le_of_ble_eq_true rfl) d_Fu_change_100 hf0 (fun u_24 H locs h hP hD hS => ?_)
          have hP : va_P D vwCl (wU qu qf ql qo cI cd fg u_24 O) H := hP.sub [0, 1, 3, 2] rfl
          have hD : va_D A (wU qu qf ql qo cI cd fg u_24 O) := hD.sub [0, 1, 3, 2] (by decide) rfl
          refine lv_aload_n hx hb d_Fu_change_103 rfl (lv_at hl 1 rfl) ?_
          refine lv_iload_n hx hb d_Fu_change_104 rfl (lv_at hl 2 rfl) ?_
          refine lv_aload_n hx hb d_Fu_change_105 rfl (lv_at hl 1 rfl) ?_
          refine g_Fu_18 (v := .ref ql) hx hb hT hown hK hP 0 rfl rfl d_Fu_change_106 ?_
          refine lv_iload_n hx hb d_Fu_change_109 rfl (lv_at hl 3 rfl) ?_
          refine zz_Rl (As := [.int a1]) (rest := [.int a0, .ref qu]) (wc := wF1 ql u_24) X hK hP (c_Fr_pack l D cI ql u_24 a1 _ h) ⟨rfl, rfl⟩ m_Fr_pack k_Fu_87 ⟨Nat.le_of_ble_eq_true rfl, Nat.le_of_ble_eq_true rfl⟩ [2] rfl 0 2 rfl rfl rfl rfl hl.1 rfl (Nat.le_of_ble_eq_true rfl) d_Fu_change_110 hf0 (fun r_26 h => ?_)
          refine lv_iload_n hx hb d_Fu_change_113 rfl (lv_at hl 3 rfl) ?_
          refine zz_Wi (As := [.int a0, .long r_26, .int a1]) (rest := []) (wc := wU qu qf ql qo cI cd fg u_24 O) (wr := []) X hK hP hD hS hA (c_Fu_result l D cI qu qf ql qo cd fg u_24 O a0 r_26 a1 _ h _) ⟨rfl, rfl⟩ m_Fu_result k_Fu_91 ⟨Nat.le_of_ble_eq_true rfl, Nat.le_of_ble_eq_true rfl⟩ [0, 1, 2, 3] [] rfl rfl (by decide) (by decide) (by decide) 1 0 rfl rfl rfl rfl hl.1 rfl (Nat.le_of_ble_eq_true rfl) d_Fu_change_114 hf0 (fun r_28 u_27 H locs h hP hD hS => ?_)
          have hP : va_P D vwCl (wU qu qf ql qo cI u_27.1 u_27.2.1 u_27.2.2.1 u_27.2.2.2) H := hP.sub [0, 1, 2, 3] rfl
          have hD : va_D A (wU qu qf ql qo cI u_27.1 u_27.2.1 u_27.2.2.1 u_27.2.2.2) := hD.sub [0, 1, 2, 3] (by decide) rfl
          exact W.iret (v := r_28) hx hb hr (fun t ht hW => ⟨⟨r_28, (u_27.1, u_27.2.1, u_27.2.2.1, u_27.2.2.2), rfl, h, by rw [ht]; exact hP, hD⟩, hS.F ht⟩) hS.2.2 d_Fu_change_117
  · skip
    have h := h.2 c_4
    refine lv_bipush (v := 8) hx hb d_Fu_change_16 (by decide) ?_
    exact W.iret (v := (8 : Int32)) hx hb hr (fun t ht hW => ⟨⟨(8 : Int32), (cd, fg, L, O), rfl, h, by rw [ht]; exact hP, hD⟩, hS.F ht⟩) hS.2.2 d_Fu_change_18
