def wp_Fr_cut (a0 : Int64) (a1 : Int32) (P : Int64 → Prop) : Prop := ((a1 = (0 : Int32) → P a0) ∧ (¬ a1 = (0 : Int32) → ((a1 ≤ (62 : Int32) → ∀ x_3 : Int64, x_3 = (zz_lshl a0 ((64 : Int32) - a1)) → ((x_3 = (0 : Int64) → ∀ x_5 : Int64, x_5 = ((zz_lushr a0 a1) ||| (0 : Int32).toInt64) → P x_5) ∧ (¬ x_3 = (0 : Int64) → ∀ x_6 : Int64, x_6 = ((zz_lushr a0 a1) ||| (1 : Int32).toInt64) → P x_6))) ∧ (¬ a1 ≤ (62 : Int32) → P (1 : Int64)))))
abbrev rm_Fr_cut : Room := { frames := 0, cells := 0, slots := 0, locals := 0 }
set_option maxHeartbeats 4000000 in
set_option maxRecDepth 100000 in
theorem c_Fr_cut (l : Launch) (a0 : Int64) (a1 : Int32) (P : Int64 → Prop) (h : wp_Fr_cut a0 a1 P) : Met l y_Fr_cut (zz_ws y_Fr_cut b_Fr_cut 3 (some .long)) rm_Fr_cut (fun v _ => v = ([.long a0, .int a1] : List Value).toArray) (vp_Sl P) 0 0 (fun _ => False) := by
  refine Met.ofW (cc := b_Fr_cut) (maxL := 3) (ret := (some .long)) (by decide) rfl ?_
  intro p e s m args below meth c s₁ B hml hv
  subst hv
  have hx := B.exec
  have hb := B.bytes
  have hr := B.returns
  have hts := atoms_spec (ws := (zz_ws y_Fr_cut b_Fr_cut 3 (some .long))) B.pre
  have hown : s.vm.findClass R_Fr = some m.cls := findClass_of_methodNamed B.named
  have hlocks := B.notSynchronized
  have hT := zz_hts hts
  have X : CallFix p m c b_Fr_cut 3 s ([.long a0, .int a1] : List Value).toArray (zz_ws y_Fr_cut b_Fr_cut 3 (some .long)) R_Fr := ⟨hx, hb, hml, hown, hts⟩
  have hf0 : 0 + 0 ≤ (headSpec (zz_ws y_Fr_cut b_Fr_cut 3 (some .long)) rm_Fr_cut).room.cells ∧ 0 + 0 ≤ (headSpec (zz_ws y_Fr_cut b_Fr_cut 3 (some .long)) rm_Fr_cut).room.slots := ⟨Nat.le_of_ble_eq_true rfl, Nat.le_of_ble_eq_true rfl⟩
  have hl := lv_entry ([.long a0, .int a1]) (n := 3) (Nat.le_of_ble_eq_true rfl)
  rw [lg_entry_eq]
  generalize (lg_sl ([.long a0, .int a1]) ++ List.replicate (3 - (lg_sl ([.long a0, .int a1])).length) Slot.unset).toArray = ls at hl ⊢
  have hl : lv_has ls 3 [(0, .long a0), (2, .int a1)] := hl
  refine lv_iload_n hx hb d_Fr_cut_0 rfl (lv_at hl 1 rfl) ?_
  refine lv_if_ne (tgt := 6) hx hb d_Fr_cut_1 (by decide) (fun c_1 => ?_) (fun c_1 => ?_)
  · skip
    have h := h.2 c_1
    refine lv_iload_n hx hb d_Fr_cut_6 rfl (lv_at hl 1 rfl) ?_
    refine lv_bipush (v := 62) hx hb d_Fr_cut_7 (by decide) ?_
    refine lv_icmp_le (tgt := 14) hx hb d_Fr_cut_9 (by decide) (fun c_2 => ?_) (fun c_2 => ?_)
    · skip
      have h := h.1 c_2
      refine lv_lload_n hx hb d_Fr_cut_14 rfl (lv_at hl 0 rfl) ?_
      refine lv_iload_n hx hb d_Fr_cut_15 rfl (lv_at hl 1 rfl) ?_
      refine zz_llushr hx hb d_Fr_cut_16 ?_
      refine lv_lload_n hx hb d_Fr_cut_17 rfl (lv_at hl 0 rfl) ?_
      refine lv_bipush (v := 64) hx hb d_Fr_cut_18 (by decide) ?_
      refine lv_iload_n hx hb d_Fr_cut_20 rfl (lv_at hl 1 rfl) ?_
      refine lv_isub hx hb d_Fr_cut_21 ?_
      refine zz_llshl hx hb d_Fr_cut_22 ?_
      refine lv_topl (fun x_3 ex_3 => ?_)
      have h := h x_3 ex_3
      refine lv_lconst (v := 0) hx hb d_Fr_cut_23 (by decide) ?_
      refine W.lcmp hx hb d_Fr_cut_24 ?_
      refine lv_if_eq (tgt := 32) hx hb d_Fr_cut_25 (by decide) (fun c_4 => ?_) (fun c_4 => ?_)
      · have kc_4 := ((lg_cmp_eq _ _).mp c_4)
        have h := h.1 kc_4
        refine lv_iconst (v := 0) hx hb d_Fr_cut_32 (by decide) ?_
        refine lv_i2l (v := (0 : Int32).toInt64) hx hb d_Fr_cut_33 rfl ?_
        refine lv_lor hx hb d_Fr_cut_34 ?_
        refine lv_topl (fun x_5 ex_5 => ?_)
        have h := h x_5 ex_5
        exact W.lret (v := x_5) hx hb hr (fun t ht hW => ⟨x_5,  rfl, h, ht⟩) t_nil d_Fr_cut_35
      · have kc_4 := (fun q => c_4 ((lg_cmp_eq _ _).mpr q))
        have h := h.2 kc_4
        refine lv_iconst (v := 1) hx hb d_Fr_cut_28 (by decide) ?_
        refine lv_goto (tgt := 33) hx hb d_Fr_cut_29 (by decide) ?_
        refine lv_i2l (v := (1 : Int32).toInt64) hx hb d_Fr_cut_33 rfl ?_
        refine lv_lor hx hb d_Fr_cut_34 ?_
        refine lv_topl (fun x_6 ex_6 => ?_)
        have h := h x_6 ex_6
        exact W.lret (v := x_6) hx hb hr (fun t ht hW => ⟨x_6,  rfl, h, ht⟩) t_nil d_Fr_cut_35
    · skip
      have h := h.2 c_2
      refine lv_lconst (v := 1) hx hb d_Fr_cut_12 (by decide) ?_
      exact W.lret (v := (1 : Int64)) hx hb hr (fun t ht hW => ⟨(1 : Int64),  rfl, h, ht⟩) t_nil d_Fr_cut_13
  · skip
    have h := h.1 c_1
    refine lv_lload_n hx hb d_Fr_cut_4 rfl (lv_at hl 0 rfl) ?_
    exact W.lret (v := a0) hx hb hr (fun t ht hW => ⟨a0,  rfl, h, ht⟩) t_nil d_Fr_cut_5
def wp_Fr_width (a0 : Int32) (P : Int32 → Prop) : Prop := ((a0 = (0 : Int32) → P (23 : Int32)) ∧ (¬ a0 = (0 : Int32) → P (52 : Int32)))
abbrev rm_Fr_width : Room := { frames := 0, cells := 0, slots := 0, locals := 0 }
set_option maxHeartbeats 4000000 in
set_option maxRecDepth 100000 in
theorem c_Fr_width (l : Launch) (a0 : Int32) (P : Int32 → Prop) (h : wp_Fr_width a0 P) : Met l y_Fr_width (zz_ws y_Fr_width b_Fr_width 1 (some .int)) rm_Fr_width (fun v _ => v = ([.int a0] : List Value).toArray) (vp_Si P) 0 0 (fun _ => False) := by
  refine Met.ofW (cc := b_Fr_width) (maxL := 1) (ret := (some .int)) (by decide) rfl ?_
  intro p e s m args below meth c s₁ B hml hv
  subst hv
  have hx := B.exec
  have hb := B.bytes
  have hr := B.returns
  have hts := atoms_spec (ws := (zz_ws y_Fr_width b_Fr_width 1 (some .int))) B.pre
  have hown : s.vm.findClass R_Fr = some m.cls := findClass_of_methodNamed B.named
  have hlocks := B.notSynchronized
  have hT := zz_hts hts
  have X : CallFix p m c b_Fr_width 1 s ([.int a0] : List Value).toArray (zz_ws y_Fr_width b_Fr_width 1 (some .int)) R_Fr := ⟨hx, hb, hml, hown, hts⟩
  have hf0 : 0 + 0 ≤ (headSpec (zz_ws y_Fr_width b_Fr_width 1 (some .int)) rm_Fr_width).room.cells ∧ 0 + 0 ≤ (headSpec (zz_ws y_Fr_width b_Fr_width 1 (some .int)) rm_Fr_width).room.slots := ⟨Nat.le_of_ble_eq_true rfl, Nat.le_of_ble_eq_true rfl⟩
  have hl := lv_entry ([.int a0]) (n := 1) (Nat.le_of_ble_eq_true rfl)
  rw [lg_entry_eq]
  generalize (lg_sl ([.int a0]) ++ List.replicate (1 - (lg_sl ([.int a0])).length) Slot.unset).toArray = ls at hl ⊢
  have hl : lv_has ls 1 [(0, .int a0)] := hl
  refine lv_iload_n hx hb d_Fr_width_0 rfl (lv_at hl 0 rfl) ?_
  refine lv_if_eq (tgt := 9) hx hb d_Fr_width_1 (by decide) (fun c_1 => ?_) (fun c_1 => ?_)
  · skip
    have h := h.1 c_1
    refine lv_bipush (v := 23) hx hb d_Fr_width_9 (by decide) ?_
    exact W.iret (v := (23 : Int32)) hx hb hr (fun t ht hW => ⟨(23 : Int32),  rfl, h, ht⟩) t_nil d_Fr_width_11
  · skip
    have h := h.2 c_1
    refine lv_bipush (v := 52) hx hb d_Fr_width_4 (by decide) ?_
    refine lv_goto (tgt := 11) hx hb d_Fr_width_6 (by decide) ?_
    exact W.iret (v := (52 : Int32)) hx hb hr (fun t ht hW => ⟨(52 : Int32),  rfl, h, ht⟩) t_nil d_Fr_width_11
def wp_Fr_lowest (a0 : Int32) (P : Int32 → Prop) : Prop := ((a0 = (0 : Int32) → P (-126 : Int32)) ∧ (¬ a0 = (0 : Int32) → P (-1022 : Int32)))
abbrev rm_Fr_lowest : Room := { frames := 0, cells := 0, slots := 0, locals := 0 }
set_option maxHeartbeats 4000000 in
set_option maxRecDepth 100000 in
theorem c_Fr_lowest (l : Launch) (a0 : Int32) (P : Int32 → Prop) (h : wp_Fr_lowest a0 P) : Met l y_Fr_lowest (zz_ws y_Fr_lowest b_Fr_lowest 1 (some .int)) rm_Fr_lowest (fun v _ => v = ([.int a0] : List Value).toArray) (vp_Si P) 0 0 (fun _ => False) := by
  refine Met.ofW (cc := b_Fr_lowest) (maxL := 1) (ret := (some .int)) (by decide) rfl ?_
  intro p e s m args below meth c s₁ B hml hv
  subst hv
  have hx := B.exec
  have hb := B.bytes
  have hr := B.returns
  have hts := atoms_spec (ws := (zz_ws y_Fr_lowest b_Fr_lowest 1 (some .int))) B.pre
  have hown : s.vm.findClass R_Fr = some m.cls := findClass_of_methodNamed B.named
  have hlocks := B.notSynchronized
  have hT := zz_hts hts
  have X : CallFix p m c b_Fr_lowest 1 s ([.int a0] : List Value).toArray (zz_ws y_Fr_lowest b_Fr_lowest 1 (some .int)) R_Fr := ⟨hx, hb, hml, hown, hts⟩
  have hf0 : 0 + 0 ≤ (headSpec (zz_ws y_Fr_lowest b_Fr_lowest 1 (some .int)) rm_Fr_lowest).room.cells ∧ 0 + 0 ≤ (headSpec (zz_ws y_Fr_lowest b_Fr_lowest 1 (some .int)) rm_Fr_lowest).room.slots := ⟨Nat.le_of_ble_eq_true rfl, Nat.le_of_ble_eq_true rfl⟩
  have hl := lv_entry ([.int a0]) (n := 1) (Nat.le_of_ble_eq_true rfl)
  rw [lg_entry_eq]
  generalize (lg_sl ([.int a0]) ++ List.replicate (1 - (lg_sl ([.int a0])).length) Slot.unset).toArray = ls at hl ⊢
  have hl : lv_has ls 1 [(0, .int a0)] := hl
  refine lv_iload_n hx hb d_Fr_lowest_0 rfl (lv_at hl 0 rfl) ?_
  refine lv_if_eq (tgt := 10) hx hb d_Fr_lowest_1 (by decide) (fun c_1 => ?_) (fun c_1 => ?_)
  · skip
    have h := h.1 c_1
    refine lv_bipush (v := -126) hx hb d_Fr_lowest_10 (by decide) ?_
    exact W.iret (v := (-126 : Int32)) hx hb hr (fun t ht hW => ⟨(-126 : Int32),  rfl, h, ht⟩) t_nil d_Fr_lowest_12
  · skip
    have h := h.2 c_1
    refine lv_sipush (v := -1022) hx hb d_Fr_lowest_4 (by decide) ?_
    refine lv_goto (tgt := 12) hx hb d_Fr_lowest_7 (by decide) ?_
    exact W.iret (v := (-1022 : Int32)) hx hb hr (fun t ht hW => ⟨(-1022 : Int32),  rfl, h, ht⟩) t_nil d_Fr_lowest_12
def wp_Fr_infinity (a0 : Int32) (P : Int64 → Prop) : Prop := ((a0 = (0 : Int32) → P (2139095040 : Int64)) ∧ (¬ a0 = (0 : Int32) → P (9218868437227405312 : Int64)))
abbrev rm_Fr_infinity : Room := { frames := 0, cells := 0, slots := 0, locals := 0 }
set_option maxHeartbeats 4000000 in
set_option maxRecDepth 100000 in
theorem c_Fr_infinity (l : Launch) (a0 : Int32) (P : Int64 → Prop) (h : wp_Fr_infinity a0 P) : Met l y_Fr_infinity (zz_ws y_Fr_infinity b_Fr_infinity 1 (some .long)) rm_Fr_infinity (fun v _ => v = ([.int a0] : List Value).toArray) (vp_Sl P) 0 0 (fun _ => False) := by
  refine Met.ofW (cc := b_Fr_infinity) (maxL := 1) (ret := (some .long)) (by decide) rfl ?_
  intro p e s m args below meth c s₁ B hml hv
  subst hv
  have hx := B.exec
  have hb := B.bytes
  have hr := B.returns
  have hts := atoms_spec (ws := (zz_ws y_Fr_infinity b_Fr_infinity 1 (some .long))) B.pre
  have hown : s.vm.findClass R_Fr = some m.cls := findClass_of_methodNamed B.named
  have hlocks := B.notSynchronized
  have hT := zz_hts hts
  have X : CallFix p m c b_Fr_infinity 1 s ([.int a0] : List Value).toArray (zz_ws y_Fr_infinity b_Fr_infinity 1 (some .long)) R_Fr := ⟨hx, hb, hml, hown, hts⟩
  have hf0 : 0 + 0 ≤ (headSpec (zz_ws y_Fr_infinity b_Fr_infinity 1 (some .long)) rm_Fr_infinity).room.cells ∧ 0 + 0 ≤ (headSpec (zz_ws y_Fr_infinity b_Fr_infinity 1 (some .long)) rm_Fr_infinity).room.slots := ⟨Nat.le_of_ble_eq_true rfl, Nat.le_of_ble_eq_true rfl⟩
  have hl := lv_entry ([.int a0]) (n := 1) (Nat.le_of_ble_eq_true rfl)
  rw [lg_entry_eq]
  generalize (lg_sl ([.int a0]) ++ List.replicate (1 - (lg_sl ([.int a0])).length) Slot.unset).toArray = ls at hl ⊢
  have hl : lv_has ls 1 [(0, .int a0)] := hl
  refine lv_iload_n hx hb d_Fr_infinity_0 rfl (lv_at hl 0 rfl) ?_
  refine lv_if_eq (tgt := 10) hx hb d_Fr_infinity_1 (by decide) (fun c_1 => ?_) (fun c_1 => ?_)
  · skip
    have h := h.1 c_1
    refine lv_ldc2 (v := 2139095040) hx hb hown (hT _ n_Fr_104) d_Fr_infinity_10 ?_
    exact W.lret (v := (2139095040 : Int64)) hx hb hr (fun t ht hW => ⟨(2139095040 : Int64),  rfl, h, ht⟩) t_nil d_Fr_infinity_13
  · skip
    have h := h.2 c_1
    refine lv_ldc2 (v := 9218868437227405312) hx hb hown (hT _ n_Fr_102) d_Fr_infinity_4 ?_
    refine lv_goto (tgt := 13) hx hb d_Fr_infinity_7 (by decide) ?_
    exact W.lret (v := (9218868437227405312 : Int64)) hx hb hr (fun t ht hW => ⟨(9218868437227405312 : Int64),  rfl, h, ht⟩) t_nil d_Fr_infinity_13
def wl_Fr_become_29 (a0 : Int64) (a1 : Int32) (P : ((Int32 × Int32 × Int32 × Int64)) → Prop) : Nat → Int32 → Int32 × Int32 × Int32 × Int64 → Prop
  | 0, _, _ => False
  | n + 1, v4, wL => ((v4 ≤ (0 : Int32) → P wL) ∧ (¬ v4 ≤ (0 : Int32) → ∀ x_3 : Int64, x_3 = (zz_lushr wL.2.2.2 ((63 : Int32) - v4)) → ((x_3 = (0 : Int64) → ∀ x_6 : Int64, x_6 = (zz_lshl wL.2.2.2 v4) → ∀ x_7 : Int32, x_7 = (wL.2.2.1 - v4) → ∀ x_8 : Int32, x_8 = (v4 / (2 : Int32)) → wl_Fr_become_29 a0 a1 P n x_8 (wL.1, wL.2.1, x_7, x_6)) ∧ (¬ x_3 = (0 : Int64) → ∀ x_5 : Int32, x_5 = (v4 / (2 : Int32)) → wl_Fr_become_29 a0 a1 P n x_5 wL))))
def wp_Fr_become (L : Int32 × Int32 × Int32 × Int64) (a0 : Int64) (a1 : Int32) (P : ((Int32 × Int32 × Int32 × Int64)) → Prop) : Prop := ((a0 = (0 : Int64) → ∃ n, wl_Fr_become_29 a0 a1 P n (32 : Int32) (L.1, (0 : Int32), a1, a0)) ∧ (¬ a0 = (0 : Int64) → ∃ n, wl_Fr_become_29 a0 a1 P n (32 : Int32) (L.1, (1 : Int32), a1, a0)))
abbrev rm_Fr_become : Room := { frames := 0, cells := 0, slots := 0, locals := 0 }
set_option maxHeartbeats 4000000 in
set_option maxRecDepth 100000 in
theorem c_Fr_become (l : Launch) (D : va_G) (cI : ClassId) (q : Nat) (L : Int32 × Int32 × Int32 × Int64) (a0 : Int64) (a1 : Int32) (P : ((Int32 × Int32 × Int32 × Int64)) → Prop) (h : wp_Fr_become L a0 a1 P) (sz : Nat) : Met l y_Fr_become (zz_ws y_Fr_become b_Fr_become 5 none) rm_Fr_become (va_Pc [.ref q, .long a0, .int a1] (zz_pw D [(cI, .int)] (wF1 q L) sz)) (va_Qv P (zz_qw D (fun u => wF1 q u) (va_A (wF1 q L) sz)) (va_A (wF1 q L) sz)) 0 0 (va_A (wF1 q L) sz) := by
  refine Met.ofW (cc := b_Fr_become) (maxL := 5) (ret := none) (by decide) rfl ?_
  intro p e s m args below meth c s₁ B hml hv
  obtain ⟨rfl, hsz, hP, hK, hD0⟩ := hv
  have hx := B.exec
  have hb := B.bytes
  have hr := B.returns
  have hts := atoms_spec (ws := (zz_ws y_Fr_become b_Fr_become 5 none)) B.pre
  have hown : s.vm.findClass R_Fr = some m.cls := findClass_of_methodNamed B.named
  have hlocks := B.notSynchronized
  have hT := zz_hts hts
  have X : CallFix p m c b_Fr_become 5 s ([.ref q, .long a0, .int a1] : List Value).toArray (zz_ws y_Fr_become b_Fr_become 5 none) R_Fr := ⟨hx, hb, hml, hown, hts⟩
  have hf0 : 0 + 0 ≤ (headSpec (zz_ws y_Fr_become b_Fr_become 5 none) rm_Fr_become).room.cells ∧ 0 + 0 ≤ (headSpec (zz_ws y_Fr_become b_Fr_become 5 none) rm_Fr_become).room.slots := ⟨Nat.le_of_ble_eq_true rfl, Nat.le_of_ble_eq_true rfl⟩
  subst hsz
  have hD := hD0.self (sz := s.heap.size)
  generalize hAe : va_A (wF1 q L) s.heap.size = A at hD ⊢
  have hA : ∀ q : Nat, s.heap.size ≤ q → A q := fun q h => by rw [← hAe]; exact Or.inr h
  have hS : va_S A s.heap s.heap [] := va_S.rf
  have hl := lv_entry ([.ref q, .long a0, .int a1]) (n := 5) (Nat.le_of_ble_eq_true rfl)
  rw [lg_entry_eq]
  generalize (lg_sl ([.ref q, .long a0, .int a1]) ++ List.replicate (5 - (lg_sl ([.ref q, .long a0, .int a1])).length) Slot.unset).toArray = ls at hl ⊢
  have hl : lv_has ls 5 [(0, .ref q), (1, .long a0), (3, .int a1)] := hl
  refine lv_aload_n hx hb d_Fr_become_0 rfl (lv_at hl 0 rfl) ?_
  refine lv_lload_n hx hb d_Fr_become_1 rfl (lv_at hl 1 rfl) ?_
  refine lv_lconst (v := 0) hx hb d_Fr_become_2 (by decide) ?_
  refine W.lcmp hx hb d_Fr_become_3 ?_
  refine lv_if_ne (tgt := 11) hx hb d_Fr_become_4 (by decide) (fun c_1 => ?_) (fun c_1 => ?_)
  · have kc_1 := (fun q => c_1 ((lg_cmp_eq _ _).mpr q))
    have h := h.2 kc_1
    refine lv_iconst (v := 1) hx hb d_Fr_become_11 (by decide) ?_
    refine p_Fr_17 hx hb hT hown hK hP hD hS 0 rfl rfl d_Fr_become_12 (fun H locs (hP : va_P D vwCl (wF1 q (L.1, (1 : Int32), L.2.2.1, L.2.2.2)) H) (hD : va_D A (wF1 q (L.1, (1 : Int32), L.2.2.1, L.2.2.2))) hS => ?_)
    refine lv_aload_n hx hb d_Fr_become_15 rfl (lv_at hl 0 rfl) ?_
    refine lv_lload_n hx hb d_Fr_become_16 rfl (lv_at hl 1 rfl) ?_
    refine p_Fr_34 hx hb hT hown hK hP hD hS 0 rfl rfl d_Fr_become_17 (fun H locs (hP : va_P D vwCl (wF1 q (L.1, (1 : Int32), L.2.2.1, a0)) H) (hD : va_D A (wF1 q (L.1, (1 : Int32), L.2.2.1, a0))) hS => ?_)
    refine lv_aload_n hx hb d_Fr_become_20 rfl (lv_at hl 0 rfl) ?_
    refine lv_iload_n hx hb d_Fr_become_21 rfl (lv_at hl 2 rfl) ?_
    refine p_Fr_38 hx hb hT hown hK hP hD hS 0 rfl rfl d_Fr_become_22 (fun H locs (hP : va_P D vwCl (wF1 q (L.1, (1 : Int32), a1, a0)) H) (hD : va_D A (wF1 q (L.1, (1 : Int32), a1, a0))) hS => ?_)
    refine lv_bipush (v := 32) hx hb d_Fr_become_25 (by decide) ?_
    refine lv_istore (lv' := [(4, .int (32 : Int32)), (0, .ref q), (1, .long a0), (3, .int a1)]) hx hb d_Fr_become_27 hl (by decide) rfl (fun ls hl => ?_)
    have lp : ∀ (n : Nat) (v4 : Int32) (wL : Int32 × Int32 × Int32 × Int64), wl_Fr_become_29 a0 a1 P n v4 wL → ∀ (H : Heap) (locs : List Loc), va_P D vwCl (wF1 q wL) H → va_D A (wF1 q wL) → va_S A s.heap H locs → ∀ ls : Array Slot, lv_has ls 5 [(4, .int v4), (0, .ref q), (1, .long a0), (3, .int a1)] → W p l e (headSpec (zz_ws y_Fr_become b_Fr_become 5 none) rm_Fr_become).room s m ([.ref q, .long a0, .int a1] : List Value).toArray below meth c H locs 0 0 (MQ below (va_Qv P (zz_qw D (fun u => wF1 q u) A) A) ([.ref q, .long a0, .int a1] : List Value).toArray s 0 0 A) (F0 m 29 ls []) := by
      intro n
      induction n with
      | zero =>
        intro v4 wL h
        exact False.elim h
      | succ n ih =>
        intro v4 wL h H locs hP hD hS ls hl
        rw [wl_Fr_become_29] at h
        refine lv_iload hx hb d_Fr_become_29 (lv_at hl 0 rfl) ?_
        refine lv_if_le (tgt := 80) hx hb d_Fr_become_31 (by decide) (fun c_2 => ?_) (fun c_2 => ?_)
        · skip
          have h := h.1 c_2
          exact W.vret hx hb hr (fun t ht hW => ⟨⟨wL, rfl, h, by rw [ht]; exact hP, hD⟩, hS.F ht⟩) hS.2.2 d_Fr_become_80
        · skip
          have h := h.2 c_2
          refine lv_aload_n hx hb d_Fr_become_34 rfl (lv_at hl 1 rfl) ?_
          refine g_Fr_34 (v := .long wL.2.2.2) hx hb hT hown hK hP 0 rfl rfl d_Fr_become_35 ?_
          refine lv_bipush (v := 63) hx hb d_Fr_become_38 (by decide) ?_
          refine lv_iload hx hb d_Fr_become_40 (lv_at hl 0 rfl) ?_
          refine lv_isub hx hb d_Fr_become_42 ?_
          refine zz_llushr hx hb d_Fr_become_43 ?_
          refine lv_topl (fun x_3 ex_3 => ?_)
          have h := h x_3 ex_3
          refine lv_lconst (v := 0) hx hb d_Fr_become_44 (by decide) ?_
          refine W.lcmp hx hb d_Fr_become_45 ?_
          refine lv_if_ne (tgt := 71) hx hb d_Fr_become_46 (by decide) (fun c_4 => ?_) (fun c_4 => ?_)
          · have kc_4 := (fun q => c_4 ((lg_cmp_eq _ _).mpr q))
            have h := h.2 kc_4
            refine lv_iload hx hb d_Fr_become_71 (lv_at hl 0 rfl) ?_
            refine lv_iconst (v := 2) hx hb d_Fr_become_73 (by decide) ?_
            refine lv_idiv hx hb d_Fr_become_74 (by decide) ?_
            refine lv_topi (fun x_5 ex_5 => ?_)
            have h := h x_5 ex_5
            refine lv_istore (lv' := [(4, .int x_5), (0, .ref q), (1, .long a0), (3, .int a1)]) hx hb d_Fr_become_75 hl (by decide) rfl (fun ls hl => ?_)
            refine lv_goto (tgt := 29) hx hb d_Fr_become_77 (by decide) ?_
            exact ih x_5 wL h H locs hP hD hS ls (lv_sub hl [0, 1, 2, 3] rfl)
          · have kc_4 := ((lg_cmp_eq _ _).mp c_4)
            have h := h.1 kc_4
            refine lv_aload_n hx hb d_Fr_become_49 rfl (lv_at hl 1 rfl) ?_
            refine lv_dup hx hb d_Fr_become_50 rfl ?_
            refine g_Fr_34 (v := .long wL.2.2.2) hx hb hT hown hK hP 0 rfl rfl d_Fr_become_51 ?_
            refine lv_iload hx hb d_Fr_become_54 (lv_at hl 0 rfl) ?_
            refine zz_llshl hx hb d_Fr_become_56 ?_
            refine lv_topl (fun x_6 ex_6 => ?_)
            have h := h x_6 ex_6
            refine p_Fr_34 hx hb hT hown hK hP hD hS 0 rfl rfl d_Fr_become_57 (fun H locs (hP : va_P D vwCl (wF1 q (wL.1, wL.2.1, wL.2.2.1, x_6)) H) (hD : va_D A (wF1 q (wL.1, wL.2.1, wL.2.2.1, x_6))) hS => ?_)
            refine lv_aload_n hx hb d_Fr_become_60 rfl (lv_at hl 1 rfl) ?_
            refine lv_dup hx hb d_Fr_become_61 rfl ?_
            refine g_Fr_38 (v := .int wL.2.2.1) hx hb hT hown hK hP 0 rfl rfl d_Fr_become_62 ?_
            refine lv_iload hx hb d_Fr_become_65 (lv_at hl 0 rfl) ?_
            refine lv_isub hx hb d_Fr_become_67 ?_
            refine lv_topi (fun x_7 ex_7 => ?_)
            have h := h x_7 ex_7
            refine p_Fr_38 hx hb hT hown hK hP hD hS 0 rfl rfl d_Fr_become_68 (fun H locs (hP : va_P D vwCl (wF1 q (wL.1, wL.2.1, x_7, x_6)) H) (hD : va_D A (wF1 q (wL.1, wL.2.1, x_7, x_6))) hS => ?_)
            refine lv_iload hx hb d_Fr_become_71 (lv_at hl 0 rfl) ?_
            refine lv_iconst (v := 2) hx hb d_Fr_become_73 (by decide) ?_
            refine lv_idiv hx hb d_Fr_become_74 (by decide) ?_
            refine lv_topi (fun x_8 ex_8 => ?_)
            have h := h x_8 ex_8
            refine lv_istore (lv' := [(4, .int x_8), (0, .ref q), (1, .long a0), (3, .int a1)]) hx hb d_Fr_become_75 hl (by decide) rfl (fun ls hl => ?_)
            refine lv_goto (tgt := 29) hx hb d_Fr_become_77 (by decide) ?_
            exact ih x_8 (wL.1, wL.2.1, x_7, x_6) h H locs hP hD hS ls (lv_sub hl [0, 1, 2, 3] rfl)
    obtain ⟨n, h⟩ := h
    exact lp n (32 : Int32) (L.1, (1 : Int32), a1, a0) h _ _ hP hD hS ls hl
  · have kc_1 := ((lg_cmp_eq _ _).mp c_1)
    have h := h.1 kc_1
    refine lv_iconst (v := 0) hx hb d_Fr_become_7 (by decide) ?_
    refine lv_goto (tgt := 12) hx hb d_Fr_become_8 (by decide) ?_
    refine p_Fr_17 hx hb hT hown hK hP hD hS 0 rfl rfl d_Fr_become_12 (fun H locs (hP : va_P D vwCl (wF1 q (L.1, (0 : Int32), L.2.2.1, L.2.2.2)) H) (hD : va_D A (wF1 q (L.1, (0 : Int32), L.2.2.1, L.2.2.2))) hS => ?_)
    refine lv_aload_n hx hb d_Fr_become_15 rfl (lv_at hl 0 rfl) ?_
    refine lv_lload_n hx hb d_Fr_become_16 rfl (lv_at hl 1 rfl) ?_
    refine p_Fr_34 hx hb hT hown hK hP hD hS 0 rfl rfl d_Fr_become_17 (fun H locs (hP : va_P D vwCl (wF1 q (L.1, (0 : Int32), L.2.2.1, a0)) H) (hD : va_D A (wF1 q (L.1, (0 : Int32), L.2.2.1, a0))) hS => ?_)
    refine lv_aload_n hx hb d_Fr_become_20 rfl (lv_at hl 0 rfl) ?_
    refine lv_iload_n hx hb d_Fr_become_21 rfl (lv_at hl 2 rfl) ?_
    refine p_Fr_38 hx hb hT hown hK hP hD hS 0 rfl rfl d_Fr_become_22 (fun H locs (hP : va_P D vwCl (wF1 q (L.1, (0 : Int32), a1, a0)) H) (hD : va_D A (wF1 q (L.1, (0 : Int32), a1, a0))) hS => ?_)
    refine lv_bipush (v := 32) hx hb d_Fr_become_25 (by decide) ?_
    refine lv_istore (lv' := [(4, .int (32 : Int32)), (0, .ref q), (1, .long a0), (3, .int a1)]) hx hb d_Fr_become_27 hl (by decide) rfl (fun ls hl => ?_)
    have lp : ∀ (n : Nat) (v4 : Int32) (wL : Int32 × Int32 × Int32 × Int64), wl_Fr_become_29 a0 a1 P n v4 wL → ∀ (H : Heap) (locs : List Loc), va_P D vwCl (wF1 q wL) H → va_D A (wF1 q wL) → va_S A s.heap H locs → ∀ ls : Array Slot, lv_has ls 5 [(4, .int v4), (0, .ref q), (1, .long a0), (3, .int a1)] → W p l e (headSpec (zz_ws y_Fr_become b_Fr_become 5 none) rm_Fr_become).room s m ([.ref q, .long a0, .int a1] : List Value).toArray below meth c H locs 0 0 (MQ below (va_Qv P (zz_qw D (fun u => wF1 q u) A) A) ([.ref q, .long a0, .int a1] : List Value).toArray s 0 0 A) (F0 m 29 ls []) := by
      intro n
      induction n with
      | zero =>
        intro v4 wL h
        exact False.elim h
      | succ n ih =>
        intro v4 wL h H locs hP hD hS ls hl
        rw [wl_Fr_become_29] at h
        refine lv_iload hx hb d_Fr_become_29 (lv_at hl 0 rfl) ?_
        refine lv_if_le (tgt := 80) hx hb d_Fr_become_31 (by decide) (fun c_9 => ?_) (fun c_9 => ?_)
        · skip
          have h := h.1 c_9
          exact W.vret hx hb hr (fun t ht hW => ⟨⟨wL, rfl, h, by rw [ht]; exact hP, hD⟩, hS.F ht⟩) hS.2.2 d_Fr_become_80
        · skip
          have h := h.2 c_9
          refine lv_aload_n hx hb d_Fr_become_34 rfl (lv_at hl 1 rfl) ?_
          refine g_Fr_34 (v := .long wL.2.2.2) hx hb hT hown hK hP 0 rfl rfl d_Fr_become_35 ?_
          refine lv_bipush (v := 63) hx hb d_Fr_become_38 (by decide) ?_
          refine lv_iload hx hb d_Fr_become_40 (lv_at hl 0 rfl) ?_
          refine lv_isub hx hb d_Fr_become_42 ?_
          refine zz_llushr hx hb d_Fr_become_43 ?_
          refine lv_topl (fun x_10 ex_10 => ?_)
          have h := h x_10 ex_10
          refine lv_lconst (v := 0) hx hb d_Fr_become_44 (by decide) ?_
          refine W.lcmp hx hb d_Fr_become_45 ?_
          refine lv_if_ne (tgt := 71) hx hb d_Fr_become_46 (by decide) (fun c_11 => ?_) (fun c_11 => ?_)
          · have kc_11 := (fun q => c_11 ((lg_cmp_eq _ _).mpr q))
            have h := h.2 kc_11
            refine lv_iload hx hb d_Fr_become_71 (lv_at hl 0 rfl) ?_
            refine lv_iconst (v := 2) hx hb d_Fr_become_73 (by decide) ?_
            refine lv_idiv hx hb d_Fr_become_74 (by decide) ?_
            refine lv_topi (fun x_12 ex_12 => ?_)
            have h := h x_12 ex_12
            refine lv_istore (lv' := [(4, .int x_12), (0, .ref q), (1, .long a0), (3, .int a1)]) hx hb d_Fr_become_75 hl (by decide) rfl (fun ls hl => ?_)
            refine lv_goto (tgt := 29) hx hb d_Fr_become_77 (by decide) ?_
            exact ih x_12 wL h H locs hP hD hS ls (lv_sub hl [0, 1, 2, 3] rfl)
          · have kc_11 := ((lg_cmp_eq _ _).mp c_11)
            have h := h.1 kc_11
            refine lv_aload_n hx hb d_Fr_become_49 rfl (lv_at hl 1 rfl) ?_
            refine lv_dup hx hb d_Fr_become_50 rfl ?_
            refine g_Fr_34 (v := .long wL.2.2.2) hx hb hT hown hK hP 0 rfl rfl d_Fr_become_51 ?_
            refine lv_iload hx hb d_Fr_become_54 (lv_at hl 0 rfl) ?_
            refine zz_llshl hx hb d_Fr_become_56 ?_
            refine lv_topl (fun x_13 ex_13 => ?_)
            have h := h x_13 ex_13
            refine p_Fr_34 hx hb hT hown hK hP hD hS 0 rfl rfl d_Fr_become_57 (fun H locs (hP : va_P D vwCl (wF1 q (wL.1, wL.2.1, wL.2.2.1, x_13)) H) (hD : va_D A (wF1 q (wL.1, wL.2.1, wL.2.2.1, x_13))) hS => ?_)
            refine lv_aload_n hx hb d_Fr_become_60 rfl (lv_at hl 1 rfl) ?_
            refine lv_dup hx hb d_Fr_become_61 rfl ?_
            refine g_Fr_38 (v := .int wL.2.2.1) hx hb hT hown hK hP 0 rfl rfl d_Fr_become_62 ?_
            refine lv_iload hx hb d_Fr_become_65 (lv_at hl 0 rfl) ?_
            refine lv_isub hx hb d_Fr_become_67 ?_
            refine lv_topi (fun x_14 ex_14 => ?_)
            have h := h x_14 ex_14
            refine p_Fr_38 hx hb hT hown hK hP hD hS 0 rfl rfl d_Fr_become_68 (fun H locs (hP : va_P D vwCl (wF1 q (wL.1, wL.2.1, x_14, x_13)) H) (hD : va_D A (wF1 q (wL.1, wL.2.1, x_14, x_13))) hS => ?_)
            refine lv_iload hx hb d_Fr_become_71 (lv_at hl 0 rfl) ?_
            refine lv_iconst (v := 2) hx hb d_Fr_become_73 (by decide) ?_
            refine lv_idiv hx hb d_Fr_become_74 (by decide) ?_
            refine lv_topi (fun x_15 ex_15 => ?_)
            have h := h x_15 ex_15
            refine lv_istore (lv' := [(4, .int x_15), (0, .ref q), (1, .long a0), (3, .int a1)]) hx hb d_Fr_become_75 hl (by decide) rfl (fun ls hl => ?_)
            refine lv_goto (tgt := 29) hx hb d_Fr_become_77 (by decide) ?_
            exact ih x_15 (wL.1, wL.2.1, x_14, x_13) h H locs hP hD hS ls (lv_sub hl [0, 1, 2, 3] rfl)
    obtain ⟨n, h⟩ := h
    exact lp n (32 : Int32) (L.1, (0 : Int32), a1, a0) h _ _ hP hD hS ls hl
def wp_Fr_unpack (L : Int32 × Int32 × Int32 × Int64) (a0 : Int64) (a1 : Int32) (P : ((Int32 × Int32 × Int32 × Int64)) → Prop) : Prop := wp_Fr_width a1 (fun r_1 => ((a1 = (0 : Int32) → ∀ x_3 : Int32, x_3 = ((zz_lushr a0 r_1).toInt32 &&& (255 : Int32)) → ∀ x_4 : Int64, x_4 = ((zz_lshl (1 : Int64) r_1) - (1 : Int64)) → ∀ x_5 : Int64, x_5 = (a0 &&& x_4) → ∀ x_7 : Int64, x_7 = ((zz_lushr a0 (31 : Int32)) &&& (1 : Int64)) → ((x_7 = (0 : Int64) → ((x_3 = (255 : Int32) → ((x_5 = (0 : Int64) → P ((0 : Int32), (2 : Int32), L.2.2.1, L.2.2.2)) ∧ (¬ x_5 = (0 : Int64) → P ((0 : Int32), (3 : Int32), L.2.2.1, L.2.2.2)))) ∧ (¬ x_3 = (255 : Int32) → ((x_3 = (0 : Int32) → ∀ x_16 : Int64, x_16 = (zz_lshl x_5 ((62 : Int32) - r_1)) → wp_Fr_lowest a1 (fun r_17 => wp_Fr_become ((0 : Int32), L.2.1, L.2.2.1, L.2.2.2) x_16 r_17 (fun u_18 => P u_18))) ∧ (¬ x_3 = (0 : Int32) → ∀ x_11 : Int64, x_11 = (x_5 ||| (zz_lshl (1 : Int64) r_1)) → ∀ x_12 : Int64, x_12 = (zz_lshl x_11 ((62 : Int32) - r_1)) → wp_Fr_lowest a1 (fun r_13 => wp_Fr_become ((0 : Int32), L.2.1, L.2.2.1, L.2.2.2) x_12 ((x_3 - (1 : Int32)) + r_13) (fun u_14 => P u_14))))))) ∧ (¬ x_7 = (0 : Int64) → ((x_3 = (255 : Int32) → ((x_5 = (0 : Int64) → P ((1 : Int32), (2 : Int32), L.2.2.1, L.2.2.2)) ∧ (¬ x_5 = (0 : Int64) → P ((1 : Int32), (3 : Int32), L.2.2.1, L.2.2.2)))) ∧ (¬ x_3 = (255 : Int32) → ((x_3 = (0 : Int32) → ∀ x_28 : Int64, x_28 = (zz_lshl x_5 ((62 : Int32) - r_1)) → wp_Fr_lowest a1 (fun r_29 => wp_Fr_become ((1 : Int32), L.2.1, L.2.2.1, L.2.2.2) x_28 r_29 (fun u_30 => P u_30))) ∧ (¬ x_3 = (0 : Int32) → ∀ x_23 : Int64, x_23 = (x_5 ||| (zz_lshl (1 : Int64) r_1)) → ∀ x_24 : Int64, x_24 = (zz_lshl x_23 ((62 : Int32) - r_1)) → wp_Fr_lowest a1 (fun r_25 => wp_Fr_become ((1 : Int32), L.2.1, L.2.2.1, L.2.2.2) x_24 ((x_3 - (1 : Int32)) + r_25) (fun u_26 => P u_26))))))))) ∧ (¬ a1 = (0 : Int32) → ∀ x_33 : Int32, x_33 = ((zz_lushr a0 r_1).toInt32 &&& (2047 : Int32)) → ∀ x_34 : Int64, x_34 = ((zz_lshl (1 : Int64) r_1) - (1 : Int64)) → ∀ x_35 : Int64, x_35 = (a0 &&& x_34) → ∀ x_37 : Int64, x_37 = ((zz_lushr a0 (63 : Int32)) &&& (1 : Int64)) → ((x_37 = (0 : Int64) → ((x_33 = (2047 : Int32) → ((x_35 = (0 : Int64) → P ((0 : Int32), (2 : Int32), L.2.2.1, L.2.2.2)) ∧ (¬ x_35 = (0 : Int64) → P ((0 : Int32), (3 : Int32), L.2.2.1, L.2.2.2)))) ∧ (¬ x_33 = (2047 : Int32) → ((x_33 = (0 : Int32) → ∀ x_47 : Int64, x_47 = (zz_lshl x_35 ((62 : Int32) - r_1)) → wp_Fr_lowest a1 (fun r_48 => wp_Fr_become ((0 : Int32), L.2.1, L.2.2.1, L.2.2.2) x_47 r_48 (fun u_49 => P u_49))) ∧ (¬ x_33 = (0 : Int32) → ∀ x_41 : Int64, x_41 = (x_35 ||| (zz_lshl (1 : Int64) r_1)) → ∀ x_42 : Int64, x_42 = (zz_lshl x_41 ((62 : Int32) - r_1)) → wp_Fr_lowest a1 (fun r_43 => ∀ x_44 : Int32, x_44 = ((x_33 - (1 : Int32)) + r_43) → wp_Fr_become ((0 : Int32), L.2.1, L.2.2.1, L.2.2.2) x_42 x_44 (fun u_45 => P u_45))))))) ∧ (¬ x_37 = (0 : Int64) → ((x_33 = (2047 : Int32) → ((x_35 = (0 : Int64) → P ((1 : Int32), (2 : Int32), L.2.2.1, L.2.2.2)) ∧ (¬ x_35 = (0 : Int64) → P ((1 : Int32), (3 : Int32), L.2.2.1, L.2.2.2)))) ∧ (¬ x_33 = (2047 : Int32) → ((x_33 = (0 : Int32) → ∀ x_60 : Int64, x_60 = (zz_lshl x_35 ((62 : Int32) - r_1)) → wp_Fr_lowest a1 (fun r_61 => wp_Fr_become ((1 : Int32), L.2.1, L.2.2.1, L.2.2.2) x_60 r_61 (fun u_62 => P u_62))) ∧ (¬ x_33 = (0 : Int32) → ∀ x_54 : Int64, x_54 = (x_35 ||| (zz_lshl (1 : Int64) r_1)) → ∀ x_55 : Int64, x_55 = (zz_lshl x_54 ((62 : Int32) - r_1)) → wp_Fr_lowest a1 (fun r_56 => ∀ x_57 : Int32, x_57 = ((x_33 - (1 : Int32)) + r_56) → wp_Fr_become ((1 : Int32), L.2.1, L.2.2.1, L.2.2.2) x_55 x_57 (fun u_58 => P u_58)))))))))))
abbrev rm_Fr_unpack : Room := { frames := 1, cells := 0, slots := 0, locals := 24 }
set_option maxHeartbeats 4000000 in
set_option maxRecDepth 100000 in
theorem c_Fr_unpack (l : Launch) (D : va_G) (cI : ClassId) (q : Nat) (L : Int32 × Int32 × Int32 × Int64) (a0 : Int64) (a1 : Int32) (P : ((Int32 × Int32 × Int32 × Int64)) → Prop) (h : wp_Fr_unpack L a0 a1 P) (sz : Nat) : Met l y_Fr_unpack (zz_ws y_Fr_unpack b_Fr_unpack 9 none) rm_Fr_unpack (va_Pc [.ref q, .long a0, .int a1] (zz_pw D [(cI, .int)] (wF1 q L) sz)) (va_Qv P (zz_qw D (fun u => wF1 q u) (va_A (wF1 q L) sz)) (va_A (wF1 q L) sz)) 0 0 (va_A (wF1 q L) sz) := by
  refine Met.ofW (cc := b_Fr_unpack) (maxL := 9) (ret := none) (by decide) rfl ?_
  intro p e s m args below meth c s₁ B hml hv
  obtain ⟨rfl, hsz, hP, hK, hD0⟩ := hv
  have hx := B.exec
  have hb := B.bytes
  have hr := B.returns
  have hts := atoms_spec (ws := (zz_ws y_Fr_unpack b_Fr_unpack 9 none)) B.pre
  have hown : s.vm.findClass R_Fr = some m.cls := findClass_of_methodNamed B.named
  have hlocks := B.notSynchronized
  have hT := zz_hts hts
  have X : CallFix p m c b_Fr_unpack 9 s ([.ref q, .long a0, .int a1] : List Value).toArray (zz_ws y_Fr_unpack b_Fr_unpack 9 none) R_Fr := ⟨hx, hb, hml, hown, hts⟩
  have hf0 : 0 + 0 ≤ (headSpec (zz_ws y_Fr_unpack b_Fr_unpack 9 none) rm_Fr_unpack).room.cells ∧ 0 + 0 ≤ (headSpec (zz_ws y_Fr_unpack b_Fr_unpack 9 none) rm_Fr_unpack).room.slots := ⟨Nat.le_of_ble_eq_true rfl, Nat.le_of_ble_eq_true rfl⟩
  subst hsz
  have hD := hD0.self (sz := s.heap.size)
  generalize hAe : va_A (wF1 q L) s.heap.size = A at hD ⊢
  have hA : ∀ q : Nat, s.heap.size ≤ q → A q := fun q h => by rw [← hAe]; exact Or.inr h
  have hS : va_S A s.heap s.heap [] := va_S.rf
  have hl := lv_entry ([.ref q, .long a0, .int a1]) (n := 9) (Nat.le_of_ble_eq_true rfl)
  rw [lg_entry_eq]
  generalize (lg_sl ([.ref q, .long a0, .int a1]) ++ List.replicate (9 - (lg_sl ([.ref q, .long a0, .int a1])).length) Slot.unset).toArray = ls at hl ⊢
  have hl : lv_has ls 9 [(0, .ref q), (1, .long a0), (3, .int a1)] := hl
  refine lv_iload_n hx hb d_Fr_unpack_0 rfl (lv_at hl 2 rfl) ?_
  refine zz_Si (As := [.int a1]) (rest := []) X (c_Fr_width l a1 _ h) ⟨rfl, rfl⟩ m_Fr_width k_Fr_7 ⟨Nat.le_of_ble_eq_true rfl, Nat.le_of_ble_eq_true rfl⟩ rfl hl.1 rfl (Nat.le_of_ble_eq_true rfl) d_Fr_unpack_1 hf0 (fun r_1 h => ?_)
  refine lv_istore (lv' := [(4, .int r_1), (0, .ref q), (1, .long a0), (3, .int a1)]) hx hb d_Fr_unpack_4 hl (by decide) rfl (fun ls hl => ?_)
  refine lv_iload_n hx hb d_Fr_unpack_6 rfl (lv_at hl 3 rfl) ?_
  refine lv_if_eq (tgt := 16) hx hb d_Fr_unpack_7 (by decide) (fun c_2 => ?_) (fun c_2 => ?_)
  · skip
    have h := h.1 c_2
    refine lv_sipush (v := 255) hx hb d_Fr_unpack_16 (by decide) ?_
    refine lv_istore (lv' := [(5, .int (255 : Int32)), (4, .int r_1), (0, .ref q), (1, .long a0), (3, .int a1)]) hx hb d_Fr_unpack_19 hl (by decide) rfl (fun ls hl => ?_)
    refine lv_lload_n hx hb d_Fr_unpack_21 rfl (lv_at hl 3 rfl) ?_
    refine lv_iload hx hb d_Fr_unpack_22 (lv_at hl 1 rfl) ?_
    refine zz_llushr hx hb d_Fr_unpack_24 ?_
    refine lv_l2i (v := (zz_lushr a0 r_1).toInt32) hx hb d_Fr_unpack_25 rfl ?_
    refine lv_iload hx hb d_Fr_unpack_26 (lv_at hl 0 rfl) ?_
    refine lv_iand hx hb d_Fr_unpack_28 ?_
    refine lv_topi (fun x_3 ex_3 => ?_)
    have h := h x_3 ex_3
    refine lv_istore (lv' := [(6, .int x_3), (5, .int (255 : Int32)), (4, .int r_1), (0, .ref q), (1, .long a0), (3, .int a1)]) hx hb d_Fr_unpack_29 hl (by decide) rfl (fun ls hl => ?_)
    refine lv_lload_n hx hb d_Fr_unpack_31 rfl (lv_at hl 4 rfl) ?_
    refine lv_lconst (v := 1) hx hb d_Fr_unpack_32 (by decide) ?_
    refine lv_iload hx hb d_Fr_unpack_33 (lv_at hl 2 rfl) ?_
    refine zz_llshl hx hb d_Fr_unpack_35 ?_
    refine lv_lconst (v := 1) hx hb d_Fr_unpack_36 (by decide) ?_
    refine lv_lsub hx hb d_Fr_unpack_37 ?_
    refine lv_topl (fun x_4 ex_4 => ?_)
    have h := h x_4 ex_4
    refine lv_land hx hb d_Fr_unpack_38 ?_
    refine lv_topl (fun x_5 ex_5 => ?_)
    have h := h x_5 ex_5
    refine lv_lstore (lv' := [(7, .long x_5), (6, .int x_3), (5, .int (255 : Int32)), (4, .int r_1), (0, .ref q), (1, .long a0), (3, .int a1)]) hx hb d_Fr_unpack_39 hl (by decide) rfl (fun ls hl => ?_)
    refine lv_aload_n hx hb d_Fr_unpack_41 rfl (lv_at hl 4 rfl) ?_
    refine lv_lload_n hx hb d_Fr_unpack_42 rfl (lv_at hl 5 rfl) ?_
    refine lv_iload_n hx hb d_Fr_unpack_43 rfl (lv_at hl 6 rfl) ?_
    refine lv_if_eq (tgt := 52) hx hb d_Fr_unpack_44 (by decide) (fun c_6 => ?_) (fun c_6 => ?_)
    · skip
      refine lv_bipush (v := 31) hx hb d_Fr_unpack_52 (by decide) ?_
      refine zz_llushr hx hb d_Fr_unpack_54 ?_
      refine lv_lconst (v := 1) hx hb d_Fr_unpack_55 (by decide) ?_
      refine lv_land hx hb d_Fr_unpack_56 ?_
      refine lv_topl (fun x_7 ex_7 => ?_)
      have h := h x_7 ex_7
      refine lv_lconst (v := 0) hx hb d_Fr_unpack_57 (by decide) ?_
      refine W.lcmp hx hb d_Fr_unpack_58 ?_
      refine lv_if_eq (tgt := 66) hx hb d_Fr_unpack_59 (by decide) (fun c_8 => ?_) (fun c_8 => ?_)
      · have kc_8 := ((lg_cmp_eq _ _).mp c_8)
        have h := h.1 kc_8
        refine lv_iconst (v := 0) hx hb d_Fr_unpack_66 (by decide) ?_
        refine p_Fr_13 hx hb hT hown hK hP hD hS 0 rfl rfl (Or.inl rfl) d_Fr_unpack_67 (fun H locs (hP : va_P D vwCl (wF1 q ((0 : Int32), L.2.1, L.2.2.1, L.2.2.2)) H) (hD : va_D A (wF1 q ((0 : Int32), L.2.1, L.2.2.1, L.2.2.2))) hS => ?_)
        refine lv_iload hx hb d_Fr_unpack_70 (lv_at hl 1 rfl) ?_
        refine lv_iload hx hb d_Fr_unpack_72 (lv_at hl 2 rfl) ?_
        refine lv_icmp_ne (tgt := 96) hx hb d_Fr_unpack_74 (by decide) (fun c_9 => ?_) (fun c_9 => ?_)
        · skip
          have h := h.2 c_9
          refine lv_iload hx hb d_Fr_unpack_96 (lv_at hl 1 rfl) ?_
          refine lv_if_ne (tgt := 120) hx hb d_Fr_unpack_98 (by decide) (fun c_10 => ?_) (fun c_10 => ?_)
          · skip
            have h := h.2 c_10
            refine lv_aload_n hx hb d_Fr_unpack_120 rfl (lv_at hl 4 rfl) ?_
            refine lv_lload hx hb d_Fr_unpack_121 (lv_at hl 0 rfl) ?_
            refine lv_lconst (v := 1) hx hb d_Fr_unpack_123 (by decide) ?_
            refine lv_iload hx hb d_Fr_unpack_124 (lv_at hl 3 rfl) ?_
            refine zz_llshl hx hb d_Fr_unpack_126 ?_
            refine lv_lor hx hb d_Fr_unpack_127 ?_
            refine lv_topl (fun x_11 ex_11 => ?_)
            have h := h x_11 ex_11
            refine lv_bipush (v := 62) hx hb d_Fr_unpack_128 (by decide) ?_
            refine lv_iload hx hb d_Fr_unpack_130 (lv_at hl 3 rfl) ?_
            refine lv_isub hx hb d_Fr_unpack_132 ?_
            refine zz_llshl hx hb d_Fr_unpack_133 ?_
            refine lv_topl (fun x_12 ex_12 => ?_)
            have h := h x_12 ex_12
            refine lv_iload hx hb d_Fr_unpack_134 (lv_at hl 1 rfl) ?_
            refine lv_iconst (v := 1) hx hb d_Fr_unpack_136 (by decide) ?_
            refine lv_isub hx hb d_Fr_unpack_137 ?_
            refine lv_iload_n hx hb d_Fr_unpack_138 rfl (lv_at hl 6 rfl) ?_
            refine zz_Si (As := [.int a1]) (rest := [.int (x_3 - (1 : Int32)), .long x_12, .ref q]) X (c_Fr_lowest l a1 _ h) ⟨rfl, rfl⟩ m_Fr_lowest k_Fr_21 ⟨Nat.le_of_ble_eq_true rfl, Nat.le_of_ble_eq_true rfl⟩ rfl hl.1 rfl (Nat.le_of_ble_eq_true rfl) d_Fr_unpack_139 hf0 (fun r_13 h => ?_)
            refine lv_iadd hx hb d_Fr_unpack_142 ?_
            refine zz_Wv (As := [.long x_12, .int ((x_3 - (1 : Int32)) + r_13)]) (rest := []) (wc := wF1 q ((0 : Int32), L.2.1, L.2.2.1, L.2.2.2)) (wr := []) X hK hP hD hS hA (c_Fr_become l D cI q ((0 : Int32), L.2.1, L.2.2.1, L.2.2.2) x_12 ((x_3 - (1 : Int32)) + r_13) _ h _) ⟨rfl, rfl⟩ m_Fr_become k_Fr_24 ⟨Nat.le_of_ble_eq_true rfl, Nat.le_of_ble_eq_true rfl⟩ [0] [] rfl rfl (by decide) (by decide) (by decide) 0 0 rfl rfl rfl rfl hl.1 rfl (Nat.le_of_ble_eq_true rfl) d_Fr_unpack_143 hf0 (fun u_14 H locs h hP hD hS => ?_)
            have hP : va_P D vwCl (wF1 q u_14) H := hP.sub [0] rfl
            have hD : va_D A (wF1 q u_14) := hD.sub [0] (by decide) rfl
            exact W.vret hx hb hr (fun t ht hW => ⟨⟨u_14, rfl, h, by rw [ht]; exact hP, hD⟩, hS.F ht⟩) hS.2.2 d_Fr_unpack_146
          · skip
            have h := h.1 c_10
            refine lv_aload_n hx hb d_Fr_unpack_101 rfl (lv_at hl 4 rfl) ?_
            refine lv_lload hx hb d_Fr_unpack_102 (lv_at hl 0 rfl) ?_
            refine lv_bipush (v := 62) hx hb d_Fr_unpack_104 (by decide) ?_
            refine lv_iload hx hb d_Fr_unpack_106 (lv_at hl 3 rfl) ?_
            refine lv_isub hx hb d_Fr_unpack_108 ?_
            refine zz_llshl hx hb d_Fr_unpack_109 ?_
            refine lv_topl (fun x_16 ex_16 => ?_)
            have h := h x_16 ex_16
            refine lv_iload_n hx hb d_Fr_unpack_110 rfl (lv_at hl 6 rfl) ?_
            refine zz_Si (As := [.int a1]) (rest := [.long x_16, .ref q]) X (c_Fr_lowest l a1 _ h) ⟨rfl, rfl⟩ m_Fr_lowest k_Fr_21 ⟨Nat.le_of_ble_eq_true rfl, Nat.le_of_ble_eq_true rfl⟩ rfl hl.1 rfl (Nat.le_of_ble_eq_true rfl) d_Fr_unpack_111 hf0 (fun r_17 h => ?_)
            refine zz_Wv (As := [.long x_16, .int r_17]) (rest := []) (wc := wF1 q ((0 : Int32), L.2.1, L.2.2.1, L.2.2.2)) (wr := []) X hK hP hD hS hA (c_Fr_become l D cI q ((0 : Int32), L.2.1, L.2.2.1, L.2.2.2) x_16 r_17 _ h _) ⟨rfl, rfl⟩ m_Fr_become k_Fr_24 ⟨Nat.le_of_ble_eq_true rfl, Nat.le_of_ble_eq_true rfl⟩ [0] [] rfl rfl (by decide) (by decide) (by decide) 0 0 rfl rfl rfl rfl hl.1 rfl (Nat.le_of_ble_eq_true rfl) d_Fr_unpack_114 hf0 (fun u_18 H locs h hP hD hS => ?_)
            have hP : va_P D vwCl (wF1 q u_18) H := hP.sub [0] rfl
            have hD : va_D A (wF1 q u_18) := hD.sub [0] (by decide) rfl
            refine lv_goto (tgt := 146) hx hb d_Fr_unpack_117 (by decide) ?_
            exact W.vret hx hb hr (fun t ht hW => ⟨⟨u_18, rfl, h, by rw [ht]; exact hP, hD⟩, hS.F ht⟩) hS.2.2 d_Fr_unpack_146
        · skip
          have h := h.1 c_9
          refine lv_aload_n hx hb d_Fr_unpack_77 rfl (lv_at hl 4 rfl) ?_
          refine lv_lload hx hb d_Fr_unpack_78 (lv_at hl 0 rfl) ?_
          refine lv_lconst (v := 0) hx hb d_Fr_unpack_80 (by decide) ?_
          refine W.lcmp hx hb d_Fr_unpack_81 ?_
          refine lv_if_ne (tgt := 89) hx hb d_Fr_unpack_82 (by decide) (fun c_20 => ?_) (fun c_20 => ?_)
          · have kc_20 := (fun q => c_20 ((lg_cmp_eq _ _).mpr q))
            have h := h.2 kc_20
            refine lv_iconst (v := 3) hx hb d_Fr_unpack_89 (by decide) ?_
            refine p_Fr_17 hx hb hT hown hK hP hD hS 0 rfl rfl d_Fr_unpack_90 (fun H locs (hP : va_P D vwCl (wF1 q ((0 : Int32), (3 : Int32), L.2.2.1, L.2.2.2)) H) (hD : va_D A (wF1 q ((0 : Int32), (3 : Int32), L.2.2.1, L.2.2.2))) hS => ?_)
            refine lv_goto (tgt := 146) hx hb d_Fr_unpack_93 (by decide) ?_
            exact W.vret hx hb hr (fun t ht hW => ⟨⟨((0 : Int32), (3 : Int32), L.2.2.1, L.2.2.2), rfl, h, by rw [ht]; exact hP, hD⟩, hS.F ht⟩) hS.2.2 d_Fr_unpack_146
          · have kc_20 := ((lg_cmp_eq _ _).mp c_20)
            have h := h.1 kc_20
            refine lv_iconst (v := 2) hx hb d_Fr_unpack_85 (by decide) ?_
            refine lv_goto (tgt := 90) hx hb d_Fr_unpack_86 (by decide) ?_
            refine p_Fr_17 hx hb hT hown hK hP hD hS 0 rfl rfl d_Fr_unpack_90 (fun H locs (hP : va_P D vwCl (wF1 q ((0 : Int32), (2 : Int32), L.2.2.1, L.2.2.2)) H) (hD : va_D A (wF1 q ((0 : Int32), (2 : Int32), L.2.2.1, L.2.2.2))) hS => ?_)
            refine lv_goto (tgt := 146) hx hb d_Fr_unpack_93 (by decide) ?_
            exact W.vret hx hb hr (fun t ht hW => ⟨⟨((0 : Int32), (2 : Int32), L.2.2.1, L.2.2.2), rfl, h, by rw [ht]; exact hP, hD⟩, hS.F ht⟩) hS.2.2 d_Fr_unpack_146
      · have kc_8 := (fun q => c_8 ((lg_cmp_eq _ _).mpr q))
        have h := h.2 kc_8
        refine lv_iconst (v := 1) hx hb d_Fr_unpack_62 (by decide) ?_
        refine lv_goto (tgt := 67) hx hb d_Fr_unpack_63 (by decide) ?_
        refine p_Fr_13 hx hb hT hown hK hP hD hS 0 rfl rfl (Or.inr rfl) d_Fr_unpack_67 (fun H locs (hP : va_P D vwCl (wF1 q ((1 : Int32), L.2.1, L.2.2.1, L.2.2.2)) H) (hD : va_D A (wF1 q ((1 : Int32), L.2.1, L.2.2.1, L.2.2.2))) hS => ?_)
        refine lv_iload hx hb d_Fr_unpack_70 (lv_at hl 1 rfl) ?_
        refine lv_iload hx hb d_Fr_unpack_72 (lv_at hl 2 rfl) ?_
        refine lv_icmp_ne (tgt := 96) hx hb d_Fr_unpack_74 (by decide) (fun c_21 => ?_) (fun c_21 => ?_)
        · skip
          have h := h.2 c_21
          refine lv_iload hx hb d_Fr_unpack_96 (lv_at hl 1 rfl) ?_
          refine lv_if_ne (tgt := 120) hx hb d_Fr_unpack_98 (by decide) (fun c_22 => ?_) (fun c_22 => ?_)
          · skip
            have h := h.2 c_22
            refine lv_aload_n hx hb d_Fr_unpack_120 rfl (lv_at hl 4 rfl) ?_
            refine lv_lload hx hb d_Fr_unpack_121 (lv_at hl 0 rfl) ?_
            refine lv_lconst (v := 1) hx hb d_Fr_unpack_123 (by decide) ?_
            refine lv_iload hx hb d_Fr_unpack_124 (lv_at hl 3 rfl) ?_
            refine zz_llshl hx hb d_Fr_unpack_126 ?_
            refine lv_lor hx hb d_Fr_unpack_127 ?_
            refine lv_topl (fun x_23 ex_23 => ?_)
            have h := h x_23 ex_23
            refine lv_bipush (v := 62) hx hb d_Fr_unpack_128 (by decide) ?_
            refine lv_iload hx hb d_Fr_unpack_130 (lv_at hl 3 rfl) ?_
            refine lv_isub hx hb d_Fr_unpack_132 ?_
            refine zz_llshl hx hb d_Fr_unpack_133 ?_
            refine lv_topl (fun x_24 ex_24 => ?_)
            have h := h x_24 ex_24
            refine lv_iload hx hb d_Fr_unpack_134 (lv_at hl 1 rfl) ?_
            refine lv_iconst (v := 1) hx hb d_Fr_unpack_136 (by decide) ?_
            refine lv_isub hx hb d_Fr_unpack_137 ?_
            refine lv_iload_n hx hb d_Fr_unpack_138 rfl (lv_at hl 6 rfl) ?_
            refine zz_Si (As := [.int a1]) (rest := [.int (x_3 - (1 : Int32)), .long x_24, .ref q]) X (c_Fr_lowest l a1 _ h) ⟨rfl, rfl⟩ m_Fr_lowest k_Fr_21 ⟨Nat.le_of_ble_eq_true rfl, Nat.le_of_ble_eq_true rfl⟩ rfl hl.1 rfl (Nat.le_of_ble_eq_true rfl) d_Fr_unpack_139 hf0 (fun r_25 h => ?_)
            refine lv_iadd hx hb d_Fr_unpack_142 ?_
            refine zz_Wv (As := [.long x_24, .int ((x_3 - (1 : Int32)) + r_25)]) (rest := []) (wc := wF1 q ((1 : Int32), L.2.1, L.2.2.1, L.2.2.2)) (wr := []) X hK hP hD hS hA (c_Fr_become l D cI q ((1 : Int32), L.2.1, L.2.2.1, L.2.2.2) x_24 ((x_3 - (1 : Int32)) + r_25) _ h _) ⟨rfl, rfl⟩ m_Fr_become k_Fr_24 ⟨Nat.le_of_ble_eq_true rfl, Nat.le_of_ble_eq_true rfl⟩ [0] [] rfl rfl (by decide) (by decide) (by decide) 0 0 rfl rfl rfl rfl hl.1 rfl (Nat.le_of_ble_eq_true rfl) d_Fr_unpack_143 hf0 (fun u_26 H locs h hP hD hS => ?_)
            have hP : va_P D vwCl (wF1 q u_26) H := hP.sub [0] rfl
            have hD : va_D A (wF1 q u_26) := hD.sub [0] (by decide) rfl
            exact W.vret hx hb hr (fun t ht hW => ⟨⟨u_26, rfl, h, by rw [ht]; exact hP, hD⟩, hS.F ht⟩) hS.2.2 d_Fr_unpack_146
          · skip
            have h := h.1 c_22
            refine lv_aload_n hx hb d_Fr_unpack_101 rfl (lv_at hl 4 rfl) ?_
            refine lv_lload hx hb d_Fr_unpack_102 (lv_at hl 0 rfl) ?_
            refine lv_bipush (v := 62) hx hb d_Fr_unpack_104 (by decide) ?_
            refine lv_iload hx hb d_Fr_unpack_106 (lv_at hl 3 rfl) ?_
            refine lv_isub hx hb d_Fr_unpack_108 ?_
            refine zz_llshl hx hb d_Fr_unpack_109 ?_
            refine lv_topl (fun x_28 ex_28 => ?_)
            have h := h x_28 ex_28
            refine lv_iload_n hx hb d_Fr_unpack_110 rfl (lv_at hl 6 rfl) ?_
            refine zz_Si (As := [.int a1]) (rest := [.long x_28, .ref q]) X (c_Fr_lowest l a1 _ h) ⟨rfl, rfl⟩ m_Fr_lowest k_Fr_21 ⟨Nat.le_of_ble_eq_true rfl, Nat.le_of_ble_eq_true rfl⟩ rfl hl.1 rfl (Nat.le_of_ble_eq_true rfl) d_Fr_unpack_111 hf0 (fun r_29 h => ?_)
            refine zz_Wv (As := [.long x_28, .int r_29]) (rest := []) (wc := wF1 q ((1 : Int32), L.2.1, L.2.2.1, L.2.2.2)) (wr := []) X hK hP hD hS hA (c_Fr_become l D cI q ((1 : Int32), L.2.1, L.2.2.1, L.2.2.2) x_28 r_29 _ h _) ⟨rfl, rfl⟩ m_Fr_become k_Fr_24 ⟨Nat.le_of_ble_eq_true rfl, Nat.le_of_ble_eq_true rfl⟩ [0] [] rfl rfl (by decide) (by decide) (by decide) 0 0 rfl rfl rfl rfl hl.1 rfl (Nat.le_of_ble_eq_true rfl) d_Fr_unpack_114 hf0 (fun u_30 H locs h hP hD hS => ?_)
            have hP : va_P D vwCl (wF1 q u_30) H := hP.sub [0] rfl
            have hD : va_D A (wF1 q u_30) := hD.sub [0] (by decide) rfl
            refine lv_goto (tgt := 146) hx hb d_Fr_unpack_117 (by decide) ?_
            exact W.vret hx hb hr (fun t ht hW => ⟨⟨u_30, rfl, h, by rw [ht]; exact hP, hD⟩, hS.F ht⟩) hS.2.2 d_Fr_unpack_146
        · skip
          have h := h.1 c_21
          refine lv_aload_n hx hb d_Fr_unpack_77 rfl (lv_at hl 4 rfl) ?_
          refine lv_lload hx hb d_Fr_unpack_78 (lv_at hl 0 rfl) ?_
          refine lv_lconst (v := 0) hx hb d_Fr_unpack_80 (by decide) ?_
          refine W.lcmp hx hb d_Fr_unpack_81 ?_
          refine lv_if_ne (tgt := 89) hx hb d_Fr_unpack_82 (by decide) (fun c_32 => ?_) (fun c_32 => ?_)
          · have kc_32 := (fun q => c_32 ((lg_cmp_eq _ _).mpr q))
            have h := h.2 kc_32
            refine lv_iconst (v := 3) hx hb d_Fr_unpack_89 (by decide) ?_
            refine p_Fr_17 hx hb hT hown hK hP hD hS 0 rfl rfl d_Fr_unpack_90 (fun H locs (hP : va_P D vwCl (wF1 q ((1 : Int32), (3 : Int32), L.2.2.1, L.2.2.2)) H) (hD : va_D A (wF1 q ((1 : Int32), (3 : Int32), L.2.2.1, L.2.2.2))) hS => ?_)
            refine lv_goto (tgt := 146) hx hb d_Fr_unpack_93 (by decide) ?_
            exact W.vret hx hb hr (fun t ht hW => ⟨⟨((1 : Int32), (3 : Int32), L.2.2.1, L.2.2.2), rfl, h, by rw [ht]; exact hP, hD⟩, hS.F ht⟩) hS.2.2 d_Fr_unpack_146
          · have kc_32 := ((lg_cmp_eq _ _).mp c_32)
            have h := h.1 kc_32
            refine lv_iconst (v := 2) hx hb d_Fr_unpack_85 (by decide) ?_
            refine lv_goto (tgt := 90) hx hb d_Fr_unpack_86 (by decide) ?_
            refine p_Fr_17 hx hb hT hown hK hP hD hS 0 rfl rfl d_Fr_unpack_90 (fun H locs (hP : va_P D vwCl (wF1 q ((1 : Int32), (2 : Int32), L.2.2.1, L.2.2.2)) H) (hD : va_D A (wF1 q ((1 : Int32), (2 : Int32), L.2.2.1, L.2.2.2))) hS => ?_)
            refine lv_goto (tgt := 146) hx hb d_Fr_unpack_93 (by decide) ?_
            exact W.vret hx hb hr (fun t ht hW => ⟨⟨((1 : Int32), (2 : Int32), L.2.2.1, L.2.2.2), rfl, h, by rw [ht]; exact hP, hD⟩, hS.F ht⟩) hS.2.2 d_Fr_unpack_146
    · exact absurd c_2 c_6
  · skip
    have h := h.2 c_2
    refine lv_sipush (v := 2047) hx hb d_Fr_unpack_10 (by decide) ?_
    refine lv_goto (tgt := 19) hx hb d_Fr_unpack_13 (by decide) ?_
    refine lv_istore (lv' := [(5, .int (2047 : Int32)), (4, .int r_1), (0, .ref q), (1, .long a0), (3, .int a1)]) hx hb d_Fr_unpack_19 hl (by decide) rfl (fun ls hl => ?_)
    refine lv_lload_n hx hb d_Fr_unpack_21 rfl (lv_at hl 3 rfl) ?_
    refine lv_iload hx hb d_Fr_unpack_22 (lv_at hl 1 rfl) ?_
    refine zz_llushr hx hb d_Fr_unpack_24 ?_
    refine lv_l2i (v := (zz_lushr a0 r_1).toInt32) hx hb d_Fr_unpack_25 rfl ?_
    refine lv_iload hx hb d_Fr_unpack_26 (lv_at hl 0 rfl) ?_
    refine lv_iand hx hb d_Fr_unpack_28 ?_
    refine lv_topi (fun x_33 ex_33 => ?_)
    have h := h x_33 ex_33
    refine lv_istore (lv' := [(6, .int x_33), (5, .int (2047 : Int32)), (4, .int r_1), (0, .ref q), (1, .long a0), (3, .int a1)]) hx hb d_Fr_unpack_29 hl (by decide) rfl (fun ls hl => ?_)
    refine lv_lload_n hx hb d_Fr_unpack_31 rfl (lv_at hl 4 rfl) ?_
    refine lv_lconst (v := 1) hx hb d_Fr_unpack_32 (by decide) ?_
    refine lv_iload hx hb d_Fr_unpack_33 (lv_at hl 2 rfl) ?_
    refine zz_llshl hx hb d_Fr_unpack_35 ?_
    refine lv_lconst (v := 1) hx hb d_Fr_unpack_36 (by decide) ?_
    refine lv_lsub hx hb d_Fr_unpack_37 ?_
    refine lv_topl (fun x_34 ex_34 => ?_)
    have h := h x_34 ex_34
    refine lv_land hx hb d_Fr_unpack_38 ?_
    refine lv_topl (fun x_35 ex_35 => ?_)
    have h := h x_35 ex_35
    refine lv_lstore (lv' := [(7, .long x_35), (6, .int x_33), (5, .int (2047 : Int32)), (4, .int r_1), (0, .ref q), (1, .long a0), (3, .int a1)]) hx hb d_Fr_unpack_39 hl (by decide) rfl (fun ls hl => ?_)
    refine lv_aload_n hx hb d_Fr_unpack_41 rfl (lv_at hl 4 rfl) ?_
    refine lv_lload_n hx hb d_Fr_unpack_42 rfl (lv_at hl 5 rfl) ?_
    refine lv_iload_n hx hb d_Fr_unpack_43 rfl (lv_at hl 6 rfl) ?_
    refine lv_if_eq (tgt := 52) hx hb d_Fr_unpack_44 (by decide) (fun c_36 => ?_) (fun c_36 => ?_)
    · exact absurd c_36 c_2
    · skip
      refine lv_bipush (v := 63) hx hb d_Fr_unpack_47 (by decide) ?_
      refine lv_goto (tgt := 54) hx hb d_Fr_unpack_49 (by decide) ?_
      refine zz_llushr hx hb d_Fr_unpack_54 ?_
      refine lv_lconst (v := 1) hx hb d_Fr_unpack_55 (by decide) ?_
      refine lv_land hx hb d_Fr_unpack_56 ?_
      refine lv_topl (fun x_37 ex_37 => ?_)
      have h := h x_37 ex_37
      refine lv_lconst (v := 0) hx hb d_Fr_unpack_57 (by decide) ?_
      refine W.lcmp hx hb d_Fr_unpack_58 ?_
      refine lv_if_eq (tgt := 66) hx hb d_Fr_unpack_59 (by decide) (fun c_38 => ?_) (fun c_38 => ?_)
      · have kc_38 := ((lg_cmp_eq _ _).mp c_38)
        have h := h.1 kc_38
        refine lv_iconst (v := 0) hx hb d_Fr_unpack_66 (by decide) ?_
        refine p_Fr_13 hx hb hT hown hK hP hD hS 0 rfl rfl (Or.inl rfl) d_Fr_unpack_67 (fun H locs (hP : va_P D vwCl (wF1 q ((0 : Int32), L.2.1, L.2.2.1, L.2.2.2)) H) (hD : va_D A (wF1 q ((0 : Int32), L.2.1, L.2.2.1, L.2.2.2))) hS => ?_)
        refine lv_iload hx hb d_Fr_unpack_70 (lv_at hl 1 rfl) ?_
        refine lv_iload hx hb d_Fr_unpack_72 (lv_at hl 2 rfl) ?_
        refine lv_icmp_ne (tgt := 96) hx hb d_Fr_unpack_74 (by decide) (fun c_39 => ?_) (fun c_39 => ?_)
        · skip
          have h := h.2 c_39
          refine lv_iload hx hb d_Fr_unpack_96 (lv_at hl 1 rfl) ?_
          refine lv_if_ne (tgt := 120) hx hb d_Fr_unpack_98 (by decide) (fun c_40 => ?_) (fun c_40 => ?_)
          · skip
            have h := h.2 c_40
            refine lv_aload_n hx hb d_Fr_unpack_120 rfl (lv_at hl 4 rfl) ?_
            refine lv_lload hx hb d_Fr_unpack_121 (lv_at hl 0 rfl) ?_
            refine lv_lconst (v := 1) hx hb d_Fr_unpack_123 (by decide) ?_
            refine lv_iload hx hb d_Fr_unpack_124 (lv_at hl 3 rfl) ?_
            refine zz_llshl hx hb d_Fr_unpack_126 ?_
            refine lv_lor hx hb d_Fr_unpack_127 ?_
            refine lv_topl (fun x_41 ex_41 => ?_)
            have h := h x_41 ex_41
            refine lv_bipush (v := 62) hx hb d_Fr_unpack_128 (by decide) ?_
            refine lv_iload hx hb d_Fr_unpack_130 (lv_at hl 3 rfl) ?_
            refine lv_isub hx hb d_Fr_unpack_132 ?_
            refine zz_llshl hx hb d_Fr_unpack_133 ?_
            refine lv_topl (fun x_42 ex_42 => ?_)
            have h := h x_42 ex_42
            refine lv_iload hx hb d_Fr_unpack_134 (lv_at hl 1 rfl) ?_
            refine lv_iconst (v := 1) hx hb d_Fr_unpack_136 (by decide) ?_
            refine lv_isub hx hb d_Fr_unpack_137 ?_
            refine lv_iload_n hx hb d_Fr_unpack_138 rfl (lv_at hl 6 rfl) ?_
            refine zz_Si (As := [.int a1]) (rest := [.int (x_33 - (1 : Int32)), .long x_42, .ref q]) X (c_Fr_lowest l a1 _ h) ⟨rfl, rfl⟩ m_Fr_lowest k_Fr_21 ⟨Nat.le_of_ble_eq_true rfl, Nat.le_of_ble_eq_true rfl⟩ rfl hl.1 rfl (Nat.le_of_ble_eq_true rfl) d_Fr_unpack_139 hf0 (fun r_43 h => ?_)
            refine lv_iadd hx hb d_Fr_unpack_142 ?_
            refine lv_topi (fun x_44 ex_44 => ?_)
            have h := h x_44 ex_44
            refine zz_Wv (As := [.long x_42, .int x_44]) (rest := []) (wc := wF1 q ((0 : Int32), L.2.1, L.2.2.1, L.2.2.2)) (wr := []) X hK hP hD hS hA (c_Fr_become l D cI q ((0 : Int32), L.2.1, L.2.2.1, L.2.2.2) x_42 x_44 _ h _) ⟨rfl, rfl⟩ m_Fr_become k_Fr_24 ⟨Nat.le_of_ble_eq_true rfl, Nat.le_of_ble_eq_true rfl⟩ [0] [] rfl rfl (by decide) (by decide) (by decide) 0 0 rfl rfl rfl rfl hl.1 rfl (Nat.le_of_ble_eq_true rfl) d_Fr_unpack_143 hf0 (fun u_45 H locs h hP hD hS => ?_)
            have hP : va_P D vwCl (wF1 q u_45) H := hP.sub [0] rfl
            have hD : va_D A (wF1 q u_45) := hD.sub [0] (by decide) rfl
            exact W.vret hx hb hr (fun t ht hW => ⟨⟨u_45, rfl, h, by rw [ht]; exact hP, hD⟩, hS.F ht⟩) hS.2.2 d_Fr_unpack_146
          · skip
            have h := h.1 c_40
            refine lv_aload_n hx hb d_Fr_unpack_101 rfl (lv_at hl 4 rfl) ?_
            refine lv_lload hx hb d_Fr_unpack_102 (lv_at hl 0 rfl) ?_
            refine lv_bipush (v := 62) hx hb d_Fr_unpack_104 (by decide) ?_
            refine lv_iload hx hb d_Fr_unpack_106 (lv_at hl 3 rfl) ?_
            refine lv_isub hx hb d_Fr_unpack_108 ?_
            refine zz_llshl hx hb d_Fr_unpack_109 ?_
            refine lv_topl (fun x_47 ex_47 => ?_)
            have h := h x_47 ex_47
            refine lv_iload_n hx hb d_Fr_unpack_110 rfl (lv_at hl 6 rfl) ?_
            refine zz_Si (As := [.int a1]) (rest := [.long x_47, .ref q]) X (c_Fr_lowest l a1 _ h) ⟨rfl, rfl⟩ m_Fr_lowest k_Fr_21 ⟨Nat.le_of_ble_eq_true rfl, Nat.le_of_ble_eq_true rfl⟩ rfl hl.1 rfl (Nat.le_of_ble_eq_true rfl) d_Fr_unpack_111 hf0 (fun r_48 h => ?_)
            refine zz_Wv (As := [.long x_47, .int r_48]) (rest := []) (wc := wF1 q ((0 : Int32), L.2.1, L.2.2.1, L.2.2.2)) (wr := []) X hK hP hD hS hA (c_Fr_become l D cI q ((0 : Int32), L.2.1, L.2.2.1, L.2.2.2) x_47 r_48 _ h _) ⟨rfl, rfl⟩ m_Fr_become k_Fr_24 ⟨Nat.le_of_ble_eq_true rfl, Nat.le_of_ble_eq_true rfl⟩ [0] [] rfl rfl (by decide) (by decide) (by decide) 0 0 rfl rfl rfl rfl hl.1 rfl (Nat.le_of_ble_eq_true rfl) d_Fr_unpack_114 hf0 (fun u_49 H locs h hP hD hS => ?_)
            have hP : va_P D vwCl (wF1 q u_49) H := hP.sub [0] rfl
            have hD : va_D A (wF1 q u_49) := hD.sub [0] (by decide) rfl
            refine lv_goto (tgt := 146) hx hb d_Fr_unpack_117 (by decide) ?_
            exact W.vret hx hb hr (fun t ht hW => ⟨⟨u_49, rfl, h, by rw [ht]; exact hP, hD⟩, hS.F ht⟩) hS.2.2 d_Fr_unpack_146
        · skip
          have h := h.1 c_39
          refine lv_aload_n hx hb d_Fr_unpack_77 rfl (lv_at hl 4 rfl) ?_
          refine lv_lload hx hb d_Fr_unpack_78 (lv_at hl 0 rfl) ?_
          refine lv_lconst (v := 0) hx hb d_Fr_unpack_80 (by decide) ?_
          refine W.lcmp hx hb d_Fr_unpack_81 ?_
          refine lv_if_ne (tgt := 89) hx hb d_Fr_unpack_82 (by decide) (fun c_51 => ?_) (fun c_51 => ?_)
          · have kc_51 := (fun q => c_51 ((lg_cmp_eq _ _).mpr q))
            have h := h.2 kc_51
            refine lv_iconst (v := 3) hx hb d_Fr_unpack_89 (by decide) ?_
            refine p_Fr_17 hx hb hT hown hK hP hD hS 0 rfl rfl d_Fr_unpack_90 (fun H locs (hP : va_P D vwCl (wF1 q ((0 : Int32), (3 : Int32), L.2.2.1, L.2.2.2)) H) (hD : va_D A (wF1 q ((0 : Int32), (3 : Int32), L.2.2.1, L.2.2.2))) hS => ?_)
            refine lv_goto (tgt := 146) hx hb d_Fr_unpack_93 (by decide) ?_
            exact W.vret hx hb hr (fun t ht hW => ⟨⟨((0 : Int32), (3 : Int32), L.2.2.1, L.2.2.2), rfl, h, by rw [ht]; exact hP, hD⟩, hS.F ht⟩) hS.2.2 d_Fr_unpack_146
          · have kc_51 := ((lg_cmp_eq _ _).mp c_51)
            have h := h.1 kc_51
            refine lv_iconst (v := 2) hx hb d_Fr_unpack_85 (by decide) ?_
            refine lv_goto (tgt := 90) hx hb d_Fr_unpack_86 (by decide) ?_
            refine p_Fr_17 hx hb hT hown hK hP hD hS 0 rfl rfl d_Fr_unpack_90 (fun H locs (hP : va_P D vwCl (wF1 q ((0 : Int32), (2 : Int32), L.2.2.1, L.2.2.2)) H) (hD : va_D A (wF1 q ((0 : Int32), (2 : Int32), L.2.2.1, L.2.2.2))) hS => ?_)
            refine lv_goto (tgt := 146) hx hb d_Fr_unpack_93 (by decide) ?_
            exact W.vret hx hb hr (fun t ht hW => ⟨⟨((0 : Int32), (2 : Int32), L.2.2.1, L.2.2.2), rfl, h, by rw [ht]; exact hP, hD⟩, hS.F ht⟩) hS.2.2 d_Fr_unpack_146
      · have kc_38 := (fun q => c_38 ((lg_cmp_eq _ _).mpr q))
        have h := h.2 kc_38
        refine lv_iconst (v := 1) hx hb d_Fr_unpack_62 (by decide) ?_
        refine lv_goto (tgt := 67) hx hb d_Fr_unpack_63 (by decide) ?_
        refine p_Fr_13 hx hb hT hown hK hP hD hS 0 rfl rfl (Or.inr rfl) d_Fr_unpack_67 (fun H locs (hP : va_P D vwCl (wF1 q ((1 : Int32), L.2.1, L.2.2.1, L.2.2.2)) H) (hD : va_D A (wF1 q ((1 : Int32), L.2.1, L.2.2.1, L.2.2.2))) hS => ?_)
        refine lv_iload hx hb d_Fr_unpack_70 (lv_at hl 1 rfl) ?_
        refine lv_iload hx hb d_Fr_unpack_72 (lv_at hl 2 rfl) ?_
        refine lv_icmp_ne (tgt := 96) hx hb d_Fr_unpack_74 (by decide) (fun c_52 => ?_) (fun c_52 => ?_)
        · skip
          have h := h.2 c_52
          refine lv_iload hx hb d_Fr_unpack_96 (lv_at hl 1 rfl) ?_
          refine lv_if_ne (tgt := 120) hx hb d_Fr_unpack_98 (by decide) (fun c_53 => ?_) (fun c_53 => ?_)
          · skip
            have h := h.2 c_53
            refine lv_aload_n hx hb d_Fr_unpack_120 rfl (lv_at hl 4 rfl) ?_
            refine lv_lload hx hb d_Fr_unpack_121 (lv_at hl 0 rfl) ?_
            refine lv_lconst (v := 1) hx hb d_Fr_unpack_123 (by decide) ?_
            refine lv_iload hx hb d_Fr_unpack_124 (lv_at hl 3 rfl) ?_
            refine zz_llshl hx hb d_Fr_unpack_126 ?_
            refine lv_lor hx hb d_Fr_unpack_127 ?_
            refine lv_topl (fun x_54 ex_54 => ?_)
            have h := h x_54 ex_54
            refine lv_bipush (v := 62) hx hb d_Fr_unpack_128 (by decide) ?_
            refine lv_iload hx hb d_Fr_unpack_130 (lv_at hl 3 rfl) ?_
            refine lv_isub hx hb d_Fr_unpack_132 ?_
            refine zz_llshl hx hb d_Fr_unpack_133 ?_
            refine lv_topl (fun x_55 ex_55 => ?_)
            have h := h x_55 ex_55
            refine lv_iload hx hb d_Fr_unpack_134 (lv_at hl 1 rfl) ?_
            refine lv_iconst (v := 1) hx hb d_Fr_unpack_136 (by decide) ?_
            refine lv_isub hx hb d_Fr_unpack_137 ?_
            refine lv_iload_n hx hb d_Fr_unpack_138 rfl (lv_at hl 6 rfl) ?_
            refine zz_Si (As := [.int a1]) (rest := [.int (x_33 - (1 : Int32)), .long x_55, .ref q]) X (c_Fr_lowest l a1 _ h) ⟨rfl, rfl⟩ m_Fr_lowest k_Fr_21 ⟨Nat.le_of_ble_eq_true rfl, Nat.le_of_ble_eq_true rfl⟩ rfl hl.1 rfl (Nat.le_of_ble_eq_true rfl) d_Fr_unpack_139 hf0 (fun r_56 h => ?_)
            refine lv_iadd hx hb d_Fr_unpack_142 ?_
            refine lv_topi (fun x_57 ex_57 => ?_)
            have h := h x_57 ex_57
            refine zz_Wv (As := [.long x_55, .int x_57]) (rest := []) (wc := wF1 q ((1 : Int32), L.2.1, L.2.2.1, L.2.2.2)) (wr := []) X hK hP hD hS hA (c_Fr_become l D cI q ((1 : Int32), L.2.1, L.2.2.1, L.2.2.2) x_55 x_57 _ h _) ⟨rfl, rfl⟩ m_Fr_become k_Fr_24 ⟨Nat.le_of_ble_eq_true rfl, Nat.le_of_ble_eq_true rfl⟩ [0] [] rfl rfl (by decide) (by decide) (by decide) 0 0 rfl rfl rfl rfl hl.1 rfl (Nat.le_of_ble_eq_true rfl) d_Fr_unpack_143 hf0 (fun u_58 H locs h hP hD hS => ?_)
            have hP : va_P D vwCl (wF1 q u_58) H := hP.sub [0] rfl
            have hD : va_D A (wF1 q u_58) := hD.sub [0] (by decide) rfl
            exact W.vret hx hb hr (fun t ht hW => ⟨⟨u_58, rfl, h, by rw [ht]; exact hP, hD⟩, hS.F ht⟩) hS.2.2 d_Fr_unpack_146
          · skip
            have h := h.1 c_53
            refine lv_aload_n hx hb d_Fr_unpack_101 rfl (lv_at hl 4 rfl) ?_
            refine lv_lload hx hb d_Fr_unpack_102 (lv_at hl 0 rfl) ?_
            refine lv_bipush (v := 62) hx hb d_Fr_unpack_104 (by decide) ?_
            refine lv_iload hx hb d_Fr_unpack_106 (lv_at hl 3 rfl) ?_
            refine lv_isub hx hb d_Fr_unpack_108 ?_
            refine zz_llshl hx hb d_Fr_unpack_109 ?_
            refine lv_topl (fun x_60 ex_60 => ?_)
            have h := h x_60 ex_60
            refine lv_iload_n hx hb d_Fr_unpack_110 rfl (lv_at hl 6 rfl) ?_
            refine zz_Si (As := [.int a1]) (rest := [.long x_60, .ref q]) X (c_Fr_lowest l a1 _ h) ⟨rfl, rfl⟩ m_Fr_lowest k_Fr_21 ⟨Nat.le_of_ble_eq_true rfl, Nat.le_of_ble_eq_true rfl⟩ rfl hl.1 rfl (Nat.le_of_ble_eq_true rfl) d_Fr_unpack_111 hf0 (fun r_61 h => ?_)
            refine zz_Wv (As := [.long x_60, .int r_61]) (rest := []) (wc := wF1 q ((1 : Int32), L.2.1, L.2.2.1, L.2.2.2)) (wr := []) X hK hP hD hS hA (c_Fr_become l D cI q ((1 : Int32), L.2.1, L.2.2.1, L.2.2.2) x_60 r_61 _ h _) ⟨rfl, rfl⟩ m_Fr_become k_Fr_24 ⟨Nat.le_of_ble_eq_true rfl, Nat.le_of_ble_eq_true rfl⟩ [0] [] rfl rfl (by decide) (by decide) (by decide) 0 0 rfl rfl rfl rfl hl.1 rfl (Nat.le_of_ble_eq_true rfl) d_Fr_unpack_114 hf0 (fun u_62 H locs h hP hD hS => ?_)
            have hP : va_P D vwCl (wF1 q u_62) H := hP.sub [0] rfl
            have hD : va_D A (wF1 q u_62) := hD.sub [0] (by decide) rfl
            refine lv_goto (tgt := 146) hx hb d_Fr_unpack_117 (by decide) ?_
            exact W.vret hx hb hr (fun t ht hW => ⟨⟨u_62, rfl, h, by rw [ht]; exact hP, hD⟩, hS.F ht⟩) hS.2.2 d_Fr_unpack_146
        · skip
          have h := h.1 c_52
          refine lv_aload_n hx hb d_Fr_unpack_77 rfl (lv_at hl 4 rfl) ?_
          refine lv_lload hx hb d_Fr_unpack_78 (lv_at hl 0 rfl) ?_
          refine lv_lconst (v := 0) hx hb d_Fr_unpack_80 (by decide) ?_
          refine W.lcmp hx hb d_Fr_unpack_81 ?_
          refine lv_if_ne (tgt := 89) hx hb d_Fr_unpack_82 (by decide) (fun c_64 => ?_) (fun c_64 => ?_)
          · have kc_64 := (fun q => c_64 ((lg_cmp_eq _ _).mpr q))
            have h := h.2 kc_64
            refine lv_iconst (v := 3) hx hb d_Fr_unpack_89 (by decide) ?_
            refine p_Fr_17 hx hb hT hown hK hP hD hS 0 rfl rfl d_Fr_unpack_90 (fun H locs (hP : va_P D vwCl (wF1 q ((1 : Int32), (3 : Int32), L.2.2.1, L.2.2.2)) H) (hD : va_D A (wF1 q ((1 : Int32), (3 : Int32), L.2.2.1, L.2.2.2))) hS => ?_)
            refine lv_goto (tgt := 146) hx hb d_Fr_unpack_93 (by decide) ?_
            exact W.vret hx hb hr (fun t ht hW => ⟨⟨((1 : Int32), (3 : Int32), L.2.2.1, L.2.2.2), rfl, h, by rw [ht]; exact hP, hD⟩, hS.F ht⟩) hS.2.2 d_Fr_unpack_146
          · have kc_64 := ((lg_cmp_eq _ _).mp c_64)
            have h := h.1 kc_64
            refine lv_iconst (v := 2) hx hb d_Fr_unpack_85 (by decide) ?_
            refine lv_goto (tgt := 90) hx hb d_Fr_unpack_86 (by decide) ?_
            refine p_Fr_17 hx hb hT hown hK hP hD hS 0 rfl rfl d_Fr_unpack_90 (fun H locs (hP : va_P D vwCl (wF1 q ((1 : Int32), (2 : Int32), L.2.2.1, L.2.2.2)) H) (hD : va_D A (wF1 q ((1 : Int32), (2 : Int32), L.2.2.1, L.2.2.2))) hS => ?_)
            refine lv_goto (tgt := 146) hx hb d_Fr_unpack_93 (by decide) ?_
            exact W.vret hx hb hr (fun t ht hW => ⟨⟨((1 : Int32), (2 : Int32), L.2.2.1, L.2.2.2), rfl, h, by rw [ht]; exact hP, hD⟩, hS.F ht⟩) hS.2.2 d_Fr_unpack_146
def wp_Fr_fromWord (L : Int32 × Int32 × Int32 × Int64) (a0 : Int32) (P : ((Int32 × Int32 × Int32 × Int64)) → Prop) : Prop := (((0 : Int32) ≤ a0 → ∀ x_2 : Int64, x_2 = (if 0 < a0.toInt64 then a0.toInt64 else -a0.toInt64) → wp_Fr_become ((0 : Int32), L.2.1, L.2.2.1, L.2.2.2) x_2 (62 : Int32) (fun u_3 => P u_3)) ∧ (¬ (0 : Int32) ≤ a0 → ∀ x_5 : Int64, x_5 = (if 0 < a0.toInt64 then a0.toInt64 else -a0.toInt64) → wp_Fr_become ((1 : Int32), L.2.1, L.2.2.1, L.2.2.2) x_5 (62 : Int32) (fun u_6 => P u_6)))
abbrev rm_Fr_fromWord : Room := { frames := 1, cells := 0, slots := 0, locals := 24 }
set_option maxHeartbeats 4000000 in
set_option maxRecDepth 100000 in
theorem c_Fr_fromWord (l : Launch) (D : va_G) (cI : ClassId) (q : Nat) (L : Int32 × Int32 × Int32 × Int64) (a0 : Int32) (P : ((Int32 × Int32 × Int32 × Int64)) → Prop) (h : wp_Fr_fromWord L a0 P) (sz : Nat) : Met l y_Fr_fromWord (zz_ws y_Fr_fromWord b_Fr_fromWord 2 none) rm_Fr_fromWord (va_Pc [.ref q, .int a0] (zz_pw D [(cI, .int)] (wF1 q L) sz)) (va_Qv P (zz_qw D (fun u => wF1 q u) (va_A (wF1 q L) sz)) (va_A (wF1 q L) sz)) 0 0 (va_A (wF1 q L) sz) := by
  refine Met.ofW (cc := b_Fr_fromWord) (maxL := 2) (ret := none) (by decide) rfl ?_
  intro p e s m args below meth c s₁ B hml hv
  obtain ⟨rfl, hsz, hP, hK, hD0⟩ := hv
  have hx := B.exec
  have hb := B.bytes
  have hr := B.returns
  have hts := atoms_spec (ws := (zz_ws y_Fr_fromWord b_Fr_fromWord 2 none)) B.pre
  have hown : s.vm.findClass R_Fr = some m.cls := findClass_of_methodNamed B.named
  have hlocks := B.notSynchronized
  have hT := zz_hts hts
  have X : CallFix p m c b_Fr_fromWord 2 s ([.ref q, .int a0] : List Value).toArray (zz_ws y_Fr_fromWord b_Fr_fromWord 2 none) R_Fr := ⟨hx, hb, hml, hown, hts⟩
  have hf0 : 0 + 0 ≤ (headSpec (zz_ws y_Fr_fromWord b_Fr_fromWord 2 none) rm_Fr_fromWord).room.cells ∧ 0 + 0 ≤ (headSpec (zz_ws y_Fr_fromWord b_Fr_fromWord 2 none) rm_Fr_fromWord).room.slots := ⟨Nat.le_of_ble_eq_true rfl, Nat.le_of_ble_eq_true rfl⟩
  subst hsz
  have hD := hD0.self (sz := s.heap.size)
  generalize hAe : va_A (wF1 q L) s.heap.size = A at hD ⊢
  have hA : ∀ q : Nat, s.heap.size ≤ q → A q := fun q h => by rw [← hAe]; exact Or.inr h
  have hS : va_S A s.heap s.heap [] := va_S.rf
  have hl := lv_entry ([.ref q, .int a0]) (n := 2) (Nat.le_of_ble_eq_true rfl)
  rw [lg_entry_eq]
  generalize (lg_sl ([.ref q, .int a0]) ++ List.replicate (2 - (lg_sl ([.ref q, .int a0])).length) Slot.unset).toArray = ls at hl ⊢
  have hl : lv_has ls 2 [(0, .ref q), (1, .int a0)] := hl
  refine lv_aload_n hx hb d_Fr_fromWord_0 rfl (lv_at hl 0 rfl) ?_
  refine lv_iload_n hx hb d_Fr_fromWord_1 rfl (lv_at hl 1 rfl) ?_
  refine lv_if_ge (tgt := 9) hx hb d_Fr_fromWord_2 (by decide) (fun c_1 => ?_) (fun c_1 => ?_)
  · skip
    have h := h.1 c_1
    refine lv_iconst (v := 0) hx hb d_Fr_fromWord_9 (by decide) ?_
    refine p_Fr_13 hx hb hT hown hK hP hD hS 0 rfl rfl (Or.inl rfl) d_Fr_fromWord_10 (fun H locs (hP : va_P D vwCl (wF1 q ((0 : Int32), L.2.1, L.2.2.1, L.2.2.2)) H) (hD : va_D A (wF1 q ((0 : Int32), L.2.1, L.2.2.1, L.2.2.2))) hS => ?_)
    refine lv_aload_n hx hb d_Fr_fromWord_13 rfl (lv_at hl 0 rfl) ?_
    refine lv_iload_n hx hb d_Fr_fromWord_14 rfl (lv_at hl 1 rfl) ?_
    refine lv_i2l (v := a0.toInt64) hx hb d_Fr_fromWord_15 rfl ?_
    refine va_mabs_long hx hb (hml.trans hl.1.symm) hown (hT _ k_Fr_28) (hT _ jm_abs_long_s) (hT _ jm_i) (hT _ jm_abs_long_c) (Nat.le_of_ble_eq_true rfl) (Nat.le_of_ble_eq_true rfl) (Nat.le_of_ble_eq_true rfl) (Nat.le_of_ble_eq_true rfl) d_Fr_fromWord_16 ?_
    refine lv_topl (fun x_2 ex_2 => ?_)
    have h := h x_2 ex_2
    refine lv_bipush (v := 62) hx hb d_Fr_fromWord_19 (by decide) ?_
    refine zz_Wv (As := [.long x_2, .int (62 : Int32)]) (rest := []) (wc := wF1 q ((0 : Int32), L.2.1, L.2.2.1, L.2.2.2)) (wr := []) X hK hP hD hS hA (c_Fr_become l D cI q ((0 : Int32), L.2.1, L.2.2.1, L.2.2.2) x_2 (62 : Int32) _ h _) ⟨rfl, rfl⟩ m_Fr_become k_Fr_24 ⟨Nat.le_of_ble_eq_true rfl, Nat.le_of_ble_eq_true rfl⟩ [0] [] rfl rfl (by decide) (by decide) (by decide) 0 0 rfl rfl rfl rfl hl.1 rfl (Nat.le_of_ble_eq_true rfl) d_Fr_fromWord_21 hf0 (fun u_3 H locs h hP hD hS => ?_)
    have hP : va_P D vwCl (wF1 q u_3) H := hP.sub [0] rfl
    have hD : va_D A (wF1 q u_3) := hD.sub [0] (by decide) rfl
    exact W.vret hx hb hr (fun t ht hW => ⟨⟨u_3, rfl, h, by rw [ht]; exact hP, hD⟩, hS.F ht⟩) hS.2.2 d_Fr_fromWord_24
  · skip
    have h := h.2 c_1
    refine lv_iconst (v := 1) hx hb d_Fr_fromWord_5 (by decide) ?_
    refine lv_goto (tgt := 10) hx hb d_Fr_fromWord_6 (by decide) ?_
    refine p_Fr_13 hx hb hT hown hK hP hD hS 0 rfl rfl (Or.inr rfl) d_Fr_fromWord_10 (fun H locs (hP : va_P D vwCl (wF1 q ((1 : Int32), L.2.1, L.2.2.1, L.2.2.2)) H) (hD : va_D A (wF1 q ((1 : Int32), L.2.1, L.2.2.1, L.2.2.2))) hS => ?_)
    refine lv_aload_n hx hb d_Fr_fromWord_13 rfl (lv_at hl 0 rfl) ?_
    refine lv_iload_n hx hb d_Fr_fromWord_14 rfl (lv_at hl 1 rfl) ?_
    refine lv_i2l (v := a0.toInt64) hx hb d_Fr_fromWord_15 rfl ?_
    refine va_mabs_long hx hb (hml.trans hl.1.symm) hown (hT _ k_Fr_28) (hT _ jm_abs_long_s) (hT _ jm_i) (hT _ jm_abs_long_c) (Nat.le_of_ble_eq_true rfl) (Nat.le_of_ble_eq_true rfl) (Nat.le_of_ble_eq_true rfl) (Nat.le_of_ble_eq_true rfl) d_Fr_fromWord_16 ?_
    refine lv_topl (fun x_5 ex_5 => ?_)
    have h := h x_5 ex_5
    refine lv_bipush (v := 62) hx hb d_Fr_fromWord_19 (by decide) ?_
    refine zz_Wv (As := [.long x_5, .int (62 : Int32)]) (rest := []) (wc := wF1 q ((1 : Int32), L.2.1, L.2.2.1, L.2.2.2)) (wr := []) X hK hP hD hS hA (c_Fr_become l D cI q ((1 : Int32), L.2.1, L.2.2.1, L.2.2.2) x_5 (62 : Int32) _ h _) ⟨rfl, rfl⟩ m_Fr_become k_Fr_24 ⟨Nat.le_of_ble_eq_true rfl, Nat.le_of_ble_eq_true rfl⟩ [0] [] rfl rfl (by decide) (by decide) (by decide) 0 0 rfl rfl rfl rfl hl.1 rfl (Nat.le_of_ble_eq_true rfl) d_Fr_fromWord_21 hf0 (fun u_6 H locs h hP hD hS => ?_)
    have hP : va_P D vwCl (wF1 q u_6) H := hP.sub [0] rfl
    have hD : va_D A (wF1 q u_6) := hD.sub [0] (by decide) rfl
    exact W.vret hx hb hr (fun t ht hW => ⟨⟨u_6, rfl, h, by rw [ht]; exact hP, hD⟩, hS.F ht⟩) hS.2.2 d_Fr_fromWord_24
def wp_Fr_negate (L : Int32 × Int32 × Int32 × Int64) (P : ((Int32 × Int32 × Int32 × Int64)) → Prop) : Prop := ((L.1 = (0 : Int32) → P ((1 : Int32), L.2.1, L.2.2.1, L.2.2.2)) ∧ (¬ L.1 = (0 : Int32) → P ((0 : Int32), L.2.1, L.2.2.1, L.2.2.2)))
abbrev rm_Fr_negate : Room := { frames := 0, cells := 0, slots := 0, locals := 0 }
set_option maxHeartbeats 4000000 in
set_option maxRecDepth 100000 in
theorem c_Fr_negate (l : Launch) (D : va_G) (cI : ClassId) (q : Nat) (L : Int32 × Int32 × Int32 × Int64) (P : ((Int32 × Int32 × Int32 × Int64)) → Prop) (h : wp_Fr_negate L P) (sz : Nat) : Met l y_Fr_negate (zz_ws y_Fr_negate b_Fr_negate 1 none) rm_Fr_negate (va_Pc [.ref q] (zz_pw D [(cI, .int)] (wF1 q L) sz)) (va_Qv P (zz_qw D (fun u => wF1 q u) (va_A (wF1 q L) sz)) (va_A (wF1 q L) sz)) 0 0 (va_A (wF1 q L) sz) := by
  refine Met.ofW (cc := b_Fr_negate) (maxL := 1) (ret := none) (by decide) rfl ?_
  intro p e s m args below meth c s₁ B hml hv
  obtain ⟨rfl, hsz, hP, hK, hD0⟩ := hv
  have hx := B.exec
  have hb := B.bytes
  have hr := B.returns
  have hts := atoms_spec (ws := (zz_ws y_Fr_negate b_Fr_negate 1 none)) B.pre
  have hown : s.vm.findClass R_Fr = some m.cls := findClass_of_methodNamed B.named
  have hlocks := B.notSynchronized
  have hT := zz_hts hts
  have X : CallFix p m c b_Fr_negate 1 s ([.ref q] : List Value).toArray (zz_ws y_Fr_negate b_Fr_negate 1 none) R_Fr := ⟨hx, hb, hml, hown, hts⟩
  have hf0 : 0 + 0 ≤ (headSpec (zz_ws y_Fr_negate b_Fr_negate 1 none) rm_Fr_negate).room.cells ∧ 0 + 0 ≤ (headSpec (zz_ws y_Fr_negate b_Fr_negate 1 none) rm_Fr_negate).room.slots := ⟨Nat.le_of_ble_eq_true rfl, Nat.le_of_ble_eq_true rfl⟩
  subst hsz
  have hD := hD0.self (sz := s.heap.size)
  generalize hAe : va_A (wF1 q L) s.heap.size = A at hD ⊢
  have hA : ∀ q : Nat, s.heap.size ≤ q → A q := fun q h => by rw [← hAe]; exact Or.inr h
  have hS : va_S A s.heap s.heap [] := va_S.rf
  have hl := lv_entry ([.ref q]) (n := 1) (Nat.le_of_ble_eq_true rfl)
  rw [lg_entry_eq]
  generalize (lg_sl ([.ref q]) ++ List.replicate (1 - (lg_sl ([.ref q])).length) Slot.unset).toArray = ls at hl ⊢
  have hl : lv_has ls 1 [(0, .ref q)] := hl
  refine lv_aload_n hx hb d_Fr_negate_0 rfl (lv_at hl 0 rfl) ?_
  refine lv_aload_n hx hb d_Fr_negate_1 rfl (lv_at hl 0 rfl) ?_
  refine g_Fr_13 (v := .int L.1) hx hb hT hown hK hP 0 rfl rfl d_Fr_negate_2 ?_
  refine lv_if_ne (tgt := 12) hx hb d_Fr_negate_5 (by decide) (fun c_1 => ?_) (fun c_1 => ?_)
  · skip
    have h := h.2 c_1
    refine lv_iconst (v := 0) hx hb d_Fr_negate_12 (by decide) ?_
    refine p_Fr_13 hx hb hT hown hK hP hD hS 0 rfl rfl (Or.inl rfl) d_Fr_negate_13 (fun H locs (hP : va_P D vwCl (wF1 q ((0 : Int32), L.2.1, L.2.2.1, L.2.2.2)) H) (hD : va_D A (wF1 q ((0 : Int32), L.2.1, L.2.2.1, L.2.2.2))) hS => ?_)
    exact W.vret hx hb hr (fun t ht hW => ⟨⟨((0 : Int32), L.2.1, L.2.2.1, L.2.2.2), rfl, h, by rw [ht]; exact hP, hD⟩, hS.F ht⟩) hS.2.2 d_Fr_negate_16
  · skip
    have h := h.1 c_1
    refine lv_iconst (v := 1) hx hb d_Fr_negate_8 (by decide) ?_
    refine lv_goto (tgt := 13) hx hb d_Fr_negate_9 (by decide) ?_
    refine p_Fr_13 hx hb hT hown hK hP hD hS 0 rfl rfl (Or.inr rfl) d_Fr_negate_13 (fun H locs (hP : va_P D vwCl (wF1 q ((1 : Int32), L.2.1, L.2.2.1, L.2.2.2)) H) (hD : va_D A (wF1 q ((1 : Int32), L.2.1, L.2.2.1, L.2.2.2))) hS => ?_)
    exact W.vret hx hb hr (fun t ht hW => ⟨⟨((1 : Int32), L.2.1, L.2.2.1, L.2.2.2), rfl, h, by rw [ht]; exact hP, hD⟩, hS.F ht⟩) hS.2.2 d_Fr_negate_16
def wp_Fr_dropSign (L : Int32 × Int32 × Int32 × Int64) (P : ((Int32 × Int32 × Int32 × Int64)) → Prop) : Prop := P ((0 : Int32), L.2.1, L.2.2.1, L.2.2.2)
abbrev rm_Fr_dropSign : Room := { frames := 0, cells := 0, slots := 0, locals := 0 }
set_option maxHeartbeats 4000000 in
set_option maxRecDepth 100000 in
theorem c_Fr_dropSign (l : Launch) (D : va_G) (cI : ClassId) (q : Nat) (L : Int32 × Int32 × Int32 × Int64) (P : ((Int32 × Int32 × Int32 × Int64)) → Prop) (h : wp_Fr_dropSign L P) (sz : Nat) : Met l y_Fr_dropSign (zz_ws y_Fr_dropSign b_Fr_dropSign 1 none) rm_Fr_dropSign (va_Pc [.ref q] (zz_pw D [(cI, .int)] (wF1 q L) sz)) (va_Qv P (zz_qw D (fun u => wF1 q u) (va_A (wF1 q L) sz)) (va_A (wF1 q L) sz)) 0 0 (va_A (wF1 q L) sz) := by
  refine Met.ofW (cc := b_Fr_dropSign) (maxL := 1) (ret := none) (by decide) rfl ?_
  intro p e s m args below meth c s₁ B hml hv
  obtain ⟨rfl, hsz, hP, hK, hD0⟩ := hv
  have hx := B.exec
  have hb := B.bytes
  have hr := B.returns
  have hts := atoms_spec (ws := (zz_ws y_Fr_dropSign b_Fr_dropSign 1 none)) B.pre
  have hown : s.vm.findClass R_Fr = some m.cls := findClass_of_methodNamed B.named
  have hlocks := B.notSynchronized
  have hT := zz_hts hts
  have X : CallFix p m c b_Fr_dropSign 1 s ([.ref q] : List Value).toArray (zz_ws y_Fr_dropSign b_Fr_dropSign 1 none) R_Fr := ⟨hx, hb, hml, hown, hts⟩
  have hf0 : 0 + 0 ≤ (headSpec (zz_ws y_Fr_dropSign b_Fr_dropSign 1 none) rm_Fr_dropSign).room.cells ∧ 0 + 0 ≤ (headSpec (zz_ws y_Fr_dropSign b_Fr_dropSign 1 none) rm_Fr_dropSign).room.slots := ⟨Nat.le_of_ble_eq_true rfl, Nat.le_of_ble_eq_true rfl⟩
  subst hsz
  have hD := hD0.self (sz := s.heap.size)
  generalize hAe : va_A (wF1 q L) s.heap.size = A at hD ⊢
  have hA : ∀ q : Nat, s.heap.size ≤ q → A q := fun q h => by rw [← hAe]; exact Or.inr h
  have hS : va_S A s.heap s.heap [] := va_S.rf
  have hl := lv_entry ([.ref q]) (n := 1) (Nat.le_of_ble_eq_true rfl)
  rw [lg_entry_eq]
  generalize (lg_sl ([.ref q]) ++ List.replicate (1 - (lg_sl ([.ref q])).length) Slot.unset).toArray = ls at hl ⊢
  have hl : lv_has ls 1 [(0, .ref q)] := hl
  refine lv_aload_n hx hb d_Fr_dropSign_0 rfl (lv_at hl 0 rfl) ?_
  refine lv_iconst (v := 0) hx hb d_Fr_dropSign_1 (by decide) ?_
  refine p_Fr_13 hx hb hT hown hK hP hD hS 0 rfl rfl (Or.inl rfl) d_Fr_dropSign_2 (fun H locs (hP : va_P D vwCl (wF1 q ((0 : Int32), L.2.1, L.2.2.1, L.2.2.2)) H) (hD : va_D A (wF1 q ((0 : Int32), L.2.1, L.2.2.1, L.2.2.2))) hS => ?_)
  exact W.vret hx hb hr (fun t ht hW => ⟨⟨((0 : Int32), L.2.1, L.2.2.1, L.2.2.2), rfl, h, by rw [ht]; exact hP, hD⟩, hS.F ht⟩) hS.2.2 d_Fr_dropSign_5
def wp_Fr_multiplyFinite (L : Int32 × Int32 × Int32 × Int64) (a0 : Int64) (a1 : Int32) (P : ((Int32 × Int32 × Int32 × Int64)) → Prop) : Prop := ∀ x_1 : Int64, x_1 = (zz_lushr L.2.2.2 (32 : Int32)) → ∀ x_2 : Int64, x_2 = (L.2.2.2 &&& (4294967295 : Int64)) → ∀ x_3 : Int64, x_3 = (zz_lushr a0 (32 : Int32)) → ∀ x_4 : Int64, x_4 = (a0 &&& (4294967295 : Int64)) → ∀ x_5 : Int64, x_5 = (x_2 * x_4) → ∀ x_6 : Int64, x_6 = (x_1 * x_4) → ∀ x_7 : Int64, x_7 = (x_2 * x_3) → ∀ x_8 : Int64, x_8 = (x_6 &&& (4294967295 : Int64)) → ∀ x_9 : Int64, x_9 = ((zz_lushr x_5 (32 : Int32)) + x_8) → ∀ x_10 : Int64, x_10 = (x_7 &&& (4294967295 : Int64)) → ∀ x_11 : Int64, x_11 = (x_9 + x_10) → ∀ x_12 : Int64, x_12 = ((x_1 * x_3) + (zz_lushr x_6 (32 : Int32))) → ∀ x_13 : Int64, x_13 = (x_12 + (zz_lushr x_7 (32 : Int32))) → ∀ x_14 : Int64, x_14 = (x_13 + (zz_lushr x_11 (32 : Int32))) → ∀ x_15 : Int64, x_15 = (x_5 &&& (4294967295 : Int64)) → ∀ x_16 : Int64, x_16 = ((zz_lshl x_11 (32 : Int32)) ||| x_15) → ∀ x_17 : Int64, x_17 = ((zz_lshl x_14 (1 : Int32)) ||| (zz_lushr x_16 (63 : Int32))) → (((zz_lshl x_16 (1 : Int32)) = (0 : Int64) → ∀ x_19 : Int64, x_19 = (x_17 ||| (0 : Int32).toInt64) → ∀ x_20 : Int32, x_20 = ((L.2.2.1 + a1) + (1 : Int32)) → wp_Fr_become L x_19 x_20 (fun u_21 => P u_21)) ∧ (¬ (zz_lshl x_16 (1 : Int32)) = (0 : Int64) → ∀ x_23 : Int64, x_23 = (x_17 ||| (1 : Int32).toInt64) → ∀ x_24 : Int32, x_24 = ((L.2.2.1 + a1) + (1 : Int32)) → wp_Fr_become L x_23 x_24 (fun u_25 => P u_25)))
abbrev rm_Fr_multiplyFinite : Room := { frames := 1, cells := 0, slots := 0, locals := 24 }
set_option maxHeartbeats 4000000 in
set_option maxRecDepth 100000 in
theorem c_Fr_multiplyFinite (l : Launch) (D : va_G) (cI : ClassId) (q : Nat) (L : Int32 × Int32 × Int32 × Int64) (a0 : Int64) (a1 : Int32) (P : ((Int32 × Int32 × Int32 × Int64)) → Prop) (h : wp_Fr_multiplyFinite L a0 a1 P) (sz : Nat) : Met l y_Fr_multiplyFinite (zz_ws y_Fr_multiplyFinite b_Fr_multiplyFinite 22 none) rm_Fr_multiplyFinite (va_Pc [.ref q, .long a0, .int a1] (zz_pw D [(cI, .int)] (wF1 q L) sz)) (va_Qv P (zz_qw D (fun u => wF1 q u) (va_A (wF1 q L) sz)) (va_A (wF1 q L) sz)) 0 0 (va_A (wF1 q L) sz) := by
  refine Met.ofW (cc := b_Fr_multiplyFinite) (maxL := 22) (ret := none) (by decide) rfl ?_
  intro p e s m args below meth c s₁ B hml hv
  obtain ⟨rfl, hsz, hP, hK, hD0⟩ := hv
  have hx := B.exec
  have hb := B.bytes
  have hr := B.returns
  have hts := atoms_spec (ws := (zz_ws y_Fr_multiplyFinite b_Fr_multiplyFinite 22 none)) B.pre
  have hown : s.vm.findClass R_Fr = some m.cls := findClass_of_methodNamed B.named
  have hlocks := B.notSynchronized
  have hT := zz_hts hts
  have X : CallFix p m c b_Fr_multiplyFinite 22 s ([.ref q, .long a0, .int a1] : List Value).toArray (zz_ws y_Fr_multiplyFinite b_Fr_multiplyFinite 22 none) R_Fr := ⟨hx, hb, hml, hown, hts⟩
  have hf0 : 0 + 0 ≤ (headSpec (zz_ws y_Fr_multiplyFinite b_Fr_multiplyFinite 22 none) rm_Fr_multiplyFinite).room.cells ∧ 0 + 0 ≤ (headSpec (zz_ws y_Fr_multiplyFinite b_Fr_multiplyFinite 22 none) rm_Fr_multiplyFinite).room.slots := ⟨Nat.le_of_ble_eq_true rfl, Nat.le_of_ble_eq_true rfl⟩
  subst hsz
  have hD := hD0.self (sz := s.heap.size)
  generalize hAe : va_A (wF1 q L) s.heap.size = A at hD ⊢
  have hA : ∀ q : Nat, s.heap.size ≤ q → A q := fun q h => by rw [← hAe]; exact Or.inr h
  have hS : va_S A s.heap s.heap [] := va_S.rf
  have hl := lv_entry ([.ref q, .long a0, .int a1]) (n := 22) (Nat.le_of_ble_eq_true rfl)
  rw [lg_entry_eq]
  generalize (lg_sl ([.ref q, .long a0, .int a1]) ++ List.replicate (22 - (lg_sl ([.ref q, .long a0, .int a1])).length) Slot.unset).toArray = ls at hl ⊢
  have hl : lv_has ls 22 [(0, .ref q), (1, .long a0), (3, .int a1)] := hl
  refine lv_aload_n hx hb d_Fr_multiplyFinite_0 rfl (lv_at hl 0 rfl) ?_
  refine g_Fr_34 (v := .long L.2.2.2) hx hb hT hown hK hP 0 rfl rfl d_Fr_multiplyFinite_1 ?_
  refine lv_bipush (v := 32) hx hb d_Fr_multiplyFinite_4 (by decide) ?_
  refine zz_llushr hx hb d_Fr_multiplyFinite_6 ?_
  refine lv_topl (fun x_1 ex_1 => ?_)
  have h := h x_1 ex_1
  refine lv_lstore (lv' := [(4, .long x_1), (0, .ref q), (1, .long a0), (3, .int a1)]) hx hb d_Fr_multiplyFinite_7 hl (by decide) rfl (fun ls hl => ?_)
  refine lv_aload_n hx hb d_Fr_multiplyFinite_9 rfl (lv_at hl 1 rfl) ?_
  refine g_Fr_34 (v := .long L.2.2.2) hx hb hT hown hK hP 0 rfl rfl d_Fr_multiplyFinite_10 ?_
  refine lv_ldc2 (v := 4294967295) hx hb hown (hT _ n_Fr_78) d_Fr_multiplyFinite_13 ?_
  refine lv_land hx hb d_Fr_multiplyFinite_16 ?_
  refine lv_topl (fun x_2 ex_2 => ?_)
  have h := h x_2 ex_2
  refine lv_lstore (lv' := [(6, .long x_2), (4, .long x_1), (0, .ref q), (1, .long a0), (3, .int a1)]) hx hb d_Fr_multiplyFinite_17 hl (by decide) rfl (fun ls hl => ?_)
  refine lv_lload_n hx hb d_Fr_multiplyFinite_19 rfl (lv_at hl 3 rfl) ?_
  refine lv_bipush (v := 32) hx hb d_Fr_multiplyFinite_20 (by decide) ?_
  refine zz_llushr hx hb d_Fr_multiplyFinite_22 ?_
  refine lv_topl (fun x_3 ex_3 => ?_)
  have h := h x_3 ex_3
  refine lv_lstore (lv' := [(8, .long x_3), (6, .long x_2), (4, .long x_1), (0, .ref q), (1, .long a0), (3, .int a1)]) hx hb d_Fr_multiplyFinite_23 hl (by decide) rfl (fun ls hl => ?_)
  refine lv_lload_n hx hb d_Fr_multiplyFinite_25 rfl (lv_at hl 4 rfl) ?_
  refine lv_ldc2 (v := 4294967295) hx hb hown (hT _ n_Fr_78) d_Fr_multiplyFinite_26 ?_
  refine lv_land hx hb d_Fr_multiplyFinite_29 ?_
  refine lv_topl (fun x_4 ex_4 => ?_)
  have h := h x_4 ex_4
  refine lv_lstore (lv' := [(10, .long x_4), (8, .long x_3), (6, .long x_2), (4, .long x_1), (0, .ref q), (1, .long a0), (3, .int a1)]) hx hb d_Fr_multiplyFinite_30 hl (by decide) rfl (fun ls hl => ?_)
  refine lv_lload hx hb d_Fr_multiplyFinite_32 (lv_at hl 2 rfl) ?_
  refine lv_lload hx hb d_Fr_multiplyFinite_34 (lv_at hl 0 rfl) ?_
  refine lv_lmul hx hb d_Fr_multiplyFinite_36 ?_
  refine lv_topl (fun x_5 ex_5 => ?_)
  have h := h x_5 ex_5
  refine lv_lstore (lv' := [(12, .long x_5), (10, .long x_4), (8, .long x_3), (6, .long x_2), (4, .long x_1), (0, .ref q), (1, .long a0), (3, .int a1)]) hx hb d_Fr_multiplyFinite_37 hl (by decide) rfl (fun ls hl => ?_)
  refine lv_lload hx hb d_Fr_multiplyFinite_39 (lv_at hl 4 rfl) ?_
  refine lv_lload hx hb d_Fr_multiplyFinite_41 (lv_at hl 1 rfl) ?_
  refine lv_lmul hx hb d_Fr_multiplyFinite_43 ?_
  refine lv_topl (fun x_6 ex_6 => ?_)
  have h := h x_6 ex_6
  refine lv_lstore (lv' := [(14, .long x_6), (12, .long x_5), (10, .long x_4), (8, .long x_3), (6, .long x_2), (4, .long x_1), (0, .ref q), (1, .long a0), (3, .int a1)]) hx hb d_Fr_multiplyFinite_44 hl (by decide) rfl (fun ls hl => ?_)
  refine lv_lload hx hb d_Fr_multiplyFinite_46 (lv_at hl 4 rfl) ?_
  refine lv_lload hx hb d_Fr_multiplyFinite_48 (lv_at hl 3 rfl) ?_
  refine lv_lmul hx hb d_Fr_multiplyFinite_50 ?_
  refine lv_topl (fun x_7 ex_7 => ?_)
  have h := h x_7 ex_7
  refine lv_lstore (lv' := [(16, .long x_7), (14, .long x_6), (12, .long x_5), (10, .long x_4), (8, .long x_3), (6, .long x_2), (4, .long x_1), (0, .ref q), (1, .long a0), (3, .int a1)]) hx hb d_Fr_multiplyFinite_51 hl (by decide) rfl (fun ls hl => ?_)
  refine lv_lload hx hb d_Fr_multiplyFinite_53 (lv_at hl 2 rfl) ?_
  refine lv_bipush (v := 32) hx hb d_Fr_multiplyFinite_55 (by decide) ?_
  refine zz_llushr hx hb d_Fr_multiplyFinite_57 ?_
  refine lv_lload hx hb d_Fr_multiplyFinite_58 (lv_at hl 1 rfl) ?_
  refine lv_ldc2 (v := 4294967295) hx hb hown (hT _ n_Fr_78) d_Fr_multiplyFinite_60 ?_
  refine lv_land hx hb d_Fr_multiplyFinite_63 ?_
  refine lv_topl (fun x_8 ex_8 => ?_)
  have h := h x_8 ex_8
  refine lv_ladd hx hb d_Fr_multiplyFinite_64 ?_
  refine lv_topl (fun x_9 ex_9 => ?_)
  have h := h x_9 ex_9
  refine lv_lload hx hb d_Fr_multiplyFinite_65 (lv_at hl 0 rfl) ?_
  refine lv_ldc2 (v := 4294967295) hx hb hown (hT _ n_Fr_78) d_Fr_multiplyFinite_67 ?_
  refine lv_land hx hb d_Fr_multiplyFinite_70 ?_
  refine lv_topl (fun x_10 ex_10 => ?_)
  have h := h x_10 ex_10
  refine lv_ladd hx hb d_Fr_multiplyFinite_71 ?_
  refine lv_topl (fun x_11 ex_11 => ?_)
  have h := h x_11 ex_11
  refine lv_lstore (lv' := [(18, .long x_11), (16, .long x_7), (14, .long x_6), (12, .long x_5), (10, .long x_4), (8, .long x_3), (6, .long x_2), (4, .long x_1), (0, .ref q), (1, .long a0), (3, .int a1)]) hx hb d_Fr_multiplyFinite_72 hl (by decide) rfl (fun ls hl => ?_)
  refine lv_lload hx hb d_Fr_multiplyFinite_74 (lv_at hl 7 rfl) ?_
  refine lv_lload hx hb d_Fr_multiplyFinite_76 (lv_at hl 5 rfl) ?_
  refine lv_lmul hx hb d_Fr_multiplyFinite_78 ?_
  refine lv_lload hx hb d_Fr_multiplyFinite_79 (lv_at hl 2 rfl) ?_
  refine lv_bipush (v := 32) hx hb d_Fr_multiplyFinite_81 (by decide) ?_
  refine zz_llushr hx hb d_Fr_multiplyFinite_83 ?_
  refine lv_ladd hx hb d_Fr_multiplyFinite_84 ?_
  refine lv_topl (fun x_12 ex_12 => ?_)
  have h := h x_12 ex_12
  refine lv_lload hx hb d_Fr_multiplyFinite_85 (lv_at hl 1 rfl) ?_
  refine lv_bipush (v := 32) hx hb d_Fr_multiplyFinite_87 (by decide) ?_
  refine zz_llushr hx hb d_Fr_multiplyFinite_89 ?_
  refine lv_ladd hx hb d_Fr_multiplyFinite_90 ?_
  refine lv_topl (fun x_13 ex_13 => ?_)
  have h := h x_13 ex_13
  refine lv_lload hx hb d_Fr_multiplyFinite_91 (lv_at hl 0 rfl) ?_
  refine lv_bipush (v := 32) hx hb d_Fr_multiplyFinite_93 (by decide) ?_
  refine zz_llushr hx hb d_Fr_multiplyFinite_95 ?_
  refine lv_ladd hx hb d_Fr_multiplyFinite_96 ?_
  refine lv_topl (fun x_14 ex_14 => ?_)
  have h := h x_14 ex_14
  refine lv_lstore (lv' := [(20, .long x_14), (18, .long x_11), (16, .long x_7), (14, .long x_6), (12, .long x_5), (10, .long x_4), (8, .long x_3), (6, .long x_2), (4, .long x_1), (0, .ref q), (1, .long a0), (3, .int a1)]) hx hb d_Fr_multiplyFinite_97 hl (by decide) rfl (fun ls hl => ?_)
  refine lv_lload hx hb d_Fr_multiplyFinite_99 (lv_at hl 1 rfl) ?_
  refine lv_bipush (v := 32) hx hb d_Fr_multiplyFinite_101 (by decide) ?_
  refine zz_llshl hx hb d_Fr_multiplyFinite_103 ?_
  refine lv_lload hx hb d_Fr_multiplyFinite_104 (lv_at hl 4 rfl) ?_
  refine lv_ldc2 (v := 4294967295) hx hb hown (hT _ n_Fr_78) d_Fr_multiplyFinite_106 ?_
  refine lv_land hx hb d_Fr_multiplyFinite_109 ?_
  refine lv_topl (fun x_15 ex_15 => ?_)
  have h := h x_15 ex_15
  refine lv_lor hx hb d_Fr_multiplyFinite_110 ?_
  refine lv_topl (fun x_16 ex_16 => ?_)
  have h := h x_16 ex_16
  refine lv_lstore (lv' := [(12, .long x_16), (20, .long x_14), (18, .long x_11), (16, .long x_7), (14, .long x_6), (10, .long x_4), (8, .long x_3), (6, .long x_2), (4, .long x_1), (0, .ref q), (1, .long a0), (3, .int a1)]) hx hb d_Fr_multiplyFinite_111 hl (by decide) rfl (fun ls hl => ?_)
  refine lv_aload_n hx hb d_Fr_multiplyFinite_113 rfl (lv_at hl 9 rfl) ?_
  refine lv_lload hx hb d_Fr_multiplyFinite_114 (lv_at hl 1 rfl) ?_
  refine lv_iconst (v := 1) hx hb d_Fr_multiplyFinite_116 (by decide) ?_
  refine zz_llshl hx hb d_Fr_multiplyFinite_117 ?_
  refine lv_lload hx hb d_Fr_multiplyFinite_118 (lv_at hl 0 rfl) ?_
  refine lv_bipush (v := 63) hx hb d_Fr_multiplyFinite_120 (by decide) ?_
  refine zz_llushr hx hb d_Fr_multiplyFinite_122 ?_
  refine lv_lor hx hb d_Fr_multiplyFinite_123 ?_
  refine lv_topl (fun x_17 ex_17 => ?_)
  have h := h x_17 ex_17
  refine lv_lload hx hb d_Fr_multiplyFinite_124 (lv_at hl 0 rfl) ?_
  refine lv_iconst (v := 1) hx hb d_Fr_multiplyFinite_126 (by decide) ?_
  refine zz_llshl hx hb d_Fr_multiplyFinite_127 ?_
  refine lv_lconst (v := 0) hx hb d_Fr_multiplyFinite_128 (by decide) ?_
  refine W.lcmp hx hb d_Fr_multiplyFinite_129 ?_
  refine lv_if_eq (tgt := 137) hx hb d_Fr_multiplyFinite_130 (by decide) (fun c_18 => ?_) (fun c_18 => ?_)
  · have kc_18 := ((lg_cmp_eq _ _).mp c_18)
    have h := h.1 kc_18
    refine lv_iconst (v := 0) hx hb d_Fr_multiplyFinite_137 (by decide) ?_
    refine lv_i2l (v := (0 : Int32).toInt64) hx hb d_Fr_multiplyFinite_138 rfl ?_
    refine lv_lor hx hb d_Fr_multiplyFinite_139 ?_
    refine lv_topl (fun x_19 ex_19 => ?_)
    have h := h x_19 ex_19
    refine lv_aload_n hx hb d_Fr_multiplyFinite_140 rfl (lv_at hl 9 rfl) ?_
    refine g_Fr_38 (v := .int L.2.2.1) hx hb hT hown hK hP 0 rfl rfl d_Fr_multiplyFinite_141 ?_
    refine lv_iload_n hx hb d_Fr_multiplyFinite_144 rfl (lv_at hl 11 rfl) ?_
    refine lv_iadd hx hb d_Fr_multiplyFinite_145 ?_
    refine lv_iconst (v := 1) hx hb d_Fr_multiplyFinite_146 (by decide) ?_
    refine lv_iadd hx hb d_Fr_multiplyFinite_147 ?_
    refine lv_topi (fun x_20 ex_20 => ?_)
    have h := h x_20 ex_20
    refine zz_Wv (As := [.long x_19, .int x_20]) (rest := []) (wc := wF1 q L) (wr := []) X hK hP hD hS hA (c_Fr_become l D cI q L x_19 x_20 _ h _) ⟨rfl, rfl⟩ m_Fr_become k_Fr_24 ⟨Nat.le_of_ble_eq_true rfl, Nat.le_of_ble_eq_true rfl⟩ [0] [] rfl rfl (by decide) (by decide) (by decide) 0 0 rfl rfl rfl rfl hl.1 rfl (Nat.le_of_ble_eq_true rfl) d_Fr_multiplyFinite_148 hf0 (fun u_21 H locs h hP hD hS => ?_)
    have hP : va_P D vwCl (wF1 q u_21) H := hP.sub [0] rfl
    have hD : va_D A (wF1 q u_21) := hD.sub [0] (by decide) rfl
    exact W.vret hx hb hr (fun t ht hW => ⟨⟨u_21, rfl, h, by rw [ht]; exact hP, hD⟩, hS.F ht⟩) hS.2.2 d_Fr_multiplyFinite_151
  · have kc_18 := (fun q => c_18 ((lg_cmp_eq _ _).mpr q))
    have h := h.2 kc_18
    refine lv_iconst (v := 1) hx hb d_Fr_multiplyFinite_133 (by decide) ?_
    refine lv_goto (tgt := 138) hx hb d_Fr_multiplyFinite_134 (by decide) ?_
    refine lv_i2l (v := (1 : Int32).toInt64) hx hb d_Fr_multiplyFinite_138 rfl ?_
    refine lv_lor hx hb d_Fr_multiplyFinite_139 ?_
    refine lv_topl (fun x_23 ex_23 => ?_)
    have h := h x_23 ex_23
    refine lv_aload_n hx hb d_Fr_multiplyFinite_140 rfl (lv_at hl 9 rfl) ?_
    refine g_Fr_38 (v := .int L.2.2.1) hx hb hT hown hK hP 0 rfl rfl d_Fr_multiplyFinite_141 ?_
    refine lv_iload_n hx hb d_Fr_multiplyFinite_144 rfl (lv_at hl 11 rfl) ?_
    refine lv_iadd hx hb d_Fr_multiplyFinite_145 ?_
    refine lv_iconst (v := 1) hx hb d_Fr_multiplyFinite_146 (by decide) ?_
    refine lv_iadd hx hb d_Fr_multiplyFinite_147 ?_
    refine lv_topi (fun x_24 ex_24 => ?_)
    have h := h x_24 ex_24
    refine zz_Wv (As := [.long x_23, .int x_24]) (rest := []) (wc := wF1 q L) (wr := []) X hK hP hD hS hA (c_Fr_become l D cI q L x_23 x_24 _ h _) ⟨rfl, rfl⟩ m_Fr_become k_Fr_24 ⟨Nat.le_of_ble_eq_true rfl, Nat.le_of_ble_eq_true rfl⟩ [0] [] rfl rfl (by decide) (by decide) (by decide) 0 0 rfl rfl rfl rfl hl.1 rfl (Nat.le_of_ble_eq_true rfl) d_Fr_multiplyFinite_148 hf0 (fun u_25 H locs h hP hD hS => ?_)
    have hP : va_P D vwCl (wF1 q u_25) H := hP.sub [0] rfl
    have hD : va_D A (wF1 q u_25) := hD.sub [0] (by decide) rfl
    exact W.vret hx hb hr (fun t ht hW => ⟨⟨u_25, rfl, h, by rw [ht]; exact hP, hD⟩, hS.F ht⟩) hS.2.2 d_Fr_multiplyFinite_151
def wl_Fr_rootOfFinite_23 (x_2 : Int64) (P : ((Int32 × Int32 × Int32 × Int64)) → Prop) : Nat → Int32 → Int64 → Int64 → Int32 × Int32 × Int32 × Int64 → Prop
  | 0, _, _, _, _ => False
  | n + 1, v7, v5, v3, wL => (((56 : Int32) ≤ v7 → ((v5 = (0 : Int64) → ∀ x_5 : Int64, x_5 = ((zz_lshl v3 (7 : Int32)) ||| (0 : Int32).toInt64) → ∀ x_6 : Int32, x_6 = (zz_shr wL.2.2.1 (1 : Int32)) → wp_Fr_become wL x_5 x_6 (fun u_7 => P u_7)) ∧ (¬ v5 = (0 : Int64) → ∀ x_9 : Int64, x_9 = ((zz_lshl v3 (7 : Int32)) ||| (1 : Int32).toInt64) → ∀ x_10 : Int32, x_10 = (zz_shr wL.2.2.1 (1 : Int32)) → wp_Fr_become wL x_9 x_10 (fun u_11 => P u_11)))) ∧ (¬ (56 : Int32) ≤ v7 → ∀ x_13 : Int32, x_13 = ((52 : Int32) - ((2 : Int32) * v7)) → ((x_13 < (0 : Int32) → ∀ x_15 : Int64, x_15 = ((zz_lshl v5 (2 : Int32)) ||| (0 : Int64)) → ∀ x_16 : Int64, x_16 = ((zz_lshl v3 (2 : Int32)) ||| (1 : Int64)) → ∀ x_17 : Int64, x_17 = (zz_lshl v3 (1 : Int32)) → ((x_15 < x_16 → ∀ x_19 : Int32, x_19 = v7 + 1 → wl_Fr_rootOfFinite_23 x_2 P n x_19 x_15 x_17 wL) ∧ (¬ x_15 < x_16 → ∀ x_20 : Int64, x_20 = (x_15 - x_16) → ∀ x_21 : Int64, x_21 = (x_17 ||| (1 : Int64)) → ∀ x_22 : Int32, x_22 = v7 + 1 → wl_Fr_rootOfFinite_23 x_2 P n x_22 x_20 x_21 wL))) ∧ (¬ x_13 < (0 : Int32) → ∀ x_23 : Int64, x_23 = ((zz_lushr x_2 x_13) &&& (3 : Int64)) → ∀ x_24 : Int64, x_24 = ((zz_lshl v5 (2 : Int32)) ||| x_23) → ∀ x_25 : Int64, x_25 = ((zz_lshl v3 (2 : Int32)) ||| (1 : Int64)) → ∀ x_26 : Int64, x_26 = (zz_lshl v3 (1 : Int32)) → ((x_24 < x_25 → ∀ x_28 : Int32, x_28 = v7 + 1 → wl_Fr_rootOfFinite_23 x_2 P n x_28 x_24 x_26 wL) ∧ (¬ x_24 < x_25 → ∀ x_29 : Int64, x_29 = (x_24 - x_25) → ∀ x_30 : Int64, x_30 = (x_26 ||| (1 : Int64)) → ∀ x_31 : Int32, x_31 = v7 + 1 → wl_Fr_rootOfFinite_23 x_2 P n x_31 x_29 x_30 wL))))))
def wp_Fr_rootOfFinite (L : Int32 × Int32 × Int32 × Int64) (P : ((Int32 × Int32 × Int32 × Int64)) → Prop) : Prop := ∀ x_1 : Int32, x_1 = ((10 : Int32) - (L.2.2.1 &&& (1 : Int32))) → ∀ x_2 : Int64, x_2 = (zz_lushr L.2.2.2 x_1) → ∃ n, wl_Fr_rootOfFinite_23 x_2 P n (0 : Int32) (0 : Int64) (0 : Int64) L
abbrev rm_Fr_rootOfFinite : Room := { frames := 1, cells := 0, slots := 0, locals := 24 }
set_option maxHeartbeats 4000000 in
set_option maxRecDepth 100000 in
theorem c_Fr_rootOfFinite (l : Launch) (D : va_G) (cI : ClassId) (q : Nat) (L : Int32 × Int32 × Int32 × Int64) (P : ((Int32 × Int32 × Int32 × Int64)) → Prop) (h : wp_Fr_rootOfFinite L P) (sz : Nat) : Met l y_Fr_rootOfFinite (zz_ws y_Fr_rootOfFinite b_Fr_rootOfFinite 11 none) rm_Fr_rootOfFinite (va_Pc [.ref q] (zz_pw D [(cI, .int)] (wF1 q L) sz)) (va_Qv P (zz_qw D (fun u => wF1 q u) (va_A (wF1 q L) sz)) (va_A (wF1 q L) sz)) 0 0 (va_A (wF1 q L) sz) := by
  refine Met.ofW (cc := b_Fr_rootOfFinite) (maxL := 11) (ret := none) (by decide) rfl ?_
  intro p e s m args below meth c s₁ B hml hv
  obtain ⟨rfl, hsz, hP, hK, hD0⟩ := hv
  have hx := B.exec
  have hb := B.bytes
  have hr := B.returns
  have hts := atoms_spec (ws := (zz_ws y_Fr_rootOfFinite b_Fr_rootOfFinite 11 none)) B.pre
  have hown : s.vm.findClass R_Fr = some m.cls := findClass_of_methodNamed B.named
  have hlocks := B.notSynchronized
  have hT := zz_hts hts
  have X : CallFix p m c b_Fr_rootOfFinite 11 s ([.ref q] : List Value).toArray (zz_ws y_Fr_rootOfFinite b_Fr_rootOfFinite 11 none) R_Fr := ⟨hx, hb, hml, hown, hts⟩
  have hf0 : 0 + 0 ≤ (headSpec (zz_ws y_Fr_rootOfFinite b_Fr_rootOfFinite 11 none) rm_Fr_rootOfFinite).room.cells ∧ 0 + 0 ≤ (headSpec (zz_ws y_Fr_rootOfFinite b_Fr_rootOfFinite 11 none) rm_Fr_rootOfFinite).room.slots := ⟨Nat.le_of_ble_eq_true rfl, Nat.le_of_ble_eq_true rfl⟩
  subst hsz
  have hD := hD0.self (sz := s.heap.size)
  generalize hAe : va_A (wF1 q L) s.heap.size = A at hD ⊢
  have hA : ∀ q : Nat, s.heap.size ≤ q → A q := fun q h => by rw [← hAe]; exact Or.inr h
  have hS : va_S A s.heap s.heap [] := va_S.rf
  have hl := lv_entry ([.ref q]) (n := 11) (Nat.le_of_ble_eq_true rfl)
  rw [lg_entry_eq]
  generalize (lg_sl ([.ref q]) ++ List.replicate (11 - (lg_sl ([.ref q])).length) Slot.unset).toArray = ls at hl ⊢
  have hl : lv_has ls 11 [(0, .ref q)] := hl
  refine lv_aload_n hx hb d_Fr_rootOfFinite_0 rfl (lv_at hl 0 rfl) ?_
  refine g_Fr_34 (v := .long L.2.2.2) hx hb hT hown hK hP 0 rfl rfl d_Fr_rootOfFinite_1 ?_
  refine lv_bipush (v := 10) hx hb d_Fr_rootOfFinite_4 (by decide) ?_
  refine lv_aload_n hx hb d_Fr_rootOfFinite_6 rfl (lv_at hl 0 rfl) ?_
  refine g_Fr_38 (v := .int L.2.2.1) hx hb hT hown hK hP 0 rfl rfl d_Fr_rootOfFinite_7 ?_
  refine lv_iconst (v := 1) hx hb d_Fr_rootOfFinite_10 (by decide) ?_
  refine lv_iand hx hb d_Fr_rootOfFinite_11 ?_
  refine lv_isub hx hb d_Fr_rootOfFinite_12 ?_
  refine lv_topi (fun x_1 ex_1 => ?_)
  have h := h x_1 ex_1
  refine zz_llushr hx hb d_Fr_rootOfFinite_13 ?_
  refine lv_topl (fun x_2 ex_2 => ?_)
  have h := h x_2 ex_2
  refine lv_lstore_n (lv' := [(1, .long x_2), (0, .ref q)]) hx hb d_Fr_rootOfFinite_14 rfl hl (by decide) rfl (fun ls hl => ?_)
  refine lv_lconst (v := 0) hx hb d_Fr_rootOfFinite_15 (by decide) ?_
  refine lv_lstore_n (lv' := [(3, .long (0 : Int64)), (1, .long x_2), (0, .ref q)]) hx hb d_Fr_rootOfFinite_16 rfl hl (by decide) rfl (fun ls hl => ?_)
  refine lv_lconst (v := 0) hx hb d_Fr_rootOfFinite_17 (by decide) ?_
  refine lv_lstore (lv' := [(5, .long (0 : Int64)), (3, .long (0 : Int64)), (1, .long x_2), (0, .ref q)]) hx hb d_Fr_rootOfFinite_18 hl (by decide) rfl (fun ls hl => ?_)
  refine lv_iconst (v := 0) hx hb d_Fr_rootOfFinite_20 (by decide) ?_
  refine lv_istore (lv' := [(7, .int (0 : Int32)), (5, .long (0 : Int64)), (3, .long (0 : Int64)), (1, .long x_2), (0, .ref q)]) hx hb d_Fr_rootOfFinite_21 hl (by decide) rfl (fun ls hl => ?_)
  have lp : ∀ (n : Nat) (v7 : Int32) (v5 : Int64) (v3 : Int64) (wL : Int32 × Int32 × Int32 × Int64), wl_Fr_rootOfFinite_23 x_2 P n v7 v5 v3 wL → ∀ (H : Heap) (locs : List Loc), va_P D vwCl (wF1 q wL) H → va_D A (wF1 q wL) → va_S A s.heap H locs → ∀ ls : Array Slot, lv_has ls 11 [(7, .int v7), (5, .long v5), (3, .long v3), (1, .long x_2), (0, .ref q)] → W p l e (headSpec (zz_ws y_Fr_rootOfFinite b_Fr_rootOfFinite 11 none) rm_Fr_rootOfFinite).room s m ([.ref q] : List Value).toArray below meth c H locs 0 0 (MQ below (va_Qv P (zz_qw D (fun u => wF1 q u) A) A) ([.ref q] : List Value).toArray s 0 0 A) (F0 m 23 ls []) := by
    intro n
    induction n with
    | zero =>
      intro v7 v5 v3 wL h
      exact False.elim h
    | succ n ih =>
      intro v7 v5 v3 wL h H locs hP hD hS ls hl
      rw [wl_Fr_rootOfFinite_23] at h
      refine lv_iload hx hb d_Fr_rootOfFinite_23 (lv_at hl 0 rfl) ?_
      refine lv_bipush (v := 56) hx hb d_Fr_rootOfFinite_25 (by decide) ?_
      refine lv_icmp_ge (tgt := 99) hx hb d_Fr_rootOfFinite_27 (by decide) (fun c_3 => ?_) (fun c_3 => ?_)
      · skip
        have h := h.1 c_3
        refine lv_aload_n hx hb d_Fr_rootOfFinite_99 rfl (lv_at hl 4 rfl) ?_
        refine lv_lload_n hx hb d_Fr_rootOfFinite_100 rfl (lv_at hl 2 rfl) ?_
        refine lv_bipush (v := 7) hx hb d_Fr_rootOfFinite_101 (by decide) ?_
        refine zz_llshl hx hb d_Fr_rootOfFinite_103 ?_
        refine lv_lload hx hb d_Fr_rootOfFinite_104 (lv_at hl 1 rfl) ?_
        refine lv_lconst (v := 0) hx hb d_Fr_rootOfFinite_106 (by decide) ?_
        refine W.lcmp hx hb d_Fr_rootOfFinite_107 ?_
        refine lv_if_eq (tgt := 115) hx hb d_Fr_rootOfFinite_108 (by decide) (fun c_4 => ?_) (fun c_4 => ?_)
        · have kc_4 := ((lg_cmp_eq _ _).mp c_4)
          have h := h.1 kc_4
          refine lv_iconst (v := 0) hx hb d_Fr_rootOfFinite_115 (by decide) ?_
          refine lv_i2l (v := (0 : Int32).toInt64) hx hb d_Fr_rootOfFinite_116 rfl ?_
          refine lv_lor hx hb d_Fr_rootOfFinite_117 ?_
          refine lv_topl (fun x_5 ex_5 => ?_)
          have h := h x_5 ex_5
          refine lv_aload_n hx hb d_Fr_rootOfFinite_118 rfl (lv_at hl 4 rfl) ?_
          refine g_Fr_38 (v := .int wL.2.2.1) hx hb hT hown hK hP 0 rfl rfl d_Fr_rootOfFinite_119 ?_
          refine lv_iconst (v := 1) hx hb d_Fr_rootOfFinite_122 (by decide) ?_
          refine zz_ishr hx hb d_Fr_rootOfFinite_123 ?_
          refine lv_topi (fun x_6 ex_6 => ?_)
          have h := h x_6 ex_6
          refine zz_Wv (As := [.long x_5, .int x_6]) (rest := []) (wc := wF1 q wL) (wr := []) X hK hP hD hS hA (c_Fr_become l D cI q wL x_5 x_6 _ h _) ⟨rfl, rfl⟩ m_Fr_become k_Fr_24 ⟨Nat.le_of_ble_eq_true rfl, Nat.le_of_ble_eq_true rfl⟩ [0] [] rfl rfl (by decide) (by decide) (by decide) 0 0 rfl rfl rfl rfl hl.1 rfl (Nat.le_of_ble_eq_true rfl) d_Fr_rootOfFinite_124 hf0 (fun u_7 H locs h hP hD hS => ?_)
          have hP : va_P D vwCl (wF1 q u_7) H := hP.sub [0] rfl
          have hD : va_D A (wF1 q u_7) := hD.sub [0] (by decide) rfl
          exact W.vret hx hb hr (fun t ht hW => ⟨⟨u_7, rfl, h, by rw [ht]; exact hP, hD⟩, hS.F ht⟩) hS.2.2 d_Fr_rootOfFinite_127
        · have kc_4 := (fun q => c_4 ((lg_cmp_eq _ _).mpr q))
          have h := h.2 kc_4
          refine lv_iconst (v := 1) hx hb d_Fr_rootOfFinite_111 (by decide) ?_
          refine lv_goto (tgt := 116) hx hb d_Fr_rootOfFinite_112 (by decide) ?_
          refine lv_i2l (v := (1 : Int32).toInt64) hx hb d_Fr_rootOfFinite_116 rfl ?_
          refine lv_lor hx hb d_Fr_rootOfFinite_117 ?_
          refine lv_topl (fun x_9 ex_9 => ?_)
          have h := h x_9 ex_9
          refine lv_aload_n hx hb d_Fr_rootOfFinite_118 rfl (lv_at hl 4 rfl) ?_
          refine g_Fr_38 (v := .int wL.2.2.1) hx hb hT hown hK hP 0 rfl rfl d_Fr_rootOfFinite_119 ?_
          refine lv_iconst (v := 1) hx hb d_Fr_rootOfFinite_122 (by decide) ?_
          refine zz_ishr hx hb d_Fr_rootOfFinite_123 ?_
          refine lv_topi (fun x_10 ex_10 => ?_)
          have h := h x_10 ex_10
          refine zz_Wv (As := [.long x_9, .int x_10]) (rest := []) (wc := wF1 q wL) (wr := []) X hK hP hD hS hA (c_Fr_become l D cI q wL x_9 x_10 _ h _) ⟨rfl, rfl⟩ m_Fr_become k_Fr_24 ⟨Nat.le_of_ble_eq_true rfl, Nat.le_of_ble_eq_true rfl⟩ [0] [] rfl rfl (by decide) (by decide) (by decide) 0 0 rfl rfl rfl rfl hl.1 rfl (Nat.le_of_ble_eq_true rfl) d_Fr_rootOfFinite_124 hf0 (fun u_11 H locs h hP hD hS => ?_)
          have hP : va_P D vwCl (wF1 q u_11) H := hP.sub [0] rfl
          have hD : va_D A (wF1 q u_11) := hD.sub [0] (by decide) rfl
          exact W.vret hx hb hr (fun t ht hW => ⟨⟨u_11, rfl, h, by rw [ht]; exact hP, hD⟩, hS.F ht⟩) hS.2.2 d_Fr_rootOfFinite_127
      · skip
        have h := h.2 c_3
        refine lv_bipush (v := 52) hx hb d_Fr_rootOfFinite_30 (by decide) ?_
        refine lv_iconst (v := 2) hx hb d_Fr_rootOfFinite_32 (by decide) ?_
        refine lv_iload hx hb d_Fr_rootOfFinite_33 (lv_at hl 0 rfl) ?_
        refine lv_imul hx hb d_Fr_rootOfFinite_35 ?_
        refine lv_isub hx hb d_Fr_rootOfFinite_36 ?_
        refine lv_topi (fun x_13 ex_13 => ?_)
        have h := h x_13 ex_13
        refine lv_istore (lv' := [(8, .int x_13), (7, .int v7), (5, .long v5), (3, .long v3), (1, .long x_2), (0, .ref q)]) hx hb d_Fr_rootOfFinite_37 hl (by decide) rfl (fun ls hl => ?_)
        refine lv_lload hx hb d_Fr_rootOfFinite_39 (lv_at hl 2 rfl) ?_
        refine lv_iconst (v := 2) hx hb d_Fr_rootOfFinite_41 (by decide) ?_
        refine zz_llshl hx hb d_Fr_rootOfFinite_42 ?_
        refine lv_iload hx hb d_Fr_rootOfFinite_43 (lv_at hl 0 rfl) ?_
        refine lv_if_lt (tgt := 59) hx hb d_Fr_rootOfFinite_45 (by decide) (fun c_14 => ?_) (fun c_14 => ?_)
        · skip
          have h := h.1 c_14
          refine lv_lconst (v := 0) hx hb d_Fr_rootOfFinite_59 (by decide) ?_
          refine lv_lor hx hb d_Fr_rootOfFinite_60 ?_
          refine lv_topl (fun x_15 ex_15 => ?_)
          have h := h x_15 ex_15
          refine lv_lstore (lv' := [(5, .long x_15), (8, .int x_13), (7, .int v7), (3, .long v3), (1, .long x_2), (0, .ref q)]) hx hb d_Fr_rootOfFinite_61 hl (by decide) rfl (fun ls hl => ?_)
          refine lv_lload_n hx hb d_Fr_rootOfFinite_63 rfl (lv_at hl 3 rfl) ?_
          refine lv_iconst (v := 2) hx hb d_Fr_rootOfFinite_64 (by decide) ?_
          refine zz_llshl hx hb d_Fr_rootOfFinite_65 ?_
          refine lv_lconst (v := 1) hx hb d_Fr_rootOfFinite_66 (by decide) ?_
          refine lv_lor hx hb d_Fr_rootOfFinite_67 ?_
          refine lv_topl (fun x_16 ex_16 => ?_)
          have h := h x_16 ex_16
          refine lv_lstore (lv' := [(9, .long x_16), (5, .long x_15), (8, .int x_13), (7, .int v7), (3, .long v3), (1, .long x_2), (0, .ref q)]) hx hb d_Fr_rootOfFinite_68 hl (by decide) rfl (fun ls hl => ?_)
          refine lv_lload_n hx hb d_Fr_rootOfFinite_70 rfl (lv_at hl 4 rfl) ?_
          refine lv_iconst (v := 1) hx hb d_Fr_rootOfFinite_71 (by decide) ?_
          refine zz_llshl hx hb d_Fr_rootOfFinite_72 ?_
          refine lv_topl (fun x_17 ex_17 => ?_)
          have h := h x_17 ex_17
          refine lv_lstore_n (lv' := [(3, .long x_17), (9, .long x_16), (5, .long x_15), (8, .int x_13), (7, .int v7), (1, .long x_2), (0, .ref q)]) hx hb d_Fr_rootOfFinite_73 rfl hl (by decide) rfl (fun ls hl => ?_)
          refine lv_lload hx hb d_Fr_rootOfFinite_74 (lv_at hl 2 rfl) ?_
          refine lv_lload hx hb d_Fr_rootOfFinite_76 (lv_at hl 1 rfl) ?_
          refine W.lcmp hx hb d_Fr_rootOfFinite_78 ?_
          refine lv_if_lt (tgt := 93) hx hb d_Fr_rootOfFinite_79 (by decide) (fun c_18 => ?_) (fun c_18 => ?_)
          · have kc_18 := ((lg_cmp_lt _ _).mp c_18)
            have h := h.1 kc_18
            obtain ⟨x_19, ex_19⟩ : ∃ y : Int32, y = v7 + 1 := ⟨_, rfl⟩
            have h := h x_19 ex_19
            refine lv_iinc (v := x_19) (lv' := [(7, .int x_19), (3, .long x_17), (9, .long x_16), (5, .long x_15), (8, .int x_13), (1, .long x_2), (0, .ref q)]) hx hb d_Fr_rootOfFinite_93 hl (k := 4) rfl (by rw [ex_19]; rfl) (by decide) rfl (fun ls hl => ?_)
            refine lv_goto (tgt := 23) hx hb d_Fr_rootOfFinite_96 (by decide) ?_
            exact ih x_19 x_15 x_17 wL h H locs hP hD hS ls (lv_sub hl [0, 3, 1, 5, 6] rfl)
          · have kc_18 := (fun q => c_18 ((lg_cmp_lt _ _).mpr q))
            have h := h.2 kc_18
            refine lv_lload hx hb d_Fr_rootOfFinite_82 (lv_at hl 2 rfl) ?_
            refine lv_lload hx hb d_Fr_rootOfFinite_84 (lv_at hl 1 rfl) ?_
            refine lv_lsub hx hb d_Fr_rootOfFinite_86 ?_
            refine lv_topl (fun x_20 ex_20 => ?_)
            have h := h x_20 ex_20
            refine lv_lstore (lv' := [(5, .long x_20), (3, .long x_17), (9, .long x_16), (8, .int x_13), (7, .int v7), (1, .long x_2), (0, .ref q)]) hx hb d_Fr_rootOfFinite_87 hl (by decide) rfl (fun ls hl => ?_)
            refine lv_lload_n hx hb d_Fr_rootOfFinite_89 rfl (lv_at hl 1 rfl) ?_
            refine lv_lconst (v := 1) hx hb d_Fr_rootOfFinite_90 (by decide) ?_
            refine lv_lor hx hb d_Fr_rootOfFinite_91 ?_
            refine lv_topl (fun x_21 ex_21 => ?_)
            have h := h x_21 ex_21
            refine lv_lstore_n (lv' := [(3, .long x_21), (5, .long x_20), (9, .long x_16), (8, .int x_13), (7, .int v7), (1, .long x_2), (0, .ref q)]) hx hb d_Fr_rootOfFinite_92 rfl hl (by decide) rfl (fun ls hl => ?_)
            obtain ⟨x_22, ex_22⟩ : ∃ y : Int32, y = v7 + 1 := ⟨_, rfl⟩
            have h := h x_22 ex_22
            refine lv_iinc (v := x_22) (lv' := [(7, .int x_22), (3, .long x_21), (5, .long x_20), (9, .long x_16), (8, .int x_13), (1, .long x_2), (0, .ref q)]) hx hb d_Fr_rootOfFinite_93 hl (k := 4) rfl (by rw [ex_22]; rfl) (by decide) rfl (fun ls hl => ?_)
            refine lv_goto (tgt := 23) hx hb d_Fr_rootOfFinite_96 (by decide) ?_
            exact ih x_22 x_20 x_21 wL h H locs hP hD hS ls (lv_sub hl [0, 2, 1, 5, 6] rfl)
        · skip
          have h := h.2 c_14
          refine lv_lload_n hx hb d_Fr_rootOfFinite_48 rfl (lv_at hl 4 rfl) ?_
          refine lv_iload hx hb d_Fr_rootOfFinite_49 (lv_at hl 0 rfl) ?_
          refine zz_llushr hx hb d_Fr_rootOfFinite_51 ?_
          refine lv_ldc2 (v := 3) hx hb hown (hT _ n_Fr_86) d_Fr_rootOfFinite_52 ?_
          refine lv_land hx hb d_Fr_rootOfFinite_55 ?_
          refine lv_topl (fun x_23 ex_23 => ?_)
          have h := h x_23 ex_23
          refine lv_goto (tgt := 60) hx hb d_Fr_rootOfFinite_56 (by decide) ?_
          refine lv_lor hx hb d_Fr_rootOfFinite_60 ?_
          refine lv_topl (fun x_24 ex_24 => ?_)
          have h := h x_24 ex_24
          refine lv_lstore (lv' := [(5, .long x_24), (8, .int x_13), (7, .int v7), (3, .long v3), (1, .long x_2), (0, .ref q)]) hx hb d_Fr_rootOfFinite_61 hl (by decide) rfl (fun ls hl => ?_)
          refine lv_lload_n hx hb d_Fr_rootOfFinite_63 rfl (lv_at hl 3 rfl) ?_
          refine lv_iconst (v := 2) hx hb d_Fr_rootOfFinite_64 (by decide) ?_
          refine zz_llshl hx hb d_Fr_rootOfFinite_65 ?_
          refine lv_lconst (v := 1) hx hb d_Fr_rootOfFinite_66 (by decide) ?_
          refine lv_lor hx hb d_Fr_rootOfFinite_67 ?_
          refine lv_topl (fun x_25 ex_25 => ?_)
          have h := h x_25 ex_25
          refine lv_lstore (lv' := [(9, .long x_25), (5, .long x_24), (8, .int x_13), (7, .int v7), (3, .long v3), (1, .long x_2), (0, .ref q)]) hx hb d_Fr_rootOfFinite_68 hl (by decide) rfl (fun ls hl => ?_)
          refine lv_lload_n hx hb d_Fr_rootOfFinite_70 rfl (lv_at hl 4 rfl) ?_
          refine lv_iconst (v := 1) hx hb d_Fr_rootOfFinite_71 (by decide) ?_
          refine zz_llshl hx hb d_Fr_rootOfFinite_72 ?_
          refine lv_topl (fun x_26 ex_26 => ?_)
          have h := h x_26 ex_26
          refine lv_lstore_n (lv' := [(3, .long x_26), (9, .long x_25), (5, .long x_24), (8, .int x_13), (7, .int v7), (1, .long x_2), (0, .ref q)]) hx hb d_Fr_rootOfFinite_73 rfl hl (by decide) rfl (fun ls hl => ?_)
          refine lv_lload hx hb d_Fr_rootOfFinite_74 (lv_at hl 2 rfl) ?_
          refine lv_lload hx hb d_Fr_rootOfFinite_76 (lv_at hl 1 rfl) ?_
          refine W.lcmp hx hb d_Fr_rootOfFinite_78 ?_
          refine lv_if_lt (tgt := 93) hx hb d_Fr_rootOfFinite_79 (by decide) (fun c_27 => ?_) (fun c_27 => ?_)
          · have kc_27 := ((lg_cmp_lt _ _).mp c_27)
            have h := h.1 kc_27
            obtain ⟨x_28, ex_28⟩ : ∃ y : Int32, y = v7 + 1 := ⟨_, rfl⟩
            have h := h x_28 ex_28
            refine lv_iinc (v := x_28) (lv' := [(7, .int x_28), (3, .long x_26), (9, .long x_25), (5, .long x_24), (8, .int x_13), (1, .long x_2), (0, .ref q)]) hx hb d_Fr_rootOfFinite_93 hl (k := 4) rfl (by rw [ex_28]; rfl) (by decide) rfl (fun ls hl => ?_)
            refine lv_goto (tgt := 23) hx hb d_Fr_rootOfFinite_96 (by decide) ?_
            exact ih x_28 x_24 x_26 wL h H locs hP hD hS ls (lv_sub hl [0, 3, 1, 5, 6] rfl)
          · have kc_27 := (fun q => c_27 ((lg_cmp_lt _ _).mpr q))
            have h := h.2 kc_27
            refine lv_lload hx hb d_Fr_rootOfFinite_82 (lv_at hl 2 rfl) ?_
            refine lv_lload hx hb d_Fr_rootOfFinite_84 (lv_at hl 1 rfl) ?_
            refine lv_lsub hx hb d_Fr_rootOfFinite_86 ?_
            refine lv_topl (fun x_29 ex_29 => ?_)
            have h := h x_29 ex_29
            refine lv_lstore (lv' := [(5, .long x_29), (3, .long x_26), (9, .long x_25), (8, .int x_13), (7, .int v7), (1, .long x_2), (0, .ref q)]) hx hb d_Fr_rootOfFinite_87 hl (by decide) rfl (fun ls hl => ?_)
            refine lv_lload_n hx hb d_Fr_rootOfFinite_89 rfl (lv_at hl 1 rfl) ?_
            refine lv_lconst (v := 1) hx hb d_Fr_rootOfFinite_90 (by decide) ?_
            refine lv_lor hx hb d_Fr_rootOfFinite_91 ?_
            refine lv_topl (fun x_30 ex_30 => ?_)
            have h := h x_30 ex_30
            refine lv_lstore_n (lv' := [(3, .long x_30), (5, .long x_29), (9, .long x_25), (8, .int x_13), (7, .int v7), (1, .long x_2), (0, .ref q)]) hx hb d_Fr_rootOfFinite_92 rfl hl (by decide) rfl (fun ls hl => ?_)
            obtain ⟨x_31, ex_31⟩ : ∃ y : Int32, y = v7 + 1 := ⟨_, rfl⟩
            have h := h x_31 ex_31
            refine lv_iinc (v := x_31) (lv' := [(7, .int x_31), (3, .long x_30), (5, .long x_29), (9, .long x_25), (8, .int x_13), (1, .long x_2), (0, .ref q)]) hx hb d_Fr_rootOfFinite_93 hl (k := 4) rfl (by rw [ex_31]; rfl) (by decide) rfl (fun ls hl => ?_)
            refine lv_goto (tgt := 23) hx hb d_Fr_rootOfFinite_96 (by decide) ?_
            exact ih x_31 x_29 x_30 wL h H locs hP hD hS ls (lv_sub hl [0, 2, 1, 5, 6] rfl)
  obtain ⟨n, h⟩ := h
  exact lp n (0 : Int32) (0 : Int64) (0 : Int64) L h _ _ hP hD hS ls hl
def wp_Fr_root (L : Int32 × Int32 × Int32 × Int64) (P : ((Int32 × Int32 × Int32 × Int64)) → Prop) : Prop := ((L.2.1 = (0 : Int32) → P L) ∧ (¬ L.2.1 = (0 : Int32) → ((L.2.1 = (3 : Int32) → P L) ∧ (¬ L.2.1 = (3 : Int32) → ((L.1 = (0 : Int32) → ((L.2.1 = (1 : Int32) → wp_Fr_rootOfFinite L (fun u_5 => P u_5)) ∧ (¬ L.2.1 = (1 : Int32) → P L))) ∧ (¬ L.1 = (0 : Int32) → P (L.1, (3 : Int32), L.2.2.1, L.2.2.2)))))))
abbrev rm_Fr_root : Room := { frames := 2, cells := 0, slots := 0, locals := 54 }
set_option maxHeartbeats 4000000 in
set_option maxRecDepth 100000 in
theorem c_Fr_root (l : Launch) (D : va_G) (cI : ClassId) (q : Nat) (L : Int32 × Int32 × Int32 × Int64) (P : ((Int32 × Int32 × Int32 × Int64)) → Prop) (h : wp_Fr_root L P) (sz : Nat) : Met l y_Fr_root (zz_ws y_Fr_root b_Fr_root 1 none) rm_Fr_root (va_Pc [.ref q] (zz_pw D [(cI, .int)] (wF1 q L) sz)) (va_Qv P (zz_qw D (fun u => wF1 q u) (va_A (wF1 q L) sz)) (va_A (wF1 q L) sz)) 0 0 (va_A (wF1 q L) sz) := by
  refine Met.ofW (cc := b_Fr_root) (maxL := 1) (ret := none) (by decide) rfl ?_
  intro p e s m args below meth c s₁ B hml hv
  obtain ⟨rfl, hsz, hP, hK, hD0⟩ := hv
  have hx := B.exec
  have hb := B.bytes
  have hr := B.returns
  have hts := atoms_spec (ws := (zz_ws y_Fr_root b_Fr_root 1 none)) B.pre
  have hown : s.vm.findClass R_Fr = some m.cls := findClass_of_methodNamed B.named
  have hlocks := B.notSynchronized
  have hT := zz_hts hts
  have X : CallFix p m c b_Fr_root 1 s ([.ref q] : List Value).toArray (zz_ws y_Fr_root b_Fr_root 1 none) R_Fr := ⟨hx, hb, hml, hown, hts⟩
  have hf0 : 0 + 0 ≤ (headSpec (zz_ws y_Fr_root b_Fr_root 1 none) rm_Fr_root).room.cells ∧ 0 + 0 ≤ (headSpec (zz_ws y_Fr_root b_Fr_root 1 none) rm_Fr_root).room.slots := ⟨Nat.le_of_ble_eq_true rfl, Nat.le_of_ble_eq_true rfl⟩
  subst hsz
  have hD := hD0.self (sz := s.heap.size)
  generalize hAe : va_A (wF1 q L) s.heap.size = A at hD ⊢
  have hA : ∀ q : Nat, s.heap.size ≤ q → A q := fun q h => by rw [← hAe]; exact Or.inr h
  have hS : va_S A s.heap s.heap [] := va_S.rf
  have hl := lv_entry ([.ref q]) (n := 1) (Nat.le_of_ble_eq_true rfl)
  rw [lg_entry_eq]
  generalize (lg_sl ([.ref q]) ++ List.replicate (1 - (lg_sl ([.ref q])).length) Slot.unset).toArray = ls at hl ⊢
  have hl : lv_has ls 1 [(0, .ref q)] := hl
  refine lv_aload_n hx hb d_Fr_root_0 rfl (lv_at hl 0 rfl) ?_
  refine g_Fr_17 (v := .int L.2.1) hx hb hT hown hK hP 0 rfl rfl d_Fr_root_1 ?_
  refine lv_if_eq (tgt := 15) hx hb d_Fr_root_4 (by decide) (fun c_1 => ?_) (fun c_1 => ?_)
  · skip
    have h := h.1 c_1
    exact W.vret hx hb hr (fun t ht hW => ⟨⟨L, rfl, h, by rw [ht]; exact hP, hD⟩, hS.F ht⟩) hS.2.2 d_Fr_root_15
  · skip
    have h := h.2 c_1
    refine lv_aload_n hx hb d_Fr_root_7 rfl (lv_at hl 0 rfl) ?_
    refine g_Fr_17 (v := .int L.2.1) hx hb hT hown hK hP 0 rfl rfl d_Fr_root_8 ?_
    refine lv_iconst (v := 3) hx hb d_Fr_root_11 (by decide) ?_
    refine lv_icmp_ne (tgt := 16) hx hb d_Fr_root_12 (by decide) (fun c_2 => ?_) (fun c_2 => ?_)
    · skip
      have h := h.2 c_2
      refine lv_aload_n hx hb d_Fr_root_16 rfl (lv_at hl 0 rfl) ?_
      refine g_Fr_13 (v := .int L.1) hx hb hT hown hK hP 0 rfl rfl d_Fr_root_17 ?_
      refine lv_if_eq (tgt := 31) hx hb d_Fr_root_20 (by decide) (fun c_3 => ?_) (fun c_3 => ?_)
      · skip
        have h := h.1 c_3
        refine lv_aload_n hx hb d_Fr_root_31 rfl (lv_at hl 0 rfl) ?_
        refine g_Fr_17 (v := .int L.2.1) hx hb hT hown hK hP 0 rfl rfl d_Fr_root_32 ?_
        refine lv_iconst (v := 1) hx hb d_Fr_root_35 (by decide) ?_
        refine lv_icmp_ne (tgt := 43) hx hb d_Fr_root_36 (by decide) (fun c_4 => ?_) (fun c_4 => ?_)
        · skip
          have h := h.2 c_4
          exact W.vret hx hb hr (fun t ht hW => ⟨⟨L, rfl, h, by rw [ht]; exact hP, hD⟩, hS.F ht⟩) hS.2.2 d_Fr_root_43
        · skip
          have h := h.1 c_4
          refine lv_aload_n hx hb d_Fr_root_39 rfl (lv_at hl 0 rfl) ?_
          refine zz_Wv (As := []) (rest := []) (wc := wF1 q L) (wr := []) X hK hP hD hS hA (c_Fr_rootOfFinite l D cI q L _ h _) ⟨rfl, rfl⟩ m_Fr_rootOfFinite k_Fr_83 ⟨Nat.le_of_ble_eq_true rfl, Nat.le_of_ble_eq_true rfl⟩ [0] [] rfl rfl (by decide) (by decide) (by decide) 0 0 rfl rfl rfl rfl hl.1 rfl (Nat.le_of_ble_eq_true rfl) d_Fr_root_40 hf0 (fun u_5 H locs h hP hD hS => ?_)
          have hP : va_P D vwCl (wF1 q u_5) H := hP.sub [0] rfl
          have hD : va_D A (wF1 q u_5) := hD.sub [0] (by decide) rfl
          exact W.vret hx hb hr (fun t ht hW => ⟨⟨u_5, rfl, h, by rw [ht]; exact hP, hD⟩, hS.F ht⟩) hS.2.2 d_Fr_root_43
      · skip
        have h := h.2 c_3
        refine lv_aload_n hx hb d_Fr_root_23 rfl (lv_at hl 0 rfl) ?_
        refine lv_iconst (v := 3) hx hb d_Fr_root_24 (by decide) ?_
        refine p_Fr_17 hx hb hT hown hK hP hD hS 0 rfl rfl d_Fr_root_25 (fun H locs (hP : va_P D vwCl (wF1 q (L.1, (3 : Int32), L.2.2.1, L.2.2.2)) H) (hD : va_D A (wF1 q (L.1, (3 : Int32), L.2.2.1, L.2.2.2))) hS => ?_)
        refine lv_goto (tgt := 43) hx hb d_Fr_root_28 (by decide) ?_
        exact W.vret hx hb hr (fun t ht hW => ⟨⟨(L.1, (3 : Int32), L.2.2.1, L.2.2.2), rfl, h, by rw [ht]; exact hP, hD⟩, hS.F ht⟩) hS.2.2 d_Fr_root_43
    · skip
      have h := h.1 c_2
      exact W.vret hx hb hr (fun t ht hW => ⟨⟨L, rfl, h, by rw [ht]; exact hP, hD⟩, hS.F ht⟩) hS.2.2 d_Fr_root_15
def wl_Fr_divideFinite_15 (a0 : Int64) (a1 : Int32) (P : ((Int32 × Int32 × Int32 × Int64)) → Prop) : Nat → Int32 → Int64 → Int64 → Int32 × Int32 × Int32 × Int64 → Prop
  | 0, _, _, _, _ => False
  | n + 1, v8, v6, v4, wL => (((56 : Int32) ≤ v8 → ((v4 = (0 : Int64) → ∀ x_4 : Int64, x_4 = ((zz_lshl v6 (7 : Int32)) ||| (0 : Int32).toInt64) → wp_Fr_become wL x_4 (wL.2.2.1 - a1) (fun u_5 => P u_5)) ∧ (¬ v4 = (0 : Int64) → ∀ x_7 : Int64, x_7 = ((zz_lshl v6 (7 : Int32)) ||| (1 : Int32).toInt64) → wp_Fr_become wL x_7 (wL.2.2.1 - a1) (fun u_8 => P u_8)))) ∧ (¬ (56 : Int32) ≤ v8 → ∀ x_10 : Int64, x_10 = (zz_lshl v6 (1 : Int32)) → ((v4 < a0 → ∀ x_12 : Int64, x_12 = (zz_lshl v4 (1 : Int32)) → ∀ x_13 : Int32, x_13 = v8 + 1 → wl_Fr_divideFinite_15 a0 a1 P n x_13 x_10 x_12 wL) ∧ (¬ v4 < a0 → ∀ x_14 : Int64, x_14 = (v4 - a0) → ∀ x_15 : Int64, x_15 = (x_10 ||| (1 : Int64)) → ∀ x_16 : Int64, x_16 = (zz_lshl x_14 (1 : Int32)) → ∀ x_17 : Int32, x_17 = v8 + 1 → wl_Fr_divideFinite_15 a0 a1 P n x_17 x_15 x_16 wL))))
def wp_Fr_divideFinite (L : Int32 × Int32 × Int32 × Int64) (a0 : Int64) (a1 : Int32) (P : ((Int32 × Int32 × Int32 × Int64)) → Prop) : Prop := ∀ x_1 : Int64, x_1 = (zz_lushr L.2.2.2 (10 : Int32)) → ∃ n, wl_Fr_divideFinite_15 a0 a1 P n (0 : Int32) (0 : Int64) x_1 L
abbrev rm_Fr_divideFinite : Room := { frames := 1, cells := 0, slots := 0, locals := 24 }
set_option maxHeartbeats 4000000 in
set_option maxRecDepth 100000 in
theorem c_Fr_divideFinite (l : Launch) (D : va_G) (cI : ClassId) (q : Nat) (L : Int32 × Int32 × Int32 × Int64) (a0 : Int64) (a1 : Int32) (P : ((Int32 × Int32 × Int32 × Int64)) → Prop) (h : wp_Fr_divideFinite L a0 a1 P) (sz : Nat) : Met l y_Fr_divideFinite (zz_ws y_Fr_divideFinite b_Fr_divideFinite 9 none) rm_Fr_divideFinite (va_Pc [.ref q, .long a0, .int a1] (zz_pw D [(cI, .int)] (wF1 q L) sz)) (va_Qv P (zz_qw D (fun u => wF1 q u) (va_A (wF1 q L) sz)) (va_A (wF1 q L) sz)) 0 0 (va_A (wF1 q L) sz) := by
  refine Met.ofW (cc := b_Fr_divideFinite) (maxL := 9) (ret := none) (by decide) rfl ?_
  intro p e s m args below meth c s₁ B hml hv
  obtain ⟨rfl, hsz, hP, hK, hD0⟩ := hv
  have hx := B.exec
  have hb := B.bytes
  have hr := B.returns
  have hts := atoms_spec (ws := (zz_ws y_Fr_divideFinite b_Fr_divideFinite 9 none)) B.pre
  have hown : s.vm.findClass R_Fr = some m.cls := findClass_of_methodNamed B.named
  have hlocks := B.notSynchronized
  have hT := zz_hts hts
  have X : CallFix p m c b_Fr_divideFinite 9 s ([.ref q, .long a0, .int a1] : List Value).toArray (zz_ws y_Fr_divideFinite b_Fr_divideFinite 9 none) R_Fr := ⟨hx, hb, hml, hown, hts⟩
  have hf0 : 0 + 0 ≤ (headSpec (zz_ws y_Fr_divideFinite b_Fr_divideFinite 9 none) rm_Fr_divideFinite).room.cells ∧ 0 + 0 ≤ (headSpec (zz_ws y_Fr_divideFinite b_Fr_divideFinite 9 none) rm_Fr_divideFinite).room.slots := ⟨Nat.le_of_ble_eq_true rfl, Nat.le_of_ble_eq_true rfl⟩
  subst hsz
  have hD := hD0.self (sz := s.heap.size)
  generalize hAe : va_A (wF1 q L) s.heap.size = A at hD ⊢
  have hA : ∀ q : Nat, s.heap.size ≤ q → A q := fun q h => by rw [← hAe]; exact Or.inr h
  have hS : va_S A s.heap s.heap [] := va_S.rf
  have hl := lv_entry ([.ref q, .long a0, .int a1]) (n := 9) (Nat.le_of_ble_eq_true rfl)
  rw [lg_entry_eq]
  generalize (lg_sl ([.ref q, .long a0, .int a1]) ++ List.replicate (9 - (lg_sl ([.ref q, .long a0, .int a1])).length) Slot.unset).toArray = ls at hl ⊢
  have hl : lv_has ls 9 [(0, .ref q), (1, .long a0), (3, .int a1)] := hl
  refine lv_aload_n hx hb d_Fr_divideFinite_0 rfl (lv_at hl 0 rfl) ?_
  refine g_Fr_34 (v := .long L.2.2.2) hx hb hT hown hK hP 0 rfl rfl d_Fr_divideFinite_1 ?_
  refine lv_bipush (v := 10) hx hb d_Fr_divideFinite_4 (by decide) ?_
  refine zz_llushr hx hb d_Fr_divideFinite_6 ?_
  refine lv_topl (fun x_1 ex_1 => ?_)
  have h := h x_1 ex_1
  refine lv_lstore (lv' := [(4, .long x_1), (0, .ref q), (1, .long a0), (3, .int a1)]) hx hb d_Fr_divideFinite_7 hl (by decide) rfl (fun ls hl => ?_)
  refine lv_lconst (v := 0) hx hb d_Fr_divideFinite_9 (by decide) ?_
  refine lv_lstore (lv' := [(6, .long (0 : Int64)), (4, .long x_1), (0, .ref q), (1, .long a0), (3, .int a1)]) hx hb d_Fr_divideFinite_10 hl (by decide) rfl (fun ls hl => ?_)
  refine lv_iconst (v := 0) hx hb d_Fr_divideFinite_12 (by decide) ?_
  refine lv_istore (lv' := [(8, .int (0 : Int32)), (6, .long (0 : Int64)), (4, .long x_1), (0, .ref q), (1, .long a0), (3, .int a1)]) hx hb d_Fr_divideFinite_13 hl (by decide) rfl (fun ls hl => ?_)
  have lp : ∀ (n : Nat) (v8 : Int32) (v6 : Int64) (v4 : Int64) (wL : Int32 × Int32 × Int32 × Int64), wl_Fr_divideFinite_15 a0 a1 P n v8 v6 v4 wL → ∀ (H : Heap) (locs : List Loc), va_P D vwCl (wF1 q wL) H → va_D A (wF1 q wL) → va_S A s.heap H locs → ∀ ls : Array Slot, lv_has ls 9 [(8, .int v8), (6, .long v6), (4, .long v4), (0, .ref q), (1, .long a0), (3, .int a1)] → W p l e (headSpec (zz_ws y_Fr_divideFinite b_Fr_divideFinite 9 none) rm_Fr_divideFinite).room s m ([.ref q, .long a0, .int a1] : List Value).toArray below meth c H locs 0 0 (MQ below (va_Qv P (zz_qw D (fun u => wF1 q u) A) A) ([.ref q, .long a0, .int a1] : List Value).toArray s 0 0 A) (F0 m 15 ls []) := by
    intro n
    induction n with
    | zero =>
      intro v8 v6 v4 wL h
      exact False.elim h
    | succ n ih =>
      intro v8 v6 v4 wL h H locs hP hD hS ls hl
      rw [wl_Fr_divideFinite_15] at h
      refine lv_iload hx hb d_Fr_divideFinite_15 (lv_at hl 0 rfl) ?_
      refine lv_bipush (v := 56) hx hb d_Fr_divideFinite_17 (by decide) ?_
      refine lv_icmp_ge (tgt := 59) hx hb d_Fr_divideFinite_19 (by decide) (fun c_2 => ?_) (fun c_2 => ?_)
      · skip
        have h := h.1 c_2
        refine lv_aload_n hx hb d_Fr_divideFinite_59 rfl (lv_at hl 3 rfl) ?_
        refine lv_lload hx hb d_Fr_divideFinite_60 (lv_at hl 1 rfl) ?_
        refine lv_bipush (v := 7) hx hb d_Fr_divideFinite_62 (by decide) ?_
        refine zz_llshl hx hb d_Fr_divideFinite_64 ?_
        refine lv_lload hx hb d_Fr_divideFinite_65 (lv_at hl 2 rfl) ?_
        refine lv_lconst (v := 0) hx hb d_Fr_divideFinite_67 (by decide) ?_
        refine W.lcmp hx hb d_Fr_divideFinite_68 ?_
        refine lv_if_eq (tgt := 76) hx hb d_Fr_divideFinite_69 (by decide) (fun c_3 => ?_) (fun c_3 => ?_)
        · have kc_3 := ((lg_cmp_eq _ _).mp c_3)
          have h := h.1 kc_3
          refine lv_iconst (v := 0) hx hb d_Fr_divideFinite_76 (by decide) ?_
          refine lv_i2l (v := (0 : Int32).toInt64) hx hb d_Fr_divideFinite_77 rfl ?_
          refine lv_lor hx hb d_Fr_divideFinite_78 ?_
          refine lv_topl (fun x_4 ex_4 => ?_)
          have h := h x_4 ex_4
          refine lv_aload_n hx hb d_Fr_divideFinite_79 rfl (lv_at hl 3 rfl) ?_
          refine g_Fr_38 (v := .int wL.2.2.1) hx hb hT hown hK hP 0 rfl rfl d_Fr_divideFinite_80 ?_
          refine lv_iload_n hx hb d_Fr_divideFinite_83 rfl (lv_at hl 5 rfl) ?_
          refine lv_isub hx hb d_Fr_divideFinite_84 ?_
          refine zz_Wv (As := [.long x_4, .int (wL.2.2.1 - a1)]) (rest := []) (wc := wF1 q wL) (wr := []) X hK hP hD hS hA (c_Fr_become l D cI q wL x_4 (wL.2.2.1 - a1) _ h _) ⟨rfl, rfl⟩ m_Fr_become k_Fr_24 ⟨Nat.le_of_ble_eq_true rfl, Nat.le_of_ble_eq_true rfl⟩ [0] [] rfl rfl (by decide) (by decide) (by decide) 0 0 rfl rfl rfl rfl hl.1 rfl (Nat.le_of_ble_eq_true rfl) d_Fr_divideFinite_85 hf0 (fun u_5 H locs h hP hD hS => ?_)
          have hP : va_P D vwCl (wF1 q u_5) H := hP.sub [0] rfl
          have hD : va_D A (wF1 q u_5) := hD.sub [0] (by decide) rfl
          exact W.vret hx hb hr (fun t ht hW => ⟨⟨u_5, rfl, h, by rw [ht]; exact hP, hD⟩, hS.F ht⟩) hS.2.2 d_Fr_divideFinite_88
        · have kc_3 := (fun q => c_3 ((lg_cmp_eq _ _).mpr q))
          have h := h.2 kc_3
          refine lv_iconst (v := 1) hx hb d_Fr_divideFinite_72 (by decide) ?_
          refine lv_goto (tgt := 77) hx hb d_Fr_divideFinite_73 (by decide) ?_
          refine lv_i2l (v := (1 : Int32).toInt64) hx hb d_Fr_divideFinite_77 rfl ?_
          refine lv_lor hx hb d_Fr_divideFinite_78 ?_
          refine lv_topl (fun x_7 ex_7 => ?_)
          have h := h x_7 ex_7
          refine lv_aload_n hx hb d_Fr_divideFinite_79 rfl (lv_at hl 3 rfl) ?_
          refine g_Fr_38 (v := .int wL.2.2.1) hx hb hT hown hK hP 0 rfl rfl d_Fr_divideFinite_80 ?_
          refine lv_iload_n hx hb d_Fr_divideFinite_83 rfl (lv_at hl 5 rfl) ?_
          refine lv_isub hx hb d_Fr_divideFinite_84 ?_
          refine zz_Wv (As := [.long x_7, .int (wL.2.2.1 - a1)]) (rest := []) (wc := wF1 q wL) (wr := []) X hK hP hD hS hA (c_Fr_become l D cI q wL x_7 (wL.2.2.1 - a1) _ h _) ⟨rfl, rfl⟩ m_Fr_become k_Fr_24 ⟨Nat.le_of_ble_eq_true rfl, Nat.le_of_ble_eq_true rfl⟩ [0] [] rfl rfl (by decide) (by decide) (by decide) 0 0 rfl rfl rfl rfl hl.1 rfl (Nat.le_of_ble_eq_true rfl) d_Fr_divideFinite_85 hf0 (fun u_8 H locs h hP hD hS => ?_)
          have hP : va_P D vwCl (wF1 q u_8) H := hP.sub [0] rfl
          have hD : va_D A (wF1 q u_8) := hD.sub [0] (by decide) rfl
          exact W.vret hx hb hr (fun t ht hW => ⟨⟨u_8, rfl, h, by rw [ht]; exact hP, hD⟩, hS.F ht⟩) hS.2.2 d_Fr_divideFinite_88
      · skip
        have h := h.2 c_2
        refine lv_lload hx hb d_Fr_divideFinite_22 (lv_at hl 1 rfl) ?_
        refine lv_iconst (v := 1) hx hb d_Fr_divideFinite_24 (by decide) ?_
        refine zz_llshl hx hb d_Fr_divideFinite_25 ?_
        refine lv_topl (fun x_10 ex_10 => ?_)
        have h := h x_10 ex_10
        refine lv_lstore (lv' := [(6, .long x_10), (8, .int v8), (4, .long v4), (0, .ref q), (1, .long a0), (3, .int a1)]) hx hb d_Fr_divideFinite_26 hl (by decide) rfl (fun ls hl => ?_)
        refine lv_lload hx hb d_Fr_divideFinite_28 (lv_at hl 2 rfl) ?_
        refine lv_lload_n hx hb d_Fr_divideFinite_30 rfl (lv_at hl 4 rfl) ?_
        refine W.lcmp hx hb d_Fr_divideFinite_31 ?_
        refine lv_if_lt (tgt := 47) hx hb d_Fr_divideFinite_32 (by decide) (fun c_11 => ?_) (fun c_11 => ?_)
        · have kc_11 := ((lg_cmp_lt _ _).mp c_11)
          have h := h.1 kc_11
          refine lv_lload hx hb d_Fr_divideFinite_47 (lv_at hl 2 rfl) ?_
          refine lv_iconst (v := 1) hx hb d_Fr_divideFinite_49 (by decide) ?_
          refine zz_llshl hx hb d_Fr_divideFinite_50 ?_
          refine lv_topl (fun x_12 ex_12 => ?_)
          have h := h x_12 ex_12
          refine lv_lstore (lv' := [(4, .long x_12), (6, .long x_10), (8, .int v8), (0, .ref q), (1, .long a0), (3, .int a1)]) hx hb d_Fr_divideFinite_51 hl (by decide) rfl (fun ls hl => ?_)
          obtain ⟨x_13, ex_13⟩ : ∃ y : Int32, y = v8 + 1 := ⟨_, rfl⟩
          have h := h x_13 ex_13
          refine lv_iinc (v := x_13) (lv' := [(8, .int x_13), (4, .long x_12), (6, .long x_10), (0, .ref q), (1, .long a0), (3, .int a1)]) hx hb d_Fr_divideFinite_53 hl (k := 2) rfl (by rw [ex_13]; rfl) (by decide) rfl (fun ls hl => ?_)
          refine lv_goto (tgt := 15) hx hb d_Fr_divideFinite_56 (by decide) ?_
          exact ih x_13 x_10 x_12 wL h H locs hP hD hS ls (lv_sub hl [0, 2, 1, 3, 4, 5] rfl)
        · have kc_11 := (fun q => c_11 ((lg_cmp_lt _ _).mpr q))
          have h := h.2 kc_11
          refine lv_lload hx hb d_Fr_divideFinite_35 (lv_at hl 2 rfl) ?_
          refine lv_lload_n hx hb d_Fr_divideFinite_37 rfl (lv_at hl 4 rfl) ?_
          refine lv_lsub hx hb d_Fr_divideFinite_38 ?_
          refine lv_topl (fun x_14 ex_14 => ?_)
          have h := h x_14 ex_14
          refine lv_lstore (lv' := [(4, .long x_14), (6, .long x_10), (8, .int v8), (0, .ref q), (1, .long a0), (3, .int a1)]) hx hb d_Fr_divideFinite_39 hl (by decide) rfl (fun ls hl => ?_)
          refine lv_lload hx hb d_Fr_divideFinite_41 (lv_at hl 1 rfl) ?_
          refine lv_lconst (v := 1) hx hb d_Fr_divideFinite_43 (by decide) ?_
          refine lv_lor hx hb d_Fr_divideFinite_44 ?_
          refine lv_topl (fun x_15 ex_15 => ?_)
          have h := h x_15 ex_15
          refine lv_lstore (lv' := [(6, .long x_15), (4, .long x_14), (8, .int v8), (0, .ref q), (1, .long a0), (3, .int a1)]) hx hb d_Fr_divideFinite_45 hl (by decide) rfl (fun ls hl => ?_)
          refine lv_lload hx hb d_Fr_divideFinite_47 (lv_at hl 1 rfl) ?_
          refine lv_iconst (v := 1) hx hb d_Fr_divideFinite_49 (by decide) ?_
          refine zz_llshl hx hb d_Fr_divideFinite_50 ?_
          refine lv_topl (fun x_16 ex_16 => ?_)
          have h := h x_16 ex_16
          refine lv_lstore (lv' := [(4, .long x_16), (6, .long x_15), (8, .int v8), (0, .ref q), (1, .long a0), (3, .int a1)]) hx hb d_Fr_divideFinite_51 hl (by decide) rfl (fun ls hl => ?_)
          obtain ⟨x_17, ex_17⟩ : ∃ y : Int32, y = v8 + 1 := ⟨_, rfl⟩
          have h := h x_17 ex_17
          refine lv_iinc (v := x_17) (lv' := [(8, .int x_17), (4, .long x_16), (6, .long x_15), (0, .ref q), (1, .long a0), (3, .int a1)]) hx hb d_Fr_divideFinite_53 hl (k := 2) rfl (by rw [ex_17]; rfl) (by decide) rfl (fun ls hl => ?_)
          refine lv_goto (tgt := 15) hx hb d_Fr_divideFinite_56 (by decide) ?_
          exact ih x_17 x_15 x_16 wL h H locs hP hD hS ls (lv_sub hl [0, 2, 1, 3, 4, 5] rfl)
  obtain ⟨n, h⟩ := h
  exact lp n (0 : Int32) (0 : Int64) x_1 L h _ _ hP hD hS ls hl
