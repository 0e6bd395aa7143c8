def wp_Pr_opcode (a0 : Int32) (P : Int32 → Prop) : Prop := P (zz_ushr a0 (26 : Int32))
abbrev rm_Pr_opcode : Room := { frames := 0, cells := 0, slots := 0, locals := 0 }
set_option maxHeartbeats 4000000 in
set_option maxRecDepth 100000 in
theorem c_Pr_opcode (l : Launch) (a0 : Int32) (P : Int32 → Prop) (h : wp_Pr_opcode a0 P) : Met l y_Pr_opcode (zz_ws y_Pr_opcode b_Pr_opcode 1 (some .int)) rm_Pr_opcode (fun v _ => v = ([.int a0] : List Value).toArray) (vp_Si P) 0 0 (fun _ => False) := by
  refine Met.ofW (cc := b_Pr_opcode) (maxL := 1) (ret := (some .int)) (by decide) rfl ?_
  intro p e s m args below meth c s₁ B hml hv
  subst hv
  have hx := B.exec
  have hb := B.bytes
  have hr := B.returns
  have hts := atoms_spec (ws := (zz_ws y_Pr_opcode b_Pr_opcode 1 (some .int))) B.pre
  have hown : s.vm.findClass R_Pr = some m.cls := findClass_of_methodNamed B.named
  have hlocks := B.notSynchronized
  have hT := zz_hts hts
  have X : CallFix p m c b_Pr_opcode 1 s ([.int a0] : List Value).toArray (zz_ws y_Pr_opcode b_Pr_opcode 1 (some .int)) R_Pr := ⟨hx, hb, hml, hown, hts⟩
  have hf0 : 0 + 0 ≤ (headSpec (zz_ws y_Pr_opcode b_Pr_opcode 1 (some .int)) rm_Pr_opcode).room.cells ∧ 0 + 0 ≤ (headSpec (zz_ws y_Pr_opcode b_Pr_opcode 1 (some .int)) rm_Pr_opcode).room.slots := ⟨Nat.le_of_ble_eq_true rfl, Nat.le_of_ble_eq_true rfl⟩
  have hl := lv_entry ([.int a0]) (n := 1) (Nat.le_of_ble_eq_true rfl)
  rw [lg_entry_eq]
  generalize (lg_sl ([.int a0]) ++ List.replicate (1 - (lg_sl ([.int a0])).length) Slot.unset).toArray = ls at hl ⊢
  have hl : lv_has ls 1 [(0, .int a0)] := hl
  refine lv_iload_n hx hb d_Pr_opcode_0 rfl (lv_at hl 0 rfl) ?_
  refine lv_bipush (v := 26) hx hb d_Pr_opcode_1 (by decide) ?_
  refine zz_iushr hx hb d_Pr_opcode_3 ?_
  exact W.iret (v := (zz_ushr a0 (26 : Int32))) hx hb hr (fun t ht hW => ⟨(zz_ushr a0 (26 : Int32)),  rfl, h, ht⟩) t_nil d_Pr_opcode_4
def wp_Pr_bytes (a0 : Int32) (P : Int32 → Prop) : Prop := wp_Pr_opcode a0 (fun r_1 => ∀ x_2 : Int32, x_2 = ((r_1 &&& (3 : Int32)) + (1 : Int32)) → P x_2)
abbrev rm_Pr_bytes : Room := { frames := 1, cells := 0, slots := 0, locals := 20 }
set_option maxHeartbeats 4000000 in
set_option maxRecDepth 100000 in
theorem c_Pr_bytes (l : Launch) (a0 : Int32) (P : Int32 → Prop) (h : wp_Pr_bytes a0 P) : Met l y_Pr_bytes (zz_ws y_Pr_bytes b_Pr_bytes 1 (some .int)) rm_Pr_bytes (fun v _ => v = ([.int a0] : List Value).toArray) (vp_Si P) 0 0 (fun _ => False) := by
  refine Met.ofW (cc := b_Pr_bytes) (maxL := 1) (ret := (some .int)) (by decide) rfl ?_
  intro p e s m args below meth c s₁ B hml hv
  subst hv
  have hx := B.exec
  have hb := B.bytes
  have hr := B.returns
  have hts := atoms_spec (ws := (zz_ws y_Pr_bytes b_Pr_bytes 1 (some .int))) B.pre
  have hown : s.vm.findClass R_Pr = some m.cls := findClass_of_methodNamed B.named
  have hlocks := B.notSynchronized
  have hT := zz_hts hts
  have X : CallFix p m c b_Pr_bytes 1 s ([.int a0] : List Value).toArray (zz_ws y_Pr_bytes b_Pr_bytes 1 (some .int)) R_Pr := ⟨hx, hb, hml, hown, hts⟩
  have hf0 : 0 + 0 ≤ (headSpec (zz_ws y_Pr_bytes b_Pr_bytes 1 (some .int)) rm_Pr_bytes).room.cells ∧ 0 + 0 ≤ (headSpec (zz_ws y_Pr_bytes b_Pr_bytes 1 (some .int)) rm_Pr_bytes).room.slots := ⟨Nat.le_of_ble_eq_true rfl, Nat.le_of_ble_eq_true rfl⟩
  have hl := lv_entry ([.int a0]) (n := 1) (Nat.le_of_ble_eq_true rfl)
  rw [lg_entry_eq]
  generalize (lg_sl ([.int a0]) ++ List.replicate (1 - (lg_sl ([.int a0])).length) Slot.unset).toArray = ls at hl ⊢
  have hl : lv_has ls 1 [(0, .int a0)] := hl
  refine lv_iload_n hx hb d_Pr_bytes_0 rfl (lv_at hl 0 rfl) ?_
  refine zz_Si (As := [.int a0]) (rest := []) X (c_Pr_opcode l a0 _ h) ⟨rfl, rfl⟩ m_Pr_opcode k_Pr_71 ⟨Nat.le_of_ble_eq_true rfl, Nat.le_of_ble_eq_true rfl⟩ rfl hl.1 rfl (Nat.le_of_ble_eq_true rfl) d_Pr_bytes_1 hf0 (fun r_1 h => ?_)
  refine lv_iconst (v := 3) hx hb d_Pr_bytes_4 (by decide) ?_
  refine lv_iand hx hb d_Pr_bytes_5 ?_
  refine lv_iconst (v := 1) hx hb d_Pr_bytes_6 (by decide) ?_
  refine lv_iadd hx hb d_Pr_bytes_7 ?_
  refine lv_topi (fun x_2 ex_2 => ?_)
  have h := h x_2 ex_2
  exact W.iret (v := x_2) hx hb hr (fun t ht hW => ⟨x_2,  rfl, h, ht⟩) t_nil d_Pr_bytes_8
def wp_Pr_function (a0 : Int32) (P : Int32 → Prop) : Prop := P (a0 &&& (63 : Int32))
abbrev rm_Pr_function : Room := { frames := 0, cells := 0, slots := 0, locals := 0 }
set_option maxHeartbeats 4000000 in
set_option maxRecDepth 100000 in
theorem c_Pr_function (l : Launch) (a0 : Int32) (P : Int32 → Prop) (h : wp_Pr_function a0 P) : Met l y_Pr_function (zz_ws y_Pr_function b_Pr_function 1 (some .int)) rm_Pr_function (fun v _ => v = ([.int a0] : List Value).toArray) (vp_Si P) 0 0 (fun _ => False) := by
  refine Met.ofW (cc := b_Pr_function) (maxL := 1) (ret := (some .int)) (by decide) rfl ?_
  intro p e s m args below meth c s₁ B hml hv
  subst hv
  have hx := B.exec
  have hb := B.bytes
  have hr := B.returns
  have hts := atoms_spec (ws := (zz_ws y_Pr_function b_Pr_function 1 (some .int))) B.pre
  have hown : s.vm.findClass R_Pr = some m.cls := findClass_of_methodNamed B.named
  have hlocks := B.notSynchronized
  have hT := zz_hts hts
  have X : CallFix p m c b_Pr_function 1 s ([.int a0] : List Value).toArray (zz_ws y_Pr_function b_Pr_function 1 (some .int)) R_Pr := ⟨hx, hb, hml, hown, hts⟩
  have hf0 : 0 + 0 ≤ (headSpec (zz_ws y_Pr_function b_Pr_function 1 (some .int)) rm_Pr_function).room.cells ∧ 0 + 0 ≤ (headSpec (zz_ws y_Pr_function b_Pr_function 1 (some .int)) rm_Pr_function).room.slots := ⟨Nat.le_of_ble_eq_true rfl, Nat.le_of_ble_eq_true rfl⟩
  have hl := lv_entry ([.int a0]) (n := 1) (Nat.le_of_ble_eq_true rfl)
  rw [lg_entry_eq]
  generalize (lg_sl ([.int a0]) ++ List.replicate (1 - (lg_sl ([.int a0])).length) Slot.unset).toArray = ls at hl ⊢
  have hl : lv_has ls 1 [(0, .int a0)] := hl
  refine lv_iload_n hx hb d_Pr_function_0 rfl (lv_at hl 0 rfl) ?_
  refine lv_bipush (v := 63) hx hb d_Pr_function_1 (by decide) ?_
  refine lv_iand hx hb d_Pr_function_3 ?_
  exact W.iret (v := (a0 &&& (63 : Int32))) hx hb hr (fun t ht hW => ⟨(a0 &&& (63 : Int32)),  rfl, h, ht⟩) t_nil d_Pr_function_4
def wp_Pr_rs (a0 : Int32) (P : Int32 → Prop) : Prop := ∀ x_1 : Int32, x_1 = ((zz_ushr a0 (21 : Int32)) &&& (31 : Int32)) → P x_1
abbrev rm_Pr_rs : Room := { frames := 0, cells := 0, slots := 0, locals := 0 }
set_option maxHeartbeats 4000000 in
set_option maxRecDepth 100000 in
theorem c_Pr_rs (l : Launch) (a0 : Int32) (P : Int32 → Prop) (h : wp_Pr_rs a0 P) : Met l y_Pr_rs (zz_ws y_Pr_rs b_Pr_rs 1 (some .int)) rm_Pr_rs (fun v _ => v = ([.int a0] : List Value).toArray) (vp_Si P) 0 0 (fun _ => False) := by
  refine Met.ofW (cc := b_Pr_rs) (maxL := 1) (ret := (some .int)) (by decide) rfl ?_
  intro p e s m args below meth c s₁ B hml hv
  subst hv
  have hx := B.exec
  have hb := B.bytes
  have hr := B.returns
  have hts := atoms_spec (ws := (zz_ws y_Pr_rs b_Pr_rs 1 (some .int))) B.pre
  have hown : s.vm.findClass R_Pr = some m.cls := findClass_of_methodNamed B.named
  have hlocks := B.notSynchronized
  have hT := zz_hts hts
  have X : CallFix p m c b_Pr_rs 1 s ([.int a0] : List Value).toArray (zz_ws y_Pr_rs b_Pr_rs 1 (some .int)) R_Pr := ⟨hx, hb, hml, hown, hts⟩
  have hf0 : 0 + 0 ≤ (headSpec (zz_ws y_Pr_rs b_Pr_rs 1 (some .int)) rm_Pr_rs).room.cells ∧ 0 + 0 ≤ (headSpec (zz_ws y_Pr_rs b_Pr_rs 1 (some .int)) rm_Pr_rs).room.slots := ⟨Nat.le_of_ble_eq_true rfl, Nat.le_of_ble_eq_true rfl⟩
  have hl := lv_entry ([.int a0]) (n := 1) (Nat.le_of_ble_eq_true rfl)
  rw [lg_entry_eq]
  generalize (lg_sl ([.int a0]) ++ List.replicate (1 - (lg_sl ([.int a0])).length) Slot.unset).toArray = ls at hl ⊢
  have hl : lv_has ls 1 [(0, .int a0)] := hl
  refine lv_iload_n hx hb d_Pr_rs_0 rfl (lv_at hl 0 rfl) ?_
  refine lv_bipush (v := 21) hx hb d_Pr_rs_1 (by decide) ?_
  refine zz_iushr hx hb d_Pr_rs_3 ?_
  refine lv_bipush (v := 31) hx hb d_Pr_rs_4 (by decide) ?_
  refine lv_iand hx hb d_Pr_rs_6 ?_
  refine lv_topi (fun x_1 ex_1 => ?_)
  have h := h x_1 ex_1
  exact W.iret (v := x_1) hx hb hr (fun t ht hW => ⟨x_1,  rfl, h, ht⟩) t_nil d_Pr_rs_7
def wp_Pr_rt (a0 : Int32) (P : Int32 → Prop) : Prop := ∀ x_1 : Int32, x_1 = ((zz_ushr a0 (16 : Int32)) &&& (31 : Int32)) → P x_1
abbrev rm_Pr_rt : Room := { frames := 0, cells := 0, slots := 0, locals := 0 }
set_option maxHeartbeats 4000000 in
set_option maxRecDepth 100000 in
theorem c_Pr_rt (l : Launch) (a0 : Int32) (P : Int32 → Prop) (h : wp_Pr_rt a0 P) : Met l y_Pr_rt (zz_ws y_Pr_rt b_Pr_rt 1 (some .int)) rm_Pr_rt (fun v _ => v = ([.int a0] : List Value).toArray) (vp_Si P) 0 0 (fun _ => False) := by
  refine Met.ofW (cc := b_Pr_rt) (maxL := 1) (ret := (some .int)) (by decide) rfl ?_
  intro p e s m args below meth c s₁ B hml hv
  subst hv
  have hx := B.exec
  have hb := B.bytes
  have hr := B.returns
  have hts := atoms_spec (ws := (zz_ws y_Pr_rt b_Pr_rt 1 (some .int))) B.pre
  have hown : s.vm.findClass R_Pr = some m.cls := findClass_of_methodNamed B.named
  have hlocks := B.notSynchronized
  have hT := zz_hts hts
  have X : CallFix p m c b_Pr_rt 1 s ([.int a0] : List Value).toArray (zz_ws y_Pr_rt b_Pr_rt 1 (some .int)) R_Pr := ⟨hx, hb, hml, hown, hts⟩
  have hf0 : 0 + 0 ≤ (headSpec (zz_ws y_Pr_rt b_Pr_rt 1 (some .int)) rm_Pr_rt).room.cells ∧ 0 + 0 ≤ (headSpec (zz_ws y_Pr_rt b_Pr_rt 1 (some .int)) rm_Pr_rt).room.slots := ⟨Nat.le_of_ble_eq_true rfl, Nat.le_of_ble_eq_true rfl⟩
  have hl := lv_entry ([.int a0]) (n := 1) (Nat.le_of_ble_eq_true rfl)
  rw [lg_entry_eq]
  generalize (lg_sl ([.int a0]) ++ List.replicate (1 - (lg_sl ([.int a0])).length) Slot.unset).toArray = ls at hl ⊢
  have hl : lv_has ls 1 [(0, .int a0)] := hl
  refine lv_iload_n hx hb d_Pr_rt_0 rfl (lv_at hl 0 rfl) ?_
  refine lv_bipush (v := 16) hx hb d_Pr_rt_1 (by decide) ?_
  refine zz_iushr hx hb d_Pr_rt_3 ?_
  refine lv_bipush (v := 31) hx hb d_Pr_rt_4 (by decide) ?_
  refine lv_iand hx hb d_Pr_rt_6 ?_
  refine lv_topi (fun x_1 ex_1 => ?_)
  have h := h x_1 ex_1
  exact W.iret (v := x_1) hx hb hr (fun t ht hW => ⟨x_1,  rfl, h, ht⟩) t_nil d_Pr_rt_7
def wp_Pr_rd (a0 : Int32) (P : Int32 → Prop) : Prop := ∀ x_1 : Int32, x_1 = ((zz_ushr a0 (11 : Int32)) &&& (31 : Int32)) → P x_1
abbrev rm_Pr_rd : Room := { frames := 0, cells := 0, slots := 0, locals := 0 }
set_option maxHeartbeats 4000000 in
set_option maxRecDepth 100000 in
theorem c_Pr_rd (l : Launch) (a0 : Int32) (P : Int32 → Prop) (h : wp_Pr_rd a0 P) : Met l y_Pr_rd (zz_ws y_Pr_rd b_Pr_rd 1 (some .int)) rm_Pr_rd (fun v _ => v = ([.int a0] : List Value).toArray) (vp_Si P) 0 0 (fun _ => False) := by
  refine Met.ofW (cc := b_Pr_rd) (maxL := 1) (ret := (some .int)) (by decide) rfl ?_
  intro p e s m args below meth c s₁ B hml hv
  subst hv
  have hx := B.exec
  have hb := B.bytes
  have hr := B.returns
  have hts := atoms_spec (ws := (zz_ws y_Pr_rd b_Pr_rd 1 (some .int))) B.pre
  have hown : s.vm.findClass R_Pr = some m.cls := findClass_of_methodNamed B.named
  have hlocks := B.notSynchronized
  have hT := zz_hts hts
  have X : CallFix p m c b_Pr_rd 1 s ([.int a0] : List Value).toArray (zz_ws y_Pr_rd b_Pr_rd 1 (some .int)) R_Pr := ⟨hx, hb, hml, hown, hts⟩
  have hf0 : 0 + 0 ≤ (headSpec (zz_ws y_Pr_rd b_Pr_rd 1 (some .int)) rm_Pr_rd).room.cells ∧ 0 + 0 ≤ (headSpec (zz_ws y_Pr_rd b_Pr_rd 1 (some .int)) rm_Pr_rd).room.slots := ⟨Nat.le_of_ble_eq_true rfl, Nat.le_of_ble_eq_true rfl⟩
  have hl := lv_entry ([.int a0]) (n := 1) (Nat.le_of_ble_eq_true rfl)
  rw [lg_entry_eq]
  generalize (lg_sl ([.int a0]) ++ List.replicate (1 - (lg_sl ([.int a0])).length) Slot.unset).toArray = ls at hl ⊢
  have hl : lv_has ls 1 [(0, .int a0)] := hl
  refine lv_iload_n hx hb d_Pr_rd_0 rfl (lv_at hl 0 rfl) ?_
  refine lv_bipush (v := 11) hx hb d_Pr_rd_1 (by decide) ?_
  refine zz_iushr hx hb d_Pr_rd_3 ?_
  refine lv_bipush (v := 31) hx hb d_Pr_rd_4 (by decide) ?_
  refine lv_iand hx hb d_Pr_rd_6 ?_
  refine lv_topi (fun x_1 ex_1 => ?_)
  have h := h x_1 ex_1
  exact W.iret (v := x_1) hx hb hr (fun t ht hW => ⟨x_1,  rfl, h, ht⟩) t_nil d_Pr_rd_7
def wp_Pr_signed (a0 : Int32) (P : Int32 → Prop) : Prop := P a0.toInt16.toInt32
abbrev rm_Pr_signed : Room := { frames := 0, cells := 0, slots := 0, locals := 0 }
set_option maxHeartbeats 4000000 in
set_option maxRecDepth 100000 in
theorem c_Pr_signed (l : Launch) (a0 : Int32) (P : Int32 → Prop) (h : wp_Pr_signed a0 P) : Met l y_Pr_signed (zz_ws y_Pr_signed b_Pr_signed 1 (some .int)) rm_Pr_signed (fun v _ => v = ([.int a0] : List Value).toArray) (vp_Si P) 0 0 (fun _ => False) := by
  refine Met.ofW (cc := b_Pr_signed) (maxL := 1) (ret := (some .int)) (by decide) rfl ?_
  intro p e s m args below meth c s₁ B hml hv
  subst hv
  have hx := B.exec
  have hb := B.bytes
  have hr := B.returns
  have hts := atoms_spec (ws := (zz_ws y_Pr_signed b_Pr_signed 1 (some .int))) B.pre
  have hown : s.vm.findClass R_Pr = some m.cls := findClass_of_methodNamed B.named
  have hlocks := B.notSynchronized
  have hT := zz_hts hts
  have X : CallFix p m c b_Pr_signed 1 s ([.int a0] : List Value).toArray (zz_ws y_Pr_signed b_Pr_signed 1 (some .int)) R_Pr := ⟨hx, hb, hml, hown, hts⟩
  have hf0 : 0 + 0 ≤ (headSpec (zz_ws y_Pr_signed b_Pr_signed 1 (some .int)) rm_Pr_signed).room.cells ∧ 0 + 0 ≤ (headSpec (zz_ws y_Pr_signed b_Pr_signed 1 (some .int)) rm_Pr_signed).room.slots := ⟨Nat.le_of_ble_eq_true rfl, Nat.le_of_ble_eq_true rfl⟩
  have hl := lv_entry ([.int a0]) (n := 1) (Nat.le_of_ble_eq_true rfl)
  rw [lg_entry_eq]
  generalize (lg_sl ([.int a0]) ++ List.replicate (1 - (lg_sl ([.int a0])).length) Slot.unset).toArray = ls at hl ⊢
  have hl : lv_has ls 1 [(0, .int a0)] := hl
  refine lv_iload_n hx hb d_Pr_signed_0 rfl (lv_at hl 0 rfl) ?_
  refine lv_i2s (v := a0.toInt16.toInt32) hx hb d_Pr_signed_1 rfl ?_
  exact W.iret (v := a0.toInt16.toInt32) hx hb hr (fun t ht hW => ⟨a0.toInt16.toInt32,  rfl, h, ht⟩) t_nil d_Pr_signed_2
def wp_Pr_unsigned (a0 : Int32) (P : Int64 → Prop) : Prop := ∀ x_1 : Int64, x_1 = (a0.toInt64 &&& (4294967295 : Int64)) → P x_1
abbrev rm_Pr_unsigned : Room := { frames := 0, cells := 0, slots := 0, locals := 0 }
set_option maxHeartbeats 4000000 in
set_option maxRecDepth 100000 in
theorem c_Pr_unsigned (l : Launch) (a0 : Int32) (P : Int64 → Prop) (h : wp_Pr_unsigned a0 P) : Met l y_Pr_unsigned (zz_ws y_Pr_unsigned b_Pr_unsigned 1 (some .long)) rm_Pr_unsigned (fun v _ => v = ([.int a0] : List Value).toArray) (vp_Sl P) 0 0 (fun _ => False) := by
  refine Met.ofW (cc := b_Pr_unsigned) (maxL := 1) (ret := (some .long)) (by decide) rfl ?_
  intro p e s m args below meth c s₁ B hml hv
  subst hv
  have hx := B.exec
  have hb := B.bytes
  have hr := B.returns
  have hts := atoms_spec (ws := (zz_ws y_Pr_unsigned b_Pr_unsigned 1 (some .long))) B.pre
  have hown : s.vm.findClass R_Pr = some m.cls := findClass_of_methodNamed B.named
  have hlocks := B.notSynchronized
  have hT := zz_hts hts
  have X : CallFix p m c b_Pr_unsigned 1 s ([.int a0] : List Value).toArray (zz_ws y_Pr_unsigned b_Pr_unsigned 1 (some .long)) R_Pr := ⟨hx, hb, hml, hown, hts⟩
  have hf0 : 0 + 0 ≤ (headSpec (zz_ws y_Pr_unsigned b_Pr_unsigned 1 (some .long)) rm_Pr_unsigned).room.cells ∧ 0 + 0 ≤ (headSpec (zz_ws y_Pr_unsigned b_Pr_unsigned 1 (some .long)) rm_Pr_unsigned).room.slots := ⟨Nat.le_of_ble_eq_true rfl, Nat.le_of_ble_eq_true rfl⟩
  have hl := lv_entry ([.int a0]) (n := 1) (Nat.le_of_ble_eq_true rfl)
  rw [lg_entry_eq]
  generalize (lg_sl ([.int a0]) ++ List.replicate (1 - (lg_sl ([.int a0])).length) Slot.unset).toArray = ls at hl ⊢
  have hl : lv_has ls 1 [(0, .int a0)] := hl
  refine lv_iload_n hx hb d_Pr_unsigned_0 rfl (lv_at hl 0 rfl) ?_
  refine lv_i2l (v := a0.toInt64) hx hb d_Pr_unsigned_1 rfl ?_
  refine lv_ldc2 (v := 4294967295) hx hb hown (hT _ n_Pr_283) d_Pr_unsigned_2 ?_
  refine lv_land hx hb d_Pr_unsigned_5 ?_
  refine lv_topl (fun x_1 ex_1 => ?_)
  have h := h x_1 ex_1
  exact W.lret (v := x_1) hx hb hr (fun t ht hW => ⟨x_1,  rfl, h, ht⟩) t_nil d_Pr_unsigned_6
def wp_JI_bitCount (a0 : Int32) (P : Int32 → Prop) : Prop := ∀ x_1 : Int32, x_1 = ((zz_ushr a0 (1 : Int32)) &&& (1431655765 : Int32)) → ∀ x_2 : Int32, x_2 = (a0 - x_1) → ∀ x_3 : Int32, x_3 = (x_2 &&& (858993459 : Int32)) → ∀ x_4 : Int32, x_4 = ((zz_ushr x_2 (2 : Int32)) &&& (858993459 : Int32)) → ∀ x_5 : Int32, x_5 = (x_3 + x_4) → ∀ x_6 : Int32, x_6 = (x_5 + (zz_ushr x_5 (4 : Int32))) → ∀ x_7 : Int32, x_7 = (x_6 &&& (252645135 : Int32)) → ∀ x_8 : Int32, x_8 = (x_7 + (zz_ushr x_7 (8 : Int32))) → ∀ x_9 : Int32, x_9 = (x_8 + (zz_ushr x_8 (16 : Int32))) → P (x_9 &&& (63 : Int32))
abbrev rm_JI_bitCount : Room := { frames := 0, cells := 0, slots := 0, locals := 0 }
set_option maxHeartbeats 4000000 in
set_option maxRecDepth 100000 in
theorem c_JI_bitCount (l : Launch) (a0 : Int32) (P : Int32 → Prop) (h : wp_JI_bitCount a0 P) : Met l y_JI_bitCount (zz_ws y_JI_bitCount b_JI_bitCount 1 (some .int)) rm_JI_bitCount (fun v _ => v = ([.int a0] : List Value).toArray) (vp_Si P) 0 0 (fun _ => False) := by
  refine Met.ofW (cc := b_JI_bitCount) (maxL := 1) (ret := (some .int)) (by decide) rfl ?_
  intro p e s m args below meth c s₁ B hml hv
  subst hv
  have hx := B.exec
  have hb := B.bytes
  have hr := B.returns
  have hts := atoms_spec (ws := (zz_ws y_JI_bitCount b_JI_bitCount 1 (some .int))) B.pre
  have hown : s.vm.findClass R_JI = some m.cls := findClass_of_methodNamed B.named
  have hlocks := B.notSynchronized
  have hT := zz_hts hts
  have X : CallFix p m c b_JI_bitCount 1 s ([.int a0] : List Value).toArray (zz_ws y_JI_bitCount b_JI_bitCount 1 (some .int)) R_JI := ⟨hx, hb, hml, hown, hts⟩
  have hf0 : 0 + 0 ≤ (headSpec (zz_ws y_JI_bitCount b_JI_bitCount 1 (some .int)) rm_JI_bitCount).room.cells ∧ 0 + 0 ≤ (headSpec (zz_ws y_JI_bitCount b_JI_bitCount 1 (some .int)) rm_JI_bitCount).room.slots := ⟨Nat.le_of_ble_eq_true rfl, Nat.le_of_ble_eq_true rfl⟩
  have hl := lv_entry ([.int a0]) (n := 1) (Nat.le_of_ble_eq_true rfl)
  rw [lg_entry_eq]
  generalize (lg_sl ([.int a0]) ++ List.replicate (1 - (lg_sl ([.int a0])).length) Slot.unset).toArray = ls at hl ⊢
  have hl : lv_has ls 1 [(0, .int a0)] := hl
  refine lv_iload_n hx hb d_JI_bitCount_0 rfl (lv_at hl 0 rfl) ?_
  refine lv_iload_n hx hb d_JI_bitCount_1 rfl (lv_at hl 0 rfl) ?_
  refine lv_iconst (v := 1) hx hb d_JI_bitCount_2 (by decide) ?_
  refine zz_iushr hx hb d_JI_bitCount_3 ?_
  refine lv_ldcw (v := 1431655765) hx hb hown (hT _ n_JI_265) d_JI_bitCount_4 ?_
  refine lv_iand hx hb d_JI_bitCount_7 ?_
  refine lv_topi (fun x_1 ex_1 => ?_)
  have h := h x_1 ex_1
  refine lv_isub hx hb d_JI_bitCount_8 ?_
  refine lv_topi (fun x_2 ex_2 => ?_)
  have h := h x_2 ex_2
  refine lv_istore_n (lv' := [(0, .int x_2)]) hx hb d_JI_bitCount_9 rfl hl (by decide) rfl (fun ls hl => ?_)
  refine lv_iload_n hx hb d_JI_bitCount_10 rfl (lv_at hl 0 rfl) ?_
  refine lv_ldcw (v := 858993459) hx hb hown (hT _ n_JI_266) d_JI_bitCount_11 ?_
  refine lv_iand hx hb d_JI_bitCount_14 ?_
  refine lv_topi (fun x_3 ex_3 => ?_)
  have h := h x_3 ex_3
  refine lv_iload_n hx hb d_JI_bitCount_15 rfl (lv_at hl 0 rfl) ?_
  refine lv_iconst (v := 2) hx hb d_JI_bitCount_16 (by decide) ?_
  refine zz_iushr hx hb d_JI_bitCount_17 ?_
  refine lv_ldcw (v := 858993459) hx hb hown (hT _ n_JI_266) d_JI_bitCount_18 ?_
  refine lv_iand hx hb d_JI_bitCount_21 ?_
  refine lv_topi (fun x_4 ex_4 => ?_)
  have h := h x_4 ex_4
  refine lv_iadd hx hb d_JI_bitCount_22 ?_
  refine lv_topi (fun x_5 ex_5 => ?_)
  have h := h x_5 ex_5
  refine lv_istore_n (lv' := [(0, .int x_5)]) hx hb d_JI_bitCount_23 rfl hl (by decide) rfl (fun ls hl => ?_)
  refine lv_iload_n hx hb d_JI_bitCount_24 rfl (lv_at hl 0 rfl) ?_
  refine lv_iload_n hx hb d_JI_bitCount_25 rfl (lv_at hl 0 rfl) ?_
  refine lv_iconst (v := 4) hx hb d_JI_bitCount_26 (by decide) ?_
  refine zz_iushr hx hb d_JI_bitCount_27 ?_
  refine lv_iadd hx hb d_JI_bitCount_28 ?_
  refine lv_topi (fun x_6 ex_6 => ?_)
  have h := h x_6 ex_6
  refine lv_ldcw (v := 252645135) hx hb hown (hT _ n_JI_267) d_JI_bitCount_29 ?_
  refine lv_iand hx hb d_JI_bitCount_32 ?_
  refine lv_topi (fun x_7 ex_7 => ?_)
  have h := h x_7 ex_7
  refine lv_istore_n (lv' := [(0, .int x_7)]) hx hb d_JI_bitCount_33 rfl hl (by decide) rfl (fun ls hl => ?_)
  refine lv_iload_n hx hb d_JI_bitCount_34 rfl (lv_at hl 0 rfl) ?_
  refine lv_iload_n hx hb d_JI_bitCount_35 rfl (lv_at hl 0 rfl) ?_
  refine lv_bipush (v := 8) hx hb d_JI_bitCount_36 (by decide) ?_
  refine zz_iushr hx hb d_JI_bitCount_38 ?_
  refine lv_iadd hx hb d_JI_bitCount_39 ?_
  refine lv_topi (fun x_8 ex_8 => ?_)
  have h := h x_8 ex_8
  refine lv_istore_n (lv' := [(0, .int x_8)]) hx hb d_JI_bitCount_40 rfl hl (by decide) rfl (fun ls hl => ?_)
  refine lv_iload_n hx hb d_JI_bitCount_41 rfl (lv_at hl 0 rfl) ?_
  refine lv_iload_n hx hb d_JI_bitCount_42 rfl (lv_at hl 0 rfl) ?_
  refine lv_bipush (v := 16) hx hb d_JI_bitCount_43 (by decide) ?_
  refine zz_iushr hx hb d_JI_bitCount_45 ?_
  refine lv_iadd hx hb d_JI_bitCount_46 ?_
  refine lv_topi (fun x_9 ex_9 => ?_)
  have h := h x_9 ex_9
  refine lv_istore_n (lv' := [(0, .int x_9)]) hx hb d_JI_bitCount_47 rfl hl (by decide) rfl (fun ls hl => ?_)
  refine lv_iload_n hx hb d_JI_bitCount_48 rfl (lv_at hl 0 rfl) ?_
  refine lv_bipush (v := 63) hx hb d_JI_bitCount_49 (by decide) ?_
  refine lv_iand hx hb d_JI_bitCount_51 ?_
  exact W.iret (v := (x_9 &&& (63 : Int32))) hx hb hr (fun t ht hW => ⟨(x_9 &&& (63 : Int32)),  rfl, h, ht⟩) t_nil d_JI_bitCount_52
def wp_Pr_leadingZeros (a0 : Int32) (P : Int32 → Prop) : Prop := ∀ x_1 : Int32, x_1 = (a0 ||| (zz_ushr a0 (1 : Int32))) → ∀ x_2 : Int32, x_2 = (x_1 ||| (zz_ushr x_1 (2 : Int32))) → ∀ x_3 : Int32, x_3 = (x_2 ||| (zz_ushr x_2 (4 : Int32))) → ∀ x_4 : Int32, x_4 = (x_3 ||| (zz_ushr x_3 (8 : Int32))) → ∀ x_5 : Int32, x_5 = (x_4 ||| (zz_ushr x_4 (16 : Int32))) → wp_JI_bitCount x_5 (fun r_6 => P ((32 : Int32) - r_6))
abbrev rm_Pr_leadingZeros : Room := { frames := 1, cells := 0, slots := 0, locals := 20 }
set_option maxHeartbeats 4000000 in
set_option maxRecDepth 100000 in
theorem c_Pr_leadingZeros (l : Launch) (a0 : Int32) (P : Int32 → Prop) (h : wp_Pr_leadingZeros a0 P) : Met l y_Pr_leadingZeros (zz_ws y_Pr_leadingZeros b_Pr_leadingZeros 2 (some .int)) rm_Pr_leadingZeros (fun v _ => v = ([.int a0] : List Value).toArray) (vp_Si P) 0 0 (fun _ => False) := by
  refine Met.ofW (cc := b_Pr_leadingZeros) (maxL := 2) (ret := (some .int)) (by decide) rfl ?_
  intro p e s m args below meth c s₁ B hml hv
  subst hv
  have hx := B.exec
  have hb := B.bytes
  have hr := B.returns
  have hts := atoms_spec (ws := (zz_ws y_Pr_leadingZeros b_Pr_leadingZeros 2 (some .int))) B.pre
  have hown : s.vm.findClass R_Pr = some m.cls := findClass_of_methodNamed B.named
  have hlocks := B.notSynchronized
  have hT := zz_hts hts
  have X : CallFix p m c b_Pr_leadingZeros 2 s ([.int a0] : List Value).toArray (zz_ws y_Pr_leadingZeros b_Pr_leadingZeros 2 (some .int)) R_Pr := ⟨hx, hb, hml, hown, hts⟩
  have hf0 : 0 + 0 ≤ (headSpec (zz_ws y_Pr_leadingZeros b_Pr_leadingZeros 2 (some .int)) rm_Pr_leadingZeros).room.cells ∧ 0 + 0 ≤ (headSpec (zz_ws y_Pr_leadingZeros b_Pr_leadingZeros 2 (some .int)) rm_Pr_leadingZeros).room.slots := ⟨Nat.le_of_ble_eq_true rfl, Nat.le_of_ble_eq_true rfl⟩
  have hl := lv_entry ([.int a0]) (n := 2) (Nat.le_of_ble_eq_true rfl)
  rw [lg_entry_eq]
  generalize (lg_sl ([.int a0]) ++ List.replicate (2 - (lg_sl ([.int a0])).length) Slot.unset).toArray = ls at hl ⊢
  have hl : lv_has ls 2 [(0, .int a0)] := hl
  refine lv_iload_n hx hb d_Pr_leadingZeros_0 rfl (lv_at hl 0 rfl) ?_
  refine lv_iload_n hx hb d_Pr_leadingZeros_1 rfl (lv_at hl 0 rfl) ?_
  refine lv_iconst (v := 1) hx hb d_Pr_leadingZeros_2 (by decide) ?_
  refine zz_iushr hx hb d_Pr_leadingZeros_3 ?_
  refine lv_ior hx hb d_Pr_leadingZeros_4 ?_
  refine lv_topi (fun x_1 ex_1 => ?_)
  have h := h x_1 ex_1
  refine lv_istore_n (lv' := [(1, .int x_1), (0, .int a0)]) hx hb d_Pr_leadingZeros_5 rfl hl (by decide) rfl (fun ls hl => ?_)
  refine lv_iload_n hx hb d_Pr_leadingZeros_6 rfl (lv_at hl 0 rfl) ?_
  refine lv_iload_n hx hb d_Pr_leadingZeros_7 rfl (lv_at hl 0 rfl) ?_
  refine lv_iconst (v := 2) hx hb d_Pr_leadingZeros_8 (by decide) ?_
  refine zz_iushr hx hb d_Pr_leadingZeros_9 ?_
  refine lv_ior hx hb d_Pr_leadingZeros_10 ?_
  refine lv_topi (fun x_2 ex_2 => ?_)
  have h := h x_2 ex_2
  refine lv_istore_n (lv' := [(1, .int x_2), (0, .int a0)]) hx hb d_Pr_leadingZeros_11 rfl hl (by decide) rfl (fun ls hl => ?_)
  refine lv_iload_n hx hb d_Pr_leadingZeros_12 rfl (lv_at hl 0 rfl) ?_
  refine lv_iload_n hx hb d_Pr_leadingZeros_13 rfl (lv_at hl 0 rfl) ?_
  refine lv_iconst (v := 4) hx hb d_Pr_leadingZeros_14 (by decide) ?_
  refine zz_iushr hx hb d_Pr_leadingZeros_15 ?_
  refine lv_ior hx hb d_Pr_leadingZeros_16 ?_
  refine lv_topi (fun x_3 ex_3 => ?_)
  have h := h x_3 ex_3
  refine lv_istore_n (lv' := [(1, .int x_3), (0, .int a0)]) hx hb d_Pr_leadingZeros_17 rfl hl (by decide) rfl (fun ls hl => ?_)
  refine lv_iload_n hx hb d_Pr_leadingZeros_18 rfl (lv_at hl 0 rfl) ?_
  refine lv_iload_n hx hb d_Pr_leadingZeros_19 rfl (lv_at hl 0 rfl) ?_
  refine lv_bipush (v := 8) hx hb d_Pr_leadingZeros_20 (by decide) ?_
  refine zz_iushr hx hb d_Pr_leadingZeros_22 ?_
  refine lv_ior hx hb d_Pr_leadingZeros_23 ?_
  refine lv_topi (fun x_4 ex_4 => ?_)
  have h := h x_4 ex_4
  refine lv_istore_n (lv' := [(1, .int x_4), (0, .int a0)]) hx hb d_Pr_leadingZeros_24 rfl hl (by decide) rfl (fun ls hl => ?_)
  refine lv_iload_n hx hb d_Pr_leadingZeros_25 rfl (lv_at hl 0 rfl) ?_
  refine lv_iload_n hx hb d_Pr_leadingZeros_26 rfl (lv_at hl 0 rfl) ?_
  refine lv_bipush (v := 16) hx hb d_Pr_leadingZeros_27 (by decide) ?_
  refine zz_iushr hx hb d_Pr_leadingZeros_29 ?_
  refine lv_ior hx hb d_Pr_leadingZeros_30 ?_
  refine lv_topi (fun x_5 ex_5 => ?_)
  have h := h x_5 ex_5
  refine lv_istore_n (lv' := [(1, .int x_5), (0, .int a0)]) hx hb d_Pr_leadingZeros_31 rfl hl (by decide) rfl (fun ls hl => ?_)
  refine lv_bipush (v := 32) hx hb d_Pr_leadingZeros_32 (by decide) ?_
  refine lv_iload_n hx hb d_Pr_leadingZeros_34 rfl (lv_at hl 0 rfl) ?_
  refine zz_Si (As := [.int x_5]) (rest := [.int (32 : Int32)]) X (c_JI_bitCount l x_5 _ h) ⟨rfl, rfl⟩ m_JI_bitCount k_Pr_285 ⟨Nat.le_of_ble_eq_true rfl, Nat.le_of_ble_eq_true rfl⟩ rfl hl.1 rfl (Nat.le_of_ble_eq_true rfl) d_Pr_leadingZeros_35 hf0 (fun r_6 h => ?_)
  refine lv_isub hx hb d_Pr_leadingZeros_38 ?_
  exact W.iret (v := ((32 : Int32) - r_6)) hx hb hr (fun t ht hW => ⟨((32 : Int32) - r_6),  rfl, h, ht⟩) t_nil d_Pr_leadingZeros_39
def wp_Pr_trap (ms : Int32) (mn : Nat) (g : Nat → Int32) (rg : Nat → Int32) (hq : Nat → Int32) (mf : Nat → Int32) (cd : Int32) (fg : Nat → Int32) (L : Int32 × Int32 × Int32 × Int64) (O : Int32 × Int32 × Int32 × Int64) (a0 : Int32) (a1 : Int32) (a2 : Int32) (P : Int32 → Prop) : Prop := (((a0 = (0 : Int32)) → ((a1 < a2 → P (0 : Int32)) ∧ (¬ a1 < a2 → P (5 : Int32)))) ∧ (¬ (a0 = (0 : Int32)) → (((a0 = (1 : Int32)) → wp_Pr_unsigned a1 (fun r_4 => wp_Pr_unsigned a2 (fun r_5 => ((r_4 < r_5 → P (0 : Int32)) ∧ (¬ r_4 < r_5 → P (5 : Int32)))))) ∧ (¬ (a0 = (1 : Int32)) → (((a0 = (2 : Int32)) → ((a2 ≤ a1 → P (0 : Int32)) ∧ (¬ a2 ≤ a1 → P (5 : Int32)))) ∧ (¬ (a0 = (2 : Int32)) → (((a0 = (3 : Int32)) → wp_Pr_unsigned a1 (fun r_10 => wp_Pr_unsigned a2 (fun r_11 => ((r_11 ≤ r_10 → P (0 : Int32)) ∧ (¬ r_11 ≤ r_10 → P (5 : Int32)))))) ∧ (¬ (a0 = (3 : Int32)) → (((a0 = (4 : Int32)) → ((a1 = a2 → P (5 : Int32)) ∧ (¬ a1 = a2 → P (0 : Int32)))) ∧ (¬ (a0 = (4 : Int32)) → (((a0 = (6 : Int32)) → ((a1 = a2 → P (0 : Int32)) ∧ (¬ a1 = a2 → P (5 : Int32)))) ∧ (¬ (a0 = (6 : Int32)) → P (3 : Int32)))))))))))))
abbrev rm_Pr_trap : Room := { frames := 1, cells := 0, slots := 0, locals := 20 }
set_option maxHeartbeats 4000000 in
set_option maxRecDepth 100000 in
theorem c_Pr_trap (l : Launch) (D : va_G) (cI : ClassId) (qp : Nat) (qr : Nat) (qh : Nat) (qm : Nat) (qw : Nat) (qu : Nat) (qf : Nat) (ql : Nat) (qo : Nat) (ms : Int32) (mn : Nat) (g : Nat → Int32) (rg : Nat → Int32) (hq : Nat → Int32) (mf : Nat → Int32) (cd : Int32) (fg : Nat → Int32) (L : Int32 × Int32 × Int32 × Int64) (O : Int32 × Int32 × Int32 × Int64) (a0 : Int32) (a1 : Int32) (a2 : Int32) (P : Int32 → Prop) (h : wp_Pr_trap ms mn g rg hq mf cd fg L O a0 a1 a2 P) : Met l y_Pr_trap (zz_ws y_Pr_trap b_Pr_trap 4 (some .int)) rm_Pr_trap (va_Pc [.ref qp, .int a0, .int a1, .int a2] (zz_pr D [(cI, .int)] (wP qp qr qh qm qw qu qf ql qo cI ms mn g rg hq mf cd fg L O))) (vp_Si P) 0 0 (fun _ => False) := by
  refine Met.ofW (cc := b_Pr_trap) (maxL := 4) (ret := (some .int)) (by decide) rfl ?_
  intro p e s m args below meth c s₁ B hml hv
  obtain ⟨rfl, hP, hK⟩ := hv
  have hx := B.exec
  have hb := B.bytes
  have hr := B.returns
  have hts := atoms_spec (ws := (zz_ws y_Pr_trap b_Pr_trap 4 (some .int))) B.pre
  have hown : s.vm.findClass R_Pr = some m.cls := findClass_of_methodNamed B.named
  have hlocks := B.notSynchronized
  have hT := zz_hts hts
  have X : CallFix p m c b_Pr_trap 4 s ([.ref qp, .int a0, .int a1, .int a2] : List Value).toArray (zz_ws y_Pr_trap b_Pr_trap 4 (some .int)) R_Pr := ⟨hx, hb, hml, hown, hts⟩
  have hf0 : 0 + 0 ≤ (headSpec (zz_ws y_Pr_trap b_Pr_trap 4 (some .int)) rm_Pr_trap).room.cells ∧ 0 + 0 ≤ (headSpec (zz_ws y_Pr_trap b_Pr_trap 4 (some .int)) rm_Pr_trap).room.slots := ⟨Nat.le_of_ble_eq_true rfl, Nat.le_of_ble_eq_true rfl⟩
  have hl := lv_entry ([.ref qp, .int a0, .int a1, .int a2]) (n := 4) (Nat.le_of_ble_eq_true rfl)
  rw [lg_entry_eq]
  generalize (lg_sl ([.ref qp, .int a0, .int a1, .int a2]) ++ List.replicate (4 - (lg_sl ([.ref qp, .int a0, .int a1, .int a2])).length) Slot.unset).toArray = ls at hl ⊢
  have hl : lv_has ls 4 [(0, .ref qp), (1, .int a0), (2, .int a1), (3, .int a2)] := hl
  refine lv_iload_n hx hb d_Pr_trap_0 rfl (lv_at hl 1 rfl) ?_
  by_cases c_1 : a0 = (0 : Int32)
  · have h := h.1 c_1
    have h0 := c_1
    refine lv_tableIn (off := 43) (tgt := 44) hx hb d_Pr_trap_1 (by rw [h0]; decide) (by rw [h0]; decide) (by rw [h0]; rfl) (by decide) ?_
    refine lv_iload_n hx hb d_Pr_trap_44 rfl (lv_at hl 2 rfl) ?_
    refine lv_iload_n hx hb d_Pr_trap_45 rfl (lv_at hl 3 rfl) ?_
    refine lv_icmp_lt (tgt := 53) hx hb d_Pr_trap_46 (by decide) (fun c_2 => ?_) (fun c_2 => ?_)
    · skip
      have h := h.1 c_2
      refine lv_iconst (v := 0) hx hb d_Pr_trap_53 (by decide) ?_
      exact W.iret (v := (0 : Int32)) hx hb hr (fun t ht hW => ⟨(0 : Int32),  rfl, h, ht⟩) t_nil d_Pr_trap_54
    · skip
      have h := h.2 c_2
      refine lv_iconst (v := 5) hx hb d_Pr_trap_49 (by decide) ?_
      refine lv_goto (tgt := 54) hx hb d_Pr_trap_50 (by decide) ?_
      exact W.iret (v := (5 : Int32)) hx hb hr (fun t ht hW => ⟨(5 : Int32),  rfl, h, ht⟩) t_nil d_Pr_trap_54
  · have h := h.2 c_1
    by_cases c_3 : a0 = (1 : Int32)
    · have h := h.1 c_3
      have h0 := c_3
      refine lv_tableIn (off := 54) (tgt := 55) hx hb d_Pr_trap_1 (by rw [h0]; decide) (by rw [h0]; decide) (by rw [h0]; rfl) (by decide) ?_
      refine lv_iload_n hx hb d_Pr_trap_55 rfl (lv_at hl 2 rfl) ?_
      refine zz_Sl (As := [.int a1]) (rest := []) X (c_Pr_unsigned l a1 _ h) ⟨rfl, rfl⟩ m_Pr_unsigned k_Pr_208 ⟨Nat.le_of_ble_eq_true rfl, Nat.le_of_ble_eq_true rfl⟩ rfl hl.1 rfl (Nat.le_of_ble_eq_true rfl) d_Pr_trap_56 hf0 (fun r_4 h => ?_)
      refine lv_iload_n hx hb d_Pr_trap_59 rfl (lv_at hl 3 rfl) ?_
      refine zz_Sl (As := [.int a2]) (rest := [.long r_4]) X (c_Pr_unsigned l a2 _ h) ⟨rfl, rfl⟩ m_Pr_unsigned k_Pr_208 ⟨Nat.le_of_ble_eq_true rfl, Nat.le_of_ble_eq_true rfl⟩ rfl hl.1 rfl (Nat.le_of_ble_eq_true rfl) d_Pr_trap_60 hf0 (fun r_5 h => ?_)
      refine W.lcmp hx hb d_Pr_trap_63 ?_
      refine lv_if_lt (tgt := 71) hx hb d_Pr_trap_64 (by decide) (fun c_6 => ?_) (fun c_6 => ?_)
      · have kc_6 := ((lg_cmp_lt _ _).mp c_6)
        have h := h.1 kc_6
        refine lv_iconst (v := 0) hx hb d_Pr_trap_71 (by decide) ?_
        exact W.iret (v := (0 : Int32)) hx hb hr (fun t ht hW => ⟨(0 : Int32),  rfl, h, ht⟩) t_nil d_Pr_trap_72
      · have kc_6 := (fun q => c_6 ((lg_cmp_lt _ _).mpr q))
        have h := h.2 kc_6
        refine lv_iconst (v := 5) hx hb d_Pr_trap_67 (by decide) ?_
        refine lv_goto (tgt := 72) hx hb d_Pr_trap_68 (by decide) ?_
        exact W.iret (v := (5 : Int32)) hx hb hr (fun t ht hW => ⟨(5 : Int32),  rfl, h, ht⟩) t_nil d_Pr_trap_72
    · have h := h.2 c_3
      by_cases c_7 : a0 = (2 : Int32)
      · have h := h.1 c_7
        have h0 := c_7
        refine lv_tableIn (off := 72) (tgt := 73) hx hb d_Pr_trap_1 (by rw [h0]; decide) (by rw [h0]; decide) (by rw [h0]; rfl) (by decide) ?_
        refine lv_iload_n hx hb d_Pr_trap_73 rfl (lv_at hl 2 rfl) ?_
        refine lv_iload_n hx hb d_Pr_trap_74 rfl (lv_at hl 3 rfl) ?_
        refine lv_icmp_ge (tgt := 82) hx hb d_Pr_trap_75 (by decide) (fun c_8 => ?_) (fun c_8 => ?_)
        · skip
          have h := h.1 c_8
          refine lv_iconst (v := 0) hx hb d_Pr_trap_82 (by decide) ?_
          exact W.iret (v := (0 : Int32)) hx hb hr (fun t ht hW => ⟨(0 : Int32),  rfl, h, ht⟩) t_nil d_Pr_trap_83
        · skip
          have h := h.2 c_8
          refine lv_iconst (v := 5) hx hb d_Pr_trap_78 (by decide) ?_
          refine lv_goto (tgt := 83) hx hb d_Pr_trap_79 (by decide) ?_
          exact W.iret (v := (5 : Int32)) hx hb hr (fun t ht hW => ⟨(5 : Int32),  rfl, h, ht⟩) t_nil d_Pr_trap_83
      · have h := h.2 c_7
        by_cases c_9 : a0 = (3 : Int32)
        · have h := h.1 c_9
          have h0 := c_9
          refine lv_tableIn (off := 83) (tgt := 84) hx hb d_Pr_trap_1 (by rw [h0]; decide) (by rw [h0]; decide) (by rw [h0]; rfl) (by decide) ?_
          refine lv_iload_n hx hb d_Pr_trap_84 rfl (lv_at hl 2 rfl) ?_
          refine zz_Sl (As := [.int a1]) (rest := []) X (c_Pr_unsigned l a1 _ h) ⟨rfl, rfl⟩ m_Pr_unsigned k_Pr_208 ⟨Nat.le_of_ble_eq_true rfl, Nat.le_of_ble_eq_true rfl⟩ rfl hl.1 rfl (Nat.le_of_ble_eq_true rfl) d_Pr_trap_85 hf0 (fun r_10 h => ?_)
          refine lv_iload_n hx hb d_Pr_trap_88 rfl (lv_at hl 3 rfl) ?_
          refine zz_Sl (As := [.int a2]) (rest := [.long r_10]) X (c_Pr_unsigned l a2 _ h) ⟨rfl, rfl⟩ m_Pr_unsigned k_Pr_208 ⟨Nat.le_of_ble_eq_true rfl, Nat.le_of_ble_eq_true rfl⟩ rfl hl.1 rfl (Nat.le_of_ble_eq_true rfl) d_Pr_trap_89 hf0 (fun r_11 h => ?_)
          refine W.lcmp hx hb d_Pr_trap_92 ?_
          refine lv_if_ge (tgt := 100) hx hb d_Pr_trap_93 (by decide) (fun c_12 => ?_) (fun c_12 => ?_)
          · have kc_12 := ((lg_cmp_ge _ _).mp c_12)
            have h := h.1 kc_12
            refine lv_iconst (v := 0) hx hb d_Pr_trap_100 (by decide) ?_
            exact W.iret (v := (0 : Int32)) hx hb hr (fun t ht hW => ⟨(0 : Int32),  rfl, h, ht⟩) t_nil d_Pr_trap_101
          · have kc_12 := (fun q => c_12 ((lg_cmp_ge _ _).mpr q))
            have h := h.2 kc_12
            refine lv_iconst (v := 5) hx hb d_Pr_trap_96 (by decide) ?_
            refine lv_goto (tgt := 101) hx hb d_Pr_trap_97 (by decide) ?_
            exact W.iret (v := (5 : Int32)) hx hb hr (fun t ht hW => ⟨(5 : Int32),  rfl, h, ht⟩) t_nil d_Pr_trap_101
        · have h := h.2 c_9
          by_cases c_13 : a0 = (4 : Int32)
          · have h := h.1 c_13
            have h0 := c_13
            refine lv_tableIn (off := 101) (tgt := 102) hx hb d_Pr_trap_1 (by rw [h0]; decide) (by rw [h0]; decide) (by rw [h0]; rfl) (by decide) ?_
            refine lv_iload_n hx hb d_Pr_trap_102 rfl (lv_at hl 2 rfl) ?_
            refine lv_iload_n hx hb d_Pr_trap_103 rfl (lv_at hl 3 rfl) ?_
            refine lv_icmp_ne (tgt := 111) hx hb d_Pr_trap_104 (by decide) (fun c_14 => ?_) (fun c_14 => ?_)
            · skip
              have h := h.2 c_14
              refine lv_iconst (v := 0) hx hb d_Pr_trap_111 (by decide) ?_
              exact W.iret (v := (0 : Int32)) hx hb hr (fun t ht hW => ⟨(0 : Int32),  rfl, h, ht⟩) t_nil d_Pr_trap_112
            · skip
              have h := h.1 c_14
              refine lv_iconst (v := 5) hx hb d_Pr_trap_107 (by decide) ?_
              refine lv_goto (tgt := 112) hx hb d_Pr_trap_108 (by decide) ?_
              exact W.iret (v := (5 : Int32)) hx hb hr (fun t ht hW => ⟨(5 : Int32),  rfl, h, ht⟩) t_nil d_Pr_trap_112
          · have h := h.2 c_13
            by_cases c_15 : a0 = (6 : Int32)
            · have h := h.1 c_15
              have h0 := c_15
              refine lv_tableIn (off := 112) (tgt := 113) hx hb d_Pr_trap_1 (by rw [h0]; decide) (by rw [h0]; decide) (by rw [h0]; rfl) (by decide) ?_
              refine lv_iload_n hx hb d_Pr_trap_113 rfl (lv_at hl 2 rfl) ?_
              refine lv_iload_n hx hb d_Pr_trap_114 rfl (lv_at hl 3 rfl) ?_
              refine lv_icmp_eq (tgt := 122) hx hb d_Pr_trap_115 (by decide) (fun c_16 => ?_) (fun c_16 => ?_)
              · skip
                have h := h.1 c_16
                refine lv_iconst (v := 0) hx hb d_Pr_trap_122 (by decide) ?_
                exact W.iret (v := (0 : Int32)) hx hb hr (fun t ht hW => ⟨(0 : Int32),  rfl, h, ht⟩) t_nil d_Pr_trap_123
              · skip
                have h := h.2 c_16
                refine lv_iconst (v := 5) hx hb d_Pr_trap_118 (by decide) ?_
                refine lv_goto (tgt := 123) hx hb d_Pr_trap_119 (by decide) ?_
                exact W.iret (v := (5 : Int32)) hx hb hr (fun t ht hW => ⟨(5 : Int32),  rfl, h, ht⟩) t_nil d_Pr_trap_123
            · have h := h.2 c_15
              refine zz_swD (tgt := 124) hx hb [0, 1, 2, 3, 4, 6] d_Pr_trap_1 (by decide +kernel) (by decide) (List.forall_mem_cons.mpr ⟨lv_neT (k := 0) c_1 (by decide), List.forall_mem_cons.mpr ⟨lv_neT (k := 1) c_3 (by decide), List.forall_mem_cons.mpr ⟨lv_neT (k := 2) c_7 (by decide), List.forall_mem_cons.mpr ⟨lv_neT (k := 3) c_9 (by decide), List.forall_mem_cons.mpr ⟨lv_neT (k := 4) c_13 (by decide), List.forall_mem_cons.mpr ⟨lv_neT (k := 6) c_15 (by decide), fun _ h9 => nomatch h9⟩⟩⟩⟩⟩⟩) (by decide) ?_
              refine lv_iconst (v := 3) hx hb d_Pr_trap_124 (by decide) ?_
              exact W.iret (v := (3 : Int32)) hx hb hr (fun t ht hW => ⟨(3 : Int32),  rfl, h, ht⟩) t_nil d_Pr_trap_125
def wp_Pr_address (ms : Int32) (mn : Nat) (g : Nat → Int32) (rg : Nat → Int32) (hq : Nat → Int32) (mf : Nat → Int32) (cd : Int32) (fg : Nat → Int32) (L : Int32 × Int32 × Int32 × Int64) (O : Int32 × Int32 × Int32 × Int64) (a0 : Int32) (P : Int32 → Prop) : Prop := wp_Pr_rs a0 (fun r_1 => vp_in r_1 32 ∧ ∀ x_2 : Int32, x_2 = (rg r_1.toNatClampNeg) → wp_Pr_signed a0 (fun r_3 => P (x_2 + r_3)))
abbrev rm_Pr_address : Room := { frames := 1, cells := 0, slots := 0, locals := 20 }
set_option maxHeartbeats 4000000 in
set_option maxRecDepth 100000 in
theorem c_Pr_address (l : Launch) (D : va_G) (cI : ClassId) (qp : Nat) (qr : Nat) (qh : Nat) (qm : Nat) (qw : Nat) (qu : Nat) (qf : Nat) (ql : Nat) (qo : Nat) (ms : Int32) (mn : Nat) (g : Nat → Int32) (rg : Nat → Int32) (hq : Nat → Int32) (mf : Nat → Int32) (cd : Int32) (fg : Nat → Int32) (L : Int32 × Int32 × Int32 × Int64) (O : Int32 × Int32 × Int32 × Int64) (a0 : Int32) (P : Int32 → Prop) (h : wp_Pr_address ms mn g rg hq mf cd fg L O a0 P) : Met l y_Pr_address (zz_ws y_Pr_address b_Pr_address 2 (some .int)) rm_Pr_address (va_Pc [.ref qp, .int a0] (zz_pr D [(cI, .int)] (wP qp qr qh qm qw qu qf ql qo cI ms mn g rg hq mf cd fg L O))) (vp_Si P) 0 0 (fun _ => False) := by
  refine Met.ofW (cc := b_Pr_address) (maxL := 2) (ret := (some .int)) (by decide) rfl ?_
  intro p e s m args below meth c s₁ B hml hv
  obtain ⟨rfl, hP, hK⟩ := hv
  have hx := B.exec
  have hb := B.bytes
  have hr := B.returns
  have hts := atoms_spec (ws := (zz_ws y_Pr_address b_Pr_address 2 (some .int))) B.pre
  have hown : s.vm.findClass R_Pr = some m.cls := findClass_of_methodNamed B.named
  have hlocks := B.notSynchronized
  have hT := zz_hts hts
  have X : CallFix p m c b_Pr_address 2 s ([.ref qp, .int a0] : List Value).toArray (zz_ws y_Pr_address b_Pr_address 2 (some .int)) R_Pr := ⟨hx, hb, hml, hown, hts⟩
  have hf0 : 0 + 0 ≤ (headSpec (zz_ws y_Pr_address b_Pr_address 2 (some .int)) rm_Pr_address).room.cells ∧ 0 + 0 ≤ (headSpec (zz_ws y_Pr_address b_Pr_address 2 (some .int)) rm_Pr_address).room.slots := ⟨Nat.le_of_ble_eq_true rfl, Nat.le_of_ble_eq_true rfl⟩
  have hl := lv_entry ([.ref qp, .int a0]) (n := 2) (Nat.le_of_ble_eq_true rfl)
  rw [lg_entry_eq]
  generalize (lg_sl ([.ref qp, .int a0]) ++ List.replicate (2 - (lg_sl ([.ref qp, .int a0])).length) Slot.unset).toArray = ls at hl ⊢
  have hl : lv_has ls 2 [(0, .ref qp), (1, .int a0)] := hl
  refine lv_aload_n hx hb d_Pr_address_0 rfl (lv_at hl 0 rfl) ?_
  refine g_Pr_9 (v := .ref qr) hx hb hT hown hK hP 0 rfl rfl d_Pr_address_1 ?_
  refine lv_iload_n hx hb d_Pr_address_4 rfl (lv_at hl 1 rfl) ?_
  refine zz_Si (As := [.int a0]) (rest := [.ref qr]) X (c_Pr_rs l a0 _ h) ⟨rfl, rfl⟩ m_Pr_rs k_Pr_83 ⟨Nat.le_of_ble_eq_true rfl, Nat.le_of_ble_eq_true rfl⟩ rfl hl.1 rfl (Nat.le_of_ble_eq_true rfl) d_Pr_address_5 hf0 (fun r_1 h => ?_)
  refine va_iald (f := rg) hx hb hK hP 1 0 rfl rfl h.1 d_Pr_address_8 ?_
  have h := h.2
  refine lv_topi (fun x_2 ex_2 => ?_)
  have h := h x_2 ex_2
  refine lv_iload_n hx hb d_Pr_address_9 rfl (lv_at hl 1 rfl) ?_
  refine zz_Si (As := [.int a0]) (rest := [.int x_2]) X (c_Pr_signed l a0 _ h) ⟨rfl, rfl⟩ m_Pr_signed k_Pr_221 ⟨Nat.le_of_ble_eq_true rfl, Nat.le_of_ble_eq_true rfl⟩ rfl hl.1 rfl (Nat.le_of_ble_eq_true rfl) d_Pr_address_10 hf0 (fun r_3 h => ?_)
  refine lv_iadd hx hb d_Pr_address_13 ?_
  exact W.iret (v := (x_2 + r_3)) hx hb hr (fun t ht hW => ⟨(x_2 + r_3),  rfl, h, ht⟩) t_nil d_Pr_address_14
def wp_Pr_move (ms : Int32) (mn : Nat) (g : Nat → Int32) (rg : Nat → Int32) (hq : Nat → Int32) (mf : Nat → Int32) (cd : Int32) (fg : Nat → Int32) (L : Int32 × Int32 × Int32 × Int64) (O : Int32 × Int32 × Int32 × Int64) (a0 : Int32) (a1 : Int32) (a2 : Int32) (P : ((Nat → Int32) × (Nat → Int32) × (Nat → Int32) × (Nat → Int32) × Int32 × (Nat → Int32) × (Int32 × Int32 × Int32 × Int64) × (Int32 × Int32 × Int32 × Int64)) → Prop) : Prop := zz_bz a2 ∧ P ((upd (upd (upd g 0 a0) 1 a1) 2 a2), rg, hq, mf, cd, fg, L, O)
abbrev rm_Pr_move : Room := { frames := 0, cells := 0, slots := 0, locals := 0 }
set_option maxHeartbeats 4000000 in
set_option maxRecDepth 100000 in
theorem c_Pr_move (l : Launch) (D : va_G) (cI : ClassId) (qp : Nat) (qr : Nat) (qh : Nat) (qm : Nat) (qw : Nat) (qu : Nat) (qf : Nat) (ql : Nat) (qo : Nat) (ms : Int32) (mn : Nat) (g : Nat → Int32) (rg : Nat → Int32) (hq : Nat → Int32) (mf : Nat → Int32) (cd : Int32) (fg : Nat → Int32) (L : Int32 × Int32 × Int32 × Int64) (O : Int32 × Int32 × Int32 × Int64) (a0 : Int32) (a1 : Int32) (a2 : Int32) (P : ((Nat → Int32) × (Nat → Int32) × (Nat → Int32) × (Nat → Int32) × Int32 × (Nat → Int32) × (Int32 × Int32 × Int32 × Int64) × (Int32 × Int32 × Int32 × Int64)) → Prop) (h : wp_Pr_move ms mn g rg hq mf cd fg L O a0 a1 a2 P) (sz : Nat) : Met l y_Pr_move (zz_ws y_Pr_move b_Pr_move 4 none) rm_Pr_move (va_Pc [.ref qp, .int a0, .int a1, .int a2] (zz_pw D [(cI, .int)] (wP qp qr qh qm qw qu qf ql qo cI ms mn g rg hq mf cd fg L O) sz)) (va_Qv P (zz_qw D (fun u => wP qp qr qh qm qw qu qf ql qo cI ms mn u.1 u.2.1 u.2.2.1 u.2.2.2.1 u.2.2.2.2.1 u.2.2.2.2.2.1 u.2.2.2.2.2.2.1 u.2.2.2.2.2.2.2) (va_A (wP qp qr qh qm qw qu qf ql qo cI ms mn g rg hq mf cd fg L O) sz)) (va_A (wP qp qr qh qm qw qu qf ql qo cI ms mn g rg hq mf cd fg L O) sz)) 0 0 (va_A (wP qp qr qh qm qw qu qf ql qo cI ms mn g rg hq mf cd fg L O) sz) := by
  refine Met.ofW (cc := b_Pr_move) (maxL := 4) (ret := none) (by decide) rfl ?_
  intro p e s m args below meth c s₁ B hml hv
  obtain ⟨rfl, hsz, hP, hK, hD0⟩ := hv
  have hx := B.exec
  have hb := B.bytes
  have hr := B.returns
  have hts := atoms_spec (ws := (zz_ws y_Pr_move b_Pr_move 4 none)) B.pre
  have hown : s.vm.findClass R_Pr = some m.cls := findClass_of_methodNamed B.named
  have hlocks := B.notSynchronized
  have hT := zz_hts hts
  have X : CallFix p m c b_Pr_move 4 s ([.ref qp, .int a0, .int a1, .int a2] : List Value).toArray (zz_ws y_Pr_move b_Pr_move 4 none) R_Pr := ⟨hx, hb, hml, hown, hts⟩
  have hf0 : 0 + 0 ≤ (headSpec (zz_ws y_Pr_move b_Pr_move 4 none) rm_Pr_move).room.cells ∧ 0 + 0 ≤ (headSpec (zz_ws y_Pr_move b_Pr_move 4 none) rm_Pr_move).room.slots := ⟨Nat.le_of_ble_eq_true rfl, Nat.le_of_ble_eq_true rfl⟩
  subst hsz
  have hD := hD0.self (sz := s.heap.size)
  generalize hAe : va_A (wP qp qr qh qm qw qu qf ql qo cI ms mn g rg hq mf cd fg L O) s.heap.size = A at hD ⊢
  have hA : ∀ q : Nat, s.heap.size ≤ q → A q := fun q h => by rw [← hAe]; exact Or.inr h
  have hS : va_S A s.heap s.heap [] := va_S.rf
  have hl := lv_entry ([.ref qp, .int a0, .int a1, .int a2]) (n := 4) (Nat.le_of_ble_eq_true rfl)
  rw [lg_entry_eq]
  generalize (lg_sl ([.ref qp, .int a0, .int a1, .int a2]) ++ List.replicate (4 - (lg_sl ([.ref qp, .int a0, .int a1, .int a2])).length) Slot.unset).toArray = ls at hl ⊢
  have hl : lv_has ls 4 [(0, .ref qp), (1, .int a0), (2, .int a1), (3, .int a2)] := hl
  refine lv_aload_n hx hb d_Pr_move_0 rfl (lv_at hl 0 rfl) ?_
  refine lv_iload_n hx hb d_Pr_move_1 rfl (lv_at hl 1 rfl) ?_
  refine p_Pr_48 hx hb hT hown hK hP hD hS 0 rfl rfl d_Pr_move_2 (fun H locs (hP : va_P D vwCl (wP qp qr qh qm qw qu qf ql qo cI ms mn (upd g 0 a0) rg hq mf cd fg L O) H) (hD : va_D A (wP qp qr qh qm qw qu qf ql qo cI ms mn (upd g 0 a0) rg hq mf cd fg L O)) hS => ?_)
  refine lv_aload_n hx hb d_Pr_move_5 rfl (lv_at hl 0 rfl) ?_
  refine lv_iload_n hx hb d_Pr_move_6 rfl (lv_at hl 2 rfl) ?_
  refine p_Pr_29 hx hb hT hown hK hP hD hS 0 rfl rfl d_Pr_move_7 (fun H locs (hP : va_P D vwCl (wP qp qr qh qm qw qu qf ql qo cI ms mn (upd (upd g 0 a0) 1 a1) rg hq mf cd fg L O) H) (hD : va_D A (wP qp qr qh qm qw qu qf ql qo cI ms mn (upd (upd g 0 a0) 1 a1) rg hq mf cd fg L O)) hS => ?_)
  refine lv_aload_n hx hb d_Pr_move_10 rfl (lv_at hl 0 rfl) ?_
  refine lv_iload_n hx hb d_Pr_move_11 rfl (lv_at hl 3 rfl) ?_
  refine p_Pr_68 hx hb hT hown hK hP hD hS 0 rfl rfl h.1 d_Pr_move_12 (fun H locs (hP : va_P D vwCl (wP qp qr qh qm qw qu qf ql qo cI ms mn (upd (upd (upd g 0 a0) 1 a1) 2 a2) rg hq mf cd fg L O) H) (hD : va_D A (wP qp qr qh qm qw qu qf ql qo cI ms mn (upd (upd (upd g 0 a0) 1 a1) 2 a2) rg hq mf cd fg L O)) hS => ?_)
  have h := h.2
  exact W.vret hx hb hr (fun t ht hW => ⟨⟨((upd (upd (upd g 0 a0) 1 a1) 2 a2), rg, hq, mf, cd, fg, L, O), rfl, h, by rw [ht]; exact hP, hD⟩, hS.F ht⟩) hS.2.2 d_Pr_move_15
def wp_Pr_startAt (ms : Int32) (mn : Nat) (g : Nat → Int32) (rg : Nat → Int32) (hq : Nat → Int32) (mf : Nat → Int32) (cd : Int32) (fg : Nat → Int32) (L : Int32 × Int32 × Int32 × Int64) (O : Int32 × Int32 × Int32 × Int64) (a0 : Int32) (P : ((Nat → Int32) × (Nat → Int32) × (Nat → Int32) × (Nat → Int32) × Int32 × (Nat → Int32) × (Int32 × Int32 × Int32 × Int64) × (Int32 × Int32 × Int32 × Int64)) → Prop) : Prop := wp_Pr_move ms mn g rg hq mf cd fg L O a0 (a0 + (4 : Int32)) (0 : Int32) (fun u_1 => P ((upd (upd u_1.1 3 (0 : Int32)) 5 (0 : Int32)), u_1.2.1, u_1.2.2.1, u_1.2.2.2.1, u_1.2.2.2.2.1, u_1.2.2.2.2.2.1, u_1.2.2.2.2.2.2.1, u_1.2.2.2.2.2.2.2))
abbrev rm_Pr_startAt : Room := { frames := 1, cells := 0, slots := 0, locals := 23 }
set_option maxHeartbeats 4000000 in
set_option maxRecDepth 100000 in
theorem c_Pr_startAt (l : Launch) (D : va_G) (cI : ClassId) (qp : Nat) (qr : Nat) (qh : Nat) (qm : Nat) (qw : Nat) (qu : Nat) (qf : Nat) (ql : Nat) (qo : Nat) (ms : Int32) (mn : Nat) (g : Nat → Int32) (rg : Nat → Int32) (hq : Nat → Int32) (mf : Nat → Int32) (cd : Int32) (fg : Nat → Int32) (L : Int32 × Int32 × Int32 × Int64) (O : Int32 × Int32 × Int32 × Int64) (a0 : Int32) (P : ((Nat → Int32) × (Nat → Int32) × (Nat → Int32) × (Nat → Int32) × Int32 × (Nat → Int32) × (Int32 × Int32 × Int32 × Int64) × (Int32 × Int32 × Int32 × Int64)) → Prop) (h : wp_Pr_startAt ms mn g rg hq mf cd fg L O a0 P) (sz : Nat) : Met l y_Pr_startAt (zz_ws y_Pr_startAt b_Pr_startAt 2 none) rm_Pr_startAt (va_Pc [.ref qp, .int a0] (zz_pw D [(cI, .int)] (wP qp qr qh qm qw qu qf ql qo cI ms mn g rg hq mf cd fg L O) sz)) (va_Qv P (zz_qw D (fun u => wP qp qr qh qm qw qu qf ql qo cI ms mn u.1 u.2.1 u.2.2.1 u.2.2.2.1 u.2.2.2.2.1 u.2.2.2.2.2.1 u.2.2.2.2.2.2.1 u.2.2.2.2.2.2.2) (va_A (wP qp qr qh qm qw qu qf ql qo cI ms mn g rg hq mf cd fg L O) sz)) (va_A (wP qp qr qh qm qw qu qf ql qo cI ms mn g rg hq mf cd fg L O) sz)) 0 0 (va_A (wP qp qr qh qm qw qu qf ql qo cI ms mn g rg hq mf cd fg L O) sz) := by
  refine Met.ofW (cc := b_Pr_startAt) (maxL := 2) (ret := none) (by decide) rfl ?_
  intro p e s m args below meth c s₁ B hml hv
  obtain ⟨rfl, hsz, hP, hK, hD0⟩ := hv
  have hx := B.exec
  have hb := B.bytes
  have hr := B.returns
  have hts := atoms_spec (ws := (zz_ws y_Pr_startAt b_Pr_startAt 2 none)) B.pre
  have hown : s.vm.findClass R_Pr = some m.cls := findClass_of_methodNamed B.named
  have hlocks := B.notSynchronized
  have hT := zz_hts hts
  have X : CallFix p m c b_Pr_startAt 2 s ([.ref qp, .int a0] : List Value).toArray (zz_ws y_Pr_startAt b_Pr_startAt 2 none) R_Pr := ⟨hx, hb, hml, hown, hts⟩
  have hf0 : 0 + 0 ≤ (headSpec (zz_ws y_Pr_startAt b_Pr_startAt 2 none) rm_Pr_startAt).room.cells ∧ 0 + 0 ≤ (headSpec (zz_ws y_Pr_startAt b_Pr_startAt 2 none) rm_Pr_startAt).room.slots := ⟨Nat.le_of_ble_eq_true rfl, Nat.le_of_ble_eq_true rfl⟩
  subst hsz
  have hD := hD0.self (sz := s.heap.size)
  generalize hAe : va_A (wP qp qr qh qm qw qu qf ql qo cI ms mn g rg hq mf cd fg L O) s.heap.size = A at hD ⊢
  have hA : ∀ q : Nat, s.heap.size ≤ q → A q := fun q h => by rw [← hAe]; exact Or.inr h
  have hS : va_S A s.heap s.heap [] := va_S.rf
  have hl := lv_entry ([.ref qp, .int a0]) (n := 2) (Nat.le_of_ble_eq_true rfl)
  rw [lg_entry_eq]
  generalize (lg_sl ([.ref qp, .int a0]) ++ List.replicate (2 - (lg_sl ([.ref qp, .int a0])).length) Slot.unset).toArray = ls at hl ⊢
  have hl : lv_has ls 2 [(0, .ref qp), (1, .int a0)] := hl
  refine lv_aload_n hx hb d_Pr_startAt_0 rfl (lv_at hl 0 rfl) ?_
  refine lv_iload_n hx hb d_Pr_startAt_1 rfl (lv_at hl 1 rfl) ?_
  refine lv_iload_n hx hb d_Pr_startAt_2 rfl (lv_at hl 1 rfl) ?_
  refine lv_iconst (v := 4) hx hb d_Pr_startAt_3 (by decide) ?_
  refine lv_iadd hx hb d_Pr_startAt_4 ?_
  refine lv_iconst (v := 0) hx hb d_Pr_startAt_5 (by decide) ?_
  refine zz_Wv (As := [.int a0, .int (a0 + (4 : Int32)), .int (0 : Int32)]) (rest := []) (wc := wP qp qr qh qm qw qu qf ql qo cI ms mn g rg hq mf cd fg L O) (wr := []) X hK hP hD hS hA (c_Pr_move l D cI qp qr qh qm qw qu qf ql qo ms mn g rg hq mf cd fg L O a0 (a0 + (4 : Int32)) (0 : Int32) _ h _) ⟨rfl, rfl⟩ m_Pr_move k_Pr_37 ⟨Nat.le_of_ble_eq_true rfl, Nat.le_of_ble_eq_true rfl⟩ [0, 1, 2, 3, 4, 5, 6, 7, 8] [] rfl rfl (by decide) (by decide) (by decide) 4 0 rfl rfl rfl rfl hl.1 rfl (Nat.le_of_ble_eq_true rfl) d_Pr_startAt_6 hf0 (fun u_1 H locs h hP hD hS => ?_)
  have hP : va_P D vwCl (wP qp qr qh qm qw qu qf ql qo cI ms mn u_1.1 u_1.2.1 u_1.2.2.1 u_1.2.2.2.1 u_1.2.2.2.2.1 u_1.2.2.2.2.2.1 u_1.2.2.2.2.2.2.1 u_1.2.2.2.2.2.2.2) H := hP.sub [0, 1, 2, 3, 4, 5, 6, 7, 8] rfl
  have hD : va_D A (wP qp qr qh qm qw qu qf ql qo cI ms mn u_1.1 u_1.2.1 u_1.2.2.1 u_1.2.2.2.1 u_1.2.2.2.2.1 u_1.2.2.2.2.2.1 u_1.2.2.2.2.2.2.1 u_1.2.2.2.2.2.2.2) := hD.sub [0, 1, 2, 3, 4, 5, 6, 7, 8] (by decide) rfl
  refine lv_aload_n hx hb d_Pr_startAt_9 rfl (lv_at hl 0 rfl) ?_
  refine lv_iconst (v := 0) hx hb d_Pr_startAt_10 (by decide) ?_
  refine p_Pr_41 hx hb hT hown hK hP hD hS 0 rfl rfl (Or.inl rfl) d_Pr_startAt_11 (fun H locs (hP : va_P D vwCl (wP qp qr qh qm qw qu qf ql qo cI ms mn (upd u_1.1 3 (0 : Int32)) u_1.2.1 u_1.2.2.1 u_1.2.2.2.1 u_1.2.2.2.2.1 u_1.2.2.2.2.2.1 u_1.2.2.2.2.2.2.1 u_1.2.2.2.2.2.2.2) H) (hD : va_D A (wP qp qr qh qm qw qu qf ql qo cI ms mn (upd u_1.1 3 (0 : Int32)) u_1.2.1 u_1.2.2.1 u_1.2.2.2.1 u_1.2.2.2.2.1 u_1.2.2.2.2.2.1 u_1.2.2.2.2.2.2.1 u_1.2.2.2.2.2.2.2)) hS => ?_)
  refine lv_aload_n hx hb d_Pr_startAt_14 rfl (lv_at hl 0 rfl) ?_
  refine lv_iconst (v := 0) hx hb d_Pr_startAt_15 (by decide) ?_
  refine p_Pr_45 hx hb hT hown hK hP hD hS 0 rfl rfl d_Pr_startAt_16 (fun H locs (hP : va_P D vwCl (wP qp qr qh qm qw qu qf ql qo cI ms mn (upd (upd u_1.1 3 (0 : Int32)) 5 (0 : Int32)) u_1.2.1 u_1.2.2.1 u_1.2.2.2.1 u_1.2.2.2.2.1 u_1.2.2.2.2.2.1 u_1.2.2.2.2.2.2.1 u_1.2.2.2.2.2.2.2) H) (hD : va_D A (wP qp qr qh qm qw qu qf ql qo cI ms mn (upd (upd u_1.1 3 (0 : Int32)) 5 (0 : Int32)) u_1.2.1 u_1.2.2.1 u_1.2.2.2.1 u_1.2.2.2.2.1 u_1.2.2.2.2.2.1 u_1.2.2.2.2.2.2.1 u_1.2.2.2.2.2.2.2)) hS => ?_)
  exact W.vret hx hb hr (fun t ht hW => ⟨⟨((upd (upd u_1.1 3 (0 : Int32)) 5 (0 : Int32)), u_1.2.1, u_1.2.2.1, u_1.2.2.2.1, u_1.2.2.2.2.1, u_1.2.2.2.2.2.1, u_1.2.2.2.2.2.2.1, u_1.2.2.2.2.2.2.2), rfl, h, by rw [ht]; exact hP, hD⟩, hS.F ht⟩) hS.2.2 d_Pr_startAt_19
def wp_Pr_write (ms : Int32) (mn : Nat) (g : Nat → Int32) (rg : Nat → Int32) (hq : Nat → Int32) (mf : Nat → Int32) (cd : Int32) (fg : Nat → Int32) (L : Int32 × Int32 × Int32 × Int64) (O : Int32 × Int32 × Int32 × Int64) (a0 : Int32) (a1 : Int32) (P : ((Nat → Int32) × (Nat → Int32) × (Nat → Int32) × (Nat → Int32) × Int32 × (Nat → Int32) × (Int32 × Int32 × Int32 × Int64) × (Int32 × Int32 × Int32 × Int64)) → Prop) : Prop := ((a0 = (0 : Int32) → P (g, rg, hq, mf, cd, fg, L, O)) ∧ (¬ a0 = (0 : Int32) → vp_in (a0 &&& (31 : Int32)) 32 ∧ P (g, (upd rg (a0 &&& (31 : Int32)).toNatClampNeg a1), hq, mf, cd, fg, L, O)))
abbrev rm_Pr_write : Room := { frames := 0, cells := 0, slots := 0, locals := 0 }
set_option maxHeartbeats 4000000 in
set_option maxRecDepth 100000 in
theorem c_Pr_write (l : Launch) (D : va_G) (cI : ClassId) (qp : Nat) (qr : Nat) (qh : Nat) (qm : Nat) (qw : Nat) (qu : Nat) (qf : Nat) (ql : Nat) (qo : Nat) (ms : Int32) (mn : Nat) (g : Nat → Int32) (rg : Nat → Int32) (hq : Nat → Int32) (mf : Nat → Int32) (cd : Int32) (fg : Nat → Int32) (L : Int32 × Int32 × Int32 × Int64) (O : Int32 × Int32 × Int32 × Int64) (a0 : Int32) (a1 : Int32) (P : ((Nat → Int32) × (Nat → Int32) × (Nat → Int32) × (Nat → Int32) × Int32 × (Nat → Int32) × (Int32 × Int32 × Int32 × Int64) × (Int32 × Int32 × Int32 × Int64)) → Prop) (h : wp_Pr_write ms mn g rg hq mf cd fg L O a0 a1 P) (sz : Nat) : Met l y_Pr_write (zz_ws y_Pr_write b_Pr_write 3 none) rm_Pr_write (va_Pc [.ref qp, .int a0, .int a1] (zz_pw D [(cI, .int)] (wP qp qr qh qm qw qu qf ql qo cI ms mn g rg hq mf cd fg L O) sz)) (va_Qv P (zz_qw D (fun u => wP qp qr qh qm qw qu qf ql qo cI ms mn u.1 u.2.1 u.2.2.1 u.2.2.2.1 u.2.2.2.2.1 u.2.2.2.2.2.1 u.2.2.2.2.2.2.1 u.2.2.2.2.2.2.2) (va_A (wP qp qr qh qm qw qu qf ql qo cI ms mn g rg hq mf cd fg L O) sz)) (va_A (wP qp qr qh qm qw qu qf ql qo cI ms mn g rg hq mf cd fg L O) sz)) 0 0 (va_A (wP qp qr qh qm qw qu qf ql qo cI ms mn g rg hq mf cd fg L O) sz) := by
  refine Met.ofW (cc := b_Pr_write) (maxL := 3) (ret := none) (by decide) rfl ?_
  intro p e s m args below meth c s₁ B hml hv
  obtain ⟨rfl, hsz, hP, hK, hD0⟩ := hv
  have hx := B.exec
  have hb := B.bytes
  have hr := B.returns
  have hts := atoms_spec (ws := (zz_ws y_Pr_write b_Pr_write 3 none)) B.pre
  have hown : s.vm.findClass R_Pr = some m.cls := findClass_of_methodNamed B.named
  have hlocks := B.notSynchronized
  have hT := zz_hts hts
  have X : CallFix p m c b_Pr_write 3 s ([.ref qp, .int a0, .int a1] : List Value).toArray (zz_ws y_Pr_write b_Pr_write 3 none) R_Pr := ⟨hx, hb, hml, hown, hts⟩
  have hf0 : 0 + 0 ≤ (headSpec (zz_ws y_Pr_write b_Pr_write 3 none) rm_Pr_write).room.cells ∧ 0 + 0 ≤ (headSpec (zz_ws y_Pr_write b_Pr_write 3 none) rm_Pr_write).room.slots := ⟨Nat.le_of_ble_eq_true rfl, Nat.le_of_ble_eq_true rfl⟩
  subst hsz
  have hD := hD0.self (sz := s.heap.size)
  generalize hAe : va_A (wP qp qr qh qm qw qu qf ql qo cI ms mn g rg hq mf cd fg L O) s.heap.size = A at hD ⊢
  have hA : ∀ q : Nat, s.heap.size ≤ q → A q := fun q h => by rw [← hAe]; exact Or.inr h
  have hS : va_S A s.heap s.heap [] := va_S.rf
  have hl := lv_entry ([.ref qp, .int a0, .int a1]) (n := 3) (Nat.le_of_ble_eq_true rfl)
  rw [lg_entry_eq]
  generalize (lg_sl ([.ref qp, .int a0, .int a1]) ++ List.replicate (3 - (lg_sl ([.ref qp, .int a0, .int a1])).length) Slot.unset).toArray = ls at hl ⊢
  have hl : lv_has ls 3 [(0, .ref qp), (1, .int a0), (2, .int a1)] := hl
  refine lv_iload_n hx hb d_Pr_write_0 rfl (lv_at hl 1 rfl) ?_
  refine lv_if_eq (tgt := 14) hx hb d_Pr_write_1 (by decide) (fun c_1 => ?_) (fun c_1 => ?_)
  · skip
    have h := h.1 c_1
    exact W.vret hx hb hr (fun t ht hW => ⟨⟨(g, rg, hq, mf, cd, fg, L, O), rfl, h, by rw [ht]; exact hP, hD⟩, hS.F ht⟩) hS.2.2 d_Pr_write_14
  · skip
    have h := h.2 c_1
    refine lv_aload_n hx hb d_Pr_write_4 rfl (lv_at hl 0 rfl) ?_
    refine g_Pr_9 (v := .ref qr) hx hb hT hown hK hP 0 rfl rfl d_Pr_write_5 ?_
    refine lv_iload_n hx hb d_Pr_write_8 rfl (lv_at hl 1 rfl) ?_
    refine lv_bipush (v := 31) hx hb d_Pr_write_9 (by decide) ?_
    refine lv_iand hx hb d_Pr_write_11 ?_
    refine lv_iload_n hx hb d_Pr_write_12 rfl (lv_at hl 2 rfl) ?_
    refine va_iast (f := rg) hx hb hK hP hD hS 1 0 rfl rfl h.1 d_Pr_write_13 (fun H locs (hP : va_P D vwCl (wP qp qr qh qm qw qu qf ql qo cI ms mn g (upd rg (a0 &&& (31 : Int32)).toNatClampNeg a1) hq mf cd fg L O) H) (hD : va_D A (wP qp qr qh qm qw qu qf ql qo cI ms mn g (upd rg (a0 &&& (31 : Int32)).toNatClampNeg a1) hq mf cd fg L O)) hS => ?_)
    have h := h.2
    exact W.vret hx hb hr (fun t ht hW => ⟨⟨(g, (upd rg (a0 &&& (31 : Int32)).toNatClampNeg a1), hq, mf, cd, fg, L, O), rfl, h, by rw [ht]; exact hP, hD⟩, hS.F ht⟩) hS.2.2 d_Pr_write_14
def wp_Pr_result (ms : Int32) (mn : Nat) (g : Nat → Int32) (rg : Nat → Int32) (hq : Nat → Int32) (mf : Nat → Int32) (cd : Int32) (fg : Nat → Int32) (L : Int32 × Int32 × Int32 × Int64) (O : Int32 × Int32 × Int32 × Int64) (a0 : Int32) (a1 : Int32) (P : Int32 → ((Nat → Int32) × (Nat → Int32) × (Nat → Int32) × (Nat → Int32) × Int32 × (Nat → Int32) × (Int32 × Int32 × Int32 × Int64) × (Int32 × Int32 × Int32 × Int64)) → Prop) : Prop := wp_Pr_write ms mn g rg hq mf cd fg L O a0 a1 (fun u_1 => P (0 : Int32) (u_1.1, u_1.2.1, u_1.2.2.1, u_1.2.2.2.1, u_1.2.2.2.2.1, u_1.2.2.2.2.2.1, u_1.2.2.2.2.2.2.1, u_1.2.2.2.2.2.2.2))
abbrev rm_Pr_result : Room := { frames := 1, cells := 0, slots := 0, locals := 22 }
set_option maxHeartbeats 4000000 in
set_option maxRecDepth 100000 in
theorem c_Pr_result (l : Launch) (D : va_G) (cI : ClassId) (qp : Nat) (qr : Nat) (qh : Nat) (qm : Nat) (qw : Nat) (qu : Nat) (qf : Nat) (ql : Nat) (qo : Nat) (ms : Int32) (mn : Nat) (g : Nat → Int32) (rg : Nat → Int32) (hq : Nat → Int32) (mf : Nat → Int32) (cd : Int32) (fg : Nat → Int32) (L : Int32 × Int32 × Int32 × Int64) (O : Int32 × Int32 × Int32 × Int64) (a0 : Int32) (a1 : Int32) (P : Int32 → ((Nat → Int32) × (Nat → Int32) × (Nat → Int32) × (Nat → Int32) × Int32 × (Nat → Int32) × (Int32 × Int32 × Int32 × Int64) × (Int32 × Int32 × Int32 × Int64)) → Prop) (h : wp_Pr_result ms mn g rg hq mf cd fg L O a0 a1 P) (sz : Nat) : Met l y_Pr_result (zz_ws y_Pr_result b_Pr_result 3 (some .int)) rm_Pr_result (va_Pc [.ref qp, .int a0, .int a1] (zz_pw D [(cI, .int)] (wP qp qr qh qm qw qu qf ql qo cI ms mn g rg hq mf cd fg L O) sz)) (va_Qi P (zz_qw D (fun u => wP qp qr qh qm qw qu qf ql qo cI ms mn u.1 u.2.1 u.2.2.1 u.2.2.2.1 u.2.2.2.2.1 u.2.2.2.2.2.1 u.2.2.2.2.2.2.1 u.2.2.2.2.2.2.2) (va_A (wP qp qr qh qm qw qu qf ql qo cI ms mn g rg hq mf cd fg L O) sz)) (va_A (wP qp qr qh qm qw qu qf ql qo cI ms mn g rg hq mf cd fg L O) sz)) 0 0 (va_A (wP qp qr qh qm qw qu qf ql qo cI ms mn g rg hq mf cd fg L O) sz) := by
  refine Met.ofW (cc := b_Pr_result) (maxL := 3) (ret := (some .int)) (by decide) rfl ?_
  intro p e s m args below meth c s₁ B hml hv
  obtain ⟨rfl, hsz, hP, hK, hD0⟩ := hv
  have hx := B.exec
  have hb := B.bytes
  have hr := B.returns
  have hts := atoms_spec (ws := (zz_ws y_Pr_result b_Pr_result 3 (some .int))) B.pre
  have hown : s.vm.findClass R_Pr = some m.cls := findClass_of_methodNamed B.named
  have hlocks := B.notSynchronized
  have hT := zz_hts hts
  have X : CallFix p m c b_Pr_result 3 s ([.ref qp, .int a0, .int a1] : List Value).toArray (zz_ws y_Pr_result b_Pr_result 3 (some .int)) R_Pr := ⟨hx, hb, hml, hown, hts⟩
  have hf0 : 0 + 0 ≤ (headSpec (zz_ws y_Pr_result b_Pr_result 3 (some .int)) rm_Pr_result).room.cells ∧ 0 + 0 ≤ (headSpec (zz_ws y_Pr_result b_Pr_result 3 (some .int)) rm_Pr_result).room.slots := ⟨Nat.le_of_ble_eq_true rfl, Nat.le_of_ble_eq_true rfl⟩
  subst hsz
  have hD := hD0.self (sz := s.heap.size)
  generalize hAe : va_A (wP qp qr qh qm qw qu qf ql qo cI ms mn g rg hq mf cd fg L O) s.heap.size = A at hD ⊢
  have hA : ∀ q : Nat, s.heap.size ≤ q → A q := fun q h => by rw [← hAe]; exact Or.inr h
  have hS : va_S A s.heap s.heap [] := va_S.rf
  have hl := lv_entry ([.ref qp, .int a0, .int a1]) (n := 3) (Nat.le_of_ble_eq_true rfl)
  rw [lg_entry_eq]
  generalize (lg_sl ([.ref qp, .int a0, .int a1]) ++ List.replicate (3 - (lg_sl ([.ref qp, .int a0, .int a1])).length) Slot.unset).toArray = ls at hl ⊢
  have hl : lv_has ls 3 [(0, .ref qp), (1, .int a0), (2, .int a1)] := hl
  refine lv_aload_n hx hb d_Pr_result_0 rfl (lv_at hl 0 rfl) ?_
  refine lv_iload_n hx hb d_Pr_result_1 rfl (lv_at hl 1 rfl) ?_
  refine lv_iload_n hx hb d_Pr_result_2 rfl (lv_at hl 2 rfl) ?_
  refine zz_Wv (As := [.int a0, .int a1]) (rest := []) (wc := wP qp qr qh qm qw qu qf ql qo cI ms mn g rg hq mf cd fg L O) (wr := []) X hK hP hD hS hA (c_Pr_write l D cI qp qr qh qm qw qu qf ql qo ms mn g rg hq mf cd fg L O a0 a1 _ h _) ⟨rfl, rfl⟩ m_Pr_write k_Pr_245 ⟨Nat.le_of_ble_eq_true rfl, Nat.le_of_ble_eq_true rfl⟩ [0, 1, 2, 3, 4, 5, 6, 7, 8] [] rfl rfl (by decide) (by decide) (by decide) 4 0 rfl rfl rfl rfl hl.1 rfl (Nat.le_of_ble_eq_true rfl) d_Pr_result_3 hf0 (fun u_1 H locs h hP hD hS => ?_)
  have hP : va_P D vwCl (wP qp qr qh qm qw qu qf ql qo cI ms mn u_1.1 u_1.2.1 u_1.2.2.1 u_1.2.2.2.1 u_1.2.2.2.2.1 u_1.2.2.2.2.2.1 u_1.2.2.2.2.2.2.1 u_1.2.2.2.2.2.2.2) H := hP.sub [0, 1, 2, 3, 4, 5, 6, 7, 8] rfl
  have hD : va_D A (wP qp qr qh qm qw qu qf ql qo cI ms mn u_1.1 u_1.2.1 u_1.2.2.1 u_1.2.2.2.1 u_1.2.2.2.2.1 u_1.2.2.2.2.2.1 u_1.2.2.2.2.2.2.1 u_1.2.2.2.2.2.2.2) := hD.sub [0, 1, 2, 3, 4, 5, 6, 7, 8] (by decide) rfl
  refine lv_iconst (v := 0) hx hb d_Pr_result_6 (by decide) ?_
  exact W.iret (v := (0 : Int32)) hx hb hr (fun t ht hW => ⟨⟨(0 : Int32), (u_1.1, u_1.2.1, u_1.2.2.1, u_1.2.2.2.1, u_1.2.2.2.2.1, u_1.2.2.2.2.2.1, u_1.2.2.2.2.2.2.1, u_1.2.2.2.2.2.2.2), rfl, h, by rw [ht]; exact hP, hD⟩, hS.F ht⟩) hS.2.2 d_Pr_result_7
def wp_Pr_moveIf (ms : Int32) (mn : Nat) (g : Nat → Int32) (rg : Nat → Int32) (hq : Nat → Int32) (mf : Nat → Int32) (cd : Int32) (fg : Nat → Int32) (L : Int32 × Int32 × Int32 × Int64) (O : Int32 × Int32 × Int32 × Int64) (a0 : Int32) (a1 : Int32) (P : Int32 → ((Nat → Int32) × (Nat → Int32) × (Nat → Int32) × (Nat → Int32) × Int32 × (Nat → Int32) × (Int32 × Int32 × Int32 × Int64) × (Int32 × Int32 × Int32 × Int64)) → Prop) : Prop := ((a1 = (0 : Int32) → P (0 : Int32) (g, rg, hq, mf, cd, fg, L, O)) ∧ (¬ a1 = (0 : Int32) → wp_Pr_rd a0 (fun r_2 => wp_Pr_rs a0 (fun r_3 => vp_in r_3 32 ∧ ∀ x_4 : Int32, x_4 = (rg r_3.toNatClampNeg) → wp_Pr_result ms mn g rg hq mf cd fg L O r_2 x_4 (fun r_6 u_5 => P r_6 (u_5.1, u_5.2.1, u_5.2.2.1, u_5.2.2.2.1, u_5.2.2.2.2.1, u_5.2.2.2.2.2.1, u_5.2.2.2.2.2.2.1, u_5.2.2.2.2.2.2.2))))))
abbrev rm_Pr_moveIf : Room := { frames := 2, cells := 0, slots := 0, locals := 44 }
set_option maxHeartbeats 4000000 in
set_option maxRecDepth 100000 in
theorem c_Pr_moveIf (l : Launch) (D : va_G) (cI : ClassId) (qp : Nat) (qr : Nat) (qh : Nat) (qm : Nat) (qw : Nat) (qu : Nat) (qf : Nat) (ql : Nat) (qo : Nat) (ms : Int32) (mn : Nat) (g : Nat → Int32) (rg : Nat → Int32) (hq : Nat → Int32) (mf : Nat → Int32) (cd : Int32) (fg : Nat → Int32) (L : Int32 × Int32 × Int32 × Int64) (O : Int32 × Int32 × Int32 × Int64) (a0 : Int32) (a1 : Int32) (P : Int32 → ((Nat → Int32) × (Nat → Int32) × (Nat → Int32) × (Nat → Int32) × Int32 × (Nat → Int32) × (Int32 × Int32 × Int32 × Int64) × (Int32 × Int32 × Int32 × Int64)) → Prop) (h : wp_Pr_moveIf ms mn g rg hq mf cd fg L O a0 a1 P) (sz : Nat) : Met l y_Pr_moveIf (zz_ws y_Pr_moveIf b_Pr_moveIf 3 (some .int)) rm_Pr_moveIf (va_Pc [.ref qp, .int a0, .int a1] (zz_pw D [(cI, .int)] (wP qp qr qh qm qw qu qf ql qo cI ms mn g rg hq mf cd fg L O) sz)) (va_Qi P (zz_qw D (fun u => wP qp qr qh qm qw qu qf ql qo cI ms mn u.1 u.2.1 u.2.2.1 u.2.2.2.1 u.2.2.2.2.1 u.2.2.2.2.2.1 u.2.2.2.2.2.2.1 u.2.2.2.2.2.2.2) (va_A (wP qp qr qh qm qw qu qf ql qo cI ms mn g rg hq mf cd fg L O) sz)) (va_A (wP qp qr qh qm qw qu qf ql qo cI ms mn g rg hq mf cd fg L O) sz)) 0 0 (va_A (wP qp qr qh qm qw qu qf ql qo cI ms mn g rg hq mf cd fg L O) sz) := by
  refine Met.ofW (cc := b_Pr_moveIf) (maxL := 3) (ret := (some .int)) (by decide) rfl ?_
  intro p e s m args below meth c s₁ B hml hv
  obtain ⟨rfl, hsz, hP, hK, hD0⟩ := hv
  have hx := B.exec
  have hb := B.bytes
  have hr := B.returns
  have hts := atoms_spec (ws := (zz_ws y_Pr_moveIf b_Pr_moveIf 3 (some .int))) B.pre
  have hown : s.vm.findClass R_Pr = some m.cls := findClass_of_methodNamed B.named
  have hlocks := B.notSynchronized
  have hT := zz_hts hts
  have X : CallFix p m c b_Pr_moveIf 3 s ([.ref qp, .int a0, .int a1] : List Value).toArray (zz_ws y_Pr_moveIf b_Pr_moveIf 3 (some .int)) R_Pr := ⟨hx, hb, hml, hown, hts⟩
  have hf0 : 0 + 0 ≤ (headSpec (zz_ws y_Pr_moveIf b_Pr_moveIf 3 (some .int)) rm_Pr_moveIf).room.cells ∧ 0 + 0 ≤ (headSpec (zz_ws y_Pr_moveIf b_Pr_moveIf 3 (some .int)) rm_Pr_moveIf).room.slots := ⟨Nat.le_of_ble_eq_true rfl, Nat.le_of_ble_eq_true rfl⟩
  subst hsz
  have hD := hD0.self (sz := s.heap.size)
  generalize hAe : va_A (wP qp qr qh qm qw qu qf ql qo cI ms mn g rg hq mf cd fg L O) s.heap.size = A at hD ⊢
  have hA : ∀ q : Nat, s.heap.size ≤ q → A q := fun q h => by rw [← hAe]; exact Or.inr h
  have hS : va_S A s.heap s.heap [] := va_S.rf
  have hl := lv_entry ([.ref qp, .int a0, .int a1]) (n := 3) (Nat.le_of_ble_eq_true rfl)
  rw [lg_entry_eq]
  generalize (lg_sl ([.ref qp, .int a0, .int a1]) ++ List.replicate (3 - (lg_sl ([.ref qp, .int a0, .int a1])).length) Slot.unset).toArray = ls at hl ⊢
  have hl : lv_has ls 3 [(0, .ref qp), (1, .int a0), (2, .int a1)] := hl
  refine lv_iload_n hx hb d_Pr_moveIf_0 rfl (lv_at hl 2 rfl) ?_
  refine lv_if_eq (tgt := 24) hx hb d_Pr_moveIf_1 (by decide) (fun c_1 => ?_) (fun c_1 => ?_)
  · skip
    have h := h.1 c_1
    refine lv_iconst (v := 0) hx hb d_Pr_moveIf_24 (by decide) ?_
    exact W.iret (v := (0 : Int32)) hx hb hr (fun t ht hW => ⟨⟨(0 : Int32), (g, rg, hq, mf, cd, fg, L, O), rfl, h, by rw [ht]; exact hP, hD⟩, hS.F ht⟩) hS.2.2 d_Pr_moveIf_25
  · skip
    have h := h.2 c_1
    refine lv_aload_n hx hb d_Pr_moveIf_4 rfl (lv_at hl 0 rfl) ?_
    refine lv_iload_n hx hb d_Pr_moveIf_5 rfl (lv_at hl 1 rfl) ?_
    refine zz_Si (As := [.int a0]) (rest := [.ref qp]) X (c_Pr_rd l a0 _ h) ⟨rfl, rfl⟩ m_Pr_rd k_Pr_158 ⟨Nat.le_of_ble_eq_true rfl, Nat.le_of_ble_eq_true rfl⟩ rfl hl.1 rfl (Nat.le_of_ble_eq_true rfl) d_Pr_moveIf_6 hf0 (fun r_2 h => ?_)
    refine lv_aload_n hx hb d_Pr_moveIf_9 rfl (lv_at hl 0 rfl) ?_
    refine g_Pr_9 (v := .ref qr) hx hb hT hown hK hP 0 rfl rfl d_Pr_moveIf_10 ?_
    refine lv_iload_n hx hb d_Pr_moveIf_13 rfl (lv_at hl 1 rfl) ?_
    refine zz_Si (As := [.int a0]) (rest := [.ref qr, .int r_2, .ref qp]) X (c_Pr_rs l a0 _ h) ⟨rfl, rfl⟩ m_Pr_rs k_Pr_83 ⟨Nat.le_of_ble_eq_true rfl, Nat.le_of_ble_eq_true rfl⟩ rfl hl.1 rfl (Nat.le_of_ble_eq_true rfl) d_Pr_moveIf_14 hf0 (fun r_3 h => ?_)
    refine va_iald (f := rg) hx hb hK hP 1 0 rfl rfl h.1 d_Pr_moveIf_17 ?_
    have h := h.2
    refine lv_topi (fun x_4 ex_4 => ?_)
    have h := h x_4 ex_4
    refine zz_Wi (As := [.int r_2, .int x_4]) (rest := []) (wc := wP qp qr qh qm qw qu qf ql qo cI ms mn g rg hq mf cd fg L O) (wr := []) X hK hP hD hS hA (c_Pr_result l D cI qp qr qh qm qw qu qf ql qo ms mn g rg hq mf cd fg L O r_2 x_4 _ h _) ⟨rfl, rfl⟩ m_Pr_result k_Pr_161 ⟨Nat.le_of_ble_eq_true rfl, Nat.le_of_ble_eq_true rfl⟩ [0, 1, 2, 3, 4, 5, 6, 7, 8] [] rfl rfl (by decide) (by decide) (by decide) 4 0 rfl rfl rfl rfl hl.1 rfl (Nat.le_of_ble_eq_true rfl) d_Pr_moveIf_18 hf0 (fun r_6 u_5 H locs h hP hD hS => ?_)
    have hP : va_P D vwCl (wP qp qr qh qm qw qu qf ql qo cI ms mn u_5.1 u_5.2.1 u_5.2.2.1 u_5.2.2.2.1 u_5.2.2.2.2.1 u_5.2.2.2.2.2.1 u_5.2.2.2.2.2.2.1 u_5.2.2.2.2.2.2.2) H := hP.sub [0, 1, 2, 3, 4, 5, 6, 7, 8] rfl
    have hD : va_D A (wP qp qr qh qm qw qu qf ql qo cI ms mn u_5.1 u_5.2.1 u_5.2.2.1 u_5.2.2.2.1 u_5.2.2.2.2.1 u_5.2.2.2.2.2.1 u_5.2.2.2.2.2.2.1 u_5.2.2.2.2.2.2.2) := hD.sub [0, 1, 2, 3, 4, 5, 6, 7, 8] (by decide) rfl
    refine lv_goto (tgt := 25) hx hb d_Pr_moveIf_21 (by decide) ?_
    exact W.iret (v := r_6) hx hb hr (fun t ht hW => ⟨⟨r_6, (u_5.1, u_5.2.1, u_5.2.2.1, u_5.2.2.2.1, u_5.2.2.2.2.1, u_5.2.2.2.2.2.1, u_5.2.2.2.2.2.2.1, u_5.2.2.2.2.2.2.2), rfl, h, by rw [ht]; exact hP, hD⟩, hS.F ht⟩) hS.2.2 d_Pr_moveIf_25
def wp_Pr_shiftOrMoveOnCondition (ms : Int32) (mn : Nat) (g : Nat → Int32) (rg : Nat → Int32) (hq : Nat → Int32) (mf : Nat → Int32) (cd : Int32) (fg : Nat → Int32) (L : Int32 × Int32 × Int32 × Int64) (O : Int32 × Int32 × Int32 × Int64) (a0 : Int32) (P : Int32 → ((Nat → Int32) × (Nat → Int32) × (Nat → Int32) × (Nat → Int32) × Int32 × (Nat → Int32) × (Int32 × Int32 × Int32 × Int64) × (Int32 × Int32 × Int32 × Int64)) → Prop) : Prop := wp_Pr_rt a0 (fun r_1 => vp_in r_1 32 ∧ ∀ x_2 : Int32, x_2 = (rg r_1.toNatClampNeg) → ∀ x_3 : Int32, x_3 = ((zz_ushr a0 (6 : Int32)) &&& (31 : Int32)) → wp_Pr_rs a0 (fun r_4 => vp_in r_4 32 ∧ ∀ x_5 : Int32, x_5 = (rg r_4.toNatClampNeg) → ∀ x_6 : Int32, x_6 = (x_5 &&& (31 : Int32)) → wp_Pr_function a0 (fun r_7 => (((r_7 = (0 : Int32)) → wp_Pr_rd a0 (fun r_9 => wp_Pr_result ms mn g rg hq mf cd fg L O r_9 (zz_shl x_2 x_3) (fun r_11 u_10 => P r_11 (u_10.1, u_10.2.1, u_10.2.2.1, u_10.2.2.2.1, u_10.2.2.2.2.1, u_10.2.2.2.2.2.1, u_10.2.2.2.2.2.2.1, u_10.2.2.2.2.2.2.2)))) ∧ (¬ (r_7 = (0 : Int32)) → (((r_7 = (1 : Int32)) → wp_Fu_conditionAsAsked cd fg L O a0 (fun r_13 => wp_Pr_moveIf ms mn g rg hq mf cd fg L O a0 r_13 (fun r_15 u_14 => P r_15 (u_14.1, u_14.2.1, u_14.2.2.1, u_14.2.2.2.1, u_14.2.2.2.2.1, u_14.2.2.2.2.2.1, u_14.2.2.2.2.2.2.1, u_14.2.2.2.2.2.2.2)))) ∧ (¬ (r_7 = (1 : Int32)) → (((r_7 = (2 : Int32)) → wp_Pr_rd a0 (fun r_17 => wp_Pr_result ms mn g rg hq mf cd fg L O r_17 (zz_ushr x_2 x_3) (fun r_19 u_18 => P r_19 (u_18.1, u_18.2.1, u_18.2.2.1, u_18.2.2.2.1, u_18.2.2.2.2.1, u_18.2.2.2.2.2.1, u_18.2.2.2.2.2.2.1, u_18.2.2.2.2.2.2.2)))) ∧ (¬ (r_7 = (2 : Int32)) → (((r_7 = (3 : Int32)) → wp_Pr_rd a0 (fun r_21 => wp_Pr_result ms mn g rg hq mf cd fg L O r_21 (zz_shr x_2 x_3) (fun r_23 u_22 => P r_23 (u_22.1, u_22.2.1, u_22.2.2.1, u_22.2.2.2.1, u_22.2.2.2.2.1, u_22.2.2.2.2.2.1, u_22.2.2.2.2.2.2.1, u_22.2.2.2.2.2.2.2)))) ∧ (¬ (r_7 = (3 : Int32)) → (((r_7 = (4 : Int32)) → wp_Pr_rd a0 (fun r_25 => wp_Pr_result ms mn g rg hq mf cd fg L O r_25 (zz_shl x_2 x_6) (fun r_27 u_26 => P r_27 (u_26.1, u_26.2.1, u_26.2.2.1, u_26.2.2.2.1, u_26.2.2.2.2.1, u_26.2.2.2.2.2.1, u_26.2.2.2.2.2.2.1, u_26.2.2.2.2.2.2.2)))) ∧ (¬ (r_7 = (4 : Int32)) → (((r_7 = (6 : Int32)) → wp_Pr_rd a0 (fun r_29 => wp_Pr_result ms mn g rg hq mf cd fg L O r_29 (zz_ushr x_2 x_6) (fun r_31 u_30 => P r_31 (u_30.1, u_30.2.1, u_30.2.2.1, u_30.2.2.2.1, u_30.2.2.2.2.1, u_30.2.2.2.2.2.1, u_30.2.2.2.2.2.2.1, u_30.2.2.2.2.2.2.2)))) ∧ (¬ (r_7 = (6 : Int32)) → (((r_7 = (7 : Int32)) → wp_Pr_rd a0 (fun r_33 => wp_Pr_result ms mn g rg hq mf cd fg L O r_33 (zz_shr x_2 x_6) (fun r_35 u_34 => P r_35 (u_34.1, u_34.2.1, u_34.2.2.1, u_34.2.2.2.1, u_34.2.2.2.2.1, u_34.2.2.2.2.2.1, u_34.2.2.2.2.2.2.1, u_34.2.2.2.2.2.2.2)))) ∧ (¬ (r_7 = (7 : Int32)) → P (3 : Int32) (g, rg, hq, mf, cd, fg, L, O))))))))))))))))))
abbrev rm_Pr_shiftOrMoveOnCondition : Room := { frames := 3, cells := 0, slots := 0, locals := 66 }
set_option maxHeartbeats 4000000 in
set_option maxRecDepth 100000 in
theorem c_Pr_shiftOrMoveOnCondition (l : Launch) (D : va_G) (cI : ClassId) (qp : Nat) (qr : Nat) (qh : Nat) (qm : Nat) (qw : Nat) (qu : Nat) (qf : Nat) (ql : Nat) (qo : Nat) (ms : Int32) (mn : Nat) (g : Nat → Int32) (rg : Nat → Int32) (hq : Nat → Int32) (mf : Nat → Int32) (cd : Int32) (fg : Nat → Int32) (L : Int32 × Int32 × Int32 × Int64) (O : Int32 × Int32 × Int32 × Int64) (a0 : Int32) (P : Int32 → ((Nat → Int32) × (Nat → Int32) × (Nat → Int32) × (Nat → Int32) × Int32 × (Nat → Int32) × (Int32 × Int32 × Int32 × Int64) × (Int32 × Int32 × Int32 × Int64)) → Prop) (h : wp_Pr_shiftOrMoveOnCondition ms mn g rg hq mf cd fg L O a0 P) (sz : Nat) : Met l y_Pr_shiftOrMoveOnCondition (zz_ws y_Pr_shiftOrMoveOnCondition b_Pr_shiftOrMoveOnCondition 5 (some .int)) rm_Pr_shiftOrMoveOnCondition (va_Pc [.ref qp, .int a0] (zz_pw D [(cI, .int)] (wP qp qr qh qm qw qu qf ql qo cI ms mn g rg hq mf cd fg L O) sz)) (va_Qi P (zz_qw D (fun u => wP qp qr qh qm qw qu qf ql qo cI ms mn u.1 u.2.1 u.2.2.1 u.2.2.2.1 u.2.2.2.2.1 u.2.2.2.2.2.1 u.2.2.2.2.2.2.1 u.2.2.2.2.2.2.2) (va_A (wP qp qr qh qm qw qu qf ql qo cI ms mn g rg hq mf cd fg L O) sz)) (va_A (wP qp qr qh qm qw qu qf ql qo cI ms mn g rg hq mf cd fg L O) sz)) 0 0 (va_A (wP qp qr qh qm qw qu qf ql qo cI ms mn g rg hq mf cd fg L O) sz) := by
  refine Met.ofW (cc := b_Pr_shiftOrMoveOnCondition) (maxL := 5) (ret := (some .int)) (by decide) rfl ?_
  intro p e s m args below meth c s₁ B hml hv
  obtain ⟨rfl, hsz, hP, hK, hD0⟩ := hv
  have hx := B.exec
  have hb := B.bytes
  have hr := B.returns
  have hts := atoms_spec (ws := (zz_ws y_Pr_shiftOrMoveOnCondition b_Pr_shiftOrMoveOnCondition 5 (some .int))) B.pre
  have hown : s.vm.findClass R_Pr = some m.cls := findClass_of_methodNamed B.named
  have hlocks := B.notSynchronized
  have hT := zz_hts hts
  have X : CallFix p m c b_Pr_shiftOrMoveOnCondition 5 s ([.ref qp, .int a0] : List Value).toArray (zz_ws y_Pr_shiftOrMoveOnCondition b_Pr_shiftOrMoveOnCondition 5 (some .int)) R_Pr := ⟨hx, hb, hml, hown, hts⟩
  have hf0 : 0 + 0 ≤ (headSpec (zz_ws y_Pr_shiftOrMoveOnCondition b_Pr_shiftOrMoveOnCondition 5 (some .int)) rm_Pr_shiftOrMoveOnCondition).room.cells ∧ 0 + 0 ≤ (headSpec (zz_ws y_Pr_shiftOrMoveOnCondition b_Pr_shiftOrMoveOnCondition 5 (some .int)) rm_Pr_shiftOrMoveOnCondition).room.slots := ⟨Nat.le_of_ble_eq_true rfl, Nat.le_of_ble_eq_true rfl⟩
  subst hsz
  have hD := hD0.self (sz := s.heap.size)
  generalize hAe : va_A (wP qp qr qh qm qw qu qf ql qo cI ms mn g rg hq mf cd fg L O) s.heap.size = A at hD ⊢
  have hA : ∀ q : Nat, s.heap.size ≤ q → A q := fun q h => by rw [← hAe]; exact Or.inr h
  have hS : va_S A s.heap s.heap [] := va_S.rf
  have hl := lv_entry ([.ref qp, .int a0]) (n := 5) (Nat.le_of_ble_eq_true rfl)
  rw [lg_entry_eq]
  generalize (lg_sl ([.ref qp, .int a0]) ++ List.replicate (5 - (lg_sl ([.ref qp, .int a0])).length) Slot.unset).toArray = ls at hl ⊢
  have hl : lv_has ls 5 [(0, .ref qp), (1, .int a0)] := hl
  refine lv_aload_n hx hb d_Pr_shiftOrMoveOnCondition_0 rfl (lv_at hl 0 rfl) ?_
  refine g_Pr_9 (v := .ref qr) hx hb hT hown hK hP 0 rfl rfl d_Pr_shiftOrMoveOnCondition_1 ?_
  refine lv_iload_n hx hb d_Pr_shiftOrMoveOnCondition_4 rfl (lv_at hl 1 rfl) ?_
  refine zz_Si (As := [.int a0]) (rest := [.ref qr]) X (c_Pr_rt l a0 _ h) ⟨rfl, rfl⟩ m_Pr_rt k_Pr_89 ⟨Nat.le_of_ble_eq_true rfl, Nat.le_of_ble_eq_true rfl⟩ rfl hl.1 rfl (Nat.le_of_ble_eq_true rfl) d_Pr_shiftOrMoveOnCondition_5 hf0 (fun r_1 h => ?_)
  refine va_iald (f := rg) hx hb hK hP 1 0 rfl rfl h.1 d_Pr_shiftOrMoveOnCondition_8 ?_
  have h := h.2
  refine lv_topi (fun x_2 ex_2 => ?_)
  have h := h x_2 ex_2
  refine lv_istore_n (lv' := [(2, .int x_2), (0, .ref qp), (1, .int a0)]) hx hb d_Pr_shiftOrMoveOnCondition_9 rfl hl (by decide) rfl (fun ls hl => ?_)
  refine lv_iload_n hx hb d_Pr_shiftOrMoveOnCondition_10 rfl (lv_at hl 2 rfl) ?_
  refine lv_bipush (v := 6) hx hb d_Pr_shiftOrMoveOnCondition_11 (by decide) ?_
  refine zz_iushr hx hb d_Pr_shiftOrMoveOnCondition_13 ?_
  refine lv_bipush (v := 31) hx hb d_Pr_shiftOrMoveOnCondition_14 (by decide) ?_
  refine lv_iand hx hb d_Pr_shiftOrMoveOnCondition_16 ?_
  refine lv_topi (fun x_3 ex_3 => ?_)
  have h := h x_3 ex_3
  refine lv_istore_n (lv' := [(3, .int x_3), (2, .int x_2), (0, .ref qp), (1, .int a0)]) hx hb d_Pr_shiftOrMoveOnCondition_17 rfl hl (by decide) rfl (fun ls hl => ?_)
  refine lv_aload_n hx hb d_Pr_shiftOrMoveOnCondition_18 rfl (lv_at hl 2 rfl) ?_
  refine g_Pr_9 (v := .ref qr) hx hb hT hown hK hP 0 rfl rfl d_Pr_shiftOrMoveOnCondition_19 ?_
  refine lv_iload_n hx hb d_Pr_shiftOrMoveOnCondition_22 rfl (lv_at hl 3 rfl) ?_
  refine zz_Si (As := [.int a0]) (rest := [.ref qr]) X (c_Pr_rs l a0 _ h) ⟨rfl, rfl⟩ m_Pr_rs k_Pr_83 ⟨Nat.le_of_ble_eq_true rfl, Nat.le_of_ble_eq_true rfl⟩ rfl hl.1 rfl (Nat.le_of_ble_eq_true rfl) d_Pr_shiftOrMoveOnCondition_23 hf0 (fun r_4 h => ?_)
  refine va_iald (f := rg) hx hb hK hP 1 0 rfl rfl h.1 d_Pr_shiftOrMoveOnCondition_26 ?_
  have h := h.2
  refine lv_topi (fun x_5 ex_5 => ?_)
  have h := h x_5 ex_5
  refine lv_bipush (v := 31) hx hb d_Pr_shiftOrMoveOnCondition_27 (by decide) ?_
  refine lv_iand hx hb d_Pr_shiftOrMoveOnCondition_29 ?_
  refine lv_topi (fun x_6 ex_6 => ?_)
  have h := h x_6 ex_6
  refine lv_istore (lv' := [(4, .int x_6), (3, .int x_3), (2, .int x_2), (0, .ref qp), (1, .int a0)]) hx hb d_Pr_shiftOrMoveOnCondition_30 hl (by decide) rfl (fun ls hl => ?_)
  refine lv_iload_n hx hb d_Pr_shiftOrMoveOnCondition_32 rfl (lv_at hl 4 rfl) ?_
  refine zz_Si (As := [.int a0]) (rest := []) X (c_Pr_function l a0 _ h) ⟨rfl, rfl⟩ m_Pr_function k_Pr_136 ⟨Nat.le_of_ble_eq_true rfl, Nat.le_of_ble_eq_true rfl⟩ rfl hl.1 rfl (Nat.le_of_ble_eq_true rfl) d_Pr_shiftOrMoveOnCondition_33 hf0 (fun r_7 h => ?_)
  by_cases c_8 : r_7 = (0 : Int32)
  · have h := h.1 c_8
    have h0 := c_8
    refine lv_tableIn (off := 48) (tgt := 84) hx hb d_Pr_shiftOrMoveOnCondition_36 (by rw [h0]; decide) (by rw [h0]; decide) (by rw [h0]; rfl) (by decide) ?_
    refine lv_aload_n hx hb d_Pr_shiftOrMoveOnCondition_84 rfl (lv_at hl 3 rfl) ?_
    refine lv_iload_n hx hb d_Pr_shiftOrMoveOnCondition_85 rfl (lv_at hl 4 rfl) ?_
    refine zz_Si (As := [.int a0]) (rest := [.ref qp]) X (c_Pr_rd l a0 _ h) ⟨rfl, rfl⟩ m_Pr_rd k_Pr_158 ⟨Nat.le_of_ble_eq_true rfl, Nat.le_of_ble_eq_true rfl⟩ rfl hl.1 rfl (Nat.le_of_ble_eq_true rfl) d_Pr_shiftOrMoveOnCondition_86 hf0 (fun r_9 h => ?_)
    refine lv_iload_n hx hb d_Pr_shiftOrMoveOnCondition_89 rfl (lv_at hl 2 rfl) ?_
    refine lv_iload_n hx hb d_Pr_shiftOrMoveOnCondition_90 rfl (lv_at hl 1 rfl) ?_
    refine zz_ishl hx hb d_Pr_shiftOrMoveOnCondition_91 ?_
    refine zz_Wi (As := [.int r_9, .int (zz_shl x_2 x_3)]) (rest := []) (wc := wP qp qr qh qm qw qu qf ql qo cI ms mn g rg hq mf cd fg L O) (wr := []) X hK hP hD hS hA (c_Pr_result l D cI qp qr qh qm qw qu qf ql qo ms mn g rg hq mf cd fg L O r_9 (zz_shl x_2 x_3) _ h _) ⟨rfl, rfl⟩ m_Pr_result k_Pr_161 ⟨Nat.le_of_ble_eq_true rfl, Nat.le_of_ble_eq_true rfl⟩ [0, 1, 2, 3, 4, 5, 6, 7, 8] [] rfl rfl (by decide) (by decide) (by decide) 4 0 rfl rfl rfl rfl hl.1 rfl (Nat.le_of_ble_eq_true rfl) d_Pr_shiftOrMoveOnCondition_92 hf0 (fun r_11 u_10 H locs h hP hD hS => ?_)
    have hP : va_P D vwCl (wP qp qr qh qm qw qu qf ql qo cI ms mn u_10.1 u_10.2.1 u_10.2.2.1 u_10.2.2.2.1 u_10.2.2.2.2.1 u_10.2.2.2.2.2.1 u_10.2.2.2.2.2.2.1 u_10.2.2.2.2.2.2.2) H := hP.sub [0, 1, 2, 3, 4, 5, 6, 7, 8] rfl
    have hD : va_D A (wP qp qr qh qm qw qu qf ql qo cI ms mn u_10.1 u_10.2.1 u_10.2.2.1 u_10.2.2.2.1 u_10.2.2.2.2.1 u_10.2.2.2.2.2.1 u_10.2.2.2.2.2.2.1 u_10.2.2.2.2.2.2.2) := hD.sub [0, 1, 2, 3, 4, 5, 6, 7, 8] (by decide) rfl
    exact W.iret (v := r_11) hx hb hr (fun t ht hW => ⟨⟨r_11, (u_10.1, u_10.2.1, u_10.2.2.1, u_10.2.2.2.1, u_10.2.2.2.2.1, u_10.2.2.2.2.2.1, u_10.2.2.2.2.2.2.1, u_10.2.2.2.2.2.2.2), rfl, h, by rw [ht]; exact hP, hD⟩, hS.F ht⟩) hS.2.2 d_Pr_shiftOrMoveOnCondition_95
  · have h := h.2 c_8
    by_cases c_12 : r_7 = (1 : Int32)
    · have h := h.1 c_12
      have h0 := c_12
      refine lv_tableIn (off := 123) (tgt := 159) hx hb d_Pr_shiftOrMoveOnCondition_36 (by rw [h0]; decide) (by rw [h0]; decide) (by rw [h0]; rfl) (by decide) ?_
      refine lv_aload_n hx hb d_Pr_shiftOrMoveOnCondition_159 rfl (lv_at hl 3 rfl) ?_
      refine lv_iload_n hx hb d_Pr_shiftOrMoveOnCondition_160 rfl (lv_at hl 4 rfl) ?_
      refine lv_aload_n hx hb d_Pr_shiftOrMoveOnCondition_161 rfl (lv_at hl 3 rfl) ?_
      refine g_Pr_25 (v := .ref qu) hx hb hT hown hK hP 0 rfl rfl d_Pr_shiftOrMoveOnCondition_162 ?_
      refine lv_iload_n hx hb d_Pr_shiftOrMoveOnCondition_165 rfl (lv_at hl 4 rfl) ?_
      refine zz_Ri (As := [.int a0]) (rest := [.int a0, .ref qp]) (wc := wU qu qf ql qo cI cd fg L O) X hK hP (c_Fu_conditionAsAsked l D cI qu qf ql qo cd fg L O a0 _ h) ⟨rfl, rfl⟩ m_Fu_conditionAsAsked k_Pr_164 ⟨Nat.le_of_ble_eq_true rfl, Nat.le_of_ble_eq_true rfl⟩ [5, 6, 7, 8] rfl 1 5 rfl rfl rfl rfl hl.1 rfl (Nat.le_of_ble_eq_true rfl) d_Pr_shiftOrMoveOnCondition_166 hf0 (fun r_13 h => ?_)
      refine zz_Wi (As := [.int a0, .int r_13]) (rest := []) (wc := wP qp qr qh qm qw qu qf ql qo cI ms mn g rg hq mf cd fg L O) (wr := []) X hK hP hD hS hA (c_Pr_moveIf l D cI qp qr qh qm qw qu qf ql qo ms mn g rg hq mf cd fg L O a0 r_13 _ h _) ⟨rfl, rfl⟩ m_Pr_moveIf k_Pr_168 ⟨Nat.le_of_ble_eq_true rfl, Nat.le_of_ble_eq_true rfl⟩ [0, 1, 2, 3, 4, 5, 6, 7, 8] [] rfl rfl (by decide) (by decide) (by decide) 4 0 rfl rfl rfl rfl hl.1 rfl (Nat.le_of_ble_eq_true rfl) d_Pr_shiftOrMoveOnCondition_169 hf0 (fun r_15 u_14 H locs h hP hD hS => ?_)
      have hP : va_P D vwCl (wP qp qr qh qm qw qu qf ql qo cI ms mn u_14.1 u_14.2.1 u_14.2.2.1 u_14.2.2.2.1 u_14.2.2.2.2.1 u_14.2.2.2.2.2.1 u_14.2.2.2.2.2.2.1 u_14.2.2.2.2.2.2.2) H := hP.sub [0, 1, 2, 3, 4, 5, 6, 7, 8] rfl
      have hD : va_D A (wP qp qr qh qm qw qu qf ql qo cI ms mn u_14.1 u_14.2.1 u_14.2.2.1 u_14.2.2.2.1 u_14.2.2.2.2.1 u_14.2.2.2.2.2.1 u_14.2.2.2.2.2.2.1 u_14.2.2.2.2.2.2.2) := hD.sub [0, 1, 2, 3, 4, 5, 6, 7, 8] (by decide) rfl
      exact W.iret (v := r_15) hx hb hr (fun t ht hW => ⟨⟨r_15, (u_14.1, u_14.2.1, u_14.2.2.1, u_14.2.2.2.1, u_14.2.2.2.2.1, u_14.2.2.2.2.2.1, u_14.2.2.2.2.2.2.1, u_14.2.2.2.2.2.2.2), rfl, h, by rw [ht]; exact hP, hD⟩, hS.F ht⟩) hS.2.2 d_Pr_shiftOrMoveOnCondition_172
    · have h := h.2 c_12
      by_cases c_16 : r_7 = (2 : Int32)
      · have h := h.1 c_16
        have h0 := c_16
        refine lv_tableIn (off := 60) (tgt := 96) hx hb d_Pr_shiftOrMoveOnCondition_36 (by rw [h0]; decide) (by rw [h0]; decide) (by rw [h0]; rfl) (by decide) ?_
        refine lv_aload_n hx hb d_Pr_shiftOrMoveOnCondition_96 rfl (lv_at hl 3 rfl) ?_
        refine lv_iload_n hx hb d_Pr_shiftOrMoveOnCondition_97 rfl (lv_at hl 4 rfl) ?_
        refine zz_Si (As := [.int a0]) (rest := [.ref qp]) X (c_Pr_rd l a0 _ h) ⟨rfl, rfl⟩ m_Pr_rd k_Pr_158 ⟨Nat.le_of_ble_eq_true rfl, Nat.le_of_ble_eq_true rfl⟩ rfl hl.1 rfl (Nat.le_of_ble_eq_true rfl) d_Pr_shiftOrMoveOnCondition_98 hf0 (fun r_17 h => ?_)
        refine lv_iload_n hx hb d_Pr_shiftOrMoveOnCondition_101 rfl (lv_at hl 2 rfl) ?_
        refine lv_iload_n hx hb d_Pr_shiftOrMoveOnCondition_102 rfl (lv_at hl 1 rfl) ?_
        refine zz_iushr hx hb d_Pr_shiftOrMoveOnCondition_103 ?_
        refine zz_Wi (As := [.int r_17, .int (zz_ushr x_2 x_3)]) (rest := []) (wc := wP qp qr qh qm qw qu qf ql qo cI ms mn g rg hq mf cd fg L O) (wr := []) X hK hP hD hS hA (c_Pr_result l D cI qp qr qh qm qw qu qf ql qo ms mn g rg hq mf cd fg L O r_17 (zz_ushr x_2 x_3) _ h _) ⟨rfl, rfl⟩ m_Pr_result k_Pr_161 ⟨Nat.le_of_ble_eq_true rfl, Nat.le_of_ble_eq_true rfl⟩ [0, 1, 2, 3, 4, 5, 6, 7, 8] [] rfl rfl (by decide) (by decide) (by decide) 4 0 rfl rfl rfl rfl hl.1 rfl (Nat.le_of_ble_eq_true rfl) d_Pr_shiftOrMoveOnCondition_104 hf0 (fun r_19 u_18 H locs h hP hD hS => ?_)
        have hP : va_P D vwCl (wP qp qr qh qm qw qu qf ql qo cI ms mn u_18.1 u_18.2.1 u_18.2.2.1 u_18.2.2.2.1 u_18.2.2.2.2.1 u_18.2.2.2.2.2.1 u_18.2.2.2.2.2.2.1 u_18.2.2.2.2.2.2.2) H := hP.sub [0, 1, 2, 3, 4, 5, 6, 7, 8] rfl
        have hD : va_D A (wP qp qr qh qm qw qu qf ql qo cI ms mn u_18.1 u_18.2.1 u_18.2.2.1 u_18.2.2.2.1 u_18.2.2.2.2.1 u_18.2.2.2.2.2.1 u_18.2.2.2.2.2.2.1 u_18.2.2.2.2.2.2.2) := hD.sub [0, 1, 2, 3, 4, 5, 6, 7, 8] (by decide) rfl
        exact W.iret (v := r_19) hx hb hr (fun t ht hW => ⟨⟨r_19, (u_18.1, u_18.2.1, u_18.2.2.1, u_18.2.2.2.1, u_18.2.2.2.2.1, u_18.2.2.2.2.2.1, u_18.2.2.2.2.2.2.1, u_18.2.2.2.2.2.2.2), rfl, h, by rw [ht]; exact hP, hD⟩, hS.F ht⟩) hS.2.2 d_Pr_shiftOrMoveOnCondition_107
      · have h := h.2 c_16
        by_cases c_20 : r_7 = (3 : Int32)
        · have h := h.1 c_20
          have h0 := c_20
          refine lv_tableIn (off := 72) (tgt := 108) hx hb d_Pr_shiftOrMoveOnCondition_36 (by rw [h0]; decide) (by rw [h0]; decide) (by rw [h0]; rfl) (by decide) ?_
          refine lv_aload_n hx hb d_Pr_shiftOrMoveOnCondition_108 rfl (lv_at hl 3 rfl) ?_
          refine lv_iload_n hx hb d_Pr_shiftOrMoveOnCondition_109 rfl (lv_at hl 4 rfl) ?_
          refine zz_Si (As := [.int a0]) (rest := [.ref qp]) X (c_Pr_rd l a0 _ h) ⟨rfl, rfl⟩ m_Pr_rd k_Pr_158 ⟨Nat.le_of_ble_eq_true rfl, Nat.le_of_ble_eq_true rfl⟩ rfl hl.1 rfl (Nat.le_of_ble_eq_true rfl) d_Pr_shiftOrMoveOnCondition_110 hf0 (fun r_21 h => ?_)
          refine lv_iload_n hx hb d_Pr_shiftOrMoveOnCondition_113 rfl (lv_at hl 2 rfl) ?_
          refine lv_iload_n hx hb d_Pr_shiftOrMoveOnCondition_114 rfl (lv_at hl 1 rfl) ?_
          refine zz_ishr hx hb d_Pr_shiftOrMoveOnCondition_115 ?_
          refine zz_Wi (As := [.int r_21, .int (zz_shr x_2 x_3)]) (rest := []) (wc := wP qp qr qh qm qw qu qf ql qo cI ms mn g rg hq mf cd fg L O) (wr := []) X hK hP hD hS hA (c_Pr_result l D cI qp qr qh qm qw qu qf ql qo ms mn g rg hq mf cd fg L O r_21 (zz_shr x_2 x_3) _ h _) ⟨rfl, rfl⟩ m_Pr_result k_Pr_161 ⟨Nat.le_of_ble_eq_true rfl, Nat.le_of_ble_eq_true rfl⟩ [0, 1, 2, 3, 4, 5, 6, 7, 8] [] rfl rfl (by decide) (by decide) (by decide) 4 0 rfl rfl rfl rfl hl.1 rfl (Nat.le_of_ble_eq_true rfl) d_Pr_shiftOrMoveOnCondition_116 hf0 (fun r_23 u_22 H locs h hP hD hS => ?_)
          have hP : va_P D vwCl (wP qp qr qh qm qw qu qf ql qo cI ms mn u_22.1 u_22.2.1 u_22.2.2.1 u_22.2.2.2.1 u_22.2.2.2.2.1 u_22.2.2.2.2.2.1 u_22.2.2.2.2.2.2.1 u_22.2.2.2.2.2.2.2) H := hP.sub [0, 1, 2, 3, 4, 5, 6, 7, 8] rfl
          have hD : va_D A (wP qp qr qh qm qw qu qf ql qo cI ms mn u_22.1 u_22.2.1 u_22.2.2.1 u_22.2.2.2.1 u_22.2.2.2.2.1 u_22.2.2.2.2.2.1 u_22.2.2.2.2.2.2.1 u_22.2.2.2.2.2.2.2) := hD.sub [0, 1, 2, 3, 4, 5, 6, 7, 8] (by decide) rfl
          exact W.iret (v := r_23) hx hb hr (fun t ht hW => ⟨⟨r_23, (u_22.1, u_22.2.1, u_22.2.2.1, u_22.2.2.2.1, u_22.2.2.2.2.1, u_22.2.2.2.2.2.1, u_22.2.2.2.2.2.2.1, u_22.2.2.2.2.2.2.2), rfl, h, by rw [ht]; exact hP, hD⟩, hS.F ht⟩) hS.2.2 d_Pr_shiftOrMoveOnCondition_119
        · have h := h.2 c_20
          by_cases c_24 : r_7 = (4 : Int32)
          · have h := h.1 c_24
            have h0 := c_24
            refine lv_tableIn (off := 84) (tgt := 120) hx hb d_Pr_shiftOrMoveOnCondition_36 (by rw [h0]; decide) (by rw [h0]; decide) (by rw [h0]; rfl) (by decide) ?_
            refine lv_aload_n hx hb d_Pr_shiftOrMoveOnCondition_120 rfl (lv_at hl 3 rfl) ?_
            refine lv_iload_n hx hb d_Pr_shiftOrMoveOnCondition_121 rfl (lv_at hl 4 rfl) ?_
            refine zz_Si (As := [.int a0]) (rest := [.ref qp]) X (c_Pr_rd l a0 _ h) ⟨rfl, rfl⟩ m_Pr_rd k_Pr_158 ⟨Nat.le_of_ble_eq_true rfl, Nat.le_of_ble_eq_true rfl⟩ rfl hl.1 rfl (Nat.le_of_ble_eq_true rfl) d_Pr_shiftOrMoveOnCondition_122 hf0 (fun r_25 h => ?_)
            refine lv_iload_n hx hb d_Pr_shiftOrMoveOnCondition_125 rfl (lv_at hl 2 rfl) ?_
            refine lv_iload hx hb d_Pr_shiftOrMoveOnCondition_126 (lv_at hl 0 rfl) ?_
            refine zz_ishl hx hb d_Pr_shiftOrMoveOnCondition_128 ?_
            refine zz_Wi (As := [.int r_25, .int (zz_shl x_2 x_6)]) (rest := []) (wc := wP qp qr qh qm qw qu qf ql qo cI ms mn g rg hq mf cd fg L O) (wr := []) X hK hP hD hS hA (c_Pr_result l D cI qp qr qh qm qw qu qf ql qo ms mn g rg hq mf cd fg L O r_25 (zz_shl x_2 x_6) _ h _) ⟨rfl, rfl⟩ m_Pr_result k_Pr_161 ⟨Nat.le_of_ble_eq_true rfl, Nat.le_of_ble_eq_true rfl⟩ [0, 1, 2, 3, 4, 5, 6, 7, 8] [] rfl rfl (by decide) (by decide) (by decide) 4 0 rfl rfl rfl rfl hl.1 rfl (Nat.le_of_ble_eq_true rfl) d_Pr_shiftOrMoveOnCondition_129 hf0 (fun r_27 u_26 H locs h hP hD hS => ?_)
            have hP : va_P D vwCl (wP qp qr qh qm qw qu qf ql qo cI ms mn u_26.1 u_26.2.1 u_26.2.2.1 u_26.2.2.2.1 u_26.2.2.2.2.1 u_26.2.2.2.2.2.1 u_26.2.2.2.2.2.2.1 u_26.2.2.2.2.2.2.2) H := hP.sub [0, 1, 2, 3, 4, 5, 6, 7, 8] rfl
            have hD : va_D A (wP qp qr qh qm qw qu qf ql qo cI ms mn u_26.1 u_26.2.1 u_26.2.2.1 u_26.2.2.2.1 u_26.2.2.2.2.1 u_26.2.2.2.2.2.1 u_26.2.2.2.2.2.2.1 u_26.2.2.2.2.2.2.2) := hD.sub [0, 1, 2, 3, 4, 5, 6, 7, 8] (by decide) rfl
            exact W.iret (v := r_27) hx hb hr (fun t ht hW => ⟨⟨r_27, (u_26.1, u_26.2.1, u_26.2.2.1, u_26.2.2.2.1, u_26.2.2.2.2.1, u_26.2.2.2.2.2.1, u_26.2.2.2.2.2.2.1, u_26.2.2.2.2.2.2.2), rfl, h, by rw [ht]; exact hP, hD⟩, hS.F ht⟩) hS.2.2 d_Pr_shiftOrMoveOnCondition_132
          · have h := h.2 c_24
            by_cases c_28 : r_7 = (6 : Int32)
            · have h := h.1 c_28
              have h0 := c_28
              refine lv_tableIn (off := 97) (tgt := 133) hx hb d_Pr_shiftOrMoveOnCondition_36 (by rw [h0]; decide) (by rw [h0]; decide) (by rw [h0]; rfl) (by decide) ?_
              refine lv_aload_n hx hb d_Pr_shiftOrMoveOnCondition_133 rfl (lv_at hl 3 rfl) ?_
              refine lv_iload_n hx hb d_Pr_shiftOrMoveOnCondition_134 rfl (lv_at hl 4 rfl) ?_
              refine zz_Si (As := [.int a0]) (rest := [.ref qp]) X (c_Pr_rd l a0 _ h) ⟨rfl, rfl⟩ m_Pr_rd k_Pr_158 ⟨Nat.le_of_ble_eq_true rfl, Nat.le_of_ble_eq_true rfl⟩ rfl hl.1 rfl (Nat.le_of_ble_eq_true rfl) d_Pr_shiftOrMoveOnCondition_135 hf0 (fun r_29 h => ?_)
              refine lv_iload_n hx hb d_Pr_shiftOrMoveOnCondition_138 rfl (lv_at hl 2 rfl) ?_
              refine lv_iload hx hb d_Pr_shiftOrMoveOnCondition_139 (lv_at hl 0 rfl) ?_
              refine zz_iushr hx hb d_Pr_shiftOrMoveOnCondition_141 ?_
              refine zz_Wi (As := [.int r_29, .int (zz_ushr x_2 x_6)]) (rest := []) (wc := wP qp qr qh qm qw qu qf ql qo cI ms mn g rg hq mf cd fg L O) (wr := []) X hK hP hD hS hA (c_Pr_result l D cI qp qr qh qm qw qu qf ql qo ms mn g rg hq mf cd fg L O r_29 (zz_ushr x_2 x_6) _ h _) ⟨rfl, rfl⟩ m_Pr_result k_Pr_161 ⟨Nat.le_of_ble_eq_true rfl, Nat.le_of_ble_eq_true rfl⟩ [0, 1, 2, 3, 4, 5, 6, 7, 8] [] rfl rfl (by decide) (by decide) (by decide) 4 0 rfl rfl rfl rfl hl.1 rfl (Nat.le_of_ble_eq_true rfl) d_Pr_shiftOrMoveOnCondition_142 hf0 (fun r_31 u_30 H locs h hP hD hS => ?_)
              have hP : va_P D vwCl (wP qp qr qh qm qw qu qf ql qo cI ms mn u_30.1 u_30.2.1 u_30.2.2.1 u_30.2.2.2.1 u_30.2.2.2.2.1 u_30.2.2.2.2.2.1 u_30.2.2.2.2.2.2.1 u_30.2.2.2.2.2.2.2) H := hP.sub [0, 1, 2, 3, 4, 5, 6, 7, 8] rfl
              have hD : va_D A (wP qp qr qh qm qw qu qf ql qo cI ms mn u_30.1 u_30.2.1 u_30.2.2.1 u_30.2.2.2.1 u_30.2.2.2.2.1 u_30.2.2.2.2.2.1 u_30.2.2.2.2.2.2.1 u_30.2.2.2.2.2.2.2) := hD.sub [0, 1, 2, 3, 4, 5, 6, 7, 8] (by decide) rfl
              exact W.iret (v := r_31) hx hb hr (fun t ht hW => ⟨⟨r_31, (u_30.1, u_30.2.1, u_30.2.2.1, u_30.2.2.2.1, u_30.2.2.2.2.1, u_30.2.2.2.2.2.1, u_30.2.2.2.2.2.2.1, u_30.2.2.2.2.2.2.2), rfl, h, by rw [ht]; exact hP, hD⟩, hS.F ht⟩) hS.2.2 d_Pr_shiftOrMoveOnCondition_145
            · have h := h.2 c_28
              by_cases c_32 : r_7 = (7 : Int32)
              · have h := h.1 c_32
                have h0 := c_32
                refine lv_tableIn (off := 110) (tgt := 146) hx hb d_Pr_shiftOrMoveOnCondition_36 (by rw [h0]; decide) (by rw [h0]; decide) (by rw [h0]; rfl) (by decide) ?_
                refine lv_aload_n hx hb d_Pr_shiftOrMoveOnCondition_146 rfl (lv_at hl 3 rfl) ?_
                refine lv_iload_n hx hb d_Pr_shiftOrMoveOnCondition_147 rfl (lv_at hl 4 rfl) ?_
                refine zz_Si (As := [.int a0]) (rest := [.ref qp]) X (c_Pr_rd l a0 _ h) ⟨rfl, rfl⟩ m_Pr_rd k_Pr_158 ⟨Nat.le_of_ble_eq_true rfl, Nat.le_of_ble_eq_true rfl⟩ rfl hl.1 rfl (Nat.le_of_ble_eq_true rfl) d_Pr_shiftOrMoveOnCondition_148 hf0 (fun r_33 h => ?_)
                refine lv_iload_n hx hb d_Pr_shiftOrMoveOnCondition_151 rfl (lv_at hl 2 rfl) ?_
                refine lv_iload hx hb d_Pr_shiftOrMoveOnCondition_152 (lv_at hl 0 rfl) ?_
                refine zz_ishr hx hb d_Pr_shiftOrMoveOnCondition_154 ?_
                refine zz_Wi (As := [.int r_33, .int (zz_shr x_2 x_6)]) (rest := []) (wc := wP qp qr qh qm qw qu qf ql qo cI ms mn g rg hq mf cd fg L O) (wr := []) X hK hP hD hS hA (c_Pr_result l D cI qp qr qh qm qw qu qf ql qo ms mn g rg hq mf cd fg L O r_33 (zz_shr x_2 x_6) _ h _) ⟨rfl, rfl⟩ m_Pr_result k_Pr_161 ⟨Nat.le_of_ble_eq_true rfl, Nat.le_of_ble_eq_true rfl⟩ [0, 1, 2, 3, 4, 5, 6, 7, 8] [] rfl rfl (by decide) (by decide) (by decide) 4 0 rfl rfl rfl rfl hl.1 rfl (Nat.le_of_ble_eq_true rfl) d_Pr_shiftOrMoveOnCondition_155 hf0 (fun r_35 u_34 H locs h hP hD hS => ?_)
                have hP : va_P D vwCl (wP qp qr qh qm qw qu qf ql qo cI ms mn u_34.1 u_34.2.1 u_34.2.2.1 u_34.2.2.2.1 u_34.2.2.2.2.1 u_34.2.2.2.2.2.1 u_34.2.2.2.2.2.2.1 u_34.2.2.2.2.2.2.2) H := hP.sub [0, 1, 2, 3, 4, 5, 6, 7, 8] rfl
                have hD : va_D A (wP qp qr qh qm qw qu qf ql qo cI ms mn u_34.1 u_34.2.1 u_34.2.2.1 u_34.2.2.2.1 u_34.2.2.2.2.1 u_34.2.2.2.2.2.1 u_34.2.2.2.2.2.2.1 u_34.2.2.2.2.2.2.2) := hD.sub [0, 1, 2, 3, 4, 5, 6, 7, 8] (by decide) rfl
                exact W.iret (v := r_35) hx hb hr (fun t ht hW => ⟨⟨r_35, (u_34.1, u_34.2.1, u_34.2.2.1, u_34.2.2.2.1, u_34.2.2.2.2.1, u_34.2.2.2.2.2.1, u_34.2.2.2.2.2.2.1, u_34.2.2.2.2.2.2.2), rfl, h, by rw [ht]; exact hP, hD⟩, hS.F ht⟩) hS.2.2 d_Pr_shiftOrMoveOnCondition_158
              · have h := h.2 c_32
                refine zz_swD (tgt := 173) hx hb [0, 1, 2, 3, 4, 6, 7] d_Pr_shiftOrMoveOnCondition_36 (by decide +kernel) (by decide) (List.forall_mem_cons.mpr ⟨lv_neT (k := 0) c_8 (by decide), List.forall_mem_cons.mpr ⟨lv_neT (k := 1) c_12 (by decide), List.forall_mem_cons.mpr ⟨lv_neT (k := 2) c_16 (by decide), List.forall_mem_cons.mpr ⟨lv_neT (k := 3) c_20 (by decide), List.forall_mem_cons.mpr ⟨lv_neT (k := 4) c_24 (by decide), List.forall_mem_cons.mpr ⟨lv_neT (k := 6) c_28 (by decide), List.forall_mem_cons.mpr ⟨lv_neT (k := 7) c_32 (by decide), fun _ h9 => nomatch h9⟩⟩⟩⟩⟩⟩⟩) (by decide) ?_
                refine lv_iconst (v := 3) hx hb d_Pr_shiftOrMoveOnCondition_173 (by decide) ?_
                exact W.iret (v := (3 : Int32)) hx hb hr (fun t ht hW => ⟨⟨(3 : Int32), (g, rg, hq, mf, cd, fg, L, O), rfl, h, by rw [ht]; exact hP, hD⟩, hS.F ht⟩) hS.2.2 d_Pr_shiftOrMoveOnCondition_174
def wp_Pr_leave (ms : Int32) (mn : Nat) (g : Nat → Int32) (rg : Nat → Int32) (hq : Nat → Int32) (mf : Nat → Int32) (cd : Int32) (fg : Nat → Int32) (L : Int32 × Int32 × Int32 × Int64) (O : Int32 × Int32 × Int32 × Int64) (a0 : Int32) (P : Int32 → ((Nat → Int32) × (Nat → Int32) × (Nat → Int32) × (Nat → Int32) × Int32 × (Nat → Int32) × (Int32 × Int32 × Int32 × Int64) × (Int32 × Int32 × Int32 × Int64)) → Prop) : Prop := ∀ x_1 : Int32, x_1 = ((g 10) + (1 : Int32)) → wp_Pr_move ms mn (upd g 10 x_1) rg hq mf cd fg L O (g 1) a0 (1 : Int32) (fun u_2 => P (-1 : Int32) (u_2.1, u_2.2.1, u_2.2.2.1, u_2.2.2.2.1, u_2.2.2.2.2.1, u_2.2.2.2.2.2.1, u_2.2.2.2.2.2.2.1, u_2.2.2.2.2.2.2.2))
abbrev rm_Pr_leave : Room := { frames := 1, cells := 0, slots := 0, locals := 23 }
set_option maxHeartbeats 4000000 in
set_option maxRecDepth 100000 in
theorem c_Pr_leave (l : Launch) (D : va_G) (cI : ClassId) (qp : Nat) (qr : Nat) (qh : Nat) (qm : Nat) (qw : Nat) (qu : Nat) (qf : Nat) (ql : Nat) (qo : Nat) (ms : Int32) (mn : Nat) (g : Nat → Int32) (rg : Nat → Int32) (hq : Nat → Int32) (mf : Nat → Int32) (cd : Int32) (fg : Nat → Int32) (L : Int32 × Int32 × Int32 × Int64) (O : Int32 × Int32 × Int32 × Int64) (a0 : Int32) (P : Int32 → ((Nat → Int32) × (Nat → Int32) × (Nat → Int32) × (Nat → Int32) × Int32 × (Nat → Int32) × (Int32 × Int32 × Int32 × Int64) × (Int32 × Int32 × Int32 × Int64)) → Prop) (h : wp_Pr_leave ms mn g rg hq mf cd fg L O a0 P) (sz : Nat) : Met l y_Pr_leave (zz_ws y_Pr_leave b_Pr_leave 2 (some .int)) rm_Pr_leave (va_Pc [.ref qp, .int a0] (zz_pw D [(cI, .int)] (wP qp qr qh qm qw qu qf ql qo cI ms mn g rg hq mf cd fg L O) sz)) (va_Qi P (zz_qw D (fun u => wP qp qr qh qm qw qu qf ql qo cI ms mn u.1 u.2.1 u.2.2.1 u.2.2.2.1 u.2.2.2.2.1 u.2.2.2.2.2.1 u.2.2.2.2.2.2.1 u.2.2.2.2.2.2.2) (va_A (wP qp qr qh qm qw qu qf ql qo cI ms mn g rg hq mf cd fg L O) sz)) (va_A (wP qp qr qh qm qw qu qf ql qo cI ms mn g rg hq mf cd fg L O) sz)) 0 0 (va_A (wP qp qr qh qm qw qu qf ql qo cI ms mn g rg hq mf cd fg L O) sz) := by
  refine Met.ofW (cc := b_Pr_leave) (maxL := 2) (ret := (some .int)) (by decide) rfl ?_
  intro p e s m args below meth c s₁ B hml hv
  obtain ⟨rfl, hsz, hP, hK, hD0⟩ := hv
  have hx := B.exec
  have hb := B.bytes
  have hr := B.returns
  have hts := atoms_spec (ws := (zz_ws y_Pr_leave b_Pr_leave 2 (some .int))) B.pre
  have hown : s.vm.findClass R_Pr = some m.cls := findClass_of_methodNamed B.named
  have hlocks := B.notSynchronized
  have hT := zz_hts hts
  have X : CallFix p m c b_Pr_leave 2 s ([.ref qp, .int a0] : List Value).toArray (zz_ws y_Pr_leave b_Pr_leave 2 (some .int)) R_Pr := ⟨hx, hb, hml, hown, hts⟩
  have hf0 : 0 + 0 ≤ (headSpec (zz_ws y_Pr_leave b_Pr_leave 2 (some .int)) rm_Pr_leave).room.cells ∧ 0 + 0 ≤ (headSpec (zz_ws y_Pr_leave b_Pr_leave 2 (some .int)) rm_Pr_leave).room.slots := ⟨Nat.le_of_ble_eq_true rfl, Nat.le_of_ble_eq_true rfl⟩
  subst hsz
  have hD := hD0.self (sz := s.heap.size)
  generalize hAe : va_A (wP qp qr qh qm qw qu qf ql qo cI ms mn g rg hq mf cd fg L O) s.heap.size = A at hD ⊢
  have hA : ∀ q : Nat, s.heap.size ≤ q → A q := fun q h => by rw [← hAe]; exact Or.inr h
  have hS : va_S A s.heap s.heap [] := va_S.rf
  have hl := lv_entry ([.ref qp, .int a0]) (n := 2) (Nat.le_of_ble_eq_true rfl)
  rw [lg_entry_eq]
  generalize (lg_sl ([.ref qp, .int a0]) ++ List.replicate (2 - (lg_sl ([.ref qp, .int a0])).length) Slot.unset).toArray = ls at hl ⊢
  have hl : lv_has ls 2 [(0, .ref qp), (1, .int a0)] := hl
  refine lv_aload_n hx hb d_Pr_leave_0 rfl (lv_at hl 0 rfl) ?_
  refine lv_dup hx hb d_Pr_leave_1 rfl ?_
  refine g_Pr_258 (v := .int (g 10)) hx hb hT hown hK hP 0 rfl rfl d_Pr_leave_2 ?_
  refine lv_iconst (v := 1) hx hb d_Pr_leave_5 (by decide) ?_
  refine lv_iadd hx hb d_Pr_leave_6 ?_
  refine lv_topi (fun x_1 ex_1 => ?_)
  have h := h x_1 ex_1
  refine p_Pr_258 hx hb hT hown hK hP hD hS 0 rfl rfl d_Pr_leave_7 (fun H locs (hP : va_P D vwCl (wP qp qr qh qm qw qu qf ql qo cI ms mn (upd g 10 x_1) rg hq mf cd fg L O) H) (hD : va_D A (wP qp qr qh qm qw qu qf ql qo cI ms mn (upd g 10 x_1) rg hq mf cd fg L O)) hS => ?_)
  refine lv_aload_n hx hb d_Pr_leave_10 rfl (lv_at hl 0 rfl) ?_
  refine lv_aload_n hx hb d_Pr_leave_11 rfl (lv_at hl 0 rfl) ?_
  refine g_Pr_29 (v := .int (g 1)) hx hb hT hown hK hP 0 rfl rfl d_Pr_leave_12 ?_
  refine lv_iload_n hx hb d_Pr_leave_15 rfl (lv_at hl 1 rfl) ?_
  refine lv_iconst (v := 1) hx hb d_Pr_leave_16 (by decide) ?_
  refine zz_Wv (As := [.int (g 1), .int a0, .int (1 : Int32)]) (rest := []) (wc := wP qp qr qh qm qw qu qf ql qo cI ms mn (upd g 10 x_1) rg hq mf cd fg L O) (wr := []) X hK hP hD hS hA (c_Pr_move l D cI qp qr qh qm qw qu qf ql qo ms mn (upd g 10 x_1) rg hq mf cd fg L O (g 1) a0 (1 : Int32) _ h _) ⟨rfl, rfl⟩ m_Pr_move k_Pr_37 ⟨Nat.le_of_ble_eq_true rfl, Nat.le_of_ble_eq_true rfl⟩ [0, 1, 2, 3, 4, 5, 6, 7, 8] [] rfl rfl (by decide) (by decide) (by decide) 4 0 rfl rfl rfl rfl hl.1 rfl (Nat.le_of_ble_eq_true rfl) d_Pr_leave_17 hf0 (fun u_2 H locs h hP hD hS => ?_)
  have hP : va_P D vwCl (wP qp qr qh qm qw qu qf ql qo cI ms mn u_2.1 u_2.2.1 u_2.2.2.1 u_2.2.2.2.1 u_2.2.2.2.2.1 u_2.2.2.2.2.2.1 u_2.2.2.2.2.2.2.1 u_2.2.2.2.2.2.2.2) H := hP.sub [0, 1, 2, 3, 4, 5, 6, 7, 8] rfl
  have hD : va_D A (wP qp qr qh qm qw qu qf ql qo cI ms mn u_2.1 u_2.2.1 u_2.2.2.1 u_2.2.2.2.1 u_2.2.2.2.2.1 u_2.2.2.2.2.2.1 u_2.2.2.2.2.2.2.1 u_2.2.2.2.2.2.2.2) := hD.sub [0, 1, 2, 3, 4, 5, 6, 7, 8] (by decide) rfl
  refine lv_iconst (v := -1) hx hb d_Pr_leave_20 (by decide) ?_
  exact W.iret (v := (-1 : Int32)) hx hb hr (fun t ht hW => ⟨⟨(-1 : Int32), (u_2.1, u_2.2.1, u_2.2.2.1, u_2.2.2.2.1, u_2.2.2.2.2.1, u_2.2.2.2.2.2.1, u_2.2.2.2.2.2.2.1, u_2.2.2.2.2.2.2.2), rfl, h, by rw [ht]; exact hP, hD⟩, hS.F ht⟩) hS.2.2 d_Pr_leave_21
def wp_Pr_jumpAndLinkRegister (ms : Int32) (mn : Nat) (g : Nat → Int32) (rg : Nat → Int32) (hq : Nat → Int32) (mf : Nat → Int32) (cd : Int32) (fg : Nat → Int32) (L : Int32 × Int32 × Int32 × Int64) (O : Int32 × Int32 × Int32 × Int64) (a0 : Int32) (P : Int32 → ((Nat → Int32) × (Nat → Int32) × (Nat → Int32) × (Nat → Int32) × Int32 × (Nat → Int32) × (Int32 × Int32 × Int32 × Int64) × (Int32 × Int32 × Int32 × Int64)) → Prop) : Prop := (((g 2) = (0 : Int32) → wp_Pr_rd a0 (fun r_2 => wp_Pr_rs a0 (fun r_3 => ((r_2 = r_3 → P (8 : Int32) (g, rg, hq, mf, cd, fg, L, O)) ∧ (¬ r_2 = r_3 → wp_Pr_rd a0 (fun r_5 => wp_Pr_write ms mn g rg hq mf cd fg L O r_5 ((g 0) + (8 : Int32)) (fun u_6 => wp_Pr_rs a0 (fun r_8 => vp_in r_8 32 ∧ ∀ x_9 : Int32, x_9 = (u_6.2.1 r_8.toNatClampNeg) → wp_Pr_leave ms mn u_6.1 u_6.2.1 u_6.2.2.1 u_6.2.2.2.1 u_6.2.2.2.2.1 u_6.2.2.2.2.2.1 u_6.2.2.2.2.2.2.1 u_6.2.2.2.2.2.2.2 x_9 (fun r_11 u_10 => P r_11 (u_10.1, u_10.2.1, u_10.2.2.1, u_10.2.2.2.1, u_10.2.2.2.2.1, u_10.2.2.2.2.2.1, u_10.2.2.2.2.2.2.1, u_10.2.2.2.2.2.2.2)))))))))) ∧ (¬ (g 2) = (0 : Int32) → P (8 : Int32) (g, rg, hq, mf, cd, fg, L, O)))
abbrev rm_Pr_jumpAndLinkRegister : Room := { frames := 2, cells := 0, slots := 0, locals := 44 }
set_option maxHeartbeats 4000000 in
set_option maxRecDepth 100000 in
theorem c_Pr_jumpAndLinkRegister (l : Launch) (D : va_G) (cI : ClassId) (qp : Nat) (qr : Nat) (qh : Nat) (qm : Nat) (qw : Nat) (qu : Nat) (qf : Nat) (ql : Nat) (qo : Nat) (ms : Int32) (mn : Nat) (g : Nat → Int32) (rg : Nat → Int32) (hq : Nat → Int32) (mf : Nat → Int32) (cd : Int32) (fg : Nat → Int32) (L : Int32 × Int32 × Int32 × Int64) (O : Int32 × Int32 × Int32 × Int64) (a0 : Int32) (P : Int32 → ((Nat → Int32) × (Nat → Int32) × (Nat → Int32) × (Nat → Int32) × Int32 × (Nat → Int32) × (Int32 × Int32 × Int32 × Int64) × (Int32 × Int32 × Int32 × Int64)) → Prop) (h : wp_Pr_jumpAndLinkRegister ms mn g rg hq mf cd fg L O a0 P) (sz : Nat) : Met l y_Pr_jumpAndLinkRegister (zz_ws y_Pr_jumpAndLinkRegister b_Pr_jumpAndLinkRegister 2 (some .int)) rm_Pr_jumpAndLinkRegister (va_Pc [.ref qp, .int a0] (zz_pw D [(cI, .int)] (wP qp qr qh qm qw qu qf ql qo cI ms mn g rg hq mf cd fg L O) sz)) (va_Qi P (zz_qw D (fun u => wP qp qr qh qm qw qu qf ql qo cI ms mn u.1 u.2.1 u.2.2.1 u.2.2.2.1 u.2.2.2.2.1 u.2.2.2.2.2.1 u.2.2.2.2.2.2.1 u.2.2.2.2.2.2.2) (va_A (wP qp qr qh qm qw qu qf ql qo cI ms mn g rg hq mf cd fg L O) sz)) (va_A (wP qp qr qh qm qw qu qf ql qo cI ms mn g rg hq mf cd fg L O) sz)) 0 0 (va_A (wP qp qr qh qm qw qu qf ql qo cI ms mn g rg hq mf cd fg L O) sz) := by
  refine Met.ofW (cc := b_Pr_jumpAndLinkRegister) (maxL := 2) (ret := (some .int)) (by decide) rfl ?_
  intro p e s m args below meth c s₁ B hml hv
  obtain ⟨rfl, hsz, hP, hK, hD0⟩ := hv
  have hx := B.exec
  have hb := B.bytes
  have hr := B.returns
  have hts := atoms_spec (ws := (zz_ws y_Pr_jumpAndLinkRegister b_Pr_jumpAndLinkRegister 2 (some .int))) B.pre
  have hown : s.vm.findClass R_Pr = some m.cls := findClass_of_methodNamed B.named
  have hlocks := B.notSynchronized
  have hT := zz_hts hts
  have X : CallFix p m c b_Pr_jumpAndLinkRegister 2 s ([.ref qp, .int a0] : List Value).toArray (zz_ws y_Pr_jumpAndLinkRegister b_Pr_jumpAndLinkRegister 2 (some .int)) R_Pr := ⟨hx, hb, hml, hown, hts⟩
  have hf0 : 0 + 0 ≤ (headSpec (zz_ws y_Pr_jumpAndLinkRegister b_Pr_jumpAndLinkRegister 2 (some .int)) rm_Pr_jumpAndLinkRegister).room.cells ∧ 0 + 0 ≤ (headSpec (zz_ws y_Pr_jumpAndLinkRegister b_Pr_jumpAndLinkRegister 2 (some .int)) rm_Pr_jumpAndLinkRegister).room.slots := ⟨Nat.le_of_ble_eq_true rfl, Nat.le_of_ble_eq_true rfl⟩
  subst hsz
  have hD := hD0.self (sz := s.heap.size)
  generalize hAe : va_A (wP qp qr qh qm qw qu qf ql qo cI ms mn g rg hq mf cd fg L O) s.heap.size = A at hD ⊢
  have hA : ∀ q : Nat, s.heap.size ≤ q → A q := fun q h => by rw [← hAe]; exact Or.inr h
  have hS : va_S A s.heap s.heap [] := va_S.rf
  have hl := lv_entry ([.ref qp, .int a0]) (n := 2) (Nat.le_of_ble_eq_true rfl)
  rw [lg_entry_eq]
  generalize (lg_sl ([.ref qp, .int a0]) ++ List.replicate (2 - (lg_sl ([.ref qp, .int a0])).length) Slot.unset).toArray = ls at hl ⊢
  have hl : lv_has ls 2 [(0, .ref qp), (1, .int a0)] := hl
  refine lv_aload_n hx hb d_Pr_jumpAndLinkRegister_0 rfl (lv_at hl 0 rfl) ?_
  refine g_Pr_68 (v := .int (g 2)) hx hb hT hown hK hP 0 rfl rfl d_Pr_jumpAndLinkRegister_1 ?_
  refine lv_if_ne (tgt := 18) hx hb d_Pr_jumpAndLinkRegister_4 (by decide) (fun c_1 => ?_) (fun c_1 => ?_)
  · skip
    have h := h.2 c_1
    refine lv_bipush (v := 8) hx hb d_Pr_jumpAndLinkRegister_18 (by decide) ?_
    exact W.iret (v := (8 : Int32)) hx hb hr (fun t ht hW => ⟨⟨(8 : Int32), (g, rg, hq, mf, cd, fg, L, O), rfl, h, by rw [ht]; exact hP, hD⟩, hS.F ht⟩) hS.2.2 d_Pr_jumpAndLinkRegister_20
  · skip
    have h := h.1 c_1
    refine lv_iload_n hx hb d_Pr_jumpAndLinkRegister_7 rfl (lv_at hl 1 rfl) ?_
    refine zz_Si (As := [.int a0]) (rest := []) X (c_Pr_rd l a0 _ h) ⟨rfl, rfl⟩ m_Pr_rd k_Pr_158 ⟨Nat.le_of_ble_eq_true rfl, Nat.le_of_ble_eq_true rfl⟩ rfl hl.1 rfl (Nat.le_of_ble_eq_true rfl) d_Pr_jumpAndLinkRegister_8 hf0 (fun r_2 h => ?_)
    refine lv_iload_n hx hb d_Pr_jumpAndLinkRegister_11 rfl (lv_at hl 1 rfl) ?_
    refine zz_Si (As := [.int a0]) (rest := [.int r_2]) X (c_Pr_rs l a0 _ h) ⟨rfl, rfl⟩ m_Pr_rs k_Pr_83 ⟨Nat.le_of_ble_eq_true rfl, Nat.le_of_ble_eq_true rfl⟩ rfl hl.1 rfl (Nat.le_of_ble_eq_true rfl) d_Pr_jumpAndLinkRegister_12 hf0 (fun r_3 h => ?_)
    refine lv_icmp_ne (tgt := 21) hx hb d_Pr_jumpAndLinkRegister_15 (by decide) (fun c_4 => ?_) (fun c_4 => ?_)
    · skip
      have h := h.2 c_4
      refine lv_aload_n hx hb d_Pr_jumpAndLinkRegister_21 rfl (lv_at hl 0 rfl) ?_
      refine lv_iload_n hx hb d_Pr_jumpAndLinkRegister_22 rfl (lv_at hl 1 rfl) ?_
      refine zz_Si (As := [.int a0]) (rest := [.ref qp]) X (c_Pr_rd l a0 _ h) ⟨rfl, rfl⟩ m_Pr_rd k_Pr_158 ⟨Nat.le_of_ble_eq_true rfl, Nat.le_of_ble_eq_true rfl⟩ rfl hl.1 rfl (Nat.le_of_ble_eq_true rfl) d_Pr_jumpAndLinkRegister_23 hf0 (fun r_5 h => ?_)
      refine lv_aload_n hx hb d_Pr_jumpAndLinkRegister_26 rfl (lv_at hl 0 rfl) ?_
      refine g_Pr_48 (v := .int (g 0)) hx hb hT hown hK hP 0 rfl rfl d_Pr_jumpAndLinkRegister_27 ?_
      refine lv_bipush (v := 8) hx hb d_Pr_jumpAndLinkRegister_30 (by decide) ?_
      refine lv_iadd hx hb d_Pr_jumpAndLinkRegister_32 ?_
      refine zz_Wv (As := [.int r_5, .int ((g 0) + (8 : Int32))]) (rest := []) (wc := wP qp qr qh qm qw qu qf ql qo cI ms mn g rg hq mf cd fg L O) (wr := []) X hK hP hD hS hA (c_Pr_write l D cI qp qr qh qm qw qu qf ql qo ms mn g rg hq mf cd fg L O r_5 ((g 0) + (8 : Int32)) _ h _) ⟨rfl, rfl⟩ m_Pr_write k_Pr_245 ⟨Nat.le_of_ble_eq_true rfl, Nat.le_of_ble_eq_true rfl⟩ [0, 1, 2, 3, 4, 5, 6, 7, 8] [] rfl rfl (by decide) (by decide) (by decide) 4 0 rfl rfl rfl rfl hl.1 rfl (Nat.le_of_ble_eq_true rfl) d_Pr_jumpAndLinkRegister_33 hf0 (fun u_6 H locs h hP hD hS => ?_)
      have hP : va_P D vwCl (wP qp qr qh qm qw qu qf ql qo cI ms mn u_6.1 u_6.2.1 u_6.2.2.1 u_6.2.2.2.1 u_6.2.2.2.2.1 u_6.2.2.2.2.2.1 u_6.2.2.2.2.2.2.1 u_6.2.2.2.2.2.2.2) H := hP.sub [0, 1, 2, 3, 4, 5, 6, 7, 8] rfl
      have hD : va_D A (wP qp qr qh qm qw qu qf ql qo cI ms mn u_6.1 u_6.2.1 u_6.2.2.1 u_6.2.2.2.1 u_6.2.2.2.2.1 u_6.2.2.2.2.2.1 u_6.2.2.2.2.2.2.1 u_6.2.2.2.2.2.2.2) := hD.sub [0, 1, 2, 3, 4, 5, 6, 7, 8] (by decide) rfl
      refine lv_aload_n hx hb d_Pr_jumpAndLinkRegister_36 rfl (lv_at hl 0 rfl) ?_
      refine lv_aload_n hx hb d_Pr_jumpAndLinkRegister_37 rfl (lv_at hl 0 rfl) ?_
      refine g_Pr_9 (v := .ref qr) hx hb hT hown hK hP 0 rfl rfl d_Pr_jumpAndLinkRegister_38 ?_
      refine lv_iload_n hx hb d_Pr_jumpAndLinkRegister_41 rfl (lv_at hl 1 rfl) ?_
      refine zz_Si (As := [.int a0]) (rest := [.ref qr, .ref qp]) X (c_Pr_rs l a0 _ h) ⟨rfl, rfl⟩ m_Pr_rs k_Pr_83 ⟨Nat.le_of_ble_eq_true rfl, Nat.le_of_ble_eq_true rfl⟩ rfl hl.1 rfl (Nat.le_of_ble_eq_true rfl) d_Pr_jumpAndLinkRegister_42 hf0 (fun r_8 h => ?_)
      refine va_iald (f := u_6.2.1) hx hb hK hP 1 0 rfl rfl h.1 d_Pr_jumpAndLinkRegister_45 ?_
      have h := h.2
      refine lv_topi (fun x_9 ex_9 => ?_)
      have h := h x_9 ex_9
      refine zz_Wi (As := [.int x_9]) (rest := []) (wc := wP qp qr qh qm qw qu qf ql qo cI ms mn u_6.1 u_6.2.1 u_6.2.2.1 u_6.2.2.2.1 u_6.2.2.2.2.1 u_6.2.2.2.2.2.1 u_6.2.2.2.2.2.2.1 u_6.2.2.2.2.2.2.2) (wr := []) X hK hP hD hS hA (c_Pr_leave l D cI qp qr qh qm qw qu qf ql qo ms mn u_6.1 u_6.2.1 u_6.2.2.1 u_6.2.2.2.1 u_6.2.2.2.2.1 u_6.2.2.2.2.2.1 u_6.2.2.2.2.2.2.1 u_6.2.2.2.2.2.2.2 x_9 _ h _) ⟨rfl, rfl⟩ m_Pr_leave k_Pr_172 ⟨Nat.le_of_ble_eq_true rfl, Nat.le_of_ble_eq_true rfl⟩ [0, 1, 2, 3, 4, 5, 6, 7, 8] [] rfl rfl (by decide) (by decide) (by decide) 4 0 rfl rfl rfl rfl hl.1 rfl (Nat.le_of_ble_eq_true rfl) d_Pr_jumpAndLinkRegister_46 hf0 (fun r_11 u_10 H locs h hP hD hS => ?_)
      have hP : va_P D vwCl (wP qp qr qh qm qw qu qf ql qo cI ms mn u_10.1 u_10.2.1 u_10.2.2.1 u_10.2.2.2.1 u_10.2.2.2.2.1 u_10.2.2.2.2.2.1 u_10.2.2.2.2.2.2.1 u_10.2.2.2.2.2.2.2) H := hP.sub [0, 1, 2, 3, 4, 5, 6, 7, 8] rfl
      have hD : va_D A (wP qp qr qh qm qw qu qf ql qo cI ms mn u_10.1 u_10.2.1 u_10.2.2.1 u_10.2.2.2.1 u_10.2.2.2.2.1 u_10.2.2.2.2.2.1 u_10.2.2.2.2.2.2.1 u_10.2.2.2.2.2.2.2) := hD.sub [0, 1, 2, 3, 4, 5, 6, 7, 8] (by decide) rfl
      exact W.iret (v := r_11) hx hb hr (fun t ht hW => ⟨⟨r_11, (u_10.1, u_10.2.1, u_10.2.2.1, u_10.2.2.2.1, u_10.2.2.2.2.1, u_10.2.2.2.2.2.1, u_10.2.2.2.2.2.2.1, u_10.2.2.2.2.2.2.2), rfl, h, by rw [ht]; exact hP, hD⟩, hS.F ht⟩) hS.2.2 d_Pr_jumpAndLinkRegister_49
    · skip
      have h := h.1 c_4
      refine lv_bipush (v := 8) hx hb d_Pr_jumpAndLinkRegister_18 (by decide) ?_
      exact W.iret (v := (8 : Int32)) hx hb hr (fun t ht hW => ⟨⟨(8 : Int32), (g, rg, hq, mf, cd, fg, L, O), rfl, h, by rw [ht]; exact hP, hD⟩, hS.F ht⟩) hS.2.2 d_Pr_jumpAndLinkRegister_20
def wp_Pr_call (ms : Int32) (mn : Nat) (g : Nat → Int32) (rg : Nat → Int32) (hq : Nat → Int32) (mf : Nat → Int32) (cd : Int32) (fg : Nat → Int32) (L : Int32 × Int32 × Int32 × Int64) (O : Int32 × Int32 × Int32 × Int64) (a0 : Int32) (a1 : Int32) (P : Int32 → ((Nat → Int32) × (Nat → Int32) × (Nat → Int32) × (Nat → Int32) × Int32 × (Nat → Int32) × (Int32 × Int32 × Int32 × Int64) × (Int32 × Int32 × Int32 × Int64)) → Prop) : Prop := ∀ x_1 : Int32, x_1 = ((zz_ushr a0 (6 : Int32)) &&& (1048575 : Int32)) → P a1 ((upd g 6 x_1), rg, hq, mf, cd, fg, L, O)
abbrev rm_Pr_call : Room := { frames := 0, cells := 0, slots := 0, locals := 0 }
set_option maxHeartbeats 4000000 in
set_option maxRecDepth 100000 in
theorem c_Pr_call (l : Launch) (D : va_G) (cI : ClassId) (qp : Nat) (qr : Nat) (qh : Nat) (qm : Nat) (qw : Nat) (qu : Nat) (qf : Nat) (ql : Nat) (qo : Nat) (ms : Int32) (mn : Nat) (g : Nat → Int32) (rg : Nat → Int32) (hq : Nat → Int32) (mf : Nat → Int32) (cd : Int32) (fg : Nat → Int32) (L : Int32 × Int32 × Int32 × Int64) (O : Int32 × Int32 × Int32 × Int64) (a0 : Int32) (a1 : Int32) (P : Int32 → ((Nat → Int32) × (Nat → Int32) × (Nat → Int32) × (Nat → Int32) × Int32 × (Nat → Int32) × (Int32 × Int32 × Int32 × Int64) × (Int32 × Int32 × Int32 × Int64)) → Prop) (h : wp_Pr_call ms mn g rg hq mf cd fg L O a0 a1 P) (sz : Nat) : Met l y_Pr_call (zz_ws y_Pr_call b_Pr_call 3 (some .int)) rm_Pr_call (va_Pc [.ref qp, .int a0, .int a1] (zz_pw D [(cI, .int)] (wP qp qr qh qm qw qu qf ql qo cI ms mn g rg hq mf cd fg L O) sz)) (va_Qi P (zz_qw D (fun u => wP qp qr qh qm qw qu qf ql qo cI ms mn u.1 u.2.1 u.2.2.1 u.2.2.2.1 u.2.2.2.2.1 u.2.2.2.2.2.1 u.2.2.2.2.2.2.1 u.2.2.2.2.2.2.2) (va_A (wP qp qr qh qm qw qu qf ql qo cI ms mn g rg hq mf cd fg L O) sz)) (va_A (wP qp qr qh qm qw qu qf ql qo cI ms mn g rg hq mf cd fg L O) sz)) 0 0 (va_A (wP qp qr qh qm qw qu qf ql qo cI ms mn g rg hq mf cd fg L O) sz) := by
  refine Met.ofW (cc := b_Pr_call) (maxL := 3) (ret := (some .int)) (by decide) rfl ?_
  intro p e s m args below meth c s₁ B hml hv
  obtain ⟨rfl, hsz, hP, hK, hD0⟩ := hv
  have hx := B.exec
  have hb := B.bytes
  have hr := B.returns
  have hts := atoms_spec (ws := (zz_ws y_Pr_call b_Pr_call 3 (some .int))) B.pre
  have hown : s.vm.findClass R_Pr = some m.cls := findClass_of_methodNamed B.named
  have hlocks := B.notSynchronized
  have hT := zz_hts hts
  have X : CallFix p m c b_Pr_call 3 s ([.ref qp, .int a0, .int a1] : List Value).toArray (zz_ws y_Pr_call b_Pr_call 3 (some .int)) R_Pr := ⟨hx, hb, hml, hown, hts⟩
  have hf0 : 0 + 0 ≤ (headSpec (zz_ws y_Pr_call b_Pr_call 3 (some .int)) rm_Pr_call).room.cells ∧ 0 + 0 ≤ (headSpec (zz_ws y_Pr_call b_Pr_call 3 (some .int)) rm_Pr_call).room.slots := ⟨Nat.le_of_ble_eq_true rfl, Nat.le_of_ble_eq_true rfl⟩
  subst hsz
  have hD := hD0.self (sz := s.heap.size)
  generalize hAe : va_A (wP qp qr qh qm qw qu qf ql qo cI ms mn g rg hq mf cd fg L O) s.heap.size = A at hD ⊢
  have hA : ∀ q : Nat, s.heap.size ≤ q → A q := fun q h => by rw [← hAe]; exact Or.inr h
  have hS : va_S A s.heap s.heap [] := va_S.rf
  have hl := lv_entry ([.ref qp, .int a0, .int a1]) (n := 3) (Nat.le_of_ble_eq_true rfl)
  rw [lg_entry_eq]
  generalize (lg_sl ([.ref qp, .int a0, .int a1]) ++ List.replicate (3 - (lg_sl ([.ref qp, .int a0, .int a1])).length) Slot.unset).toArray = ls at hl ⊢
  have hl : lv_has ls 3 [(0, .ref qp), (1, .int a0), (2, .int a1)] := hl
  refine lv_aload_n hx hb d_Pr_call_0 rfl (lv_at hl 0 rfl) ?_
  refine lv_iload_n hx hb d_Pr_call_1 rfl (lv_at hl 1 rfl) ?_
  refine lv_bipush (v := 6) hx hb d_Pr_call_2 (by decide) ?_
  refine zz_iushr hx hb d_Pr_call_4 ?_
  refine lv_ldc (v := 1048575) hx hb hown (hT _ n_Pr_181) d_Pr_call_5 ?_
  refine lv_iand hx hb d_Pr_call_7 ?_
  refine lv_topi (fun x_1 ex_1 => ?_)
  have h := h x_1 ex_1
  refine p_Pr_182 hx hb hT hown hK hP hD hS 0 rfl rfl d_Pr_call_8 (fun H locs (hP : va_P D vwCl (wP qp qr qh qm qw qu qf ql qo cI ms mn (upd g 6 x_1) rg hq mf cd fg L O) H) (hD : va_D A (wP qp qr qh qm qw qu qf ql qo cI ms mn (upd g 6 x_1) rg hq mf cd fg L O)) hS => ?_)
  refine lv_iload_n hx hb d_Pr_call_11 rfl (lv_at hl 2 rfl) ?_
  exact W.iret (v := a1) hx hb hr (fun t ht hW => ⟨⟨a1, ((upd g 6 x_1), rg, hq, mf, cd, fg, L, O), rfl, h, by rw [ht]; exact hP, hD⟩, hS.F ht⟩) hS.2.2 d_Pr_call_12
def wp_Pr_jumpOrMoveOrCall (ms : Int32) (mn : Nat) (g : Nat → Int32) (rg : Nat → Int32) (hq : Nat → Int32) (mf : Nat → Int32) (cd : Int32) (fg : Nat → Int32) (L : Int32 × Int32 × Int32 × Int64) (O : Int32 × Int32 × Int32 × Int64) (a0 : Int32) (P : Int32 → ((Nat → Int32) × (Nat → Int32) × (Nat → Int32) × (Nat → Int32) × Int32 × (Nat → Int32) × (Int32 × Int32 × Int32 × Int64) × (Int32 × Int32 × Int32 × Int64)) → Prop) : Prop := wp_Pr_function a0 (fun r_1 => (((r_1 = (8 : Int32)) → (((g 2) = (0 : Int32) → wp_Pr_rs a0 (fun r_4 => vp_in r_4 32 ∧ ∀ x_5 : Int32, x_5 = (rg r_4.toNatClampNeg) → wp_Pr_leave ms mn g rg hq mf cd fg L O x_5 (fun r_7 u_6 => P r_7 (u_6.1, u_6.2.1, u_6.2.2.1, u_6.2.2.2.1, u_6.2.2.2.2.1, u_6.2.2.2.2.2.1, u_6.2.2.2.2.2.2.1, u_6.2.2.2.2.2.2.2)))) ∧ (¬ (g 2) = (0 : Int32) → P (8 : Int32) (g, rg, hq, mf, cd, fg, L, O)))) ∧ (¬ (r_1 = (8 : Int32)) → (((r_1 = (9 : Int32)) → wp_Pr_jumpAndLinkRegister ms mn g rg hq mf cd fg L O a0 (fun r_10 u_9 => P r_10 (u_9.1, u_9.2.1, u_9.2.2.1, u_9.2.2.2.1, u_9.2.2.2.2.1, u_9.2.2.2.2.2.1, u_9.2.2.2.2.2.2.1, u_9.2.2.2.2.2.2.2))) ∧ (¬ (r_1 = (9 : Int32)) → (((r_1 = (10 : Int32)) → wp_Pr_rt a0 (fun r_12 => vp_in r_12 32 ∧ ∀ x_13 : Int32, x_13 = (rg r_12.toNatClampNeg) → ((x_13 = (0 : Int32) → wp_Pr_moveIf ms mn g rg hq mf cd fg L O a0 (1 : Int32) (fun r_18 u_17 => P r_18 (u_17.1, u_17.2.1, u_17.2.2.1, u_17.2.2.2.1, u_17.2.2.2.2.1, u_17.2.2.2.2.2.1, u_17.2.2.2.2.2.2.1, u_17.2.2.2.2.2.2.2))) ∧ (¬ x_13 = (0 : Int32) → wp_Pr_moveIf ms mn g rg hq mf cd fg L O a0 (0 : Int32) (fun r_16 u_15 => P r_16 (u_15.1, u_15.2.1, u_15.2.2.1, u_15.2.2.2.1, u_15.2.2.2.2.1, u_15.2.2.2.2.2.1, u_15.2.2.2.2.2.2.1, u_15.2.2.2.2.2.2.2)))))) ∧ (¬ (r_1 = (10 : Int32)) → (((r_1 = (11 : Int32)) → wp_Pr_rt a0 (fun r_20 => vp_in r_20 32 ∧ ∀ x_21 : Int32, x_21 = (rg r_20.toNatClampNeg) → ((x_21 = (0 : Int32) → wp_Pr_moveIf ms mn g rg hq mf cd fg L O a0 (0 : Int32) (fun r_24 u_23 => P r_24 (u_23.1, u_23.2.1, u_23.2.2.1, u_23.2.2.2.1, u_23.2.2.2.2.1, u_23.2.2.2.2.2.1, u_23.2.2.2.2.2.2.1, u_23.2.2.2.2.2.2.2))) ∧ (¬ x_21 = (0 : Int32) → wp_Pr_moveIf ms mn g rg hq mf cd fg L O a0 (1 : Int32) (fun r_26 u_25 => P r_26 (u_25.1, u_25.2.1, u_25.2.2.1, u_25.2.2.2.1, u_25.2.2.2.2.1, u_25.2.2.2.2.2.1, u_25.2.2.2.2.2.2.1, u_25.2.2.2.2.2.2.2)))))) ∧ (¬ (r_1 = (11 : Int32)) → (((r_1 = (12 : Int32)) → wp_Pr_call ms mn g rg hq mf cd fg L O a0 (7 : Int32) (fun r_29 u_28 => P r_29 (u_28.1, u_28.2.1, u_28.2.2.1, u_28.2.2.2.1, u_28.2.2.2.2.1, u_28.2.2.2.2.2.1, u_28.2.2.2.2.2.2.1, u_28.2.2.2.2.2.2.2))) ∧ (¬ (r_1 = (12 : Int32)) → (((r_1 = (13 : Int32)) → wp_Pr_call ms mn g rg hq mf cd fg L O a0 (6 : Int32) (fun r_32 u_31 => P r_32 (u_31.1, u_31.2.1, u_31.2.2.1, u_31.2.2.2.1, u_31.2.2.2.2.1, u_31.2.2.2.2.2.1, u_31.2.2.2.2.2.2.1, u_31.2.2.2.2.2.2.2))) ∧ (¬ (r_1 = (13 : Int32)) → (((r_1 = (15 : Int32)) → P (0 : Int32) (g, rg, hq, mf, cd, fg, L, O)) ∧ (¬ (r_1 = (15 : Int32)) → P (3 : Int32) (g, rg, hq, mf, cd, fg, L, O))))))))))))))))
abbrev rm_Pr_jumpOrMoveOrCall : Room := { frames := 3, cells := 0, slots := 0, locals := 66 }
set_option maxHeartbeats 4000000 in
set_option maxRecDepth 100000 in
theorem c_Pr_jumpOrMoveOrCall (l : Launch) (D : va_G) (cI : ClassId) (qp : Nat) (qr : Nat) (qh : Nat) (qm : Nat) (qw : Nat) (qu : Nat) (qf : Nat) (ql : Nat) (qo : Nat) (ms : Int32) (mn : Nat) (g : Nat → Int32) (rg : Nat → Int32) (hq : Nat → Int32) (mf : Nat → Int32) (cd : Int32) (fg : Nat → Int32) (L : Int32 × Int32 × Int32 × Int64) (O : Int32 × Int32 × Int32 × Int64) (a0 : Int32) (P : Int32 → ((Nat → Int32) × (Nat → Int32) × (Nat → Int32) × (Nat → Int32) × Int32 × (Nat → Int32) × (Int32 × Int32 × Int32 × Int64) × (Int32 × Int32 × Int32 × Int64)) → Prop) (h : wp_Pr_jumpOrMoveOrCall ms mn g rg hq mf cd fg L O a0 P) (sz : Nat) : Met l y_Pr_jumpOrMoveOrCall (zz_ws y_Pr_jumpOrMoveOrCall b_Pr_jumpOrMoveOrCall 2 (some .int)) rm_Pr_jumpOrMoveOrCall (va_Pc [.ref qp, .int a0] (zz_pw D [(cI, .int)] (wP qp qr qh qm qw qu qf ql qo cI ms mn g rg hq mf cd fg L O) sz)) (va_Qi P (zz_qw D (fun u => wP qp qr qh qm qw qu qf ql qo cI ms mn u.1 u.2.1 u.2.2.1 u.2.2.2.1 u.2.2.2.2.1 u.2.2.2.2.2.1 u.2.2.2.2.2.2.1 u.2.2.2.2.2.2.2) (va_A (wP qp qr qh qm qw qu qf ql qo cI ms mn g rg hq mf cd fg L O) sz)) (va_A (wP qp qr qh qm qw qu qf ql qo cI ms mn g rg hq mf cd fg L O) sz)) 0 0 (va_A (wP qp qr qh qm qw qu qf ql qo cI ms mn g rg hq mf cd fg L O) sz) := by
  refine Met.ofW (cc := b_Pr_jumpOrMoveOrCall) (maxL := 2) (ret := (some .int)) (by decide) rfl ?_
  intro p e s m args below meth c s₁ B hml hv
  obtain ⟨rfl, hsz, hP, hK, hD0⟩ := hv
  have hx := B.exec
  have hb := B.bytes
  have hr := B.returns
  have hts := atoms_spec (ws := (zz_ws y_Pr_jumpOrMoveOrCall b_Pr_jumpOrMoveOrCall 2 (some .int))) B.pre
  have hown : s.vm.findClass R_Pr = some m.cls := findClass_of_methodNamed B.named
  have hlocks := B.notSynchronized
  have hT := zz_hts hts
  have X : CallFix p m c b_Pr_jumpOrMoveOrCall 2 s ([.ref qp, .int a0] : List Value).toArray (zz_ws y_Pr_jumpOrMoveOrCall b_Pr_jumpOrMoveOrCall 2 (some .int)) R_Pr := ⟨hx, hb, hml, hown, hts⟩
  have hf0 : 0 + 0 ≤ (headSpec (zz_ws y_Pr_jumpOrMoveOrCall b_Pr_jumpOrMoveOrCall 2 (some .int)) rm_Pr_jumpOrMoveOrCall).room.cells ∧ 0 + 0 ≤ (headSpec (zz_ws y_Pr_jumpOrMoveOrCall b_Pr_jumpOrMoveOrCall 2 (some .int)) rm_Pr_jumpOrMoveOrCall).room.slots := ⟨Nat.le_of_ble_eq_true rfl, Nat.le_of_ble_eq_true rfl⟩
  subst hsz
  have hD := hD0.self (sz := s.heap.size)
  generalize hAe : va_A (wP qp qr qh qm qw qu qf ql qo cI ms mn g rg hq mf cd fg L O) s.heap.size = A at hD ⊢
  have hA : ∀ q : Nat, s.heap.size ≤ q → A q := fun q h => by rw [← hAe]; exact Or.inr h
  have hS : va_S A s.heap s.heap [] := va_S.rf
  have hl := lv_entry ([.ref qp, .int a0]) (n := 2) (Nat.le_of_ble_eq_true rfl)
  rw [lg_entry_eq]
  generalize (lg_sl ([.ref qp, .int a0]) ++ List.replicate (2 - (lg_sl ([.ref qp, .int a0])).length) Slot.unset).toArray = ls at hl ⊢
  have hl : lv_has ls 2 [(0, .ref qp), (1, .int a0)] := hl
  refine lv_iload_n hx hb d_Pr_jumpOrMoveOrCall_0 rfl (lv_at hl 1 rfl) ?_
  refine zz_Si (As := [.int a0]) (rest := []) X (c_Pr_function l a0 _ h) ⟨rfl, rfl⟩ m_Pr_function k_Pr_136 ⟨Nat.le_of_ble_eq_true rfl, Nat.le_of_ble_eq_true rfl⟩ rfl hl.1 rfl (Nat.le_of_ble_eq_true rfl) d_Pr_jumpOrMoveOrCall_1 hf0 (fun r_1 h => ?_)
  by_cases c_2 : r_1 = (8 : Int32)
  · have h := h.1 c_2
    have h0 := c_2
    refine lv_tableIn (off := 48) (tgt := 52) hx hb d_Pr_jumpOrMoveOrCall_4 (by rw [h0]; decide) (by rw [h0]; decide) (by rw [h0]; rfl) (by decide) ?_
    refine lv_aload_n hx hb d_Pr_jumpOrMoveOrCall_52 rfl (lv_at hl 0 rfl) ?_
    refine g_Pr_68 (v := .int (g 2)) hx hb hT hown hK hP 0 rfl rfl d_Pr_jumpOrMoveOrCall_53 ?_
    refine lv_if_eq (tgt := 64) hx hb d_Pr_jumpOrMoveOrCall_56 (by decide) (fun c_3 => ?_) (fun c_3 => ?_)
    · skip
      have h := h.1 c_3
      refine lv_aload_n hx hb d_Pr_jumpOrMoveOrCall_64 rfl (lv_at hl 0 rfl) ?_
      refine lv_aload_n hx hb d_Pr_jumpOrMoveOrCall_65 rfl (lv_at hl 0 rfl) ?_
      refine g_Pr_9 (v := .ref qr) hx hb hT hown hK hP 0 rfl rfl d_Pr_jumpOrMoveOrCall_66 ?_
      refine lv_iload_n hx hb d_Pr_jumpOrMoveOrCall_69 rfl (lv_at hl 1 rfl) ?_
      refine zz_Si (As := [.int a0]) (rest := [.ref qr, .ref qp]) X (c_Pr_rs l a0 _ h) ⟨rfl, rfl⟩ m_Pr_rs k_Pr_83 ⟨Nat.le_of_ble_eq_true rfl, Nat.le_of_ble_eq_true rfl⟩ rfl hl.1 rfl (Nat.le_of_ble_eq_true rfl) d_Pr_jumpOrMoveOrCall_70 hf0 (fun r_4 h => ?_)
      refine va_iald (f := rg) hx hb hK hP 1 0 rfl rfl h.1 d_Pr_jumpOrMoveOrCall_73 ?_
      have h := h.2
      refine lv_topi (fun x_5 ex_5 => ?_)
      have h := h x_5 ex_5
      refine zz_Wi (As := [.int x_5]) (rest := []) (wc := wP qp qr qh qm qw qu qf ql qo cI ms mn g rg hq mf cd fg L O) (wr := []) X hK hP hD hS hA (c_Pr_leave l D cI qp qr qh qm qw qu qf ql qo ms mn g rg hq mf cd fg L O x_5 _ h _) ⟨rfl, rfl⟩ m_Pr_leave k_Pr_172 ⟨Nat.le_of_ble_eq_true rfl, Nat.le_of_ble_eq_true rfl⟩ [0, 1, 2, 3, 4, 5, 6, 7, 8] [] rfl rfl (by decide) (by decide) (by decide) 4 0 rfl rfl rfl rfl hl.1 rfl (Nat.le_of_ble_eq_true rfl) d_Pr_jumpOrMoveOrCall_74 hf0 (fun r_7 u_6 H locs h hP hD hS => ?_)
      have hP : va_P D vwCl (wP qp qr qh qm qw qu qf ql qo cI ms mn u_6.1 u_6.2.1 u_6.2.2.1 u_6.2.2.2.1 u_6.2.2.2.2.1 u_6.2.2.2.2.2.1 u_6.2.2.2.2.2.2.1 u_6.2.2.2.2.2.2.2) H := hP.sub [0, 1, 2, 3, 4, 5, 6, 7, 8] rfl
      have hD : va_D A (wP qp qr qh qm qw qu qf ql qo cI ms mn u_6.1 u_6.2.1 u_6.2.2.1 u_6.2.2.2.1 u_6.2.2.2.2.1 u_6.2.2.2.2.2.1 u_6.2.2.2.2.2.2.1 u_6.2.2.2.2.2.2.2) := hD.sub [0, 1, 2, 3, 4, 5, 6, 7, 8] (by decide) rfl
      exact W.iret (v := r_7) hx hb hr (fun t ht hW => ⟨⟨r_7, (u_6.1, u_6.2.1, u_6.2.2.1, u_6.2.2.2.1, u_6.2.2.2.2.1, u_6.2.2.2.2.2.1, u_6.2.2.2.2.2.2.1, u_6.2.2.2.2.2.2.2), rfl, h, by rw [ht]; exact hP, hD⟩, hS.F ht⟩) hS.2.2 d_Pr_jumpOrMoveOrCall_77
    · skip
      have h := h.2 c_3
      refine lv_bipush (v := 8) hx hb d_Pr_jumpOrMoveOrCall_59 (by decide) ?_
      refine lv_goto (tgt := 77) hx hb d_Pr_jumpOrMoveOrCall_61 (by decide) ?_
      exact W.iret (v := (8 : Int32)) hx hb hr (fun t ht hW => ⟨⟨(8 : Int32), (g, rg, hq, mf, cd, fg, L, O), rfl, h, by rw [ht]; exact hP, hD⟩, hS.F ht⟩) hS.2.2 d_Pr_jumpOrMoveOrCall_77
  · have h := h.2 c_2
    by_cases c_8 : r_1 = (9 : Int32)
    · have h := h.1 c_8
      have h0 := c_8
      refine lv_tableIn (off := 74) (tgt := 78) hx hb d_Pr_jumpOrMoveOrCall_4 (by rw [h0]; decide) (by rw [h0]; decide) (by rw [h0]; rfl) (by decide) ?_
      refine lv_aload_n hx hb d_Pr_jumpOrMoveOrCall_78 rfl (lv_at hl 0 rfl) ?_
      refine lv_iload_n hx hb d_Pr_jumpOrMoveOrCall_79 rfl (lv_at hl 1 rfl) ?_
      refine zz_Wi (As := [.int a0]) (rest := []) (wc := wP qp qr qh qm qw qu qf ql qo cI ms mn g rg hq mf cd fg L O) (wr := []) X hK hP hD hS hA (c_Pr_jumpAndLinkRegister l D cI qp qr qh qm qw qu qf ql qo ms mn g rg hq mf cd fg L O a0 _ h _) ⟨rfl, rfl⟩ m_Pr_jumpAndLinkRegister k_Pr_175 ⟨Nat.le_of_ble_eq_true rfl, Nat.le_of_ble_eq_true rfl⟩ [0, 1, 2, 3, 4, 5, 6, 7, 8] [] rfl rfl (by decide) (by decide) (by decide) 4 0 rfl rfl rfl rfl hl.1 rfl (Nat.le_of_ble_eq_true rfl) d_Pr_jumpOrMoveOrCall_80 hf0 (fun r_10 u_9 H locs h hP hD hS => ?_)
      have hP : va_P D vwCl (wP qp qr qh qm qw qu qf ql qo cI ms mn u_9.1 u_9.2.1 u_9.2.2.1 u_9.2.2.2.1 u_9.2.2.2.2.1 u_9.2.2.2.2.2.1 u_9.2.2.2.2.2.2.1 u_9.2.2.2.2.2.2.2) H := hP.sub [0, 1, 2, 3, 4, 5, 6, 7, 8] rfl
      have hD : va_D A (wP qp qr qh qm qw qu qf ql qo cI ms mn u_9.1 u_9.2.1 u_9.2.2.1 u_9.2.2.2.1 u_9.2.2.2.2.1 u_9.2.2.2.2.2.1 u_9.2.2.2.2.2.2.1 u_9.2.2.2.2.2.2.2) := hD.sub [0, 1, 2, 3, 4, 5, 6, 7, 8] (by decide) rfl
      exact W.iret (v := r_10) hx hb hr (fun t ht hW => ⟨⟨r_10, (u_9.1, u_9.2.1, u_9.2.2.1, u_9.2.2.2.1, u_9.2.2.2.2.1, u_9.2.2.2.2.2.1, u_9.2.2.2.2.2.2.1, u_9.2.2.2.2.2.2.2), rfl, h, by rw [ht]; exact hP, hD⟩, hS.F ht⟩) hS.2.2 d_Pr_jumpOrMoveOrCall_83
    · have h := h.2 c_8
      by_cases c_11 : r_1 = (10 : Int32)
      · have h := h.1 c_11
        have h0 := c_11
        refine lv_tableIn (off := 80) (tgt := 84) hx hb d_Pr_jumpOrMoveOrCall_4 (by rw [h0]; decide) (by rw [h0]; decide) (by rw [h0]; rfl) (by decide) ?_
        refine lv_aload_n hx hb d_Pr_jumpOrMoveOrCall_84 rfl (lv_at hl 0 rfl) ?_
        refine lv_iload_n hx hb d_Pr_jumpOrMoveOrCall_85 rfl (lv_at hl 1 rfl) ?_
        refine lv_aload_n hx hb d_Pr_jumpOrMoveOrCall_86 rfl (lv_at hl 0 rfl) ?_
        refine g_Pr_9 (v := .ref qr) hx hb hT hown hK hP 0 rfl rfl d_Pr_jumpOrMoveOrCall_87 ?_
        refine lv_iload_n hx hb d_Pr_jumpOrMoveOrCall_90 rfl (lv_at hl 1 rfl) ?_
        refine zz_Si (As := [.int a0]) (rest := [.ref qr, .int a0, .ref qp]) X (c_Pr_rt l a0 _ h) ⟨rfl, rfl⟩ m_Pr_rt k_Pr_89 ⟨Nat.le_of_ble_eq_true rfl, Nat.le_of_ble_eq_true rfl⟩ rfl hl.1 rfl (Nat.le_of_ble_eq_true rfl) d_Pr_jumpOrMoveOrCall_91 hf0 (fun r_12 h => ?_)
        refine va_iald (f := rg) hx hb hK hP 1 0 rfl rfl h.1 d_Pr_jumpOrMoveOrCall_94 ?_
        have h := h.2
        refine lv_topi (fun x_13 ex_13 => ?_)
        have h := h x_13 ex_13
        refine lv_if_ne (tgt := 102) hx hb d_Pr_jumpOrMoveOrCall_95 (by decide) (fun c_14 => ?_) (fun c_14 => ?_)
        · skip
          have h := h.2 c_14
          refine lv_iconst (v := 0) hx hb d_Pr_jumpOrMoveOrCall_102 (by decide) ?_
          refine zz_Wi (As := [.int a0, .int (0 : Int32)]) (rest := []) (wc := wP qp qr qh qm qw qu qf ql qo cI ms mn g rg hq mf cd fg L O) (wr := []) X hK hP hD hS hA (c_Pr_moveIf l D cI qp qr qh qm qw qu qf ql qo ms mn g rg hq mf cd fg L O a0 (0 : Int32) _ h _) ⟨rfl, rfl⟩ m_Pr_moveIf k_Pr_168 ⟨Nat.le_of_ble_eq_true rfl, Nat.le_of_ble_eq_true rfl⟩ [0, 1, 2, 3, 4, 5, 6, 7, 8] [] rfl rfl (by decide) (by decide) (by decide) 4 0 rfl rfl rfl rfl hl.1 rfl (Nat.le_of_ble_eq_true rfl) d_Pr_jumpOrMoveOrCall_103 hf0 (fun r_16 u_15 H locs h hP hD hS => ?_)
          have hP : va_P D vwCl (wP qp qr qh qm qw qu qf ql qo cI ms mn u_15.1 u_15.2.1 u_15.2.2.1 u_15.2.2.2.1 u_15.2.2.2.2.1 u_15.2.2.2.2.2.1 u_15.2.2.2.2.2.2.1 u_15.2.2.2.2.2.2.2) H := hP.sub [0, 1, 2, 3, 4, 5, 6, 7, 8] rfl
          have hD : va_D A (wP qp qr qh qm qw qu qf ql qo cI ms mn u_15.1 u_15.2.1 u_15.2.2.1 u_15.2.2.2.1 u_15.2.2.2.2.1 u_15.2.2.2.2.2.1 u_15.2.2.2.2.2.2.1 u_15.2.2.2.2.2.2.2) := hD.sub [0, 1, 2, 3, 4, 5, 6, 7, 8] (by decide) rfl
          exact W.iret (v := r_16) hx hb hr (fun t ht hW => ⟨⟨r_16, (u_15.1, u_15.2.1, u_15.2.2.1, u_15.2.2.2.1, u_15.2.2.2.2.1, u_15.2.2.2.2.2.1, u_15.2.2.2.2.2.2.1, u_15.2.2.2.2.2.2.2), rfl, h, by rw [ht]; exact hP, hD⟩, hS.F ht⟩) hS.2.2 d_Pr_jumpOrMoveOrCall_106
        · skip
          have h := h.1 c_14
          refine lv_iconst (v := 1) hx hb d_Pr_jumpOrMoveOrCall_98 (by decide) ?_
          refine lv_goto (tgt := 103) hx hb d_Pr_jumpOrMoveOrCall_99 (by decide) ?_
          refine zz_Wi (As := [.int a0, .int (1 : Int32)]) (rest := []) (wc := wP qp qr qh qm qw qu qf ql qo cI ms mn g rg hq mf cd fg L O) (wr := []) X hK hP hD hS hA (c_Pr_moveIf l D cI qp qr qh qm qw qu qf ql qo ms mn g rg hq mf cd fg L O a0 (1 : Int32) _ h _) ⟨rfl, rfl⟩ m_Pr_moveIf k_Pr_168 ⟨Nat.le_of_ble_eq_true rfl, Nat.le_of_ble_eq_true rfl⟩ [0, 1, 2, 3, 4, 5, 6, 7, 8] [] rfl rfl (by decide) (by decide) (by decide) 4 0 rfl rfl rfl rfl hl.1 rfl (Nat.le_of_ble_eq_true rfl) d_Pr_jumpOrMoveOrCall_103 hf0 (fun r_18 u_17 H locs h hP hD hS => ?_)
          have hP : va_P D vwCl (wP qp qr qh qm qw qu qf ql qo cI ms mn u_17.1 u_17.2.1 u_17.2.2.1 u_17.2.2.2.1 u_17.2.2.2.2.1 u_17.2.2.2.2.2.1 u_17.2.2.2.2.2.2.1 u_17.2.2.2.2.2.2.2) H := hP.sub [0, 1, 2, 3, 4, 5, 6, 7, 8] rfl
          have hD : va_D A (wP qp qr qh qm qw qu qf ql qo cI ms mn u_17.1 u_17.2.1 u_17.2.2.1 u_17.2.2.2.1 u_17.2.2.2.2.1 u_17.2.2.2.2.2.1 u_17.2.2.2.2.2.2.1 u_17.2.2.2.2.2.2.2) := hD.sub [0, 1, 2, 3, 4, 5, 6, 7, 8] (by decide) rfl
          exact W.iret (v := r_18) hx hb hr (fun t ht hW => ⟨⟨r_18, (u_17.1, u_17.2.1, u_17.2.2.1, u_17.2.2.2.1, u_17.2.2.2.2.1, u_17.2.2.2.2.2.1, u_17.2.2.2.2.2.2.1, u_17.2.2.2.2.2.2.2), rfl, h, by rw [ht]; exact hP, hD⟩, hS.F ht⟩) hS.2.2 d_Pr_jumpOrMoveOrCall_106
      · have h := h.2 c_11
        by_cases c_19 : r_1 = (11 : Int32)
        · have h := h.1 c_19
          have h0 := c_19
          refine lv_tableIn (off := 103) (tgt := 107) hx hb d_Pr_jumpOrMoveOrCall_4 (by rw [h0]; decide) (by rw [h0]; decide) (by rw [h0]; rfl) (by decide) ?_
          refine lv_aload_n hx hb d_Pr_jumpOrMoveOrCall_107 rfl (lv_at hl 0 rfl) ?_
          refine lv_iload_n hx hb d_Pr_jumpOrMoveOrCall_108 rfl (lv_at hl 1 rfl) ?_
          refine lv_aload_n hx hb d_Pr_jumpOrMoveOrCall_109 rfl (lv_at hl 0 rfl) ?_
          refine g_Pr_9 (v := .ref qr) hx hb hT hown hK hP 0 rfl rfl d_Pr_jumpOrMoveOrCall_110 ?_
          refine lv_iload_n hx hb d_Pr_jumpOrMoveOrCall_113 rfl (lv_at hl 1 rfl) ?_
          refine zz_Si (As := [.int a0]) (rest := [.ref qr, .int a0, .ref qp]) X (c_Pr_rt l a0 _ h) ⟨rfl, rfl⟩ m_Pr_rt k_Pr_89 ⟨Nat.le_of_ble_eq_true rfl, Nat.le_of_ble_eq_true rfl⟩ rfl hl.1 rfl (Nat.le_of_ble_eq_true rfl) d_Pr_jumpOrMoveOrCall_114 hf0 (fun r_20 h => ?_)
          refine va_iald (f := rg) hx hb hK hP 1 0 rfl rfl h.1 d_Pr_jumpOrMoveOrCall_117 ?_
          have h := h.2
          refine lv_topi (fun x_21 ex_21 => ?_)
          have h := h x_21 ex_21
          refine lv_if_eq (tgt := 125) hx hb d_Pr_jumpOrMoveOrCall_118 (by decide) (fun c_22 => ?_) (fun c_22 => ?_)
          · skip
            have h := h.1 c_22
            refine lv_iconst (v := 0) hx hb d_Pr_jumpOrMoveOrCall_125 (by decide) ?_
            refine zz_Wi (As := [.int a0, .int (0 : Int32)]) (rest := []) (wc := wP qp qr qh qm qw qu qf ql qo cI ms mn g rg hq mf cd fg L O) (wr := []) X hK hP hD hS hA (c_Pr_moveIf l D cI qp qr qh qm qw qu qf ql qo ms mn g rg hq mf cd fg L O a0 (0 : Int32) _ h _) ⟨rfl, rfl⟩ m_Pr_moveIf k_Pr_168 ⟨Nat.le_of_ble_eq_true rfl, Nat.le_of_ble_eq_true rfl⟩ [0, 1, 2, 3, 4, 5, 6, 7, 8] [] rfl rfl (by decide) (by decide) (by decide) 4 0 rfl rfl rfl rfl hl.1 rfl (Nat.le_of_ble_eq_true rfl) d_Pr_jumpOrMoveOrCall_126 hf0 (fun r_24 u_23 H locs h hP hD hS => ?_)
            have hP : va_P D vwCl (wP qp qr qh qm qw qu qf ql qo cI ms mn u_23.1 u_23.2.1 u_23.2.2.1 u_23.2.2.2.1 u_23.2.2.2.2.1 u_23.2.2.2.2.2.1 u_23.2.2.2.2.2.2.1 u_23.2.2.2.2.2.2.2) H := hP.sub [0, 1, 2, 3, 4, 5, 6, 7, 8] rfl
            have hD : va_D A (wP qp qr qh qm qw qu qf ql qo cI ms mn u_23.1 u_23.2.1 u_23.2.2.1 u_23.2.2.2.1 u_23.2.2.2.2.1 u_23.2.2.2.2.2.1 u_23.2.2.2.2.2.2.1 u_23.2.2.2.2.2.2.2) := hD.sub [0, 1, 2, 3, 4, 5, 6, 7, 8] (by decide) rfl
            exact W.iret (v := r_24) hx hb hr (fun t ht hW => ⟨⟨r_24, (u_23.1, u_23.2.1, u_23.2.2.1, u_23.2.2.2.1, u_23.2.2.2.2.1, u_23.2.2.2.2.2.1, u_23.2.2.2.2.2.2.1, u_23.2.2.2.2.2.2.2), rfl, h, by rw [ht]; exact hP, hD⟩, hS.F ht⟩) hS.2.2 d_Pr_jumpOrMoveOrCall_129
          · skip
            have h := h.2 c_22
            refine lv_iconst (v := 1) hx hb d_Pr_jumpOrMoveOrCall_121 (by decide) ?_
            refine lv_goto (tgt := 126) hx hb d_Pr_jumpOrMoveOrCall_122 (by decide) ?_
            refine zz_Wi (As := [.int a0, .int (1 : Int32)]) (rest := []) (wc := wP qp qr qh qm qw qu qf ql qo cI ms mn g rg hq mf cd fg L O) (wr := []) X hK hP hD hS hA (c_Pr_moveIf l D cI qp qr qh qm qw qu qf ql qo ms mn g rg hq mf cd fg L O a0 (1 : Int32) _ h _) ⟨rfl, rfl⟩ m_Pr_moveIf k_Pr_168 ⟨Nat.le_of_ble_eq_true rfl, Nat.le_of_ble_eq_true rfl⟩ [0, 1, 2, 3, 4, 5, 6, 7, 8] [] rfl rfl (by decide) (by decide) (by decide) 4 0 rfl rfl rfl rfl hl.1 rfl (Nat.le_of_ble_eq_true rfl) d_Pr_jumpOrMoveOrCall_126 hf0 (fun r_26 u_25 H locs h hP hD hS => ?_)
            have hP : va_P D vwCl (wP qp qr qh qm qw qu qf ql qo cI ms mn u_25.1 u_25.2.1 u_25.2.2.1 u_25.2.2.2.1 u_25.2.2.2.2.1 u_25.2.2.2.2.2.1 u_25.2.2.2.2.2.2.1 u_25.2.2.2.2.2.2.2) H := hP.sub [0, 1, 2, 3, 4, 5, 6, 7, 8] rfl
            have hD : va_D A (wP qp qr qh qm qw qu qf ql qo cI ms mn u_25.1 u_25.2.1 u_25.2.2.1 u_25.2.2.2.1 u_25.2.2.2.2.1 u_25.2.2.2.2.2.1 u_25.2.2.2.2.2.2.1 u_25.2.2.2.2.2.2.2) := hD.sub [0, 1, 2, 3, 4, 5, 6, 7, 8] (by decide) rfl
            exact W.iret (v := r_26) hx hb hr (fun t ht hW => ⟨⟨r_26, (u_25.1, u_25.2.1, u_25.2.2.1, u_25.2.2.2.1, u_25.2.2.2.2.1, u_25.2.2.2.2.2.1, u_25.2.2.2.2.2.2.1, u_25.2.2.2.2.2.2.2), rfl, h, by rw [ht]; exact hP, hD⟩, hS.F ht⟩) hS.2.2 d_Pr_jumpOrMoveOrCall_129
        · have h := h.2 c_19
          by_cases c_27 : r_1 = (12 : Int32)
          · have h := h.1 c_27
            have h0 := c_27
            refine lv_tableIn (off := 126) (tgt := 130) hx hb d_Pr_jumpOrMoveOrCall_4 (by rw [h0]; decide) (by rw [h0]; decide) (by rw [h0]; rfl) (by decide) ?_
            refine lv_aload_n hx hb d_Pr_jumpOrMoveOrCall_130 rfl (lv_at hl 0 rfl) ?_
            refine lv_iload_n hx hb d_Pr_jumpOrMoveOrCall_131 rfl (lv_at hl 1 rfl) ?_
            refine lv_bipush (v := 7) hx hb d_Pr_jumpOrMoveOrCall_132 (by decide) ?_
            refine zz_Wi (As := [.int a0, .int (7 : Int32)]) (rest := []) (wc := wP qp qr qh qm qw qu qf ql qo cI ms mn g rg hq mf cd fg L O) (wr := []) X hK hP hD hS hA (c_Pr_call l D cI qp qr qh qm qw qu qf ql qo ms mn g rg hq mf cd fg L O a0 (7 : Int32) _ h _) ⟨rfl, rfl⟩ m_Pr_call k_Pr_178 ⟨Nat.le_of_ble_eq_true rfl, Nat.le_of_ble_eq_true rfl⟩ [0, 1, 2, 3, 4, 5, 6, 7, 8] [] rfl rfl (by decide) (by decide) (by decide) 4 0 rfl rfl rfl rfl hl.1 rfl (Nat.le_of_ble_eq_true rfl) d_Pr_jumpOrMoveOrCall_134 hf0 (fun r_29 u_28 H locs h hP hD hS => ?_)
            have hP : va_P D vwCl (wP qp qr qh qm qw qu qf ql qo cI ms mn u_28.1 u_28.2.1 u_28.2.2.1 u_28.2.2.2.1 u_28.2.2.2.2.1 u_28.2.2.2.2.2.1 u_28.2.2.2.2.2.2.1 u_28.2.2.2.2.2.2.2) H := hP.sub [0, 1, 2, 3, 4, 5, 6, 7, 8] rfl
            have hD : va_D A (wP qp qr qh qm qw qu qf ql qo cI ms mn u_28.1 u_28.2.1 u_28.2.2.1 u_28.2.2.2.1 u_28.2.2.2.2.1 u_28.2.2.2.2.2.1 u_28.2.2.2.2.2.2.1 u_28.2.2.2.2.2.2.2) := hD.sub [0, 1, 2, 3, 4, 5, 6, 7, 8] (by decide) rfl
            exact W.iret (v := r_29) hx hb hr (fun t ht hW => ⟨⟨r_29, (u_28.1, u_28.2.1, u_28.2.2.1, u_28.2.2.2.1, u_28.2.2.2.2.1, u_28.2.2.2.2.2.1, u_28.2.2.2.2.2.2.1, u_28.2.2.2.2.2.2.2), rfl, h, by rw [ht]; exact hP, hD⟩, hS.F ht⟩) hS.2.2 d_Pr_jumpOrMoveOrCall_137
          · have h := h.2 c_27
            by_cases c_30 : r_1 = (13 : Int32)
            · have h := h.1 c_30
              have h0 := c_30
              refine lv_tableIn (off := 134) (tgt := 138) hx hb d_Pr_jumpOrMoveOrCall_4 (by rw [h0]; decide) (by rw [h0]; decide) (by rw [h0]; rfl) (by decide) ?_
              refine lv_aload_n hx hb d_Pr_jumpOrMoveOrCall_138 rfl (lv_at hl 0 rfl) ?_
              refine lv_iload_n hx hb d_Pr_jumpOrMoveOrCall_139 rfl (lv_at hl 1 rfl) ?_
              refine lv_bipush (v := 6) hx hb d_Pr_jumpOrMoveOrCall_140 (by decide) ?_
              refine zz_Wi (As := [.int a0, .int (6 : Int32)]) (rest := []) (wc := wP qp qr qh qm qw qu qf ql qo cI ms mn g rg hq mf cd fg L O) (wr := []) X hK hP hD hS hA (c_Pr_call l D cI qp qr qh qm qw qu qf ql qo ms mn g rg hq mf cd fg L O a0 (6 : Int32) _ h _) ⟨rfl, rfl⟩ m_Pr_call k_Pr_178 ⟨Nat.le_of_ble_eq_true rfl, Nat.le_of_ble_eq_true rfl⟩ [0, 1, 2, 3, 4, 5, 6, 7, 8] [] rfl rfl (by decide) (by decide) (by decide) 4 0 rfl rfl rfl rfl hl.1 rfl (Nat.le_of_ble_eq_true rfl) d_Pr_jumpOrMoveOrCall_142 hf0 (fun r_32 u_31 H locs h hP hD hS => ?_)
              have hP : va_P D vwCl (wP qp qr qh qm qw qu qf ql qo cI ms mn u_31.1 u_31.2.1 u_31.2.2.1 u_31.2.2.2.1 u_31.2.2.2.2.1 u_31.2.2.2.2.2.1 u_31.2.2.2.2.2.2.1 u_31.2.2.2.2.2.2.2) H := hP.sub [0, 1, 2, 3, 4, 5, 6, 7, 8] rfl
              have hD : va_D A (wP qp qr qh qm qw qu qf ql qo cI ms mn u_31.1 u_31.2.1 u_31.2.2.1 u_31.2.2.2.1 u_31.2.2.2.2.1 u_31.2.2.2.2.2.1 u_31.2.2.2.2.2.2.1 u_31.2.2.2.2.2.2.2) := hD.sub [0, 1, 2, 3, 4, 5, 6, 7, 8] (by decide) rfl
              exact W.iret (v := r_32) hx hb hr (fun t ht hW => ⟨⟨r_32, (u_31.1, u_31.2.1, u_31.2.2.1, u_31.2.2.2.1, u_31.2.2.2.2.1, u_31.2.2.2.2.2.1, u_31.2.2.2.2.2.2.1, u_31.2.2.2.2.2.2.2), rfl, h, by rw [ht]; exact hP, hD⟩, hS.F ht⟩) hS.2.2 d_Pr_jumpOrMoveOrCall_145
            · have h := h.2 c_30
              by_cases c_33 : r_1 = (15 : Int32)
              · have h := h.1 c_33
                have h0 := c_33
                refine lv_tableIn (off := 142) (tgt := 146) hx hb d_Pr_jumpOrMoveOrCall_4 (by rw [h0]; decide) (by rw [h0]; decide) (by rw [h0]; rfl) (by decide) ?_
                refine lv_iconst (v := 0) hx hb d_Pr_jumpOrMoveOrCall_146 (by decide) ?_
                exact W.iret (v := (0 : Int32)) hx hb hr (fun t ht hW => ⟨⟨(0 : Int32), (g, rg, hq, mf, cd, fg, L, O), rfl, h, by rw [ht]; exact hP, hD⟩, hS.F ht⟩) hS.2.2 d_Pr_jumpOrMoveOrCall_147
              · have h := h.2 c_33
                refine zz_swD (tgt := 148) hx hb [8, 9, 10, 11, 12, 13, 15] d_Pr_jumpOrMoveOrCall_4 (by decide +kernel) (by decide) (List.forall_mem_cons.mpr ⟨lv_neT (k := 8) c_2 (by decide), List.forall_mem_cons.mpr ⟨lv_neT (k := 9) c_8 (by decide), List.forall_mem_cons.mpr ⟨lv_neT (k := 10) c_11 (by decide), List.forall_mem_cons.mpr ⟨lv_neT (k := 11) c_19 (by decide), List.forall_mem_cons.mpr ⟨lv_neT (k := 12) c_27 (by decide), List.forall_mem_cons.mpr ⟨lv_neT (k := 13) c_30 (by decide), List.forall_mem_cons.mpr ⟨lv_neT (k := 15) c_33 (by decide), fun _ h9 => nomatch h9⟩⟩⟩⟩⟩⟩⟩) (by decide) ?_
                refine lv_iconst (v := 3) hx hb d_Pr_jumpOrMoveOrCall_148 (by decide) ?_
                exact W.iret (v := (3 : Int32)) hx hb hr (fun t ht hW => ⟨⟨(3 : Int32), (g, rg, hq, mf, cd, fg, L, O), rfl, h, by rw [ht]; exact hP, hD⟩, hS.F ht⟩) hS.2.2 d_Pr_jumpOrMoveOrCall_149
