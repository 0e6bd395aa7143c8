def wp_Md_thrown (ms : Int32) (dd : Nat → Int32) (Lwhole : Int64) (Lwhole2 : Int64) (bm : Nat → Int32) (rr : Nat → Int32) (kt : Nat → Int32) (P : Int32 → Prop) : Prop := P (dd 0)
abbrev rm_Md_thrown : Room := { frames := 0, cells := 0, slots := 0, locals := 0 }
set_option maxHeartbeats 4000000 in
set_option maxRecDepth 100000 in
theorem c_Md_thrown (l : Launch) (D : va_G) (cI : ClassId) (cB : ClassId) (qd : Nat) (qmemory : Nat) (qr : Nat) (qcounts : Nat) (ms : Int32) (dd : Nat → Int32) (Lwhole : Int64) (Lwhole2 : Int64) (bm : Nat → Int32) (rr : Nat → Int32) (kt : Nat → Int32) (P : Int32 → Prop) (h : wp_Md_thrown ms dd Lwhole Lwhole2 bm rr kt P) : Met l y_Md_thrown (zz_ws y_Md_thrown b_Md_thrown 1 (some .int)) rm_Md_thrown (va_Pc [.ref qd] (zz_pr D [(cI, .int), (cB, .byte)] (wD qd qmemory qr qcounts cI cB ms dd Lwhole Lwhole2 bm rr kt))) (vp_Si P) 0 0 (fun _ => False) := by
  refine Met.ofW (cc := b_Md_thrown) (maxL := 1) (ret := (some .int)) (by decide) rfl ?_
  intro p e s m args below meth c s₁ B hml hv
  obtain ⟨rfl, hP, hK⟩ := hv
  have hx := B.exec
  have hb := B.bytes
  have hr := B.returns
  have hts := atoms_spec (ws := (zz_ws y_Md_thrown b_Md_thrown 1 (some .int))) B.pre
  have hown : s.vm.findClass R_Md = some m.cls := findClass_of_methodNamed B.named
  have hlocks := B.notSynchronized
  have hT := zz_hts hts
  have X : CallFix p m c b_Md_thrown 1 s ([.ref qd] : List Value).toArray (zz_ws y_Md_thrown b_Md_thrown 1 (some .int)) R_Md := ⟨hx, hb, hml, hown, hts⟩
  have hf0 : 0 + 0 ≤ (headSpec (zz_ws y_Md_thrown b_Md_thrown 1 (some .int)) rm_Md_thrown).room.cells ∧ 0 + 0 ≤ (headSpec (zz_ws y_Md_thrown b_Md_thrown 1 (some .int)) rm_Md_thrown).room.slots := ⟨Nat.le_of_ble_eq_true rfl, Nat.le_of_ble_eq_true rfl⟩
  have hl := lv_entry ([.ref qd]) (n := 1) (Nat.le_of_ble_eq_true rfl)
  rw [lg_entry_eq]
  generalize (lg_sl ([.ref qd]) ++ List.replicate (1 - (lg_sl ([.ref qd])).length) Slot.unset).toArray = ls at hl ⊢
  have hl : lv_has ls 1 [(0, .ref qd)] := hl
  refine lv_aload_n hx hb d_Md_thrown_0 rfl (lv_at hl 0 rfl) ?_
  refine g_Md_35 (v := .int (dd 0)) hx hb hT hown hK hP 0 rfl rfl d_Md_thrown_1 ?_
  exact W.iret (v := (dd 0)) hx hb hr (fun t ht hW => ⟨(dd 0),  rfl, h, ht⟩) t_nil d_Md_thrown_4
def wp_Md_fail (ms : Int32) (dd : Nat → Int32) (Lwhole : Int64) (Lwhole2 : Int64) (bm : Nat → Int32) (rr : Nat → Int32) (kt : Nat → Int32) (a0 : Int32) (P : Int32 → ((Nat → Int32) × Int64 × Int64 × (Nat → Int32) × (Nat → Int32) × (Nat → Int32)) → Prop) : Prop := P (0 : Int32) ((upd dd 0 a0), Lwhole, Lwhole2, bm, rr, kt)
abbrev rm_Md_fail : Room := { frames := 0, cells := 0, slots := 0, locals := 0 }
set_option maxHeartbeats 4000000 in
set_option maxRecDepth 100000 in
theorem c_Md_fail (l : Launch) (D : va_G) (cI : ClassId) (cB : ClassId) (qd : Nat) (qmemory : Nat) (qr : Nat) (qcounts : Nat) (ms : Int32) (dd : Nat → Int32) (Lwhole : Int64) (Lwhole2 : Int64) (bm : Nat → Int32) (rr : Nat → Int32) (kt : Nat → Int32) (a0 : Int32) (P : Int32 → ((Nat → Int32) × Int64 × Int64 × (Nat → Int32) × (Nat → Int32) × (Nat → Int32)) → Prop) (h : wp_Md_fail ms dd Lwhole Lwhole2 bm rr kt a0 P) (sz : Nat) : Met l y_Md_fail (zz_ws y_Md_fail b_Md_fail 2 (some .int)) rm_Md_fail (va_Pc [.ref qd, .int a0] (zz_pw D [(cI, .int), (cB, .byte)] (wD qd qmemory qr qcounts cI cB ms dd Lwhole Lwhole2 bm rr kt) sz)) (va_Qi P (zz_qw D (fun u => wD qd qmemory qr qcounts cI cB ms u.1 u.2.1 u.2.2.1 u.2.2.2.1 u.2.2.2.2.1 u.2.2.2.2.2) (va_A (wD qd qmemory qr qcounts cI cB ms dd Lwhole Lwhole2 bm rr kt) sz)) (va_A (wD qd qmemory qr qcounts cI cB ms dd Lwhole Lwhole2 bm rr kt) sz)) 0 0 (va_A (wD qd qmemory qr qcounts cI cB ms dd Lwhole Lwhole2 bm rr kt) sz) := by
  refine Met.ofW (cc := b_Md_fail) (maxL := 2) (ret := (some .int)) (by decide) rfl ?_
  intro p e s m args below meth c s₁ B hml hv
  obtain ⟨rfl, hsz, hP, hK, hD0⟩ := hv
  have hx := B.exec
  have hb := B.bytes
  have hr := B.returns
  have hts := atoms_spec (ws := (zz_ws y_Md_fail b_Md_fail 2 (some .int))) B.pre
  have hown : s.vm.findClass R_Md = some m.cls := findClass_of_methodNamed B.named
  have hlocks := B.notSynchronized
  have hT := zz_hts hts
  have X : CallFix p m c b_Md_fail 2 s ([.ref qd, .int a0] : List Value).toArray (zz_ws y_Md_fail b_Md_fail 2 (some .int)) R_Md := ⟨hx, hb, hml, hown, hts⟩
  have hf0 : 0 + 0 ≤ (headSpec (zz_ws y_Md_fail b_Md_fail 2 (some .int)) rm_Md_fail).room.cells ∧ 0 + 0 ≤ (headSpec (zz_ws y_Md_fail b_Md_fail 2 (some .int)) rm_Md_fail).room.slots := ⟨Nat.le_of_ble_eq_true rfl, Nat.le_of_ble_eq_true rfl⟩
  subst hsz
  have hD := hD0.self (sz := s.heap.size)
  generalize hAe : va_A (wD qd qmemory qr qcounts cI cB ms dd Lwhole Lwhole2 bm rr kt) s.heap.size = A at hD ⊢
  have hA : ∀ q : Nat, s.heap.size ≤ q → A q := fun q h => by rw [← hAe]; exact Or.inr h
  have hS : va_S A s.heap s.heap [] := va_S.rf
  have hl := lv_entry ([.ref qd, .int a0]) (n := 2) (Nat.le_of_ble_eq_true rfl)
  rw [lg_entry_eq]
  generalize (lg_sl ([.ref qd, .int a0]) ++ List.replicate (2 - (lg_sl ([.ref qd, .int a0])).length) Slot.unset).toArray = ls at hl ⊢
  have hl : lv_has ls 2 [(0, .ref qd), (1, .int a0)] := hl
  refine lv_aload_n hx hb d_Md_fail_0 rfl (lv_at hl 0 rfl) ?_
  refine lv_iload_n hx hb d_Md_fail_1 rfl (lv_at hl 1 rfl) ?_
  refine p_Md_35 hx hb hT hown hK hP hD hS 0 rfl rfl d_Md_fail_2 (fun H locs (hP : va_P D vwCl (wD qd qmemory qr qcounts cI cB ms (upd dd 0 a0) Lwhole Lwhole2 bm rr kt) H) (hD : va_D A (wD qd qmemory qr qcounts cI cB ms (upd dd 0 a0) Lwhole Lwhole2 bm rr kt)) hS => ?_)
  refine lv_iconst (v := 0) hx hb d_Md_fail_5 (by decide) ?_
  exact W.iret (v := (0 : Int32)) hx hb hr (fun t ht hW => ⟨⟨(0 : Int32), ((upd dd 0 a0), Lwhole, Lwhole2, bm, rr, kt), rfl, h, by rw [ht]; exact hP, hD⟩, hS.F ht⟩) hS.2.2 d_Md_fail_6
def wp_Md_good (ms : Int32) (dd : Nat → Int32) (Lwhole : Int64) (Lwhole2 : Int64) (bm : Nat → Int32) (rr : Nat → Int32) (kt : Nat → Int32) (a0 : Int32) (a1 : Int32) (P : Int32 → Prop) : Prop := ((a0 < (0 : Int32) → P (0 : Int32)) ∧ (¬ a0 < (0 : Int32) → ¬ a1 = 0 ∧ (((a0 - a0 / a1 * a1) = (0 : Int32) → (((ms - a1) < a0 → P (0 : Int32)) ∧ (¬ (ms - a1) < a0 → P (1 : Int32)))) ∧ (¬ (a0 - a0 / a1 * a1) = (0 : Int32) → P (0 : Int32)))))
abbrev rm_Md_good : Room := { frames := 0, cells := 0, slots := 0, locals := 0 }
set_option maxHeartbeats 4000000 in
set_option maxRecDepth 100000 in
theorem c_Md_good (l : Launch) (D : va_G) (cI : ClassId) (cB : ClassId) (qd : Nat) (qmemory : Nat) (qr : Nat) (qcounts : Nat) (ms : Int32) (dd : Nat → Int32) (Lwhole : Int64) (Lwhole2 : Int64) (bm : Nat → Int32) (rr : Nat → Int32) (kt : Nat → Int32) (a0 : Int32) (a1 : Int32) (P : Int32 → Prop) (h : wp_Md_good ms dd Lwhole Lwhole2 bm rr kt a0 a1 P) : Met l y_Md_good (zz_ws y_Md_good b_Md_good 3 (some .boolean)) rm_Md_good (va_Pc [.ref qd, .int a0, .int a1] (zz_pr D [(cI, .int), (cB, .byte)] (wD qd qmemory qr qcounts cI cB ms dd Lwhole Lwhole2 bm rr kt))) (vp_Si P) 0 0 (fun _ => False) := by
  refine Met.ofW (cc := b_Md_good) (maxL := 3) (ret := (some .boolean)) (by decide) rfl ?_
  intro p e s m args below meth c s₁ B hml hv
  obtain ⟨rfl, hP, hK⟩ := hv
  have hx := B.exec
  have hb := B.bytes
  have hr := B.returns
  have hts := atoms_spec (ws := (zz_ws y_Md_good b_Md_good 3 (some .boolean))) B.pre
  have hown : s.vm.findClass R_Md = some m.cls := findClass_of_methodNamed B.named
  have hlocks := B.notSynchronized
  have hT := zz_hts hts
  have X : CallFix p m c b_Md_good 3 s ([.ref qd, .int a0, .int a1] : List Value).toArray (zz_ws y_Md_good b_Md_good 3 (some .boolean)) R_Md := ⟨hx, hb, hml, hown, hts⟩
  have hf0 : 0 + 0 ≤ (headSpec (zz_ws y_Md_good b_Md_good 3 (some .boolean)) rm_Md_good).room.cells ∧ 0 + 0 ≤ (headSpec (zz_ws y_Md_good b_Md_good 3 (some .boolean)) rm_Md_good).room.slots := ⟨Nat.le_of_ble_eq_true rfl, Nat.le_of_ble_eq_true rfl⟩
  have hl := lv_entry ([.ref qd, .int a0, .int a1]) (n := 3) (Nat.le_of_ble_eq_true rfl)
  rw [lg_entry_eq]
  generalize (lg_sl ([.ref qd, .int a0, .int a1]) ++ List.replicate (3 - (lg_sl ([.ref qd, .int a0, .int a1])).length) Slot.unset).toArray = ls at hl ⊢
  have hl : lv_has ls 3 [(0, .ref qd), (1, .int a0), (2, .int a1)] := hl
  refine lv_iload_n hx hb d_Md_good_0 rfl (lv_at hl 1 rfl) ?_
  refine lv_if_lt (tgt := 24) hx hb d_Md_good_1 (by decide) (fun c_1 => ?_) (fun c_1 => ?_)
  · skip
    have h := h.1 c_1
    refine lv_iconst (v := 0) hx hb d_Md_good_24 (by decide) ?_
    exact W.zret (v := (0 : Int32)) hx hb hr (zz_bz_n (Or.inl rfl)) (fun t ht hW => ⟨(0 : Int32),  rfl, h, ht⟩) t_nil d_Md_good_25
  · skip
    have h := h.2 c_1
    refine lv_iload_n hx hb d_Md_good_4 rfl (lv_at hl 1 rfl) ?_
    refine lv_iload_n hx hb d_Md_good_5 rfl (lv_at hl 2 rfl) ?_
    refine lv_irem hx hb d_Md_good_6 h.1 ?_
    have h := h.2
    refine lv_if_ne (tgt := 24) hx hb d_Md_good_7 (by decide) (fun c_2 => ?_) (fun c_2 => ?_)
    · skip
      have h := h.2 c_2
      refine lv_iconst (v := 0) hx hb d_Md_good_24 (by decide) ?_
      exact W.zret (v := (0 : Int32)) hx hb hr (zz_bz_n (Or.inl rfl)) (fun t ht hW => ⟨(0 : Int32),  rfl, h, ht⟩) t_nil d_Md_good_25
    · skip
      have h := h.1 c_2
      refine lv_iload_n hx hb d_Md_good_10 rfl (lv_at hl 1 rfl) ?_
      refine lv_aload_n hx hb d_Md_good_11 rfl (lv_at hl 0 rfl) ?_
      refine g_Md_32 (v := .int ms) hx hb hT hown hK hP 0 rfl rfl d_Md_good_12 ?_
      refine lv_iload_n hx hb d_Md_good_15 rfl (lv_at hl 2 rfl) ?_
      refine lv_isub hx hb d_Md_good_16 ?_
      refine lv_icmp_gt (tgt := 24) hx hb d_Md_good_17 (by decide) (fun c_3 => ?_) (fun c_3 => ?_)
      · skip
        have h := h.1 c_3
        refine lv_iconst (v := 0) hx hb d_Md_good_24 (by decide) ?_
        exact W.zret (v := (0 : Int32)) hx hb hr (zz_bz_n (Or.inl rfl)) (fun t ht hW => ⟨(0 : Int32),  rfl, h, ht⟩) t_nil d_Md_good_25
      · skip
        have h := h.2 c_3
        refine lv_iconst (v := 1) hx hb d_Md_good_20 (by decide) ?_
        refine lv_goto (tgt := 25) hx hb d_Md_good_21 (by decide) ?_
        exact W.zret (v := (1 : Int32)) hx hb hr (zz_bz_n (Or.inr rfl)) (fun t ht hW => ⟨(1 : Int32),  rfl, h, ht⟩) t_nil d_Md_good_25
def wl_Md_part_5 (ms : Int32) (a0 : Int32) (a1 : Int32) (dd : Nat → Int32) (Lwhole : Int64) (Lwhole2 : Int64) (bm : Nat → Int32) (rr : Nat → Int32) (kt : Nat → Int32) (P : Int32 → Prop) : Nat → Int32 → Int32 → Prop
  | 0, _, _ => False
  | n + 1, v4, v3 => ((a1 ≤ v4 → P v3) ∧ (¬ a1 ≤ v4 → vp_in (a0 + v4) 262144 ∧ ∀ x_2 : Int32, x_2 = (bm (a0 + v4).toNatClampNeg) → ∀ x_3 : Int32, x_3 = ((zz_shl v3 (8 : Int32)) ||| (x_2 &&& (255 : Int32))) → ∀ x_4 : Int32, x_4 = v4 + 1 → wl_Md_part_5 ms a0 a1 dd Lwhole Lwhole2 bm rr kt P n x_4 x_3))
def wp_Md_part (ms : Int32) (dd : Nat → Int32) (Lwhole : Int64) (Lwhole2 : Int64) (bm : Nat → Int32) (rr : Nat → Int32) (kt : Nat → Int32) (a0 : Int32) (a1 : Int32) (P : Int32 → Prop) : Prop := ∃ n, wl_Md_part_5 ms a0 a1 dd Lwhole Lwhole2 bm rr kt P n (0 : Int32) (0 : Int32)
abbrev rm_Md_part : Room := { frames := 0, cells := 0, slots := 0, locals := 0 }
set_option maxHeartbeats 4000000 in
set_option maxRecDepth 100000 in
theorem c_Md_part (l : Launch) (D : va_G) (cI : ClassId) (cB : ClassId) (qd : Nat) (qmemory : Nat) (qr : Nat) (qcounts : Nat) (ms : Int32) (dd : Nat → Int32) (Lwhole : Int64) (Lwhole2 : Int64) (bm : Nat → Int32) (rr : Nat → Int32) (kt : Nat → Int32) (a0 : Int32) (a1 : Int32) (P : Int32 → Prop) (h : wp_Md_part ms dd Lwhole Lwhole2 bm rr kt a0 a1 P) : Met l y_Md_part (zz_ws y_Md_part b_Md_part 5 (some .int)) rm_Md_part (va_Pc [.ref qd, .int a0, .int a1] (zz_pr D [(cI, .int), (cB, .byte)] (wD qd qmemory qr qcounts cI cB ms dd Lwhole Lwhole2 bm rr kt))) (vp_Si P) 0 0 (fun _ => False) := by
  refine Met.ofW (cc := b_Md_part) (maxL := 5) (ret := (some .int)) (by decide) rfl ?_
  intro p e s m args below meth c s₁ B hml hv
  obtain ⟨rfl, hP, hK⟩ := hv
  have hx := B.exec
  have hb := B.bytes
  have hr := B.returns
  have hts := atoms_spec (ws := (zz_ws y_Md_part b_Md_part 5 (some .int))) B.pre
  have hown : s.vm.findClass R_Md = some m.cls := findClass_of_methodNamed B.named
  have hlocks := B.notSynchronized
  have hT := zz_hts hts
  have X : CallFix p m c b_Md_part 5 s ([.ref qd, .int a0, .int a1] : List Value).toArray (zz_ws y_Md_part b_Md_part 5 (some .int)) R_Md := ⟨hx, hb, hml, hown, hts⟩
  have hf0 : 0 + 0 ≤ (headSpec (zz_ws y_Md_part b_Md_part 5 (some .int)) rm_Md_part).room.cells ∧ 0 + 0 ≤ (headSpec (zz_ws y_Md_part b_Md_part 5 (some .int)) rm_Md_part).room.slots := ⟨Nat.le_of_ble_eq_true rfl, Nat.le_of_ble_eq_true rfl⟩
  have hl := lv_entry ([.ref qd, .int a0, .int a1]) (n := 5) (Nat.le_of_ble_eq_true rfl)
  rw [lg_entry_eq]
  generalize (lg_sl ([.ref qd, .int a0, .int a1]) ++ List.replicate (5 - (lg_sl ([.ref qd, .int a0, .int a1])).length) Slot.unset).toArray = ls at hl ⊢
  have hl : lv_has ls 5 [(0, .ref qd), (1, .int a0), (2, .int a1)] := hl
  refine lv_iconst (v := 0) hx hb d_Md_part_0 (by decide) ?_
  refine lv_istore_n (lv' := [(3, .int (0 : Int32)), (0, .ref qd), (1, .int a0), (2, .int a1)]) hx hb d_Md_part_1 rfl hl (by decide) rfl (fun ls hl => ?_)
  refine lv_iconst (v := 0) hx hb d_Md_part_2 (by decide) ?_
  refine lv_istore (lv' := [(4, .int (0 : Int32)), (3, .int (0 : Int32)), (0, .ref qd), (1, .int a0), (2, .int a1)]) hx hb d_Md_part_3 hl (by decide) rfl (fun ls hl => ?_)
  have lp : ∀ (n : Nat) (v4 : Int32) (v3 : Int32), wl_Md_part_5 ms a0 a1 dd Lwhole Lwhole2 bm rr kt P n v4 v3 → ∀ ls : Array Slot, lv_has ls 5 [(4, .int v4), (3, .int v3), (0, .ref qd), (1, .int a0), (2, .int a1)] → W p l e (headSpec (zz_ws y_Md_part b_Md_part 5 (some .int)) rm_Md_part).room s m ([.ref qd, .int a0, .int a1] : List Value).toArray below meth c s.heap [] 0 0 (MQ below (vp_Si P) ([.ref qd, .int a0, .int a1] : List Value).toArray s 0 0 (fun _ => False)) (F0 m 5 ls []) := by
    intro n
    induction n with
    | zero =>
      intro v4 v3 h
      exact False.elim h
    | succ n ih =>
      intro v4 v3 h ls hl
      rw [wl_Md_part_5] at h
      refine lv_iload hx hb d_Md_part_5 (lv_at hl 0 rfl) ?_
      refine lv_iload_n hx hb d_Md_part_7 rfl (lv_at hl 4 rfl) ?_
      refine lv_icmp_ge (tgt := 36) hx hb d_Md_part_8 (by decide) (fun c_1 => ?_) (fun c_1 => ?_)
      · skip
        have h := h.1 c_1
        refine lv_iload_n hx hb d_Md_part_36 rfl (lv_at hl 1 rfl) ?_
        exact W.iret (v := v3) hx hb hr (fun t ht hW => ⟨v3,  rfl, h, ht⟩) t_nil d_Md_part_37
      · skip
        have h := h.2 c_1
        refine lv_iload_n hx hb d_Md_part_11 rfl (lv_at hl 1 rfl) ?_
        refine lv_bipush (v := 8) hx hb d_Md_part_12 (by decide) ?_
        refine zz_ishl hx hb d_Md_part_14 ?_
        refine lv_aload_n hx hb d_Md_part_15 rfl (lv_at hl 2 rfl) ?_
        refine g_Md_8 (v := .ref qmemory) hx hb hT hown hK hP 0 rfl rfl d_Md_part_16 ?_
        refine lv_iload_n hx hb d_Md_part_19 rfl (lv_at hl 3 rfl) ?_
        refine lv_iload hx hb d_Md_part_20 (lv_at hl 0 rfl) ?_
        refine lv_iadd hx hb d_Md_part_22 ?_
        refine va_bald (f := bm) hx hb hK hP 1 1 rfl rfl h.1 d_Md_part_23 ?_
        have h := h.2
        refine lv_topi (fun x_2 ex_2 => ?_)
        have h := h x_2 ex_2
        refine lv_sipush (v := 255) hx hb d_Md_part_24 (by decide) ?_
        refine lv_iand hx hb d_Md_part_27 ?_
        refine lv_ior hx hb d_Md_part_28 ?_
        refine lv_topi (fun x_3 ex_3 => ?_)
        have h := h x_3 ex_3
        refine lv_istore_n (lv' := [(3, .int x_3), (4, .int v4), (0, .ref qd), (1, .int a0), (2, .int a1)]) hx hb d_Md_part_29 rfl hl (by decide) rfl (fun ls hl => ?_)
        obtain ⟨x_4, ex_4⟩ : ∃ y : Int32, y = v4 + 1 := ⟨_, rfl⟩
        have h := h x_4 ex_4
        refine lv_iinc (v := x_4) (lv' := [(4, .int x_4), (3, .int x_3), (0, .ref qd), (1, .int a0), (2, .int a1)]) hx hb d_Md_part_30 hl (k := 1) rfl (by rw [ex_4]; rfl) (by decide) rfl (fun ls hl => ?_)
        refine lv_goto (tgt := 5) hx hb d_Md_part_33 (by decide) ?_
        exact ih x_4 x_3 h ls (lv_sub hl [0, 1, 2, 3, 4] rfl)
  obtain ⟨n, h⟩ := h
  exact lp n (0 : Int32) (0 : Int32) h ls hl
def wl_Md_store_3 (ms : Int32) (a0 : Int32) (a1 : Int32) (a2 : Int32) (P : ((Nat → Int32) × Int64 × Int64 × (Nat → Int32) × (Nat → Int32) × (Nat → Int32)) → Prop) : Nat → Int32 → (Nat → Int32) → Int64 → Int64 → (Nat → Int32) → (Nat → Int32) → (Nat → Int32) → Prop
  | 0, _, _, _, _, _, _, _ => False
  | n + 1, v4, wdd, wLwhole, wLwhole2, wbm, wrr, wkt => ((a1 ≤ v4 → P (wdd, wLwhole, wLwhole2, wbm, wrr, wkt)) ∧ (¬ a1 ≤ v4 → ∀ x_2 : Int32, x_2 = ((8 : Int32) * ((a1 - (1 : Int32)) - v4)) → ∀ x_3 : Int32, x_3 = (zz_shr a2 x_2).toInt8.toInt32 → vp_in (a0 + v4) 262144 ∧ ∀ x_4 : Int32, x_4 = v4 + 1 → wl_Md_store_3 ms a0 a1 a2 P n x_4 wdd wLwhole wLwhole2 (upd wbm (a0 + v4).toNatClampNeg (vp_nar .byte x_3)) wrr wkt))
def wp_Md_store (ms : Int32) (dd : Nat → Int32) (Lwhole : Int64) (Lwhole2 : Int64) (bm : Nat → Int32) (rr : Nat → Int32) (kt : Nat → Int32) (a0 : Int32) (a1 : Int32) (a2 : Int32) (P : ((Nat → Int32) × Int64 × Int64 × (Nat → Int32) × (Nat → Int32) × (Nat → Int32)) → Prop) : Prop := ∃ n, wl_Md_store_3 ms a0 a1 a2 P n (0 : Int32) dd Lwhole Lwhole2 bm rr kt
abbrev rm_Md_store : Room := { frames := 0, cells := 0, slots := 0, locals := 0 }
set_option maxHeartbeats 4000000 in
set_option maxRecDepth 100000 in
theorem c_Md_store (l : Launch) (D : va_G) (cI : ClassId) (cB : ClassId) (qd : Nat) (qmemory : Nat) (qr : Nat) (qcounts : Nat) (ms : Int32) (dd : Nat → Int32) (Lwhole : Int64) (Lwhole2 : Int64) (bm : Nat → Int32) (rr : Nat → Int32) (kt : Nat → Int32) (a0 : Int32) (a1 : Int32) (a2 : Int32) (P : ((Nat → Int32) × Int64 × Int64 × (Nat → Int32) × (Nat → Int32) × (Nat → Int32)) → Prop) (h : wp_Md_store ms dd Lwhole Lwhole2 bm rr kt a0 a1 a2 P) (sz : Nat) : Met l y_Md_store (zz_ws y_Md_store b_Md_store 5 none) rm_Md_store (va_Pc [.ref qd, .int a0, .int a1, .int a2] (zz_pw D [(cI, .int), (cB, .byte)] (wD qd qmemory qr qcounts cI cB ms dd Lwhole Lwhole2 bm rr kt) sz)) (va_Qv P (zz_qw D (fun u => wD qd qmemory qr qcounts cI cB ms u.1 u.2.1 u.2.2.1 u.2.2.2.1 u.2.2.2.2.1 u.2.2.2.2.2) (va_A (wD qd qmemory qr qcounts cI cB ms dd Lwhole Lwhole2 bm rr kt) sz)) (va_A (wD qd qmemory qr qcounts cI cB ms dd Lwhole Lwhole2 bm rr kt) sz)) 0 0 (va_A (wD qd qmemory qr qcounts cI cB ms dd Lwhole Lwhole2 bm rr kt) sz) := by
  refine Met.ofW (cc := b_Md_store) (maxL := 5) (ret := none) (by decide) rfl ?_
  intro p e s m args below meth c s₁ B hml hv
  obtain ⟨rfl, hsz, hP, hK, hD0⟩ := hv
  have hx := B.exec
  have hb := B.bytes
  have hr := B.returns
  have hts := atoms_spec (ws := (zz_ws y_Md_store b_Md_store 5 none)) B.pre
  have hown : s.vm.findClass R_Md = some m.cls := findClass_of_methodNamed B.named
  have hlocks := B.notSynchronized
  have hT := zz_hts hts
  have X : CallFix p m c b_Md_store 5 s ([.ref qd, .int a0, .int a1, .int a2] : List Value).toArray (zz_ws y_Md_store b_Md_store 5 none) R_Md := ⟨hx, hb, hml, hown, hts⟩
  have hf0 : 0 + 0 ≤ (headSpec (zz_ws y_Md_store b_Md_store 5 none) rm_Md_store).room.cells ∧ 0 + 0 ≤ (headSpec (zz_ws y_Md_store b_Md_store 5 none) rm_Md_store).room.slots := ⟨Nat.le_of_ble_eq_true rfl, Nat.le_of_ble_eq_true rfl⟩
  subst hsz
  have hD := hD0.self (sz := s.heap.size)
  generalize hAe : va_A (wD qd qmemory qr qcounts cI cB ms dd Lwhole Lwhole2 bm rr kt) s.heap.size = A at hD ⊢
  have hA : ∀ q : Nat, s.heap.size ≤ q → A q := fun q h => by rw [← hAe]; exact Or.inr h
  have hS : va_S A s.heap s.heap [] := va_S.rf
  have hl := lv_entry ([.ref qd, .int a0, .int a1, .int a2]) (n := 5) (Nat.le_of_ble_eq_true rfl)
  rw [lg_entry_eq]
  generalize (lg_sl ([.ref qd, .int a0, .int a1, .int a2]) ++ List.replicate (5 - (lg_sl ([.ref qd, .int a0, .int a1, .int a2])).length) Slot.unset).toArray = ls at hl ⊢
  have hl : lv_has ls 5 [(0, .ref qd), (1, .int a0), (2, .int a1), (3, .int a2)] := hl
  refine lv_iconst (v := 0) hx hb d_Md_store_0 (by decide) ?_
  refine lv_istore (lv' := [(4, .int (0 : Int32)), (0, .ref qd), (1, .int a0), (2, .int a1), (3, .int a2)]) hx hb d_Md_store_1 hl (by decide) rfl (fun ls hl => ?_)
  have lp : ∀ (n : Nat) (v4 : Int32) (wdd : Nat → Int32) (wLwhole : Int64) (wLwhole2 : Int64) (wbm : Nat → Int32) (wrr : Nat → Int32) (wkt : Nat → Int32), wl_Md_store_3 ms a0 a1 a2 P n v4 wdd wLwhole wLwhole2 wbm wrr wkt → ∀ (H : Heap) (locs : List Loc), va_P D vwCl (wD qd qmemory qr qcounts cI cB ms wdd wLwhole wLwhole2 wbm wrr wkt) H → va_D A (wD qd qmemory qr qcounts cI cB ms wdd wLwhole wLwhole2 wbm wrr wkt) → va_S A s.heap H locs → ∀ ls : Array Slot, lv_has ls 5 [(4, .int v4), (0, .ref qd), (1, .int a0), (2, .int a1), (3, .int a2)] → W p l e (headSpec (zz_ws y_Md_store b_Md_store 5 none) rm_Md_store).room s m ([.ref qd, .int a0, .int a1, .int a2] : List Value).toArray below meth c H locs 0 0 (MQ below (va_Qv P (zz_qw D (fun u => wD qd qmemory qr qcounts cI cB ms u.1 u.2.1 u.2.2.1 u.2.2.2.1 u.2.2.2.2.1 u.2.2.2.2.2) A) A) ([.ref qd, .int a0, .int a1, .int a2] : List Value).toArray s 0 0 A) (F0 m 3 ls []) := by
    intro n
    induction n with
    | zero =>
      intro v4 wdd wLwhole wLwhole2 wbm wrr wkt h
      exact False.elim h
    | succ n ih =>
      intro v4 wdd wLwhole wLwhole2 wbm wrr wkt h H locs hP hD hS ls hl
      rw [wl_Md_store_3] at h
      refine lv_iload hx hb d_Md_store_3 (lv_at hl 0 rfl) ?_
      refine lv_iload_n hx hb d_Md_store_5 rfl (lv_at hl 3 rfl) ?_
      refine lv_icmp_ge (tgt := 36) hx hb d_Md_store_6 (by decide) (fun c_1 => ?_) (fun c_1 => ?_)
      · skip
        have h := h.1 c_1
        exact W.vret hx hb hr (fun t ht hW => ⟨⟨(wdd, wLwhole, wLwhole2, wbm, wrr, wkt), rfl, h, by rw [ht]; exact hP, hD⟩, hS.F ht⟩) hS.2.2 d_Md_store_36
      · skip
        have h := h.2 c_1
        refine lv_aload_n hx hb d_Md_store_9 rfl (lv_at hl 1 rfl) ?_
        refine g_Md_8 (v := .ref qmemory) hx hb hT hown hK hP 0 rfl rfl d_Md_store_10 ?_
        refine lv_iload_n hx hb d_Md_store_13 rfl (lv_at hl 2 rfl) ?_
        refine lv_iload hx hb d_Md_store_14 (lv_at hl 0 rfl) ?_
        refine lv_iadd hx hb d_Md_store_16 ?_
        refine lv_iload_n hx hb d_Md_store_17 rfl (lv_at hl 4 rfl) ?_
        refine lv_bipush (v := 8) hx hb d_Md_store_18 (by decide) ?_
        refine lv_iload_n hx hb d_Md_store_20 rfl (lv_at hl 3 rfl) ?_
        refine lv_iconst (v := 1) hx hb d_Md_store_21 (by decide) ?_
        refine lv_isub hx hb d_Md_store_22 ?_
        refine lv_iload hx hb d_Md_store_23 (lv_at hl 0 rfl) ?_
        refine lv_isub hx hb d_Md_store_25 ?_
        refine lv_imul hx hb d_Md_store_26 ?_
        refine lv_topi (fun x_2 ex_2 => ?_)
        have h := h x_2 ex_2
        refine zz_ishr hx hb d_Md_store_27 ?_
        refine lv_i2b (v := (zz_shr a2 x_2).toInt8.toInt32) hx hb d_Md_store_28 rfl ?_
        refine lv_topi (fun x_3 ex_3 => ?_)
        have h := h x_3 ex_3
        refine va_bast (f := wbm) hx hb hK hP hD hS 1 1 rfl rfl h.1 d_Md_store_29 (fun H locs (hP : va_P D vwCl (wD qd qmemory qr qcounts cI cB ms wdd wLwhole wLwhole2 (upd wbm (a0 + v4).toNatClampNeg (vp_nar .byte x_3)) wrr wkt) H) (hD : va_D A (wD qd qmemory qr qcounts cI cB ms wdd wLwhole wLwhole2 (upd wbm (a0 + v4).toNatClampNeg (vp_nar .byte x_3)) wrr wkt)) hS => ?_)
        have h := h.2
        obtain ⟨x_4, ex_4⟩ : ∃ y : Int32, y = v4 + 1 := ⟨_, rfl⟩
        have h := h x_4 ex_4
        refine lv_iinc (v := x_4) (lv' := [(4, .int x_4), (0, .ref qd), (1, .int a0), (2, .int a1), (3, .int a2)]) hx hb d_Md_store_30 hl (k := 0) rfl (by rw [ex_4]; rfl) (by decide) rfl (fun ls hl => ?_)
        refine lv_goto (tgt := 3) hx hb d_Md_store_33 (by decide) ?_
        exact ih x_4 wdd wLwhole wLwhole2 (upd wbm (a0 + v4).toNatClampNeg (vp_nar .byte x_3)) wrr wkt h H locs hP hD hS ls (lv_sub hl [0, 1, 2, 3, 4] rfl)
  obtain ⟨n, h⟩ := h
  exact lp n (0 : Int32) dd Lwhole Lwhole2 bm rr kt h _ _ hP hD hS ls hl
def wp_Md_put_III (ms : Int32) (dd : Nat → Int32) (Lwhole : Int64) (Lwhole2 : Int64) (bm : Nat → Int32) (rr : Nat → Int32) (kt : Nat → Int32) (a0 : Int32) (a1 : Int32) (P : Int32 → ((Nat → Int32) × Int64 × Int64 × (Nat → Int32) × (Nat → Int32) × (Nat → Int32)) → Prop) : Prop := wp_Md_good ms (upd dd 0 (0 : Int32)) Lwhole Lwhole2 bm rr kt a0 (4 : Int32) (fun r_1 => ((r_1 = (0 : Int32) → wp_Md_fail ms (upd dd 0 (0 : Int32)) Lwhole Lwhole2 bm rr kt (1 : Int32) (fun r_7 u_6 => P r_7 (u_6.1, u_6.2.1, u_6.2.2.1, u_6.2.2.2.1, u_6.2.2.2.2.1, u_6.2.2.2.2.2))) ∧ (¬ r_1 = (0 : Int32) → wp_Md_part ms (upd dd 0 (0 : Int32)) Lwhole Lwhole2 bm rr kt a0 (4 : Int32) (fun r_3 => wp_Md_store ms (upd dd 0 (0 : Int32)) Lwhole Lwhole2 bm rr kt a0 (4 : Int32) a1 (fun u_4 => P r_3 (u_4.1, u_4.2.1, u_4.2.2.1, u_4.2.2.2.1, u_4.2.2.2.2.1, u_4.2.2.2.2.2))))))
abbrev rm_Md_put_III : Room := { frames := 1, cells := 0, slots := 0, locals := 24 }
set_option maxHeartbeats 4000000 in
set_option maxRecDepth 100000 in
theorem c_Md_put_III (l : Launch) (D : va_G) (cI : ClassId) (cB : ClassId) (qd : Nat) (qmemory : Nat) (qr : Nat) (qcounts : Nat) (ms : Int32) (dd : Nat → Int32) (Lwhole : Int64) (Lwhole2 : Int64) (bm : Nat → Int32) (rr : Nat → Int32) (kt : Nat → Int32) (a0 : Int32) (a1 : Int32) (P : Int32 → ((Nat → Int32) × Int64 × Int64 × (Nat → Int32) × (Nat → Int32) × (Nat → Int32)) → Prop) (h : wp_Md_put_III ms dd Lwhole Lwhole2 bm rr kt a0 a1 P) (sz : Nat) : Met l y_Md_put_III (zz_ws y_Md_put_III b_Md_put_III 4 (some .int)) rm_Md_put_III (va_Pc [.ref qd, .int a0, .int a1] (zz_pw D [(cI, .int), (cB, .byte)] (wD qd qmemory qr qcounts cI cB ms dd Lwhole Lwhole2 bm rr kt) sz)) (va_Qi P (zz_qw D (fun u => wD qd qmemory qr qcounts cI cB ms u.1 u.2.1 u.2.2.1 u.2.2.2.1 u.2.2.2.2.1 u.2.2.2.2.2) (va_A (wD qd qmemory qr qcounts cI cB ms dd Lwhole Lwhole2 bm rr kt) sz)) (va_A (wD qd qmemory qr qcounts cI cB ms dd Lwhole Lwhole2 bm rr kt) sz)) 0 0 (va_A (wD qd qmemory qr qcounts cI cB ms dd Lwhole Lwhole2 bm rr kt) sz) := by
  refine Met.ofW (cc := b_Md_put_III) (maxL := 4) (ret := (some .int)) (by decide) rfl ?_
  intro p e s m args below meth c s₁ B hml hv
  obtain ⟨rfl, hsz, hP, hK, hD0⟩ := hv
  have hx := B.exec
  have hb := B.bytes
  have hr := B.returns
  have hts := atoms_spec (ws := (zz_ws y_Md_put_III b_Md_put_III 4 (some .int))) B.pre
  have hown : s.vm.findClass R_Md = some m.cls := findClass_of_methodNamed B.named
  have hlocks := B.notSynchronized
  have hT := zz_hts hts
  have X : CallFix p m c b_Md_put_III 4 s ([.ref qd, .int a0, .int a1] : List Value).toArray (zz_ws y_Md_put_III b_Md_put_III 4 (some .int)) R_Md := ⟨hx, hb, hml, hown, hts⟩
  have hf0 : 0 + 0 ≤ (headSpec (zz_ws y_Md_put_III b_Md_put_III 4 (some .int)) rm_Md_put_III).room.cells ∧ 0 + 0 ≤ (headSpec (zz_ws y_Md_put_III b_Md_put_III 4 (some .int)) rm_Md_put_III).room.slots := ⟨Nat.le_of_ble_eq_true rfl, Nat.le_of_ble_eq_true rfl⟩
  subst hsz
  have hD := hD0.self (sz := s.heap.size)
  generalize hAe : va_A (wD qd qmemory qr qcounts cI cB ms dd Lwhole Lwhole2 bm rr kt) s.heap.size = A at hD ⊢
  have hA : ∀ q : Nat, s.heap.size ≤ q → A q := fun q h => by rw [← hAe]; exact Or.inr h
  have hS : va_S A s.heap s.heap [] := va_S.rf
  have hl := lv_entry ([.ref qd, .int a0, .int a1]) (n := 4) (Nat.le_of_ble_eq_true rfl)
  rw [lg_entry_eq]
  generalize (lg_sl ([.ref qd, .int a0, .int a1]) ++ List.replicate (4 - (lg_sl ([.ref qd, .int a0, .int a1])).length) Slot.unset).toArray = ls at hl ⊢
  have hl : lv_has ls 4 [(0, .ref qd), (1, .int a0), (2, .int a1)] := hl
  refine lv_aload_n hx hb d_Md_put_III_0 rfl (lv_at hl 0 rfl) ?_
  refine lv_iconst (v := 0) hx hb d_Md_put_III_1 (by decide) ?_
  refine p_Md_35 hx hb hT hown hK hP hD hS 0 rfl rfl d_Md_put_III_2 (fun H locs (hP : va_P D vwCl (wD qd qmemory qr qcounts cI cB ms (upd dd 0 (0 : Int32)) Lwhole Lwhole2 bm rr kt) H) (hD : va_D A (wD qd qmemory qr qcounts cI cB ms (upd dd 0 (0 : Int32)) Lwhole Lwhole2 bm rr kt)) hS => ?_)
  refine lv_aload_n hx hb d_Md_put_III_5 rfl (lv_at hl 0 rfl) ?_
  refine lv_iload_n hx hb d_Md_put_III_6 rfl (lv_at hl 1 rfl) ?_
  refine lv_iconst (v := 4) hx hb d_Md_put_III_7 (by decide) ?_
  refine zz_Ri (As := [.int a0, .int (4 : Int32)]) (rest := []) (wc := wD qd qmemory qr qcounts cI cB ms (upd dd 0 (0 : Int32)) Lwhole Lwhole2 bm rr kt) X hK hP (c_Md_good l D cI cB qd qmemory qr qcounts ms (upd dd 0 (0 : Int32)) Lwhole Lwhole2 bm rr kt a0 (4 : Int32) _ h) ⟨rfl, rfl⟩ m_Md_good k_Md_38 ⟨Nat.le_of_ble_eq_true rfl, Nat.le_of_ble_eq_true rfl⟩ [0, 1, 2, 3] rfl 6 0 rfl rfl rfl rfl hl.1 rfl (Nat.le_of_ble_eq_true rfl) d_Md_put_III_8 hf0 (fun r_1 h => ?_)
  refine lv_if_ne (tgt := 20) hx hb d_Md_put_III_11 (by decide) (fun c_2 => ?_) (fun c_2 => ?_)
  · skip
    have h := h.2 c_2
    refine lv_aload_n hx hb d_Md_put_III_20 rfl (lv_at hl 0 rfl) ?_
    refine lv_iload_n hx hb d_Md_put_III_21 rfl (lv_at hl 1 rfl) ?_
    refine lv_iconst (v := 4) hx hb d_Md_put_III_22 (by decide) ?_
    refine zz_Ri (As := [.int a0, .int (4 : Int32)]) (rest := []) (wc := wD qd qmemory qr qcounts cI cB ms (upd dd 0 (0 : Int32)) Lwhole Lwhole2 bm rr kt) X hK hP (c_Md_part l D cI cB qd qmemory qr qcounts ms (upd dd 0 (0 : Int32)) Lwhole Lwhole2 bm rr kt a0 (4 : Int32) _ h) ⟨rfl, rfl⟩ m_Md_part k_Md_46 ⟨Nat.le_of_ble_eq_true rfl, Nat.le_of_ble_eq_true rfl⟩ [0, 1, 2, 3] rfl 6 0 rfl rfl rfl rfl hl.1 rfl (Nat.le_of_ble_eq_true rfl) d_Md_put_III_23 hf0 (fun r_3 h => ?_)
    refine lv_istore_n (lv' := [(3, .int r_3), (0, .ref qd), (1, .int a0), (2, .int a1)]) hx hb d_Md_put_III_26 rfl hl (by decide) rfl (fun ls hl => ?_)
    refine lv_aload_n hx hb d_Md_put_III_27 rfl (lv_at hl 1 rfl) ?_
    refine lv_iload_n hx hb d_Md_put_III_28 rfl (lv_at hl 2 rfl) ?_
    refine lv_iconst (v := 4) hx hb d_Md_put_III_29 (by decide) ?_
    refine lv_iload_n hx hb d_Md_put_III_30 rfl (lv_at hl 3 rfl) ?_
    refine zz_Wv (As := [.int a0, .int (4 : Int32), .int a1]) (rest := []) (wc := wD qd qmemory qr qcounts cI cB ms (upd dd 0 (0 : Int32)) Lwhole Lwhole2 bm rr kt) (wr := []) X hK hP hD hS hA (c_Md_store l D cI cB qd qmemory qr qcounts ms (upd dd 0 (0 : Int32)) Lwhole Lwhole2 bm rr kt a0 (4 : Int32) a1 _ h _) ⟨rfl, rfl⟩ m_Md_store k_Md_50 ⟨Nat.le_of_ble_eq_true rfl, Nat.le_of_ble_eq_true rfl⟩ [0, 1, 2, 3] [] rfl rfl (by decide) (by decide) (by decide) 6 0 rfl rfl rfl rfl hl.1 rfl (Nat.le_of_ble_eq_true rfl) d_Md_put_III_31 hf0 (fun u_4 H locs h hP hD hS => ?_)
    have hP : va_P D vwCl (wD qd qmemory qr qcounts cI cB ms u_4.1 u_4.2.1 u_4.2.2.1 u_4.2.2.2.1 u_4.2.2.2.2.1 u_4.2.2.2.2.2) H := hP.sub [0, 1, 2, 3] rfl
    have hD : va_D A (wD qd qmemory qr qcounts cI cB ms u_4.1 u_4.2.1 u_4.2.2.1 u_4.2.2.2.1 u_4.2.2.2.2.1 u_4.2.2.2.2.2) := hD.sub [0, 1, 2, 3] (by decide) rfl
    refine lv_iload_n hx hb d_Md_put_III_34 rfl (lv_at hl 0 rfl) ?_
    exact W.iret (v := r_3) hx hb hr (fun t ht hW => ⟨⟨r_3, (u_4.1, u_4.2.1, u_4.2.2.1, u_4.2.2.2.1, u_4.2.2.2.2.1, u_4.2.2.2.2.2), rfl, h, by rw [ht]; exact hP, hD⟩, hS.F ht⟩) hS.2.2 d_Md_put_III_35
  · skip
    have h := h.1 c_2
    refine lv_aload_n hx hb d_Md_put_III_14 rfl (lv_at hl 0 rfl) ?_
    refine lv_iconst (v := 1) hx hb d_Md_put_III_15 (by decide) ?_
    refine zz_Wi (As := [.int (1 : Int32)]) (rest := []) (wc := wD qd qmemory qr qcounts cI cB ms (upd dd 0 (0 : Int32)) Lwhole Lwhole2 bm rr kt) (wr := []) X hK hP hD hS hA (c_Md_fail l D cI cB qd qmemory qr qcounts ms (upd dd 0 (0 : Int32)) Lwhole Lwhole2 bm rr kt (1 : Int32) _ h _) ⟨rfl, rfl⟩ m_Md_fail k_Md_42 ⟨Nat.le_of_ble_eq_true rfl, Nat.le_of_ble_eq_true rfl⟩ [0, 1, 2, 3] [] rfl rfl (by decide) (by decide) (by decide) 6 0 rfl rfl rfl rfl hl.1 rfl (Nat.le_of_ble_eq_true rfl) d_Md_put_III_16 hf0 (fun r_7 u_6 H locs h hP hD hS => ?_)
    have hP : va_P D vwCl (wD qd qmemory qr qcounts cI cB ms u_6.1 u_6.2.1 u_6.2.2.1 u_6.2.2.2.1 u_6.2.2.2.2.1 u_6.2.2.2.2.2) H := hP.sub [0, 1, 2, 3] rfl
    have hD : va_D A (wD qd qmemory qr qcounts cI cB ms u_6.1 u_6.2.1 u_6.2.2.1 u_6.2.2.2.1 u_6.2.2.2.2.1 u_6.2.2.2.2.2) := hD.sub [0, 1, 2, 3] (by decide) rfl
    exact W.iret (v := r_7) hx hb hr (fun t ht hW => ⟨⟨r_7, (u_6.1, u_6.2.1, u_6.2.2.1, u_6.2.2.2.1, u_6.2.2.2.2.1, u_6.2.2.2.2.2), rfl, h, by rw [ht]; exact hP, hD⟩, hS.F ht⟩) hS.2.2 d_Md_put_III_19
def wp_Md_word (ms : Int32) (dd : Nat → Int32) (Lwhole : Int64) (Lwhole2 : Int64) (bm : Nat → Int32) (rr : Nat → Int32) (kt : Nat → Int32) (a0 : Int32) (P : Int32 → ((Nat → Int32) × Int64 × Int64 × (Nat → Int32) × (Nat → Int32) × (Nat → Int32)) → Prop) : Prop := wp_Md_good ms (upd dd 0 (0 : Int32)) Lwhole Lwhole2 bm rr kt a0 (4 : Int32) (fun r_1 => ((r_1 = (0 : Int32) → wp_Md_fail ms (upd dd 0 (0 : Int32)) Lwhole Lwhole2 bm rr kt (1 : Int32) (fun r_4 u_3 => P r_4 (u_3.1, u_3.2.1, u_3.2.2.1, u_3.2.2.2.1, u_3.2.2.2.2.1, u_3.2.2.2.2.2))) ∧ (¬ r_1 = (0 : Int32) → wp_Md_part ms (upd dd 0 (0 : Int32)) Lwhole Lwhole2 bm rr kt a0 (4 : Int32) (fun r_5 => P r_5 ((upd dd 0 (0 : Int32)), Lwhole, Lwhole2, bm, rr, kt)))))
abbrev rm_Md_word : Room := { frames := 1, cells := 0, slots := 0, locals := 24 }
set_option maxHeartbeats 4000000 in
set_option maxRecDepth 100000 in
theorem c_Md_word (l : Launch) (D : va_G) (cI : ClassId) (cB : ClassId) (qd : Nat) (qmemory : Nat) (qr : Nat) (qcounts : Nat) (ms : Int32) (dd : Nat → Int32) (Lwhole : Int64) (Lwhole2 : Int64) (bm : Nat → Int32) (rr : Nat → Int32) (kt : Nat → Int32) (a0 : Int32) (P : Int32 → ((Nat → Int32) × Int64 × Int64 × (Nat → Int32) × (Nat → Int32) × (Nat → Int32)) → Prop) (h : wp_Md_word ms dd Lwhole Lwhole2 bm rr kt a0 P) (sz : Nat) : Met l y_Md_word (zz_ws y_Md_word b_Md_word 2 (some .int)) rm_Md_word (va_Pc [.ref qd, .int a0] (zz_pw D [(cI, .int), (cB, .byte)] (wD qd qmemory qr qcounts cI cB ms dd Lwhole Lwhole2 bm rr kt) sz)) (va_Qi P (zz_qw D (fun u => wD qd qmemory qr qcounts cI cB ms u.1 u.2.1 u.2.2.1 u.2.2.2.1 u.2.2.2.2.1 u.2.2.2.2.2) (va_A (wD qd qmemory qr qcounts cI cB ms dd Lwhole Lwhole2 bm rr kt) sz)) (va_A (wD qd qmemory qr qcounts cI cB ms dd Lwhole Lwhole2 bm rr kt) sz)) 0 0 (va_A (wD qd qmemory qr qcounts cI cB ms dd Lwhole Lwhole2 bm rr kt) sz) := by
  refine Met.ofW (cc := b_Md_word) (maxL := 2) (ret := (some .int)) (by decide) rfl ?_
  intro p e s m args below meth c s₁ B hml hv
  obtain ⟨rfl, hsz, hP, hK, hD0⟩ := hv
  have hx := B.exec
  have hb := B.bytes
  have hr := B.returns
  have hts := atoms_spec (ws := (zz_ws y_Md_word b_Md_word 2 (some .int))) B.pre
  have hown : s.vm.findClass R_Md = some m.cls := findClass_of_methodNamed B.named
  have hlocks := B.notSynchronized
  have hT := zz_hts hts
  have X : CallFix p m c b_Md_word 2 s ([.ref qd, .int a0] : List Value).toArray (zz_ws y_Md_word b_Md_word 2 (some .int)) R_Md := ⟨hx, hb, hml, hown, hts⟩
  have hf0 : 0 + 0 ≤ (headSpec (zz_ws y_Md_word b_Md_word 2 (some .int)) rm_Md_word).room.cells ∧ 0 + 0 ≤ (headSpec (zz_ws y_Md_word b_Md_word 2 (some .int)) rm_Md_word).room.slots := ⟨Nat.le_of_ble_eq_true rfl, Nat.le_of_ble_eq_true rfl⟩
  subst hsz
  have hD := hD0.self (sz := s.heap.size)
  generalize hAe : va_A (wD qd qmemory qr qcounts cI cB ms dd Lwhole Lwhole2 bm rr kt) s.heap.size = A at hD ⊢
  have hA : ∀ q : Nat, s.heap.size ≤ q → A q := fun q h => by rw [← hAe]; exact Or.inr h
  have hS : va_S A s.heap s.heap [] := va_S.rf
  have hl := lv_entry ([.ref qd, .int a0]) (n := 2) (Nat.le_of_ble_eq_true rfl)
  rw [lg_entry_eq]
  generalize (lg_sl ([.ref qd, .int a0]) ++ List.replicate (2 - (lg_sl ([.ref qd, .int a0])).length) Slot.unset).toArray = ls at hl ⊢
  have hl : lv_has ls 2 [(0, .ref qd), (1, .int a0)] := hl
  refine lv_aload_n hx hb d_Md_word_0 rfl (lv_at hl 0 rfl) ?_
  refine lv_iconst (v := 0) hx hb d_Md_word_1 (by decide) ?_
  refine p_Md_35 hx hb hT hown hK hP hD hS 0 rfl rfl d_Md_word_2 (fun H locs (hP : va_P D vwCl (wD qd qmemory qr qcounts cI cB ms (upd dd 0 (0 : Int32)) Lwhole Lwhole2 bm rr kt) H) (hD : va_D A (wD qd qmemory qr qcounts cI cB ms (upd dd 0 (0 : Int32)) Lwhole Lwhole2 bm rr kt)) hS => ?_)
  refine lv_aload_n hx hb d_Md_word_5 rfl (lv_at hl 0 rfl) ?_
  refine lv_iload_n hx hb d_Md_word_6 rfl (lv_at hl 1 rfl) ?_
  refine lv_iconst (v := 4) hx hb d_Md_word_7 (by decide) ?_
  refine zz_Ri (As := [.int a0, .int (4 : Int32)]) (rest := []) (wc := wD qd qmemory qr qcounts cI cB ms (upd dd 0 (0 : Int32)) Lwhole Lwhole2 bm rr kt) X hK hP (c_Md_good l D cI cB qd qmemory qr qcounts ms (upd dd 0 (0 : Int32)) Lwhole Lwhole2 bm rr kt a0 (4 : Int32) _ h) ⟨rfl, rfl⟩ m_Md_good k_Md_38 ⟨Nat.le_of_ble_eq_true rfl, Nat.le_of_ble_eq_true rfl⟩ [0, 1, 2, 3] rfl 6 0 rfl rfl rfl rfl hl.1 rfl (Nat.le_of_ble_eq_true rfl) d_Md_word_8 hf0 (fun r_1 h => ?_)
  refine lv_if_eq (tgt := 23) hx hb d_Md_word_11 (by decide) (fun c_2 => ?_) (fun c_2 => ?_)
  · skip
    have h := h.1 c_2
    refine lv_aload_n hx hb d_Md_word_23 rfl (lv_at hl 0 rfl) ?_
    refine lv_iconst (v := 1) hx hb d_Md_word_24 (by decide) ?_
    refine zz_Wi (As := [.int (1 : Int32)]) (rest := []) (wc := wD qd qmemory qr qcounts cI cB ms (upd dd 0 (0 : Int32)) Lwhole Lwhole2 bm rr kt) (wr := []) X hK hP hD hS hA (c_Md_fail l D cI cB qd qmemory qr qcounts ms (upd dd 0 (0 : Int32)) Lwhole Lwhole2 bm rr kt (1 : Int32) _ h _) ⟨rfl, rfl⟩ m_Md_fail k_Md_42 ⟨Nat.le_of_ble_eq_true rfl, Nat.le_of_ble_eq_true rfl⟩ [0, 1, 2, 3] [] rfl rfl (by decide) (by decide) (by decide) 6 0 rfl rfl rfl rfl hl.1 rfl (Nat.le_of_ble_eq_true rfl) d_Md_word_25 hf0 (fun r_4 u_3 H locs h hP hD hS => ?_)
    have hP : va_P D vwCl (wD qd qmemory qr qcounts cI cB ms u_3.1 u_3.2.1 u_3.2.2.1 u_3.2.2.2.1 u_3.2.2.2.2.1 u_3.2.2.2.2.2) H := hP.sub [0, 1, 2, 3] rfl
    have hD : va_D A (wD qd qmemory qr qcounts cI cB ms u_3.1 u_3.2.1 u_3.2.2.1 u_3.2.2.2.1 u_3.2.2.2.2.1 u_3.2.2.2.2.2) := hD.sub [0, 1, 2, 3] (by decide) rfl
    exact W.iret (v := r_4) hx hb hr (fun t ht hW => ⟨⟨r_4, (u_3.1, u_3.2.1, u_3.2.2.1, u_3.2.2.2.1, u_3.2.2.2.2.1, u_3.2.2.2.2.2), rfl, h, by rw [ht]; exact hP, hD⟩, hS.F ht⟩) hS.2.2 d_Md_word_28
  · skip
    have h := h.2 c_2
    refine lv_aload_n hx hb d_Md_word_14 rfl (lv_at hl 0 rfl) ?_
    refine lv_iload_n hx hb d_Md_word_15 rfl (lv_at hl 1 rfl) ?_
    refine lv_iconst (v := 4) hx hb d_Md_word_16 (by decide) ?_
    refine zz_Ri (As := [.int a0, .int (4 : Int32)]) (rest := []) (wc := wD qd qmemory qr qcounts cI cB ms (upd dd 0 (0 : Int32)) Lwhole Lwhole2 bm rr kt) X hK hP (c_Md_part l D cI cB qd qmemory qr qcounts ms (upd dd 0 (0 : Int32)) Lwhole Lwhole2 bm rr kt a0 (4 : Int32) _ h) ⟨rfl, rfl⟩ m_Md_part k_Md_46 ⟨Nat.le_of_ble_eq_true rfl, Nat.le_of_ble_eq_true rfl⟩ [0, 1, 2, 3] rfl 6 0 rfl rfl rfl rfl hl.1 rfl (Nat.le_of_ble_eq_true rfl) d_Md_word_17 hf0 (fun r_5 h => ?_)
    refine lv_goto (tgt := 28) hx hb d_Md_word_20 (by decide) ?_
    exact W.iret (v := r_5) hx hb hr (fun t ht hW => ⟨⟨r_5, ((upd dd 0 (0 : Int32)), Lwhole, Lwhole2, bm, rr, kt), rfl, h, by rw [ht]; exact hP, hD⟩, hS.F ht⟩) hS.2.2 d_Md_word_28
def wp_Md_go (ms : Int32) (dd : Nat → Int32) (Lwhole : Int64) (Lwhole2 : Int64) (bm : Nat → Int32) (rr : Nat → Int32) (kt : Nat → Int32) (a0 : Int32) (P : Int32 → ((Nat → Int32) × Int64 × Int64 × (Nat → Int32) × (Nat → Int32) × (Nat → Int32)) → Prop) : Prop := (((a0 &&& (3 : Int32)) = (0 : Int32) → ∀ x_2 : Int32, x_2 = (dd 3) → ∀ x_3 : Int32, x_3 = (a0 + (4 : Int32)) → P x_2 ((upd (upd (upd (upd (upd (upd dd 0 (0 : Int32)) 3 a0) 4 x_3) 6 (0 : Int32)) 7 (0 : Int32)) 5 (0 : Int32)), Lwhole, Lwhole2, bm, rr, kt)) ∧ (¬ (a0 &&& (3 : Int32)) = (0 : Int32) → wp_Md_fail ms (upd dd 0 (0 : Int32)) Lwhole Lwhole2 bm rr kt (1 : Int32) (fun r_5 u_4 => P r_5 (u_4.1, u_4.2.1, u_4.2.2.1, u_4.2.2.2.1, u_4.2.2.2.2.1, u_4.2.2.2.2.2))))
abbrev rm_Md_go : Room := { frames := 1, cells := 0, slots := 0, locals := 21 }
set_option maxHeartbeats 4000000 in
set_option maxRecDepth 100000 in
theorem c_Md_go (l : Launch) (D : va_G) (cI : ClassId) (cB : ClassId) (qd : Nat) (qmemory : Nat) (qr : Nat) (qcounts : Nat) (ms : Int32) (dd : Nat → Int32) (Lwhole : Int64) (Lwhole2 : Int64) (bm : Nat → Int32) (rr : Nat → Int32) (kt : Nat → Int32) (a0 : Int32) (P : Int32 → ((Nat → Int32) × Int64 × Int64 × (Nat → Int32) × (Nat → Int32) × (Nat → Int32)) → Prop) (h : wp_Md_go ms dd Lwhole Lwhole2 bm rr kt a0 P) (sz : Nat) : Met l y_Md_go (zz_ws y_Md_go b_Md_go 3 (some .int)) rm_Md_go (va_Pc [.ref qd, .int a0] (zz_pw D [(cI, .int), (cB, .byte)] (wD qd qmemory qr qcounts cI cB ms dd Lwhole Lwhole2 bm rr kt) sz)) (va_Qi P (zz_qw D (fun u => wD qd qmemory qr qcounts cI cB ms u.1 u.2.1 u.2.2.1 u.2.2.2.1 u.2.2.2.2.1 u.2.2.2.2.2) (va_A (wD qd qmemory qr qcounts cI cB ms dd Lwhole Lwhole2 bm rr kt) sz)) (va_A (wD qd qmemory qr qcounts cI cB ms dd Lwhole Lwhole2 bm rr kt) sz)) 0 0 (va_A (wD qd qmemory qr qcounts cI cB ms dd Lwhole Lwhole2 bm rr kt) sz) := by
  refine Met.ofW (cc := b_Md_go) (maxL := 3) (ret := (some .int)) (by decide) rfl ?_
  intro p e s m args below meth c s₁ B hml hv
  obtain ⟨rfl, hsz, hP, hK, hD0⟩ := hv
  have hx := B.exec
  have hb := B.bytes
  have hr := B.returns
  have hts := atoms_spec (ws := (zz_ws y_Md_go b_Md_go 3 (some .int))) B.pre
  have hown : s.vm.findClass R_Md = some m.cls := findClass_of_methodNamed B.named
  have hlocks := B.notSynchronized
  have hT := zz_hts hts
  have X : CallFix p m c b_Md_go 3 s ([.ref qd, .int a0] : List Value).toArray (zz_ws y_Md_go b_Md_go 3 (some .int)) R_Md := ⟨hx, hb, hml, hown, hts⟩
  have hf0 : 0 + 0 ≤ (headSpec (zz_ws y_Md_go b_Md_go 3 (some .int)) rm_Md_go).room.cells ∧ 0 + 0 ≤ (headSpec (zz_ws y_Md_go b_Md_go 3 (some .int)) rm_Md_go).room.slots := ⟨Nat.le_of_ble_eq_true rfl, Nat.le_of_ble_eq_true rfl⟩
  subst hsz
  have hD := hD0.self (sz := s.heap.size)
  generalize hAe : va_A (wD qd qmemory qr qcounts cI cB ms dd Lwhole Lwhole2 bm rr kt) s.heap.size = A at hD ⊢
  have hA : ∀ q : Nat, s.heap.size ≤ q → A q := fun q h => by rw [← hAe]; exact Or.inr h
  have hS : va_S A s.heap s.heap [] := va_S.rf
  have hl := lv_entry ([.ref qd, .int a0]) (n := 3) (Nat.le_of_ble_eq_true rfl)
  rw [lg_entry_eq]
  generalize (lg_sl ([.ref qd, .int a0]) ++ List.replicate (3 - (lg_sl ([.ref qd, .int a0])).length) Slot.unset).toArray = ls at hl ⊢
  have hl : lv_has ls 3 [(0, .ref qd), (1, .int a0)] := hl
  refine lv_aload_n hx hb d_Md_go_0 rfl (lv_at hl 0 rfl) ?_
  refine lv_iconst (v := 0) hx hb d_Md_go_1 (by decide) ?_
  refine p_Md_35 hx hb hT hown hK hP hD hS 0 rfl rfl d_Md_go_2 (fun H locs (hP : va_P D vwCl (wD qd qmemory qr qcounts cI cB ms (upd dd 0 (0 : Int32)) Lwhole Lwhole2 bm rr kt) H) (hD : va_D A (wD qd qmemory qr qcounts cI cB ms (upd dd 0 (0 : Int32)) Lwhole Lwhole2 bm rr kt)) hS => ?_)
  refine lv_iload_n hx hb d_Md_go_5 rfl (lv_at hl 1 rfl) ?_
  refine lv_iconst (v := 3) hx hb d_Md_go_6 (by decide) ?_
  refine lv_iand hx hb d_Md_go_7 ?_
  refine lv_if_eq (tgt := 17) hx hb d_Md_go_8 (by decide) (fun c_1 => ?_) (fun c_1 => ?_)
  · skip
    have h := h.1 c_1
    refine lv_aload_n hx hb d_Md_go_17 rfl (lv_at hl 0 rfl) ?_
    refine g_Md_54 (v := .int (dd 3)) hx hb hT hown hK hP 0 rfl rfl d_Md_go_18 ?_
    refine lv_topi (fun x_2 ex_2 => ?_)
    have h := h x_2 ex_2
    refine lv_istore_n (lv' := [(2, .int x_2), (0, .ref qd), (1, .int a0)]) hx hb d_Md_go_21 rfl hl (by decide) rfl (fun ls hl => ?_)
    refine lv_aload_n hx hb d_Md_go_22 rfl (lv_at hl 1 rfl) ?_
    refine lv_iload_n hx hb d_Md_go_23 rfl (lv_at hl 2 rfl) ?_
    refine p_Md_54 hx hb hT hown hK hP hD hS 0 rfl rfl d_Md_go_24 (fun H locs (hP : va_P D vwCl (wD qd qmemory qr qcounts cI cB ms (upd (upd dd 0 (0 : Int32)) 3 a0) Lwhole Lwhole2 bm rr kt) H) (hD : va_D A (wD qd qmemory qr qcounts cI cB ms (upd (upd dd 0 (0 : Int32)) 3 a0) Lwhole Lwhole2 bm rr kt)) hS => ?_)
    refine lv_aload_n hx hb d_Md_go_27 rfl (lv_at hl 1 rfl) ?_
    refine lv_iload_n hx hb d_Md_go_28 rfl (lv_at hl 2 rfl) ?_
    refine lv_iconst (v := 4) hx hb d_Md_go_29 (by decide) ?_
    refine lv_iadd hx hb d_Md_go_30 ?_
    refine lv_topi (fun x_3 ex_3 => ?_)
    have h := h x_3 ex_3
    refine p_Md_25 hx hb hT hown hK hP hD hS 0 rfl rfl d_Md_go_31 (fun H locs (hP : va_P D vwCl (wD qd qmemory qr qcounts cI cB ms (upd (upd (upd dd 0 (0 : Int32)) 3 a0) 4 x_3) Lwhole Lwhole2 bm rr kt) H) (hD : va_D A (wD qd qmemory qr qcounts cI cB ms (upd (upd (upd dd 0 (0 : Int32)) 3 a0) 4 x_3) Lwhole Lwhole2 bm rr kt)) hS => ?_)
    refine lv_aload_n hx hb d_Md_go_34 rfl (lv_at hl 1 rfl) ?_
    refine lv_iconst (v := 0) hx hb d_Md_go_35 (by decide) ?_
    refine p_Md_57 hx hb hT hown hK hP hD hS 0 rfl rfl (Or.inl rfl) d_Md_go_36 (fun H locs (hP : va_P D vwCl (wD qd qmemory qr qcounts cI cB ms (upd (upd (upd (upd dd 0 (0 : Int32)) 3 a0) 4 x_3) 6 (0 : Int32)) Lwhole Lwhole2 bm rr kt) H) (hD : va_D A (wD qd qmemory qr qcounts cI cB ms (upd (upd (upd (upd dd 0 (0 : Int32)) 3 a0) 4 x_3) 6 (0 : Int32)) Lwhole Lwhole2 bm rr kt)) hS => ?_)
    refine lv_aload_n hx hb d_Md_go_39 rfl (lv_at hl 1 rfl) ?_
    refine lv_iconst (v := 0) hx hb d_Md_go_40 (by decide) ?_
    refine p_Md_60 hx hb hT hown hK hP hD hS 0 rfl rfl (Or.inl rfl) d_Md_go_41 (fun H locs (hP : va_P D vwCl (wD qd qmemory qr qcounts cI cB ms (upd (upd (upd (upd (upd dd 0 (0 : Int32)) 3 a0) 4 x_3) 6 (0 : Int32)) 7 (0 : Int32)) Lwhole Lwhole2 bm rr kt) H) (hD : va_D A (wD qd qmemory qr qcounts cI cB ms (upd (upd (upd (upd (upd dd 0 (0 : Int32)) 3 a0) 4 x_3) 6 (0 : Int32)) 7 (0 : Int32)) Lwhole Lwhole2 bm rr kt)) hS => ?_)
    refine lv_aload_n hx hb d_Md_go_44 rfl (lv_at hl 1 rfl) ?_
    refine lv_iconst (v := 0) hx hb d_Md_go_45 (by decide) ?_
    refine p_Md_63 hx hb hT hown hK hP hD hS 0 rfl rfl d_Md_go_46 (fun H locs (hP : va_P D vwCl (wD qd qmemory qr qcounts cI cB ms (upd (upd (upd (upd (upd (upd dd 0 (0 : Int32)) 3 a0) 4 x_3) 6 (0 : Int32)) 7 (0 : Int32)) 5 (0 : Int32)) Lwhole Lwhole2 bm rr kt) H) (hD : va_D A (wD qd qmemory qr qcounts cI cB ms (upd (upd (upd (upd (upd (upd dd 0 (0 : Int32)) 3 a0) 4 x_3) 6 (0 : Int32)) 7 (0 : Int32)) 5 (0 : Int32)) Lwhole Lwhole2 bm rr kt)) hS => ?_)
    refine lv_iload_n hx hb d_Md_go_49 rfl (lv_at hl 0 rfl) ?_
    exact W.iret (v := x_2) hx hb hr (fun t ht hW => ⟨⟨x_2, ((upd (upd (upd (upd (upd (upd dd 0 (0 : Int32)) 3 a0) 4 x_3) 6 (0 : Int32)) 7 (0 : Int32)) 5 (0 : Int32)), Lwhole, Lwhole2, bm, rr, kt), rfl, h, by rw [ht]; exact hP, hD⟩, hS.F ht⟩) hS.2.2 d_Md_go_50
  · skip
    have h := h.2 c_1
    refine lv_aload_n hx hb d_Md_go_11 rfl (lv_at hl 0 rfl) ?_
    refine lv_iconst (v := 1) hx hb d_Md_go_12 (by decide) ?_
    refine zz_Wi (As := [.int (1 : Int32)]) (rest := []) (wc := wD qd qmemory qr qcounts cI cB ms (upd dd 0 (0 : Int32)) Lwhole Lwhole2 bm rr kt) (wr := []) X hK hP hD hS hA (c_Md_fail l D cI cB qd qmemory qr qcounts ms (upd dd 0 (0 : Int32)) Lwhole Lwhole2 bm rr kt (1 : Int32) _ h _) ⟨rfl, rfl⟩ m_Md_fail k_Md_42 ⟨Nat.le_of_ble_eq_true rfl, Nat.le_of_ble_eq_true rfl⟩ [0, 1, 2, 3] [] rfl rfl (by decide) (by decide) (by decide) 6 0 rfl rfl rfl rfl hl.1 rfl (Nat.le_of_ble_eq_true rfl) d_Md_go_13 hf0 (fun r_5 u_4 H locs h hP hD hS => ?_)
    have hP : va_P D vwCl (wD qd qmemory qr qcounts cI cB ms u_4.1 u_4.2.1 u_4.2.2.1 u_4.2.2.2.1 u_4.2.2.2.2.1 u_4.2.2.2.2.2) H := hP.sub [0, 1, 2, 3] rfl
    have hD : va_D A (wD qd qmemory qr qcounts cI cB ms u_4.1 u_4.2.1 u_4.2.2.1 u_4.2.2.2.1 u_4.2.2.2.2.1 u_4.2.2.2.2.2) := hD.sub [0, 1, 2, 3] (by decide) rfl
    exact W.iret (v := r_5) hx hb hr (fun t ht hW => ⟨⟨r_5, (u_4.1, u_4.2.1, u_4.2.2.1, u_4.2.2.2.1, u_4.2.2.2.2.1, u_4.2.2.2.2.2), rfl, h, by rw [ht]; exact hP, hD⟩, hS.F ht⟩) hS.2.2 d_Md_go_16
def wj_Md_set_80 (ms : Int32) (a0 : Int32) (a1 : Int32) (P : Int32 → ((Nat → Int32) × Int64 × Int64 × (Nat → Int32) × (Nat → Int32) × (Nat → Int32)) → Prop) (j80_3 : Int32) (z80dd : Nat → Int32) (z80Lwhole : Int64) (z80Lwhole2 : Int64) (z80bm : Nat → Int32) (z80rr : Nat → Int32) (z80kt : Nat → Int32) : Prop := ((a0 ≤ (0 : Int32) → P j80_3 (z80dd, z80Lwhole, z80Lwhole2, z80bm, z80rr, z80kt)) ∧ (¬ a0 ≤ (0 : Int32) → ((a0 = (66 : Int32) → vp_in a0 67 ∧ P j80_3 (z80dd, z80Lwhole, z80Lwhole2, z80bm, (upd z80rr a0.toNatClampNeg (a1 &&& (255 : Int32))), z80kt)) ∧ (¬ a0 = (66 : Int32) → vp_in a0 67 ∧ P j80_3 (z80dd, z80Lwhole, z80Lwhole2, z80bm, (upd z80rr a0.toNatClampNeg a1), z80kt)))))
def wj_Md_set_69 (ms : Int32) (a0 : Int32) (a1 : Int32) (P : Int32 → ((Nat → Int32) × Int64 × Int64 × (Nat → Int32) × (Nat → Int32) × (Nat → Int32)) → Prop) (j69_3 : Int32) (z69dd : Nat → Int32) (z69Lwhole : Int64) (z69Lwhole2 : Int64) (z69bm : Nat → Int32) (z69rr : Nat → Int32) (z69kt : Nat → Int32) : Prop := ((a0 = (33 : Int32) → wj_Md_set_80 ms a0 a1 P j69_3 (upd z69dd 2 (1 : Int32)) z69Lwhole z69Lwhole2 z69bm z69rr z69kt) ∧ (¬ a0 = (33 : Int32) → wj_Md_set_80 ms a0 a1 P j69_3 z69dd z69Lwhole z69Lwhole2 z69bm z69rr z69kt))
def wj_Md_set_57 (ms : Int32) (a0 : Int32) (a1 : Int32) (P : Int32 → ((Nat → Int32) × Int64 × Int64 × (Nat → Int32) × (Nat → Int32) × (Nat → Int32)) → Prop) (s57_0 : Int32) (z57dd : Nat → Int32) (z57Lwhole : Int64) (z57Lwhole2 : Int64) (z57bm : Nat → Int32) (z57rr : Nat → Int32) (z57kt : Nat → Int32) : Prop := ((a0 = (32 : Int32) → wj_Md_set_69 ms a0 a1 P s57_0 (upd z57dd 1 (1 : Int32)) z57Lwhole z57Lwhole2 z57bm z57rr z57kt) ∧ (¬ a0 = (32 : Int32) → wj_Md_set_69 ms a0 a1 P s57_0 z57dd z57Lwhole z57Lwhole2 z57bm z57rr z57kt))
def wj_Md_set_51 (ms : Int32) (a0 : Int32) (a1 : Int32) (P : Int32 → ((Nat → Int32) × Int64 × Int64 × (Nat → Int32) × (Nat → Int32) × (Nat → Int32)) → Prop) (z51dd : Nat → Int32) (z51Lwhole : Int64) (z51Lwhole2 : Int64) (z51bm : Nat → Int32) (z51rr : Nat → Int32) (z51kt : Nat → Int32) : Prop := vp_in a0 67 ∧ ∀ x_5 : Int32, x_5 = (z51rr a0.toNatClampNeg) → wj_Md_set_57 ms a0 a1 P x_5 z51dd z51Lwhole z51Lwhole2 z51bm z51rr z51kt
def wj_Md_set_47 (ms : Int32) (a0 : Int32) (a1 : Int32) (P : Int32 → ((Nat → Int32) × Int64 × Int64 × (Nat → Int32) × (Nat → Int32) × (Nat → Int32)) → Prop) (z47dd : Nat → Int32) (z47Lwhole : Int64) (z47Lwhole2 : Int64) (z47bm : Nat → Int32) (z47rr : Nat → Int32) (z47kt : Nat → Int32) : Prop := wj_Md_set_57 ms a0 a1 P (0 : Int32) z47dd z47Lwhole z47Lwhole2 z47bm z47rr z47kt
def wj_Md_set_34 (ms : Int32) (a0 : Int32) (a1 : Int32) (P : Int32 → ((Nat → Int32) × Int64 × Int64 × (Nat → Int32) × (Nat → Int32) × (Nat → Int32)) → Prop) (z34dd : Nat → Int32) (z34Lwhole : Int64) (z34Lwhole2 : Int64) (z34bm : Nat → Int32) (z34rr : Nat → Int32) (z34kt : Nat → Int32) : Prop := ((a0 = (33 : Int32) → (((z34dd 2) = (0 : Int32) → wj_Md_set_47 ms a0 a1 P z34dd z34Lwhole z34Lwhole2 z34bm z34rr z34kt) ∧ (¬ (z34dd 2) = (0 : Int32) → wj_Md_set_51 ms a0 a1 P z34dd z34Lwhole z34Lwhole2 z34bm z34rr z34kt))) ∧ (¬ a0 = (33 : Int32) → wj_Md_set_51 ms a0 a1 P z34dd z34Lwhole z34Lwhole2 z34bm z34rr z34kt))
def wj_Md_set_15 (ms : Int32) (a0 : Int32) (a1 : Int32) (P : Int32 → ((Nat → Int32) × Int64 × Int64 × (Nat → Int32) × (Nat → Int32) × (Nat → Int32)) → Prop) (z15dd : Nat → Int32) (z15Lwhole : Int64) (z15Lwhole2 : Int64) (z15bm : Nat → Int32) (z15rr : Nat → Int32) (z15kt : Nat → Int32) : Prop := wp_Md_fail ms z15dd z15Lwhole z15Lwhole2 z15bm z15rr z15kt (1 : Int32) (fun r_9 u_8 => P r_9 (u_8.1, u_8.2.1, u_8.2.2.1, u_8.2.2.2.1, u_8.2.2.2.2.1, u_8.2.2.2.2.2))
def wp_Md_set (ms : Int32) (dd : Nat → Int32) (Lwhole : Int64) (Lwhole2 : Int64) (bm : Nat → Int32) (rr : Nat → Int32) (kt : Nat → Int32) (a0 : Int32) (a1 : Int32) (P : Int32 → ((Nat → Int32) × Int64 × Int64 × (Nat → Int32) × (Nat → Int32) × (Nat → Int32)) → Prop) : Prop := ((a0 < (0 : Int32) → wj_Md_set_15 ms a0 a1 P (upd dd 0 (0 : Int32)) Lwhole Lwhole2 bm rr kt) ∧ (¬ a0 < (0 : Int32) → ((a0 ≤ (66 : Int32) → ((a0 = (32 : Int32) → (((dd 1) = (0 : Int32) → wj_Md_set_47 ms a0 a1 P (upd dd 0 (0 : Int32)) Lwhole Lwhole2 bm rr kt) ∧ (¬ (dd 1) = (0 : Int32) → wj_Md_set_34 ms a0 a1 P (upd dd 0 (0 : Int32)) Lwhole Lwhole2 bm rr kt))) ∧ (¬ a0 = (32 : Int32) → wj_Md_set_34 ms a0 a1 P (upd dd 0 (0 : Int32)) Lwhole Lwhole2 bm rr kt))) ∧ (¬ a0 ≤ (66 : Int32) → wj_Md_set_15 ms a0 a1 P (upd dd 0 (0 : Int32)) Lwhole Lwhole2 bm rr kt))))
abbrev rm_Md_set : Room := { frames := 1, cells := 0, slots := 0, locals := 21 }
set_option maxHeartbeats 4000000 in
set_option maxRecDepth 100000 in
theorem c_Md_set (l : Launch) (D : va_G) (cI : ClassId) (cB : ClassId) (qd : Nat) (qmemory : Nat) (qr : Nat) (qcounts : Nat) (ms : Int32) (dd : Nat → Int32) (Lwhole : Int64) (Lwhole2 : Int64) (bm : Nat → Int32) (rr : Nat → Int32) (kt : Nat → Int32) (a0 : Int32) (a1 : Int32) (P : Int32 → ((Nat → Int32) × Int64 × Int64 × (Nat → Int32) × (Nat → Int32) × (Nat → Int32)) → Prop) (h : wp_Md_set ms dd Lwhole Lwhole2 bm rr kt a0 a1 P) (sz : Nat) : Met l y_Md_set (zz_ws y_Md_set b_Md_set 4 (some .int)) rm_Md_set (va_Pc [.ref qd, .int a0, .int a1] (zz_pw D [(cI, .int), (cB, .byte)] (wD qd qmemory qr qcounts cI cB ms dd Lwhole Lwhole2 bm rr kt) sz)) (va_Qi P (zz_qw D (fun u => wD qd qmemory qr qcounts cI cB ms u.1 u.2.1 u.2.2.1 u.2.2.2.1 u.2.2.2.2.1 u.2.2.2.2.2) (va_A (wD qd qmemory qr qcounts cI cB ms dd Lwhole Lwhole2 bm rr kt) sz)) (va_A (wD qd qmemory qr qcounts cI cB ms dd Lwhole Lwhole2 bm rr kt) sz)) 0 0 (va_A (wD qd qmemory qr qcounts cI cB ms dd Lwhole Lwhole2 bm rr kt) sz) := by
  refine Met.ofW (cc := b_Md_set) (maxL := 4) (ret := (some .int)) (by decide) rfl ?_
  intro p e s m args below meth c s₁ B hml hv
  obtain ⟨rfl, hsz, hP, hK, hD0⟩ := hv
  have hx := B.exec
  have hb := B.bytes
  have hr := B.returns
  have hts := atoms_spec (ws := (zz_ws y_Md_set b_Md_set 4 (some .int))) B.pre
  have hown : s.vm.findClass R_Md = some m.cls := findClass_of_methodNamed B.named
  have hlocks := B.notSynchronized
  have hT := zz_hts hts
  have X : CallFix p m c b_Md_set 4 s ([.ref qd, .int a0, .int a1] : List Value).toArray (zz_ws y_Md_set b_Md_set 4 (some .int)) R_Md := ⟨hx, hb, hml, hown, hts⟩
  have hf0 : 0 + 0 ≤ (headSpec (zz_ws y_Md_set b_Md_set 4 (some .int)) rm_Md_set).room.cells ∧ 0 + 0 ≤ (headSpec (zz_ws y_Md_set b_Md_set 4 (some .int)) rm_Md_set).room.slots := ⟨Nat.le_of_ble_eq_true rfl, Nat.le_of_ble_eq_true rfl⟩
  subst hsz
  have hD := hD0.self (sz := s.heap.size)
  generalize hAe : va_A (wD qd qmemory qr qcounts cI cB ms dd Lwhole Lwhole2 bm rr kt) s.heap.size = A at hD ⊢
  have hA : ∀ q : Nat, s.heap.size ≤ q → A q := fun q h => by rw [← hAe]; exact Or.inr h
  have hS : va_S A s.heap s.heap [] := va_S.rf
  have hl := lv_entry ([.ref qd, .int a0, .int a1]) (n := 4) (Nat.le_of_ble_eq_true rfl)
  rw [lg_entry_eq]
  generalize (lg_sl ([.ref qd, .int a0, .int a1]) ++ List.replicate (4 - (lg_sl ([.ref qd, .int a0, .int a1])).length) Slot.unset).toArray = ls at hl ⊢
  have hl : lv_has ls 4 [(0, .ref qd), (1, .int a0), (2, .int a1)] := hl
  have jn_80 : ∀ (j80_3 : Int32) (z80dd : Nat → Int32) (z80Lwhole : Int64) (z80Lwhole2 : Int64) (z80bm : Nat → Int32) (z80rr : Nat → Int32) (z80kt : Nat → Int32), wj_Md_set_80 ms a0 a1 P j80_3 z80dd z80Lwhole z80Lwhole2 z80bm z80rr z80kt → ∀ (H : Heap) (locs : List Loc), va_P D vwCl (wD qd qmemory qr qcounts cI cB ms z80dd z80Lwhole z80Lwhole2 z80bm z80rr z80kt) H → va_D A (wD qd qmemory qr qcounts cI cB ms z80dd z80Lwhole z80Lwhole2 z80bm z80rr z80kt) → va_S A s.heap H locs → ∀ ls : Array Slot, lv_has ls 4 [(0, .ref qd), (1, .int a0), (2, .int a1), (3, .int j80_3)] → W p l e (headSpec (zz_ws y_Md_set b_Md_set 4 (some .int)) rm_Md_set).room s m ([.ref qd, .int a0, .int a1] : List Value).toArray below meth c H locs 0 0 (MQ below (va_Qi P (zz_qw D (fun u => wD qd qmemory qr qcounts cI cB ms u.1 u.2.1 u.2.2.1 u.2.2.2.1 u.2.2.2.2.1 u.2.2.2.2.2) A) A) ([.ref qd, .int a0, .int a1] : List Value).toArray s 0 0 A) (F0 m 80 ls []) := by
    intro j80_3 z80dd z80Lwhole z80Lwhole2 z80bm z80rr z80kt h H locs hP hD hS ls hl
    unfold wj_Md_set_80 at h
    refine lv_iload_n hx hb d_Md_set_80 rfl (lv_at hl 1 rfl) ?_
    refine lv_if_le (tgt := 105) hx hb d_Md_set_81 (by decide) (fun c_1 => ?_) (fun c_1 => ?_)
    · skip
      have h := h.1 c_1
      refine lv_iload_n hx hb d_Md_set_105 rfl (lv_at hl 3 rfl) ?_
      exact W.iret (v := j80_3) hx hb hr (fun t ht hW => ⟨⟨j80_3, (z80dd, z80Lwhole, z80Lwhole2, z80bm, z80rr, z80kt), rfl, h, by rw [ht]; exact hP, hD⟩, hS.F ht⟩) hS.2.2 d_Md_set_106
    · skip
      have h := h.2 c_1
      refine lv_aload_n hx hb d_Md_set_84 rfl (lv_at hl 0 rfl) ?_
      refine g_Md_14 (v := .ref qr) hx hb hT hown hK hP 0 rfl rfl d_Md_set_85 ?_
      refine lv_iload_n hx hb d_Md_set_88 rfl (lv_at hl 1 rfl) ?_
      refine lv_iload_n hx hb d_Md_set_89 rfl (lv_at hl 1 rfl) ?_
      refine lv_bipush (v := 66) hx hb d_Md_set_90 (by decide) ?_
      refine lv_icmp_ne (tgt := 103) hx hb d_Md_set_92 (by decide) (fun c_2 => ?_) (fun c_2 => ?_)
      · skip
        have h := h.2 c_2
        refine lv_iload_n hx hb d_Md_set_103 rfl (lv_at hl 2 rfl) ?_
        refine va_iast (f := z80rr) hx hb hK hP hD hS 2 0 rfl rfl h.1 d_Md_set_104 (fun H locs (hP : va_P D vwCl (wD qd qmemory qr qcounts cI cB ms z80dd z80Lwhole z80Lwhole2 z80bm (upd z80rr a0.toNatClampNeg a1) z80kt) H) (hD : va_D A (wD qd qmemory qr qcounts cI cB ms z80dd z80Lwhole z80Lwhole2 z80bm (upd z80rr a0.toNatClampNeg a1) z80kt)) hS => ?_)
        have h := h.2
        refine lv_iload_n hx hb d_Md_set_105 rfl (lv_at hl 3 rfl) ?_
        exact W.iret (v := j80_3) hx hb hr (fun t ht hW => ⟨⟨j80_3, (z80dd, z80Lwhole, z80Lwhole2, z80bm, (upd z80rr a0.toNatClampNeg a1), z80kt), rfl, h, by rw [ht]; exact hP, hD⟩, hS.F ht⟩) hS.2.2 d_Md_set_106
      · skip
        have h := h.1 c_2
        refine lv_iload_n hx hb d_Md_set_95 rfl (lv_at hl 2 rfl) ?_
        refine lv_sipush (v := 255) hx hb d_Md_set_96 (by decide) ?_
        refine lv_iand hx hb d_Md_set_99 ?_
        refine lv_goto (tgt := 104) hx hb d_Md_set_100 (by decide) ?_
        refine va_iast (f := z80rr) hx hb hK hP hD hS 2 0 rfl rfl h.1 d_Md_set_104 (fun H locs (hP : va_P D vwCl (wD qd qmemory qr qcounts cI cB ms z80dd z80Lwhole z80Lwhole2 z80bm (upd z80rr a0.toNatClampNeg (a1 &&& (255 : Int32))) z80kt) H) (hD : va_D A (wD qd qmemory qr qcounts cI cB ms z80dd z80Lwhole z80Lwhole2 z80bm (upd z80rr a0.toNatClampNeg (a1 &&& (255 : Int32))) z80kt)) hS => ?_)
        have h := h.2
        refine lv_iload_n hx hb d_Md_set_105 rfl (lv_at hl 3 rfl) ?_
        exact W.iret (v := j80_3) hx hb hr (fun t ht hW => ⟨⟨j80_3, (z80dd, z80Lwhole, z80Lwhole2, z80bm, (upd z80rr a0.toNatClampNeg (a1 &&& (255 : Int32))), z80kt), rfl, h, by rw [ht]; exact hP, hD⟩, hS.F ht⟩) hS.2.2 d_Md_set_106
  have jn_69 : ∀ (j69_3 : Int32) (z69dd : Nat → Int32) (z69Lwhole : Int64) (z69Lwhole2 : Int64) (z69bm : Nat → Int32) (z69rr : Nat → Int32) (z69kt : Nat → Int32), wj_Md_set_69 ms a0 a1 P j69_3 z69dd z69Lwhole z69Lwhole2 z69bm z69rr z69kt → ∀ (H : Heap) (locs : List Loc), va_P D vwCl (wD qd qmemory qr qcounts cI cB ms z69dd z69Lwhole z69Lwhole2 z69bm z69rr z69kt) H → va_D A (wD qd qmemory qr qcounts cI cB ms z69dd z69Lwhole z69Lwhole2 z69bm z69rr z69kt) → va_S A s.heap H locs → ∀ ls : Array Slot, lv_has ls 4 [(0, .ref qd), (1, .int a0), (2, .int a1), (3, .int j69_3)] → W p l e (headSpec (zz_ws y_Md_set b_Md_set 4 (some .int)) rm_Md_set).room s m ([.ref qd, .int a0, .int a1] : List Value).toArray below meth c H locs 0 0 (MQ below (va_Qi P (zz_qw D (fun u => wD qd qmemory qr qcounts cI cB ms u.1 u.2.1 u.2.2.1 u.2.2.2.1 u.2.2.2.2.1 u.2.2.2.2.2) A) A) ([.ref qd, .int a0, .int a1] : List Value).toArray s 0 0 A) (F0 m 69 ls []) := by
    intro j69_3 z69dd z69Lwhole z69Lwhole2 z69bm z69rr z69kt h H locs hP hD hS ls hl
    unfold wj_Md_set_69 at h
    refine lv_iload_n hx hb d_Md_set_69 rfl (lv_at hl 1 rfl) ?_
    refine lv_bipush (v := 33) hx hb d_Md_set_70 (by decide) ?_
    refine lv_icmp_ne (tgt := 80) hx hb d_Md_set_72 (by decide) (fun c_3 => ?_) (fun c_3 => ?_)
    · skip
      have h := h.2 c_3
      exact jn_80 j69_3 z69dd z69Lwhole z69Lwhole2 z69bm z69rr z69kt h _ _ hP hD hS ls (lv_sub hl [0, 1, 2, 3] rfl)
    · skip
      have h := h.1 c_3
      refine lv_aload_n hx hb d_Md_set_75 rfl (lv_at hl 0 rfl) ?_
      refine lv_iconst (v := 1) hx hb d_Md_set_76 (by decide) ?_
      refine p_Md_22 hx hb hT hown hK hP hD hS 0 rfl rfl (Or.inr rfl) d_Md_set_77 (fun H locs (hP : va_P D vwCl (wD qd qmemory qr qcounts cI cB ms (upd z69dd 2 (1 : Int32)) z69Lwhole z69Lwhole2 z69bm z69rr z69kt) H) (hD : va_D A (wD qd qmemory qr qcounts cI cB ms (upd z69dd 2 (1 : Int32)) z69Lwhole z69Lwhole2 z69bm z69rr z69kt)) hS => ?_)
      exact jn_80 j69_3 (upd z69dd 2 (1 : Int32)) z69Lwhole z69Lwhole2 z69bm z69rr z69kt h _ _ hP hD hS ls (lv_sub hl [0, 1, 2, 3] rfl)
  have jn_57 : ∀ (s57_0 : Int32) (z57dd : Nat → Int32) (z57Lwhole : Int64) (z57Lwhole2 : Int64) (z57bm : Nat → Int32) (z57rr : Nat → Int32) (z57kt : Nat → Int32), wj_Md_set_57 ms a0 a1 P s57_0 z57dd z57Lwhole z57Lwhole2 z57bm z57rr z57kt → ∀ (H : Heap) (locs : List Loc), va_P D vwCl (wD qd qmemory qr qcounts cI cB ms z57dd z57Lwhole z57Lwhole2 z57bm z57rr z57kt) H → va_D A (wD qd qmemory qr qcounts cI cB ms z57dd z57Lwhole z57Lwhole2 z57bm z57rr z57kt) → va_S A s.heap H locs → ∀ ls : Array Slot, lv_has ls 4 [(0, .ref qd), (1, .int a0), (2, .int a1)] → W p l e (headSpec (zz_ws y_Md_set b_Md_set 4 (some .int)) rm_Md_set).room s m ([.ref qd, .int a0, .int a1] : List Value).toArray below meth c H locs 0 0 (MQ below (va_Qi P (zz_qw D (fun u => wD qd qmemory qr qcounts cI cB ms u.1 u.2.1 u.2.2.1 u.2.2.2.1 u.2.2.2.2.1 u.2.2.2.2.2) A) A) ([.ref qd, .int a0, .int a1] : List Value).toArray s 0 0 A) (F0 m 57 ls [.int s57_0]) := by
    intro s57_0 z57dd z57Lwhole z57Lwhole2 z57bm z57rr z57kt h H locs hP hD hS ls hl
    unfold wj_Md_set_57 at h
    refine lv_istore_n (lv' := [(3, .int s57_0), (0, .ref qd), (1, .int a0), (2, .int a1)]) hx hb d_Md_set_57 rfl hl (by decide) rfl (fun ls hl => ?_)
    refine lv_iload_n hx hb d_Md_set_58 rfl (lv_at hl 2 rfl) ?_
    refine lv_bipush (v := 32) hx hb d_Md_set_59 (by decide) ?_
    refine lv_icmp_ne (tgt := 69) hx hb d_Md_set_61 (by decide) (fun c_4 => ?_) (fun c_4 => ?_)
    · skip
      have h := h.2 c_4
      exact jn_69 s57_0 z57dd z57Lwhole z57Lwhole2 z57bm z57rr z57kt h _ _ hP hD hS ls (lv_sub hl [1, 2, 3, 0] rfl)
    · skip
      have h := h.1 c_4
      refine lv_aload_n hx hb d_Md_set_64 rfl (lv_at hl 1 rfl) ?_
      refine lv_iconst (v := 1) hx hb d_Md_set_65 (by decide) ?_
      refine p_Md_18 hx hb hT hown hK hP hD hS 0 rfl rfl (Or.inr rfl) d_Md_set_66 (fun H locs (hP : va_P D vwCl (wD qd qmemory qr qcounts cI cB ms (upd z57dd 1 (1 : Int32)) z57Lwhole z57Lwhole2 z57bm z57rr z57kt) H) (hD : va_D A (wD qd qmemory qr qcounts cI cB ms (upd z57dd 1 (1 : Int32)) z57Lwhole z57Lwhole2 z57bm z57rr z57kt)) hS => ?_)
      exact jn_69 s57_0 (upd z57dd 1 (1 : Int32)) z57Lwhole z57Lwhole2 z57bm z57rr z57kt h _ _ hP hD hS ls (lv_sub hl [1, 2, 3, 0] rfl)
  have jn_51 : ∀ (z51dd : Nat → Int32) (z51Lwhole : Int64) (z51Lwhole2 : Int64) (z51bm : Nat → Int32) (z51rr : Nat → Int32) (z51kt : Nat → Int32), wj_Md_set_51 ms a0 a1 P z51dd z51Lwhole z51Lwhole2 z51bm z51rr z51kt → ∀ (H : Heap) (locs : List Loc), va_P D vwCl (wD qd qmemory qr qcounts cI cB ms z51dd z51Lwhole z51Lwhole2 z51bm z51rr z51kt) H → va_D A (wD qd qmemory qr qcounts cI cB ms z51dd z51Lwhole z51Lwhole2 z51bm z51rr z51kt) → va_S A s.heap H locs → ∀ ls : Array Slot, lv_has ls 4 [(0, .ref qd), (1, .int a0), (2, .int a1)] → W p l e (headSpec (zz_ws y_Md_set b_Md_set 4 (some .int)) rm_Md_set).room s m ([.ref qd, .int a0, .int a1] : List Value).toArray below meth c H locs 0 0 (MQ below (va_Qi P (zz_qw D (fun u => wD qd qmemory qr qcounts cI cB ms u.1 u.2.1 u.2.2.1 u.2.2.2.1 u.2.2.2.2.1 u.2.2.2.2.2) A) A) ([.ref qd, .int a0, .int a1] : List Value).toArray s 0 0 A) (F0 m 51 ls []) := by
    intro z51dd z51Lwhole z51Lwhole2 z51bm z51rr z51kt h H locs hP hD hS ls hl
    unfold wj_Md_set_51 at h
    refine lv_aload_n hx hb d_Md_set_51 rfl (lv_at hl 0 rfl) ?_
    refine g_Md_14 (v := .ref qr) hx hb hT hown hK hP 0 rfl rfl d_Md_set_52 ?_
    refine lv_iload_n hx hb d_Md_set_55 rfl (lv_at hl 1 rfl) ?_
    refine va_iald (f := z51rr) hx hb hK hP 2 0 rfl rfl h.1 d_Md_set_56 ?_
    have h := h.2
    refine lv_topi (fun x_5 ex_5 => ?_)
    have h := h x_5 ex_5
    exact jn_57 x_5 z51dd z51Lwhole z51Lwhole2 z51bm z51rr z51kt h _ _ hP hD hS ls (lv_sub hl [0, 1, 2] rfl)
  have jn_47 : ∀ (z47dd : Nat → Int32) (z47Lwhole : Int64) (z47Lwhole2 : Int64) (z47bm : Nat → Int32) (z47rr : Nat → Int32) (z47kt : Nat → Int32), wj_Md_set_47 ms a0 a1 P z47dd z47Lwhole z47Lwhole2 z47bm z47rr z47kt → ∀ (H : Heap) (locs : List Loc), va_P D vwCl (wD qd qmemory qr qcounts cI cB ms z47dd z47Lwhole z47Lwhole2 z47bm z47rr z47kt) H → va_D A (wD qd qmemory qr qcounts cI cB ms z47dd z47Lwhole z47Lwhole2 z47bm z47rr z47kt) → va_S A s.heap H locs → ∀ ls : Array Slot, lv_has ls 4 [(0, .ref qd), (1, .int a0), (2, .int a1)] → W p l e (headSpec (zz_ws y_Md_set b_Md_set 4 (some .int)) rm_Md_set).room s m ([.ref qd, .int a0, .int a1] : List Value).toArray below meth c H locs 0 0 (MQ below (va_Qi P (zz_qw D (fun u => wD qd qmemory qr qcounts cI cB ms u.1 u.2.1 u.2.2.1 u.2.2.2.1 u.2.2.2.2.1 u.2.2.2.2.2) A) A) ([.ref qd, .int a0, .int a1] : List Value).toArray s 0 0 A) (F0 m 47 ls []) := by
    intro z47dd z47Lwhole z47Lwhole2 z47bm z47rr z47kt h H locs hP hD hS ls hl
    unfold wj_Md_set_47 at h
    refine lv_iconst (v := 0) hx hb d_Md_set_47 (by decide) ?_
    refine lv_goto (tgt := 57) hx hb d_Md_set_48 (by decide) ?_
    exact jn_57 (0 : Int32) z47dd z47Lwhole z47Lwhole2 z47bm z47rr z47kt h _ _ hP hD hS ls (lv_sub hl [0, 1, 2] rfl)
  have jn_34 : ∀ (z34dd : Nat → Int32) (z34Lwhole : Int64) (z34Lwhole2 : Int64) (z34bm : Nat → Int32) (z34rr : Nat → Int32) (z34kt : Nat → Int32), wj_Md_set_34 ms a0 a1 P z34dd z34Lwhole z34Lwhole2 z34bm z34rr z34kt → ∀ (H : Heap) (locs : List Loc), va_P D vwCl (wD qd qmemory qr qcounts cI cB ms z34dd z34Lwhole z34Lwhole2 z34bm z34rr z34kt) H → va_D A (wD qd qmemory qr qcounts cI cB ms z34dd z34Lwhole z34Lwhole2 z34bm z34rr z34kt) → va_S A s.heap H locs → ∀ ls : Array Slot, lv_has ls 4 [(0, .ref qd), (1, .int a0), (2, .int a1)] → W p l e (headSpec (zz_ws y_Md_set b_Md_set 4 (some .int)) rm_Md_set).room s m ([.ref qd, .int a0, .int a1] : List Value).toArray below meth c H locs 0 0 (MQ below (va_Qi P (zz_qw D (fun u => wD qd qmemory qr qcounts cI cB ms u.1 u.2.1 u.2.2.1 u.2.2.2.1 u.2.2.2.2.1 u.2.2.2.2.2) A) A) ([.ref qd, .int a0, .int a1] : List Value).toArray s 0 0 A) (F0 m 34 ls []) := by
    intro z34dd z34Lwhole z34Lwhole2 z34bm z34rr z34kt h H locs hP hD hS ls hl
    unfold wj_Md_set_34 at h
    refine lv_iload_n hx hb d_Md_set_34 rfl (lv_at hl 1 rfl) ?_
    refine lv_bipush (v := 33) hx hb d_Md_set_35 (by decide) ?_
    refine lv_icmp_ne (tgt := 51) hx hb d_Md_set_37 (by decide) (fun c_6 => ?_) (fun c_6 => ?_)
    · skip
      have h := h.2 c_6
      exact jn_51 z34dd z34Lwhole z34Lwhole2 z34bm z34rr z34kt h _ _ hP hD hS ls (lv_sub hl [0, 1, 2] rfl)
    · skip
      have h := h.1 c_6
      refine lv_aload_n hx hb d_Md_set_40 rfl (lv_at hl 0 rfl) ?_
      refine g_Md_22 (v := .int (z34dd 2)) hx hb hT hown hK hP 0 rfl rfl d_Md_set_41 ?_
      refine lv_if_ne (tgt := 51) hx hb d_Md_set_44 (by decide) (fun c_7 => ?_) (fun c_7 => ?_)
      · skip
        have h := h.2 c_7
        exact jn_51 z34dd z34Lwhole z34Lwhole2 z34bm z34rr z34kt h _ _ hP hD hS ls (lv_sub hl [0, 1, 2] rfl)
      · skip
        have h := h.1 c_7
        exact jn_47 z34dd z34Lwhole z34Lwhole2 z34bm z34rr z34kt h _ _ hP hD hS ls (lv_sub hl [0, 1, 2] rfl)
  have jn_15 : ∀ (z15dd : Nat → Int32) (z15Lwhole : Int64) (z15Lwhole2 : Int64) (z15bm : Nat → Int32) (z15rr : Nat → Int32) (z15kt : Nat → Int32), wj_Md_set_15 ms a0 a1 P z15dd z15Lwhole z15Lwhole2 z15bm z15rr z15kt → ∀ (H : Heap) (locs : List Loc), va_P D vwCl (wD qd qmemory qr qcounts cI cB ms z15dd z15Lwhole z15Lwhole2 z15bm z15rr z15kt) H → va_D A (wD qd qmemory qr qcounts cI cB ms z15dd z15Lwhole z15Lwhole2 z15bm z15rr z15kt) → va_S A s.heap H locs → ∀ ls : Array Slot, lv_has ls 4 [(0, .ref qd)] → W p l e (headSpec (zz_ws y_Md_set b_Md_set 4 (some .int)) rm_Md_set).room s m ([.ref qd, .int a0, .int a1] : List Value).toArray below meth c H locs 0 0 (MQ below (va_Qi P (zz_qw D (fun u => wD qd qmemory qr qcounts cI cB ms u.1 u.2.1 u.2.2.1 u.2.2.2.1 u.2.2.2.2.1 u.2.2.2.2.2) A) A) ([.ref qd, .int a0, .int a1] : List Value).toArray s 0 0 A) (F0 m 15 ls []) := by
    intro z15dd z15Lwhole z15Lwhole2 z15bm z15rr z15kt h H locs hP hD hS ls hl
    unfold wj_Md_set_15 at h
    refine lv_aload_n hx hb d_Md_set_15 rfl (lv_at hl 0 rfl) ?_
    refine lv_iconst (v := 1) hx hb d_Md_set_16 (by decide) ?_
    refine zz_Wi (As := [.int (1 : Int32)]) (rest := []) (wc := wD qd qmemory qr qcounts cI cB ms z15dd z15Lwhole z15Lwhole2 z15bm z15rr z15kt) (wr := []) X hK hP hD hS hA (c_Md_fail l D cI cB qd qmemory qr qcounts ms z15dd z15Lwhole z15Lwhole2 z15bm z15rr z15kt (1 : Int32) _ h _) ⟨rfl, rfl⟩ m_Md_fail k_Md_42 ⟨Nat.le_of_ble_eq_true rfl, Nat.le_of_ble_eq_true rfl⟩ [0, 1, 2, 3] [] rfl rfl (by decide) (by decide) (by decide) 6 0 rfl rfl rfl rfl hl.1 rfl (Nat.le_of_ble_eq_true rfl) d_Md_set_17 hf0 (fun r_9 u_8 H locs h hP hD hS => ?_)
    have hP : va_P D vwCl (wD qd qmemory qr qcounts cI cB ms u_8.1 u_8.2.1 u_8.2.2.1 u_8.2.2.2.1 u_8.2.2.2.2.1 u_8.2.2.2.2.2) H := hP.sub [0, 1, 2, 3] rfl
    have hD : va_D A (wD qd qmemory qr qcounts cI cB ms u_8.1 u_8.2.1 u_8.2.2.1 u_8.2.2.2.1 u_8.2.2.2.2.1 u_8.2.2.2.2.2) := hD.sub [0, 1, 2, 3] (by decide) rfl
    exact W.iret (v := r_9) hx hb hr (fun t ht hW => ⟨⟨r_9, (u_8.1, u_8.2.1, u_8.2.2.1, u_8.2.2.2.1, u_8.2.2.2.2.1, u_8.2.2.2.2.2), rfl, h, by rw [ht]; exact hP, hD⟩, hS.F ht⟩) hS.2.2 d_Md_set_20
  refine lv_aload_n hx hb d_Md_set_0 rfl (lv_at hl 0 rfl) ?_
  refine lv_iconst (v := 0) hx hb d_Md_set_1 (by decide) ?_
  refine p_Md_35 hx hb hT hown hK hP hD hS 0 rfl rfl d_Md_set_2 (fun H locs (hP : va_P D vwCl (wD qd qmemory qr qcounts cI cB ms (upd dd 0 (0 : Int32)) Lwhole Lwhole2 bm rr kt) H) (hD : va_D A (wD qd qmemory qr qcounts cI cB ms (upd dd 0 (0 : Int32)) Lwhole Lwhole2 bm rr kt)) hS => ?_)
  refine lv_iload_n hx hb d_Md_set_5 rfl (lv_at hl 1 rfl) ?_
  refine lv_if_lt (tgt := 15) hx hb d_Md_set_6 (by decide) (fun c_10 => ?_) (fun c_10 => ?_)
  · skip
    have h := h.1 c_10
    exact jn_15 (upd dd 0 (0 : Int32)) Lwhole Lwhole2 bm rr kt h _ _ hP hD hS ls (lv_sub hl [0] rfl)
  · skip
    have h := h.2 c_10
    refine lv_iload_n hx hb d_Md_set_9 rfl (lv_at hl 1 rfl) ?_
    refine lv_bipush (v := 66) hx hb d_Md_set_10 (by decide) ?_
    refine lv_icmp_le (tgt := 21) hx hb d_Md_set_12 (by decide) (fun c_11 => ?_) (fun c_11 => ?_)
    · skip
      have h := h.1 c_11
      refine lv_iload_n hx hb d_Md_set_21 rfl (lv_at hl 1 rfl) ?_
      refine lv_bipush (v := 32) hx hb d_Md_set_22 (by decide) ?_
      refine lv_icmp_ne (tgt := 34) hx hb d_Md_set_24 (by decide) (fun c_12 => ?_) (fun c_12 => ?_)
      · skip
        have h := h.2 c_12
        exact jn_34 (upd dd 0 (0 : Int32)) Lwhole Lwhole2 bm rr kt h _ _ hP hD hS ls (lv_sub hl [0, 1, 2] rfl)
      · skip
        have h := h.1 c_12
        refine lv_aload_n hx hb d_Md_set_27 rfl (lv_at hl 0 rfl) ?_
        refine g_Md_18 (v := .int (dd 1)) hx hb hT hown hK hP 0 rfl rfl d_Md_set_28 ?_
        refine lv_if_eq (tgt := 47) hx hb d_Md_set_31 (by decide) (fun c_13 => ?_) (fun c_13 => ?_)
        · skip
          have h := h.1 c_13
          exact jn_47 (upd dd 0 (0 : Int32)) Lwhole Lwhole2 bm rr kt h _ _ hP hD hS ls (lv_sub hl [0, 1, 2] rfl)
        · skip
          have h := h.2 c_13
          exact jn_34 (upd dd 0 (0 : Int32)) Lwhole Lwhole2 bm rr kt h _ _ hP hD hS ls (lv_sub hl [0, 1, 2] rfl)
    · skip
      have h := h.2 c_11
      exact jn_15 (upd dd 0 (0 : Int32)) Lwhole Lwhole2 bm rr kt h _ _ hP hD hS ls (lv_sub hl [0] rfl)
def wp_Md_get (ms : Int32) (dd : Nat → Int32) (Lwhole : Int64) (Lwhole2 : Int64) (bm : Nat → Int32) (rr : Nat → Int32) (kt : Nat → Int32) (a0 : Int32) (P : Int32 → ((Nat → Int32) × Int64 × Int64 × (Nat → Int32) × (Nat → Int32) × (Nat → Int32)) → Prop) : Prop := ((a0 < (0 : Int32) → wp_Md_fail ms (upd dd 0 (0 : Int32)) Lwhole Lwhole2 bm rr kt (1 : Int32) (fun r_3 u_2 => P r_3 (u_2.1, u_2.2.1, u_2.2.2.1, u_2.2.2.2.1, u_2.2.2.2.2.1, u_2.2.2.2.2.2))) ∧ (¬ a0 < (0 : Int32) → ((a0 ≤ (66 : Int32) → ((a0 = (32 : Int32) → (((dd 1) = (0 : Int32) → wp_Md_fail ms (upd dd 0 (0 : Int32)) Lwhole Lwhole2 bm rr kt (2 : Int32) (fun r_14 u_13 => P r_14 (u_13.1, u_13.2.1, u_13.2.2.1, u_13.2.2.2.1, u_13.2.2.2.2.1, u_13.2.2.2.2.2))) ∧ (¬ (dd 1) = (0 : Int32) → ((a0 = (33 : Int32) → (((dd 2) = (0 : Int32) → wp_Md_fail ms (upd dd 0 (0 : Int32)) Lwhole Lwhole2 bm rr kt (2 : Int32) (fun r_20 u_19 => P r_20 (u_19.1, u_19.2.1, u_19.2.2.1, u_19.2.2.2.1, u_19.2.2.2.2.1, u_19.2.2.2.2.2))) ∧ (¬ (dd 2) = (0 : Int32) → vp_in a0 67 ∧ ∀ x_18 : Int32, x_18 = (rr a0.toNatClampNeg) → P x_18 ((upd dd 0 (0 : Int32)), Lwhole, Lwhole2, bm, rr, kt)))) ∧ (¬ a0 = (33 : Int32) → vp_in a0 67 ∧ ∀ x_16 : Int32, x_16 = (rr a0.toNatClampNeg) → P x_16 ((upd dd 0 (0 : Int32)), Lwhole, Lwhole2, bm, rr, kt)))))) ∧ (¬ a0 = (32 : Int32) → ((a0 = (33 : Int32) → (((dd 2) = (0 : Int32) → wp_Md_fail ms (upd dd 0 (0 : Int32)) Lwhole Lwhole2 bm rr kt (2 : Int32) (fun r_11 u_10 => P r_11 (u_10.1, u_10.2.1, u_10.2.2.1, u_10.2.2.2.1, u_10.2.2.2.2.1, u_10.2.2.2.2.2))) ∧ (¬ (dd 2) = (0 : Int32) → vp_in a0 67 ∧ ∀ x_9 : Int32, x_9 = (rr a0.toNatClampNeg) → P x_9 ((upd dd 0 (0 : Int32)), Lwhole, Lwhole2, bm, rr, kt)))) ∧ (¬ a0 = (33 : Int32) → vp_in a0 67 ∧ ∀ x_7 : Int32, x_7 = (rr a0.toNatClampNeg) → P x_7 ((upd dd 0 (0 : Int32)), Lwhole, Lwhole2, bm, rr, kt)))))) ∧ (¬ a0 ≤ (66 : Int32) → wp_Md_fail ms (upd dd 0 (0 : Int32)) Lwhole Lwhole2 bm rr kt (1 : Int32) (fun r_22 u_21 => P r_22 (u_21.1, u_21.2.1, u_21.2.2.1, u_21.2.2.2.1, u_21.2.2.2.2.1, u_21.2.2.2.2.2))))))
abbrev rm_Md_get : Room := { frames := 1, cells := 0, slots := 0, locals := 21 }
set_option maxHeartbeats 4000000 in
set_option maxRecDepth 100000 in
theorem c_Md_get (l : Launch) (D : va_G) (cI : ClassId) (cB : ClassId) (qd : Nat) (qmemory : Nat) (qr : Nat) (qcounts : Nat) (ms : Int32) (dd : Nat → Int32) (Lwhole : Int64) (Lwhole2 : Int64) (bm : Nat → Int32) (rr : Nat → Int32) (kt : Nat → Int32) (a0 : Int32) (P : Int32 → ((Nat → Int32) × Int64 × Int64 × (Nat → Int32) × (Nat → Int32) × (Nat → Int32)) → Prop) (h : wp_Md_get ms dd Lwhole Lwhole2 bm rr kt a0 P) (sz : Nat) : Met l y_Md_get (zz_ws y_Md_get b_Md_get 2 (some .int)) rm_Md_get (va_Pc [.ref qd, .int a0] (zz_pw D [(cI, .int), (cB, .byte)] (wD qd qmemory qr qcounts cI cB ms dd Lwhole Lwhole2 bm rr kt) sz)) (va_Qi P (zz_qw D (fun u => wD qd qmemory qr qcounts cI cB ms u.1 u.2.1 u.2.2.1 u.2.2.2.1 u.2.2.2.2.1 u.2.2.2.2.2) (va_A (wD qd qmemory qr qcounts cI cB ms dd Lwhole Lwhole2 bm rr kt) sz)) (va_A (wD qd qmemory qr qcounts cI cB ms dd Lwhole Lwhole2 bm rr kt) sz)) 0 0 (va_A (wD qd qmemory qr qcounts cI cB ms dd Lwhole Lwhole2 bm rr kt) sz) := by
  refine Met.ofW (cc := b_Md_get) (maxL := 2) (ret := (some .int)) (by decide) rfl ?_
  intro p e s m args below meth c s₁ B hml hv
  obtain ⟨rfl, hsz, hP, hK, hD0⟩ := hv
  have hx := B.exec
  have hb := B.bytes
  have hr := B.returns
  have hts := atoms_spec (ws := (zz_ws y_Md_get b_Md_get 2 (some .int))) B.pre
  have hown : s.vm.findClass R_Md = some m.cls := findClass_of_methodNamed B.named
  have hlocks := B.notSynchronized
  have hT := zz_hts hts
  have X : CallFix p m c b_Md_get 2 s ([.ref qd, .int a0] : List Value).toArray (zz_ws y_Md_get b_Md_get 2 (some .int)) R_Md := ⟨hx, hb, hml, hown, hts⟩
  have hf0 : 0 + 0 ≤ (headSpec (zz_ws y_Md_get b_Md_get 2 (some .int)) rm_Md_get).room.cells ∧ 0 + 0 ≤ (headSpec (zz_ws y_Md_get b_Md_get 2 (some .int)) rm_Md_get).room.slots := ⟨Nat.le_of_ble_eq_true rfl, Nat.le_of_ble_eq_true rfl⟩
  subst hsz
  have hD := hD0.self (sz := s.heap.size)
  generalize hAe : va_A (wD qd qmemory qr qcounts cI cB ms dd Lwhole Lwhole2 bm rr kt) s.heap.size = A at hD ⊢
  have hA : ∀ q : Nat, s.heap.size ≤ q → A q := fun q h => by rw [← hAe]; exact Or.inr h
  have hS : va_S A s.heap s.heap [] := va_S.rf
  have hl := lv_entry ([.ref qd, .int a0]) (n := 2) (Nat.le_of_ble_eq_true rfl)
  rw [lg_entry_eq]
  generalize (lg_sl ([.ref qd, .int a0]) ++ List.replicate (2 - (lg_sl ([.ref qd, .int a0])).length) Slot.unset).toArray = ls at hl ⊢
  have hl : lv_has ls 2 [(0, .ref qd), (1, .int a0)] := hl
  refine lv_aload_n hx hb d_Md_get_0 rfl (lv_at hl 0 rfl) ?_
  refine lv_iconst (v := 0) hx hb d_Md_get_1 (by decide) ?_
  refine p_Md_35 hx hb hT hown hK hP hD hS 0 rfl rfl d_Md_get_2 (fun H locs (hP : va_P D vwCl (wD qd qmemory qr qcounts cI cB ms (upd dd 0 (0 : Int32)) Lwhole Lwhole2 bm rr kt) H) (hD : va_D A (wD qd qmemory qr qcounts cI cB ms (upd dd 0 (0 : Int32)) Lwhole Lwhole2 bm rr kt)) hS => ?_)
  refine lv_iload_n hx hb d_Md_get_5 rfl (lv_at hl 1 rfl) ?_
  refine lv_if_lt (tgt := 15) hx hb d_Md_get_6 (by decide) (fun c_1 => ?_) (fun c_1 => ?_)
  · skip
    have h := h.1 c_1
    refine lv_aload_n hx hb d_Md_get_15 rfl (lv_at hl 0 rfl) ?_
    refine lv_iconst (v := 1) hx hb d_Md_get_16 (by decide) ?_
    refine zz_Wi (As := [.int (1 : Int32)]) (rest := []) (wc := wD qd qmemory qr qcounts cI cB ms (upd dd 0 (0 : Int32)) Lwhole Lwhole2 bm rr kt) (wr := []) X hK hP hD hS hA (c_Md_fail l D cI cB qd qmemory qr qcounts ms (upd dd 0 (0 : Int32)) Lwhole Lwhole2 bm rr kt (1 : Int32) _ h _) ⟨rfl, rfl⟩ m_Md_fail k_Md_42 ⟨Nat.le_of_ble_eq_true rfl, Nat.le_of_ble_eq_true rfl⟩ [0, 1, 2, 3] [] rfl rfl (by decide) (by decide) (by decide) 6 0 rfl rfl rfl rfl hl.1 rfl (Nat.le_of_ble_eq_true rfl) d_Md_get_17 hf0 (fun r_3 u_2 H locs h hP hD hS => ?_)
    have hP : va_P D vwCl (wD qd qmemory qr qcounts cI cB ms u_2.1 u_2.2.1 u_2.2.2.1 u_2.2.2.2.1 u_2.2.2.2.2.1 u_2.2.2.2.2.2) H := hP.sub [0, 1, 2, 3] rfl
    have hD : va_D A (wD qd qmemory qr qcounts cI cB ms u_2.1 u_2.2.1 u_2.2.2.1 u_2.2.2.2.1 u_2.2.2.2.2.1 u_2.2.2.2.2.2) := hD.sub [0, 1, 2, 3] (by decide) rfl
    exact W.iret (v := r_3) hx hb hr (fun t ht hW => ⟨⟨r_3, (u_2.1, u_2.2.1, u_2.2.2.1, u_2.2.2.2.1, u_2.2.2.2.2.1, u_2.2.2.2.2.2), rfl, h, by rw [ht]; exact hP, hD⟩, hS.F ht⟩) hS.2.2 d_Md_get_20
  · skip
    have h := h.2 c_1
    refine lv_iload_n hx hb d_Md_get_9 rfl (lv_at hl 1 rfl) ?_
    refine lv_bipush (v := 66) hx hb d_Md_get_10 (by decide) ?_
    refine lv_icmp_le (tgt := 21) hx hb d_Md_get_12 (by decide) (fun c_4 => ?_) (fun c_4 => ?_)
    · skip
      have h := h.1 c_4
      refine lv_iload_n hx hb d_Md_get_21 rfl (lv_at hl 1 rfl) ?_
      refine lv_bipush (v := 32) hx hb d_Md_get_22 (by decide) ?_
      refine lv_icmp_ne (tgt := 34) hx hb d_Md_get_24 (by decide) (fun c_5 => ?_) (fun c_5 => ?_)
      · skip
        have h := h.2 c_5
        refine lv_iload_n hx hb d_Md_get_34 rfl (lv_at hl 1 rfl) ?_
        refine lv_bipush (v := 33) hx hb d_Md_get_35 (by decide) ?_
        refine lv_icmp_ne (tgt := 53) hx hb d_Md_get_37 (by decide) (fun c_6 => ?_) (fun c_6 => ?_)
        · skip
          have h := h.2 c_6
          refine lv_aload_n hx hb d_Md_get_53 rfl (lv_at hl 0 rfl) ?_
          refine g_Md_14 (v := .ref qr) hx hb hT hown hK hP 0 rfl rfl d_Md_get_54 ?_
          refine lv_iload_n hx hb d_Md_get_57 rfl (lv_at hl 1 rfl) ?_
          refine va_iald (f := rr) hx hb hK hP 2 0 rfl rfl h.1 d_Md_get_58 ?_
          have h := h.2
          refine lv_topi (fun x_7 ex_7 => ?_)
          have h := h x_7 ex_7
          exact W.iret (v := x_7) hx hb hr (fun t ht hW => ⟨⟨x_7, ((upd dd 0 (0 : Int32)), Lwhole, Lwhole2, bm, rr, kt), rfl, h, by rw [ht]; exact hP, hD⟩, hS.F ht⟩) hS.2.2 d_Md_get_59
        · skip
          have h := h.1 c_6
          refine lv_aload_n hx hb d_Md_get_40 rfl (lv_at hl 0 rfl) ?_
          refine g_Md_22 (v := .int (dd 2)) hx hb hT hown hK hP 0 rfl rfl d_Md_get_41 ?_
          refine lv_if_ne (tgt := 53) hx hb d_Md_get_44 (by decide) (fun c_8 => ?_) (fun c_8 => ?_)
          · skip
            have h := h.2 c_8
            refine lv_aload_n hx hb d_Md_get_53 rfl (lv_at hl 0 rfl) ?_
            refine g_Md_14 (v := .ref qr) hx hb hT hown hK hP 0 rfl rfl d_Md_get_54 ?_
            refine lv_iload_n hx hb d_Md_get_57 rfl (lv_at hl 1 rfl) ?_
            refine va_iald (f := rr) hx hb hK hP 2 0 rfl rfl h.1 d_Md_get_58 ?_
            have h := h.2
            refine lv_topi (fun x_9 ex_9 => ?_)
            have h := h x_9 ex_9
            exact W.iret (v := x_9) hx hb hr (fun t ht hW => ⟨⟨x_9, ((upd dd 0 (0 : Int32)), Lwhole, Lwhole2, bm, rr, kt), rfl, h, by rw [ht]; exact hP, hD⟩, hS.F ht⟩) hS.2.2 d_Md_get_59
          · skip
            have h := h.1 c_8
            refine lv_aload_n hx hb d_Md_get_47 rfl (lv_at hl 0 rfl) ?_
            refine lv_iconst (v := 2) hx hb d_Md_get_48 (by decide) ?_
            refine zz_Wi (As := [.int (2 : Int32)]) (rest := []) (wc := wD qd qmemory qr qcounts cI cB ms (upd dd 0 (0 : Int32)) Lwhole Lwhole2 bm rr kt) (wr := []) X hK hP hD hS hA (c_Md_fail l D cI cB qd qmemory qr qcounts ms (upd dd 0 (0 : Int32)) Lwhole Lwhole2 bm rr kt (2 : Int32) _ h _) ⟨rfl, rfl⟩ m_Md_fail k_Md_42 ⟨Nat.le_of_ble_eq_true rfl, Nat.le_of_ble_eq_true rfl⟩ [0, 1, 2, 3] [] rfl rfl (by decide) (by decide) (by decide) 6 0 rfl rfl rfl rfl hl.1 rfl (Nat.le_of_ble_eq_true rfl) d_Md_get_49 hf0 (fun r_11 u_10 H locs h hP hD hS => ?_)
            have hP : va_P D vwCl (wD qd qmemory qr qcounts cI cB ms u_10.1 u_10.2.1 u_10.2.2.1 u_10.2.2.2.1 u_10.2.2.2.2.1 u_10.2.2.2.2.2) H := hP.sub [0, 1, 2, 3] rfl
            have hD : va_D A (wD qd qmemory qr qcounts cI cB ms u_10.1 u_10.2.1 u_10.2.2.1 u_10.2.2.2.1 u_10.2.2.2.2.1 u_10.2.2.2.2.2) := hD.sub [0, 1, 2, 3] (by decide) rfl
            exact W.iret (v := r_11) hx hb hr (fun t ht hW => ⟨⟨r_11, (u_10.1, u_10.2.1, u_10.2.2.1, u_10.2.2.2.1, u_10.2.2.2.2.1, u_10.2.2.2.2.2), rfl, h, by rw [ht]; exact hP, hD⟩, hS.F ht⟩) hS.2.2 d_Md_get_52
      · skip
        have h := h.1 c_5
        refine lv_aload_n hx hb d_Md_get_27 rfl (lv_at hl 0 rfl) ?_
        refine g_Md_18 (v := .int (dd 1)) hx hb hT hown hK hP 0 rfl rfl d_Md_get_28 ?_
        refine lv_if_eq (tgt := 47) hx hb d_Md_get_31 (by decide) (fun c_12 => ?_) (fun c_12 => ?_)
        · skip
          have h := h.1 c_12
          refine lv_aload_n hx hb d_Md_get_47 rfl (lv_at hl 0 rfl) ?_
          refine lv_iconst (v := 2) hx hb d_Md_get_48 (by decide) ?_
          refine zz_Wi (As := [.int (2 : Int32)]) (rest := []) (wc := wD qd qmemory qr qcounts cI cB ms (upd dd 0 (0 : Int32)) Lwhole Lwhole2 bm rr kt) (wr := []) X hK hP hD hS hA (c_Md_fail l D cI cB qd qmemory qr qcounts ms (upd dd 0 (0 : Int32)) Lwhole Lwhole2 bm rr kt (2 : Int32) _ h _) ⟨rfl, rfl⟩ m_Md_fail k_Md_42 ⟨Nat.le_of_ble_eq_true rfl, Nat.le_of_ble_eq_true rfl⟩ [0, 1, 2, 3] [] rfl rfl (by decide) (by decide) (by decide) 6 0 rfl rfl rfl rfl hl.1 rfl (Nat.le_of_ble_eq_true rfl) d_Md_get_49 hf0 (fun r_14 u_13 H locs h hP hD hS => ?_)
          have hP : va_P D vwCl (wD qd qmemory qr qcounts cI cB ms u_13.1 u_13.2.1 u_13.2.2.1 u_13.2.2.2.1 u_13.2.2.2.2.1 u_13.2.2.2.2.2) H := hP.sub [0, 1, 2, 3] rfl
          have hD : va_D A (wD qd qmemory qr qcounts cI cB ms u_13.1 u_13.2.1 u_13.2.2.1 u_13.2.2.2.1 u_13.2.2.2.2.1 u_13.2.2.2.2.2) := hD.sub [0, 1, 2, 3] (by decide) rfl
          exact W.iret (v := r_14) hx hb hr (fun t ht hW => ⟨⟨r_14, (u_13.1, u_13.2.1, u_13.2.2.1, u_13.2.2.2.1, u_13.2.2.2.2.1, u_13.2.2.2.2.2), rfl, h, by rw [ht]; exact hP, hD⟩, hS.F ht⟩) hS.2.2 d_Md_get_52
        · skip
          have h := h.2 c_12
          refine lv_iload_n hx hb d_Md_get_34 rfl (lv_at hl 1 rfl) ?_
          refine lv_bipush (v := 33) hx hb d_Md_get_35 (by decide) ?_
          refine lv_icmp_ne (tgt := 53) hx hb d_Md_get_37 (by decide) (fun c_15 => ?_) (fun c_15 => ?_)
          · skip
            have h := h.2 c_15
            refine lv_aload_n hx hb d_Md_get_53 rfl (lv_at hl 0 rfl) ?_
            refine g_Md_14 (v := .ref qr) hx hb hT hown hK hP 0 rfl rfl d_Md_get_54 ?_
            refine lv_iload_n hx hb d_Md_get_57 rfl (lv_at hl 1 rfl) ?_
            refine va_iald (f := rr) hx hb hK hP 2 0 rfl rfl h.1 d_Md_get_58 ?_
            have h := h.2
            refine lv_topi (fun x_16 ex_16 => ?_)
            have h := h x_16 ex_16
            exact W.iret (v := x_16) hx hb hr (fun t ht hW => ⟨⟨x_16, ((upd dd 0 (0 : Int32)), Lwhole, Lwhole2, bm, rr, kt), rfl, h, by rw [ht]; exact hP, hD⟩, hS.F ht⟩) hS.2.2 d_Md_get_59
          · skip
            have h := h.1 c_15
            refine lv_aload_n hx hb d_Md_get_40 rfl (lv_at hl 0 rfl) ?_
            refine g_Md_22 (v := .int (dd 2)) hx hb hT hown hK hP 0 rfl rfl d_Md_get_41 ?_
            refine lv_if_ne (tgt := 53) hx hb d_Md_get_44 (by decide) (fun c_17 => ?_) (fun c_17 => ?_)
            · skip
              have h := h.2 c_17
              refine lv_aload_n hx hb d_Md_get_53 rfl (lv_at hl 0 rfl) ?_
              refine g_Md_14 (v := .ref qr) hx hb hT hown hK hP 0 rfl rfl d_Md_get_54 ?_
              refine lv_iload_n hx hb d_Md_get_57 rfl (lv_at hl 1 rfl) ?_
              refine va_iald (f := rr) hx hb hK hP 2 0 rfl rfl h.1 d_Md_get_58 ?_
              have h := h.2
              refine lv_topi (fun x_18 ex_18 => ?_)
              have h := h x_18 ex_18
              exact W.iret (v := x_18) hx hb hr (fun t ht hW => ⟨⟨x_18, ((upd dd 0 (0 : Int32)), Lwhole, Lwhole2, bm, rr, kt), rfl, h, by rw [ht]; exact hP, hD⟩, hS.F ht⟩) hS.2.2 d_Md_get_59
            · skip
              have h := h.1 c_17
              refine lv_aload_n hx hb d_Md_get_47 rfl (lv_at hl 0 rfl) ?_
              refine lv_iconst (v := 2) hx hb d_Md_get_48 (by decide) ?_
              refine zz_Wi (As := [.int (2 : Int32)]) (rest := []) (wc := wD qd qmemory qr qcounts cI cB ms (upd dd 0 (0 : Int32)) Lwhole Lwhole2 bm rr kt) (wr := []) X hK hP hD hS hA (c_Md_fail l D cI cB qd qmemory qr qcounts ms (upd dd 0 (0 : Int32)) Lwhole Lwhole2 bm rr kt (2 : Int32) _ h _) ⟨rfl, rfl⟩ m_Md_fail k_Md_42 ⟨Nat.le_of_ble_eq_true rfl, Nat.le_of_ble_eq_true rfl⟩ [0, 1, 2, 3] [] rfl rfl (by decide) (by decide) (by decide) 6 0 rfl rfl rfl rfl hl.1 rfl (Nat.le_of_ble_eq_true rfl) d_Md_get_49 hf0 (fun r_20 u_19 H locs h hP hD hS => ?_)
              have hP : va_P D vwCl (wD qd qmemory qr qcounts cI cB ms u_19.1 u_19.2.1 u_19.2.2.1 u_19.2.2.2.1 u_19.2.2.2.2.1 u_19.2.2.2.2.2) H := hP.sub [0, 1, 2, 3] rfl
              have hD : va_D A (wD qd qmemory qr qcounts cI cB ms u_19.1 u_19.2.1 u_19.2.2.1 u_19.2.2.2.1 u_19.2.2.2.2.1 u_19.2.2.2.2.2) := hD.sub [0, 1, 2, 3] (by decide) rfl
              exact W.iret (v := r_20) hx hb hr (fun t ht hW => ⟨⟨r_20, (u_19.1, u_19.2.1, u_19.2.2.1, u_19.2.2.2.1, u_19.2.2.2.2.1, u_19.2.2.2.2.2), rfl, h, by rw [ht]; exact hP, hD⟩, hS.F ht⟩) hS.2.2 d_Md_get_52
    · skip
      have h := h.2 c_4
      refine lv_aload_n hx hb d_Md_get_15 rfl (lv_at hl 0 rfl) ?_
      refine lv_iconst (v := 1) hx hb d_Md_get_16 (by decide) ?_
      refine zz_Wi (As := [.int (1 : Int32)]) (rest := []) (wc := wD qd qmemory qr qcounts cI cB ms (upd dd 0 (0 : Int32)) Lwhole Lwhole2 bm rr kt) (wr := []) X hK hP hD hS hA (c_Md_fail l D cI cB qd qmemory qr qcounts ms (upd dd 0 (0 : Int32)) Lwhole Lwhole2 bm rr kt (1 : Int32) _ h _) ⟨rfl, rfl⟩ m_Md_fail k_Md_42 ⟨Nat.le_of_ble_eq_true rfl, Nat.le_of_ble_eq_true rfl⟩ [0, 1, 2, 3] [] rfl rfl (by decide) (by decide) (by decide) 6 0 rfl rfl rfl rfl hl.1 rfl (Nat.le_of_ble_eq_true rfl) d_Md_get_17 hf0 (fun r_22 u_21 H locs h hP hD hS => ?_)
      have hP : va_P D vwCl (wD qd qmemory qr qcounts cI cB ms u_21.1 u_21.2.1 u_21.2.2.1 u_21.2.2.2.1 u_21.2.2.2.2.1 u_21.2.2.2.2.2) H := hP.sub [0, 1, 2, 3] rfl
      have hD : va_D A (wD qd qmemory qr qcounts cI cB ms u_21.1 u_21.2.1 u_21.2.2.1 u_21.2.2.2.1 u_21.2.2.2.2.1 u_21.2.2.2.2.2) := hD.sub [0, 1, 2, 3] (by decide) rfl
      exact W.iret (v := r_22) hx hb hr (fun t ht hW => ⟨⟨r_22, (u_21.1, u_21.2.1, u_21.2.2.1, u_21.2.2.2.1, u_21.2.2.2.2.1, u_21.2.2.2.2.2), rfl, h, by rw [ht]; exact hP, hD⟩, hS.F ht⟩) hS.2.2 d_Md_get_20
def wp_Md_field (ms : Int32) (dd : Nat → Int32) (Lwhole : Int64) (Lwhole2 : Int64) (bm : Nat → Int32) (rr : Nat → Int32) (kt : Nat → Int32) (a0 : Int32) (P : Int32 → Prop) : Prop := ∀ x_1 : Int32, x_1 = ((zz_ushr (dd 9) a0) &&& (31 : Int32)) → P x_1
abbrev rm_Md_field : Room := { frames := 0, cells := 0, slots := 0, locals := 0 }
set_option maxHeartbeats 4000000 in
set_option maxRecDepth 100000 in
theorem c_Md_field (l : Launch) (D : va_G) (cI : ClassId) (cB : ClassId) (qd : Nat) (qmemory : Nat) (qr : Nat) (qcounts : Nat) (ms : Int32) (dd : Nat → Int32) (Lwhole : Int64) (Lwhole2 : Int64) (bm : Nat → Int32) (rr : Nat → Int32) (kt : Nat → Int32) (a0 : Int32) (P : Int32 → Prop) (h : wp_Md_field ms dd Lwhole Lwhole2 bm rr kt a0 P) : Met l y_Md_field (zz_ws y_Md_field b_Md_field 2 (some .int)) rm_Md_field (va_Pc [.ref qd, .int a0] (zz_pr D [(cI, .int), (cB, .byte)] (wD qd qmemory qr qcounts cI cB ms dd Lwhole Lwhole2 bm rr kt))) (vp_Si P) 0 0 (fun _ => False) := by
  refine Met.ofW (cc := b_Md_field) (maxL := 2) (ret := (some .int)) (by decide) rfl ?_
  intro p e s m args below meth c s₁ B hml hv
  obtain ⟨rfl, hP, hK⟩ := hv
  have hx := B.exec
  have hb := B.bytes
  have hr := B.returns
  have hts := atoms_spec (ws := (zz_ws y_Md_field b_Md_field 2 (some .int))) B.pre
  have hown : s.vm.findClass R_Md = some m.cls := findClass_of_methodNamed B.named
  have hlocks := B.notSynchronized
  have hT := zz_hts hts
  have X : CallFix p m c b_Md_field 2 s ([.ref qd, .int a0] : List Value).toArray (zz_ws y_Md_field b_Md_field 2 (some .int)) R_Md := ⟨hx, hb, hml, hown, hts⟩
  have hf0 : 0 + 0 ≤ (headSpec (zz_ws y_Md_field b_Md_field 2 (some .int)) rm_Md_field).room.cells ∧ 0 + 0 ≤ (headSpec (zz_ws y_Md_field b_Md_field 2 (some .int)) rm_Md_field).room.slots := ⟨Nat.le_of_ble_eq_true rfl, Nat.le_of_ble_eq_true rfl⟩
  have hl := lv_entry ([.ref qd, .int a0]) (n := 2) (Nat.le_of_ble_eq_true rfl)
  rw [lg_entry_eq]
  generalize (lg_sl ([.ref qd, .int a0]) ++ List.replicate (2 - (lg_sl ([.ref qd, .int a0])).length) Slot.unset).toArray = ls at hl ⊢
  have hl : lv_has ls 2 [(0, .ref qd), (1, .int a0)] := hl
  refine lv_aload_n hx hb d_Md_field_0 rfl (lv_at hl 0 rfl) ?_
  refine g_Md_82 (v := .int (dd 9)) hx hb hT hown hK hP 0 rfl rfl d_Md_field_1 ?_
  refine lv_iload_n hx hb d_Md_field_4 rfl (lv_at hl 1 rfl) ?_
  refine zz_iushr hx hb d_Md_field_5 ?_
  refine lv_bipush (v := 31) hx hb d_Md_field_6 (by decide) ?_
  refine lv_iand hx hb d_Md_field_8 ?_
  refine lv_topi (fun x_1 ex_1 => ?_)
  have h := h x_1 ex_1
  exact W.iret (v := x_1) hx hb hr (fun t ht hW => ⟨x_1,  rfl, h, ht⟩) t_nil d_Md_field_9
def wp_Md_rs (ms : Int32) (dd : Nat → Int32) (Lwhole : Int64) (Lwhole2 : Int64) (bm : Nat → Int32) (rr : Nat → Int32) (kt : Nat → Int32) (P : Int32 → Prop) : Prop := wp_Md_field ms dd Lwhole Lwhole2 bm rr kt (21 : Int32) (fun r_1 => vp_in r_1 67 ∧ ∀ x_2 : Int32, x_2 = (rr r_1.toNatClampNeg) → P x_2)
abbrev rm_Md_rs : Room := { frames := 1, cells := 0, slots := 0, locals := 21 }
set_option maxHeartbeats 4000000 in
set_option maxRecDepth 100000 in
theorem c_Md_rs (l : Launch) (D : va_G) (cI : ClassId) (cB : ClassId) (qd : Nat) (qmemory : Nat) (qr : Nat) (qcounts : Nat) (ms : Int32) (dd : Nat → Int32) (Lwhole : Int64) (Lwhole2 : Int64) (bm : Nat → Int32) (rr : Nat → Int32) (kt : Nat → Int32) (P : Int32 → Prop) (h : wp_Md_rs ms dd Lwhole Lwhole2 bm rr kt P) : Met l y_Md_rs (zz_ws y_Md_rs b_Md_rs 1 (some .int)) rm_Md_rs (va_Pc [.ref qd] (zz_pr D [(cI, .int), (cB, .byte)] (wD qd qmemory qr qcounts cI cB ms dd Lwhole Lwhole2 bm rr kt))) (vp_Si P) 0 0 (fun _ => False) := by
  refine Met.ofW (cc := b_Md_rs) (maxL := 1) (ret := (some .int)) (by decide) rfl ?_
  intro p e s m args below meth c s₁ B hml hv
  obtain ⟨rfl, hP, hK⟩ := hv
  have hx := B.exec
  have hb := B.bytes
  have hr := B.returns
  have hts := atoms_spec (ws := (zz_ws y_Md_rs b_Md_rs 1 (some .int))) B.pre
  have hown : s.vm.findClass R_Md = some m.cls := findClass_of_methodNamed B.named
  have hlocks := B.notSynchronized
  have hT := zz_hts hts
  have X : CallFix p m c b_Md_rs 1 s ([.ref qd] : List Value).toArray (zz_ws y_Md_rs b_Md_rs 1 (some .int)) R_Md := ⟨hx, hb, hml, hown, hts⟩
  have hf0 : 0 + 0 ≤ (headSpec (zz_ws y_Md_rs b_Md_rs 1 (some .int)) rm_Md_rs).room.cells ∧ 0 + 0 ≤ (headSpec (zz_ws y_Md_rs b_Md_rs 1 (some .int)) rm_Md_rs).room.slots := ⟨Nat.le_of_ble_eq_true rfl, Nat.le_of_ble_eq_true rfl⟩
  have hl := lv_entry ([.ref qd]) (n := 1) (Nat.le_of_ble_eq_true rfl)
  rw [lg_entry_eq]
  generalize (lg_sl ([.ref qd]) ++ List.replicate (1 - (lg_sl ([.ref qd])).length) Slot.unset).toArray = ls at hl ⊢
  have hl : lv_has ls 1 [(0, .ref qd)] := hl
  refine lv_aload_n hx hb d_Md_rs_0 rfl (lv_at hl 0 rfl) ?_
  refine g_Md_14 (v := .ref qr) hx hb hT hown hK hP 0 rfl rfl d_Md_rs_1 ?_
  refine lv_aload_n hx hb d_Md_rs_4 rfl (lv_at hl 0 rfl) ?_
  refine lv_bipush (v := 21) hx hb d_Md_rs_5 (by decide) ?_
  refine zz_Ri (As := [.int (21 : Int32)]) (rest := [.ref qr]) (wc := wD qd qmemory qr qcounts cI cB ms dd Lwhole Lwhole2 bm rr kt) X hK hP (c_Md_field l D cI cB qd qmemory qr qcounts ms dd Lwhole Lwhole2 bm rr kt (21 : Int32) _ h) ⟨rfl, rfl⟩ m_Md_field k_Md_85 ⟨Nat.le_of_ble_eq_true rfl, Nat.le_of_ble_eq_true rfl⟩ [0, 1, 2, 3] rfl 6 0 rfl rfl rfl rfl hl.1 rfl (Nat.le_of_ble_eq_true rfl) d_Md_rs_7 hf0 (fun r_1 h => ?_)
  refine va_iald (f := rr) hx hb hK hP 2 0 rfl rfl h.1 d_Md_rs_10 ?_
  have h := h.2
  refine lv_topi (fun x_2 ex_2 => ?_)
  have h := h x_2 ex_2
  exact W.iret (v := x_2) hx hb hr (fun t ht hW => ⟨x_2,  rfl, h, ht⟩) t_nil d_Md_rs_11
def wp_Md_into (ms : Int32) (dd : Nat → Int32) (Lwhole : Int64) (Lwhole2 : Int64) (bm : Nat → Int32) (rr : Nat → Int32) (kt : Nat → Int32) (a0 : Int32) (a1 : Int32) (P : ((Nat → Int32) × Int64 × Int64 × (Nat → Int32) × (Nat → Int32) × (Nat → Int32)) → Prop) : Prop := ((a0 ≤ (0 : Int32) → P (dd, Lwhole, Lwhole2, bm, rr, kt)) ∧ (¬ a0 ≤ (0 : Int32) → (((dd 5) = (0 : Int32) → vp_in a0 67 ∧ P (dd, Lwhole, Lwhole2, bm, (upd rr a0.toNatClampNeg a1), kt)) ∧ (¬ (dd 5) = (0 : Int32) → P (dd, Lwhole, Lwhole2, bm, rr, kt)))))
abbrev rm_Md_into : Room := { frames := 0, cells := 0, slots := 0, locals := 0 }
set_option maxHeartbeats 4000000 in
set_option maxRecDepth 100000 in
theorem c_Md_into (l : Launch) (D : va_G) (cI : ClassId) (cB : ClassId) (qd : Nat) (qmemory : Nat) (qr : Nat) (qcounts : Nat) (ms : Int32) (dd : Nat → Int32) (Lwhole : Int64) (Lwhole2 : Int64) (bm : Nat → Int32) (rr : Nat → Int32) (kt : Nat → Int32) (a0 : Int32) (a1 : Int32) (P : ((Nat → Int32) × Int64 × Int64 × (Nat → Int32) × (Nat → Int32) × (Nat → Int32)) → Prop) (h : wp_Md_into ms dd Lwhole Lwhole2 bm rr kt a0 a1 P) (sz : Nat) : Met l y_Md_into (zz_ws y_Md_into b_Md_into 3 none) rm_Md_into (va_Pc [.ref qd, .int a0, .int a1] (zz_pw D [(cI, .int), (cB, .byte)] (wD qd qmemory qr qcounts cI cB ms dd Lwhole Lwhole2 bm rr kt) sz)) (va_Qv P (zz_qw D (fun u => wD qd qmemory qr qcounts cI cB ms u.1 u.2.1 u.2.2.1 u.2.2.2.1 u.2.2.2.2.1 u.2.2.2.2.2) (va_A (wD qd qmemory qr qcounts cI cB ms dd Lwhole Lwhole2 bm rr kt) sz)) (va_A (wD qd qmemory qr qcounts cI cB ms dd Lwhole Lwhole2 bm rr kt) sz)) 0 0 (va_A (wD qd qmemory qr qcounts cI cB ms dd Lwhole Lwhole2 bm rr kt) sz) := by
  refine Met.ofW (cc := b_Md_into) (maxL := 3) (ret := none) (by decide) rfl ?_
  intro p e s m args below meth c s₁ B hml hv
  obtain ⟨rfl, hsz, hP, hK, hD0⟩ := hv
  have hx := B.exec
  have hb := B.bytes
  have hr := B.returns
  have hts := atoms_spec (ws := (zz_ws y_Md_into b_Md_into 3 none)) B.pre
  have hown : s.vm.findClass R_Md = some m.cls := findClass_of_methodNamed B.named
  have hlocks := B.notSynchronized
  have hT := zz_hts hts
  have X : CallFix p m c b_Md_into 3 s ([.ref qd, .int a0, .int a1] : List Value).toArray (zz_ws y_Md_into b_Md_into 3 none) R_Md := ⟨hx, hb, hml, hown, hts⟩
  have hf0 : 0 + 0 ≤ (headSpec (zz_ws y_Md_into b_Md_into 3 none) rm_Md_into).room.cells ∧ 0 + 0 ≤ (headSpec (zz_ws y_Md_into b_Md_into 3 none) rm_Md_into).room.slots := ⟨Nat.le_of_ble_eq_true rfl, Nat.le_of_ble_eq_true rfl⟩
  subst hsz
  have hD := hD0.self (sz := s.heap.size)
  generalize hAe : va_A (wD qd qmemory qr qcounts cI cB ms dd Lwhole Lwhole2 bm rr kt) s.heap.size = A at hD ⊢
  have hA : ∀ q : Nat, s.heap.size ≤ q → A q := fun q h => by rw [← hAe]; exact Or.inr h
  have hS : va_S A s.heap s.heap [] := va_S.rf
  have hl := lv_entry ([.ref qd, .int a0, .int a1]) (n := 3) (Nat.le_of_ble_eq_true rfl)
  rw [lg_entry_eq]
  generalize (lg_sl ([.ref qd, .int a0, .int a1]) ++ List.replicate (3 - (lg_sl ([.ref qd, .int a0, .int a1])).length) Slot.unset).toArray = ls at hl ⊢
  have hl : lv_has ls 3 [(0, .ref qd), (1, .int a0), (2, .int a1)] := hl
  refine lv_iload_n hx hb d_Md_into_0 rfl (lv_at hl 1 rfl) ?_
  refine lv_if_le (tgt := 18) hx hb d_Md_into_1 (by decide) (fun c_1 => ?_) (fun c_1 => ?_)
  · skip
    have h := h.1 c_1
    exact W.vret hx hb hr (fun t ht hW => ⟨⟨(dd, Lwhole, Lwhole2, bm, rr, kt), rfl, h, by rw [ht]; exact hP, hD⟩, hS.F ht⟩) hS.2.2 d_Md_into_18
  · skip
    have h := h.2 c_1
    refine lv_aload_n hx hb d_Md_into_4 rfl (lv_at hl 0 rfl) ?_
    refine g_Md_63 (v := .int (dd 5)) hx hb hT hown hK hP 0 rfl rfl d_Md_into_5 ?_
    refine lv_if_ne (tgt := 18) hx hb d_Md_into_8 (by decide) (fun c_2 => ?_) (fun c_2 => ?_)
    · skip
      have h := h.2 c_2
      exact W.vret hx hb hr (fun t ht hW => ⟨⟨(dd, Lwhole, Lwhole2, bm, rr, kt), rfl, h, by rw [ht]; exact hP, hD⟩, hS.F ht⟩) hS.2.2 d_Md_into_18
    · skip
      have h := h.1 c_2
      refine lv_aload_n hx hb d_Md_into_11 rfl (lv_at hl 0 rfl) ?_
      refine g_Md_14 (v := .ref qr) hx hb hT hown hK hP 0 rfl rfl d_Md_into_12 ?_
      refine lv_iload_n hx hb d_Md_into_15 rfl (lv_at hl 1 rfl) ?_
      refine lv_iload_n hx hb d_Md_into_16 rfl (lv_at hl 2 rfl) ?_
      refine va_iast (f := rr) hx hb hK hP hD hS 2 0 rfl rfl h.1 d_Md_into_17 (fun H locs (hP : va_P D vwCl (wD qd qmemory qr qcounts cI cB ms dd Lwhole Lwhole2 bm (upd rr a0.toNatClampNeg a1) kt) H) (hD : va_D A (wD qd qmemory qr qcounts cI cB ms dd Lwhole Lwhole2 bm (upd rr a0.toNatClampNeg a1) kt)) hS => ?_)
      have h := h.2
      exact W.vret hx hb hr (fun t ht hW => ⟨⟨(dd, Lwhole, Lwhole2, bm, (upd rr a0.toNatClampNeg a1), kt), rfl, h, by rw [ht]; exact hP, hD⟩, hS.F ht⟩) hS.2.2 d_Md_into_18
def wp_Md_ends (ms : Int32) (dd : Nat → Int32) (Lwhole : Int64) (Lwhole2 : Int64) (bm : Nat → Int32) (rr : Nat → Int32) (kt : Nat → Int32) (a0 : Int32) (P : ((Nat → Int32) × Int64 × Int64 × (Nat → Int32) × (Nat → Int32) × (Nat → Int32)) → Prop) : Prop := (((dd 5) = (0 : Int32) → P ((upd dd 5 a0), Lwhole, Lwhole2, bm, rr, kt)) ∧ (¬ (dd 5) = (0 : Int32) → P (dd, Lwhole, Lwhole2, bm, rr, kt)))
abbrev rm_Md_ends : Room := { frames := 0, cells := 0, slots := 0, locals := 0 }
set_option maxHeartbeats 4000000 in
set_option maxRecDepth 100000 in
theorem c_Md_ends (l : Launch) (D : va_G) (cI : ClassId) (cB : ClassId) (qd : Nat) (qmemory : Nat) (qr : Nat) (qcounts : Nat) (ms : Int32) (dd : Nat → Int32) (Lwhole : Int64) (Lwhole2 : Int64) (bm : Nat → Int32) (rr : Nat → Int32) (kt : Nat → Int32) (a0 : Int32) (P : ((Nat → Int32) × Int64 × Int64 × (Nat → Int32) × (Nat → Int32) × (Nat → Int32)) → Prop) (h : wp_Md_ends ms dd Lwhole Lwhole2 bm rr kt a0 P) (sz : Nat) : Met l y_Md_ends (zz_ws y_Md_ends b_Md_ends 2 none) rm_Md_ends (va_Pc [.ref qd, .int a0] (zz_pw D [(cI, .int), (cB, .byte)] (wD qd qmemory qr qcounts cI cB ms dd Lwhole Lwhole2 bm rr kt) sz)) (va_Qv P (zz_qw D (fun u => wD qd qmemory qr qcounts cI cB ms u.1 u.2.1 u.2.2.1 u.2.2.2.1 u.2.2.2.2.1 u.2.2.2.2.2) (va_A (wD qd qmemory qr qcounts cI cB ms dd Lwhole Lwhole2 bm rr kt) sz)) (va_A (wD qd qmemory qr qcounts cI cB ms dd Lwhole Lwhole2 bm rr kt) sz)) 0 0 (va_A (wD qd qmemory qr qcounts cI cB ms dd Lwhole Lwhole2 bm rr kt) sz) := by
  refine Met.ofW (cc := b_Md_ends) (maxL := 2) (ret := none) (by decide) rfl ?_
  intro p e s m args below meth c s₁ B hml hv
  obtain ⟨rfl, hsz, hP, hK, hD0⟩ := hv
  have hx := B.exec
  have hb := B.bytes
  have hr := B.returns
  have hts := atoms_spec (ws := (zz_ws y_Md_ends b_Md_ends 2 none)) B.pre
  have hown : s.vm.findClass R_Md = some m.cls := findClass_of_methodNamed B.named
  have hlocks := B.notSynchronized
  have hT := zz_hts hts
  have X : CallFix p m c b_Md_ends 2 s ([.ref qd, .int a0] : List Value).toArray (zz_ws y_Md_ends b_Md_ends 2 none) R_Md := ⟨hx, hb, hml, hown, hts⟩
  have hf0 : 0 + 0 ≤ (headSpec (zz_ws y_Md_ends b_Md_ends 2 none) rm_Md_ends).room.cells ∧ 0 + 0 ≤ (headSpec (zz_ws y_Md_ends b_Md_ends 2 none) rm_Md_ends).room.slots := ⟨Nat.le_of_ble_eq_true rfl, Nat.le_of_ble_eq_true rfl⟩
  subst hsz
  have hD := hD0.self (sz := s.heap.size)
  generalize hAe : va_A (wD qd qmemory qr qcounts cI cB ms dd Lwhole Lwhole2 bm rr kt) s.heap.size = A at hD ⊢
  have hA : ∀ q : Nat, s.heap.size ≤ q → A q := fun q h => by rw [← hAe]; exact Or.inr h
  have hS : va_S A s.heap s.heap [] := va_S.rf
  have hl := lv_entry ([.ref qd, .int a0]) (n := 2) (Nat.le_of_ble_eq_true rfl)
  rw [lg_entry_eq]
  generalize (lg_sl ([.ref qd, .int a0]) ++ List.replicate (2 - (lg_sl ([.ref qd, .int a0])).length) Slot.unset).toArray = ls at hl ⊢
  have hl : lv_has ls 2 [(0, .ref qd), (1, .int a0)] := hl
  refine lv_aload_n hx hb d_Md_ends_0 rfl (lv_at hl 0 rfl) ?_
  refine g_Md_63 (v := .int (dd 5)) hx hb hT hown hK hP 0 rfl rfl d_Md_ends_1 ?_
  refine lv_if_ne (tgt := 12) hx hb d_Md_ends_4 (by decide) (fun c_1 => ?_) (fun c_1 => ?_)
  · skip
    have h := h.2 c_1
    exact W.vret hx hb hr (fun t ht hW => ⟨⟨(dd, Lwhole, Lwhole2, bm, rr, kt), rfl, h, by rw [ht]; exact hP, hD⟩, hS.F ht⟩) hS.2.2 d_Md_ends_12
  · skip
    have h := h.1 c_1
    refine lv_aload_n hx hb d_Md_ends_7 rfl (lv_at hl 0 rfl) ?_
    refine lv_iload_n hx hb d_Md_ends_8 rfl (lv_at hl 1 rfl) ?_
    refine p_Md_63 hx hb hT hown hK hP hD hS 0 rfl rfl d_Md_ends_9 (fun H locs (hP : va_P D vwCl (wD qd qmemory qr qcounts cI cB ms (upd dd 5 a0) Lwhole Lwhole2 bm rr kt) H) (hD : va_D A (wD qd qmemory qr qcounts cI cB ms (upd dd 5 a0) Lwhole Lwhole2 bm rr kt)) hS => ?_)
    exact W.vret hx hb hr (fun t ht hW => ⟨⟨((upd dd 5 a0), Lwhole, Lwhole2, bm, rr, kt), rfl, h, by rw [ht]; exact hP, hD⟩, hS.F ht⟩) hS.2.2 d_Md_ends_12
def wp_Md_rt (ms : Int32) (dd : Nat → Int32) (Lwhole : Int64) (Lwhole2 : Int64) (bm : Nat → Int32) (rr : Nat → Int32) (kt : Nat → Int32) (P : Int32 → Prop) : Prop := wp_Md_field ms dd Lwhole Lwhole2 bm rr kt (16 : Int32) (fun r_1 => vp_in r_1 67 ∧ ∀ x_2 : Int32, x_2 = (rr r_1.toNatClampNeg) → P x_2)
abbrev rm_Md_rt : Room := { frames := 1, cells := 0, slots := 0, locals := 21 }
set_option maxHeartbeats 4000000 in
set_option maxRecDepth 100000 in
theorem c_Md_rt (l : Launch) (D : va_G) (cI : ClassId) (cB : ClassId) (qd : Nat) (qmemory : Nat) (qr : Nat) (qcounts : Nat) (ms : Int32) (dd : Nat → Int32) (Lwhole : Int64) (Lwhole2 : Int64) (bm : Nat → Int32) (rr : Nat → Int32) (kt : Nat → Int32) (P : Int32 → Prop) (h : wp_Md_rt ms dd Lwhole Lwhole2 bm rr kt P) : Met l y_Md_rt (zz_ws y_Md_rt b_Md_rt 1 (some .int)) rm_Md_rt (va_Pc [.ref qd] (zz_pr D [(cI, .int), (cB, .byte)] (wD qd qmemory qr qcounts cI cB ms dd Lwhole Lwhole2 bm rr kt))) (vp_Si P) 0 0 (fun _ => False) := by
  refine Met.ofW (cc := b_Md_rt) (maxL := 1) (ret := (some .int)) (by decide) rfl ?_
  intro p e s m args below meth c s₁ B hml hv
  obtain ⟨rfl, hP, hK⟩ := hv
  have hx := B.exec
  have hb := B.bytes
  have hr := B.returns
  have hts := atoms_spec (ws := (zz_ws y_Md_rt b_Md_rt 1 (some .int))) B.pre
  have hown : s.vm.findClass R_Md = some m.cls := findClass_of_methodNamed B.named
  have hlocks := B.notSynchronized
  have hT := zz_hts hts
  have X : CallFix p m c b_Md_rt 1 s ([.ref qd] : List Value).toArray (zz_ws y_Md_rt b_Md_rt 1 (some .int)) R_Md := ⟨hx, hb, hml, hown, hts⟩
  have hf0 : 0 + 0 ≤ (headSpec (zz_ws y_Md_rt b_Md_rt 1 (some .int)) rm_Md_rt).room.cells ∧ 0 + 0 ≤ (headSpec (zz_ws y_Md_rt b_Md_rt 1 (some .int)) rm_Md_rt).room.slots := ⟨Nat.le_of_ble_eq_true rfl, Nat.le_of_ble_eq_true rfl⟩
  have hl := lv_entry ([.ref qd]) (n := 1) (Nat.le_of_ble_eq_true rfl)
  rw [lg_entry_eq]
  generalize (lg_sl ([.ref qd]) ++ List.replicate (1 - (lg_sl ([.ref qd])).length) Slot.unset).toArray = ls at hl ⊢
  have hl : lv_has ls 1 [(0, .ref qd)] := hl
  refine lv_aload_n hx hb d_Md_rt_0 rfl (lv_at hl 0 rfl) ?_
  refine g_Md_14 (v := .ref qr) hx hb hT hown hK hP 0 rfl rfl d_Md_rt_1 ?_
  refine lv_aload_n hx hb d_Md_rt_4 rfl (lv_at hl 0 rfl) ?_
  refine lv_bipush (v := 16) hx hb d_Md_rt_5 (by decide) ?_
  refine zz_Ri (As := [.int (16 : Int32)]) (rest := [.ref qr]) (wc := wD qd qmemory qr qcounts cI cB ms dd Lwhole Lwhole2 bm rr kt) X hK hP (c_Md_field l D cI cB qd qmemory qr qcounts ms dd Lwhole Lwhole2 bm rr kt (16 : Int32) _ h) ⟨rfl, rfl⟩ m_Md_field k_Md_85 ⟨Nat.le_of_ble_eq_true rfl, Nat.le_of_ble_eq_true rfl⟩ [0, 1, 2, 3] rfl 6 0 rfl rfl rfl rfl hl.1 rfl (Nat.le_of_ble_eq_true rfl) d_Md_rt_7 hf0 (fun r_1 h => ?_)
  refine va_iald (f := rr) hx hb hK hP 2 0 rfl rfl h.1 d_Md_rt_10 ?_
  have h := h.2
  refine lv_topi (fun x_2 ex_2 => ?_)
  have h := h x_2 ex_2
  exact W.iret (v := x_2) hx hb hr (fun t ht hW => ⟨x_2,  rfl, h, ht⟩) t_nil d_Md_rt_11
def wp_Md_shifts (ms : Int32) (dd : Nat → Int32) (Lwhole : Int64) (Lwhole2 : Int64) (bm : Nat → Int32) (rr : Nat → Int32) (kt : Nat → Int32) (a0 : Int32) (P : ((Nat → Int32) × Int64 × Int64 × (Nat → Int32) × (Nat → Int32) × (Nat → Int32)) → Prop) : Prop := ((a0 = (1 : Int32) → vp_in (66 : Int32) 67 ∧ ∀ x_35 : Int32, x_35 = (rr (66 : Int32).toNatClampNeg) → ∀ x_36 : Int32, x_36 = (zz_ushr (dd 9) (18 : Int32)) → ∀ x_37 : Int32, x_37 = (zz_shr x_35 (x_36 &&& (7 : Int32))) → ∀ x_38 : Int32, x_38 = (zz_ushr (dd 9) (16 : Int32)) → (((x_37 &&& (1 : Int32)) = (x_38 &&& (1 : Int32)) → wp_Md_field ms dd Lwhole Lwhole2 bm rr kt (11 : Int32) (fun r_42 => wp_Md_rs ms dd Lwhole Lwhole2 bm rr kt (fun r_43 => wp_Md_into ms dd Lwhole Lwhole2 bm rr kt r_42 r_43 (fun u_44 => P (u_44.1, u_44.2.1, u_44.2.2.1, u_44.2.2.2.1, u_44.2.2.2.2.1, u_44.2.2.2.2.2))))) ∧ (¬ (x_37 &&& (1 : Int32)) = (x_38 &&& (1 : Int32)) → P (dd, Lwhole, Lwhole2, bm, rr, kt)))) ∧ (¬ a0 = (1 : Int32) → ((a0 = (5 : Int32) → wp_Md_ends ms dd Lwhole Lwhole2 bm rr kt (3 : Int32) (fun u_33 => P (u_33.1, u_33.2.1, u_33.2.2.1, u_33.2.2.2.1, u_33.2.2.2.2.1, u_33.2.2.2.2.2))) ∧ (¬ a0 = (5 : Int32) → (((4 : Int32) ≤ a0 → wp_Md_rs ms dd Lwhole Lwhole2 bm rr kt (fun r_4 => ∀ x_5 : Int32, x_5 = (r_4 &&& (31 : Int32)) → ∀ x_6 : Int32, x_6 = (a0 &&& (3 : Int32)) → wp_Md_field ms dd Lwhole Lwhole2 bm rr kt (11 : Int32) (fun r_7 => ((x_6 = (0 : Int32) → wp_Md_rt ms dd Lwhole Lwhole2 bm rr kt (fun r_16 => wp_Md_into ms dd Lwhole Lwhole2 bm rr kt r_7 (zz_shl r_16 x_5) (fun u_17 => P (u_17.1, u_17.2.1, u_17.2.2.1, u_17.2.2.2.1, u_17.2.2.2.2.1, u_17.2.2.2.2.2)))) ∧ (¬ x_6 = (0 : Int32) → ((x_6 = (2 : Int32) → wp_Md_rt ms dd Lwhole Lwhole2 bm rr kt (fun r_13 => wp_Md_into ms dd Lwhole Lwhole2 bm rr kt r_7 (zz_ushr r_13 x_5) (fun u_14 => P (u_14.1, u_14.2.1, u_14.2.2.1, u_14.2.2.2.1, u_14.2.2.2.2.1, u_14.2.2.2.2.2)))) ∧ (¬ x_6 = (2 : Int32) → wp_Md_rt ms dd Lwhole Lwhole2 bm rr kt (fun r_10 => wp_Md_into ms dd Lwhole Lwhole2 bm rr kt r_7 (zz_shr r_10 x_5) (fun u_11 => P (u_11.1, u_11.2.1, u_11.2.2.1, u_11.2.2.2.1, u_11.2.2.2.2.1, u_11.2.2.2.2.2)))))))))) ∧ (¬ (4 : Int32) ≤ a0 → wp_Md_field ms dd Lwhole Lwhole2 bm rr kt (6 : Int32) (fun r_19 => ∀ x_20 : Int32, x_20 = (a0 &&& (3 : Int32)) → wp_Md_field ms dd Lwhole Lwhole2 bm rr kt (11 : Int32) (fun r_21 => ((x_20 = (0 : Int32) → wp_Md_rt ms dd Lwhole Lwhole2 bm rr kt (fun r_30 => wp_Md_into ms dd Lwhole Lwhole2 bm rr kt r_21 (zz_shl r_30 r_19) (fun u_31 => P (u_31.1, u_31.2.1, u_31.2.2.1, u_31.2.2.2.1, u_31.2.2.2.2.1, u_31.2.2.2.2.2)))) ∧ (¬ x_20 = (0 : Int32) → ((x_20 = (2 : Int32) → wp_Md_rt ms dd Lwhole Lwhole2 bm rr kt (fun r_27 => wp_Md_into ms dd Lwhole Lwhole2 bm rr kt r_21 (zz_ushr r_27 r_19) (fun u_28 => P (u_28.1, u_28.2.1, u_28.2.2.1, u_28.2.2.2.1, u_28.2.2.2.2.1, u_28.2.2.2.2.2)))) ∧ (¬ x_20 = (2 : Int32) → wp_Md_rt ms dd Lwhole Lwhole2 bm rr kt (fun r_24 => wp_Md_into ms dd Lwhole Lwhole2 bm rr kt r_21 (zz_shr r_24 r_19) (fun u_25 => P (u_25.1, u_25.2.1, u_25.2.2.1, u_25.2.2.2.1, u_25.2.2.2.2.1, u_25.2.2.2.2.2)))))))))))))))
abbrev rm_Md_shifts : Room := { frames := 2, cells := 0, slots := 0, locals := 41 }
set_option maxHeartbeats 4000000 in
set_option maxRecDepth 100000 in
theorem c_Md_shifts (l : Launch) (D : va_G) (cI : ClassId) (cB : ClassId) (qd : Nat) (qmemory : Nat) (qr : Nat) (qcounts : Nat) (ms : Int32) (dd : Nat → Int32) (Lwhole : Int64) (Lwhole2 : Int64) (bm : Nat → Int32) (rr : Nat → Int32) (kt : Nat → Int32) (a0 : Int32) (P : ((Nat → Int32) × Int64 × Int64 × (Nat → Int32) × (Nat → Int32) × (Nat → Int32)) → Prop) (h : wp_Md_shifts ms dd Lwhole Lwhole2 bm rr kt a0 P) (sz : Nat) : Met l y_Md_shifts (zz_ws y_Md_shifts b_Md_shifts 4 none) rm_Md_shifts (va_Pc [.ref qd, .int a0] (zz_pw D [(cI, .int), (cB, .byte)] (wD qd qmemory qr qcounts cI cB ms dd Lwhole Lwhole2 bm rr kt) sz)) (va_Qv P (zz_qw D (fun u => wD qd qmemory qr qcounts cI cB ms u.1 u.2.1 u.2.2.1 u.2.2.2.1 u.2.2.2.2.1 u.2.2.2.2.2) (va_A (wD qd qmemory qr qcounts cI cB ms dd Lwhole Lwhole2 bm rr kt) sz)) (va_A (wD qd qmemory qr qcounts cI cB ms dd Lwhole Lwhole2 bm rr kt) sz)) 0 0 (va_A (wD qd qmemory qr qcounts cI cB ms dd Lwhole Lwhole2 bm rr kt) sz) := by
  refine Met.ofW (cc := b_Md_shifts) (maxL := 4) (ret := none) (by decide) rfl ?_
  intro p e s m args below meth c s₁ B hml hv
  obtain ⟨rfl, hsz, hP, hK, hD0⟩ := hv
  have hx := B.exec
  have hb := B.bytes
  have hr := B.returns
  have hts := atoms_spec (ws := (zz_ws y_Md_shifts b_Md_shifts 4 none)) B.pre
  have hown : s.vm.findClass R_Md = some m.cls := findClass_of_methodNamed B.named
  have hlocks := B.notSynchronized
  have hT := zz_hts hts
  have X : CallFix p m c b_Md_shifts 4 s ([.ref qd, .int a0] : List Value).toArray (zz_ws y_Md_shifts b_Md_shifts 4 none) R_Md := ⟨hx, hb, hml, hown, hts⟩
  have hf0 : 0 + 0 ≤ (headSpec (zz_ws y_Md_shifts b_Md_shifts 4 none) rm_Md_shifts).room.cells ∧ 0 + 0 ≤ (headSpec (zz_ws y_Md_shifts b_Md_shifts 4 none) rm_Md_shifts).room.slots := ⟨Nat.le_of_ble_eq_true rfl, Nat.le_of_ble_eq_true rfl⟩
  subst hsz
  have hD := hD0.self (sz := s.heap.size)
  generalize hAe : va_A (wD qd qmemory qr qcounts cI cB ms dd Lwhole Lwhole2 bm rr kt) s.heap.size = A at hD ⊢
  have hA : ∀ q : Nat, s.heap.size ≤ q → A q := fun q h => by rw [← hAe]; exact Or.inr h
  have hS : va_S A s.heap s.heap [] := va_S.rf
  have hl := lv_entry ([.ref qd, .int a0]) (n := 4) (Nat.le_of_ble_eq_true rfl)
  rw [lg_entry_eq]
  generalize (lg_sl ([.ref qd, .int a0]) ++ List.replicate (4 - (lg_sl ([.ref qd, .int a0])).length) Slot.unset).toArray = ls at hl ⊢
  have hl : lv_has ls 4 [(0, .ref qd), (1, .int a0)] := hl
  refine lv_iload_n hx hb d_Md_shifts_0 rfl (lv_at hl 1 rfl) ?_
  refine lv_iconst (v := 1) hx hb d_Md_shifts_1 (by decide) ?_
  refine lv_icmp_ne (tgt := 62) hx hb d_Md_shifts_2 (by decide) (fun c_1 => ?_) (fun c_1 => ?_)
  · skip
    have h := h.2 c_1
    refine lv_iload_n hx hb d_Md_shifts_62 rfl (lv_at hl 1 rfl) ?_
    refine lv_iconst (v := 5) hx hb d_Md_shifts_63 (by decide) ?_
    refine lv_icmp_ne (tgt := 73) hx hb d_Md_shifts_64 (by decide) (fun c_2 => ?_) (fun c_2 => ?_)
    · skip
      have h := h.2 c_2
      refine lv_iload_n hx hb d_Md_shifts_73 rfl (lv_at hl 1 rfl) ?_
      refine lv_iconst (v := 4) hx hb d_Md_shifts_74 (by decide) ?_
      refine lv_icmp_ge (tgt := 87) hx hb d_Md_shifts_75 (by decide) (fun c_3 => ?_) (fun c_3 => ?_)
      · skip
        have h := h.1 c_3
        refine lv_aload_n hx hb d_Md_shifts_87 rfl (lv_at hl 0 rfl) ?_
        refine zz_Ri (As := []) (rest := []) (wc := wD qd qmemory qr qcounts cI cB ms dd Lwhole Lwhole2 bm rr kt) X hK hP (c_Md_rs l D cI cB qd qmemory qr qcounts ms dd Lwhole Lwhole2 bm rr kt _ h) ⟨rfl, rfl⟩ m_Md_rs k_Md_132 ⟨Nat.le_of_ble_eq_true rfl, Nat.le_of_ble_eq_true rfl⟩ [0, 1, 2, 3] rfl 6 0 rfl rfl rfl rfl hl.1 rfl (Nat.le_of_ble_eq_true rfl) d_Md_shifts_88 hf0 (fun r_4 h => ?_)
        refine lv_bipush (v := 31) hx hb d_Md_shifts_91 (by decide) ?_
        refine lv_iand hx hb d_Md_shifts_93 ?_
        refine lv_topi (fun x_5 ex_5 => ?_)
        have h := h x_5 ex_5
        refine lv_istore_n (lv' := [(2, .int x_5), (0, .ref qd), (1, .int a0)]) hx hb d_Md_shifts_94 rfl hl (by decide) rfl (fun ls hl => ?_)
        refine lv_iload_n hx hb d_Md_shifts_95 rfl (lv_at hl 2 rfl) ?_
        refine lv_iconst (v := 3) hx hb d_Md_shifts_96 (by decide) ?_
        refine lv_iand hx hb d_Md_shifts_97 ?_
        refine lv_topi (fun x_6 ex_6 => ?_)
        have h := h x_6 ex_6
        refine lv_istore_n (lv' := [(3, .int x_6), (2, .int x_5), (0, .ref qd), (1, .int a0)]) hx hb d_Md_shifts_98 rfl hl (by decide) rfl (fun ls hl => ?_)
        refine lv_aload_n hx hb d_Md_shifts_99 rfl (lv_at hl 2 rfl) ?_
        refine lv_aload_n hx hb d_Md_shifts_100 rfl (lv_at hl 2 rfl) ?_
        refine lv_bipush (v := 11) hx hb d_Md_shifts_101 (by decide) ?_
        refine zz_Ri (As := [.int (11 : Int32)]) (rest := [.ref qd]) (wc := wD qd qmemory qr qcounts cI cB ms dd Lwhole Lwhole2 bm rr kt) X hK hP (c_Md_field l D cI cB qd qmemory qr qcounts ms dd Lwhole Lwhole2 bm rr kt (11 : Int32) _ h) ⟨rfl, rfl⟩ m_Md_field k_Md_85 ⟨Nat.le_of_ble_eq_true rfl, Nat.le_of_ble_eq_true rfl⟩ [0, 1, 2, 3] rfl 6 0 rfl rfl rfl rfl hl.1 rfl (Nat.le_of_ble_eq_true rfl) d_Md_shifts_103 hf0 (fun r_7 h => ?_)
        refine lv_iload_n hx hb d_Md_shifts_106 rfl (lv_at hl 0 rfl) ?_
        refine lv_if_ne (tgt := 119) hx hb d_Md_shifts_107 (by decide) (fun c_8 => ?_) (fun c_8 => ?_)
        · skip
          have h := h.2 c_8
          refine lv_iload_n hx hb d_Md_shifts_119 rfl (lv_at hl 0 rfl) ?_
          refine lv_iconst (v := 2) hx hb d_Md_shifts_120 (by decide) ?_
          refine lv_icmp_ne (tgt := 133) hx hb d_Md_shifts_121 (by decide) (fun c_9 => ?_) (fun c_9 => ?_)
          · skip
            have h := h.2 c_9
            refine lv_aload_n hx hb d_Md_shifts_133 rfl (lv_at hl 2 rfl) ?_
            refine zz_Ri (As := []) (rest := [.int r_7, .ref qd]) (wc := wD qd qmemory qr qcounts cI cB ms dd Lwhole Lwhole2 bm rr kt) X hK hP (c_Md_rt l D cI cB qd qmemory qr qcounts ms dd Lwhole Lwhole2 bm rr kt _ h) ⟨rfl, rfl⟩ m_Md_rt k_Md_135 ⟨Nat.le_of_ble_eq_true rfl, Nat.le_of_ble_eq_true rfl⟩ [0, 1, 2, 3] rfl 6 0 rfl rfl rfl rfl hl.1 rfl (Nat.le_of_ble_eq_true rfl) d_Md_shifts_134 hf0 (fun r_10 h => ?_)
            refine lv_iload_n hx hb d_Md_shifts_137 rfl (lv_at hl 1 rfl) ?_
            refine zz_ishr hx hb d_Md_shifts_138 ?_
            refine zz_Wv (As := [.int r_7, .int (zz_shr r_10 x_5)]) (rest := []) (wc := wD qd qmemory qr qcounts cI cB ms dd Lwhole Lwhole2 bm rr kt) (wr := []) X hK hP hD hS hA (c_Md_into l D cI cB qd qmemory qr qcounts ms dd Lwhole Lwhole2 bm rr kt r_7 (zz_shr r_10 x_5) _ h _) ⟨rfl, rfl⟩ m_Md_into k_Md_128 ⟨Nat.le_of_ble_eq_true rfl, Nat.le_of_ble_eq_true rfl⟩ [0, 1, 2, 3] [] rfl rfl (by decide) (by decide) (by decide) 6 0 rfl rfl rfl rfl hl.1 rfl (Nat.le_of_ble_eq_true rfl) d_Md_shifts_139 hf0 (fun u_11 H locs h hP hD hS => ?_)
            have hP : va_P D vwCl (wD qd qmemory qr qcounts cI cB ms u_11.1 u_11.2.1 u_11.2.2.1 u_11.2.2.2.1 u_11.2.2.2.2.1 u_11.2.2.2.2.2) H := hP.sub [0, 1, 2, 3] rfl
            have hD : va_D A (wD qd qmemory qr qcounts cI cB ms u_11.1 u_11.2.1 u_11.2.2.1 u_11.2.2.2.1 u_11.2.2.2.2.1 u_11.2.2.2.2.2) := hD.sub [0, 1, 2, 3] (by decide) rfl
            exact W.vret hx hb hr (fun t ht hW => ⟨⟨(u_11.1, u_11.2.1, u_11.2.2.1, u_11.2.2.2.1, u_11.2.2.2.2.1, u_11.2.2.2.2.2), rfl, h, by rw [ht]; exact hP, hD⟩, hS.F ht⟩) hS.2.2 d_Md_shifts_142
          · skip
            have h := h.1 c_9
            refine lv_aload_n hx hb d_Md_shifts_124 rfl (lv_at hl 2 rfl) ?_
            refine zz_Ri (As := []) (rest := [.int r_7, .ref qd]) (wc := wD qd qmemory qr qcounts cI cB ms dd Lwhole Lwhole2 bm rr kt) X hK hP (c_Md_rt l D cI cB qd qmemory qr qcounts ms dd Lwhole Lwhole2 bm rr kt _ h) ⟨rfl, rfl⟩ m_Md_rt k_Md_135 ⟨Nat.le_of_ble_eq_true rfl, Nat.le_of_ble_eq_true rfl⟩ [0, 1, 2, 3] rfl 6 0 rfl rfl rfl rfl hl.1 rfl (Nat.le_of_ble_eq_true rfl) d_Md_shifts_125 hf0 (fun r_13 h => ?_)
            refine lv_iload_n hx hb d_Md_shifts_128 rfl (lv_at hl 1 rfl) ?_
            refine zz_iushr hx hb d_Md_shifts_129 ?_
            refine lv_goto (tgt := 139) hx hb d_Md_shifts_130 (by decide) ?_
            refine zz_Wv (As := [.int r_7, .int (zz_ushr r_13 x_5)]) (rest := []) (wc := wD qd qmemory qr qcounts cI cB ms dd Lwhole Lwhole2 bm rr kt) (wr := []) X hK hP hD hS hA (c_Md_into l D cI cB qd qmemory qr qcounts ms dd Lwhole Lwhole2 bm rr kt r_7 (zz_ushr r_13 x_5) _ h _) ⟨rfl, rfl⟩ m_Md_into k_Md_128 ⟨Nat.le_of_ble_eq_true rfl, Nat.le_of_ble_eq_true rfl⟩ [0, 1, 2, 3] [] rfl rfl (by decide) (by decide) (by decide) 6 0 rfl rfl rfl rfl hl.1 rfl (Nat.le_of_ble_eq_true rfl) d_Md_shifts_139 hf0 (fun u_14 H locs h hP hD hS => ?_)
            have hP : va_P D vwCl (wD qd qmemory qr qcounts cI cB ms u_14.1 u_14.2.1 u_14.2.2.1 u_14.2.2.2.1 u_14.2.2.2.2.1 u_14.2.2.2.2.2) H := hP.sub [0, 1, 2, 3] rfl
            have hD : va_D A (wD qd qmemory qr qcounts cI cB ms u_14.1 u_14.2.1 u_14.2.2.1 u_14.2.2.2.1 u_14.2.2.2.2.1 u_14.2.2.2.2.2) := hD.sub [0, 1, 2, 3] (by decide) rfl
            exact W.vret hx hb hr (fun t ht hW => ⟨⟨(u_14.1, u_14.2.1, u_14.2.2.1, u_14.2.2.2.1, u_14.2.2.2.2.1, u_14.2.2.2.2.2), rfl, h, by rw [ht]; exact hP, hD⟩, hS.F ht⟩) hS.2.2 d_Md_shifts_142
        · skip
          have h := h.1 c_8
          refine lv_aload_n hx hb d_Md_shifts_110 rfl (lv_at hl 2 rfl) ?_
          refine zz_Ri (As := []) (rest := [.int r_7, .ref qd]) (wc := wD qd qmemory qr qcounts cI cB ms dd Lwhole Lwhole2 bm rr kt) X hK hP (c_Md_rt l D cI cB qd qmemory qr qcounts ms dd Lwhole Lwhole2 bm rr kt _ h) ⟨rfl, rfl⟩ m_Md_rt k_Md_135 ⟨Nat.le_of_ble_eq_true rfl, Nat.le_of_ble_eq_true rfl⟩ [0, 1, 2, 3] rfl 6 0 rfl rfl rfl rfl hl.1 rfl (Nat.le_of_ble_eq_true rfl) d_Md_shifts_111 hf0 (fun r_16 h => ?_)
          refine lv_iload_n hx hb d_Md_shifts_114 rfl (lv_at hl 1 rfl) ?_
          refine zz_ishl hx hb d_Md_shifts_115 ?_
          refine lv_goto (tgt := 139) hx hb d_Md_shifts_116 (by decide) ?_
          refine zz_Wv (As := [.int r_7, .int (zz_shl r_16 x_5)]) (rest := []) (wc := wD qd qmemory qr qcounts cI cB ms dd Lwhole Lwhole2 bm rr kt) (wr := []) X hK hP hD hS hA (c_Md_into l D cI cB qd qmemory qr qcounts ms dd Lwhole Lwhole2 bm rr kt r_7 (zz_shl r_16 x_5) _ h _) ⟨rfl, rfl⟩ m_Md_into k_Md_128 ⟨Nat.le_of_ble_eq_true rfl, Nat.le_of_ble_eq_true rfl⟩ [0, 1, 2, 3] [] rfl rfl (by decide) (by decide) (by decide) 6 0 rfl rfl rfl rfl hl.1 rfl (Nat.le_of_ble_eq_true rfl) d_Md_shifts_139 hf0 (fun u_17 H locs h hP hD hS => ?_)
          have hP : va_P D vwCl (wD qd qmemory qr qcounts cI cB ms u_17.1 u_17.2.1 u_17.2.2.1 u_17.2.2.2.1 u_17.2.2.2.2.1 u_17.2.2.2.2.2) H := hP.sub [0, 1, 2, 3] rfl
          have hD : va_D A (wD qd qmemory qr qcounts cI cB ms u_17.1 u_17.2.1 u_17.2.2.1 u_17.2.2.2.1 u_17.2.2.2.2.1 u_17.2.2.2.2.2) := hD.sub [0, 1, 2, 3] (by decide) rfl
          exact W.vret hx hb hr (fun t ht hW => ⟨⟨(u_17.1, u_17.2.1, u_17.2.2.1, u_17.2.2.2.1, u_17.2.2.2.2.1, u_17.2.2.2.2.2), rfl, h, by rw [ht]; exact hP, hD⟩, hS.F ht⟩) hS.2.2 d_Md_shifts_142
      · skip
        have h := h.2 c_3
        refine lv_aload_n hx hb d_Md_shifts_78 rfl (lv_at hl 0 rfl) ?_
        refine lv_bipush (v := 6) hx hb d_Md_shifts_79 (by decide) ?_
        refine zz_Ri (As := [.int (6 : Int32)]) (rest := []) (wc := wD qd qmemory qr qcounts cI cB ms dd Lwhole Lwhole2 bm rr kt) X hK hP (c_Md_field l D cI cB qd qmemory qr qcounts ms dd Lwhole Lwhole2 bm rr kt (6 : Int32) _ h) ⟨rfl, rfl⟩ m_Md_field k_Md_85 ⟨Nat.le_of_ble_eq_true rfl, Nat.le_of_ble_eq_true rfl⟩ [0, 1, 2, 3] rfl 6 0 rfl rfl rfl rfl hl.1 rfl (Nat.le_of_ble_eq_true rfl) d_Md_shifts_81 hf0 (fun r_19 h => ?_)
        refine lv_goto (tgt := 94) hx hb d_Md_shifts_84 (by decide) ?_
        refine lv_istore_n (lv' := [(2, .int r_19), (0, .ref qd), (1, .int a0)]) hx hb d_Md_shifts_94 rfl hl (by decide) rfl (fun ls hl => ?_)
        refine lv_iload_n hx hb d_Md_shifts_95 rfl (lv_at hl 2 rfl) ?_
        refine lv_iconst (v := 3) hx hb d_Md_shifts_96 (by decide) ?_
        refine lv_iand hx hb d_Md_shifts_97 ?_
        refine lv_topi (fun x_20 ex_20 => ?_)
        have h := h x_20 ex_20
        refine lv_istore_n (lv' := [(3, .int x_20), (2, .int r_19), (0, .ref qd), (1, .int a0)]) hx hb d_Md_shifts_98 rfl hl (by decide) rfl (fun ls hl => ?_)
        refine lv_aload_n hx hb d_Md_shifts_99 rfl (lv_at hl 2 rfl) ?_
        refine lv_aload_n hx hb d_Md_shifts_100 rfl (lv_at hl 2 rfl) ?_
        refine lv_bipush (v := 11) hx hb d_Md_shifts_101 (by decide) ?_
        refine zz_Ri (As := [.int (11 : Int32)]) (rest := [.ref qd]) (wc := wD qd qmemory qr qcounts cI cB ms dd Lwhole Lwhole2 bm rr kt) X hK hP (c_Md_field l D cI cB qd qmemory qr qcounts ms dd Lwhole Lwhole2 bm rr kt (11 : Int32) _ h) ⟨rfl, rfl⟩ m_Md_field k_Md_85 ⟨Nat.le_of_ble_eq_true rfl, Nat.le_of_ble_eq_true rfl⟩ [0, 1, 2, 3] rfl 6 0 rfl rfl rfl rfl hl.1 rfl (Nat.le_of_ble_eq_true rfl) d_Md_shifts_103 hf0 (fun r_21 h => ?_)
        refine lv_iload_n hx hb d_Md_shifts_106 rfl (lv_at hl 0 rfl) ?_
        refine lv_if_ne (tgt := 119) hx hb d_Md_shifts_107 (by decide) (fun c_22 => ?_) (fun c_22 => ?_)
        · skip
          have h := h.2 c_22
          refine lv_iload_n hx hb d_Md_shifts_119 rfl (lv_at hl 0 rfl) ?_
          refine lv_iconst (v := 2) hx hb d_Md_shifts_120 (by decide) ?_
          refine lv_icmp_ne (tgt := 133) hx hb d_Md_shifts_121 (by decide) (fun c_23 => ?_) (fun c_23 => ?_)
          · skip
            have h := h.2 c_23
            refine lv_aload_n hx hb d_Md_shifts_133 rfl (lv_at hl 2 rfl) ?_
            refine zz_Ri (As := []) (rest := [.int r_21, .ref qd]) (wc := wD qd qmemory qr qcounts cI cB ms dd Lwhole Lwhole2 bm rr kt) X hK hP (c_Md_rt l D cI cB qd qmemory qr qcounts ms dd Lwhole Lwhole2 bm rr kt _ h) ⟨rfl, rfl⟩ m_Md_rt k_Md_135 ⟨Nat.le_of_ble_eq_true rfl, Nat.le_of_ble_eq_true rfl⟩ [0, 1, 2, 3] rfl 6 0 rfl rfl rfl rfl hl.1 rfl (Nat.le_of_ble_eq_true rfl) d_Md_shifts_134 hf0 (fun r_24 h => ?_)
            refine lv_iload_n hx hb d_Md_shifts_137 rfl (lv_at hl 1 rfl) ?_
            refine zz_ishr hx hb d_Md_shifts_138 ?_
            refine zz_Wv (As := [.int r_21, .int (zz_shr r_24 r_19)]) (rest := []) (wc := wD qd qmemory qr qcounts cI cB ms dd Lwhole Lwhole2 bm rr kt) (wr := []) X hK hP hD hS hA (c_Md_into l D cI cB qd qmemory qr qcounts ms dd Lwhole Lwhole2 bm rr kt r_21 (zz_shr r_24 r_19) _ h _) ⟨rfl, rfl⟩ m_Md_into k_Md_128 ⟨Nat.le_of_ble_eq_true rfl, Nat.le_of_ble_eq_true rfl⟩ [0, 1, 2, 3] [] rfl rfl (by decide) (by decide) (by decide) 6 0 rfl rfl rfl rfl hl.1 rfl (Nat.le_of_ble_eq_true rfl) d_Md_shifts_139 hf0 (fun u_25 H locs h hP hD hS => ?_)
            have hP : va_P D vwCl (wD qd qmemory qr qcounts cI cB ms u_25.1 u_25.2.1 u_25.2.2.1 u_25.2.2.2.1 u_25.2.2.2.2.1 u_25.2.2.2.2.2) H := hP.sub [0, 1, 2, 3] rfl
            have hD : va_D A (wD qd qmemory qr qcounts cI cB ms u_25.1 u_25.2.1 u_25.2.2.1 u_25.2.2.2.1 u_25.2.2.2.2.1 u_25.2.2.2.2.2) := hD.sub [0, 1, 2, 3] (by decide) rfl
            exact W.vret hx hb hr (fun t ht hW => ⟨⟨(u_25.1, u_25.2.1, u_25.2.2.1, u_25.2.2.2.1, u_25.2.2.2.2.1, u_25.2.2.2.2.2), rfl, h, by rw [ht]; exact hP, hD⟩, hS.F ht⟩) hS.2.2 d_Md_shifts_142
          · skip
            have h := h.1 c_23
            refine lv_aload_n hx hb d_Md_shifts_124 rfl (lv_at hl 2 rfl) ?_
            refine zz_Ri (As := []) (rest := [.int r_21, .ref qd]) (wc := wD qd qmemory qr qcounts cI cB ms dd Lwhole Lwhole2 bm rr kt) X hK hP (c_Md_rt l D cI cB qd qmemory qr qcounts ms dd Lwhole Lwhole2 bm rr kt _ h) ⟨rfl, rfl⟩ m_Md_rt k_Md_135 ⟨Nat.le_of_ble_eq_true rfl, Nat.le_of_ble_eq_true rfl⟩ [0, 1, 2, 3] rfl 6 0 rfl rfl rfl rfl hl.1 rfl (Nat.le_of_ble_eq_true rfl) d_Md_shifts_125 hf0 (fun r_27 h => ?_)
            refine lv_iload_n hx hb d_Md_shifts_128 rfl (lv_at hl 1 rfl) ?_
            refine zz_iushr hx hb d_Md_shifts_129 ?_
            refine lv_goto (tgt := 139) hx hb d_Md_shifts_130 (by decide) ?_
            refine zz_Wv (As := [.int r_21, .int (zz_ushr r_27 r_19)]) (rest := []) (wc := wD qd qmemory qr qcounts cI cB ms dd Lwhole Lwhole2 bm rr kt) (wr := []) X hK hP hD hS hA (c_Md_into l D cI cB qd qmemory qr qcounts ms dd Lwhole Lwhole2 bm rr kt r_21 (zz_ushr r_27 r_19) _ h _) ⟨rfl, rfl⟩ m_Md_into k_Md_128 ⟨Nat.le_of_ble_eq_true rfl, Nat.le_of_ble_eq_true rfl⟩ [0, 1, 2, 3] [] rfl rfl (by decide) (by decide) (by decide) 6 0 rfl rfl rfl rfl hl.1 rfl (Nat.le_of_ble_eq_true rfl) d_Md_shifts_139 hf0 (fun u_28 H locs h hP hD hS => ?_)
            have hP : va_P D vwCl (wD qd qmemory qr qcounts cI cB ms u_28.1 u_28.2.1 u_28.2.2.1 u_28.2.2.2.1 u_28.2.2.2.2.1 u_28.2.2.2.2.2) H := hP.sub [0, 1, 2, 3] rfl
            have hD : va_D A (wD qd qmemory qr qcounts cI cB ms u_28.1 u_28.2.1 u_28.2.2.1 u_28.2.2.2.1 u_28.2.2.2.2.1 u_28.2.2.2.2.2) := hD.sub [0, 1, 2, 3] (by decide) rfl
            exact W.vret hx hb hr (fun t ht hW => ⟨⟨(u_28.1, u_28.2.1, u_28.2.2.1, u_28.2.2.2.1, u_28.2.2.2.2.1, u_28.2.2.2.2.2), rfl, h, by rw [ht]; exact hP, hD⟩, hS.F ht⟩) hS.2.2 d_Md_shifts_142
        · skip
          have h := h.1 c_22
          refine lv_aload_n hx hb d_Md_shifts_110 rfl (lv_at hl 2 rfl) ?_
          refine zz_Ri (As := []) (rest := [.int r_21, .ref qd]) (wc := wD qd qmemory qr qcounts cI cB ms dd Lwhole Lwhole2 bm rr kt) X hK hP (c_Md_rt l D cI cB qd qmemory qr qcounts ms dd Lwhole Lwhole2 bm rr kt _ h) ⟨rfl, rfl⟩ m_Md_rt k_Md_135 ⟨Nat.le_of_ble_eq_true rfl, Nat.le_of_ble_eq_true rfl⟩ [0, 1, 2, 3] rfl 6 0 rfl rfl rfl rfl hl.1 rfl (Nat.le_of_ble_eq_true rfl) d_Md_shifts_111 hf0 (fun r_30 h => ?_)
          refine lv_iload_n hx hb d_Md_shifts_114 rfl (lv_at hl 1 rfl) ?_
          refine zz_ishl hx hb d_Md_shifts_115 ?_
          refine lv_goto (tgt := 139) hx hb d_Md_shifts_116 (by decide) ?_
          refine zz_Wv (As := [.int r_21, .int (zz_shl r_30 r_19)]) (rest := []) (wc := wD qd qmemory qr qcounts cI cB ms dd Lwhole Lwhole2 bm rr kt) (wr := []) X hK hP hD hS hA (c_Md_into l D cI cB qd qmemory qr qcounts ms dd Lwhole Lwhole2 bm rr kt r_21 (zz_shl r_30 r_19) _ h _) ⟨rfl, rfl⟩ m_Md_into k_Md_128 ⟨Nat.le_of_ble_eq_true rfl, Nat.le_of_ble_eq_true rfl⟩ [0, 1, 2, 3] [] rfl rfl (by decide) (by decide) (by decide) 6 0 rfl rfl rfl rfl hl.1 rfl (Nat.le_of_ble_eq_true rfl) d_Md_shifts_139 hf0 (fun u_31 H locs h hP hD hS => ?_)
          have hP : va_P D vwCl (wD qd qmemory qr qcounts cI cB ms u_31.1 u_31.2.1 u_31.2.2.1 u_31.2.2.2.1 u_31.2.2.2.2.1 u_31.2.2.2.2.2) H := hP.sub [0, 1, 2, 3] rfl
          have hD : va_D A (wD qd qmemory qr qcounts cI cB ms u_31.1 u_31.2.1 u_31.2.2.1 u_31.2.2.2.1 u_31.2.2.2.2.1 u_31.2.2.2.2.2) := hD.sub [0, 1, 2, 3] (by decide) rfl
          exact W.vret hx hb hr (fun t ht hW => ⟨⟨(u_31.1, u_31.2.1, u_31.2.2.1, u_31.2.2.2.1, u_31.2.2.2.2.1, u_31.2.2.2.2.2), rfl, h, by rw [ht]; exact hP, hD⟩, hS.F ht⟩) hS.2.2 d_Md_shifts_142
    · skip
      have h := h.1 c_2
      refine lv_aload_n hx hb d_Md_shifts_67 rfl (lv_at hl 0 rfl) ?_
      refine lv_iconst (v := 3) hx hb d_Md_shifts_68 (by decide) ?_
      refine zz_Wv (As := [.int (3 : Int32)]) (rest := []) (wc := wD qd qmemory qr qcounts cI cB ms dd Lwhole Lwhole2 bm rr kt) (wr := []) X hK hP hD hS hA (c_Md_ends l D cI cB qd qmemory qr qcounts ms dd Lwhole Lwhole2 bm rr kt (3 : Int32) _ h _) ⟨rfl, rfl⟩ m_Md_ends k_Md_116 ⟨Nat.le_of_ble_eq_true rfl, Nat.le_of_ble_eq_true rfl⟩ [0, 1, 2, 3] [] rfl rfl (by decide) (by decide) (by decide) 6 0 rfl rfl rfl rfl hl.1 rfl (Nat.le_of_ble_eq_true rfl) d_Md_shifts_69 hf0 (fun u_33 H locs h hP hD hS => ?_)
      have hP : va_P D vwCl (wD qd qmemory qr qcounts cI cB ms u_33.1 u_33.2.1 u_33.2.2.1 u_33.2.2.2.1 u_33.2.2.2.2.1 u_33.2.2.2.2.2) H := hP.sub [0, 1, 2, 3] rfl
      have hD : va_D A (wD qd qmemory qr qcounts cI cB ms u_33.1 u_33.2.1 u_33.2.2.1 u_33.2.2.2.1 u_33.2.2.2.2.1 u_33.2.2.2.2.2) := hD.sub [0, 1, 2, 3] (by decide) rfl
      exact W.vret hx hb hr (fun t ht hW => ⟨⟨(u_33.1, u_33.2.1, u_33.2.2.1, u_33.2.2.2.1, u_33.2.2.2.2.1, u_33.2.2.2.2.2), rfl, h, by rw [ht]; exact hP, hD⟩, hS.F ht⟩) hS.2.2 d_Md_shifts_72
  · skip
    have h := h.1 c_1
    refine lv_aload_n hx hb d_Md_shifts_5 rfl (lv_at hl 0 rfl) ?_
    refine g_Md_14 (v := .ref qr) hx hb hT hown hK hP 0 rfl rfl d_Md_shifts_6 ?_
    refine lv_bipush (v := 66) hx hb d_Md_shifts_9 (by decide) ?_
    refine va_iald (f := rr) hx hb hK hP 2 0 rfl rfl h.1 d_Md_shifts_11 ?_
    have h := h.2
    refine lv_topi (fun x_35 ex_35 => ?_)
    have h := h x_35 ex_35
    refine lv_aload_n hx hb d_Md_shifts_12 rfl (lv_at hl 0 rfl) ?_
    refine g_Md_82 (v := .int (dd 9)) hx hb hT hown hK hP 0 rfl rfl d_Md_shifts_13 ?_
    refine lv_bipush (v := 18) hx hb d_Md_shifts_16 (by decide) ?_
    refine zz_iushr hx hb d_Md_shifts_18 ?_
    refine lv_topi (fun x_36 ex_36 => ?_)
    have h := h x_36 ex_36
    refine lv_bipush (v := 7) hx hb d_Md_shifts_19 (by decide) ?_
    refine lv_iand hx hb d_Md_shifts_21 ?_
    refine zz_ishr hx hb d_Md_shifts_22 ?_
    refine lv_topi (fun x_37 ex_37 => ?_)
    have h := h x_37 ex_37
    refine lv_iconst (v := 1) hx hb d_Md_shifts_23 (by decide) ?_
    refine lv_iand hx hb d_Md_shifts_24 ?_
    refine lv_aload_n hx hb d_Md_shifts_25 rfl (lv_at hl 0 rfl) ?_
    refine g_Md_82 (v := .int (dd 9)) hx hb hT hown hK hP 0 rfl rfl d_Md_shifts_26 ?_
    refine lv_bipush (v := 16) hx hb d_Md_shifts_29 (by decide) ?_
    refine zz_iushr hx hb d_Md_shifts_31 ?_
    refine lv_topi (fun x_38 ex_38 => ?_)
    have h := h x_38 ex_38
    refine lv_iconst (v := 1) hx hb d_Md_shifts_32 (by decide) ?_
    refine lv_iand hx hb d_Md_shifts_33 ?_
    refine lv_icmp_ne (tgt := 41) hx hb d_Md_shifts_34 (by decide) (fun c_39 => ?_) (fun c_39 => ?_)
    · skip
      have h := h.2 c_39
      refine lv_iconst (v := 0) hx hb d_Md_shifts_41 (by decide) ?_
      refine lv_istore_n (lv' := [(2, .int (0 : Int32)), (0, .ref qd), (1, .int a0)]) hx hb d_Md_shifts_42 rfl hl (by decide) rfl (fun ls hl => ?_)
      refine lv_iload_n hx hb d_Md_shifts_43 rfl (lv_at hl 0 rfl) ?_
      refine lv_if_eq (tgt := 61) hx hb d_Md_shifts_44 (by decide) (fun c_40 => ?_) (fun c_40 => ?_)
      · skip
        exact W.vret hx hb hr (fun t ht hW => ⟨⟨(dd, Lwhole, Lwhole2, bm, rr, kt), rfl, h, by rw [ht]; exact hP, hD⟩, hS.F ht⟩) hS.2.2 d_Md_shifts_61
      · exact absurd c_40 (by decide)
    · skip
      have h := h.1 c_39
      refine lv_iconst (v := 1) hx hb d_Md_shifts_37 (by decide) ?_
      refine lv_goto (tgt := 42) hx hb d_Md_shifts_38 (by decide) ?_
      refine lv_istore_n (lv' := [(2, .int (1 : Int32)), (0, .ref qd), (1, .int a0)]) hx hb d_Md_shifts_42 rfl hl (by decide) rfl (fun ls hl => ?_)
      refine lv_iload_n hx hb d_Md_shifts_43 rfl (lv_at hl 0 rfl) ?_
      refine lv_if_eq (tgt := 61) hx hb d_Md_shifts_44 (by decide) (fun c_41 => ?_) (fun c_41 => ?_)
      · exact absurd c_41 (by decide)
      · skip
        refine lv_aload_n hx hb d_Md_shifts_47 rfl (lv_at hl 1 rfl) ?_
        refine lv_aload_n hx hb d_Md_shifts_48 rfl (lv_at hl 1 rfl) ?_
        refine lv_bipush (v := 11) hx hb d_Md_shifts_49 (by decide) ?_
        refine zz_Ri (As := [.int (11 : Int32)]) (rest := [.ref qd]) (wc := wD qd qmemory qr qcounts cI cB ms dd Lwhole Lwhole2 bm rr kt) X hK hP (c_Md_field l D cI cB qd qmemory qr qcounts ms dd Lwhole Lwhole2 bm rr kt (11 : Int32) _ h) ⟨rfl, rfl⟩ m_Md_field k_Md_85 ⟨Nat.le_of_ble_eq_true rfl, Nat.le_of_ble_eq_true rfl⟩ [0, 1, 2, 3] rfl 6 0 rfl rfl rfl rfl hl.1 rfl (Nat.le_of_ble_eq_true rfl) d_Md_shifts_51 hf0 (fun r_42 h => ?_)
        refine lv_aload_n hx hb d_Md_shifts_54 rfl (lv_at hl 1 rfl) ?_
        refine zz_Ri (As := []) (rest := [.int r_42, .ref qd]) (wc := wD qd qmemory qr qcounts cI cB ms dd Lwhole Lwhole2 bm rr kt) X hK hP (c_Md_rs l D cI cB qd qmemory qr qcounts ms dd Lwhole Lwhole2 bm rr kt _ h) ⟨rfl, rfl⟩ m_Md_rs k_Md_132 ⟨Nat.le_of_ble_eq_true rfl, Nat.le_of_ble_eq_true rfl⟩ [0, 1, 2, 3] rfl 6 0 rfl rfl rfl rfl hl.1 rfl (Nat.le_of_ble_eq_true rfl) d_Md_shifts_55 hf0 (fun r_43 h => ?_)
        refine zz_Wv (As := [.int r_42, .int r_43]) (rest := []) (wc := wD qd qmemory qr qcounts cI cB ms dd Lwhole Lwhole2 bm rr kt) (wr := []) X hK hP hD hS hA (c_Md_into l D cI cB qd qmemory qr qcounts ms dd Lwhole Lwhole2 bm rr kt r_42 r_43 _ h _) ⟨rfl, rfl⟩ m_Md_into k_Md_128 ⟨Nat.le_of_ble_eq_true rfl, Nat.le_of_ble_eq_true rfl⟩ [0, 1, 2, 3] [] rfl rfl (by decide) (by decide) (by decide) 6 0 rfl rfl rfl rfl hl.1 rfl (Nat.le_of_ble_eq_true rfl) d_Md_shifts_58 hf0 (fun u_44 H locs h hP hD hS => ?_)
        have hP : va_P D vwCl (wD qd qmemory qr qcounts cI cB ms u_44.1 u_44.2.1 u_44.2.2.1 u_44.2.2.2.1 u_44.2.2.2.2.1 u_44.2.2.2.2.2) H := hP.sub [0, 1, 2, 3] rfl
        have hD : va_D A (wD qd qmemory qr qcounts cI cB ms u_44.1 u_44.2.1 u_44.2.2.1 u_44.2.2.2.1 u_44.2.2.2.2.1 u_44.2.2.2.2.2) := hD.sub [0, 1, 2, 3] (by decide) rfl
        exact W.vret hx hb hr (fun t ht hW => ⟨⟨(u_44.1, u_44.2.1, u_44.2.2.1, u_44.2.2.2.1, u_44.2.2.2.2.1, u_44.2.2.2.2.2), rfl, h, by rw [ht]; exact hP, hD⟩, hS.F ht⟩) hS.2.2 d_Md_shifts_61
