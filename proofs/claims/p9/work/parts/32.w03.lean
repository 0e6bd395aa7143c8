def wp_Md_aside (ms : Int32) (dd : Nat → Int32) (Lwhole : Int64) (Lwhole2 : Int64) (bm : Nat → Int32) (rr : Nat → Int32) (kt : Nat → Int32) (P : ((Nat → Int32) × Int64 × Int64 × (Nat → Int32) × (Nat → Int32) × (Nat → Int32)) → Prop) : Prop := ∀ x_1 : Int32, x_1 = (dd 14) → ∀ x_2 : Int32, x_2 = (dd 18) → zz_bz x_2 ∧ ∀ x_3 : Int32, x_3 = (dd 15) → P ((upd (upd (upd dd 16 x_1) 19 x_2) 17 x_3), Lwhole, Lwhole, bm, rr, kt)
abbrev rm_Md_aside : Room := { frames := 0, cells := 0, slots := 0, locals := 0 }
set_option maxHeartbeats 4000000 in
set_option maxRecDepth 100000 in
theorem c_Md_aside (l : Launch) (D : va_G) (cI : ClassId) (cB : ClassId) (qd : Nat) (qmemory : Nat) (qr : Nat) (qcounts : Nat) (ms : Int32) (dd : Nat → Int32) (Lwhole : Int64) (Lwhole2 : Int64) (bm : Nat → Int32) (rr : Nat → Int32) (kt : Nat → Int32) (P : ((Nat → Int32) × Int64 × Int64 × (Nat → Int32) × (Nat → Int32) × (Nat → Int32)) → Prop) (h : wp_Md_aside ms dd Lwhole Lwhole2 bm rr kt P) (sz : Nat) : Met l y_Md_aside (zz_ws y_Md_aside b_Md_aside 1 none) rm_Md_aside (va_Pc [.ref qd] (zz_pw D [(cI, .int), (cB, .byte)] (wD qd qmemory qr qcounts cI cB ms dd Lwhole Lwhole2 bm rr kt) sz)) (va_Qv P (zz_qw D (fun u => wD qd qmemory qr qcounts cI cB ms u.1 u.2.1 u.2.2.1 u.2.2.2.1 u.2.2.2.2.1 u.2.2.2.2.2) (va_A (wD qd qmemory qr qcounts cI cB ms dd Lwhole Lwhole2 bm rr kt) sz)) (va_A (wD qd qmemory qr qcounts cI cB ms dd Lwhole Lwhole2 bm rr kt) sz)) 0 0 (va_A (wD qd qmemory qr qcounts cI cB ms dd Lwhole Lwhole2 bm rr kt) sz) := by
  refine Met.ofW (cc := b_Md_aside) (maxL := 1) (ret := none) (by decide) rfl ?_
  intro p e s m args below meth c s₁ B hml hv
  obtain ⟨rfl, hsz, hP, hK, hD0⟩ := hv
  have hx := B.exec
  have hb := B.bytes
  have hr := B.returns
  have hts := atoms_spec (ws := (zz_ws y_Md_aside b_Md_aside 1 none)) B.pre
  have hown : s.vm.findClass R_Md = some m.cls := findClass_of_methodNamed B.named
  have hlocks := B.notSynchronized
  have hT := zz_hts hts
  have X : CallFix p m c b_Md_aside 1 s ([.ref qd] : List Value).toArray (zz_ws y_Md_aside b_Md_aside 1 none) R_Md := ⟨hx, hb, hml, hown, hts⟩
  have hf0 : 0 + 0 ≤ (headSpec (zz_ws y_Md_aside b_Md_aside 1 none) rm_Md_aside).room.cells ∧ 0 + 0 ≤ (headSpec (zz_ws y_Md_aside b_Md_aside 1 none) rm_Md_aside).room.slots := ⟨Nat.le_of_ble_eq_true rfl, Nat.le_of_ble_eq_true rfl⟩
  subst hsz
  have hD := hD0.self (sz := s.heap.size)
  generalize hAe : va_A (wD qd qmemory qr qcounts cI cB ms dd Lwhole Lwhole2 bm rr kt) s.heap.size = A at hD ⊢
  have hA : ∀ q : Nat, s.heap.size ≤ q → A q := fun q h => by rw [← hAe]; exact Or.inr h
  have hS : va_S A s.heap s.heap [] := va_S.rf
  have hl := lv_entry ([.ref qd]) (n := 1) (Nat.le_of_ble_eq_true rfl)
  rw [lg_entry_eq]
  generalize (lg_sl ([.ref qd]) ++ List.replicate (1 - (lg_sl ([.ref qd])).length) Slot.unset).toArray = ls at hl ⊢
  have hl : lv_has ls 1 [(0, .ref qd)] := hl
  refine lv_aload_n hx hb d_Md_aside_0 rfl (lv_at hl 0 rfl) ?_
  refine lv_aload_n hx hb d_Md_aside_1 rfl (lv_at hl 0 rfl) ?_
  refine g_Md_210 (v := .int (dd 14)) hx hb hT hown hK hP 0 rfl rfl d_Md_aside_2 ?_
  refine lv_topi (fun x_1 ex_1 => ?_)
  have h := h x_1 ex_1
  refine p_Md_213 hx hb hT hown hK hP hD hS 0 rfl rfl d_Md_aside_5 (fun H locs (hP : va_P D vwCl (wD qd qmemory qr qcounts cI cB ms (upd dd 16 x_1) Lwhole Lwhole2 bm rr kt) H) (hD : va_D A (wD qd qmemory qr qcounts cI cB ms (upd dd 16 x_1) Lwhole Lwhole2 bm rr kt)) hS => ?_)
  refine lv_aload_n hx hb d_Md_aside_8 rfl (lv_at hl 0 rfl) ?_
  refine lv_aload_n hx hb d_Md_aside_9 rfl (lv_at hl 0 rfl) ?_
  refine g_Md_197 (v := .int (dd 18)) hx hb hT hown hK hP 0 rfl rfl d_Md_aside_10 ?_
  refine lv_topi (fun x_2 ex_2 => ?_)
  have h := h x_2 ex_2
  refine p_Md_216 hx hb hT hown hK hP hD hS 0 rfl rfl h.1 d_Md_aside_13 (fun H locs (hP : va_P D vwCl (wD qd qmemory qr qcounts cI cB ms (upd (upd dd 16 x_1) 19 x_2) Lwhole Lwhole2 bm rr kt) H) (hD : va_D A (wD qd qmemory qr qcounts cI cB ms (upd (upd dd 16 x_1) 19 x_2) Lwhole Lwhole2 bm rr kt)) hS => ?_)
  have h := h.2
  refine lv_aload_n hx hb d_Md_aside_16 rfl (lv_at hl 0 rfl) ?_
  refine lv_aload_n hx hb d_Md_aside_17 rfl (lv_at hl 0 rfl) ?_
  refine g_Md_200 (v := .long Lwhole) hx hb hT hown hK hP 0 rfl rfl d_Md_aside_18 ?_
  refine p_Md_219 hx hb hT hown hK hP hD hS 0 rfl rfl d_Md_aside_21 (fun H locs (hP : va_P D vwCl (wD qd qmemory qr qcounts cI cB ms (upd (upd dd 16 x_1) 19 x_2) Lwhole Lwhole bm rr kt) H) (hD : va_D A (wD qd qmemory qr qcounts cI cB ms (upd (upd dd 16 x_1) 19 x_2) Lwhole Lwhole bm rr kt)) hS => ?_)
  refine lv_aload_n hx hb d_Md_aside_24 rfl (lv_at hl 0 rfl) ?_
  refine lv_aload_n hx hb d_Md_aside_25 rfl (lv_at hl 0 rfl) ?_
  refine g_Md_207 (v := .int (dd 15)) hx hb hT hown hK hP 0 rfl rfl d_Md_aside_26 ?_
  refine lv_topi (fun x_3 ex_3 => ?_)
  have h := h x_3 ex_3
  refine p_Md_222 hx hb hT hown hK hP hD hS 0 rfl rfl d_Md_aside_29 (fun H locs (hP : va_P D vwCl (wD qd qmemory qr qcounts cI cB ms (upd (upd (upd dd 16 x_1) 19 x_2) 17 x_3) Lwhole Lwhole bm rr kt) H) (hD : va_D A (wD qd qmemory qr qcounts cI cB ms (upd (upd (upd dd 16 x_1) 19 x_2) 17 x_3) Lwhole Lwhole bm rr kt)) hS => ?_)
  exact W.vret hx hb hr (fun t ht hW => ⟨⟨((upd (upd (upd dd 16 x_1) 19 x_2) 17 x_3), Lwhole, Lwhole, bm, rr, kt), rfl, h, by rw [ht]; exact hP, hD⟩, hS.F ht⟩) hS.2.2 d_Md_aside_32
def wj_Md_order_54 (a0 : Int64) (a1 : Int64) (a2 : Int32) (P : Int32 → Prop) (j54_7 : Int64) (s54_0 : Int64) : Prop := ((s54_0 ≤ j54_7 → ((j54_7 ≤ s54_0 → P (0 : Int32)) ∧ (¬ j54_7 ≤ s54_0 → P (1 : Int32)))) ∧ (¬ s54_0 ≤ j54_7 → P (-1 : Int32)))
def wj_Md_order_34 (a0 : Int64) (a1 : Int64) (a2 : Int32) (P : Int32 → Prop) (j34_5 : Int64) (s34_0 : Int64) : Prop := (((a1 &&& j34_5) = a1 → wj_Md_order_54 a0 a1 a2 P s34_0 a1) ∧ (¬ (a1 &&& j34_5) = a1 → wj_Md_order_54 a0 a1 a2 P s34_0 (-(a1 &&& j34_5))))
def wj_Md_order_14 (a0 : Int64) (a1 : Int64) (a2 : Int32) (P : Int32 → Prop) (s14_0 : Int64) : Prop := (((a0 &&& s14_0) = a0 → wj_Md_order_34 a0 a1 a2 P s14_0 a0) ∧ (¬ (a0 &&& s14_0) = a0 → wj_Md_order_34 a0 a1 a2 P s14_0 (-(a0 &&& s14_0))))
def wp_Md_order (a0 : Int64) (a1 : Int64) (a2 : Int32) (P : Int32 → Prop) : Prop := ((a2 = (0 : Int32) → wj_Md_order_14 a0 a1 a2 P (2147483647 : Int64)) ∧ (¬ a2 = (0 : Int32) → wj_Md_order_14 a0 a1 a2 P (9223372036854775807 : Int64)))
abbrev rm_Md_order : Room := { frames := 0, cells := 0, slots := 0, locals := 0 }
set_option maxHeartbeats 4000000 in
set_option maxRecDepth 100000 in
theorem c_Md_order (l : Launch) (a0 : Int64) (a1 : Int64) (a2 : Int32) (P : Int32 → Prop) (h : wp_Md_order a0 a1 a2 P) : Met l y_Md_order (zz_ws y_Md_order b_Md_order 11 (some .int)) rm_Md_order (fun v _ => v = ([.long a0, .long a1, .int a2] : List Value).toArray) (vp_Si P) 0 0 (fun _ => False) := by
  refine Met.ofW (cc := b_Md_order) (maxL := 11) (ret := (some .int)) (by decide) rfl ?_
  intro p e s m args below meth c s₁ B hml hv
  subst hv
  have hx := B.exec
  have hb := B.bytes
  have hr := B.returns
  have hts := atoms_spec (ws := (zz_ws y_Md_order b_Md_order 11 (some .int))) B.pre
  have hown : s.vm.findClass R_Md = some m.cls := findClass_of_methodNamed B.named
  have hlocks := B.notSynchronized
  have hT := zz_hts hts
  have X : CallFix p m c b_Md_order 11 s ([.long a0, .long a1, .int a2] : List Value).toArray (zz_ws y_Md_order b_Md_order 11 (some .int)) R_Md := ⟨hx, hb, hml, hown, hts⟩
  have hf0 : 0 + 0 ≤ (headSpec (zz_ws y_Md_order b_Md_order 11 (some .int)) rm_Md_order).room.cells ∧ 0 + 0 ≤ (headSpec (zz_ws y_Md_order b_Md_order 11 (some .int)) rm_Md_order).room.slots := ⟨Nat.le_of_ble_eq_true rfl, Nat.le_of_ble_eq_true rfl⟩
  have hl := lv_entry ([.long a0, .long a1, .int a2]) (n := 11) (Nat.le_of_ble_eq_true rfl)
  rw [lg_entry_eq]
  generalize (lg_sl ([.long a0, .long a1, .int a2]) ++ List.replicate (11 - (lg_sl ([.long a0, .long a1, .int a2])).length) Slot.unset).toArray = ls at hl ⊢
  have hl : lv_has ls 11 [(0, .long a0), (2, .long a1), (4, .int a2)] := hl
  have jn_54 : ∀ (j54_7 : Int64) (s54_0 : Int64), wj_Md_order_54 a0 a1 a2 P j54_7 s54_0 → ∀ ls : Array Slot, lv_has ls 11 [(7, .long j54_7)] → W p l e (headSpec (zz_ws y_Md_order b_Md_order 11 (some .int)) rm_Md_order).room s m ([.long a0, .long a1, .int a2] : List Value).toArray below meth c s.heap [] 0 0 (MQ below (vp_Si P) ([.long a0, .long a1, .int a2] : List Value).toArray s 0 0 (fun _ => False)) (F0 m 54 ls [.long s54_0]) := by
    intro j54_7 s54_0 h ls hl
    unfold wj_Md_order_54 at h
    refine lv_lstore (lv' := [(9, .long s54_0), (7, .long j54_7)]) hx hb d_Md_order_54 hl (by decide) rfl (fun ls hl => ?_)
    refine lv_lload hx hb d_Md_order_56 (lv_at hl 1 rfl) ?_
    refine lv_lload hx hb d_Md_order_58 (lv_at hl 0 rfl) ?_
    refine W.lcmp hx hb d_Md_order_60 ?_
    refine lv_if_ge (tgt := 68) hx hb d_Md_order_61 (by decide) (fun c_1 => ?_) (fun c_1 => ?_)
    · have kc_1 := ((lg_cmp_ge _ _).mp c_1)
      have h := h.1 kc_1
      refine lv_lload hx hb d_Md_order_68 (lv_at hl 1 rfl) ?_
      refine lv_lload hx hb d_Md_order_70 (lv_at hl 0 rfl) ?_
      refine W.lcmp hx hb d_Md_order_72 ?_
      refine lv_if_le (tgt := 80) hx hb d_Md_order_73 (by decide) (fun c_2 => ?_) (fun c_2 => ?_)
      · have kc_2 := ((lg_cmp_le _ _).mp c_2)
        have h := h.1 kc_2
        refine lv_iconst (v := 0) hx hb d_Md_order_80 (by decide) ?_
        exact W.iret (v := (0 : Int32)) hx hb hr (fun t ht hW => ⟨(0 : Int32),  rfl, h, ht⟩) t_nil d_Md_order_81
      · have kc_2 := (fun q => c_2 ((lg_cmp_le _ _).mpr q))
        have h := h.2 kc_2
        refine lv_iconst (v := 1) hx hb d_Md_order_76 (by decide) ?_
        refine lv_goto (tgt := 81) hx hb d_Md_order_77 (by decide) ?_
        exact W.iret (v := (1 : Int32)) hx hb hr (fun t ht hW => ⟨(1 : Int32),  rfl, h, ht⟩) t_nil d_Md_order_81
    · have kc_1 := (fun q => c_1 ((lg_cmp_ge _ _).mpr q))
      have h := h.2 kc_1
      refine lv_iconst (v := -1) hx hb d_Md_order_64 (by decide) ?_
      refine lv_goto (tgt := 81) hx hb d_Md_order_65 (by decide) ?_
      exact W.iret (v := (-1 : Int32)) hx hb hr (fun t ht hW => ⟨(-1 : Int32),  rfl, h, ht⟩) t_nil d_Md_order_81
  have jn_34 : ∀ (j34_5 : Int64) (s34_0 : Int64), wj_Md_order_34 a0 a1 a2 P j34_5 s34_0 → ∀ ls : Array Slot, lv_has ls 11 [(2, .long a1), (5, .long j34_5)] → W p l e (headSpec (zz_ws y_Md_order b_Md_order 11 (some .int)) rm_Md_order).room s m ([.long a0, .long a1, .int a2] : List Value).toArray below meth c s.heap [] 0 0 (MQ below (vp_Si P) ([.long a0, .long a1, .int a2] : List Value).toArray s 0 0 (fun _ => False)) (F0 m 34 ls [.long s34_0]) := by
    intro j34_5 s34_0 h ls hl
    unfold wj_Md_order_34 at h
    refine lv_lstore (lv' := [(7, .long s34_0), (2, .long a1), (5, .long j34_5)]) hx hb d_Md_order_34 hl (by decide) rfl (fun ls hl => ?_)
    refine lv_lload_n hx hb d_Md_order_36 rfl (lv_at hl 1 rfl) ?_
    refine lv_lload hx hb d_Md_order_37 (lv_at hl 2 rfl) ?_
    refine lv_land hx hb d_Md_order_39 ?_
    refine lv_lload_n hx hb d_Md_order_40 rfl (lv_at hl 1 rfl) ?_
    refine W.lcmp hx hb d_Md_order_41 ?_
    refine lv_if_eq (tgt := 53) hx hb d_Md_order_42 (by decide) (fun c_3 => ?_) (fun c_3 => ?_)
    · have kc_3 := ((lg_cmp_eq _ _).mp c_3)
      have h := h.1 kc_3
      refine lv_lload_n hx hb d_Md_order_53 rfl (lv_at hl 1 rfl) ?_
      exact jn_54 s34_0 a1 h ls (lv_sub hl [0] rfl)
    · have kc_3 := (fun q => c_3 ((lg_cmp_eq _ _).mpr q))
      have h := h.2 kc_3
      refine lv_lload_n hx hb d_Md_order_45 rfl (lv_at hl 1 rfl) ?_
      refine lv_lload hx hb d_Md_order_46 (lv_at hl 2 rfl) ?_
      refine lv_land hx hb d_Md_order_48 ?_
      refine lv_lneg hx hb d_Md_order_49 ?_
      refine lv_goto (tgt := 54) hx hb d_Md_order_50 (by decide) ?_
      exact jn_54 s34_0 (-(a1 &&& j34_5)) h ls (lv_sub hl [0] rfl)
  have jn_14 : ∀ (s14_0 : Int64), wj_Md_order_14 a0 a1 a2 P s14_0 → ∀ ls : Array Slot, lv_has ls 11 [(0, .long a0), (2, .long a1)] → W p l e (headSpec (zz_ws y_Md_order b_Md_order 11 (some .int)) rm_Md_order).room s m ([.long a0, .long a1, .int a2] : List Value).toArray below meth c s.heap [] 0 0 (MQ below (vp_Si P) ([.long a0, .long a1, .int a2] : List Value).toArray s 0 0 (fun _ => False)) (F0 m 14 ls [.long s14_0]) := by
    intro s14_0 h ls hl
    unfold wj_Md_order_14 at h
    refine lv_lstore (lv' := [(5, .long s14_0), (0, .long a0), (2, .long a1)]) hx hb d_Md_order_14 hl (by decide) rfl (fun ls hl => ?_)
    refine lv_lload_n hx hb d_Md_order_16 rfl (lv_at hl 1 rfl) ?_
    refine lv_lload hx hb d_Md_order_17 (lv_at hl 0 rfl) ?_
    refine lv_land hx hb d_Md_order_19 ?_
    refine lv_lload_n hx hb d_Md_order_20 rfl (lv_at hl 1 rfl) ?_
    refine W.lcmp hx hb d_Md_order_21 ?_
    refine lv_if_eq (tgt := 33) hx hb d_Md_order_22 (by decide) (fun c_4 => ?_) (fun c_4 => ?_)
    · have kc_4 := ((lg_cmp_eq _ _).mp c_4)
      have h := h.1 kc_4
      refine lv_lload_n hx hb d_Md_order_33 rfl (lv_at hl 1 rfl) ?_
      exact jn_34 s14_0 a0 h ls (lv_sub hl [2, 0] rfl)
    · have kc_4 := (fun q => c_4 ((lg_cmp_eq _ _).mpr q))
      have h := h.2 kc_4
      refine lv_lload_n hx hb d_Md_order_25 rfl (lv_at hl 1 rfl) ?_
      refine lv_lload hx hb d_Md_order_26 (lv_at hl 0 rfl) ?_
      refine lv_land hx hb d_Md_order_28 ?_
      refine lv_lneg hx hb d_Md_order_29 ?_
      refine lv_goto (tgt := 34) hx hb d_Md_order_30 (by decide) ?_
      exact jn_34 s14_0 (-(a0 &&& s14_0)) h ls (lv_sub hl [2, 0] rfl)
  refine lv_iload hx hb d_Md_order_0 (lv_at hl 2 rfl) ?_
  refine lv_if_eq (tgt := 11) hx hb d_Md_order_2 (by decide) (fun c_5 => ?_) (fun c_5 => ?_)
  · skip
    have h := h.1 c_5
    refine lv_ldc2 (v := 2147483647) hx hb hown (hT _ n_Md_295) d_Md_order_11 ?_
    exact jn_14 (2147483647 : Int64) h ls (lv_sub hl [0, 1] rfl)
  · skip
    have h := h.2 c_5
    refine lv_ldc2 (v := 9223372036854775807) hx hb hown (hT _ n_Md_293) d_Md_order_5 ?_
    refine lv_goto (tgt := 14) hx hb d_Md_order_8 (by decide) ?_
    exact jn_14 (9223372036854775807 : Int64) h ls (lv_sub hl [0, 1] rfl)
def wj_Md_compares_118 (ms : Int32) (a0 : Int32) (a1 : Int64) (a2 : Int64) (a3 : Int32) (P : ((Nat → Int32) × Int64 × Int64 × (Nat → Int32) × (Nat → Int32) × (Nat → Int32)) → Prop) (s118_0 : Int32) (z118dd : Nat → Int32) (z118Lwhole : Int64) (z118Lwhole2 : Int64) (z118bm : Nat → Int32) (z118rr : Nat → Int32) (z118kt : Nat → Int32) : Prop := ∀ x_1 : Int32, x_1 = (zz_ushr (z118dd 9) (8 : Int32)) → ∀ x_2 : Int32, x_2 = (x_1 &&& (7 : Int32)) → ((s118_0 = (0 : Int32) → vp_in (66 : Int32) 67 ∧ ∀ x_4 : Int32, x_4 = (z118rr (66 : Int32).toNatClampNeg) → ∀ x_5 : Int32, x_5 = ((zz_shl (1 : Int32) x_2) ^^^ (-1 : Int32)) → vp_in (66 : Int32) 67 ∧ P (z118dd, z118Lwhole, z118Lwhole2, z118bm, (upd z118rr (66 : Int32).toNatClampNeg (x_4 &&& x_5)), z118kt)) ∧ (¬ s118_0 = (0 : Int32) → vp_in (66 : Int32) 67 ∧ ∀ x_6 : Int32, x_6 = (z118rr (66 : Int32).toNatClampNeg) → ∀ x_7 : Int32, x_7 = (x_6 ||| (zz_shl (1 : Int32) x_2)) → vp_in (66 : Int32) 67 ∧ P (z118dd, z118Lwhole, z118Lwhole2, z118bm, (upd z118rr (66 : Int32).toNatClampNeg x_7), z118kt)))
def wj_Md_compares_117 (ms : Int32) (a0 : Int32) (a1 : Int64) (a2 : Int64) (a3 : Int32) (P : ((Nat → Int32) × Int64 × Int64 × (Nat → Int32) × (Nat → Int32) × (Nat → Int32)) → Prop) (z117dd : Nat → Int32) (z117Lwhole : Int64) (z117Lwhole2 : Int64) (z117bm : Nat → Int32) (z117rr : Nat → Int32) (z117kt : Nat → Int32) : Prop := wj_Md_compares_118 ms a0 a1 a2 a3 P (0 : Int32) z117dd z117Lwhole z117Lwhole2 z117bm z117rr z117kt
def wj_Md_compares_59 (ms : Int32) (a0 : Int32) (a1 : Int64) (a2 : Int64) (a3 : Int32) (P : ((Nat → Int32) × Int64 × Int64 × (Nat → Int32) × (Nat → Int32) × (Nat → Int32)) → Prop) (j59_7 : Int32) (s59_0 : Int32) (z59dd : Nat → Int32) (z59Lwhole : Int64) (z59Lwhole2 : Int64) (z59bm : Nat → Int32) (z59rr : Nat → Int32) (z59kt : Nat → Int32) : Prop := ((j59_7 = (0 : Int32) → ((s59_0 = (0 : Int32) → (((a0 &&& (2 : Int32)) = (2 : Int32) → wj_Md_compares_118 ms a0 a1 a2 a3 P (1 : Int32) z59dd z59Lwhole z59Lwhole2 z59bm z59rr z59kt) ∧ (¬ (a0 &&& (2 : Int32)) = (2 : Int32) → wj_Md_compares_118 ms a0 a1 a2 a3 P (0 : Int32) z59dd z59Lwhole z59Lwhole2 z59bm z59rr z59kt))) ∧ (¬ s59_0 = (0 : Int32) → (((0 : Int32) ≤ s59_0 → wj_Md_compares_117 ms a0 a1 a2 a3 P z59dd z59Lwhole z59Lwhole2 z59bm z59rr z59kt) ∧ (¬ (0 : Int32) ≤ s59_0 → (((a0 &&& (4 : Int32)) = (4 : Int32) → wj_Md_compares_118 ms a0 a1 a2 a3 P (1 : Int32) z59dd z59Lwhole z59Lwhole2 z59bm z59rr z59kt) ∧ (¬ (a0 &&& (4 : Int32)) = (4 : Int32) → wj_Md_compares_117 ms a0 a1 a2 a3 P z59dd z59Lwhole z59Lwhole2 z59bm z59rr z59kt))))))) ∧ (¬ j59_7 = (0 : Int32) → (((a0 &&& (1 : Int32)) = (1 : Int32) → wj_Md_compares_118 ms a0 a1 a2 a3 P (1 : Int32) z59dd z59Lwhole z59Lwhole2 z59bm z59rr z59kt) ∧ (¬ (a0 &&& (1 : Int32)) = (1 : Int32) → wj_Md_compares_118 ms a0 a1 a2 a3 P (0 : Int32) z59dd z59Lwhole z59Lwhole2 z59bm z59rr z59kt))))
def wj_Md_compares_40 (ms : Int32) (a0 : Int32) (a1 : Int64) (a2 : Int64) (a3 : Int32) (P : ((Nat → Int32) × Int64 × Int64 × (Nat → Int32) × (Nat → Int32) × (Nat → Int32)) → Prop) (s40_0 : Int32) (z40dd : Nat → Int32) (z40Lwhole : Int64) (z40Lwhole2 : Int64) (z40bm : Nat → Int32) (z40rr : Nat → Int32) (z40kt : Nat → Int32) : Prop := ((s40_0 = (0 : Int32) → wp_Md_order a1 a2 a3 (fun r_15 => wj_Md_compares_59 ms a0 a1 a2 a3 P s40_0 r_15 z40dd z40Lwhole z40Lwhole2 z40bm z40rr z40kt)) ∧ (¬ s40_0 = (0 : Int32) → wj_Md_compares_59 ms a0 a1 a2 a3 P s40_0 (0 : Int32) z40dd z40Lwhole z40Lwhole2 z40bm z40rr z40kt))
def wj_Md_compares_35 (ms : Int32) (a0 : Int32) (a1 : Int64) (a2 : Int64) (a3 : Int32) (P : ((Nat → Int32) × Int64 × Int64 × (Nat → Int32) × (Nat → Int32) × (Nat → Int32)) → Prop) (z35dd : Nat → Int32) (z35Lwhole : Int64) (z35Lwhole2 : Int64) (z35bm : Nat → Int32) (z35rr : Nat → Int32) (z35kt : Nat → Int32) : Prop := wj_Md_compares_40 ms a0 a1 a2 a3 P (1 : Int32) z35dd z35Lwhole z35Lwhole2 z35bm z35rr z35kt
def wp_Md_compares (ms : Int32) (dd : Nat → Int32) (Lwhole : Int64) (Lwhole2 : Int64) (bm : Nat → Int32) (rr : Nat → Int32) (kt : Nat → Int32) (a0 : Int32) (a1 : Int64) (a2 : Int64) (a3 : Int32) (P : ((Nat → Int32) × Int64 × Int64 × (Nat → Int32) × (Nat → Int32) × (Nat → Int32)) → Prop) : Prop := wp_Md_take ms dd Lwhole Lwhole2 bm rr kt a1 a3 (fun u_16 => wp_Md_aside ms u_16.1 u_16.2.1 u_16.2.2.1 u_16.2.2.2.1 u_16.2.2.2.2.1 u_16.2.2.2.2.2 (fun u_18 => wp_Md_take ms u_18.1 u_18.2.1 u_18.2.2.1 u_18.2.2.2.1 u_18.2.2.2.2.1 u_18.2.2.2.2.2 a2 a3 (fun u_20 => (((u_20.1 14) = (3 : Int32) → wj_Md_compares_35 ms a0 a1 a2 a3 P u_20.1 u_20.2.1 u_20.2.2.1 u_20.2.2.2.1 u_20.2.2.2.2.1 u_20.2.2.2.2.2) ∧ (¬ (u_20.1 14) = (3 : Int32) → (((u_20.1 16) = (3 : Int32) → wj_Md_compares_35 ms a0 a1 a2 a3 P u_20.1 u_20.2.1 u_20.2.2.1 u_20.2.2.2.1 u_20.2.2.2.2.1 u_20.2.2.2.2.2) ∧ (¬ (u_20.1 16) = (3 : Int32) → wj_Md_compares_40 ms a0 a1 a2 a3 P (0 : Int32) u_20.1 u_20.2.1 u_20.2.2.1 u_20.2.2.2.1 u_20.2.2.2.2.1 u_20.2.2.2.2.2)))))))
abbrev rm_Md_compares : Room := { frames := 2, cells := 0, slots := 0, locals := 47 }
set_option maxHeartbeats 4000000 in
set_option maxRecDepth 100000 in
theorem c_Md_compares (l : Launch) (D : va_G) (cI : ClassId) (cB : ClassId) (qd : Nat) (qmemory : Nat) (qr : Nat) (qcounts : Nat) (ms : Int32) (dd : Nat → Int32) (Lwhole : Int64) (Lwhole2 : Int64) (bm : Nat → Int32) (rr : Nat → Int32) (kt : Nat → Int32) (a0 : Int32) (a1 : Int64) (a2 : Int64) (a3 : Int32) (P : ((Nat → Int32) × Int64 × Int64 × (Nat → Int32) × (Nat → Int32) × (Nat → Int32)) → Prop) (h : wp_Md_compares ms dd Lwhole Lwhole2 bm rr kt a0 a1 a2 a3 P) (sz : Nat) : Met l y_Md_compares (zz_ws y_Md_compares b_Md_compares 11 none) rm_Md_compares (va_Pc [.ref qd, .int a0, .long a1, .long a2, .int a3] (zz_pw D [(cI, .int), (cB, .byte)] (wD qd qmemory qr qcounts cI cB ms dd Lwhole Lwhole2 bm rr kt) sz)) (va_Qv P (zz_qw D (fun u => wD qd qmemory qr qcounts cI cB ms u.1 u.2.1 u.2.2.1 u.2.2.2.1 u.2.2.2.2.1 u.2.2.2.2.2) (va_A (wD qd qmemory qr qcounts cI cB ms dd Lwhole Lwhole2 bm rr kt) sz)) (va_A (wD qd qmemory qr qcounts cI cB ms dd Lwhole Lwhole2 bm rr kt) sz)) 0 0 (va_A (wD qd qmemory qr qcounts cI cB ms dd Lwhole Lwhole2 bm rr kt) sz) := by
  refine Met.ofW (cc := b_Md_compares) (maxL := 11) (ret := none) (by decide) rfl ?_
  intro p e s m args below meth c s₁ B hml hv
  obtain ⟨rfl, hsz, hP, hK, hD0⟩ := hv
  have hx := B.exec
  have hb := B.bytes
  have hr := B.returns
  have hts := atoms_spec (ws := (zz_ws y_Md_compares b_Md_compares 11 none)) B.pre
  have hown : s.vm.findClass R_Md = some m.cls := findClass_of_methodNamed B.named
  have hlocks := B.notSynchronized
  have hT := zz_hts hts
  have X : CallFix p m c b_Md_compares 11 s ([.ref qd, .int a0, .long a1, .long a2, .int a3] : List Value).toArray (zz_ws y_Md_compares b_Md_compares 11 none) R_Md := ⟨hx, hb, hml, hown, hts⟩
  have hf0 : 0 + 0 ≤ (headSpec (zz_ws y_Md_compares b_Md_compares 11 none) rm_Md_compares).room.cells ∧ 0 + 0 ≤ (headSpec (zz_ws y_Md_compares b_Md_compares 11 none) rm_Md_compares).room.slots := ⟨Nat.le_of_ble_eq_true rfl, Nat.le_of_ble_eq_true rfl⟩
  subst hsz
  have hD := hD0.self (sz := s.heap.size)
  generalize hAe : va_A (wD qd qmemory qr qcounts cI cB ms dd Lwhole Lwhole2 bm rr kt) s.heap.size = A at hD ⊢
  have hA : ∀ q : Nat, s.heap.size ≤ q → A q := fun q h => by rw [← hAe]; exact Or.inr h
  have hS : va_S A s.heap s.heap [] := va_S.rf
  have hl := lv_entry ([.ref qd, .int a0, .long a1, .long a2, .int a3]) (n := 11) (Nat.le_of_ble_eq_true rfl)
  rw [lg_entry_eq]
  generalize (lg_sl ([.ref qd, .int a0, .long a1, .long a2, .int a3]) ++ List.replicate (11 - (lg_sl ([.ref qd, .int a0, .long a1, .long a2, .int a3])).length) Slot.unset).toArray = ls at hl ⊢
  have hl : lv_has ls 11 [(0, .ref qd), (1, .int a0), (2, .long a1), (4, .long a2), (6, .int a3)] := hl
  have jn_118 : ∀ (s118_0 : Int32) (z118dd : Nat → Int32) (z118Lwhole : Int64) (z118Lwhole2 : Int64) (z118bm : Nat → Int32) (z118rr : Nat → Int32) (z118kt : Nat → Int32), wj_Md_compares_118 ms a0 a1 a2 a3 P s118_0 z118dd z118Lwhole z118Lwhole2 z118bm z118rr z118kt → ∀ (H : Heap) (locs : List Loc), va_P D vwCl (wD qd qmemory qr qcounts cI cB ms z118dd z118Lwhole z118Lwhole2 z118bm z118rr z118kt) H → va_D A (wD qd qmemory qr qcounts cI cB ms z118dd z118Lwhole z118Lwhole2 z118bm z118rr z118kt) → va_S A s.heap H locs → ∀ ls : Array Slot, lv_has ls 11 [(0, .ref qd)] → W p l e (headSpec (zz_ws y_Md_compares b_Md_compares 11 none) rm_Md_compares).room s m ([.ref qd, .int a0, .long a1, .long a2, .int a3] : List Value).toArray below meth c H locs 0 0 (MQ below (va_Qv P (zz_qw D (fun u => wD qd qmemory qr qcounts cI cB ms u.1 u.2.1 u.2.2.1 u.2.2.2.1 u.2.2.2.2.1 u.2.2.2.2.2) A) A) ([.ref qd, .int a0, .long a1, .long a2, .int a3] : List Value).toArray s 0 0 A) (F0 m 118 ls [.int s118_0]) := by
    intro s118_0 z118dd z118Lwhole z118Lwhole2 z118bm z118rr z118kt h H locs hP hD hS ls hl
    unfold wj_Md_compares_118 at h
    refine lv_istore (lv' := [(9, .int s118_0), (0, .ref qd)]) hx hb d_Md_compares_118 hl (by decide) rfl (fun ls hl => ?_)
    refine lv_aload_n hx hb d_Md_compares_120 rfl (lv_at hl 1 rfl) ?_
    refine g_Md_82 (v := .int (z118dd 9)) hx hb hT hown hK hP 0 rfl rfl d_Md_compares_121 ?_
    refine lv_bipush (v := 8) hx hb d_Md_compares_124 (by decide) ?_
    refine zz_iushr hx hb d_Md_compares_126 ?_
    refine lv_topi (fun x_1 ex_1 => ?_)
    have h := h x_1 ex_1
    refine lv_bipush (v := 7) hx hb d_Md_compares_127 (by decide) ?_
    refine lv_iand hx hb d_Md_compares_129 ?_
    refine lv_topi (fun x_2 ex_2 => ?_)
    have h := h x_2 ex_2
    refine lv_istore (lv' := [(10, .int x_2), (9, .int s118_0), (0, .ref qd)]) hx hb d_Md_compares_130 hl (by decide) rfl (fun ls hl => ?_)
    refine lv_aload_n hx hb d_Md_compares_132 rfl (lv_at hl 2 rfl) ?_
    refine g_Md_14 (v := .ref qr) hx hb hT hown hK hP 0 rfl rfl d_Md_compares_133 ?_
    refine lv_bipush (v := 66) hx hb d_Md_compares_136 (by decide) ?_
    refine lv_iload hx hb d_Md_compares_138 (lv_at hl 1 rfl) ?_
    refine lv_if_eq (tgt := 158) hx hb d_Md_compares_140 (by decide) (fun c_3 => ?_) (fun c_3 => ?_)
    · skip
      have h := h.1 c_3
      refine lv_aload_n hx hb d_Md_compares_158 rfl (lv_at hl 2 rfl) ?_
      refine g_Md_14 (v := .ref qr) hx hb hT hown hK hP 0 rfl rfl d_Md_compares_159 ?_
      refine lv_bipush (v := 66) hx hb d_Md_compares_162 (by decide) ?_
      refine va_iald (f := z118rr) hx hb hK hP 2 0 rfl rfl h.1 d_Md_compares_164 ?_
      have h := h.2
      refine lv_topi (fun x_4 ex_4 => ?_)
      have h := h x_4 ex_4
      refine lv_iconst (v := 1) hx hb d_Md_compares_165 (by decide) ?_
      refine lv_iload hx hb d_Md_compares_166 (lv_at hl 0 rfl) ?_
      refine zz_ishl hx hb d_Md_compares_168 ?_
      refine lv_iconst (v := -1) hx hb d_Md_compares_169 (by decide) ?_
      refine lv_ixor hx hb d_Md_compares_170 ?_
      refine lv_topi (fun x_5 ex_5 => ?_)
      have h := h x_5 ex_5
      refine lv_iand hx hb d_Md_compares_171 ?_
      refine va_iast (f := z118rr) hx hb hK hP hD hS 2 0 rfl rfl h.1 d_Md_compares_172 (fun H locs (hP : va_P D vwCl (wD qd qmemory qr qcounts cI cB ms z118dd z118Lwhole z118Lwhole2 z118bm (upd z118rr (66 : Int32).toNatClampNeg (x_4 &&& x_5)) z118kt) H) (hD : va_D A (wD qd qmemory qr qcounts cI cB ms z118dd z118Lwhole z118Lwhole2 z118bm (upd z118rr (66 : Int32).toNatClampNeg (x_4 &&& x_5)) z118kt)) hS => ?_)
      have h := h.2
      exact W.vret hx hb hr (fun t ht hW => ⟨⟨(z118dd, z118Lwhole, z118Lwhole2, z118bm, (upd z118rr (66 : Int32).toNatClampNeg (x_4 &&& x_5)), z118kt), rfl, h, by rw [ht]; exact hP, hD⟩, hS.F ht⟩) hS.2.2 d_Md_compares_173
    · skip
      have h := h.2 c_3
      refine lv_aload_n hx hb d_Md_compares_143 rfl (lv_at hl 2 rfl) ?_
      refine g_Md_14 (v := .ref qr) hx hb hT hown hK hP 0 rfl rfl d_Md_compares_144 ?_
      refine lv_bipush (v := 66) hx hb d_Md_compares_147 (by decide) ?_
      refine va_iald (f := z118rr) hx hb hK hP 2 0 rfl rfl h.1 d_Md_compares_149 ?_
      have h := h.2
      refine lv_topi (fun x_6 ex_6 => ?_)
      have h := h x_6 ex_6
      refine lv_iconst (v := 1) hx hb d_Md_compares_150 (by decide) ?_
      refine lv_iload hx hb d_Md_compares_151 (lv_at hl 0 rfl) ?_
      refine zz_ishl hx hb d_Md_compares_153 ?_
      refine lv_ior hx hb d_Md_compares_154 ?_
      refine lv_topi (fun x_7 ex_7 => ?_)
      have h := h x_7 ex_7
      refine lv_goto (tgt := 172) hx hb d_Md_compares_155 (by decide) ?_
      refine va_iast (f := z118rr) hx hb hK hP hD hS 2 0 rfl rfl h.1 d_Md_compares_172 (fun H locs (hP : va_P D vwCl (wD qd qmemory qr qcounts cI cB ms z118dd z118Lwhole z118Lwhole2 z118bm (upd z118rr (66 : Int32).toNatClampNeg x_7) z118kt) H) (hD : va_D A (wD qd qmemory qr qcounts cI cB ms z118dd z118Lwhole z118Lwhole2 z118bm (upd z118rr (66 : Int32).toNatClampNeg x_7) z118kt)) hS => ?_)
      have h := h.2
      exact W.vret hx hb hr (fun t ht hW => ⟨⟨(z118dd, z118Lwhole, z118Lwhole2, z118bm, (upd z118rr (66 : Int32).toNatClampNeg x_7), z118kt), rfl, h, by rw [ht]; exact hP, hD⟩, hS.F ht⟩) hS.2.2 d_Md_compares_173
  have jn_117 : ∀ (z117dd : Nat → Int32) (z117Lwhole : Int64) (z117Lwhole2 : Int64) (z117bm : Nat → Int32) (z117rr : Nat → Int32) (z117kt : Nat → Int32), wj_Md_compares_117 ms a0 a1 a2 a3 P z117dd z117Lwhole z117Lwhole2 z117bm z117rr z117kt → ∀ (H : Heap) (locs : List Loc), va_P D vwCl (wD qd qmemory qr qcounts cI cB ms z117dd z117Lwhole z117Lwhole2 z117bm z117rr z117kt) H → va_D A (wD qd qmemory qr qcounts cI cB ms z117dd z117Lwhole z117Lwhole2 z117bm z117rr z117kt) → va_S A s.heap H locs → ∀ ls : Array Slot, lv_has ls 11 [(0, .ref qd)] → W p l e (headSpec (zz_ws y_Md_compares b_Md_compares 11 none) rm_Md_compares).room s m ([.ref qd, .int a0, .long a1, .long a2, .int a3] : List Value).toArray below meth c H locs 0 0 (MQ below (va_Qv P (zz_qw D (fun u => wD qd qmemory qr qcounts cI cB ms u.1 u.2.1 u.2.2.1 u.2.2.2.1 u.2.2.2.2.1 u.2.2.2.2.2) A) A) ([.ref qd, .int a0, .long a1, .long a2, .int a3] : List Value).toArray s 0 0 A) (F0 m 117 ls []) := by
    intro z117dd z117Lwhole z117Lwhole2 z117bm z117rr z117kt h H locs hP hD hS ls hl
    unfold wj_Md_compares_117 at h
    refine lv_iconst (v := 0) hx hb d_Md_compares_117 (by decide) ?_
    exact jn_118 (0 : Int32) z117dd z117Lwhole z117Lwhole2 z117bm z117rr z117kt h _ _ hP hD hS ls (lv_sub hl [0] rfl)
  have jn_59 : ∀ (j59_7 : Int32) (s59_0 : Int32) (z59dd : Nat → Int32) (z59Lwhole : Int64) (z59Lwhole2 : Int64) (z59bm : Nat → Int32) (z59rr : Nat → Int32) (z59kt : Nat → Int32), wj_Md_compares_59 ms a0 a1 a2 a3 P j59_7 s59_0 z59dd z59Lwhole z59Lwhole2 z59bm z59rr z59kt → ∀ (H : Heap) (locs : List Loc), va_P D vwCl (wD qd qmemory qr qcounts cI cB ms z59dd z59Lwhole z59Lwhole2 z59bm z59rr z59kt) H → va_D A (wD qd qmemory qr qcounts cI cB ms z59dd z59Lwhole z59Lwhole2 z59bm z59rr z59kt) → va_S A s.heap H locs → ∀ ls : Array Slot, lv_has ls 11 [(0, .ref qd), (1, .int a0), (7, .int j59_7)] → W p l e (headSpec (zz_ws y_Md_compares b_Md_compares 11 none) rm_Md_compares).room s m ([.ref qd, .int a0, .long a1, .long a2, .int a3] : List Value).toArray below meth c H locs 0 0 (MQ below (va_Qv P (zz_qw D (fun u => wD qd qmemory qr qcounts cI cB ms u.1 u.2.1 u.2.2.1 u.2.2.2.1 u.2.2.2.2.1 u.2.2.2.2.2) A) A) ([.ref qd, .int a0, .long a1, .long a2, .int a3] : List Value).toArray s 0 0 A) (F0 m 59 ls [.int s59_0]) := by
    intro j59_7 s59_0 z59dd z59Lwhole z59Lwhole2 z59bm z59rr z59kt h H locs hP hD hS ls hl
    unfold wj_Md_compares_59 at h
    refine lv_istore (lv' := [(8, .int s59_0), (0, .ref qd), (1, .int a0), (7, .int j59_7)]) hx hb d_Md_compares_59 hl (by decide) rfl (fun ls hl => ?_)
    refine lv_iload hx hb d_Md_compares_61 (lv_at hl 3 rfl) ?_
    refine lv_if_eq (tgt := 81) hx hb d_Md_compares_63 (by decide) (fun c_8 => ?_) (fun c_8 => ?_)
    · skip
      have h := h.1 c_8
      refine lv_iload hx hb d_Md_compares_81 (lv_at hl 0 rfl) ?_
      refine lv_if_ne (tgt := 101) hx hb d_Md_compares_83 (by decide) (fun c_9 => ?_) (fun c_9 => ?_)
      · skip
        have h := h.2 c_9
        refine lv_iload hx hb d_Md_compares_101 (lv_at hl 0 rfl) ?_
        refine lv_if_ge (tgt := 117) hx hb d_Md_compares_103 (by decide) (fun c_10 => ?_) (fun c_10 => ?_)
        · skip
          have h := h.1 c_10
          exact jn_117 z59dd z59Lwhole z59Lwhole2 z59bm z59rr z59kt h _ _ hP hD hS ls (lv_sub hl [1] rfl)
        · skip
          have h := h.2 c_10
          refine lv_iload_n hx hb d_Md_compares_106 rfl (lv_at hl 2 rfl) ?_
          refine lv_iconst (v := 4) hx hb d_Md_compares_107 (by decide) ?_
          refine lv_iand hx hb d_Md_compares_108 ?_
          refine lv_iconst (v := 4) hx hb d_Md_compares_109 (by decide) ?_
          refine lv_icmp_ne (tgt := 117) hx hb d_Md_compares_110 (by decide) (fun c_11 => ?_) (fun c_11 => ?_)
          · skip
            have h := h.2 c_11
            exact jn_117 z59dd z59Lwhole z59Lwhole2 z59bm z59rr z59kt h _ _ hP hD hS ls (lv_sub hl [1] rfl)
          · skip
            have h := h.1 c_11
            refine lv_iconst (v := 1) hx hb d_Md_compares_113 (by decide) ?_
            refine lv_goto (tgt := 118) hx hb d_Md_compares_114 (by decide) ?_
            exact jn_118 (1 : Int32) z59dd z59Lwhole z59Lwhole2 z59bm z59rr z59kt h _ _ hP hD hS ls (lv_sub hl [1] rfl)
      · skip
        have h := h.1 c_9
        refine lv_iload_n hx hb d_Md_compares_86 rfl (lv_at hl 2 rfl) ?_
        refine lv_iconst (v := 2) hx hb d_Md_compares_87 (by decide) ?_
        refine lv_iand hx hb d_Md_compares_88 ?_
        refine lv_iconst (v := 2) hx hb d_Md_compares_89 (by decide) ?_
        refine lv_icmp_ne (tgt := 97) hx hb d_Md_compares_90 (by decide) (fun c_12 => ?_) (fun c_12 => ?_)
        · skip
          have h := h.2 c_12
          refine lv_iconst (v := 0) hx hb d_Md_compares_97 (by decide) ?_
          refine lv_goto (tgt := 118) hx hb d_Md_compares_98 (by decide) ?_
          exact jn_118 (0 : Int32) z59dd z59Lwhole z59Lwhole2 z59bm z59rr z59kt h _ _ hP hD hS ls (lv_sub hl [1] rfl)
        · skip
          have h := h.1 c_12
          refine lv_iconst (v := 1) hx hb d_Md_compares_93 (by decide) ?_
          refine lv_goto (tgt := 118) hx hb d_Md_compares_94 (by decide) ?_
          exact jn_118 (1 : Int32) z59dd z59Lwhole z59Lwhole2 z59bm z59rr z59kt h _ _ hP hD hS ls (lv_sub hl [1] rfl)
    · skip
      have h := h.2 c_8
      refine lv_iload_n hx hb d_Md_compares_66 rfl (lv_at hl 2 rfl) ?_
      refine lv_iconst (v := 1) hx hb d_Md_compares_67 (by decide) ?_
      refine lv_iand hx hb d_Md_compares_68 ?_
      refine lv_iconst (v := 1) hx hb d_Md_compares_69 (by decide) ?_
      refine lv_icmp_ne (tgt := 77) hx hb d_Md_compares_70 (by decide) (fun c_13 => ?_) (fun c_13 => ?_)
      · skip
        have h := h.2 c_13
        refine lv_iconst (v := 0) hx hb d_Md_compares_77 (by decide) ?_
        refine lv_goto (tgt := 118) hx hb d_Md_compares_78 (by decide) ?_
        exact jn_118 (0 : Int32) z59dd z59Lwhole z59Lwhole2 z59bm z59rr z59kt h _ _ hP hD hS ls (lv_sub hl [1] rfl)
      · skip
        have h := h.1 c_13
        refine lv_iconst (v := 1) hx hb d_Md_compares_73 (by decide) ?_
        refine lv_goto (tgt := 118) hx hb d_Md_compares_74 (by decide) ?_
        exact jn_118 (1 : Int32) z59dd z59Lwhole z59Lwhole2 z59bm z59rr z59kt h _ _ hP hD hS ls (lv_sub hl [1] rfl)
  have jn_40 : ∀ (s40_0 : Int32) (z40dd : Nat → Int32) (z40Lwhole : Int64) (z40Lwhole2 : Int64) (z40bm : Nat → Int32) (z40rr : Nat → Int32) (z40kt : Nat → Int32), wj_Md_compares_40 ms a0 a1 a2 a3 P s40_0 z40dd z40Lwhole z40Lwhole2 z40bm z40rr z40kt → ∀ (H : Heap) (locs : List Loc), va_P D vwCl (wD qd qmemory qr qcounts cI cB ms z40dd z40Lwhole z40Lwhole2 z40bm z40rr z40kt) H → va_D A (wD qd qmemory qr qcounts cI cB ms z40dd z40Lwhole z40Lwhole2 z40bm z40rr z40kt) → va_S A s.heap H locs → ∀ ls : Array Slot, lv_has ls 11 [(0, .ref qd), (1, .int a0), (2, .long a1), (4, .long a2), (6, .int a3)] → W p l e (headSpec (zz_ws y_Md_compares b_Md_compares 11 none) rm_Md_compares).room s m ([.ref qd, .int a0, .long a1, .long a2, .int a3] : List Value).toArray below meth c H locs 0 0 (MQ below (va_Qv P (zz_qw D (fun u => wD qd qmemory qr qcounts cI cB ms u.1 u.2.1 u.2.2.1 u.2.2.2.1 u.2.2.2.2.1 u.2.2.2.2.2) A) A) ([.ref qd, .int a0, .long a1, .long a2, .int a3] : List Value).toArray s 0 0 A) (F0 m 40 ls [.int s40_0]) := by
    intro s40_0 z40dd z40Lwhole z40Lwhole2 z40bm z40rr z40kt h H locs hP hD hS ls hl
    unfold wj_Md_compares_40 at h
    refine lv_istore (lv' := [(7, .int s40_0), (0, .ref qd), (1, .int a0), (2, .long a1), (4, .long a2), (6, .int a3)]) hx hb d_Md_compares_40 hl (by decide) rfl (fun ls hl => ?_)
    refine lv_iload hx hb d_Md_compares_42 (lv_at hl 0 rfl) ?_
    refine lv_if_eq (tgt := 51) hx hb d_Md_compares_44 (by decide) (fun c_14 => ?_) (fun c_14 => ?_)
    · skip
      have h := h.1 c_14
      refine lv_lload_n hx hb d_Md_compares_51 rfl (lv_at hl 3 rfl) ?_
      refine lv_lload hx hb d_Md_compares_52 (lv_at hl 4 rfl) ?_
      refine lv_iload hx hb d_Md_compares_54 (lv_at hl 5 rfl) ?_
      refine zz_Si (As := [.long a1, .long a2, .int a3]) (rest := []) X (c_Md_order l a1 a2 a3 _ h) ⟨rfl, rfl⟩ m_Md_order k_Md_289 ⟨Nat.le_of_ble_eq_true rfl, Nat.le_of_ble_eq_true rfl⟩ rfl hl.1 rfl (Nat.le_of_ble_eq_true rfl) d_Md_compares_56 hf0 (fun r_15 h => ?_)
      exact jn_59 s40_0 r_15 z40dd z40Lwhole z40Lwhole2 z40bm z40rr z40kt h _ _ hP hD hS ls (lv_sub hl [1, 2, 0] rfl)
    · skip
      have h := h.2 c_14
      refine lv_iconst (v := 0) hx hb d_Md_compares_47 (by decide) ?_
      refine lv_goto (tgt := 59) hx hb d_Md_compares_48 (by decide) ?_
      exact jn_59 s40_0 (0 : Int32) z40dd z40Lwhole z40Lwhole2 z40bm z40rr z40kt h _ _ hP hD hS ls (lv_sub hl [1, 2, 0] rfl)
  have jn_35 : ∀ (z35dd : Nat → Int32) (z35Lwhole : Int64) (z35Lwhole2 : Int64) (z35bm : Nat → Int32) (z35rr : Nat → Int32) (z35kt : Nat → Int32), wj_Md_compares_35 ms a0 a1 a2 a3 P z35dd z35Lwhole z35Lwhole2 z35bm z35rr z35kt → ∀ (H : Heap) (locs : List Loc), va_P D vwCl (wD qd qmemory qr qcounts cI cB ms z35dd z35Lwhole z35Lwhole2 z35bm z35rr z35kt) H → va_D A (wD qd qmemory qr qcounts cI cB ms z35dd z35Lwhole z35Lwhole2 z35bm z35rr z35kt) → va_S A s.heap H locs → ∀ ls : Array Slot, lv_has ls 11 [(0, .ref qd), (1, .int a0), (2, .long a1), (4, .long a2), (6, .int a3)] → W p l e (headSpec (zz_ws y_Md_compares b_Md_compares 11 none) rm_Md_compares).room s m ([.ref qd, .int a0, .long a1, .long a2, .int a3] : List Value).toArray below meth c H locs 0 0 (MQ below (va_Qv P (zz_qw D (fun u => wD qd qmemory qr qcounts cI cB ms u.1 u.2.1 u.2.2.1 u.2.2.2.1 u.2.2.2.2.1 u.2.2.2.2.2) A) A) ([.ref qd, .int a0, .long a1, .long a2, .int a3] : List Value).toArray s 0 0 A) (F0 m 35 ls []) := by
    intro z35dd z35Lwhole z35Lwhole2 z35bm z35rr z35kt h H locs hP hD hS ls hl
    unfold wj_Md_compares_35 at h
    refine lv_iconst (v := 1) hx hb d_Md_compares_35 (by decide) ?_
    refine lv_goto (tgt := 40) hx hb d_Md_compares_36 (by decide) ?_
    exact jn_40 (1 : Int32) z35dd z35Lwhole z35Lwhole2 z35bm z35rr z35kt h _ _ hP hD hS ls (lv_sub hl [0, 1, 2, 3, 4] rfl)
  refine lv_aload_n hx hb d_Md_compares_0 rfl (lv_at hl 0 rfl) ?_
  refine lv_lload_n hx hb d_Md_compares_1 rfl (lv_at hl 2 rfl) ?_
  refine lv_iload hx hb d_Md_compares_2 (lv_at hl 4 rfl) ?_
  refine zz_Wv (As := [.long a1, .int a3]) (rest := []) (wc := wD qd qmemory qr qcounts cI cB ms dd Lwhole Lwhole2 bm rr kt) (wr := []) X hK hP hD hS hA (c_Md_take l D cI cB qd qmemory qr qcounts ms dd Lwhole Lwhole2 bm rr kt a1 a3 _ h _) ⟨rfl, rfl⟩ m_Md_take k_Md_282 ⟨Nat.le_of_ble_eq_true rfl, Nat.le_of_ble_eq_true rfl⟩ [0, 1, 2, 3] [] rfl rfl (by decide) (by decide) (by decide) 6 0 rfl rfl rfl rfl hl.1 rfl (Nat.le_of_ble_eq_true rfl) d_Md_compares_4 hf0 (fun u_16 H locs h hP hD hS => ?_)
  have hP : va_P D vwCl (wD qd qmemory qr qcounts cI cB ms u_16.1 u_16.2.1 u_16.2.2.1 u_16.2.2.2.1 u_16.2.2.2.2.1 u_16.2.2.2.2.2) H := hP.sub [0, 1, 2, 3] rfl
  have hD : va_D A (wD qd qmemory qr qcounts cI cB ms u_16.1 u_16.2.1 u_16.2.2.1 u_16.2.2.2.1 u_16.2.2.2.2.1 u_16.2.2.2.2.2) := hD.sub [0, 1, 2, 3] (by decide) rfl
  refine lv_aload_n hx hb d_Md_compares_7 rfl (lv_at hl 0 rfl) ?_
  refine zz_Wv (As := []) (rest := []) (wc := wD qd qmemory qr qcounts cI cB ms u_16.1 u_16.2.1 u_16.2.2.1 u_16.2.2.2.1 u_16.2.2.2.2.1 u_16.2.2.2.2.2) (wr := []) X hK hP hD hS hA (c_Md_aside l D cI cB qd qmemory qr qcounts ms u_16.1 u_16.2.1 u_16.2.2.1 u_16.2.2.2.1 u_16.2.2.2.2.1 u_16.2.2.2.2.2 _ h _) ⟨rfl, rfl⟩ m_Md_aside k_Md_286 ⟨Nat.le_of_ble_eq_true rfl, Nat.le_of_ble_eq_true rfl⟩ [0, 1, 2, 3] [] rfl rfl (by decide) (by decide) (by decide) 6 0 rfl rfl rfl rfl hl.1 rfl (Nat.le_of_ble_eq_true rfl) d_Md_compares_8 hf0 (fun u_18 H locs h hP hD hS => ?_)
  have hP : va_P D vwCl (wD qd qmemory qr qcounts cI cB ms u_18.1 u_18.2.1 u_18.2.2.1 u_18.2.2.2.1 u_18.2.2.2.2.1 u_18.2.2.2.2.2) H := hP.sub [0, 1, 2, 3] rfl
  have hD : va_D A (wD qd qmemory qr qcounts cI cB ms u_18.1 u_18.2.1 u_18.2.2.1 u_18.2.2.2.1 u_18.2.2.2.2.1 u_18.2.2.2.2.2) := hD.sub [0, 1, 2, 3] (by decide) rfl
  refine lv_aload_n hx hb d_Md_compares_11 rfl (lv_at hl 0 rfl) ?_
  refine lv_lload hx hb d_Md_compares_12 (lv_at hl 3 rfl) ?_
  refine lv_iload hx hb d_Md_compares_14 (lv_at hl 4 rfl) ?_
  refine zz_Wv (As := [.long a2, .int a3]) (rest := []) (wc := wD qd qmemory qr qcounts cI cB ms u_18.1 u_18.2.1 u_18.2.2.1 u_18.2.2.2.1 u_18.2.2.2.2.1 u_18.2.2.2.2.2) (wr := []) X hK hP hD hS hA (c_Md_take l D cI cB qd qmemory qr qcounts ms u_18.1 u_18.2.1 u_18.2.2.1 u_18.2.2.2.1 u_18.2.2.2.2.1 u_18.2.2.2.2.2 a2 a3 _ h _) ⟨rfl, rfl⟩ m_Md_take k_Md_282 ⟨Nat.le_of_ble_eq_true rfl, Nat.le_of_ble_eq_true rfl⟩ [0, 1, 2, 3] [] rfl rfl (by decide) (by decide) (by decide) 6 0 rfl rfl rfl rfl hl.1 rfl (Nat.le_of_ble_eq_true rfl) d_Md_compares_16 hf0 (fun u_20 H locs h hP hD hS => ?_)
  have hP : va_P D vwCl (wD qd qmemory qr qcounts cI cB ms u_20.1 u_20.2.1 u_20.2.2.1 u_20.2.2.2.1 u_20.2.2.2.2.1 u_20.2.2.2.2.2) H := hP.sub [0, 1, 2, 3] rfl
  have hD : va_D A (wD qd qmemory qr qcounts cI cB ms u_20.1 u_20.2.1 u_20.2.2.1 u_20.2.2.2.1 u_20.2.2.2.2.1 u_20.2.2.2.2.2) := hD.sub [0, 1, 2, 3] (by decide) rfl
  refine lv_aload_n hx hb d_Md_compares_19 rfl (lv_at hl 0 rfl) ?_
  refine g_Md_210 (v := .int (u_20.1 14)) hx hb hT hown hK hP 0 rfl rfl d_Md_compares_20 ?_
  refine lv_iconst (v := 3) hx hb d_Md_compares_23 (by decide) ?_
  refine lv_icmp_eq (tgt := 35) hx hb d_Md_compares_24 (by decide) (fun c_22 => ?_) (fun c_22 => ?_)
  · skip
    have h := h.1 c_22
    exact jn_35 u_20.1 u_20.2.1 u_20.2.2.1 u_20.2.2.2.1 u_20.2.2.2.2.1 u_20.2.2.2.2.2 h _ _ hP hD hS ls (lv_sub hl [0, 1, 2, 3, 4] rfl)
  · skip
    have h := h.2 c_22
    refine lv_aload_n hx hb d_Md_compares_27 rfl (lv_at hl 0 rfl) ?_
    refine g_Md_213 (v := .int (u_20.1 16)) hx hb hT hown hK hP 0 rfl rfl d_Md_compares_28 ?_
    refine lv_iconst (v := 3) hx hb d_Md_compares_31 (by decide) ?_
    refine lv_icmp_ne (tgt := 39) hx hb d_Md_compares_32 (by decide) (fun c_23 => ?_) (fun c_23 => ?_)
    · skip
      have h := h.2 c_23
      refine lv_iconst (v := 0) hx hb d_Md_compares_39 (by decide) ?_
      exact jn_40 (0 : Int32) u_20.1 u_20.2.1 u_20.2.2.1 u_20.2.2.2.1 u_20.2.2.2.2.1 u_20.2.2.2.2.2 h _ _ hP hD hS ls (lv_sub hl [0, 1, 2, 3, 4] rfl)
    · skip
      have h := h.1 c_23
      exact jn_35 u_20.1 u_20.2.1 u_20.2.2.1 u_20.2.2.2.1 u_20.2.2.2.2.1 u_20.2.2.2.2.2 h _ _ hP hD hS ls (lv_sub hl [0, 1, 2, 3, 4] rfl)
def wp_Md_noNumber (a0 : Int32) (P : Int64 → Prop) : Prop := ((a0 = (0 : Int32) → P (2143289343 : Int64)) ∧ (¬ a0 = (0 : Int32) → P (9221120237041090559 : Int64)))
abbrev rm_Md_noNumber : Room := { frames := 0, cells := 0, slots := 0, locals := 0 }
set_option maxHeartbeats 4000000 in
set_option maxRecDepth 100000 in
theorem c_Md_noNumber (l : Launch) (a0 : Int32) (P : Int64 → Prop) (h : wp_Md_noNumber a0 P) : Met l y_Md_noNumber (zz_ws y_Md_noNumber b_Md_noNumber 1 (some .long)) rm_Md_noNumber (fun v _ => v = ([.int a0] : List Value).toArray) (vp_Sl P) 0 0 (fun _ => False) := by
  refine Met.ofW (cc := b_Md_noNumber) (maxL := 1) (ret := (some .long)) (by decide) rfl ?_
  intro p e s m args below meth c s₁ B hml hv
  subst hv
  have hx := B.exec
  have hb := B.bytes
  have hr := B.returns
  have hts := atoms_spec (ws := (zz_ws y_Md_noNumber b_Md_noNumber 1 (some .long))) B.pre
  have hown : s.vm.findClass R_Md = some m.cls := findClass_of_methodNamed B.named
  have hlocks := B.notSynchronized
  have hT := zz_hts hts
  have X : CallFix p m c b_Md_noNumber 1 s ([.int a0] : List Value).toArray (zz_ws y_Md_noNumber b_Md_noNumber 1 (some .long)) R_Md := ⟨hx, hb, hml, hown, hts⟩
  have hf0 : 0 + 0 ≤ (headSpec (zz_ws y_Md_noNumber b_Md_noNumber 1 (some .long)) rm_Md_noNumber).room.cells ∧ 0 + 0 ≤ (headSpec (zz_ws y_Md_noNumber b_Md_noNumber 1 (some .long)) rm_Md_noNumber).room.slots := ⟨Nat.le_of_ble_eq_true rfl, Nat.le_of_ble_eq_true rfl⟩
  have hl := lv_entry ([.int a0]) (n := 1) (Nat.le_of_ble_eq_true rfl)
  rw [lg_entry_eq]
  generalize (lg_sl ([.int a0]) ++ List.replicate (1 - (lg_sl ([.int a0])).length) Slot.unset).toArray = ls at hl ⊢
  have hl : lv_has ls 1 [(0, .int a0)] := hl
  refine lv_iload_n hx hb d_Md_noNumber_0 rfl (lv_at hl 0 rfl) ?_
  refine lv_if_eq (tgt := 10) hx hb d_Md_noNumber_1 (by decide) (fun c_1 => ?_) (fun c_1 => ?_)
  · skip
    have h := h.1 c_1
    refine lv_ldc2 (v := 2143289343) hx hb hown (hT _ n_Md_227) d_Md_noNumber_10 ?_
    exact W.lret (v := (2143289343 : Int64)) hx hb hr (fun t ht hW => ⟨(2143289343 : Int64),  rfl, h, ht⟩) t_nil d_Md_noNumber_13
  · skip
    have h := h.2 c_1
    refine lv_ldc2 (v := 9221120237041090559) hx hb hown (hT _ n_Md_225) d_Md_noNumber_4 ?_
    refine lv_goto (tgt := 13) hx hb d_Md_noNumber_7 (by decide) ?_
    exact W.lret (v := (9221120237041090559 : Int64)) hx hb hr (fun t ht hW => ⟨(9221120237041090559 : Int64),  rfl, h, ht⟩) t_nil d_Md_noNumber_13
def wp_Md_signed (a0 : Int32) (a1 : Int32) (a2 : Int64) (P : Int64 → Prop) : Prop := ((a0 = (0 : Int32) → P a2) ∧ (¬ a0 = (0 : Int32) → ((a1 = (0 : Int32) → ∀ x_3 : Int64, x_3 = (zz_lshl (1 : Int64) (31 : Int32)) → P (a2 ||| x_3)) ∧ (¬ a1 = (0 : Int32) → ∀ x_4 : Int64, x_4 = (zz_lshl (1 : Int64) (63 : Int32)) → P (a2 ||| x_4)))))
abbrev rm_Md_signed : Room := { frames := 0, cells := 0, slots := 0, locals := 0 }
set_option maxHeartbeats 4000000 in
set_option maxRecDepth 100000 in
theorem c_Md_signed (l : Launch) (a0 : Int32) (a1 : Int32) (a2 : Int64) (P : Int64 → Prop) (h : wp_Md_signed a0 a1 a2 P) : Met l y_Md_signed (zz_ws y_Md_signed b_Md_signed 4 (some .long)) rm_Md_signed (fun v _ => v = ([.int a0, .int a1, .long a2] : List Value).toArray) (vp_Sl P) 0 0 (fun _ => False) := by
  refine Met.ofW (cc := b_Md_signed) (maxL := 4) (ret := (some .long)) (by decide) rfl ?_
  intro p e s m args below meth c s₁ B hml hv
  subst hv
  have hx := B.exec
  have hb := B.bytes
  have hr := B.returns
  have hts := atoms_spec (ws := (zz_ws y_Md_signed b_Md_signed 4 (some .long))) B.pre
  have hown : s.vm.findClass R_Md = some m.cls := findClass_of_methodNamed B.named
  have hlocks := B.notSynchronized
  have hT := zz_hts hts
  have X : CallFix p m c b_Md_signed 4 s ([.int a0, .int a1, .long a2] : List Value).toArray (zz_ws y_Md_signed b_Md_signed 4 (some .long)) R_Md := ⟨hx, hb, hml, hown, hts⟩
  have hf0 : 0 + 0 ≤ (headSpec (zz_ws y_Md_signed b_Md_signed 4 (some .long)) rm_Md_signed).room.cells ∧ 0 + 0 ≤ (headSpec (zz_ws y_Md_signed b_Md_signed 4 (some .long)) rm_Md_signed).room.slots := ⟨Nat.le_of_ble_eq_true rfl, Nat.le_of_ble_eq_true rfl⟩
  have hl := lv_entry ([.int a0, .int a1, .long a2]) (n := 4) (Nat.le_of_ble_eq_true rfl)
  rw [lg_entry_eq]
  generalize (lg_sl ([.int a0, .int a1, .long a2]) ++ List.replicate (4 - (lg_sl ([.int a0, .int a1, .long a2])).length) Slot.unset).toArray = ls at hl ⊢
  have hl : lv_has ls 4 [(0, .int a0), (1, .int a1), (2, .long a2)] := hl
  refine lv_iload_n hx hb d_Md_signed_0 rfl (lv_at hl 0 rfl) ?_
  refine lv_if_eq (tgt := 22) hx hb d_Md_signed_1 (by decide) (fun c_1 => ?_) (fun c_1 => ?_)
  · skip
    have h := h.1 c_1
    refine lv_lload_n hx hb d_Md_signed_22 rfl (lv_at hl 2 rfl) ?_
    exact W.lret (v := a2) hx hb hr (fun t ht hW => ⟨a2,  rfl, h, ht⟩) t_nil d_Md_signed_23
  · skip
    have h := h.2 c_1
    refine lv_lload_n hx hb d_Md_signed_4 rfl (lv_at hl 2 rfl) ?_
    refine lv_lconst (v := 1) hx hb d_Md_signed_5 (by decide) ?_
    refine lv_iload_n hx hb d_Md_signed_6 rfl (lv_at hl 1 rfl) ?_
    refine lv_if_eq (tgt := 15) hx hb d_Md_signed_7 (by decide) (fun c_2 => ?_) (fun c_2 => ?_)
    · skip
      have h := h.1 c_2
      refine lv_bipush (v := 31) hx hb d_Md_signed_15 (by decide) ?_
      refine zz_llshl hx hb d_Md_signed_17 ?_
      refine lv_topl (fun x_3 ex_3 => ?_)
      have h := h x_3 ex_3
      refine lv_lor hx hb d_Md_signed_18 ?_
      refine lv_goto (tgt := 23) hx hb d_Md_signed_19 (by decide) ?_
      exact W.lret (v := (a2 ||| x_3)) hx hb hr (fun t ht hW => ⟨(a2 ||| x_3),  rfl, h, ht⟩) t_nil d_Md_signed_23
    · skip
      have h := h.2 c_2
      refine lv_bipush (v := 63) hx hb d_Md_signed_10 (by decide) ?_
      refine lv_goto (tgt := 17) hx hb d_Md_signed_12 (by decide) ?_
      refine zz_llshl hx hb d_Md_signed_17 ?_
      refine lv_topl (fun x_4 ex_4 => ?_)
      have h := h x_4 ex_4
      refine lv_lor hx hb d_Md_signed_18 ?_
      refine lv_goto (tgt := 23) hx hb d_Md_signed_19 (by decide) ?_
      exact W.lret (v := (a2 ||| x_4)) hx hb hr (fun t ht hW => ⟨(a2 ||| x_4),  rfl, h, ht⟩) t_nil d_Md_signed_23
def wp_Md_endless (a0 : Int32) (a1 : Int32) (P : Int64 → Prop) : Prop := wp_Md_most a1 (fun r_1 => wp_Md_digits a1 (fun r_2 => wp_Md_signed a0 a1 (zz_lshl r_1.toInt64 r_2) (fun r_3 => P r_3)))
abbrev rm_Md_endless : Room := { frames := 1, cells := 0, slots := 0, locals := 23 }
set_option maxHeartbeats 4000000 in
set_option maxRecDepth 100000 in
theorem c_Md_endless (l : Launch) (a0 : Int32) (a1 : Int32) (P : Int64 → Prop) (h : wp_Md_endless a0 a1 P) : Met l y_Md_endless (zz_ws y_Md_endless b_Md_endless 2 (some .long)) rm_Md_endless (fun v _ => v = ([.int a0, .int a1] : List Value).toArray) (vp_Sl P) 0 0 (fun _ => False) := by
  refine Met.ofW (cc := b_Md_endless) (maxL := 2) (ret := (some .long)) (by decide) rfl ?_
  intro p e s m args below meth c s₁ B hml hv
  subst hv
  have hx := B.exec
  have hb := B.bytes
  have hr := B.returns
  have hts := atoms_spec (ws := (zz_ws y_Md_endless b_Md_endless 2 (some .long))) B.pre
  have hown : s.vm.findClass R_Md = some m.cls := findClass_of_methodNamed B.named
  have hlocks := B.notSynchronized
  have hT := zz_hts hts
  have X : CallFix p m c b_Md_endless 2 s ([.int a0, .int a1] : List Value).toArray (zz_ws y_Md_endless b_Md_endless 2 (some .long)) R_Md := ⟨hx, hb, hml, hown, hts⟩
  have hf0 : 0 + 0 ≤ (headSpec (zz_ws y_Md_endless b_Md_endless 2 (some .long)) rm_Md_endless).room.cells ∧ 0 + 0 ≤ (headSpec (zz_ws y_Md_endless b_Md_endless 2 (some .long)) rm_Md_endless).room.slots := ⟨Nat.le_of_ble_eq_true rfl, Nat.le_of_ble_eq_true rfl⟩
  have hl := lv_entry ([.int a0, .int a1]) (n := 2) (Nat.le_of_ble_eq_true rfl)
  rw [lg_entry_eq]
  generalize (lg_sl ([.int a0, .int a1]) ++ List.replicate (2 - (lg_sl ([.int a0, .int a1])).length) Slot.unset).toArray = ls at hl ⊢
  have hl : lv_has ls 2 [(0, .int a0), (1, .int a1)] := hl
  refine lv_iload_n hx hb d_Md_endless_0 rfl (lv_at hl 0 rfl) ?_
  refine lv_iload_n hx hb d_Md_endless_1 rfl (lv_at hl 1 rfl) ?_
  refine lv_iload_n hx hb d_Md_endless_2 rfl (lv_at hl 1 rfl) ?_
  refine zz_Si (As := [.int a1]) (rest := [.int a1, .int a0]) X (c_Md_most l a1 _ h) ⟨rfl, rfl⟩ m_Md_most k_Md_194 ⟨Nat.le_of_ble_eq_true rfl, Nat.le_of_ble_eq_true rfl⟩ rfl hl.1 rfl (Nat.le_of_ble_eq_true rfl) d_Md_endless_3 hf0 (fun r_1 h => ?_)
  refine lv_i2l (v := r_1.toInt64) hx hb d_Md_endless_6 rfl ?_
  refine lv_iload_n hx hb d_Md_endless_7 rfl (lv_at hl 1 rfl) ?_
  refine zz_Si (As := [.int a1]) (rest := [.long r_1.toInt64, .int a1, .int a0]) X (c_Md_digits l a1 _ h) ⟨rfl, rfl⟩ m_Md_digits k_Md_190 ⟨Nat.le_of_ble_eq_true rfl, Nat.le_of_ble_eq_true rfl⟩ rfl hl.1 rfl (Nat.le_of_ble_eq_true rfl) d_Md_endless_8 hf0 (fun r_2 h => ?_)
  refine zz_llshl hx hb d_Md_endless_11 ?_
  refine zz_Sl (As := [.int a0, .int a1, .long (zz_lshl r_1.toInt64 r_2)]) (rest := []) X (c_Md_signed l a0 a1 (zz_lshl r_1.toInt64 r_2) _ h) ⟨rfl, rfl⟩ m_Md_signed k_Md_229 ⟨Nat.le_of_ble_eq_true rfl, Nat.le_of_ble_eq_true rfl⟩ rfl hl.1 rfl (Nat.le_of_ble_eq_true rfl) d_Md_endless_12 hf0 (fun r_3 h => ?_)
  exact W.lret (v := r_3) hx hb hr (fun t ht hW => ⟨r_3,  rfl, h, ht⟩) t_nil d_Md_endless_15
def wj_Md_rounded_291 (a0 : Int32) (a1 : Int64) (a2 : Int32) (a3 : Int32) (a4 : Int32) (P : Int64 → Prop) (j291_6 : Int32) (j291_13 : Int64) (s291_0 : Int32) : Prop := wp_Md_most a4 (fun r_1 => ((s291_0 < r_1 → ∀ x_3 : Int64, x_3 = (zz_lshl s291_0.toInt64 j291_6) → ∀ x_4 : Int64, x_4 = ((zz_lshl (1 : Int64) j291_6) - (1 : Int64)) → wp_Md_signed a0 a4 (x_3 ||| (j291_13 &&& x_4)) (fun r_5 => P r_5)) ∧ (¬ s291_0 < r_1 → wp_Md_endless a0 a4 (fun r_6 => P r_6))))
def wj_Md_rounded_266 (a0 : Int32) (a1 : Int64) (a2 : Int32) (a3 : Int32) (a4 : Int32) (P : Int64 → Prop) (j266_6 : Int32) (j266_9 : Int32) (j266_13 : Int64) : Prop := (((zz_lshr j266_13 j266_6) = (0 : Int64) → wj_Md_rounded_291 a0 a1 a2 a3 a4 P j266_6 j266_13 (0 : Int32)) ∧ (¬ (zz_lshr j266_13 j266_6) = (0 : Int64) → wp_Md_bias a4 (fun r_8 => wj_Md_rounded_291 a0 a1 a2 a3 a4 P j266_6 j266_13 ((j266_9 + j266_6) + r_8))))
def wj_Md_rounded_245 (a0 : Int32) (a1 : Int64) (a2 : Int32) (a3 : Int32) (a4 : Int32) (P : Int64 → Prop) (j245_6 : Int32) (j245_9 : Int32) (j245_13 : Int64) : Prop := ∀ x_9 : Int64, x_9 = (zz_lshr j245_13 (j245_6 + (1 : Int32))) → ((x_9 ≤ (0 : Int64) → wj_Md_rounded_266 a0 a1 a2 a3 a4 P j245_6 j245_9 j245_13) ∧ (¬ x_9 ≤ (0 : Int64) → ∀ x_11 : Int64, x_11 = (zz_lshr j245_13 (1 : Int32)) → ∀ x_12 : Int32, x_12 = j245_9 + 1 → wj_Md_rounded_266 a0 a1 a2 a3 a4 P j245_6 x_12 x_11))
def wj_Md_rounded_225 (a0 : Int32) (a1 : Int64) (a2 : Int32) (a3 : Int32) (a4 : Int32) (P : Int64 → Prop) (j225_6 : Int32) (j225_9 : Int32) (j225_12 : Int32) (j225_13 : Int64) (s225_0 : Int32) : Prop := ∀ x_13 : Int32, x_13 = (j225_9 + j225_12) → ((s225_0 = (0 : Int32) → wj_Md_rounded_245 a0 a1 a2 a3 a4 P j225_6 x_13 j225_13) ∧ (¬ s225_0 = (0 : Int32) → ∀ x_15 : Int64, x_15 = (j225_13 + (1 : Int64)) → wj_Md_rounded_245 a0 a1 a2 a3 a4 P j225_6 x_13 x_15))
def wj_Md_rounded_224 (a0 : Int32) (a1 : Int64) (a2 : Int32) (a3 : Int32) (a4 : Int32) (P : Int64 → Prop) (j224_6 : Int32) (j224_9 : Int32) (j224_12 : Int32) (j224_13 : Int64) : Prop := wj_Md_rounded_225 a0 a1 a2 a3 a4 P j224_6 j224_9 j224_12 j224_13 (0 : Int32)
def wj_Md_rounded_220 (a0 : Int32) (a1 : Int64) (a2 : Int32) (a3 : Int32) (a4 : Int32) (P : Int64 → Prop) (j220_6 : Int32) (j220_9 : Int32) (j220_12 : Int32) (j220_13 : Int64) : Prop := wj_Md_rounded_225 a0 a1 a2 a3 a4 P j220_6 j220_9 j220_12 j220_13 (1 : Int32)
def wj_Md_rounded_148 (a0 : Int32) (a1 : Int64) (a2 : Int32) (a3 : Int32) (a4 : Int32) (P : Int64 → Prop) (j148_6 : Int32) (j148_9 : Int32) (j148_10 : Int32) (j148_12 : Int32) (j148_13 : Int64) (j148_15 : Int64) (s148_0 : Int64) : Prop := (((63 : Int32) < j148_12 → wj_Md_rounded_224 a0 a1 a2 a3 a4 P j148_6 j148_9 j148_12 j148_13) ∧ (¬ (63 : Int32) < j148_12 → ((j148_12 = (63 : Int32) → (((4611686018427387904 : Int64) < j148_15 → wj_Md_rounded_220 a0 a1 a2 a3 a4 P j148_6 j148_9 j148_12 j148_13) ∧ (¬ (4611686018427387904 : Int64) < j148_15 → ((j148_15 = (4611686018427387904 : Int64) → ((j148_10 = (0 : Int32) → wj_Md_rounded_224 a0 a1 a2 a3 a4 P j148_6 j148_9 j148_12 j148_13) ∧ (¬ j148_10 = (0 : Int32) → wj_Md_rounded_220 a0 a1 a2 a3 a4 P j148_6 j148_9 j148_12 j148_13))) ∧ (¬ j148_15 = (4611686018427387904 : Int64) → wj_Md_rounded_224 a0 a1 a2 a3 a4 P j148_6 j148_9 j148_12 j148_13))))) ∧ (¬ j148_12 = (63 : Int32) → ((s148_0 < j148_15 → wj_Md_rounded_220 a0 a1 a2 a3 a4 P j148_6 j148_9 j148_12 j148_13) ∧ (¬ s148_0 < j148_15 → ((j148_15 = s148_0 → ((j148_10 = (0 : Int32) → (((j148_13 &&& (1 : Int64)) = (1 : Int64) → wj_Md_rounded_220 a0 a1 a2 a3 a4 P j148_6 j148_9 j148_12 j148_13) ∧ (¬ (j148_13 &&& (1 : Int64)) = (1 : Int64) → wj_Md_rounded_224 a0 a1 a2 a3 a4 P j148_6 j148_9 j148_12 j148_13))) ∧ (¬ j148_10 = (0 : Int32) → wj_Md_rounded_220 a0 a1 a2 a3 a4 P j148_6 j148_9 j148_12 j148_13))) ∧ (¬ j148_15 = s148_0 → wj_Md_rounded_224 a0 a1 a2 a3 a4 P j148_6 j148_9 j148_12 j148_13))))))))
def wj_Md_rounded_129 (a0 : Int32) (a1 : Int64) (a2 : Int32) (a3 : Int32) (a4 : Int32) (P : Int64 → Prop) (j129_6 : Int32) (j129_9 : Int32) (j129_10 : Int32) (j129_12 : Int32) (j129_13 : Int64) (s129_0 : Int64) : Prop := ((j129_12 ≤ (63 : Int32) → ∀ x_26 : Int64, x_26 = (zz_lshl (1 : Int64) (j129_12 - (1 : Int32))) → wj_Md_rounded_148 a0 a1 a2 a3 a4 P j129_6 j129_9 j129_10 j129_12 j129_13 s129_0 x_26) ∧ (¬ j129_12 ≤ (63 : Int32) → wj_Md_rounded_148 a0 a1 a2 a3 a4 P j129_6 j129_9 j129_10 j129_12 j129_13 s129_0 (0 : Int64)))
def wj_Md_rounded_106 (a0 : Int32) (a1 : Int64) (a2 : Int32) (a3 : Int32) (a4 : Int32) (P : Int64 → Prop) (j106_6 : Int32) (j106_7 : Int64) (j106_9 : Int32) (j106_10 : Int32) (j106_12 : Int32) (s106_0 : Int64) : Prop := ((j106_12 ≤ (62 : Int32) → ∀ x_28 : Int64, x_28 = (zz_lshl (1 : Int64) j106_12) → ∀ x_29 : Int64, x_29 = (j106_7 &&& (x_28 - (1 : Int64))) → wj_Md_rounded_129 a0 a1 a2 a3 a4 P j106_6 j106_9 j106_10 j106_12 s106_0 x_29) ∧ (¬ j106_12 ≤ (62 : Int32) → wj_Md_rounded_129 a0 a1 a2 a3 a4 P j106_6 j106_9 j106_10 j106_12 s106_0 j106_7))
def wj_Md_rounded_75 (a0 : Int32) (a1 : Int64) (a2 : Int32) (a3 : Int32) (a4 : Int32) (P : Int64 → Prop) (j75_6 : Int32) (j75_7 : Int64) (j75_9 : Int32) (j75_10 : Int32) (j75_12 : Int32) : Prop := ((j75_12 ≤ (64 : Int32) → ((j75_12 ≤ (62 : Int32) → wj_Md_rounded_106 a0 a1 a2 a3 a4 P j75_6 j75_7 j75_9 j75_10 j75_12 (zz_lshr j75_7 j75_12)) ∧ (¬ j75_12 ≤ (62 : Int32) → wj_Md_rounded_106 a0 a1 a2 a3 a4 P j75_6 j75_7 j75_9 j75_10 j75_12 (0 : Int64)))) ∧ (¬ j75_12 ≤ (64 : Int32) → wp_Md_signed a0 a4 (0 : Int64) (fun r_32 => P r_32)))
def wl_Md_rounded_17 (a0 : Int32) (a1 : Int64) (a2 : Int32) (a3 : Int32) (a4 : Int32) (P : Int64 → Prop) : Nat → Int32 → Int32 → Int64 → Int32 → Prop
  | 0, _, _, _, _ => False
  | n + 1, v10, v9, v7, v6 => (((zz_lshr v7 (62 : Int32)) = (0 : Int64) → ∀ x_40 : Int64, x_40 = (zz_lshl v7 (1 : Int32)) → ∀ x_41 : Int32, x_41 = v9 + (-1) → wl_Md_rounded_17 a0 a1 a2 a3 a4 P n v10 x_41 x_40 v6) ∧ (¬ (zz_lshr v7 (62 : Int32)) = (0 : Int64) → wp_Md_bias a4 (fun r_35 => ∀ x_36 : Int32, x_36 = (((1 : Int32) - r_35) - v6) → ∀ x_37 : Int32, x_37 = ((62 : Int32) - v6) → ((x_36 ≤ (v9 + x_37) → wj_Md_rounded_75 a0 a1 a2 a3 a4 P v6 v7 v9 v10 x_37) ∧ (¬ x_36 ≤ (v9 + x_37) → ∀ x_39 : Int32, x_39 = (x_36 - v9) → wj_Md_rounded_75 a0 a1 a2 a3 a4 P v6 v7 v9 v10 x_39)))))
def wp_Md_rounded (a0 : Int32) (a1 : Int64) (a2 : Int32) (a3 : Int32) (a4 : Int32) (P : Int64 → Prop) : Prop := wp_Md_digits a4 (fun r_33 => ∃ n, wl_Md_rounded_17 a0 a1 a2 a3 a4 P n a3 a2 a1 r_33)
abbrev rm_Md_rounded : Room := { frames := 2, cells := 0, slots := 0, locals := 44 }
set_option maxHeartbeats 4000000 in
set_option maxRecDepth 100000 in
theorem c_Md_rounded (l : Launch) (a0 : Int32) (a1 : Int64) (a2 : Int32) (a3 : Int32) (a4 : Int32) (P : Int64 → Prop) (h : wp_Md_rounded a0 a1 a2 a3 a4 P) : Met l y_Md_rounded (zz_ws y_Md_rounded b_Md_rounded 21 (some .long)) rm_Md_rounded (fun v _ => v = ([.int a0, .long a1, .int a2, .int a3, .int a4] : List Value).toArray) (vp_Sl P) 0 0 (fun _ => False) := by
  refine Met.ofW (cc := b_Md_rounded) (maxL := 21) (ret := (some .long)) (by decide) rfl ?_
  intro p e s m args below meth c s₁ B hml hv
  subst hv
  have hx := B.exec
  have hb := B.bytes
  have hr := B.returns
  have hts := atoms_spec (ws := (zz_ws y_Md_rounded b_Md_rounded 21 (some .long))) B.pre
  have hown : s.vm.findClass R_Md = some m.cls := findClass_of_methodNamed B.named
  have hlocks := B.notSynchronized
  have hT := zz_hts hts
  have X : CallFix p m c b_Md_rounded 21 s ([.int a0, .long a1, .int a2, .int a3, .int a4] : List Value).toArray (zz_ws y_Md_rounded b_Md_rounded 21 (some .long)) R_Md := ⟨hx, hb, hml, hown, hts⟩
  have hf0 : 0 + 0 ≤ (headSpec (zz_ws y_Md_rounded b_Md_rounded 21 (some .long)) rm_Md_rounded).room.cells ∧ 0 + 0 ≤ (headSpec (zz_ws y_Md_rounded b_Md_rounded 21 (some .long)) rm_Md_rounded).room.slots := ⟨Nat.le_of_ble_eq_true rfl, Nat.le_of_ble_eq_true rfl⟩
  have hl := lv_entry ([.int a0, .long a1, .int a2, .int a3, .int a4]) (n := 21) (Nat.le_of_ble_eq_true rfl)
  rw [lg_entry_eq]
  generalize (lg_sl ([.int a0, .long a1, .int a2, .int a3, .int a4]) ++ List.replicate (21 - (lg_sl ([.int a0, .long a1, .int a2, .int a3, .int a4])).length) Slot.unset).toArray = ls at hl ⊢
  have hl : lv_has ls 21 [(0, .int a0), (1, .long a1), (3, .int a2), (4, .int a3), (5, .int a4)] := hl
  have jn_291 : ∀ (j291_6 : Int32) (j291_13 : Int64) (s291_0 : Int32), wj_Md_rounded_291 a0 a1 a2 a3 a4 P j291_6 j291_13 s291_0 → ∀ ls : Array Slot, lv_has ls 21 [(0, .int a0), (5, .int a4), (6, .int j291_6), (13, .long j291_13)] → W p l e (headSpec (zz_ws y_Md_rounded b_Md_rounded 21 (some .long)) rm_Md_rounded).room s m ([.int a0, .long a1, .int a2, .int a3, .int a4] : List Value).toArray below meth c s.heap [] 0 0 (MQ below (vp_Sl P) ([.int a0, .long a1, .int a2, .int a3, .int a4] : List Value).toArray s 0 0 (fun _ => False)) (F0 m 291 ls [.int s291_0]) := by
    intro j291_6 j291_13 s291_0 h ls hl
    unfold wj_Md_rounded_291 at h
    refine lv_istore (lv' := [(20, .int s291_0), (0, .int a0), (5, .int a4), (6, .int j291_6), (13, .long j291_13)]) hx hb d_Md_rounded_291 hl (by decide) rfl (fun ls hl => ?_)
    refine lv_iload hx hb d_Md_rounded_293 (lv_at hl 0 rfl) ?_
    refine lv_iload hx hb d_Md_rounded_295 (lv_at hl 2 rfl) ?_
    refine zz_Si (As := [.int a4]) (rest := [.int s291_0]) X (c_Md_most l a4 _ h) ⟨rfl, rfl⟩ m_Md_most k_Md_194 ⟨Nat.le_of_ble_eq_true rfl, Nat.le_of_ble_eq_true rfl⟩ rfl hl.1 rfl (Nat.le_of_ble_eq_true rfl) d_Md_rounded_297 hf0 (fun r_1 h => ?_)
    refine lv_icmp_lt (tgt := 310) hx hb d_Md_rounded_300 (by decide) (fun c_2 => ?_) (fun c_2 => ?_)
    · skip
      have h := h.1 c_2
      refine lv_iload_n hx hb d_Md_rounded_310 rfl (lv_at hl 1 rfl) ?_
      refine lv_iload hx hb d_Md_rounded_311 (lv_at hl 2 rfl) ?_
      refine lv_iload hx hb d_Md_rounded_313 (lv_at hl 0 rfl) ?_
      refine lv_i2l (v := s291_0.toInt64) hx hb d_Md_rounded_315 rfl ?_
      refine lv_iload hx hb d_Md_rounded_316 (lv_at hl 3 rfl) ?_
      refine zz_llshl hx hb d_Md_rounded_318 ?_
      refine lv_topl (fun x_3 ex_3 => ?_)
      have h := h x_3 ex_3
      refine lv_lload hx hb d_Md_rounded_319 (lv_at hl 4 rfl) ?_
      refine lv_lconst (v := 1) hx hb d_Md_rounded_321 (by decide) ?_
      refine lv_iload hx hb d_Md_rounded_322 (lv_at hl 3 rfl) ?_
      refine zz_llshl hx hb d_Md_rounded_324 ?_
      refine lv_lconst (v := 1) hx hb d_Md_rounded_325 (by decide) ?_
      refine lv_lsub hx hb d_Md_rounded_326 ?_
      refine lv_topl (fun x_4 ex_4 => ?_)
      have h := h x_4 ex_4
      refine lv_land hx hb d_Md_rounded_327 ?_
      refine lv_lor hx hb d_Md_rounded_328 ?_
      refine zz_Sl (As := [.int a0, .int a4, .long (x_3 ||| (j291_13 &&& x_4))]) (rest := []) X (c_Md_signed l a0 a4 (x_3 ||| (j291_13 &&& x_4)) _ h) ⟨rfl, rfl⟩ m_Md_signed k_Md_229 ⟨Nat.le_of_ble_eq_true rfl, Nat.le_of_ble_eq_true rfl⟩ rfl hl.1 rfl (Nat.le_of_ble_eq_true rfl) d_Md_rounded_329 hf0 (fun r_5 h => ?_)
      exact W.lret (v := r_5) hx hb hr (fun t ht hW => ⟨r_5,  rfl, h, ht⟩) t_nil d_Md_rounded_332
    · skip
      have h := h.2 c_2
      refine lv_iload_n hx hb d_Md_rounded_303 rfl (lv_at hl 1 rfl) ?_
      refine lv_iload hx hb d_Md_rounded_304 (lv_at hl 2 rfl) ?_
      refine zz_Sl (As := [.int a0, .int a4]) (rest := []) X (c_Md_endless l a0 a4 _ h) ⟨rfl, rfl⟩ m_Md_endless k_Md_235 ⟨Nat.le_of_ble_eq_true rfl, Nat.le_of_ble_eq_true rfl⟩ rfl hl.1 rfl (Nat.le_of_ble_eq_true rfl) d_Md_rounded_306 hf0 (fun r_6 h => ?_)
      exact W.lret (v := r_6) hx hb hr (fun t ht hW => ⟨r_6,  rfl, h, ht⟩) t_nil d_Md_rounded_309
  have jn_266 : ∀ (j266_6 : Int32) (j266_9 : Int32) (j266_13 : Int64), wj_Md_rounded_266 a0 a1 a2 a3 a4 P j266_6 j266_9 j266_13 → ∀ ls : Array Slot, lv_has ls 21 [(0, .int a0), (5, .int a4), (6, .int j266_6), (9, .int j266_9), (13, .long j266_13)] → W p l e (headSpec (zz_ws y_Md_rounded b_Md_rounded 21 (some .long)) rm_Md_rounded).room s m ([.int a0, .long a1, .int a2, .int a3, .int a4] : List Value).toArray below meth c s.heap [] 0 0 (MQ below (vp_Sl P) ([.int a0, .long a1, .int a2, .int a3, .int a4] : List Value).toArray s 0 0 (fun _ => False)) (F0 m 266 ls []) := by
    intro j266_6 j266_9 j266_13 h ls hl
    unfold wj_Md_rounded_266 at h
    refine lv_lload hx hb d_Md_rounded_266 (lv_at hl 4 rfl) ?_
    refine lv_iload hx hb d_Md_rounded_268 (lv_at hl 2 rfl) ?_
    refine zz_llshr hx hb d_Md_rounded_270 ?_
    refine lv_lconst (v := 0) hx hb d_Md_rounded_271 (by decide) ?_
    refine W.lcmp hx hb d_Md_rounded_272 ?_
    refine lv_if_ne (tgt := 280) hx hb d_Md_rounded_273 (by decide) (fun c_7 => ?_) (fun c_7 => ?_)
    · have kc_7 := (fun q => c_7 ((lg_cmp_eq _ _).mpr q))
      have h := h.2 kc_7
      refine lv_iload hx hb d_Md_rounded_280 (lv_at hl 3 rfl) ?_
      refine lv_iload hx hb d_Md_rounded_282 (lv_at hl 2 rfl) ?_
      refine lv_iadd hx hb d_Md_rounded_284 ?_
      refine lv_iload hx hb d_Md_rounded_285 (lv_at hl 1 rfl) ?_
      refine zz_Si (As := [.int a4]) (rest := [.int (j266_9 + j266_6)]) X (c_Md_bias l a4 _ h) ⟨rfl, rfl⟩ m_Md_bias k_Md_204 ⟨Nat.le_of_ble_eq_true rfl, Nat.le_of_ble_eq_true rfl⟩ rfl hl.1 rfl (Nat.le_of_ble_eq_true rfl) d_Md_rounded_287 hf0 (fun r_8 h => ?_)
      refine lv_iadd hx hb d_Md_rounded_290 ?_
      exact jn_291 j266_6 j266_13 ((j266_9 + j266_6) + r_8) h ls (lv_sub hl [0, 1, 2, 4] rfl)
    · have kc_7 := ((lg_cmp_eq _ _).mp c_7)
      have h := h.1 kc_7
      refine lv_iconst (v := 0) hx hb d_Md_rounded_276 (by decide) ?_
      refine lv_goto (tgt := 291) hx hb d_Md_rounded_277 (by decide) ?_
      exact jn_291 j266_6 j266_13 (0 : Int32) h ls (lv_sub hl [0, 1, 2, 4] rfl)
  have jn_245 : ∀ (j245_6 : Int32) (j245_9 : Int32) (j245_13 : Int64), wj_Md_rounded_245 a0 a1 a2 a3 a4 P j245_6 j245_9 j245_13 → ∀ ls : Array Slot, lv_has ls 21 [(0, .int a0), (5, .int a4), (6, .int j245_6), (9, .int j245_9), (13, .long j245_13)] → W p l e (headSpec (zz_ws y_Md_rounded b_Md_rounded 21 (some .long)) rm_Md_rounded).room s m ([.int a0, .long a1, .int a2, .int a3, .int a4] : List Value).toArray below meth c s.heap [] 0 0 (MQ below (vp_Sl P) ([.int a0, .long a1, .int a2, .int a3, .int a4] : List Value).toArray s 0 0 (fun _ => False)) (F0 m 245 ls []) := by
    intro j245_6 j245_9 j245_13 h ls hl
    unfold wj_Md_rounded_245 at h
    refine lv_lload hx hb d_Md_rounded_245 (lv_at hl 4 rfl) ?_
    refine lv_iload hx hb d_Md_rounded_247 (lv_at hl 2 rfl) ?_
    refine lv_iconst (v := 1) hx hb d_Md_rounded_249 (by decide) ?_
    refine lv_iadd hx hb d_Md_rounded_250 ?_
    refine zz_llshr hx hb d_Md_rounded_251 ?_
    refine lv_topl (fun x_9 ex_9 => ?_)
    have h := h x_9 ex_9
    refine lv_lconst (v := 0) hx hb d_Md_rounded_252 (by decide) ?_
    refine W.lcmp hx hb d_Md_rounded_253 ?_
    refine lv_if_le (tgt := 266) hx hb d_Md_rounded_254 (by decide) (fun c_10 => ?_) (fun c_10 => ?_)
    · have kc_10 := ((lg_cmp_le _ _).mp c_10)
      have h := h.1 kc_10
      exact jn_266 j245_6 j245_9 j245_13 h ls (lv_sub hl [0, 1, 2, 3, 4] rfl)
    · have kc_10 := (fun q => c_10 ((lg_cmp_le _ _).mpr q))
      have h := h.2 kc_10
      refine lv_lload hx hb d_Md_rounded_257 (lv_at hl 4 rfl) ?_
      refine lv_iconst (v := 1) hx hb d_Md_rounded_259 (by decide) ?_
      refine zz_llshr hx hb d_Md_rounded_260 ?_
      refine lv_topl (fun x_11 ex_11 => ?_)
      have h := h x_11 ex_11
      refine lv_lstore (lv' := [(13, .long x_11), (0, .int a0), (5, .int a4), (6, .int j245_6), (9, .int j245_9)]) hx hb d_Md_rounded_261 hl (by decide) rfl (fun ls hl => ?_)
      obtain ⟨x_12, ex_12⟩ : ∃ y : Int32, y = j245_9 + 1 := ⟨_, rfl⟩
      have h := h x_12 ex_12
      refine lv_iinc (v := x_12) (lv' := [(9, .int x_12), (13, .long x_11), (0, .int a0), (5, .int a4), (6, .int j245_6)]) hx hb d_Md_rounded_263 hl (k := 4) rfl (by rw [ex_12]; rfl) (by decide) rfl (fun ls hl => ?_)
      exact jn_266 j245_6 x_12 x_11 h ls (lv_sub hl [2, 3, 4, 0, 1] rfl)
  have jn_225 : ∀ (j225_6 : Int32) (j225_9 : Int32) (j225_12 : Int32) (j225_13 : Int64) (s225_0 : Int32), wj_Md_rounded_225 a0 a1 a2 a3 a4 P j225_6 j225_9 j225_12 j225_13 s225_0 → ∀ ls : Array Slot, lv_has ls 21 [(0, .int a0), (5, .int a4), (6, .int j225_6), (9, .int j225_9), (12, .int j225_12), (13, .long j225_13)] → W p l e (headSpec (zz_ws y_Md_rounded b_Md_rounded 21 (some .long)) rm_Md_rounded).room s m ([.int a0, .long a1, .int a2, .int a3, .int a4] : List Value).toArray below meth c s.heap [] 0 0 (MQ below (vp_Sl P) ([.int a0, .long a1, .int a2, .int a3, .int a4] : List Value).toArray s 0 0 (fun _ => False)) (F0 m 225 ls [.int s225_0]) := by
    intro j225_6 j225_9 j225_12 j225_13 s225_0 h ls hl
    unfold wj_Md_rounded_225 at h
    refine lv_istore (lv' := [(19, .int s225_0), (0, .int a0), (5, .int a4), (6, .int j225_6), (9, .int j225_9), (12, .int j225_12), (13, .long j225_13)]) hx hb d_Md_rounded_225 hl (by decide) rfl (fun ls hl => ?_)
    refine lv_iload hx hb d_Md_rounded_227 (lv_at hl 4 rfl) ?_
    refine lv_iload hx hb d_Md_rounded_229 (lv_at hl 5 rfl) ?_
    refine lv_iadd hx hb d_Md_rounded_231 ?_
    refine lv_topi (fun x_13 ex_13 => ?_)
    have h := h x_13 ex_13
    refine lv_istore (lv' := [(9, .int x_13), (19, .int s225_0), (0, .int a0), (5, .int a4), (6, .int j225_6), (12, .int j225_12), (13, .long j225_13)]) hx hb d_Md_rounded_232 hl (by decide) rfl (fun ls hl => ?_)
    refine lv_iload hx hb d_Md_rounded_234 (lv_at hl 1 rfl) ?_
    refine lv_if_eq (tgt := 245) hx hb d_Md_rounded_236 (by decide) (fun c_14 => ?_) (fun c_14 => ?_)
    · skip
      have h := h.1 c_14
      exact jn_245 j225_6 x_13 j225_13 h ls (lv_sub hl [2, 3, 4, 0, 6] rfl)
    · skip
      have h := h.2 c_14
      refine lv_lload hx hb d_Md_rounded_239 (lv_at hl 6 rfl) ?_
      refine lv_lconst (v := 1) hx hb d_Md_rounded_241 (by decide) ?_
      refine lv_ladd hx hb d_Md_rounded_242 ?_
      refine lv_topl (fun x_15 ex_15 => ?_)
      have h := h x_15 ex_15
      refine lv_lstore (lv' := [(13, .long x_15), (9, .int x_13), (19, .int s225_0), (0, .int a0), (5, .int a4), (6, .int j225_6), (12, .int j225_12)]) hx hb d_Md_rounded_243 hl (by decide) rfl (fun ls hl => ?_)
      exact jn_245 j225_6 x_13 x_15 h ls (lv_sub hl [3, 4, 5, 1, 0] rfl)
  have jn_224 : ∀ (j224_6 : Int32) (j224_9 : Int32) (j224_12 : Int32) (j224_13 : Int64), wj_Md_rounded_224 a0 a1 a2 a3 a4 P j224_6 j224_9 j224_12 j224_13 → ∀ ls : Array Slot, lv_has ls 21 [(0, .int a0), (5, .int a4), (6, .int j224_6), (9, .int j224_9), (12, .int j224_12), (13, .long j224_13)] → W p l e (headSpec (zz_ws y_Md_rounded b_Md_rounded 21 (some .long)) rm_Md_rounded).room s m ([.int a0, .long a1, .int a2, .int a3, .int a4] : List Value).toArray below meth c s.heap [] 0 0 (MQ below (vp_Sl P) ([.int a0, .long a1, .int a2, .int a3, .int a4] : List Value).toArray s 0 0 (fun _ => False)) (F0 m 224 ls []) := by
    intro j224_6 j224_9 j224_12 j224_13 h ls hl
    unfold wj_Md_rounded_224 at h
    refine lv_iconst (v := 0) hx hb d_Md_rounded_224 (by decide) ?_
    exact jn_225 j224_6 j224_9 j224_12 j224_13 (0 : Int32) h ls (lv_sub hl [0, 1, 2, 3, 4, 5] rfl)
  have jn_220 : ∀ (j220_6 : Int32) (j220_9 : Int32) (j220_12 : Int32) (j220_13 : Int64), wj_Md_rounded_220 a0 a1 a2 a3 a4 P j220_6 j220_9 j220_12 j220_13 → ∀ ls : Array Slot, lv_has ls 21 [(0, .int a0), (5, .int a4), (6, .int j220_6), (9, .int j220_9), (12, .int j220_12), (13, .long j220_13)] → W p l e (headSpec (zz_ws y_Md_rounded b_Md_rounded 21 (some .long)) rm_Md_rounded).room s m ([.int a0, .long a1, .int a2, .int a3, .int a4] : List Value).toArray below meth c s.heap [] 0 0 (MQ below (vp_Sl P) ([.int a0, .long a1, .int a2, .int a3, .int a4] : List Value).toArray s 0 0 (fun _ => False)) (F0 m 220 ls []) := by
    intro j220_6 j220_9 j220_12 j220_13 h ls hl
    unfold wj_Md_rounded_220 at h
    refine lv_iconst (v := 1) hx hb d_Md_rounded_220 (by decide) ?_
    refine lv_goto (tgt := 225) hx hb d_Md_rounded_221 (by decide) ?_
    exact jn_225 j220_6 j220_9 j220_12 j220_13 (1 : Int32) h ls (lv_sub hl [0, 1, 2, 3, 4, 5] rfl)
  have jn_148 : ∀ (j148_6 : Int32) (j148_9 : Int32) (j148_10 : Int32) (j148_12 : Int32) (j148_13 : Int64) (j148_15 : Int64) (s148_0 : Int64), wj_Md_rounded_148 a0 a1 a2 a3 a4 P j148_6 j148_9 j148_10 j148_12 j148_13 j148_15 s148_0 → ∀ ls : Array Slot, lv_has ls 21 [(0, .int a0), (5, .int a4), (6, .int j148_6), (9, .int j148_9), (10, .int j148_10), (12, .int j148_12), (13, .long j148_13), (15, .long j148_15)] → W p l e (headSpec (zz_ws y_Md_rounded b_Md_rounded 21 (some .long)) rm_Md_rounded).room s m ([.int a0, .long a1, .int a2, .int a3, .int a4] : List Value).toArray below meth c s.heap [] 0 0 (MQ below (vp_Sl P) ([.int a0, .long a1, .int a2, .int a3, .int a4] : List Value).toArray s 0 0 (fun _ => False)) (F0 m 148 ls [.long s148_0]) := by
    intro j148_6 j148_9 j148_10 j148_12 j148_13 j148_15 s148_0 h ls hl
    unfold wj_Md_rounded_148 at h
    refine lv_lstore (lv' := [(17, .long s148_0), (0, .int a0), (5, .int a4), (6, .int j148_6), (9, .int j148_9), (10, .int j148_10), (12, .int j148_12), (13, .long j148_13), (15, .long j148_15)]) hx hb d_Md_rounded_148 hl (by decide) rfl (fun ls hl => ?_)
    refine lv_iload hx hb d_Md_rounded_150 (lv_at hl 6 rfl) ?_
    refine lv_bipush (v := 63) hx hb d_Md_rounded_152 (by decide) ?_
    refine lv_icmp_gt (tgt := 224) hx hb d_Md_rounded_154 (by decide) (fun c_16 => ?_) (fun c_16 => ?_)
    · skip
      have h := h.1 c_16
      exact jn_224 j148_6 j148_9 j148_12 j148_13 h ls (lv_sub hl [1, 2, 3, 4, 6, 7] rfl)
    · skip
      have h := h.2 c_16
      refine lv_iload hx hb d_Md_rounded_157 (lv_at hl 6 rfl) ?_
      refine lv_bipush (v := 63) hx hb d_Md_rounded_159 (by decide) ?_
      refine lv_icmp_ne (tgt := 190) hx hb d_Md_rounded_161 (by decide) (fun c_17 => ?_) (fun c_17 => ?_)
      · skip
        have h := h.2 c_17
        refine lv_lload hx hb d_Md_rounded_190 (lv_at hl 8 rfl) ?_
        refine lv_lload hx hb d_Md_rounded_192 (lv_at hl 0 rfl) ?_
        refine W.lcmp hx hb d_Md_rounded_194 ?_
        refine lv_if_gt (tgt := 220) hx hb d_Md_rounded_195 (by decide) (fun c_18 => ?_) (fun c_18 => ?_)
        · have kc_18 := ((lg_cmp_gt _ _).mp c_18)
          have h := h.1 kc_18
          exact jn_220 j148_6 j148_9 j148_12 j148_13 h ls (lv_sub hl [1, 2, 3, 4, 6, 7] rfl)
        · have kc_18 := (fun q => c_18 ((lg_cmp_gt _ _).mpr q))
          have h := h.2 kc_18
          refine lv_lload hx hb d_Md_rounded_198 (lv_at hl 8 rfl) ?_
          refine lv_lload hx hb d_Md_rounded_200 (lv_at hl 0 rfl) ?_
          refine W.lcmp hx hb d_Md_rounded_202 ?_
          refine lv_if_ne (tgt := 224) hx hb d_Md_rounded_203 (by decide) (fun c_19 => ?_) (fun c_19 => ?_)
          · have kc_19 := (fun q => c_19 ((lg_cmp_eq _ _).mpr q))
            have h := h.2 kc_19
            exact jn_224 j148_6 j148_9 j148_12 j148_13 h ls (lv_sub hl [1, 2, 3, 4, 6, 7] rfl)
          · have kc_19 := ((lg_cmp_eq _ _).mp c_19)
            have h := h.1 kc_19
            refine lv_iload hx hb d_Md_rounded_206 (lv_at hl 5 rfl) ?_
            refine lv_if_ne (tgt := 220) hx hb d_Md_rounded_208 (by decide) (fun c_20 => ?_) (fun c_20 => ?_)
            · skip
              have h := h.2 c_20
              exact jn_220 j148_6 j148_9 j148_12 j148_13 h ls (lv_sub hl [1, 2, 3, 4, 6, 7] rfl)
            · skip
              have h := h.1 c_20
              refine lv_lload hx hb d_Md_rounded_211 (lv_at hl 7 rfl) ?_
              refine lv_lconst (v := 1) hx hb d_Md_rounded_213 (by decide) ?_
              refine lv_land hx hb d_Md_rounded_214 ?_
              refine lv_lconst (v := 1) hx hb d_Md_rounded_215 (by decide) ?_
              refine W.lcmp hx hb d_Md_rounded_216 ?_
              refine lv_if_ne (tgt := 224) hx hb d_Md_rounded_217 (by decide) (fun c_21 => ?_) (fun c_21 => ?_)
              · have kc_21 := (fun q => c_21 ((lg_cmp_eq _ _).mpr q))
                have h := h.2 kc_21
                exact jn_224 j148_6 j148_9 j148_12 j148_13 h ls (lv_sub hl [1, 2, 3, 4, 6, 7] rfl)
              · have kc_21 := ((lg_cmp_eq _ _).mp c_21)
                have h := h.1 kc_21
                exact jn_220 j148_6 j148_9 j148_12 j148_13 h ls (lv_sub hl [1, 2, 3, 4, 6, 7] rfl)
      · skip
        have h := h.1 c_17
        refine lv_lload hx hb d_Md_rounded_164 (lv_at hl 8 rfl) ?_
        refine lv_ldc2 (v := 4611686018427387904) hx hb hown (hT _ n_Md_233) d_Md_rounded_166 ?_
        refine W.lcmp hx hb d_Md_rounded_169 ?_
        refine lv_if_gt (tgt := 220) hx hb d_Md_rounded_170 (by decide) (fun c_22 => ?_) (fun c_22 => ?_)
        · have kc_22 := ((lg_cmp_gt _ _).mp c_22)
          have h := h.1 kc_22
          exact jn_220 j148_6 j148_9 j148_12 j148_13 h ls (lv_sub hl [1, 2, 3, 4, 6, 7] rfl)
        · have kc_22 := (fun q => c_22 ((lg_cmp_gt _ _).mpr q))
          have h := h.2 kc_22
          refine lv_lload hx hb d_Md_rounded_173 (lv_at hl 8 rfl) ?_
          refine lv_ldc2 (v := 4611686018427387904) hx hb hown (hT _ n_Md_233) d_Md_rounded_175 ?_
          refine W.lcmp hx hb d_Md_rounded_178 ?_
          refine lv_if_ne (tgt := 224) hx hb d_Md_rounded_179 (by decide) (fun c_23 => ?_) (fun c_23 => ?_)
          · have kc_23 := (fun q => c_23 ((lg_cmp_eq _ _).mpr q))
            have h := h.2 kc_23
            exact jn_224 j148_6 j148_9 j148_12 j148_13 h ls (lv_sub hl [1, 2, 3, 4, 6, 7] rfl)
          · have kc_23 := ((lg_cmp_eq _ _).mp c_23)
            have h := h.1 kc_23
            refine lv_iload hx hb d_Md_rounded_182 (lv_at hl 5 rfl) ?_
            refine lv_if_eq (tgt := 224) hx hb d_Md_rounded_184 (by decide) (fun c_24 => ?_) (fun c_24 => ?_)
            · skip
              have h := h.1 c_24
              exact jn_224 j148_6 j148_9 j148_12 j148_13 h ls (lv_sub hl [1, 2, 3, 4, 6, 7] rfl)
            · skip
              have h := h.2 c_24
              refine lv_goto (tgt := 220) hx hb d_Md_rounded_187 (by decide) ?_
              exact jn_220 j148_6 j148_9 j148_12 j148_13 h ls (lv_sub hl [1, 2, 3, 4, 6, 7] rfl)
  have jn_129 : ∀ (j129_6 : Int32) (j129_9 : Int32) (j129_10 : Int32) (j129_12 : Int32) (j129_13 : Int64) (s129_0 : Int64), wj_Md_rounded_129 a0 a1 a2 a3 a4 P j129_6 j129_9 j129_10 j129_12 j129_13 s129_0 → ∀ ls : Array Slot, lv_has ls 21 [(0, .int a0), (5, .int a4), (6, .int j129_6), (9, .int j129_9), (10, .int j129_10), (12, .int j129_12), (13, .long j129_13)] → W p l e (headSpec (zz_ws y_Md_rounded b_Md_rounded 21 (some .long)) rm_Md_rounded).room s m ([.int a0, .long a1, .int a2, .int a3, .int a4] : List Value).toArray below meth c s.heap [] 0 0 (MQ below (vp_Sl P) ([.int a0, .long a1, .int a2, .int a3, .int a4] : List Value).toArray s 0 0 (fun _ => False)) (F0 m 129 ls [.long s129_0]) := by
    intro j129_6 j129_9 j129_10 j129_12 j129_13 s129_0 h ls hl
    unfold wj_Md_rounded_129 at h
    refine lv_lstore (lv' := [(15, .long s129_0), (0, .int a0), (5, .int a4), (6, .int j129_6), (9, .int j129_9), (10, .int j129_10), (12, .int j129_12), (13, .long j129_13)]) hx hb d_Md_rounded_129 hl (by decide) rfl (fun ls hl => ?_)
    refine lv_iload hx hb d_Md_rounded_131 (lv_at hl 6 rfl) ?_
    refine lv_bipush (v := 63) hx hb d_Md_rounded_133 (by decide) ?_
    refine lv_icmp_le (tgt := 142) hx hb d_Md_rounded_135 (by decide) (fun c_25 => ?_) (fun c_25 => ?_)
    · skip
      have h := h.1 c_25
      refine lv_lconst (v := 1) hx hb d_Md_rounded_142 (by decide) ?_
      refine lv_iload hx hb d_Md_rounded_143 (lv_at hl 6 rfl) ?_
      refine lv_iconst (v := 1) hx hb d_Md_rounded_145 (by decide) ?_
      refine lv_isub hx hb d_Md_rounded_146 ?_
      refine zz_llshl hx hb d_Md_rounded_147 ?_
      refine lv_topl (fun x_26 ex_26 => ?_)
      have h := h x_26 ex_26
      exact jn_148 j129_6 j129_9 j129_10 j129_12 j129_13 s129_0 x_26 h ls (lv_sub hl [1, 2, 3, 4, 5, 6, 7, 0] rfl)
    · skip
      have h := h.2 c_25
      refine lv_lconst (v := 0) hx hb d_Md_rounded_138 (by decide) ?_
      refine lv_goto (tgt := 148) hx hb d_Md_rounded_139 (by decide) ?_
      exact jn_148 j129_6 j129_9 j129_10 j129_12 j129_13 s129_0 (0 : Int64) h ls (lv_sub hl [1, 2, 3, 4, 5, 6, 7, 0] rfl)
  have jn_106 : ∀ (j106_6 : Int32) (j106_7 : Int64) (j106_9 : Int32) (j106_10 : Int32) (j106_12 : Int32) (s106_0 : Int64), wj_Md_rounded_106 a0 a1 a2 a3 a4 P j106_6 j106_7 j106_9 j106_10 j106_12 s106_0 → ∀ ls : Array Slot, lv_has ls 21 [(0, .int a0), (5, .int a4), (6, .int j106_6), (7, .long j106_7), (9, .int j106_9), (10, .int j106_10), (12, .int j106_12)] → W p l e (headSpec (zz_ws y_Md_rounded b_Md_rounded 21 (some .long)) rm_Md_rounded).room s m ([.int a0, .long a1, .int a2, .int a3, .int a4] : List Value).toArray below meth c s.heap [] 0 0 (MQ below (vp_Sl P) ([.int a0, .long a1, .int a2, .int a3, .int a4] : List Value).toArray s 0 0 (fun _ => False)) (F0 m 106 ls [.long s106_0]) := by
    intro j106_6 j106_7 j106_9 j106_10 j106_12 s106_0 h ls hl
    unfold wj_Md_rounded_106 at h
    refine lv_lstore (lv' := [(13, .long s106_0), (0, .int a0), (5, .int a4), (6, .int j106_6), (7, .long j106_7), (9, .int j106_9), (10, .int j106_10), (12, .int j106_12)]) hx hb d_Md_rounded_106 hl (by decide) rfl (fun ls hl => ?_)
    refine lv_iload hx hb d_Md_rounded_108 (lv_at hl 7 rfl) ?_
    refine lv_bipush (v := 62) hx hb d_Md_rounded_110 (by decide) ?_
    refine lv_icmp_le (tgt := 120) hx hb d_Md_rounded_112 (by decide) (fun c_27 => ?_) (fun c_27 => ?_)
    · skip
      have h := h.1 c_27
      refine lv_lload hx hb d_Md_rounded_120 (lv_at hl 4 rfl) ?_
      refine lv_lconst (v := 1) hx hb d_Md_rounded_122 (by decide) ?_
      refine lv_iload hx hb d_Md_rounded_123 (lv_at hl 7 rfl) ?_
      refine zz_llshl hx hb d_Md_rounded_125 ?_
      refine lv_topl (fun x_28 ex_28 => ?_)
      have h := h x_28 ex_28
      refine lv_lconst (v := 1) hx hb d_Md_rounded_126 (by decide) ?_
      refine lv_lsub hx hb d_Md_rounded_127 ?_
      refine lv_land hx hb d_Md_rounded_128 ?_
      refine lv_topl (fun x_29 ex_29 => ?_)
      have h := h x_29 ex_29
      exact jn_129 j106_6 j106_9 j106_10 j106_12 s106_0 x_29 h ls (lv_sub hl [1, 2, 3, 5, 6, 7, 0] rfl)
    · skip
      have h := h.2 c_27
      refine lv_lload hx hb d_Md_rounded_115 (lv_at hl 4 rfl) ?_
      refine lv_goto (tgt := 129) hx hb d_Md_rounded_117 (by decide) ?_
      exact jn_129 j106_6 j106_9 j106_10 j106_12 s106_0 j106_7 h ls (lv_sub hl [1, 2, 3, 5, 6, 7, 0] rfl)
  have jn_75 : ∀ (j75_6 : Int32) (j75_7 : Int64) (j75_9 : Int32) (j75_10 : Int32) (j75_12 : Int32), wj_Md_rounded_75 a0 a1 a2 a3 a4 P j75_6 j75_7 j75_9 j75_10 j75_12 → ∀ ls : Array Slot, lv_has ls 21 [(0, .int a0), (5, .int a4), (6, .int j75_6), (7, .long j75_7), (9, .int j75_9), (10, .int j75_10), (12, .int j75_12)] → W p l e (headSpec (zz_ws y_Md_rounded b_Md_rounded 21 (some .long)) rm_Md_rounded).room s m ([.int a0, .long a1, .int a2, .int a3, .int a4] : List Value).toArray below meth c s.heap [] 0 0 (MQ below (vp_Sl P) ([.int a0, .long a1, .int a2, .int a3, .int a4] : List Value).toArray s 0 0 (fun _ => False)) (F0 m 75 ls []) := by
    intro j75_6 j75_7 j75_9 j75_10 j75_12 h ls hl
    unfold wj_Md_rounded_75 at h
    refine lv_iload hx hb d_Md_rounded_75 (lv_at hl 6 rfl) ?_
    refine lv_bipush (v := 64) hx hb d_Md_rounded_77 (by decide) ?_
    refine lv_icmp_le (tgt := 90) hx hb d_Md_rounded_79 (by decide) (fun c_30 => ?_) (fun c_30 => ?_)
    · skip
      have h := h.1 c_30
      refine lv_iload hx hb d_Md_rounded_90 (lv_at hl 6 rfl) ?_
      refine lv_bipush (v := 62) hx hb d_Md_rounded_92 (by decide) ?_
      refine lv_icmp_le (tgt := 101) hx hb d_Md_rounded_94 (by decide) (fun c_31 => ?_) (fun c_31 => ?_)
      · skip
        have h := h.1 c_31
        refine lv_lload hx hb d_Md_rounded_101 (lv_at hl 3 rfl) ?_
        refine lv_iload hx hb d_Md_rounded_103 (lv_at hl 6 rfl) ?_
        refine zz_llshr hx hb d_Md_rounded_105 ?_
        exact jn_106 j75_6 j75_7 j75_9 j75_10 j75_12 (zz_lshr j75_7 j75_12) h ls (lv_sub hl [0, 1, 2, 3, 4, 5, 6] rfl)
      · skip
        have h := h.2 c_31
        refine lv_lconst (v := 0) hx hb d_Md_rounded_97 (by decide) ?_
        refine lv_goto (tgt := 106) hx hb d_Md_rounded_98 (by decide) ?_
        exact jn_106 j75_6 j75_7 j75_9 j75_10 j75_12 (0 : Int64) h ls (lv_sub hl [0, 1, 2, 3, 4, 5, 6] rfl)
    · skip
      have h := h.2 c_30
      refine lv_iload_n hx hb d_Md_rounded_82 rfl (lv_at hl 0 rfl) ?_
      refine lv_iload hx hb d_Md_rounded_83 (lv_at hl 1 rfl) ?_
      refine lv_lconst (v := 0) hx hb d_Md_rounded_85 (by decide) ?_
      refine zz_Sl (As := [.int a0, .int a4, .long (0 : Int64)]) (rest := []) X (c_Md_signed l a0 a4 (0 : Int64) _ h) ⟨rfl, rfl⟩ m_Md_signed k_Md_229 ⟨Nat.le_of_ble_eq_true rfl, Nat.le_of_ble_eq_true rfl⟩ rfl hl.1 rfl (Nat.le_of_ble_eq_true rfl) d_Md_rounded_86 hf0 (fun r_32 h => ?_)
      exact W.lret (v := r_32) hx hb hr (fun t ht hW => ⟨r_32,  rfl, h, ht⟩) t_nil d_Md_rounded_89
  refine lv_iload hx hb d_Md_rounded_0 (lv_at hl 4 rfl) ?_
  refine zz_Si (As := [.int a4]) (rest := []) X (c_Md_digits l a4 _ h) ⟨rfl, rfl⟩ m_Md_digits k_Md_190 ⟨Nat.le_of_ble_eq_true rfl, Nat.le_of_ble_eq_true rfl⟩ rfl hl.1 rfl (Nat.le_of_ble_eq_true rfl) d_Md_rounded_2 hf0 (fun r_33 h => ?_)
  refine lv_istore (lv' := [(6, .int r_33), (0, .int a0), (1, .long a1), (3, .int a2), (4, .int a3), (5, .int a4)]) hx hb d_Md_rounded_5 hl (by decide) rfl (fun ls hl => ?_)
  refine lv_lload_n hx hb d_Md_rounded_7 rfl (lv_at hl 2 rfl) ?_
  refine lv_lstore (lv' := [(7, .long a1), (6, .int r_33), (0, .int a0), (1, .long a1), (3, .int a2), (4, .int a3), (5, .int a4)]) hx hb d_Md_rounded_8 hl (by decide) rfl (fun ls hl => ?_)
  refine lv_iload_n hx hb d_Md_rounded_10 rfl (lv_at hl 4 rfl) ?_
  refine lv_istore (lv' := [(9, .int a2), (7, .long a1), (6, .int r_33), (0, .int a0), (1, .long a1), (3, .int a2), (4, .int a3), (5, .int a4)]) hx hb d_Md_rounded_11 hl (by decide) rfl (fun ls hl => ?_)
  refine lv_iload hx hb d_Md_rounded_13 (lv_at hl 6 rfl) ?_
  refine lv_istore (lv' := [(10, .int a3), (9, .int a2), (7, .long a1), (6, .int r_33), (0, .int a0), (1, .long a1), (3, .int a2), (4, .int a3), (5, .int a4)]) hx hb d_Md_rounded_15 hl (by decide) rfl (fun ls hl => ?_)
  have lp : ∀ (n : Nat) (v10 : Int32) (v9 : Int32) (v7 : Int64) (v6 : Int32), wl_Md_rounded_17 a0 a1 a2 a3 a4 P n v10 v9 v7 v6 → ∀ ls : Array Slot, lv_has ls 21 [(10, .int v10), (9, .int v9), (7, .long v7), (6, .int v6), (0, .int a0), (1, .long a1), (3, .int a2), (4, .int a3), (5, .int a4)] → W p l e (headSpec (zz_ws y_Md_rounded b_Md_rounded 21 (some .long)) rm_Md_rounded).room s m ([.int a0, .long a1, .int a2, .int a3, .int a4] : List Value).toArray below meth c s.heap [] 0 0 (MQ below (vp_Sl P) ([.int a0, .long a1, .int a2, .int a3, .int a4] : List Value).toArray s 0 0 (fun _ => False)) (F0 m 17 ls []) := by
    intro n
    induction n with
    | zero =>
      intro v10 v9 v7 v6 h
      exact False.elim h
    | succ n ih =>
      intro v10 v9 v7 v6 h ls hl
      rw [wl_Md_rounded_17] at h
      refine lv_lload hx hb d_Md_rounded_17 (lv_at hl 2 rfl) ?_
      refine lv_bipush (v := 62) hx hb d_Md_rounded_19 (by decide) ?_
      refine zz_llshr hx hb d_Md_rounded_21 ?_
      refine lv_lconst (v := 0) hx hb d_Md_rounded_22 (by decide) ?_
      refine W.lcmp hx hb d_Md_rounded_23 ?_
      refine lv_if_ne (tgt := 39) hx hb d_Md_rounded_24 (by decide) (fun c_34 => ?_) (fun c_34 => ?_)
      · have kc_34 := (fun q => c_34 ((lg_cmp_eq _ _).mpr q))
        have h := h.2 kc_34
        refine lv_iconst (v := 1) hx hb d_Md_rounded_39 (by decide) ?_
        refine lv_iload hx hb d_Md_rounded_40 (lv_at hl 8 rfl) ?_
        refine zz_Si (As := [.int a4]) (rest := [.int (1 : Int32)]) X (c_Md_bias l a4 _ h) ⟨rfl, rfl⟩ m_Md_bias k_Md_204 ⟨Nat.le_of_ble_eq_true rfl, Nat.le_of_ble_eq_true rfl⟩ rfl hl.1 rfl (Nat.le_of_ble_eq_true rfl) d_Md_rounded_42 hf0 (fun r_35 h => ?_)
        refine lv_isub hx hb d_Md_rounded_45 ?_
        refine lv_iload hx hb d_Md_rounded_46 (lv_at hl 3 rfl) ?_
        refine lv_isub hx hb d_Md_rounded_48 ?_
        refine lv_topi (fun x_36 ex_36 => ?_)
        have h := h x_36 ex_36
        refine lv_istore (lv' := [(11, .int x_36), (10, .int v10), (9, .int v9), (7, .long v7), (6, .int v6), (0, .int a0), (1, .long a1), (3, .int a2), (4, .int a3), (5, .int a4)]) hx hb d_Md_rounded_49 hl (by decide) rfl (fun ls hl => ?_)
        refine lv_bipush (v := 62) hx hb d_Md_rounded_51 (by decide) ?_
        refine lv_iload hx hb d_Md_rounded_53 (lv_at hl 4 rfl) ?_
        refine lv_isub hx hb d_Md_rounded_55 ?_
        refine lv_topi (fun x_37 ex_37 => ?_)
        have h := h x_37 ex_37
        refine lv_istore (lv' := [(12, .int x_37), (11, .int x_36), (10, .int v10), (9, .int v9), (7, .long v7), (6, .int v6), (0, .int a0), (1, .long a1), (3, .int a2), (4, .int a3), (5, .int a4)]) hx hb d_Md_rounded_56 hl (by decide) rfl (fun ls hl => ?_)
        refine lv_iload hx hb d_Md_rounded_58 (lv_at hl 3 rfl) ?_
        refine lv_iload hx hb d_Md_rounded_60 (lv_at hl 0 rfl) ?_
        refine lv_iadd hx hb d_Md_rounded_62 ?_
        refine lv_iload hx hb d_Md_rounded_63 (lv_at hl 1 rfl) ?_
        refine lv_icmp_ge (tgt := 75) hx hb d_Md_rounded_65 (by decide) (fun c_38 => ?_) (fun c_38 => ?_)
        · skip
          have h := h.1 c_38
          exact jn_75 v6 v7 v9 v10 x_37 h ls (lv_sub hl [6, 10, 5, 4, 3, 2, 0] rfl)
        · skip
          have h := h.2 c_38
          refine lv_iload hx hb d_Md_rounded_68 (lv_at hl 1 rfl) ?_
          refine lv_iload hx hb d_Md_rounded_70 (lv_at hl 3 rfl) ?_
          refine lv_isub hx hb d_Md_rounded_72 ?_
          refine lv_topi (fun x_39 ex_39 => ?_)
          have h := h x_39 ex_39
          refine lv_istore (lv' := [(12, .int x_39), (11, .int x_36), (10, .int v10), (9, .int v9), (7, .long v7), (6, .int v6), (0, .int a0), (1, .long a1), (3, .int a2), (4, .int a3), (5, .int a4)]) hx hb d_Md_rounded_73 hl (by decide) rfl (fun ls hl => ?_)
          exact jn_75 v6 v7 v9 v10 x_39 h ls (lv_sub hl [6, 10, 5, 4, 3, 2, 0] rfl)
      · have kc_34 := ((lg_cmp_eq _ _).mp c_34)
        have h := h.1 kc_34
        refine lv_lload hx hb d_Md_rounded_27 (lv_at hl 2 rfl) ?_
        refine lv_iconst (v := 1) hx hb d_Md_rounded_29 (by decide) ?_
        refine zz_llshl hx hb d_Md_rounded_30 ?_
        refine lv_topl (fun x_40 ex_40 => ?_)
        have h := h x_40 ex_40
        refine lv_lstore (lv' := [(7, .long x_40), (10, .int v10), (9, .int v9), (6, .int v6), (0, .int a0), (1, .long a1), (3, .int a2), (4, .int a3), (5, .int a4)]) hx hb d_Md_rounded_31 hl (by decide) rfl (fun ls hl => ?_)
        obtain ⟨x_41, ex_41⟩ : ∃ y : Int32, y = v9 + (-1) := ⟨_, rfl⟩
        have h := h x_41 ex_41
        refine lv_iinc (v := x_41) (lv' := [(9, .int x_41), (7, .long x_40), (10, .int v10), (6, .int v6), (0, .int a0), (1, .long a1), (3, .int a2), (4, .int a3), (5, .int a4)]) hx hb d_Md_rounded_33 hl (k := 2) rfl (by rw [ex_41]; rfl) (by decide) rfl (fun ls hl => ?_)
        refine lv_goto (tgt := 17) hx hb d_Md_rounded_36 (by decide) ?_
        exact ih v10 x_41 x_40 v6 h ls (lv_sub hl [2, 0, 1, 3, 4, 5, 6, 7, 8] rfl)
  obtain ⟨n, h⟩ := h
  exact lp n a3 a2 a1 r_33 h ls hl
def wp_Md_secondBits (ms : Int32) (dd : Nat → Int32) (Lwhole : Int64) (Lwhole2 : Int64) (bm : Nat → Int32) (rr : Nat → Int32) (kt : Nat → Int32) (a0 : Int32) (P : Int64 → Prop) : Prop := (((dd 16) = (2 : Int32) → wp_Md_endless (dd 19) a0 (fun r_5 => P r_5)) ∧ (¬ (dd 16) = (2 : Int32) → (((dd 16) = (0 : Int32) → wp_Md_signed (dd 19) a0 (0 : Int64) (fun r_4 => P r_4)) ∧ (¬ (dd 16) = (0 : Int32) → wp_Md_rounded (dd 19) Lwhole2 (dd 17) (0 : Int32) a0 (fun r_3 => P r_3)))))
abbrev rm_Md_secondBits : Room := { frames := 3, cells := 0, slots := 0, locals := 84 }
set_option maxHeartbeats 4000000 in
set_option maxRecDepth 100000 in
theorem c_Md_secondBits (l : Launch) (D : va_G) (cI : ClassId) (cB : ClassId) (qd : Nat) (qmemory : Nat) (qr : Nat) (qcounts : Nat) (ms : Int32) (dd : Nat → Int32) (Lwhole : Int64) (Lwhole2 : Int64) (bm : Nat → Int32) (rr : Nat → Int32) (kt : Nat → Int32) (a0 : Int32) (P : Int64 → Prop) (h : wp_Md_secondBits ms dd Lwhole Lwhole2 bm rr kt a0 P) : Met l y_Md_secondBits (zz_ws y_Md_secondBits b_Md_secondBits 2 (some .long)) rm_Md_secondBits (va_Pc [.ref qd, .int a0] (zz_pr D [(cI, .int), (cB, .byte)] (wD qd qmemory qr qcounts cI cB ms dd Lwhole Lwhole2 bm rr kt))) (vp_Sl P) 0 0 (fun _ => False) := by
  refine Met.ofW (cc := b_Md_secondBits) (maxL := 2) (ret := (some .long)) (by decide) rfl ?_
  intro p e s m args below meth c s₁ B hml hv
  obtain ⟨rfl, hP, hK⟩ := hv
  have hx := B.exec
  have hb := B.bytes
  have hr := B.returns
  have hts := atoms_spec (ws := (zz_ws y_Md_secondBits b_Md_secondBits 2 (some .long))) B.pre
  have hown : s.vm.findClass R_Md = some m.cls := findClass_of_methodNamed B.named
  have hlocks := B.notSynchronized
  have hT := zz_hts hts
  have X : CallFix p m c b_Md_secondBits 2 s ([.ref qd, .int a0] : List Value).toArray (zz_ws y_Md_secondBits b_Md_secondBits 2 (some .long)) R_Md := ⟨hx, hb, hml, hown, hts⟩
  have hf0 : 0 + 0 ≤ (headSpec (zz_ws y_Md_secondBits b_Md_secondBits 2 (some .long)) rm_Md_secondBits).room.cells ∧ 0 + 0 ≤ (headSpec (zz_ws y_Md_secondBits b_Md_secondBits 2 (some .long)) rm_Md_secondBits).room.slots := ⟨Nat.le_of_ble_eq_true rfl, Nat.le_of_ble_eq_true rfl⟩
  have hl := lv_entry ([.ref qd, .int a0]) (n := 2) (Nat.le_of_ble_eq_true rfl)
  rw [lg_entry_eq]
  generalize (lg_sl ([.ref qd, .int a0]) ++ List.replicate (2 - (lg_sl ([.ref qd, .int a0])).length) Slot.unset).toArray = ls at hl ⊢
  have hl : lv_has ls 2 [(0, .ref qd), (1, .int a0)] := hl
  refine lv_aload_n hx hb d_Md_secondBits_0 rfl (lv_at hl 0 rfl) ?_
  refine g_Md_213 (v := .int (dd 16)) hx hb hT hown hK hP 0 rfl rfl d_Md_secondBits_1 ?_
  refine lv_iconst (v := 2) hx hb d_Md_secondBits_4 (by decide) ?_
  refine lv_icmp_ne (tgt := 19) hx hb d_Md_secondBits_5 (by decide) (fun c_1 => ?_) (fun c_1 => ?_)
  · skip
    have h := h.2 c_1
    refine lv_aload_n hx hb d_Md_secondBits_19 rfl (lv_at hl 0 rfl) ?_
    refine g_Md_213 (v := .int (dd 16)) hx hb hT hown hK hP 0 rfl rfl d_Md_secondBits_20 ?_
    refine lv_if_ne (tgt := 38) hx hb d_Md_secondBits_23 (by decide) (fun c_2 => ?_) (fun c_2 => ?_)
    · skip
      have h := h.2 c_2
      refine lv_aload_n hx hb d_Md_secondBits_38 rfl (lv_at hl 0 rfl) ?_
      refine g_Md_216 (v := .int (dd 19)) hx hb hT hown hK hP 0 rfl rfl d_Md_secondBits_39 ?_
      refine lv_aload_n hx hb d_Md_secondBits_42 rfl (lv_at hl 0 rfl) ?_
      refine g_Md_219 (v := .long Lwhole2) hx hb hT hown hK hP 0 rfl rfl d_Md_secondBits_43 ?_
      refine lv_aload_n hx hb d_Md_secondBits_46 rfl (lv_at hl 0 rfl) ?_
      refine g_Md_222 (v := .int (dd 17)) hx hb hT hown hK hP 0 rfl rfl d_Md_secondBits_47 ?_
      refine lv_iconst (v := 0) hx hb d_Md_secondBits_50 (by decide) ?_
      refine lv_iload_n hx hb d_Md_secondBits_51 rfl (lv_at hl 1 rfl) ?_
      refine zz_Sl (As := [.int (dd 19), .long Lwhole2, .int (dd 17), .int (0 : Int32), .int a0]) (rest := []) X (c_Md_rounded l (dd 19) Lwhole2 (dd 17) (0 : Int32) a0 _ h) ⟨rfl, rfl⟩ m_Md_rounded k_Md_246 ⟨Nat.le_of_ble_eq_true rfl, Nat.le_of_ble_eq_true rfl⟩ rfl hl.1 rfl (Nat.le_of_ble_eq_true rfl) d_Md_secondBits_52 hf0 (fun r_3 h => ?_)
      exact W.lret (v := r_3) hx hb hr (fun t ht hW => ⟨r_3,  rfl, h, ht⟩) t_nil d_Md_secondBits_55
    · skip
      have h := h.1 c_2
      refine lv_aload_n hx hb d_Md_secondBits_26 rfl (lv_at hl 0 rfl) ?_
      refine g_Md_216 (v := .int (dd 19)) hx hb hT hown hK hP 0 rfl rfl d_Md_secondBits_27 ?_
      refine lv_iload_n hx hb d_Md_secondBits_30 rfl (lv_at hl 1 rfl) ?_
      refine lv_lconst (v := 0) hx hb d_Md_secondBits_31 (by decide) ?_
      refine zz_Sl (As := [.int (dd 19), .int a0, .long (0 : Int64)]) (rest := []) X (c_Md_signed l (dd 19) a0 (0 : Int64) _ h) ⟨rfl, rfl⟩ m_Md_signed k_Md_229 ⟨Nat.le_of_ble_eq_true rfl, Nat.le_of_ble_eq_true rfl⟩ rfl hl.1 rfl (Nat.le_of_ble_eq_true rfl) d_Md_secondBits_32 hf0 (fun r_4 h => ?_)
      refine lv_goto (tgt := 55) hx hb d_Md_secondBits_35 (by decide) ?_
      exact W.lret (v := r_4) hx hb hr (fun t ht hW => ⟨r_4,  rfl, h, ht⟩) t_nil d_Md_secondBits_55
  · skip
    have h := h.1 c_1
    refine lv_aload_n hx hb d_Md_secondBits_8 rfl (lv_at hl 0 rfl) ?_
    refine g_Md_216 (v := .int (dd 19)) hx hb hT hown hK hP 0 rfl rfl d_Md_secondBits_9 ?_
    refine lv_iload_n hx hb d_Md_secondBits_12 rfl (lv_at hl 1 rfl) ?_
    refine zz_Sl (As := [.int (dd 19), .int a0]) (rest := []) X (c_Md_endless l (dd 19) a0 _ h) ⟨rfl, rfl⟩ m_Md_endless k_Md_235 ⟨Nat.le_of_ble_eq_true rfl, Nat.le_of_ble_eq_true rfl⟩ rfl hl.1 rfl (Nat.le_of_ble_eq_true rfl) d_Md_secondBits_13 hf0 (fun r_5 h => ?_)
    refine lv_goto (tgt := 55) hx hb d_Md_secondBits_16 (by decide) ?_
    exact W.lret (v := r_5) hx hb hr (fun t ht hW => ⟨r_5,  rfl, h, ht⟩) t_nil d_Md_secondBits_55
def wj_Md_sum_JZJ_411 (ms : Int32) (a0 : Int64) (a1 : Int32) (dd : Nat → Int32) (Lwhole : Int64) (Lwhole2 : Int64) (bm : Nat → Int32) (rr : Nat → Int32) (kt : Nat → Int32) (P : Int64 → Prop) (s411_0 : Int32) (s411_1 : Int64) (s411_2 : Int32) (s411_3 : Int32) : Prop := wp_Md_rounded s411_0 s411_1 s411_2 s411_3 a1 (fun r_1 => P r_1)
def wj_Md_sum_JZJ_406 (ms : Int32) (a0 : Int64) (a1 : Int32) (dd : Nat → Int32) (Lwhole : Int64) (Lwhole2 : Int64) (bm : Nat → Int32) (rr : Nat → Int32) (kt : Nat → Int32) (P : Int64 → Prop) (s406_0 : Int32) (s406_1 : Int64) (s406_2 : Int32) : Prop := wj_Md_sum_JZJ_411 ms a0 a1 dd Lwhole Lwhole2 bm rr kt P s406_0 s406_1 s406_2 (1 : Int32)
def wj_Md_sum_JZJ_364 (ms : Int32) (a0 : Int64) (a1 : Int32) (dd : Nat → Int32) (Lwhole : Int64) (Lwhole2 : Int64) (bm : Nat → Int32) (rr : Nat → Int32) (kt : Nat → Int32) (P : Int64 → Prop) (j364_9 : Int32) (j364_11 : Int32) (j364_13 : Int32) (s364_0 : Int64) : Prop := ((s364_0 = (0 : Int64) → P (0 : Int64)) ∧ (¬ s364_0 = (0 : Int64) → (((0 : Int64) ≤ s364_0 → wp_Md_rounded j364_11 s364_0 j364_9 j364_13 a1 (fun r_4 => P r_4)) ∧ (¬ (0 : Int64) ≤ s364_0 → ∀ x_5 : Int64, x_5 = (zz_lushr s364_0 (1 : Int32)) → ((j364_13 = (0 : Int32) → (((s364_0 &&& (1 : Int64)) = (1 : Int64) → wj_Md_sum_JZJ_406 ms a0 a1 dd Lwhole Lwhole2 bm rr kt P j364_11 x_5 (j364_9 + (1 : Int32))) ∧ (¬ (s364_0 &&& (1 : Int64)) = (1 : Int64) → wj_Md_sum_JZJ_411 ms a0 a1 dd Lwhole Lwhole2 bm rr kt P j364_11 x_5 (j364_9 + (1 : Int32)) (0 : Int32)))) ∧ (¬ j364_13 = (0 : Int32) → wj_Md_sum_JZJ_406 ms a0 a1 dd Lwhole Lwhole2 bm rr kt P j364_11 x_5 (j364_9 + (1 : Int32))))))))
def wj_Md_sum_JZJ_363 (ms : Int32) (a0 : Int64) (a1 : Int32) (dd : Nat → Int32) (Lwhole : Int64) (Lwhole2 : Int64) (bm : Nat → Int32) (rr : Nat → Int32) (kt : Nat → Int32) (P : Int64 → Prop) (j363_9 : Int32) (j363_11 : Int32) (j363_13 : Int32) (s363_0 : Int64) (s363_1 : Int64) : Prop := wj_Md_sum_JZJ_364 ms a0 a1 dd Lwhole Lwhole2 bm rr kt P j363_9 j363_11 j363_13 (s363_0 - s363_1)
def wj_Md_sum_JZJ_333 (ms : Int32) (a0 : Int64) (a1 : Int32) (dd : Nat → Int32) (Lwhole : Int64) (Lwhole2 : Int64) (bm : Nat → Int32) (rr : Nat → Int32) (kt : Nat → Int32) (P : Int64 → Prop) (j333_5 : Int64) (j333_9 : Int32) (j333_11 : Int32) (j333_12 : Int32) (j333_13 : Int32) (s333_0 : Int64) : Prop := ((j333_12 = (0 : Int32) → ((j333_13 = (0 : Int32) → wj_Md_sum_JZJ_363 ms a0 a1 dd Lwhole Lwhole2 bm rr kt P j333_9 j333_11 j333_13 (j333_5 - s333_0) (0 : Int64)) ∧ (¬ j333_13 = (0 : Int32) → wj_Md_sum_JZJ_363 ms a0 a1 dd Lwhole Lwhole2 bm rr kt P j333_9 j333_11 j333_13 (j333_5 - s333_0) (1 : Int64)))) ∧ (¬ j333_12 = (0 : Int32) → wj_Md_sum_JZJ_364 ms a0 a1 dd Lwhole Lwhole2 bm rr kt P j333_9 j333_11 j333_13 (j333_5 + s333_0)))
def wj_Md_sum_JZJ_315 (ms : Int32) (a0 : Int64) (a1 : Int32) (dd : Nat → Int32) (Lwhole : Int64) (Lwhole2 : Int64) (bm : Nat → Int32) (rr : Nat → Int32) (kt : Nat → Int32) (P : Int64 → Prop) (j315_5 : Int64) (j315_7 : Int64) (j315_9 : Int32) (j315_10 : Int32) (j315_11 : Int32) (j315_12 : Int32) (s315_0 : Int32) : Prop := ((j315_10 ≤ (62 : Int32) → wj_Md_sum_JZJ_333 ms a0 a1 dd Lwhole Lwhole2 bm rr kt P j315_5 j315_9 j315_11 j315_12 s315_0 (zz_lshr j315_7 j315_10)) ∧ (¬ j315_10 ≤ (62 : Int32) → wj_Md_sum_JZJ_333 ms a0 a1 dd Lwhole Lwhole2 bm rr kt P j315_5 j315_9 j315_11 j315_12 s315_0 (0 : Int64)))
def wj_Md_sum_JZJ_310 (ms : Int32) (a0 : Int64) (a1 : Int32) (dd : Nat → Int32) (Lwhole : Int64) (Lwhole2 : Int64) (bm : Nat → Int32) (rr : Nat → Int32) (kt : Nat → Int32) (P : Int64 → Prop) (j310_5 : Int64) (j310_7 : Int64) (j310_9 : Int32) (j310_10 : Int32) (j310_11 : Int32) (j310_12 : Int32) : Prop := wj_Md_sum_JZJ_315 ms a0 a1 dd Lwhole Lwhole2 bm rr kt P j310_5 j310_7 j310_9 j310_10 j310_11 j310_12 (1 : Int32)
def wj_Md_sum_JZJ_287 (ms : Int32) (a0 : Int64) (a1 : Int32) (dd : Nat → Int32) (Lwhole : Int64) (Lwhole2 : Int64) (bm : Nat → Int32) (rr : Nat → Int32) (kt : Nat → Int32) (P : Int64 → Prop) (j287_5 : Int64) (j287_7 : Int64) (j287_9 : Int32) (j287_10 : Int32) (j287_11 : Int32) (s287_0 : Int32) : Prop := (((62 : Int32) < j287_10 → wj_Md_sum_JZJ_310 ms a0 a1 dd Lwhole Lwhole2 bm rr kt P j287_5 j287_7 j287_9 j287_10 j287_11 s287_0) ∧ (¬ (62 : Int32) < j287_10 → ∀ x_12 : Int64, x_12 = (zz_lshl (1 : Int64) j287_10) → ∀ x_13 : Int64, x_13 = (j287_7 &&& (x_12 - (1 : Int64))) → ((x_13 = (0 : Int64) → wj_Md_sum_JZJ_315 ms a0 a1 dd Lwhole Lwhole2 bm rr kt P j287_5 j287_7 j287_9 j287_10 j287_11 s287_0 (0 : Int32)) ∧ (¬ x_13 = (0 : Int64) → wj_Md_sum_JZJ_310 ms a0 a1 dd Lwhole Lwhole2 bm rr kt P j287_5 j287_7 j287_9 j287_10 j287_11 s287_0))))
def wj_Md_sum_JZJ_269 (ms : Int32) (a0 : Int64) (a1 : Int32) (dd : Nat → Int32) (Lwhole : Int64) (Lwhole2 : Int64) (bm : Nat → Int32) (rr : Nat → Int32) (kt : Nat → Int32) (P : Int64 → Prop) (j269_5 : Int64) (j269_7 : Int64) (j269_9 : Int32) (j269_10 : Int32) (s269_0 : Int32) : Prop := (((dd 18) = (dd 19) → wj_Md_sum_JZJ_287 ms a0 a1 dd Lwhole Lwhole2 bm rr kt P j269_5 j269_7 j269_9 j269_10 s269_0 (1 : Int32)) ∧ (¬ (dd 18) = (dd 19) → wj_Md_sum_JZJ_287 ms a0 a1 dd Lwhole Lwhole2 bm rr kt P j269_5 j269_7 j269_9 j269_10 s269_0 (0 : Int32)))
def wj_Md_sum_JZJ_251 (ms : Int32) (a0 : Int64) (a1 : Int32) (dd : Nat → Int32) (Lwhole : Int64) (Lwhole2 : Int64) (bm : Nat → Int32) (rr : Nat → Int32) (kt : Nat → Int32) (P : Int64 → Prop) (j251_4 : Int32) (j251_5 : Int64) (j251_7 : Int64) (j251_9 : Int32) (s251_0 : Int32) : Prop := ((j251_4 = (0 : Int32) → wj_Md_sum_JZJ_269 ms a0 a1 dd Lwhole Lwhole2 bm rr kt P j251_5 j251_7 j251_9 s251_0 (dd 18)) ∧ (¬ j251_4 = (0 : Int32) → wj_Md_sum_JZJ_269 ms a0 a1 dd Lwhole Lwhole2 bm rr kt P j251_5 j251_7 j251_9 s251_0 (dd 19)))
def wj_Md_sum_JZJ_220 (ms : Int32) (a0 : Int64) (a1 : Int32) (dd : Nat → Int32) (Lwhole : Int64) (Lwhole2 : Int64) (bm : Nat → Int32) (rr : Nat → Int32) (kt : Nat → Int32) (P : Int64 → Prop) (j220_4 : Int32) (j220_5 : Int64) (j220_7 : Int64) (s220_0 : Int32) : Prop := ∀ x_17 : Int32, x_17 = (s220_0 - (9 : Int32)) → ((j220_4 = (0 : Int32) → wj_Md_sum_JZJ_251 ms a0 a1 dd Lwhole Lwhole2 bm rr kt P j220_4 j220_5 j220_7 x_17 ((dd 15) - (dd 17))) ∧ (¬ j220_4 = (0 : Int32) → wj_Md_sum_JZJ_251 ms a0 a1 dd Lwhole Lwhole2 bm rr kt P j220_4 j220_5 j220_7 x_17 ((dd 17) - (dd 15))))
def wj_Md_sum_JZJ_199 (ms : Int32) (a0 : Int64) (a1 : Int32) (dd : Nat → Int32) (Lwhole : Int64) (Lwhole2 : Int64) (bm : Nat → Int32) (rr : Nat → Int32) (kt : Nat → Int32) (P : Int64 → Prop) (j199_4 : Int32) (j199_5 : Int64) (s199_0 : Int64) : Prop := ∀ x_19 : Int64, x_19 = (zz_lshl s199_0 (9 : Int32)) → ((j199_4 = (0 : Int32) → wj_Md_sum_JZJ_220 ms a0 a1 dd Lwhole Lwhole2 bm rr kt P j199_4 j199_5 x_19 (dd 15)) ∧ (¬ j199_4 = (0 : Int32) → wj_Md_sum_JZJ_220 ms a0 a1 dd Lwhole Lwhole2 bm rr kt P j199_4 j199_5 x_19 (dd 17)))
def wj_Md_sum_JZJ_178 (ms : Int32) (a0 : Int64) (a1 : Int32) (dd : Nat → Int32) (Lwhole : Int64) (Lwhole2 : Int64) (bm : Nat → Int32) (rr : Nat → Int32) (kt : Nat → Int32) (P : Int64 → Prop) (j178_4 : Int32) (s178_0 : Int64) : Prop := ∀ x_21 : Int64, x_21 = (zz_lshl s178_0 (9 : Int32)) → ((j178_4 = (0 : Int32) → wj_Md_sum_JZJ_199 ms a0 a1 dd Lwhole Lwhole2 bm rr kt P j178_4 x_21 Lwhole2) ∧ (¬ j178_4 = (0 : Int32) → wj_Md_sum_JZJ_199 ms a0 a1 dd Lwhole Lwhole2 bm rr kt P j178_4 x_21 Lwhole))
def wj_Md_sum_JZJ_160 (ms : Int32) (a0 : Int64) (a1 : Int32) (dd : Nat → Int32) (Lwhole : Int64) (Lwhole2 : Int64) (bm : Nat → Int32) (rr : Nat → Int32) (kt : Nat → Int32) (P : Int64 → Prop) (s160_0 : Int32) : Prop := ((s160_0 = (0 : Int32) → wj_Md_sum_JZJ_178 ms a0 a1 dd Lwhole Lwhole2 bm rr kt P s160_0 Lwhole) ∧ (¬ s160_0 = (0 : Int32) → wj_Md_sum_JZJ_178 ms a0 a1 dd Lwhole Lwhole2 bm rr kt P s160_0 Lwhole2))
def wj_Md_sum_JZJ_159 (ms : Int32) (a0 : Int64) (a1 : Int32) (dd : Nat → Int32) (Lwhole : Int64) (Lwhole2 : Int64) (bm : Nat → Int32) (rr : Nat → Int32) (kt : Nat → Int32) (P : Int64 → Prop)  : Prop := wj_Md_sum_JZJ_160 ms a0 a1 dd Lwhole Lwhole2 bm rr kt P (0 : Int32)
def wj_Md_sum_JZJ_155 (ms : Int32) (a0 : Int64) (a1 : Int32) (dd : Nat → Int32) (Lwhole : Int64) (Lwhole2 : Int64) (bm : Nat → Int32) (rr : Nat → Int32) (kt : Nat → Int32) (P : Int64 → Prop)  : Prop := wj_Md_sum_JZJ_160 ms a0 a1 dd Lwhole Lwhole2 bm rr kt P (1 : Int32)
def wj_Md_sum_JZJ_99 (ms : Int32) (a0 : Int64) (a1 : Int32) (dd : Nat → Int32) (Lwhole : Int64) (Lwhole2 : Int64) (bm : Nat → Int32) (rr : Nat → Int32) (kt : Nat → Int32) (P : Int64 → Prop)  : Prop := (((dd 16) = (0 : Int32) → P a0) ∧ (¬ (dd 16) = (0 : Int32) → (((dd 14) = (0 : Int32) → wp_Md_secondBits ms dd Lwhole Lwhole2 bm rr kt a1 (fun r_29 => P r_29)) ∧ (¬ (dd 14) = (0 : Int32) → (((dd 15) < (dd 17) → wj_Md_sum_JZJ_155 ms a0 a1 dd Lwhole Lwhole2 bm rr kt P) ∧ (¬ (dd 15) < (dd 17) → (((dd 15) = (dd 17) → ((Lwhole2 ≤ Lwhole → wj_Md_sum_JZJ_159 ms a0 a1 dd Lwhole Lwhole2 bm rr kt P) ∧ (¬ Lwhole2 ≤ Lwhole → wj_Md_sum_JZJ_155 ms a0 a1 dd Lwhole Lwhole2 bm rr kt P))) ∧ (¬ (dd 15) = (dd 17) → wj_Md_sum_JZJ_159 ms a0 a1 dd Lwhole Lwhole2 bm rr kt P))))))))
def wj_Md_sum_JZJ_93 (ms : Int32) (a0 : Int64) (a1 : Int32) (dd : Nat → Int32) (Lwhole : Int64) (Lwhole2 : Int64) (bm : Nat → Int32) (rr : Nat → Int32) (kt : Nat → Int32) (P : Int64 → Prop) (s93_0 : Int32) : Prop := wp_Md_signed s93_0 a1 (0 : Int64) (fun r_30 => P r_30)
def wj_Md_sum_JZJ_92 (ms : Int32) (a0 : Int64) (a1 : Int32) (dd : Nat → Int32) (Lwhole : Int64) (Lwhole2 : Int64) (bm : Nat → Int32) (rr : Nat → Int32) (kt : Nat → Int32) (P : Int64 → Prop)  : Prop := wj_Md_sum_JZJ_93 ms a0 a1 dd Lwhole Lwhole2 bm rr kt P (0 : Int32)
def wj_Md_sum_JZJ_36 (ms : Int32) (a0 : Int64) (a1 : Int32) (dd : Nat → Int32) (Lwhole : Int64) (Lwhole2 : Int64) (bm : Nat → Int32) (rr : Nat → Int32) (kt : Nat → Int32) (P : Int64 → Prop)  : Prop := (((dd 14) = (2 : Int32) → P a0) ∧ (¬ (dd 14) = (2 : Int32) → (((dd 16) = (2 : Int32) → wp_Md_secondBits ms dd Lwhole Lwhole2 bm rr kt a1 (fun r_37 => P r_37)) ∧ (¬ (dd 16) = (2 : Int32) → (((dd 14) = (0 : Int32) → (((dd 16) = (0 : Int32) → (((dd 18) = (0 : Int32) → wj_Md_sum_JZJ_92 ms a0 a1 dd Lwhole Lwhole2 bm rr kt P) ∧ (¬ (dd 18) = (0 : Int32) → (((dd 19) = (0 : Int32) → wj_Md_sum_JZJ_92 ms a0 a1 dd Lwhole Lwhole2 bm rr kt P) ∧ (¬ (dd 19) = (0 : Int32) → wj_Md_sum_JZJ_93 ms a0 a1 dd Lwhole Lwhole2 bm rr kt P (1 : Int32)))))) ∧ (¬ (dd 16) = (0 : Int32) → wj_Md_sum_JZJ_99 ms a0 a1 dd Lwhole Lwhole2 bm rr kt P))) ∧ (¬ (dd 14) = (0 : Int32) → wj_Md_sum_JZJ_99 ms a0 a1 dd Lwhole Lwhole2 bm rr kt P))))))
def wp_Md_sum_JZJ (ms : Int32) (dd : Nat → Int32) (Lwhole : Int64) (Lwhole2 : Int64) (bm : Nat → Int32) (rr : Nat → Int32) (kt : Nat → Int32) (a0 : Int64) (a1 : Int32) (P : Int64 → Prop) : Prop := (((dd 14) = (2 : Int32) → (((dd 16) = (2 : Int32) → (((dd 18) = (dd 19) → P a0) ∧ (¬ (dd 18) = (dd 19) → wp_Md_noNumber a1 (fun r_41 => P r_41)))) ∧ (¬ (dd 16) = (2 : Int32) → wj_Md_sum_JZJ_36 ms a0 a1 dd Lwhole Lwhole2 bm rr kt P))) ∧ (¬ (dd 14) = (2 : Int32) → wj_Md_sum_JZJ_36 ms a0 a1 dd Lwhole Lwhole2 bm rr kt P))
abbrev rm_Md_sum_JZJ : Room := { frames := 4, cells := 0, slots := 0, locals := 105 }
set_option maxHeartbeats 4000000 in
set_option maxRecDepth 100000 in
theorem c_Md_sum_JZJ (l : Launch) (D : va_G) (cI : ClassId) (cB : ClassId) (qd : Nat) (qmemory : Nat) (qr : Nat) (qcounts : Nat) (ms : Int32) (dd : Nat → Int32) (Lwhole : Int64) (Lwhole2 : Int64) (bm : Nat → Int32) (rr : Nat → Int32) (kt : Nat → Int32) (a0 : Int64) (a1 : Int32) (P : Int64 → Prop) (h : wp_Md_sum_JZJ ms dd Lwhole Lwhole2 bm rr kt a0 a1 P) : Met l y_Md_sum_JZJ (zz_ws y_Md_sum_JZJ b_Md_sum_JZJ 18 (some .long)) rm_Md_sum_JZJ (va_Pc [.ref qd, .long a0, .int a1] (zz_pr D [(cI, .int), (cB, .byte)] (wD qd qmemory qr qcounts cI cB ms dd Lwhole Lwhole2 bm rr kt))) (vp_Sl P) 0 0 (fun _ => False) := by
  refine Met.ofW (cc := b_Md_sum_JZJ) (maxL := 18) (ret := (some .long)) (by decide) rfl ?_
  intro p e s m args below meth c s₁ B hml hv
  obtain ⟨rfl, hP, hK⟩ := hv
  have hx := B.exec
  have hb := B.bytes
  have hr := B.returns
  have hts := atoms_spec (ws := (zz_ws y_Md_sum_JZJ b_Md_sum_JZJ 18 (some .long))) B.pre
  have hown : s.vm.findClass R_Md = some m.cls := findClass_of_methodNamed B.named
  have hlocks := B.notSynchronized
  have hT := zz_hts hts
  have X : CallFix p m c b_Md_sum_JZJ 18 s ([.ref qd, .long a0, .int a1] : List Value).toArray (zz_ws y_Md_sum_JZJ b_Md_sum_JZJ 18 (some .long)) R_Md := ⟨hx, hb, hml, hown, hts⟩
  have hf0 : 0 + 0 ≤ (headSpec (zz_ws y_Md_sum_JZJ b_Md_sum_JZJ 18 (some .long)) rm_Md_sum_JZJ).room.cells ∧ 0 + 0 ≤ (headSpec (zz_ws y_Md_sum_JZJ b_Md_sum_JZJ 18 (some .long)) rm_Md_sum_JZJ).room.slots := ⟨Nat.le_of_ble_eq_true rfl, Nat.le_of_ble_eq_true rfl⟩
  have hl := lv_entry ([.ref qd, .long a0, .int a1]) (n := 18) (Nat.le_of_ble_eq_true rfl)
  rw [lg_entry_eq]
  generalize (lg_sl ([.ref qd, .long a0, .int a1]) ++ List.replicate (18 - (lg_sl ([.ref qd, .long a0, .int a1])).length) Slot.unset).toArray = ls at hl ⊢
  have hl : lv_has ls 18 [(0, .ref qd), (1, .long a0), (3, .int a1)] := hl
  have jn_411 : ∀ (s411_0 : Int32) (s411_1 : Int64) (s411_2 : Int32) (s411_3 : Int32), wj_Md_sum_JZJ_411 ms a0 a1 dd Lwhole Lwhole2 bm rr kt P s411_0 s411_1 s411_2 s411_3 → ∀ ls : Array Slot, lv_has ls 18 [(3, .int a1)] → W p l e (headSpec (zz_ws y_Md_sum_JZJ b_Md_sum_JZJ 18 (some .long)) rm_Md_sum_JZJ).room s m ([.ref qd, .long a0, .int a1] : List Value).toArray below meth c s.heap [] 0 0 (MQ below (vp_Sl P) ([.ref qd, .long a0, .int a1] : List Value).toArray s 0 0 (fun _ => False)) (F0 m 411 ls [.int s411_3, .int s411_2, .long s411_1, .int s411_0]) := by
    intro s411_0 s411_1 s411_2 s411_3 h ls hl
    unfold wj_Md_sum_JZJ_411 at h
    refine lv_iload_n hx hb d_Md_sum_JZJ_411 rfl (lv_at hl 0 rfl) ?_
    refine zz_Sl (As := [.int s411_0, .long s411_1, .int s411_2, .int s411_3, .int a1]) (rest := []) X (c_Md_rounded l s411_0 s411_1 s411_2 s411_3 a1 _ h) ⟨rfl, rfl⟩ m_Md_rounded k_Md_246 ⟨Nat.le_of_ble_eq_true rfl, Nat.le_of_ble_eq_true rfl⟩ rfl hl.1 rfl (Nat.le_of_ble_eq_true rfl) d_Md_sum_JZJ_412 hf0 (fun r_1 h => ?_)
    refine lv_goto (tgt := 430) hx hb d_Md_sum_JZJ_415 (by decide) ?_
    exact W.lret (v := r_1) hx hb hr (fun t ht hW => ⟨r_1,  rfl, h, ht⟩) t_nil d_Md_sum_JZJ_430
  have jn_406 : ∀ (s406_0 : Int32) (s406_1 : Int64) (s406_2 : Int32), wj_Md_sum_JZJ_406 ms a0 a1 dd Lwhole Lwhole2 bm rr kt P s406_0 s406_1 s406_2 → ∀ ls : Array Slot, lv_has ls 18 [(3, .int a1)] → W p l e (headSpec (zz_ws y_Md_sum_JZJ b_Md_sum_JZJ 18 (some .long)) rm_Md_sum_JZJ).room s m ([.ref qd, .long a0, .int a1] : List Value).toArray below meth c s.heap [] 0 0 (MQ below (vp_Sl P) ([.ref qd, .long a0, .int a1] : List Value).toArray s 0 0 (fun _ => False)) (F0 m 406 ls [.int s406_2, .long s406_1, .int s406_0]) := by
    intro s406_0 s406_1 s406_2 h ls hl
    unfold wj_Md_sum_JZJ_406 at h
    refine lv_iconst (v := 1) hx hb d_Md_sum_JZJ_406 (by decide) ?_
    refine lv_goto (tgt := 411) hx hb d_Md_sum_JZJ_407 (by decide) ?_
    exact jn_411 s406_0 s406_1 s406_2 (1 : Int32) h ls (lv_sub hl [0] rfl)
  have jn_364 : ∀ (j364_9 : Int32) (j364_11 : Int32) (j364_13 : Int32) (s364_0 : Int64), wj_Md_sum_JZJ_364 ms a0 a1 dd Lwhole Lwhole2 bm rr kt P j364_9 j364_11 j364_13 s364_0 → ∀ ls : Array Slot, lv_has ls 18 [(3, .int a1), (9, .int j364_9), (11, .int j364_11), (13, .int j364_13)] → W p l e (headSpec (zz_ws y_Md_sum_JZJ b_Md_sum_JZJ 18 (some .long)) rm_Md_sum_JZJ).room s m ([.ref qd, .long a0, .int a1] : List Value).toArray below meth c s.heap [] 0 0 (MQ below (vp_Sl P) ([.ref qd, .long a0, .int a1] : List Value).toArray s 0 0 (fun _ => False)) (F0 m 364 ls [.long s364_0]) := by
    intro j364_9 j364_11 j364_13 s364_0 h ls hl
    unfold wj_Md_sum_JZJ_364 at h
    refine lv_lstore (lv' := [(16, .long s364_0), (3, .int a1), (9, .int j364_9), (11, .int j364_11), (13, .int j364_13)]) hx hb d_Md_sum_JZJ_364 hl (by decide) rfl (fun ls hl => ?_)
    refine lv_lload hx hb d_Md_sum_JZJ_366 (lv_at hl 0 rfl) ?_
    refine lv_lconst (v := 0) hx hb d_Md_sum_JZJ_368 (by decide) ?_
    refine W.lcmp hx hb d_Md_sum_JZJ_369 ?_
    refine lv_if_ne (tgt := 375) hx hb d_Md_sum_JZJ_370 (by decide) (fun c_2 => ?_) (fun c_2 => ?_)
    · have kc_2 := (fun q => c_2 ((lg_cmp_eq _ _).mpr q))
      have h := h.2 kc_2
      refine lv_lload hx hb d_Md_sum_JZJ_375 (lv_at hl 0 rfl) ?_
      refine lv_lconst (v := 0) hx hb d_Md_sum_JZJ_377 (by decide) ?_
      refine W.lcmp hx hb d_Md_sum_JZJ_378 ?_
      refine lv_if_ge (tgt := 418) hx hb d_Md_sum_JZJ_379 (by decide) (fun c_3 => ?_) (fun c_3 => ?_)
      · have kc_3 := ((lg_cmp_ge _ _).mp c_3)
        have h := h.1 kc_3
        refine lv_iload hx hb d_Md_sum_JZJ_418 (lv_at hl 3 rfl) ?_
        refine lv_lload hx hb d_Md_sum_JZJ_420 (lv_at hl 0 rfl) ?_
        refine lv_iload hx hb d_Md_sum_JZJ_422 (lv_at hl 2 rfl) ?_
        refine lv_iload hx hb d_Md_sum_JZJ_424 (lv_at hl 4 rfl) ?_
        refine lv_iload_n hx hb d_Md_sum_JZJ_426 rfl (lv_at hl 1 rfl) ?_
        refine zz_Sl (As := [.int j364_11, .long s364_0, .int j364_9, .int j364_13, .int a1]) (rest := []) X (c_Md_rounded l j364_11 s364_0 j364_9 j364_13 a1 _ h) ⟨rfl, rfl⟩ m_Md_rounded k_Md_246 ⟨Nat.le_of_ble_eq_true rfl, Nat.le_of_ble_eq_true rfl⟩ rfl hl.1 rfl (Nat.le_of_ble_eq_true rfl) d_Md_sum_JZJ_427 hf0 (fun r_4 h => ?_)
        exact W.lret (v := r_4) hx hb hr (fun t ht hW => ⟨r_4,  rfl, h, ht⟩) t_nil d_Md_sum_JZJ_430
      · have kc_3 := (fun q => c_3 ((lg_cmp_ge _ _).mpr q))
        have h := h.2 kc_3
        refine lv_iload hx hb d_Md_sum_JZJ_382 (lv_at hl 3 rfl) ?_
        refine lv_lload hx hb d_Md_sum_JZJ_384 (lv_at hl 0 rfl) ?_
        refine lv_iconst (v := 1) hx hb d_Md_sum_JZJ_386 (by decide) ?_
        refine zz_llushr hx hb d_Md_sum_JZJ_387 ?_
        refine lv_topl (fun x_5 ex_5 => ?_)
        have h := h x_5 ex_5
        refine lv_iload hx hb d_Md_sum_JZJ_388 (lv_at hl 2 rfl) ?_
        refine lv_iconst (v := 1) hx hb d_Md_sum_JZJ_390 (by decide) ?_
        refine lv_iadd hx hb d_Md_sum_JZJ_391 ?_
        refine lv_iload hx hb d_Md_sum_JZJ_392 (lv_at hl 4 rfl) ?_
        refine lv_if_ne (tgt := 406) hx hb d_Md_sum_JZJ_394 (by decide) (fun c_6 => ?_) (fun c_6 => ?_)
        · skip
          have h := h.2 c_6
          exact jn_406 j364_11 x_5 (j364_9 + (1 : Int32)) h ls (lv_sub hl [1] rfl)
        · skip
          have h := h.1 c_6
          refine lv_lload hx hb d_Md_sum_JZJ_397 (lv_at hl 0 rfl) ?_
          refine lv_lconst (v := 1) hx hb d_Md_sum_JZJ_399 (by decide) ?_
          refine lv_land hx hb d_Md_sum_JZJ_400 ?_
          refine lv_lconst (v := 1) hx hb d_Md_sum_JZJ_401 (by decide) ?_
          refine W.lcmp hx hb d_Md_sum_JZJ_402 ?_
          refine lv_if_ne (tgt := 410) hx hb d_Md_sum_JZJ_403 (by decide) (fun c_7 => ?_) (fun c_7 => ?_)
          · have kc_7 := (fun q => c_7 ((lg_cmp_eq _ _).mpr q))
            have h := h.2 kc_7
            refine lv_iconst (v := 0) hx hb d_Md_sum_JZJ_410 (by decide) ?_
            exact jn_411 j364_11 x_5 (j364_9 + (1 : Int32)) (0 : Int32) h ls (lv_sub hl [1] rfl)
          · have kc_7 := ((lg_cmp_eq _ _).mp c_7)
            have h := h.1 kc_7
            exact jn_406 j364_11 x_5 (j364_9 + (1 : Int32)) h ls (lv_sub hl [1] rfl)
    · have kc_2 := ((lg_cmp_eq _ _).mp c_2)
      have h := h.1 kc_2
      refine lv_lconst (v := 0) hx hb d_Md_sum_JZJ_373 (by decide) ?_
      exact W.lret (v := (0 : Int64)) hx hb hr (fun t ht hW => ⟨(0 : Int64),  rfl, h, ht⟩) t_nil d_Md_sum_JZJ_374
  have jn_363 : ∀ (j363_9 : Int32) (j363_11 : Int32) (j363_13 : Int32) (s363_0 : Int64) (s363_1 : Int64), wj_Md_sum_JZJ_363 ms a0 a1 dd Lwhole Lwhole2 bm rr kt P j363_9 j363_11 j363_13 s363_0 s363_1 → ∀ ls : Array Slot, lv_has ls 18 [(3, .int a1), (9, .int j363_9), (11, .int j363_11), (13, .int j363_13)] → W p l e (headSpec (zz_ws y_Md_sum_JZJ b_Md_sum_JZJ 18 (some .long)) rm_Md_sum_JZJ).room s m ([.ref qd, .long a0, .int a1] : List Value).toArray below meth c s.heap [] 0 0 (MQ below (vp_Sl P) ([.ref qd, .long a0, .int a1] : List Value).toArray s 0 0 (fun _ => False)) (F0 m 363 ls [.long s363_1, .long s363_0]) := by
    intro j363_9 j363_11 j363_13 s363_0 s363_1 h ls hl
    unfold wj_Md_sum_JZJ_363 at h
    refine lv_lsub hx hb d_Md_sum_JZJ_363 ?_
    exact jn_364 j363_9 j363_11 j363_13 (s363_0 - s363_1) h ls (lv_sub hl [0, 1, 2, 3] rfl)
  have jn_333 : ∀ (j333_5 : Int64) (j333_9 : Int32) (j333_11 : Int32) (j333_12 : Int32) (j333_13 : Int32) (s333_0 : Int64), wj_Md_sum_JZJ_333 ms a0 a1 dd Lwhole Lwhole2 bm rr kt P j333_5 j333_9 j333_11 j333_12 j333_13 s333_0 → ∀ ls : Array Slot, lv_has ls 18 [(3, .int a1), (5, .long j333_5), (9, .int j333_9), (11, .int j333_11), (12, .int j333_12), (13, .int j333_13)] → W p l e (headSpec (zz_ws y_Md_sum_JZJ b_Md_sum_JZJ 18 (some .long)) rm_Md_sum_JZJ).room s m ([.ref qd, .long a0, .int a1] : List Value).toArray below meth c s.heap [] 0 0 (MQ below (vp_Sl P) ([.ref qd, .long a0, .int a1] : List Value).toArray s 0 0 (fun _ => False)) (F0 m 333 ls [.long s333_0]) := by
    intro j333_5 j333_9 j333_11 j333_12 j333_13 s333_0 h ls hl
    unfold wj_Md_sum_JZJ_333 at h
    refine lv_lstore (lv' := [(14, .long s333_0), (3, .int a1), (5, .long j333_5), (9, .int j333_9), (11, .int j333_11), (12, .int j333_12), (13, .int j333_13)]) hx hb d_Md_sum_JZJ_333 hl (by decide) rfl (fun ls hl => ?_)
    refine lv_iload hx hb d_Md_sum_JZJ_335 (lv_at hl 5 rfl) ?_
    refine lv_if_eq (tgt := 348) hx hb d_Md_sum_JZJ_337 (by decide) (fun c_8 => ?_) (fun c_8 => ?_)
    · skip
      have h := h.1 c_8
      refine lv_lload hx hb d_Md_sum_JZJ_348 (lv_at hl 2 rfl) ?_
      refine lv_lload hx hb d_Md_sum_JZJ_350 (lv_at hl 0 rfl) ?_
      refine lv_lsub hx hb d_Md_sum_JZJ_352 ?_
      refine lv_iload hx hb d_Md_sum_JZJ_353 (lv_at hl 6 rfl) ?_
      refine lv_if_eq (tgt := 362) hx hb d_Md_sum_JZJ_355 (by decide) (fun c_9 => ?_) (fun c_9 => ?_)
      · skip
        have h := h.1 c_9
        refine lv_lconst (v := 0) hx hb d_Md_sum_JZJ_362 (by decide) ?_
        exact jn_363 j333_9 j333_11 j333_13 (j333_5 - s333_0) (0 : Int64) h ls (lv_sub hl [1, 3, 4, 6] rfl)
      · skip
        have h := h.2 c_9
        refine lv_lconst (v := 1) hx hb d_Md_sum_JZJ_358 (by decide) ?_
        refine lv_goto (tgt := 363) hx hb d_Md_sum_JZJ_359 (by decide) ?_
        exact jn_363 j333_9 j333_11 j333_13 (j333_5 - s333_0) (1 : Int64) h ls (lv_sub hl [1, 3, 4, 6] rfl)
    · skip
      have h := h.2 c_8
      refine lv_lload hx hb d_Md_sum_JZJ_340 (lv_at hl 2 rfl) ?_
      refine lv_lload hx hb d_Md_sum_JZJ_342 (lv_at hl 0 rfl) ?_
      refine lv_ladd hx hb d_Md_sum_JZJ_344 ?_
      refine lv_goto (tgt := 364) hx hb d_Md_sum_JZJ_345 (by decide) ?_
      exact jn_364 j333_9 j333_11 j333_13 (j333_5 + s333_0) h ls (lv_sub hl [1, 3, 4, 6] rfl)
  have jn_315 : ∀ (j315_5 : Int64) (j315_7 : Int64) (j315_9 : Int32) (j315_10 : Int32) (j315_11 : Int32) (j315_12 : Int32) (s315_0 : Int32), wj_Md_sum_JZJ_315 ms a0 a1 dd Lwhole Lwhole2 bm rr kt P j315_5 j315_7 j315_9 j315_10 j315_11 j315_12 s315_0 → ∀ ls : Array Slot, lv_has ls 18 [(3, .int a1), (5, .long j315_5), (7, .long j315_7), (9, .int j315_9), (10, .int j315_10), (11, .int j315_11), (12, .int j315_12)] → W p l e (headSpec (zz_ws y_Md_sum_JZJ b_Md_sum_JZJ 18 (some .long)) rm_Md_sum_JZJ).room s m ([.ref qd, .long a0, .int a1] : List Value).toArray below meth c s.heap [] 0 0 (MQ below (vp_Sl P) ([.ref qd, .long a0, .int a1] : List Value).toArray s 0 0 (fun _ => False)) (F0 m 315 ls [.int s315_0]) := by
    intro j315_5 j315_7 j315_9 j315_10 j315_11 j315_12 s315_0 h ls hl
    unfold wj_Md_sum_JZJ_315 at h
    refine lv_istore (lv' := [(13, .int s315_0), (3, .int a1), (5, .long j315_5), (7, .long j315_7), (9, .int j315_9), (10, .int j315_10), (11, .int j315_11), (12, .int j315_12)]) hx hb d_Md_sum_JZJ_315 hl (by decide) rfl (fun ls hl => ?_)
    refine lv_iload hx hb d_Md_sum_JZJ_317 (lv_at hl 5 rfl) ?_
    refine lv_bipush (v := 62) hx hb d_Md_sum_JZJ_319 (by decide) ?_
    refine lv_icmp_le (tgt := 328) hx hb d_Md_sum_JZJ_321 (by decide) (fun c_10 => ?_) (fun c_10 => ?_)
    · skip
      have h := h.1 c_10
      refine lv_lload hx hb d_Md_sum_JZJ_328 (lv_at hl 3 rfl) ?_
      refine lv_iload hx hb d_Md_sum_JZJ_330 (lv_at hl 5 rfl) ?_
      refine zz_llshr hx hb d_Md_sum_JZJ_332 ?_
      exact jn_333 j315_5 j315_9 j315_11 j315_12 s315_0 (zz_lshr j315_7 j315_10) h ls (lv_sub hl [1, 2, 4, 6, 7, 0] rfl)
    · skip
      have h := h.2 c_10
      refine lv_lconst (v := 0) hx hb d_Md_sum_JZJ_324 (by decide) ?_
      refine lv_goto (tgt := 333) hx hb d_Md_sum_JZJ_325 (by decide) ?_
      exact jn_333 j315_5 j315_9 j315_11 j315_12 s315_0 (0 : Int64) h ls (lv_sub hl [1, 2, 4, 6, 7, 0] rfl)
  have jn_310 : ∀ (j310_5 : Int64) (j310_7 : Int64) (j310_9 : Int32) (j310_10 : Int32) (j310_11 : Int32) (j310_12 : Int32), wj_Md_sum_JZJ_310 ms a0 a1 dd Lwhole Lwhole2 bm rr kt P j310_5 j310_7 j310_9 j310_10 j310_11 j310_12 → ∀ ls : Array Slot, lv_has ls 18 [(3, .int a1), (5, .long j310_5), (7, .long j310_7), (9, .int j310_9), (10, .int j310_10), (11, .int j310_11), (12, .int j310_12)] → W p l e (headSpec (zz_ws y_Md_sum_JZJ b_Md_sum_JZJ 18 (some .long)) rm_Md_sum_JZJ).room s m ([.ref qd, .long a0, .int a1] : List Value).toArray below meth c s.heap [] 0 0 (MQ below (vp_Sl P) ([.ref qd, .long a0, .int a1] : List Value).toArray s 0 0 (fun _ => False)) (F0 m 310 ls []) := by
    intro j310_5 j310_7 j310_9 j310_10 j310_11 j310_12 h ls hl
    unfold wj_Md_sum_JZJ_310 at h
    refine lv_iconst (v := 1) hx hb d_Md_sum_JZJ_310 (by decide) ?_
    refine lv_goto (tgt := 315) hx hb d_Md_sum_JZJ_311 (by decide) ?_
    exact jn_315 j310_5 j310_7 j310_9 j310_10 j310_11 j310_12 (1 : Int32) h ls (lv_sub hl [0, 1, 2, 3, 4, 5, 6] rfl)
  have jn_287 : ∀ (j287_5 : Int64) (j287_7 : Int64) (j287_9 : Int32) (j287_10 : Int32) (j287_11 : Int32) (s287_0 : Int32), wj_Md_sum_JZJ_287 ms a0 a1 dd Lwhole Lwhole2 bm rr kt P j287_5 j287_7 j287_9 j287_10 j287_11 s287_0 → ∀ ls : Array Slot, lv_has ls 18 [(3, .int a1), (5, .long j287_5), (7, .long j287_7), (9, .int j287_9), (10, .int j287_10), (11, .int j287_11)] → W p l e (headSpec (zz_ws y_Md_sum_JZJ b_Md_sum_JZJ 18 (some .long)) rm_Md_sum_JZJ).room s m ([.ref qd, .long a0, .int a1] : List Value).toArray below meth c s.heap [] 0 0 (MQ below (vp_Sl P) ([.ref qd, .long a0, .int a1] : List Value).toArray s 0 0 (fun _ => False)) (F0 m 287 ls [.int s287_0]) := by
    intro j287_5 j287_7 j287_9 j287_10 j287_11 s287_0 h ls hl
    unfold wj_Md_sum_JZJ_287 at h
    refine lv_istore (lv' := [(12, .int s287_0), (3, .int a1), (5, .long j287_5), (7, .long j287_7), (9, .int j287_9), (10, .int j287_10), (11, .int j287_11)]) hx hb d_Md_sum_JZJ_287 hl (by decide) rfl (fun ls hl => ?_)
    refine lv_iload hx hb d_Md_sum_JZJ_289 (lv_at hl 5 rfl) ?_
    refine lv_bipush (v := 62) hx hb d_Md_sum_JZJ_291 (by decide) ?_
    refine lv_icmp_gt (tgt := 310) hx hb d_Md_sum_JZJ_293 (by decide) (fun c_11 => ?_) (fun c_11 => ?_)
    · skip
      have h := h.1 c_11
      exact jn_310 j287_5 j287_7 j287_9 j287_10 j287_11 s287_0 h ls (lv_sub hl [1, 2, 3, 4, 5, 6, 0] rfl)
    · skip
      have h := h.2 c_11
      refine lv_lload hx hb d_Md_sum_JZJ_296 (lv_at hl 3 rfl) ?_
      refine lv_lconst (v := 1) hx hb d_Md_sum_JZJ_298 (by decide) ?_
      refine lv_iload hx hb d_Md_sum_JZJ_299 (lv_at hl 5 rfl) ?_
      refine zz_llshl hx hb d_Md_sum_JZJ_301 ?_
      refine lv_topl (fun x_12 ex_12 => ?_)
      have h := h x_12 ex_12
      refine lv_lconst (v := 1) hx hb d_Md_sum_JZJ_302 (by decide) ?_
      refine lv_lsub hx hb d_Md_sum_JZJ_303 ?_
      refine lv_land hx hb d_Md_sum_JZJ_304 ?_
      refine lv_topl (fun x_13 ex_13 => ?_)
      have h := h x_13 ex_13
      refine lv_lconst (v := 0) hx hb d_Md_sum_JZJ_305 (by decide) ?_
      refine W.lcmp hx hb d_Md_sum_JZJ_306 ?_
      refine lv_if_eq (tgt := 314) hx hb d_Md_sum_JZJ_307 (by decide) (fun c_14 => ?_) (fun c_14 => ?_)
      · have kc_14 := ((lg_cmp_eq _ _).mp c_14)
        have h := h.1 kc_14
        refine lv_iconst (v := 0) hx hb d_Md_sum_JZJ_314 (by decide) ?_
        exact jn_315 j287_5 j287_7 j287_9 j287_10 j287_11 s287_0 (0 : Int32) h ls (lv_sub hl [1, 2, 3, 4, 5, 6, 0] rfl)
      · have kc_14 := (fun q => c_14 ((lg_cmp_eq _ _).mpr q))
        have h := h.2 kc_14
        exact jn_310 j287_5 j287_7 j287_9 j287_10 j287_11 s287_0 h ls (lv_sub hl [1, 2, 3, 4, 5, 6, 0] rfl)
  have jn_269 : ∀ (j269_5 : Int64) (j269_7 : Int64) (j269_9 : Int32) (j269_10 : Int32) (s269_0 : Int32), wj_Md_sum_JZJ_269 ms a0 a1 dd Lwhole Lwhole2 bm rr kt P j269_5 j269_7 j269_9 j269_10 s269_0 → ∀ ls : Array Slot, lv_has ls 18 [(0, .ref qd), (3, .int a1), (5, .long j269_5), (7, .long j269_7), (9, .int j269_9), (10, .int j269_10)] → W p l e (headSpec (zz_ws y_Md_sum_JZJ b_Md_sum_JZJ 18 (some .long)) rm_Md_sum_JZJ).room s m ([.ref qd, .long a0, .int a1] : List Value).toArray below meth c s.heap [] 0 0 (MQ below (vp_Sl P) ([.ref qd, .long a0, .int a1] : List Value).toArray s 0 0 (fun _ => False)) (F0 m 269 ls [.int s269_0]) := by
    intro j269_5 j269_7 j269_9 j269_10 s269_0 h ls hl
    unfold wj_Md_sum_JZJ_269 at h
    refine lv_istore (lv' := [(11, .int s269_0), (0, .ref qd), (3, .int a1), (5, .long j269_5), (7, .long j269_7), (9, .int j269_9), (10, .int j269_10)]) hx hb d_Md_sum_JZJ_269 hl (by decide) rfl (fun ls hl => ?_)
    refine lv_aload_n hx hb d_Md_sum_JZJ_271 rfl (lv_at hl 1 rfl) ?_
    refine g_Md_197 (v := .int (dd 18)) hx hb hT hown hK hP 0 rfl rfl d_Md_sum_JZJ_272 ?_
    refine lv_aload_n hx hb d_Md_sum_JZJ_275 rfl (lv_at hl 1 rfl) ?_
    refine g_Md_216 (v := .int (dd 19)) hx hb hT hown hK hP 0 rfl rfl d_Md_sum_JZJ_276 ?_
    refine lv_icmp_ne (tgt := 286) hx hb d_Md_sum_JZJ_279 (by decide) (fun c_15 => ?_) (fun c_15 => ?_)
    · skip
      have h := h.2 c_15
      refine lv_iconst (v := 0) hx hb d_Md_sum_JZJ_286 (by decide) ?_
      exact jn_287 j269_5 j269_7 j269_9 j269_10 s269_0 (0 : Int32) h ls (lv_sub hl [2, 3, 4, 5, 6, 0] rfl)
    · skip
      have h := h.1 c_15
      refine lv_iconst (v := 1) hx hb d_Md_sum_JZJ_282 (by decide) ?_
      refine lv_goto (tgt := 287) hx hb d_Md_sum_JZJ_283 (by decide) ?_
      exact jn_287 j269_5 j269_7 j269_9 j269_10 s269_0 (1 : Int32) h ls (lv_sub hl [2, 3, 4, 5, 6, 0] rfl)
  have jn_251 : ∀ (j251_4 : Int32) (j251_5 : Int64) (j251_7 : Int64) (j251_9 : Int32) (s251_0 : Int32), wj_Md_sum_JZJ_251 ms a0 a1 dd Lwhole Lwhole2 bm rr kt P j251_4 j251_5 j251_7 j251_9 s251_0 → ∀ ls : Array Slot, lv_has ls 18 [(0, .ref qd), (3, .int a1), (4, .int j251_4), (5, .long j251_5), (7, .long j251_7), (9, .int j251_9)] → W p l e (headSpec (zz_ws y_Md_sum_JZJ b_Md_sum_JZJ 18 (some .long)) rm_Md_sum_JZJ).room s m ([.ref qd, .long a0, .int a1] : List Value).toArray below meth c s.heap [] 0 0 (MQ below (vp_Sl P) ([.ref qd, .long a0, .int a1] : List Value).toArray s 0 0 (fun _ => False)) (F0 m 251 ls [.int s251_0]) := by
    intro j251_4 j251_5 j251_7 j251_9 s251_0 h ls hl
    unfold wj_Md_sum_JZJ_251 at h
    refine lv_istore (lv' := [(10, .int s251_0), (0, .ref qd), (3, .int a1), (4, .int j251_4), (5, .long j251_5), (7, .long j251_7), (9, .int j251_9)]) hx hb d_Md_sum_JZJ_251 hl (by decide) rfl (fun ls hl => ?_)
    refine lv_iload hx hb d_Md_sum_JZJ_253 (lv_at hl 3 rfl) ?_
    refine lv_if_eq (tgt := 265) hx hb d_Md_sum_JZJ_255 (by decide) (fun c_16 => ?_) (fun c_16 => ?_)
    · skip
      have h := h.1 c_16
      refine lv_aload_n hx hb d_Md_sum_JZJ_265 rfl (lv_at hl 1 rfl) ?_
      refine g_Md_197 (v := .int (dd 18)) hx hb hT hown hK hP 0 rfl rfl d_Md_sum_JZJ_266 ?_
      exact jn_269 j251_5 j251_7 j251_9 s251_0 (dd 18) h ls (lv_sub hl [1, 2, 4, 5, 6, 0] rfl)
    · skip
      have h := h.2 c_16
      refine lv_aload_n hx hb d_Md_sum_JZJ_258 rfl (lv_at hl 1 rfl) ?_
      refine g_Md_216 (v := .int (dd 19)) hx hb hT hown hK hP 0 rfl rfl d_Md_sum_JZJ_259 ?_
      refine lv_goto (tgt := 269) hx hb d_Md_sum_JZJ_262 (by decide) ?_
      exact jn_269 j251_5 j251_7 j251_9 s251_0 (dd 19) h ls (lv_sub hl [1, 2, 4, 5, 6, 0] rfl)
  have jn_220 : ∀ (j220_4 : Int32) (j220_5 : Int64) (j220_7 : Int64) (s220_0 : Int32), wj_Md_sum_JZJ_220 ms a0 a1 dd Lwhole Lwhole2 bm rr kt P j220_4 j220_5 j220_7 s220_0 → ∀ ls : Array Slot, lv_has ls 18 [(0, .ref qd), (3, .int a1), (4, .int j220_4), (5, .long j220_5), (7, .long j220_7)] → W p l e (headSpec (zz_ws y_Md_sum_JZJ b_Md_sum_JZJ 18 (some .long)) rm_Md_sum_JZJ).room s m ([.ref qd, .long a0, .int a1] : List Value).toArray below meth c s.heap [] 0 0 (MQ below (vp_Sl P) ([.ref qd, .long a0, .int a1] : List Value).toArray s 0 0 (fun _ => False)) (F0 m 220 ls [.int s220_0]) := by
    intro j220_4 j220_5 j220_7 s220_0 h ls hl
    unfold wj_Md_sum_JZJ_220 at h
    refine lv_bipush (v := 9) hx hb d_Md_sum_JZJ_220 (by decide) ?_
    refine lv_isub hx hb d_Md_sum_JZJ_222 ?_
    refine lv_topi (fun x_17 ex_17 => ?_)
    have h := h x_17 ex_17
    refine lv_istore (lv' := [(9, .int x_17), (0, .ref qd), (3, .int a1), (4, .int j220_4), (5, .long j220_5), (7, .long j220_7)]) hx hb d_Md_sum_JZJ_223 hl (by decide) rfl (fun ls hl => ?_)
    refine lv_iload hx hb d_Md_sum_JZJ_225 (lv_at hl 3 rfl) ?_
    refine lv_if_eq (tgt := 242) hx hb d_Md_sum_JZJ_227 (by decide) (fun c_18 => ?_) (fun c_18 => ?_)
    · skip
      have h := h.1 c_18
      refine lv_aload_n hx hb d_Md_sum_JZJ_242 rfl (lv_at hl 1 rfl) ?_
      refine g_Md_207 (v := .int (dd 15)) hx hb hT hown hK hP 0 rfl rfl d_Md_sum_JZJ_243 ?_
      refine lv_aload_n hx hb d_Md_sum_JZJ_246 rfl (lv_at hl 1 rfl) ?_
      refine g_Md_222 (v := .int (dd 17)) hx hb hT hown hK hP 0 rfl rfl d_Md_sum_JZJ_247 ?_
      refine lv_isub hx hb d_Md_sum_JZJ_250 ?_
      exact jn_251 j220_4 j220_5 j220_7 x_17 ((dd 15) - (dd 17)) h ls (lv_sub hl [1, 2, 3, 4, 5, 0] rfl)
    · skip
      have h := h.2 c_18
      refine lv_aload_n hx hb d_Md_sum_JZJ_230 rfl (lv_at hl 1 rfl) ?_
      refine g_Md_222 (v := .int (dd 17)) hx hb hT hown hK hP 0 rfl rfl d_Md_sum_JZJ_231 ?_
      refine lv_aload_n hx hb d_Md_sum_JZJ_234 rfl (lv_at hl 1 rfl) ?_
      refine g_Md_207 (v := .int (dd 15)) hx hb hT hown hK hP 0 rfl rfl d_Md_sum_JZJ_235 ?_
      refine lv_isub hx hb d_Md_sum_JZJ_238 ?_
      refine lv_goto (tgt := 251) hx hb d_Md_sum_JZJ_239 (by decide) ?_
      exact jn_251 j220_4 j220_5 j220_7 x_17 ((dd 17) - (dd 15)) h ls (lv_sub hl [1, 2, 3, 4, 5, 0] rfl)
  have jn_199 : ∀ (j199_4 : Int32) (j199_5 : Int64) (s199_0 : Int64), wj_Md_sum_JZJ_199 ms a0 a1 dd Lwhole Lwhole2 bm rr kt P j199_4 j199_5 s199_0 → ∀ ls : Array Slot, lv_has ls 18 [(0, .ref qd), (3, .int a1), (4, .int j199_4), (5, .long j199_5)] → W p l e (headSpec (zz_ws y_Md_sum_JZJ b_Md_sum_JZJ 18 (some .long)) rm_Md_sum_JZJ).room s m ([.ref qd, .long a0, .int a1] : List Value).toArray below meth c s.heap [] 0 0 (MQ below (vp_Sl P) ([.ref qd, .long a0, .int a1] : List Value).toArray s 0 0 (fun _ => False)) (F0 m 199 ls [.long s199_0]) := by
    intro j199_4 j199_5 s199_0 h ls hl
    unfold wj_Md_sum_JZJ_199 at h
    refine lv_bipush (v := 9) hx hb d_Md_sum_JZJ_199 (by decide) ?_
    refine zz_llshl hx hb d_Md_sum_JZJ_201 ?_
    refine lv_topl (fun x_19 ex_19 => ?_)
    have h := h x_19 ex_19
    refine lv_lstore (lv' := [(7, .long x_19), (0, .ref qd), (3, .int a1), (4, .int j199_4), (5, .long j199_5)]) hx hb d_Md_sum_JZJ_202 hl (by decide) rfl (fun ls hl => ?_)
    refine lv_iload hx hb d_Md_sum_JZJ_204 (lv_at hl 3 rfl) ?_
    refine lv_if_eq (tgt := 216) hx hb d_Md_sum_JZJ_206 (by decide) (fun c_20 => ?_) (fun c_20 => ?_)
    · skip
      have h := h.1 c_20
      refine lv_aload_n hx hb d_Md_sum_JZJ_216 rfl (lv_at hl 1 rfl) ?_
      refine g_Md_207 (v := .int (dd 15)) hx hb hT hown hK hP 0 rfl rfl d_Md_sum_JZJ_217 ?_
      exact jn_220 j199_4 j199_5 x_19 (dd 15) h ls (lv_sub hl [1, 2, 3, 4, 0] rfl)
    · skip
      have h := h.2 c_20
      refine lv_aload_n hx hb d_Md_sum_JZJ_209 rfl (lv_at hl 1 rfl) ?_
      refine g_Md_222 (v := .int (dd 17)) hx hb hT hown hK hP 0 rfl rfl d_Md_sum_JZJ_210 ?_
      refine lv_goto (tgt := 220) hx hb d_Md_sum_JZJ_213 (by decide) ?_
      exact jn_220 j199_4 j199_5 x_19 (dd 17) h ls (lv_sub hl [1, 2, 3, 4, 0] rfl)
  have jn_178 : ∀ (j178_4 : Int32) (s178_0 : Int64), wj_Md_sum_JZJ_178 ms a0 a1 dd Lwhole Lwhole2 bm rr kt P j178_4 s178_0 → ∀ ls : Array Slot, lv_has ls 18 [(0, .ref qd), (3, .int a1), (4, .int j178_4)] → W p l e (headSpec (zz_ws y_Md_sum_JZJ b_Md_sum_JZJ 18 (some .long)) rm_Md_sum_JZJ).room s m ([.ref qd, .long a0, .int a1] : List Value).toArray below meth c s.heap [] 0 0 (MQ below (vp_Sl P) ([.ref qd, .long a0, .int a1] : List Value).toArray s 0 0 (fun _ => False)) (F0 m 178 ls [.long s178_0]) := by
    intro j178_4 s178_0 h ls hl
    unfold wj_Md_sum_JZJ_178 at h
    refine lv_bipush (v := 9) hx hb d_Md_sum_JZJ_178 (by decide) ?_
    refine zz_llshl hx hb d_Md_sum_JZJ_180 ?_
    refine lv_topl (fun x_21 ex_21 => ?_)
    have h := h x_21 ex_21
    refine lv_lstore (lv' := [(5, .long x_21), (0, .ref qd), (3, .int a1), (4, .int j178_4)]) hx hb d_Md_sum_JZJ_181 hl (by decide) rfl (fun ls hl => ?_)
    refine lv_iload hx hb d_Md_sum_JZJ_183 (lv_at hl 3 rfl) ?_
    refine lv_if_eq (tgt := 195) hx hb d_Md_sum_JZJ_185 (by decide) (fun c_22 => ?_) (fun c_22 => ?_)
    · skip
      have h := h.1 c_22
      refine lv_aload_n hx hb d_Md_sum_JZJ_195 rfl (lv_at hl 1 rfl) ?_
      refine g_Md_219 (v := .long Lwhole2) hx hb hT hown hK hP 0 rfl rfl d_Md_sum_JZJ_196 ?_
      exact jn_199 j178_4 x_21 Lwhole2 h ls (lv_sub hl [1, 2, 3, 0] rfl)
    · skip
      have h := h.2 c_22
      refine lv_aload_n hx hb d_Md_sum_JZJ_188 rfl (lv_at hl 1 rfl) ?_
      refine g_Md_200 (v := .long Lwhole) hx hb hT hown hK hP 0 rfl rfl d_Md_sum_JZJ_189 ?_
      refine lv_goto (tgt := 199) hx hb d_Md_sum_JZJ_192 (by decide) ?_
      exact jn_199 j178_4 x_21 Lwhole h ls (lv_sub hl [1, 2, 3, 0] rfl)
  have jn_160 : ∀ (s160_0 : Int32), wj_Md_sum_JZJ_160 ms a0 a1 dd Lwhole Lwhole2 bm rr kt P s160_0 → ∀ ls : Array Slot, lv_has ls 18 [(0, .ref qd), (3, .int a1)] → W p l e (headSpec (zz_ws y_Md_sum_JZJ b_Md_sum_JZJ 18 (some .long)) rm_Md_sum_JZJ).room s m ([.ref qd, .long a0, .int a1] : List Value).toArray below meth c s.heap [] 0 0 (MQ below (vp_Sl P) ([.ref qd, .long a0, .int a1] : List Value).toArray s 0 0 (fun _ => False)) (F0 m 160 ls [.int s160_0]) := by
    intro s160_0 h ls hl
    unfold wj_Md_sum_JZJ_160 at h
    refine lv_istore (lv' := [(4, .int s160_0), (0, .ref qd), (3, .int a1)]) hx hb d_Md_sum_JZJ_160 hl (by decide) rfl (fun ls hl => ?_)
    refine lv_iload hx hb d_Md_sum_JZJ_162 (lv_at hl 0 rfl) ?_
    refine lv_if_eq (tgt := 174) hx hb d_Md_sum_JZJ_164 (by decide) (fun c_23 => ?_) (fun c_23 => ?_)
    · skip
      have h := h.1 c_23
      refine lv_aload_n hx hb d_Md_sum_JZJ_174 rfl (lv_at hl 1 rfl) ?_
      refine g_Md_200 (v := .long Lwhole) hx hb hT hown hK hP 0 rfl rfl d_Md_sum_JZJ_175 ?_
      exact jn_178 s160_0 Lwhole h ls (lv_sub hl [1, 2, 0] rfl)
    · skip
      have h := h.2 c_23
      refine lv_aload_n hx hb d_Md_sum_JZJ_167 rfl (lv_at hl 1 rfl) ?_
      refine g_Md_219 (v := .long Lwhole2) hx hb hT hown hK hP 0 rfl rfl d_Md_sum_JZJ_168 ?_
      refine lv_goto (tgt := 178) hx hb d_Md_sum_JZJ_171 (by decide) ?_
      exact jn_178 s160_0 Lwhole2 h ls (lv_sub hl [1, 2, 0] rfl)
  have jn_159 : wj_Md_sum_JZJ_159 ms a0 a1 dd Lwhole Lwhole2 bm rr kt P  → ∀ ls : Array Slot, lv_has ls 18 [(0, .ref qd), (3, .int a1)] → W p l e (headSpec (zz_ws y_Md_sum_JZJ b_Md_sum_JZJ 18 (some .long)) rm_Md_sum_JZJ).room s m ([.ref qd, .long a0, .int a1] : List Value).toArray below meth c s.heap [] 0 0 (MQ below (vp_Sl P) ([.ref qd, .long a0, .int a1] : List Value).toArray s 0 0 (fun _ => False)) (F0 m 159 ls []) := by
    intro  h ls hl
    unfold wj_Md_sum_JZJ_159 at h
    refine lv_iconst (v := 0) hx hb d_Md_sum_JZJ_159 (by decide) ?_
    exact jn_160 (0 : Int32) h ls (lv_sub hl [0, 1] rfl)
  have jn_155 : wj_Md_sum_JZJ_155 ms a0 a1 dd Lwhole Lwhole2 bm rr kt P  → ∀ ls : Array Slot, lv_has ls 18 [(0, .ref qd), (3, .int a1)] → W p l e (headSpec (zz_ws y_Md_sum_JZJ b_Md_sum_JZJ 18 (some .long)) rm_Md_sum_JZJ).room s m ([.ref qd, .long a0, .int a1] : List Value).toArray below meth c s.heap [] 0 0 (MQ below (vp_Sl P) ([.ref qd, .long a0, .int a1] : List Value).toArray s 0 0 (fun _ => False)) (F0 m 155 ls []) := by
    intro  h ls hl
    unfold wj_Md_sum_JZJ_155 at h
    refine lv_iconst (v := 1) hx hb d_Md_sum_JZJ_155 (by decide) ?_
    refine lv_goto (tgt := 160) hx hb d_Md_sum_JZJ_156 (by decide) ?_
    exact jn_160 (1 : Int32) h ls (lv_sub hl [0, 1] rfl)
  have jn_99 : wj_Md_sum_JZJ_99 ms a0 a1 dd Lwhole Lwhole2 bm rr kt P  → ∀ ls : Array Slot, lv_has ls 18 [(0, .ref qd), (1, .long a0), (3, .int a1)] → W p l e (headSpec (zz_ws y_Md_sum_JZJ b_Md_sum_JZJ 18 (some .long)) rm_Md_sum_JZJ).room s m ([.ref qd, .long a0, .int a1] : List Value).toArray below meth c s.heap [] 0 0 (MQ below (vp_Sl P) ([.ref qd, .long a0, .int a1] : List Value).toArray s 0 0 (fun _ => False)) (F0 m 99 ls []) := by
    intro  h ls hl
    unfold wj_Md_sum_JZJ_99 at h
    refine lv_aload_n hx hb d_Md_sum_JZJ_99 rfl (lv_at hl 0 rfl) ?_
    refine g_Md_213 (v := .int (dd 16)) hx hb hT hown hK hP 0 rfl rfl d_Md_sum_JZJ_100 ?_
    refine lv_if_ne (tgt := 108) hx hb d_Md_sum_JZJ_103 (by decide) (fun c_24 => ?_) (fun c_24 => ?_)
    · skip
      have h := h.2 c_24
      refine lv_aload_n hx hb d_Md_sum_JZJ_108 rfl (lv_at hl 0 rfl) ?_
      refine g_Md_210 (v := .int (dd 14)) hx hb hT hown hK hP 0 rfl rfl d_Md_sum_JZJ_109 ?_
      refine lv_if_ne (tgt := 121) hx hb d_Md_sum_JZJ_112 (by decide) (fun c_25 => ?_) (fun c_25 => ?_)
      · skip
        have h := h.2 c_25
        refine lv_aload_n hx hb d_Md_sum_JZJ_121 rfl (lv_at hl 0 rfl) ?_
        refine g_Md_207 (v := .int (dd 15)) hx hb hT hown hK hP 0 rfl rfl d_Md_sum_JZJ_122 ?_
        refine lv_aload_n hx hb d_Md_sum_JZJ_125 rfl (lv_at hl 0 rfl) ?_
        refine g_Md_222 (v := .int (dd 17)) hx hb hT hown hK hP 0 rfl rfl d_Md_sum_JZJ_126 ?_
        refine lv_icmp_lt (tgt := 155) hx hb d_Md_sum_JZJ_129 (by decide) (fun c_26 => ?_) (fun c_26 => ?_)
        · skip
          have h := h.1 c_26
          exact jn_155  h ls (lv_sub hl [0, 2] rfl)
        · skip
          have h := h.2 c_26
          refine lv_aload_n hx hb d_Md_sum_JZJ_132 rfl (lv_at hl 0 rfl) ?_
          refine g_Md_207 (v := .int (dd 15)) hx hb hT hown hK hP 0 rfl rfl d_Md_sum_JZJ_133 ?_
          refine lv_aload_n hx hb d_Md_sum_JZJ_136 rfl (lv_at hl 0 rfl) ?_
          refine g_Md_222 (v := .int (dd 17)) hx hb hT hown hK hP 0 rfl rfl d_Md_sum_JZJ_137 ?_
          refine lv_icmp_ne (tgt := 159) hx hb d_Md_sum_JZJ_140 (by decide) (fun c_27 => ?_) (fun c_27 => ?_)
          · skip
            have h := h.2 c_27
            exact jn_159  h ls (lv_sub hl [0, 2] rfl)
          · skip
            have h := h.1 c_27
            refine lv_aload_n hx hb d_Md_sum_JZJ_143 rfl (lv_at hl 0 rfl) ?_
            refine g_Md_200 (v := .long Lwhole) hx hb hT hown hK hP 0 rfl rfl d_Md_sum_JZJ_144 ?_
            refine lv_aload_n hx hb d_Md_sum_JZJ_147 rfl (lv_at hl 0 rfl) ?_
            refine g_Md_219 (v := .long Lwhole2) hx hb hT hown hK hP 0 rfl rfl d_Md_sum_JZJ_148 ?_
            refine W.lcmp hx hb d_Md_sum_JZJ_151 ?_
            refine lv_if_ge (tgt := 159) hx hb d_Md_sum_JZJ_152 (by decide) (fun c_28 => ?_) (fun c_28 => ?_)
            · have kc_28 := ((lg_cmp_ge _ _).mp c_28)
              have h := h.1 kc_28
              exact jn_159  h ls (lv_sub hl [0, 2] rfl)
            · have kc_28 := (fun q => c_28 ((lg_cmp_ge _ _).mpr q))
              have h := h.2 kc_28
              exact jn_155  h ls (lv_sub hl [0, 2] rfl)
      · skip
        have h := h.1 c_25
        refine lv_aload_n hx hb d_Md_sum_JZJ_115 rfl (lv_at hl 0 rfl) ?_
        refine lv_iload_n hx hb d_Md_sum_JZJ_116 rfl (lv_at hl 2 rfl) ?_
        refine zz_Rl (As := [.int a1]) (rest := []) (wc := wD qd qmemory qr qcounts cI cB ms dd Lwhole Lwhole2 bm rr kt) X hK hP (c_Md_secondBits l D cI cB qd qmemory qr qcounts ms dd Lwhole Lwhole2 bm rr kt a1 _ h) ⟨rfl, rfl⟩ m_Md_secondBits k_Md_315 ⟨Nat.le_of_ble_eq_true rfl, Nat.le_of_ble_eq_true rfl⟩ [0, 1, 2, 3] rfl 6 0 rfl rfl rfl rfl hl.1 rfl (Nat.le_of_ble_eq_true rfl) d_Md_sum_JZJ_117 hf0 (fun r_29 h => ?_)
        exact W.lret (v := r_29) hx hb hr (fun t ht hW => ⟨r_29,  rfl, h, ht⟩) t_nil d_Md_sum_JZJ_120
    · skip
      have h := h.1 c_24
      refine lv_lload_n hx hb d_Md_sum_JZJ_106 rfl (lv_at hl 1 rfl) ?_
      exact W.lret (v := a0) hx hb hr (fun t ht hW => ⟨a0,  rfl, h, ht⟩) t_nil d_Md_sum_JZJ_107
  have jn_93 : ∀ (s93_0 : Int32), wj_Md_sum_JZJ_93 ms a0 a1 dd Lwhole Lwhole2 bm rr kt P s93_0 → ∀ ls : Array Slot, lv_has ls 18 [(3, .int a1)] → W p l e (headSpec (zz_ws y_Md_sum_JZJ b_Md_sum_JZJ 18 (some .long)) rm_Md_sum_JZJ).room s m ([.ref qd, .long a0, .int a1] : List Value).toArray below meth c s.heap [] 0 0 (MQ below (vp_Sl P) ([.ref qd, .long a0, .int a1] : List Value).toArray s 0 0 (fun _ => False)) (F0 m 93 ls [.int s93_0]) := by
    intro s93_0 h ls hl
    unfold wj_Md_sum_JZJ_93 at h
    refine lv_iload_n hx hb d_Md_sum_JZJ_93 rfl (lv_at hl 0 rfl) ?_
    refine lv_lconst (v := 0) hx hb d_Md_sum_JZJ_94 (by decide) ?_
    refine zz_Sl (As := [.int s93_0, .int a1, .long (0 : Int64)]) (rest := []) X (c_Md_signed l s93_0 a1 (0 : Int64) _ h) ⟨rfl, rfl⟩ m_Md_signed k_Md_229 ⟨Nat.le_of_ble_eq_true rfl, Nat.le_of_ble_eq_true rfl⟩ rfl hl.1 rfl (Nat.le_of_ble_eq_true rfl) d_Md_sum_JZJ_95 hf0 (fun r_30 h => ?_)
    exact W.lret (v := r_30) hx hb hr (fun t ht hW => ⟨r_30,  rfl, h, ht⟩) t_nil d_Md_sum_JZJ_98
  have jn_92 : wj_Md_sum_JZJ_92 ms a0 a1 dd Lwhole Lwhole2 bm rr kt P  → ∀ ls : Array Slot, lv_has ls 18 [(3, .int a1)] → W p l e (headSpec (zz_ws y_Md_sum_JZJ b_Md_sum_JZJ 18 (some .long)) rm_Md_sum_JZJ).room s m ([.ref qd, .long a0, .int a1] : List Value).toArray below meth c s.heap [] 0 0 (MQ below (vp_Sl P) ([.ref qd, .long a0, .int a1] : List Value).toArray s 0 0 (fun _ => False)) (F0 m 92 ls []) := by
    intro  h ls hl
    unfold wj_Md_sum_JZJ_92 at h
    refine lv_iconst (v := 0) hx hb d_Md_sum_JZJ_92 (by decide) ?_
    exact jn_93 (0 : Int32) h ls (lv_sub hl [0] rfl)
  have jn_36 : wj_Md_sum_JZJ_36 ms a0 a1 dd Lwhole Lwhole2 bm rr kt P  → ∀ ls : Array Slot, lv_has ls 18 [(0, .ref qd), (1, .long a0), (3, .int a1)] → W p l e (headSpec (zz_ws y_Md_sum_JZJ b_Md_sum_JZJ 18 (some .long)) rm_Md_sum_JZJ).room s m ([.ref qd, .long a0, .int a1] : List Value).toArray below meth c s.heap [] 0 0 (MQ below (vp_Sl P) ([.ref qd, .long a0, .int a1] : List Value).toArray s 0 0 (fun _ => False)) (F0 m 36 ls []) := by
    intro  h ls hl
    unfold wj_Md_sum_JZJ_36 at h
    refine lv_aload_n hx hb d_Md_sum_JZJ_36 rfl (lv_at hl 0 rfl) ?_
    refine g_Md_210 (v := .int (dd 14)) hx hb hT hown hK hP 0 rfl rfl d_Md_sum_JZJ_37 ?_
    refine lv_iconst (v := 2) hx hb d_Md_sum_JZJ_40 (by decide) ?_
    refine lv_icmp_ne (tgt := 46) hx hb d_Md_sum_JZJ_41 (by decide) (fun c_31 => ?_) (fun c_31 => ?_)
    · skip
      have h := h.2 c_31
      refine lv_aload_n hx hb d_Md_sum_JZJ_46 rfl (lv_at hl 0 rfl) ?_
      refine g_Md_213 (v := .int (dd 16)) hx hb hT hown hK hP 0 rfl rfl d_Md_sum_JZJ_47 ?_
      refine lv_iconst (v := 2) hx hb d_Md_sum_JZJ_50 (by decide) ?_
      refine lv_icmp_ne (tgt := 60) hx hb d_Md_sum_JZJ_51 (by decide) (fun c_32 => ?_) (fun c_32 => ?_)
      · skip
        have h := h.2 c_32
        refine lv_aload_n hx hb d_Md_sum_JZJ_60 rfl (lv_at hl 0 rfl) ?_
        refine g_Md_210 (v := .int (dd 14)) hx hb hT hown hK hP 0 rfl rfl d_Md_sum_JZJ_61 ?_
        refine lv_if_ne (tgt := 99) hx hb d_Md_sum_JZJ_64 (by decide) (fun c_33 => ?_) (fun c_33 => ?_)
        · skip
          have h := h.2 c_33
          exact jn_99  h ls (lv_sub hl [0, 1, 2] rfl)
        · skip
          have h := h.1 c_33
          refine lv_aload_n hx hb d_Md_sum_JZJ_67 rfl (lv_at hl 0 rfl) ?_
          refine g_Md_213 (v := .int (dd 16)) hx hb hT hown hK hP 0 rfl rfl d_Md_sum_JZJ_68 ?_
          refine lv_if_ne (tgt := 99) hx hb d_Md_sum_JZJ_71 (by decide) (fun c_34 => ?_) (fun c_34 => ?_)
          · skip
            have h := h.2 c_34
            exact jn_99  h ls (lv_sub hl [0, 1, 2] rfl)
          · skip
            have h := h.1 c_34
            refine lv_aload_n hx hb d_Md_sum_JZJ_74 rfl (lv_at hl 0 rfl) ?_
            refine g_Md_197 (v := .int (dd 18)) hx hb hT hown hK hP 0 rfl rfl d_Md_sum_JZJ_75 ?_
            refine lv_if_eq (tgt := 92) hx hb d_Md_sum_JZJ_78 (by decide) (fun c_35 => ?_) (fun c_35 => ?_)
            · skip
              have h := h.1 c_35
              exact jn_92  h ls (lv_sub hl [2] rfl)
            · skip
              have h := h.2 c_35
              refine lv_aload_n hx hb d_Md_sum_JZJ_81 rfl (lv_at hl 0 rfl) ?_
              refine g_Md_216 (v := .int (dd 19)) hx hb hT hown hK hP 0 rfl rfl d_Md_sum_JZJ_82 ?_
              refine lv_if_eq (tgt := 92) hx hb d_Md_sum_JZJ_85 (by decide) (fun c_36 => ?_) (fun c_36 => ?_)
              · skip
                have h := h.1 c_36
                exact jn_92  h ls (lv_sub hl [2] rfl)
              · skip
                have h := h.2 c_36
                refine lv_iconst (v := 1) hx hb d_Md_sum_JZJ_88 (by decide) ?_
                refine lv_goto (tgt := 93) hx hb d_Md_sum_JZJ_89 (by decide) ?_
                exact jn_93 (1 : Int32) h ls (lv_sub hl [2] rfl)
      · skip
        have h := h.1 c_32
        refine lv_aload_n hx hb d_Md_sum_JZJ_54 rfl (lv_at hl 0 rfl) ?_
        refine lv_iload_n hx hb d_Md_sum_JZJ_55 rfl (lv_at hl 2 rfl) ?_
        refine zz_Rl (As := [.int a1]) (rest := []) (wc := wD qd qmemory qr qcounts cI cB ms dd Lwhole Lwhole2 bm rr kt) X hK hP (c_Md_secondBits l D cI cB qd qmemory qr qcounts ms dd Lwhole Lwhole2 bm rr kt a1 _ h) ⟨rfl, rfl⟩ m_Md_secondBits k_Md_315 ⟨Nat.le_of_ble_eq_true rfl, Nat.le_of_ble_eq_true rfl⟩ [0, 1, 2, 3] rfl 6 0 rfl rfl rfl rfl hl.1 rfl (Nat.le_of_ble_eq_true rfl) d_Md_sum_JZJ_56 hf0 (fun r_37 h => ?_)
        exact W.lret (v := r_37) hx hb hr (fun t ht hW => ⟨r_37,  rfl, h, ht⟩) t_nil d_Md_sum_JZJ_59
    · skip
      have h := h.1 c_31
      refine lv_lload_n hx hb d_Md_sum_JZJ_44 rfl (lv_at hl 1 rfl) ?_
      exact W.lret (v := a0) hx hb hr (fun t ht hW => ⟨a0,  rfl, h, ht⟩) t_nil d_Md_sum_JZJ_45
  refine lv_aload_n hx hb d_Md_sum_JZJ_0 rfl (lv_at hl 0 rfl) ?_
  refine g_Md_210 (v := .int (dd 14)) hx hb hT hown hK hP 0 rfl rfl d_Md_sum_JZJ_1 ?_
  refine lv_iconst (v := 2) hx hb d_Md_sum_JZJ_4 (by decide) ?_
  refine lv_icmp_ne (tgt := 36) hx hb d_Md_sum_JZJ_5 (by decide) (fun c_38 => ?_) (fun c_38 => ?_)
  · skip
    have h := h.2 c_38
    exact jn_36  h ls (lv_sub hl [0, 1, 2] rfl)
  · skip
    have h := h.1 c_38
    refine lv_aload_n hx hb d_Md_sum_JZJ_8 rfl (lv_at hl 0 rfl) ?_
    refine g_Md_213 (v := .int (dd 16)) hx hb hT hown hK hP 0 rfl rfl d_Md_sum_JZJ_9 ?_
    refine lv_iconst (v := 2) hx hb d_Md_sum_JZJ_12 (by decide) ?_
    refine lv_icmp_ne (tgt := 36) hx hb d_Md_sum_JZJ_13 (by decide) (fun c_39 => ?_) (fun c_39 => ?_)
    · skip
      have h := h.2 c_39
      exact jn_36  h ls (lv_sub hl [0, 1, 2] rfl)
    · skip
      have h := h.1 c_39
      refine lv_aload_n hx hb d_Md_sum_JZJ_16 rfl (lv_at hl 0 rfl) ?_
      refine g_Md_197 (v := .int (dd 18)) hx hb hT hown hK hP 0 rfl rfl d_Md_sum_JZJ_17 ?_
      refine lv_aload_n hx hb d_Md_sum_JZJ_20 rfl (lv_at hl 0 rfl) ?_
      refine g_Md_216 (v := .int (dd 19)) hx hb hT hown hK hP 0 rfl rfl d_Md_sum_JZJ_21 ?_
      refine lv_icmp_ne (tgt := 31) hx hb d_Md_sum_JZJ_24 (by decide) (fun c_40 => ?_) (fun c_40 => ?_)
      · skip
        have h := h.2 c_40
        refine lv_iload_n hx hb d_Md_sum_JZJ_31 rfl (lv_at hl 2 rfl) ?_
        refine zz_Sl (As := [.int a1]) (rest := []) X (c_Md_noNumber l a1 _ h) ⟨rfl, rfl⟩ m_Md_noNumber k_Md_297 ⟨Nat.le_of_ble_eq_true rfl, Nat.le_of_ble_eq_true rfl⟩ rfl hl.1 rfl (Nat.le_of_ble_eq_true rfl) d_Md_sum_JZJ_32 hf0 (fun r_41 h => ?_)
        exact W.lret (v := r_41) hx hb hr (fun t ht hW => ⟨r_41,  rfl, h, ht⟩) t_nil d_Md_sum_JZJ_35
      · skip
        have h := h.1 c_40
        refine lv_lload_n hx hb d_Md_sum_JZJ_27 rfl (lv_at hl 1 rfl) ?_
        refine lv_goto (tgt := 35) hx hb d_Md_sum_JZJ_28 (by decide) ?_
        exact W.lret (v := a0) hx hb hr (fun t ht hW => ⟨a0,  rfl, h, ht⟩) t_nil d_Md_sum_JZJ_35
