def wp_Md_jumps (ms : Int32) (dd : Nat → Int32) (Lwhole : Int64) (Lwhole2 : Int64) (bm : Nat → Int32) (rr : Nat → Int32) (kt : Nat → Int32) (a0 : Int32) (a1 : Int32) (a2 : Int32) (P : ((Nat → Int32) × Int64 × Int64 × (Nat → Int32) × (Nat → Int32) × (Nat → Int32)) → Prop) : Prop := (((dd 6) = (0 : Int32) → zz_bz a0 ∧ ((a2 = (0 : Int32) → P ((upd (upd (upd (upd dd 12 (1 : Int32)) 11 a0) 10 a1) 13 (0 : Int32)), Lwhole, Lwhole2, bm, rr, kt)) ∧ (¬ a2 = (0 : Int32) → ((a0 = (0 : Int32) → P ((upd (upd (upd (upd dd 12 (1 : Int32)) 11 a0) 10 a1) 13 (1 : Int32)), Lwhole, Lwhole2, bm, rr, kt)) ∧ (¬ a0 = (0 : Int32) → P ((upd (upd (upd (upd dd 12 (1 : Int32)) 11 a0) 10 a1) 13 (0 : Int32)), Lwhole, Lwhole2, bm, rr, kt)))))) ∧ (¬ (dd 6) = (0 : Int32) → wp_Md_ends ms dd Lwhole Lwhole2 bm rr kt (8 : Int32) (fun u_4 => P (u_4.1, u_4.2.1, u_4.2.2.1, u_4.2.2.2.1, u_4.2.2.2.2.1, u_4.2.2.2.2.2))))
abbrev rm_Md_jumps : Room := { frames := 1, cells := 0, slots := 0, locals := 21 }
set_option maxHeartbeats 4000000 in
set_option maxRecDepth 100000 in
theorem c_Md_jumps (l : Launch) (D : va_G) (cI : ClassId) (cB : ClassId) (qd : Nat) (qmemory : Nat) (qr : Nat) (qcounts : Nat) (ms : Int32) (dd : Nat → Int32) (Lwhole : Int64) (Lwhole2 : Int64) (bm : Nat → Int32) (rr : Nat → Int32) (kt : Nat → Int32) (a0 : Int32) (a1 : Int32) (a2 : Int32) (P : ((Nat → Int32) × Int64 × Int64 × (Nat → Int32) × (Nat → Int32) × (Nat → Int32)) → Prop) (h : wp_Md_jumps ms dd Lwhole Lwhole2 bm rr kt a0 a1 a2 P) (sz : Nat) : Met l y_Md_jumps (zz_ws y_Md_jumps b_Md_jumps 4 none) rm_Md_jumps (va_Pc [.ref qd, .int a0, .int a1, .int a2] (zz_pw D [(cI, .int), (cB, .byte)] (wD qd qmemory qr qcounts cI cB ms dd Lwhole Lwhole2 bm rr kt) sz)) (va_Qv P (zz_qw D (fun u => wD qd qmemory qr qcounts cI cB ms u.1 u.2.1 u.2.2.1 u.2.2.2.1 u.2.2.2.2.1 u.2.2.2.2.2) (va_A (wD qd qmemory qr qcounts cI cB ms dd Lwhole Lwhole2 bm rr kt) sz)) (va_A (wD qd qmemory qr qcounts cI cB ms dd Lwhole Lwhole2 bm rr kt) sz)) 0 0 (va_A (wD qd qmemory qr qcounts cI cB ms dd Lwhole Lwhole2 bm rr kt) sz) := by
  refine Met.ofW (cc := b_Md_jumps) (maxL := 4) (ret := none) (by decide) rfl ?_
  intro p e s m args below meth c s₁ B hml hv
  obtain ⟨rfl, hsz, hP, hK, hD0⟩ := hv
  have hx := B.exec
  have hb := B.bytes
  have hr := B.returns
  have hts := atoms_spec (ws := (zz_ws y_Md_jumps b_Md_jumps 4 none)) B.pre
  have hown : s.vm.findClass R_Md = some m.cls := findClass_of_methodNamed B.named
  have hlocks := B.notSynchronized
  have hT := zz_hts hts
  have X : CallFix p m c b_Md_jumps 4 s ([.ref qd, .int a0, .int a1, .int a2] : List Value).toArray (zz_ws y_Md_jumps b_Md_jumps 4 none) R_Md := ⟨hx, hb, hml, hown, hts⟩
  have hf0 : 0 + 0 ≤ (headSpec (zz_ws y_Md_jumps b_Md_jumps 4 none) rm_Md_jumps).room.cells ∧ 0 + 0 ≤ (headSpec (zz_ws y_Md_jumps b_Md_jumps 4 none) rm_Md_jumps).room.slots := ⟨Nat.le_of_ble_eq_true rfl, Nat.le_of_ble_eq_true rfl⟩
  subst hsz
  have hD := hD0.self (sz := s.heap.size)
  generalize hAe : va_A (wD qd qmemory qr qcounts cI cB ms dd Lwhole Lwhole2 bm rr kt) s.heap.size = A at hD ⊢
  have hA : ∀ q : Nat, s.heap.size ≤ q → A q := fun q h => by rw [← hAe]; exact Or.inr h
  have hS : va_S A s.heap s.heap [] := va_S.rf
  have hl := lv_entry ([.ref qd, .int a0, .int a1, .int a2]) (n := 4) (Nat.le_of_ble_eq_true rfl)
  rw [lg_entry_eq]
  generalize (lg_sl ([.ref qd, .int a0, .int a1, .int a2]) ++ List.replicate (4 - (lg_sl ([.ref qd, .int a0, .int a1, .int a2])).length) Slot.unset).toArray = ls at hl ⊢
  have hl : lv_has ls 4 [(0, .ref qd), (1, .int a0), (2, .int a1), (3, .int a2)] := hl
  refine lv_aload_n hx hb d_Md_jumps_0 rfl (lv_at hl 0 rfl) ?_
  refine g_Md_57 (v := .int (dd 6)) hx hb hT hown hK hP 0 rfl rfl d_Md_jumps_1 ?_
  refine lv_if_eq (tgt := 14) hx hb d_Md_jumps_4 (by decide) (fun c_1 => ?_) (fun c_1 => ?_)
  · skip
    have h := h.1 c_1
    refine lv_aload_n hx hb d_Md_jumps_14 rfl (lv_at hl 0 rfl) ?_
    refine lv_iconst (v := 1) hx hb d_Md_jumps_15 (by decide) ?_
    refine p_Md_73 hx hb hT hown hK hP hD hS 0 rfl rfl (Or.inr rfl) d_Md_jumps_16 (fun H locs (hP : va_P D vwCl (wD qd qmemory qr qcounts cI cB ms (upd dd 12 (1 : Int32)) Lwhole Lwhole2 bm rr kt) H) (hD : va_D A (wD qd qmemory qr qcounts cI cB ms (upd dd 12 (1 : Int32)) Lwhole Lwhole2 bm rr kt)) hS => ?_)
    refine lv_aload_n hx hb d_Md_jumps_19 rfl (lv_at hl 0 rfl) ?_
    refine lv_iload_n hx hb d_Md_jumps_20 rfl (lv_at hl 1 rfl) ?_
    refine p_Md_70 hx hb hT hown hK hP hD hS 0 rfl rfl h.1 d_Md_jumps_21 (fun H locs (hP : va_P D vwCl (wD qd qmemory qr qcounts cI cB ms (upd (upd dd 12 (1 : Int32)) 11 a0) Lwhole Lwhole2 bm rr kt) H) (hD : va_D A (wD qd qmemory qr qcounts cI cB ms (upd (upd dd 12 (1 : Int32)) 11 a0) Lwhole Lwhole2 bm rr kt)) hS => ?_)
    have h := h.2
    refine lv_aload_n hx hb d_Md_jumps_24 rfl (lv_at hl 0 rfl) ?_
    refine lv_iload_n hx hb d_Md_jumps_25 rfl (lv_at hl 2 rfl) ?_
    refine p_Md_92 hx hb hT hown hK hP hD hS 0 rfl rfl d_Md_jumps_26 (fun H locs (hP : va_P D vwCl (wD qd qmemory qr qcounts cI cB ms (upd (upd (upd dd 12 (1 : Int32)) 11 a0) 10 a1) Lwhole Lwhole2 bm rr kt) H) (hD : va_D A (wD qd qmemory qr qcounts cI cB ms (upd (upd (upd dd 12 (1 : Int32)) 11 a0) 10 a1) Lwhole Lwhole2 bm rr kt)) hS => ?_)
    refine lv_aload_n hx hb d_Md_jumps_29 rfl (lv_at hl 0 rfl) ?_
    refine lv_iload_n hx hb d_Md_jumps_30 rfl (lv_at hl 3 rfl) ?_
    refine lv_if_eq (tgt := 42) hx hb d_Md_jumps_31 (by decide) (fun c_2 => ?_) (fun c_2 => ?_)
    · skip
      have h := h.1 c_2
      refine lv_iconst (v := 0) hx hb d_Md_jumps_42 (by decide) ?_
      refine p_Md_76 hx hb hT hown hK hP hD hS 0 rfl rfl (Or.inl rfl) d_Md_jumps_43 (fun H locs (hP : va_P D vwCl (wD qd qmemory qr qcounts cI cB ms (upd (upd (upd (upd dd 12 (1 : Int32)) 11 a0) 10 a1) 13 (0 : Int32)) Lwhole Lwhole2 bm rr kt) H) (hD : va_D A (wD qd qmemory qr qcounts cI cB ms (upd (upd (upd (upd dd 12 (1 : Int32)) 11 a0) 10 a1) 13 (0 : Int32)) Lwhole Lwhole2 bm rr kt)) hS => ?_)
      exact W.vret hx hb hr (fun t ht hW => ⟨⟨((upd (upd (upd (upd dd 12 (1 : Int32)) 11 a0) 10 a1) 13 (0 : Int32)), Lwhole, Lwhole2, bm, rr, kt), rfl, h, by rw [ht]; exact hP, hD⟩, hS.F ht⟩) hS.2.2 d_Md_jumps_46
    · skip
      have h := h.2 c_2
      refine lv_iload_n hx hb d_Md_jumps_34 rfl (lv_at hl 1 rfl) ?_
      refine lv_if_ne (tgt := 42) hx hb d_Md_jumps_35 (by decide) (fun c_3 => ?_) (fun c_3 => ?_)
      · skip
        have h := h.2 c_3
        refine lv_iconst (v := 0) hx hb d_Md_jumps_42 (by decide) ?_
        refine p_Md_76 hx hb hT hown hK hP hD hS 0 rfl rfl (Or.inl rfl) d_Md_jumps_43 (fun H locs (hP : va_P D vwCl (wD qd qmemory qr qcounts cI cB ms (upd (upd (upd (upd dd 12 (1 : Int32)) 11 a0) 10 a1) 13 (0 : Int32)) Lwhole Lwhole2 bm rr kt) H) (hD : va_D A (wD qd qmemory qr qcounts cI cB ms (upd (upd (upd (upd dd 12 (1 : Int32)) 11 a0) 10 a1) 13 (0 : Int32)) Lwhole Lwhole2 bm rr kt)) hS => ?_)
        exact W.vret hx hb hr (fun t ht hW => ⟨⟨((upd (upd (upd (upd dd 12 (1 : Int32)) 11 a0) 10 a1) 13 (0 : Int32)), Lwhole, Lwhole2, bm, rr, kt), rfl, h, by rw [ht]; exact hP, hD⟩, hS.F ht⟩) hS.2.2 d_Md_jumps_46
      · skip
        have h := h.1 c_3
        refine lv_iconst (v := 1) hx hb d_Md_jumps_38 (by decide) ?_
        refine lv_goto (tgt := 43) hx hb d_Md_jumps_39 (by decide) ?_
        refine p_Md_76 hx hb hT hown hK hP hD hS 0 rfl rfl (Or.inr rfl) d_Md_jumps_43 (fun H locs (hP : va_P D vwCl (wD qd qmemory qr qcounts cI cB ms (upd (upd (upd (upd dd 12 (1 : Int32)) 11 a0) 10 a1) 13 (1 : Int32)) Lwhole Lwhole2 bm rr kt) H) (hD : va_D A (wD qd qmemory qr qcounts cI cB ms (upd (upd (upd (upd dd 12 (1 : Int32)) 11 a0) 10 a1) 13 (1 : Int32)) Lwhole Lwhole2 bm rr kt)) hS => ?_)
        exact W.vret hx hb hr (fun t ht hW => ⟨⟨((upd (upd (upd (upd dd 12 (1 : Int32)) 11 a0) 10 a1) 13 (1 : Int32)), Lwhole, Lwhole2, bm, rr, kt), rfl, h, by rw [ht]; exact hP, hD⟩, hS.F ht⟩) hS.2.2 d_Md_jumps_46
  · skip
    have h := h.2 c_1
    refine lv_aload_n hx hb d_Md_jumps_7 rfl (lv_at hl 0 rfl) ?_
    refine lv_bipush (v := 8) hx hb d_Md_jumps_8 (by decide) ?_
    refine zz_Wv (As := [.int (8 : Int32)]) (rest := []) (wc := wD qd qmemory qr qcounts cI cB ms dd Lwhole Lwhole2 bm rr kt) (wr := []) X hK hP hD hS hA (c_Md_ends l D cI cB qd qmemory qr qcounts ms dd Lwhole Lwhole2 bm rr kt (8 : Int32) _ h _) ⟨rfl, rfl⟩ m_Md_ends k_Md_116 ⟨Nat.le_of_ble_eq_true rfl, Nat.le_of_ble_eq_true rfl⟩ [0, 1, 2, 3] [] rfl rfl (by decide) (by decide) (by decide) 6 0 rfl rfl rfl rfl hl.1 rfl (Nat.le_of_ble_eq_true rfl) d_Md_jumps_10 hf0 (fun u_4 H locs h hP hD hS => ?_)
    have hP : va_P D vwCl (wD qd qmemory qr qcounts cI cB ms u_4.1 u_4.2.1 u_4.2.2.1 u_4.2.2.2.1 u_4.2.2.2.2.1 u_4.2.2.2.2.2) H := hP.sub [0, 1, 2, 3] rfl
    have hD : va_D A (wD qd qmemory qr qcounts cI cB ms u_4.1 u_4.2.1 u_4.2.2.1 u_4.2.2.2.1 u_4.2.2.2.2.1 u_4.2.2.2.2.2) := hD.sub [0, 1, 2, 3] (by decide) rfl
    exact W.vret hx hb hr (fun t ht hW => ⟨⟨(u_4.1, u_4.2.1, u_4.2.2.1, u_4.2.2.2.1, u_4.2.2.2.2.1, u_4.2.2.2.2.2), rfl, h, by rw [ht]; exact hP, hD⟩, hS.F ht⟩) hS.2.2 d_Md_jumps_13
def wp_Md_moves (ms : Int32) (dd : Nat → Int32) (Lwhole : Int64) (Lwhole2 : Int64) (bm : Nat → Int32) (rr : Nat → Int32) (kt : Nat → Int32) (a0 : Int32) (P : ((Nat → Int32) × Int64 × Int64 × (Nat → Int32) × (Nat → Int32) × (Nat → Int32)) → Prop) : Prop := (((a0 = (8 : Int32)) → wp_Md_rs ms dd Lwhole Lwhole2 bm rr kt (fun r_2 => wp_Md_jumps ms dd Lwhole Lwhole2 bm rr kt (1 : Int32) r_2 (0 : Int32) (fun u_3 => P (u_3.1, u_3.2.1, u_3.2.2.1, u_3.2.2.2.1, u_3.2.2.2.2.1, u_3.2.2.2.2.2)))) ∧ (¬ (a0 = (8 : Int32)) → (((a0 = (9 : Int32)) → wp_Md_field ms dd Lwhole Lwhole2 bm rr kt (21 : Int32) (fun r_6 => wp_Md_field ms dd Lwhole Lwhole2 bm rr kt (11 : Int32) (fun r_7 => ((r_6 = r_7 → wp_Md_ends ms dd Lwhole Lwhole2 bm rr kt (8 : Int32) (fun u_15 => wp_Md_rs ms u_15.1 u_15.2.1 u_15.2.2.1 u_15.2.2.2.1 u_15.2.2.2.2.1 u_15.2.2.2.2.2 (fun r_17 => wp_Md_jumps ms u_15.1 u_15.2.1 u_15.2.2.1 u_15.2.2.2.1 u_15.2.2.2.2.1 u_15.2.2.2.2.2 (1 : Int32) r_17 (0 : Int32) (fun u_18 => wp_Md_field ms u_18.1 u_18.2.1 u_18.2.2.1 u_18.2.2.2.1 u_18.2.2.2.2.1 u_18.2.2.2.2.2 (11 : Int32) (fun r_20 => wp_Md_into ms u_18.1 u_18.2.1 u_18.2.2.1 u_18.2.2.2.1 u_18.2.2.2.2.1 u_18.2.2.2.2.2 r_20 ((u_18.1 3) + (8 : Int32)) (fun u_21 => P (u_21.1, u_21.2.1, u_21.2.2.1, u_21.2.2.2.1, u_21.2.2.2.2.1, u_21.2.2.2.2.2))))))) ∧ (¬ r_6 = r_7 → wp_Md_rs ms dd Lwhole Lwhole2 bm rr kt (fun r_9 => wp_Md_jumps ms dd Lwhole Lwhole2 bm rr kt (1 : Int32) r_9 (0 : Int32) (fun u_10 => wp_Md_field ms u_10.1 u_10.2.1 u_10.2.2.1 u_10.2.2.2.1 u_10.2.2.2.2.1 u_10.2.2.2.2.2 (11 : Int32) (fun r_12 => wp_Md_into ms u_10.1 u_10.2.1 u_10.2.2.1 u_10.2.2.2.1 u_10.2.2.2.2.1 u_10.2.2.2.2.2 r_12 ((u_10.1 3) + (8 : Int32)) (fun u_13 => P (u_13.1, u_13.2.1, u_13.2.2.1, u_13.2.2.2.1, u_13.2.2.2.2.1, u_13.2.2.2.2.2)))))))))) ∧ (¬ (a0 = (9 : Int32)) → (((a0 = (10 : Int32)) → wp_Md_rt ms dd Lwhole Lwhole2 bm rr kt (fun r_24 => ((r_24 = (0 : Int32) → wp_Md_field ms dd Lwhole Lwhole2 bm rr kt (11 : Int32) (fun r_26 => wp_Md_rs ms dd Lwhole Lwhole2 bm rr kt (fun r_27 => wp_Md_into ms dd Lwhole Lwhole2 bm rr kt r_26 r_27 (fun u_28 => P (u_28.1, u_28.2.1, u_28.2.2.1, u_28.2.2.2.1, u_28.2.2.2.2.1, u_28.2.2.2.2.2))))) ∧ (¬ r_24 = (0 : Int32) → P (dd, Lwhole, Lwhole2, bm, rr, kt))))) ∧ (¬ (a0 = (10 : Int32)) → (((a0 = (11 : Int32)) → wp_Md_rt ms dd Lwhole Lwhole2 bm rr kt (fun r_31 => ((r_31 = (0 : Int32) → P (dd, Lwhole, Lwhole2, bm, rr, kt)) ∧ (¬ r_31 = (0 : Int32) → wp_Md_field ms dd Lwhole Lwhole2 bm rr kt (11 : Int32) (fun r_33 => wp_Md_rs ms dd Lwhole Lwhole2 bm rr kt (fun r_34 => wp_Md_into ms dd Lwhole Lwhole2 bm rr kt r_33 r_34 (fun u_35 => P (u_35.1, u_35.2.1, u_35.2.2.1, u_35.2.2.2.1, u_35.2.2.2.2.1, u_35.2.2.2.2.2)))))))) ∧ (¬ (a0 = (11 : Int32)) → (((a0 = (12 : Int32)) → wp_Md_ends ms dd Lwhole Lwhole2 bm rr kt (7 : Int32) (fun u_38 => P (u_38.1, u_38.2.1, u_38.2.2.1, u_38.2.2.2.1, u_38.2.2.2.2.1, u_38.2.2.2.2.2))) ∧ (¬ (a0 = (12 : Int32)) → (((a0 = (13 : Int32)) → wp_Md_ends ms dd Lwhole Lwhole2 bm rr kt (6 : Int32) (fun u_41 => P (u_41.1, u_41.2.1, u_41.2.2.1, u_41.2.2.2.1, u_41.2.2.2.2.1, u_41.2.2.2.2.2))) ∧ (¬ (a0 = (13 : Int32)) → (((a0 = (15 : Int32)) → P (dd, Lwhole, Lwhole2, bm, rr, kt)) ∧ (¬ (a0 = (15 : Int32)) → wp_Md_ends ms dd Lwhole Lwhole2 bm rr kt (3 : Int32) (fun u_44 => P (u_44.1, u_44.2.1, u_44.2.2.1, u_44.2.2.2.1, u_44.2.2.2.2.1, u_44.2.2.2.2.2))))))))))))))))
abbrev rm_Md_moves : Room := { frames := 2, cells := 0, slots := 0, locals := 44 }
set_option maxHeartbeats 4000000 in
set_option maxRecDepth 100000 in
theorem c_Md_moves (l : Launch) (D : va_G) (cI : ClassId) (cB : ClassId) (qd : Nat) (qmemory : Nat) (qr : Nat) (qcounts : Nat) (ms : Int32) (dd : Nat → Int32) (Lwhole : Int64) (Lwhole2 : Int64) (bm : Nat → Int32) (rr : Nat → Int32) (kt : Nat → Int32) (a0 : Int32) (P : ((Nat → Int32) × Int64 × Int64 × (Nat → Int32) × (Nat → Int32) × (Nat → Int32)) → Prop) (h : wp_Md_moves ms dd Lwhole Lwhole2 bm rr kt a0 P) (sz : Nat) : Met l y_Md_moves (zz_ws y_Md_moves b_Md_moves 2 none) rm_Md_moves (va_Pc [.ref qd, .int a0] (zz_pw D [(cI, .int), (cB, .byte)] (wD qd qmemory qr qcounts cI cB ms dd Lwhole Lwhole2 bm rr kt) sz)) (va_Qv P (zz_qw D (fun u => wD qd qmemory qr qcounts cI cB ms u.1 u.2.1 u.2.2.1 u.2.2.2.1 u.2.2.2.2.1 u.2.2.2.2.2) (va_A (wD qd qmemory qr qcounts cI cB ms dd Lwhole Lwhole2 bm rr kt) sz)) (va_A (wD qd qmemory qr qcounts cI cB ms dd Lwhole Lwhole2 bm rr kt) sz)) 0 0 (va_A (wD qd qmemory qr qcounts cI cB ms dd Lwhole Lwhole2 bm rr kt) sz) := by
  refine Met.ofW (cc := b_Md_moves) (maxL := 2) (ret := none) (by decide) rfl ?_
  intro p e s m args below meth c s₁ B hml hv
  obtain ⟨rfl, hsz, hP, hK, hD0⟩ := hv
  have hx := B.exec
  have hb := B.bytes
  have hr := B.returns
  have hts := atoms_spec (ws := (zz_ws y_Md_moves b_Md_moves 2 none)) B.pre
  have hown : s.vm.findClass R_Md = some m.cls := findClass_of_methodNamed B.named
  have hlocks := B.notSynchronized
  have hT := zz_hts hts
  have X : CallFix p m c b_Md_moves 2 s ([.ref qd, .int a0] : List Value).toArray (zz_ws y_Md_moves b_Md_moves 2 none) R_Md := ⟨hx, hb, hml, hown, hts⟩
  have hf0 : 0 + 0 ≤ (headSpec (zz_ws y_Md_moves b_Md_moves 2 none) rm_Md_moves).room.cells ∧ 0 + 0 ≤ (headSpec (zz_ws y_Md_moves b_Md_moves 2 none) rm_Md_moves).room.slots := ⟨Nat.le_of_ble_eq_true rfl, Nat.le_of_ble_eq_true rfl⟩
  subst hsz
  have hD := hD0.self (sz := s.heap.size)
  generalize hAe : va_A (wD qd qmemory qr qcounts cI cB ms dd Lwhole Lwhole2 bm rr kt) s.heap.size = A at hD ⊢
  have hA : ∀ q : Nat, s.heap.size ≤ q → A q := fun q h => by rw [← hAe]; exact Or.inr h
  have hS : va_S A s.heap s.heap [] := va_S.rf
  have hl := lv_entry ([.ref qd, .int a0]) (n := 2) (Nat.le_of_ble_eq_true rfl)
  rw [lg_entry_eq]
  generalize (lg_sl ([.ref qd, .int a0]) ++ List.replicate (2 - (lg_sl ([.ref qd, .int a0])).length) Slot.unset).toArray = ls at hl ⊢
  have hl : lv_has ls 2 [(0, .ref qd), (1, .int a0)] := hl
  refine lv_iload_n hx hb d_Md_moves_0 rfl (lv_at hl 1 rfl) ?_
  by_cases c_1 : a0 = (8 : Int32)
  · have h := h.1 c_1
    have h0 := c_1
    refine lv_tableIn (off := 47) (tgt := 48) hx hb d_Md_moves_1 (by rw [h0]; decide) (by rw [h0]; decide) (by rw [h0]; rfl) (by decide) ?_
    refine lv_aload_n hx hb d_Md_moves_48 rfl (lv_at hl 0 rfl) ?_
    refine lv_iconst (v := 1) hx hb d_Md_moves_49 (by decide) ?_
    refine lv_aload_n hx hb d_Md_moves_50 rfl (lv_at hl 0 rfl) ?_
    refine zz_Ri (As := []) (rest := [.int (1 : Int32), .ref qd]) (wc := wD qd qmemory qr qcounts cI cB ms dd Lwhole Lwhole2 bm rr kt) X hK hP (c_Md_rs l D cI cB qd qmemory qr qcounts ms dd Lwhole Lwhole2 bm rr kt _ h) ⟨rfl, rfl⟩ m_Md_rs k_Md_132 ⟨Nat.le_of_ble_eq_true rfl, Nat.le_of_ble_eq_true rfl⟩ [0, 1, 2, 3] rfl 6 0 rfl rfl rfl rfl hl.1 rfl (Nat.le_of_ble_eq_true rfl) d_Md_moves_51 hf0 (fun r_2 h => ?_)
    refine lv_iconst (v := 0) hx hb d_Md_moves_54 (by decide) ?_
    refine zz_Wv (As := [.int (1 : Int32), .int r_2, .int (0 : Int32)]) (rest := []) (wc := wD qd qmemory qr qcounts cI cB ms dd Lwhole Lwhole2 bm rr kt) (wr := []) X hK hP hD hS hA (c_Md_jumps l D cI cB qd qmemory qr qcounts ms dd Lwhole Lwhole2 bm rr kt (1 : Int32) r_2 (0 : Int32) _ h _) ⟨rfl, rfl⟩ m_Md_jumps k_Md_124 ⟨Nat.le_of_ble_eq_true rfl, Nat.le_of_ble_eq_true rfl⟩ [0, 1, 2, 3] [] rfl rfl (by decide) (by decide) (by decide) 6 0 rfl rfl rfl rfl hl.1 rfl (Nat.le_of_ble_eq_true rfl) d_Md_moves_55 hf0 (fun u_3 H locs h hP hD hS => ?_)
    have hP : va_P D vwCl (wD qd qmemory qr qcounts cI cB ms u_3.1 u_3.2.1 u_3.2.2.1 u_3.2.2.2.1 u_3.2.2.2.2.1 u_3.2.2.2.2.2) H := hP.sub [0, 1, 2, 3] rfl
    have hD : va_D A (wD qd qmemory qr qcounts cI cB ms u_3.1 u_3.2.1 u_3.2.2.1 u_3.2.2.2.1 u_3.2.2.2.2.1 u_3.2.2.2.2.2) := hD.sub [0, 1, 2, 3] (by decide) rfl
    refine lv_goto (tgt := 186) hx hb d_Md_moves_58 (by decide) ?_
    exact W.vret hx hb hr (fun t ht hW => ⟨⟨(u_3.1, u_3.2.1, u_3.2.2.1, u_3.2.2.2.1, u_3.2.2.2.2.1, u_3.2.2.2.2.2), rfl, h, by rw [ht]; exact hP, hD⟩, hS.F ht⟩) hS.2.2 d_Md_moves_186
  · have h := h.2 c_1
    by_cases c_5 : a0 = (9 : Int32)
    · have h := h.1 c_5
      have h0 := c_5
      refine lv_tableIn (off := 60) (tgt := 61) hx hb d_Md_moves_1 (by rw [h0]; decide) (by rw [h0]; decide) (by rw [h0]; rfl) (by decide) ?_
      refine lv_aload_n hx hb d_Md_moves_61 rfl (lv_at hl 0 rfl) ?_
      refine lv_bipush (v := 21) hx hb d_Md_moves_62 (by decide) ?_
      refine zz_Ri (As := [.int (21 : Int32)]) (rest := []) (wc := wD qd qmemory qr qcounts cI cB ms dd Lwhole Lwhole2 bm rr kt) X hK hP (c_Md_field l D cI cB qd qmemory qr qcounts ms dd Lwhole Lwhole2 bm rr kt (21 : Int32) _ h) ⟨rfl, rfl⟩ m_Md_field k_Md_85 ⟨Nat.le_of_ble_eq_true rfl, Nat.le_of_ble_eq_true rfl⟩ [0, 1, 2, 3] rfl 6 0 rfl rfl rfl rfl hl.1 rfl (Nat.le_of_ble_eq_true rfl) d_Md_moves_64 hf0 (fun r_6 h => ?_)
      refine lv_aload_n hx hb d_Md_moves_67 rfl (lv_at hl 0 rfl) ?_
      refine lv_bipush (v := 11) hx hb d_Md_moves_68 (by decide) ?_
      refine zz_Ri (As := [.int (11 : Int32)]) (rest := [.int r_6]) (wc := wD qd qmemory qr qcounts cI cB ms dd Lwhole Lwhole2 bm rr kt) X hK hP (c_Md_field l D cI cB qd qmemory qr qcounts ms dd Lwhole Lwhole2 bm rr kt (11 : Int32) _ h) ⟨rfl, rfl⟩ m_Md_field k_Md_85 ⟨Nat.le_of_ble_eq_true rfl, Nat.le_of_ble_eq_true rfl⟩ [0, 1, 2, 3] rfl 6 0 rfl rfl rfl rfl hl.1 rfl (Nat.le_of_ble_eq_true rfl) d_Md_moves_70 hf0 (fun r_7 h => ?_)
      refine lv_icmp_ne (tgt := 82) hx hb d_Md_moves_73 (by decide) (fun c_8 => ?_) (fun c_8 => ?_)
      · skip
        have h := h.2 c_8
        refine lv_aload_n hx hb d_Md_moves_82 rfl (lv_at hl 0 rfl) ?_
        refine lv_iconst (v := 1) hx hb d_Md_moves_83 (by decide) ?_
        refine lv_aload_n hx hb d_Md_moves_84 rfl (lv_at hl 0 rfl) ?_
        refine zz_Ri (As := []) (rest := [.int (1 : Int32), .ref qd]) (wc := wD qd qmemory qr qcounts cI cB ms dd Lwhole Lwhole2 bm rr kt) X hK hP (c_Md_rs l D cI cB qd qmemory qr qcounts ms dd Lwhole Lwhole2 bm rr kt _ h) ⟨rfl, rfl⟩ m_Md_rs k_Md_132 ⟨Nat.le_of_ble_eq_true rfl, Nat.le_of_ble_eq_true rfl⟩ [0, 1, 2, 3] rfl 6 0 rfl rfl rfl rfl hl.1 rfl (Nat.le_of_ble_eq_true rfl) d_Md_moves_85 hf0 (fun r_9 h => ?_)
        refine lv_iconst (v := 0) hx hb d_Md_moves_88 (by decide) ?_
        refine zz_Wv (As := [.int (1 : Int32), .int r_9, .int (0 : Int32)]) (rest := []) (wc := wD qd qmemory qr qcounts cI cB ms dd Lwhole Lwhole2 bm rr kt) (wr := []) X hK hP hD hS hA (c_Md_jumps l D cI cB qd qmemory qr qcounts ms dd Lwhole Lwhole2 bm rr kt (1 : Int32) r_9 (0 : Int32) _ h _) ⟨rfl, rfl⟩ m_Md_jumps k_Md_124 ⟨Nat.le_of_ble_eq_true rfl, Nat.le_of_ble_eq_true rfl⟩ [0, 1, 2, 3] [] rfl rfl (by decide) (by decide) (by decide) 6 0 rfl rfl rfl rfl hl.1 rfl (Nat.le_of_ble_eq_true rfl) d_Md_moves_89 hf0 (fun u_10 H locs h hP hD hS => ?_)
        have hP : va_P D vwCl (wD qd qmemory qr qcounts cI cB ms u_10.1 u_10.2.1 u_10.2.2.1 u_10.2.2.2.1 u_10.2.2.2.2.1 u_10.2.2.2.2.2) H := hP.sub [0, 1, 2, 3] rfl
        have hD : va_D A (wD qd qmemory qr qcounts cI cB ms u_10.1 u_10.2.1 u_10.2.2.1 u_10.2.2.2.1 u_10.2.2.2.2.1 u_10.2.2.2.2.2) := hD.sub [0, 1, 2, 3] (by decide) rfl
        refine lv_aload_n hx hb d_Md_moves_92 rfl (lv_at hl 0 rfl) ?_
        refine lv_aload_n hx hb d_Md_moves_93 rfl (lv_at hl 0 rfl) ?_
        refine lv_bipush (v := 11) hx hb d_Md_moves_94 (by decide) ?_
        refine zz_Ri (As := [.int (11 : Int32)]) (rest := [.ref qd]) (wc := wD qd qmemory qr qcounts cI cB ms u_10.1 u_10.2.1 u_10.2.2.1 u_10.2.2.2.1 u_10.2.2.2.2.1 u_10.2.2.2.2.2) X hK hP (c_Md_field l D cI cB qd qmemory qr qcounts ms u_10.1 u_10.2.1 u_10.2.2.1 u_10.2.2.2.1 u_10.2.2.2.2.1 u_10.2.2.2.2.2 (11 : Int32) _ h) ⟨rfl, rfl⟩ m_Md_field k_Md_85 ⟨Nat.le_of_ble_eq_true rfl, Nat.le_of_ble_eq_true rfl⟩ [0, 1, 2, 3] rfl 6 0 rfl rfl rfl rfl hl.1 rfl (Nat.le_of_ble_eq_true rfl) d_Md_moves_96 hf0 (fun r_12 h => ?_)
        refine lv_aload_n hx hb d_Md_moves_99 rfl (lv_at hl 0 rfl) ?_
        refine g_Md_54 (v := .int (u_10.1 3)) hx hb hT hown hK hP 0 rfl rfl d_Md_moves_100 ?_
        refine lv_bipush (v := 8) hx hb d_Md_moves_103 (by decide) ?_
        refine lv_iadd hx hb d_Md_moves_105 ?_
        refine zz_Wv (As := [.int r_12, .int ((u_10.1 3) + (8 : Int32))]) (rest := []) (wc := wD qd qmemory qr qcounts cI cB ms u_10.1 u_10.2.1 u_10.2.2.1 u_10.2.2.2.1 u_10.2.2.2.2.1 u_10.2.2.2.2.2) (wr := []) X hK hP hD hS hA (c_Md_into l D cI cB qd qmemory qr qcounts ms u_10.1 u_10.2.1 u_10.2.2.1 u_10.2.2.2.1 u_10.2.2.2.2.1 u_10.2.2.2.2.2 r_12 ((u_10.1 3) + (8 : Int32)) _ h _) ⟨rfl, rfl⟩ m_Md_into k_Md_128 ⟨Nat.le_of_ble_eq_true rfl, Nat.le_of_ble_eq_true rfl⟩ [0, 1, 2, 3] [] rfl rfl (by decide) (by decide) (by decide) 6 0 rfl rfl rfl rfl hl.1 rfl (Nat.le_of_ble_eq_true rfl) d_Md_moves_106 hf0 (fun u_13 H locs h hP hD hS => ?_)
        have hP : va_P D vwCl (wD qd qmemory qr qcounts cI cB ms u_13.1 u_13.2.1 u_13.2.2.1 u_13.2.2.2.1 u_13.2.2.2.2.1 u_13.2.2.2.2.2) H := hP.sub [0, 1, 2, 3] rfl
        have hD : va_D A (wD qd qmemory qr qcounts cI cB ms u_13.1 u_13.2.1 u_13.2.2.1 u_13.2.2.2.1 u_13.2.2.2.2.1 u_13.2.2.2.2.2) := hD.sub [0, 1, 2, 3] (by decide) rfl
        refine lv_goto (tgt := 186) hx hb d_Md_moves_109 (by decide) ?_
        exact W.vret hx hb hr (fun t ht hW => ⟨⟨(u_13.1, u_13.2.1, u_13.2.2.1, u_13.2.2.2.1, u_13.2.2.2.2.1, u_13.2.2.2.2.2), rfl, h, by rw [ht]; exact hP, hD⟩, hS.F ht⟩) hS.2.2 d_Md_moves_186
      · skip
        have h := h.1 c_8
        refine lv_aload_n hx hb d_Md_moves_76 rfl (lv_at hl 0 rfl) ?_
        refine lv_bipush (v := 8) hx hb d_Md_moves_77 (by decide) ?_
        refine zz_Wv (As := [.int (8 : Int32)]) (rest := []) (wc := wD qd qmemory qr qcounts cI cB ms dd Lwhole Lwhole2 bm rr kt) (wr := []) X hK hP hD hS hA (c_Md_ends l D cI cB qd qmemory qr qcounts ms dd Lwhole Lwhole2 bm rr kt (8 : Int32) _ h _) ⟨rfl, rfl⟩ m_Md_ends k_Md_116 ⟨Nat.le_of_ble_eq_true rfl, Nat.le_of_ble_eq_true rfl⟩ [0, 1, 2, 3] [] rfl rfl (by decide) (by decide) (by decide) 6 0 rfl rfl rfl rfl hl.1 rfl (Nat.le_of_ble_eq_true rfl) d_Md_moves_79 hf0 (fun u_15 H locs h hP hD hS => ?_)
        have hP : va_P D vwCl (wD qd qmemory qr qcounts cI cB ms u_15.1 u_15.2.1 u_15.2.2.1 u_15.2.2.2.1 u_15.2.2.2.2.1 u_15.2.2.2.2.2) H := hP.sub [0, 1, 2, 3] rfl
        have hD : va_D A (wD qd qmemory qr qcounts cI cB ms u_15.1 u_15.2.1 u_15.2.2.1 u_15.2.2.2.1 u_15.2.2.2.2.1 u_15.2.2.2.2.2) := hD.sub [0, 1, 2, 3] (by decide) rfl
        refine lv_aload_n hx hb d_Md_moves_82 rfl (lv_at hl 0 rfl) ?_
        refine lv_iconst (v := 1) hx hb d_Md_moves_83 (by decide) ?_
        refine lv_aload_n hx hb d_Md_moves_84 rfl (lv_at hl 0 rfl) ?_
        refine zz_Ri (As := []) (rest := [.int (1 : Int32), .ref qd]) (wc := wD qd qmemory qr qcounts cI cB ms u_15.1 u_15.2.1 u_15.2.2.1 u_15.2.2.2.1 u_15.2.2.2.2.1 u_15.2.2.2.2.2) X hK hP (c_Md_rs l D cI cB qd qmemory qr qcounts ms u_15.1 u_15.2.1 u_15.2.2.1 u_15.2.2.2.1 u_15.2.2.2.2.1 u_15.2.2.2.2.2 _ h) ⟨rfl, rfl⟩ m_Md_rs k_Md_132 ⟨Nat.le_of_ble_eq_true rfl, Nat.le_of_ble_eq_true rfl⟩ [0, 1, 2, 3] rfl 6 0 rfl rfl rfl rfl hl.1 rfl (Nat.le_of_ble_eq_true rfl) d_Md_moves_85 hf0 (fun r_17 h => ?_)
        refine lv_iconst (v := 0) hx hb d_Md_moves_88 (by decide) ?_
        refine zz_Wv (As := [.int (1 : Int32), .int r_17, .int (0 : Int32)]) (rest := []) (wc := wD qd qmemory qr qcounts cI cB ms u_15.1 u_15.2.1 u_15.2.2.1 u_15.2.2.2.1 u_15.2.2.2.2.1 u_15.2.2.2.2.2) (wr := []) X hK hP hD hS hA (c_Md_jumps l D cI cB qd qmemory qr qcounts ms u_15.1 u_15.2.1 u_15.2.2.1 u_15.2.2.2.1 u_15.2.2.2.2.1 u_15.2.2.2.2.2 (1 : Int32) r_17 (0 : Int32) _ h _) ⟨rfl, rfl⟩ m_Md_jumps k_Md_124 ⟨Nat.le_of_ble_eq_true rfl, Nat.le_of_ble_eq_true rfl⟩ [0, 1, 2, 3] [] rfl rfl (by decide) (by decide) (by decide) 6 0 rfl rfl rfl rfl hl.1 rfl (Nat.le_of_ble_eq_true rfl) d_Md_moves_89 hf0 (fun u_18 H locs h hP hD hS => ?_)
        have hP : va_P D vwCl (wD qd qmemory qr qcounts cI cB ms u_18.1 u_18.2.1 u_18.2.2.1 u_18.2.2.2.1 u_18.2.2.2.2.1 u_18.2.2.2.2.2) H := hP.sub [0, 1, 2, 3] rfl
        have hD : va_D A (wD qd qmemory qr qcounts cI cB ms u_18.1 u_18.2.1 u_18.2.2.1 u_18.2.2.2.1 u_18.2.2.2.2.1 u_18.2.2.2.2.2) := hD.sub [0, 1, 2, 3] (by decide) rfl
        refine lv_aload_n hx hb d_Md_moves_92 rfl (lv_at hl 0 rfl) ?_
        refine lv_aload_n hx hb d_Md_moves_93 rfl (lv_at hl 0 rfl) ?_
        refine lv_bipush (v := 11) hx hb d_Md_moves_94 (by decide) ?_
        refine zz_Ri (As := [.int (11 : Int32)]) (rest := [.ref qd]) (wc := wD qd qmemory qr qcounts cI cB ms u_18.1 u_18.2.1 u_18.2.2.1 u_18.2.2.2.1 u_18.2.2.2.2.1 u_18.2.2.2.2.2) X hK hP (c_Md_field l D cI cB qd qmemory qr qcounts ms u_18.1 u_18.2.1 u_18.2.2.1 u_18.2.2.2.1 u_18.2.2.2.2.1 u_18.2.2.2.2.2 (11 : Int32) _ h) ⟨rfl, rfl⟩ m_Md_field k_Md_85 ⟨Nat.le_of_ble_eq_true rfl, Nat.le_of_ble_eq_true rfl⟩ [0, 1, 2, 3] rfl 6 0 rfl rfl rfl rfl hl.1 rfl (Nat.le_of_ble_eq_true rfl) d_Md_moves_96 hf0 (fun r_20 h => ?_)
        refine lv_aload_n hx hb d_Md_moves_99 rfl (lv_at hl 0 rfl) ?_
        refine g_Md_54 (v := .int (u_18.1 3)) hx hb hT hown hK hP 0 rfl rfl d_Md_moves_100 ?_
        refine lv_bipush (v := 8) hx hb d_Md_moves_103 (by decide) ?_
        refine lv_iadd hx hb d_Md_moves_105 ?_
        refine zz_Wv (As := [.int r_20, .int ((u_18.1 3) + (8 : Int32))]) (rest := []) (wc := wD qd qmemory qr qcounts cI cB ms u_18.1 u_18.2.1 u_18.2.2.1 u_18.2.2.2.1 u_18.2.2.2.2.1 u_18.2.2.2.2.2) (wr := []) X hK hP hD hS hA (c_Md_into l D cI cB qd qmemory qr qcounts ms u_18.1 u_18.2.1 u_18.2.2.1 u_18.2.2.2.1 u_18.2.2.2.2.1 u_18.2.2.2.2.2 r_20 ((u_18.1 3) + (8 : Int32)) _ h _) ⟨rfl, rfl⟩ m_Md_into k_Md_128 ⟨Nat.le_of_ble_eq_true rfl, Nat.le_of_ble_eq_true rfl⟩ [0, 1, 2, 3] [] rfl rfl (by decide) (by decide) (by decide) 6 0 rfl rfl rfl rfl hl.1 rfl (Nat.le_of_ble_eq_true rfl) d_Md_moves_106 hf0 (fun u_21 H locs h hP hD hS => ?_)
        have hP : va_P D vwCl (wD qd qmemory qr qcounts cI cB ms u_21.1 u_21.2.1 u_21.2.2.1 u_21.2.2.2.1 u_21.2.2.2.2.1 u_21.2.2.2.2.2) H := hP.sub [0, 1, 2, 3] rfl
        have hD : va_D A (wD qd qmemory qr qcounts cI cB ms u_21.1 u_21.2.1 u_21.2.2.1 u_21.2.2.2.1 u_21.2.2.2.2.1 u_21.2.2.2.2.2) := hD.sub [0, 1, 2, 3] (by decide) rfl
        refine lv_goto (tgt := 186) hx hb d_Md_moves_109 (by decide) ?_
        exact W.vret hx hb hr (fun t ht hW => ⟨⟨(u_21.1, u_21.2.1, u_21.2.2.1, u_21.2.2.2.1, u_21.2.2.2.2.1, u_21.2.2.2.2.2), rfl, h, by rw [ht]; exact hP, hD⟩, hS.F ht⟩) hS.2.2 d_Md_moves_186
    · have h := h.2 c_5
      by_cases c_23 : a0 = (10 : Int32)
      · have h := h.1 c_23
        have h0 := c_23
        refine lv_tableIn (off := 111) (tgt := 112) hx hb d_Md_moves_1 (by rw [h0]; decide) (by rw [h0]; decide) (by rw [h0]; rfl) (by decide) ?_
        refine lv_aload_n hx hb d_Md_moves_112 rfl (lv_at hl 0 rfl) ?_
        refine zz_Ri (As := []) (rest := []) (wc := wD qd qmemory qr qcounts cI cB ms dd Lwhole Lwhole2 bm rr kt) X hK hP (c_Md_rt l D cI cB qd qmemory qr qcounts ms dd Lwhole Lwhole2 bm rr kt _ h) ⟨rfl, rfl⟩ m_Md_rt k_Md_135 ⟨Nat.le_of_ble_eq_true rfl, Nat.le_of_ble_eq_true rfl⟩ [0, 1, 2, 3] rfl 6 0 rfl rfl rfl rfl hl.1 rfl (Nat.le_of_ble_eq_true rfl) d_Md_moves_113 hf0 (fun r_24 h => ?_)
        refine lv_if_ne (tgt := 186) hx hb d_Md_moves_116 (by decide) (fun c_25 => ?_) (fun c_25 => ?_)
        · skip
          have h := h.2 c_25
          exact W.vret hx hb hr (fun t ht hW => ⟨⟨(dd, Lwhole, Lwhole2, bm, rr, kt), rfl, h, by rw [ht]; exact hP, hD⟩, hS.F ht⟩) hS.2.2 d_Md_moves_186
        · skip
          have h := h.1 c_25
          refine lv_aload_n hx hb d_Md_moves_119 rfl (lv_at hl 0 rfl) ?_
          refine lv_aload_n hx hb d_Md_moves_120 rfl (lv_at hl 0 rfl) ?_
          refine lv_bipush (v := 11) hx hb d_Md_moves_121 (by decide) ?_
          refine zz_Ri (As := [.int (11 : Int32)]) (rest := [.ref qd]) (wc := wD qd qmemory qr qcounts cI cB ms dd Lwhole Lwhole2 bm rr kt) X hK hP (c_Md_field l D cI cB qd qmemory qr qcounts ms dd Lwhole Lwhole2 bm rr kt (11 : Int32) _ h) ⟨rfl, rfl⟩ m_Md_field k_Md_85 ⟨Nat.le_of_ble_eq_true rfl, Nat.le_of_ble_eq_true rfl⟩ [0, 1, 2, 3] rfl 6 0 rfl rfl rfl rfl hl.1 rfl (Nat.le_of_ble_eq_true rfl) d_Md_moves_123 hf0 (fun r_26 h => ?_)
          refine lv_aload_n hx hb d_Md_moves_126 rfl (lv_at hl 0 rfl) ?_
          refine zz_Ri (As := []) (rest := [.int r_26, .ref qd]) (wc := wD qd qmemory qr qcounts cI cB ms dd Lwhole Lwhole2 bm rr kt) X hK hP (c_Md_rs l D cI cB qd qmemory qr qcounts ms dd Lwhole Lwhole2 bm rr kt _ h) ⟨rfl, rfl⟩ m_Md_rs k_Md_132 ⟨Nat.le_of_ble_eq_true rfl, Nat.le_of_ble_eq_true rfl⟩ [0, 1, 2, 3] rfl 6 0 rfl rfl rfl rfl hl.1 rfl (Nat.le_of_ble_eq_true rfl) d_Md_moves_127 hf0 (fun r_27 h => ?_)
          refine zz_Wv (As := [.int r_26, .int r_27]) (rest := []) (wc := wD qd qmemory qr qcounts cI cB ms dd Lwhole Lwhole2 bm rr kt) (wr := []) X hK hP hD hS hA (c_Md_into l D cI cB qd qmemory qr qcounts ms dd Lwhole Lwhole2 bm rr kt r_26 r_27 _ h _) ⟨rfl, rfl⟩ m_Md_into k_Md_128 ⟨Nat.le_of_ble_eq_true rfl, Nat.le_of_ble_eq_true rfl⟩ [0, 1, 2, 3] [] rfl rfl (by decide) (by decide) (by decide) 6 0 rfl rfl rfl rfl hl.1 rfl (Nat.le_of_ble_eq_true rfl) d_Md_moves_130 hf0 (fun u_28 H locs h hP hD hS => ?_)
          have hP : va_P D vwCl (wD qd qmemory qr qcounts cI cB ms u_28.1 u_28.2.1 u_28.2.2.1 u_28.2.2.2.1 u_28.2.2.2.2.1 u_28.2.2.2.2.2) H := hP.sub [0, 1, 2, 3] rfl
          have hD : va_D A (wD qd qmemory qr qcounts cI cB ms u_28.1 u_28.2.1 u_28.2.2.1 u_28.2.2.2.1 u_28.2.2.2.2.1 u_28.2.2.2.2.2) := hD.sub [0, 1, 2, 3] (by decide) rfl
          refine lv_goto (tgt := 186) hx hb d_Md_moves_133 (by decide) ?_
          exact W.vret hx hb hr (fun t ht hW => ⟨⟨(u_28.1, u_28.2.1, u_28.2.2.1, u_28.2.2.2.1, u_28.2.2.2.2.1, u_28.2.2.2.2.2), rfl, h, by rw [ht]; exact hP, hD⟩, hS.F ht⟩) hS.2.2 d_Md_moves_186
      · have h := h.2 c_23
        by_cases c_30 : a0 = (11 : Int32)
        · have h := h.1 c_30
          have h0 := c_30
          refine lv_tableIn (off := 135) (tgt := 136) hx hb d_Md_moves_1 (by rw [h0]; decide) (by rw [h0]; decide) (by rw [h0]; rfl) (by decide) ?_
          refine lv_aload_n hx hb d_Md_moves_136 rfl (lv_at hl 0 rfl) ?_
          refine zz_Ri (As := []) (rest := []) (wc := wD qd qmemory qr qcounts cI cB ms dd Lwhole Lwhole2 bm rr kt) X hK hP (c_Md_rt l D cI cB qd qmemory qr qcounts ms dd Lwhole Lwhole2 bm rr kt _ h) ⟨rfl, rfl⟩ m_Md_rt k_Md_135 ⟨Nat.le_of_ble_eq_true rfl, Nat.le_of_ble_eq_true rfl⟩ [0, 1, 2, 3] rfl 6 0 rfl rfl rfl rfl hl.1 rfl (Nat.le_of_ble_eq_true rfl) d_Md_moves_137 hf0 (fun r_31 h => ?_)
          refine lv_if_eq (tgt := 186) hx hb d_Md_moves_140 (by decide) (fun c_32 => ?_) (fun c_32 => ?_)
          · skip
            have h := h.1 c_32
            exact W.vret hx hb hr (fun t ht hW => ⟨⟨(dd, Lwhole, Lwhole2, bm, rr, kt), rfl, h, by rw [ht]; exact hP, hD⟩, hS.F ht⟩) hS.2.2 d_Md_moves_186
          · skip
            have h := h.2 c_32
            refine lv_aload_n hx hb d_Md_moves_143 rfl (lv_at hl 0 rfl) ?_
            refine lv_aload_n hx hb d_Md_moves_144 rfl (lv_at hl 0 rfl) ?_
            refine lv_bipush (v := 11) hx hb d_Md_moves_145 (by decide) ?_
            refine zz_Ri (As := [.int (11 : Int32)]) (rest := [.ref qd]) (wc := wD qd qmemory qr qcounts cI cB ms dd Lwhole Lwhole2 bm rr kt) X hK hP (c_Md_field l D cI cB qd qmemory qr qcounts ms dd Lwhole Lwhole2 bm rr kt (11 : Int32) _ h) ⟨rfl, rfl⟩ m_Md_field k_Md_85 ⟨Nat.le_of_ble_eq_true rfl, Nat.le_of_ble_eq_true rfl⟩ [0, 1, 2, 3] rfl 6 0 rfl rfl rfl rfl hl.1 rfl (Nat.le_of_ble_eq_true rfl) d_Md_moves_147 hf0 (fun r_33 h => ?_)
            refine lv_aload_n hx hb d_Md_moves_150 rfl (lv_at hl 0 rfl) ?_
            refine zz_Ri (As := []) (rest := [.int r_33, .ref qd]) (wc := wD qd qmemory qr qcounts cI cB ms dd Lwhole Lwhole2 bm rr kt) X hK hP (c_Md_rs l D cI cB qd qmemory qr qcounts ms dd Lwhole Lwhole2 bm rr kt _ h) ⟨rfl, rfl⟩ m_Md_rs k_Md_132 ⟨Nat.le_of_ble_eq_true rfl, Nat.le_of_ble_eq_true rfl⟩ [0, 1, 2, 3] rfl 6 0 rfl rfl rfl rfl hl.1 rfl (Nat.le_of_ble_eq_true rfl) d_Md_moves_151 hf0 (fun r_34 h => ?_)
            refine zz_Wv (As := [.int r_33, .int r_34]) (rest := []) (wc := wD qd qmemory qr qcounts cI cB ms dd Lwhole Lwhole2 bm rr kt) (wr := []) X hK hP hD hS hA (c_Md_into l D cI cB qd qmemory qr qcounts ms dd Lwhole Lwhole2 bm rr kt r_33 r_34 _ h _) ⟨rfl, rfl⟩ m_Md_into k_Md_128 ⟨Nat.le_of_ble_eq_true rfl, Nat.le_of_ble_eq_true rfl⟩ [0, 1, 2, 3] [] rfl rfl (by decide) (by decide) (by decide) 6 0 rfl rfl rfl rfl hl.1 rfl (Nat.le_of_ble_eq_true rfl) d_Md_moves_154 hf0 (fun u_35 H locs h hP hD hS => ?_)
            have hP : va_P D vwCl (wD qd qmemory qr qcounts cI cB ms u_35.1 u_35.2.1 u_35.2.2.1 u_35.2.2.2.1 u_35.2.2.2.2.1 u_35.2.2.2.2.2) H := hP.sub [0, 1, 2, 3] rfl
            have hD : va_D A (wD qd qmemory qr qcounts cI cB ms u_35.1 u_35.2.1 u_35.2.2.1 u_35.2.2.2.1 u_35.2.2.2.2.1 u_35.2.2.2.2.2) := hD.sub [0, 1, 2, 3] (by decide) rfl
            refine lv_goto (tgt := 186) hx hb d_Md_moves_157 (by decide) ?_
            exact W.vret hx hb hr (fun t ht hW => ⟨⟨(u_35.1, u_35.2.1, u_35.2.2.1, u_35.2.2.2.1, u_35.2.2.2.2.1, u_35.2.2.2.2.2), rfl, h, by rw [ht]; exact hP, hD⟩, hS.F ht⟩) hS.2.2 d_Md_moves_186
        · have h := h.2 c_30
          by_cases c_37 : a0 = (12 : Int32)
          · have h := h.1 c_37
            have h0 := c_37
            refine lv_tableIn (off := 159) (tgt := 160) hx hb d_Md_moves_1 (by rw [h0]; decide) (by rw [h0]; decide) (by rw [h0]; rfl) (by decide) ?_
            refine lv_aload_n hx hb d_Md_moves_160 rfl (lv_at hl 0 rfl) ?_
            refine lv_bipush (v := 7) hx hb d_Md_moves_161 (by decide) ?_
            refine zz_Wv (As := [.int (7 : Int32)]) (rest := []) (wc := wD qd qmemory qr qcounts cI cB ms dd Lwhole Lwhole2 bm rr kt) (wr := []) X hK hP hD hS hA (c_Md_ends l D cI cB qd qmemory qr qcounts ms dd Lwhole Lwhole2 bm rr kt (7 : Int32) _ h _) ⟨rfl, rfl⟩ m_Md_ends k_Md_116 ⟨Nat.le_of_ble_eq_true rfl, Nat.le_of_ble_eq_true rfl⟩ [0, 1, 2, 3] [] rfl rfl (by decide) (by decide) (by decide) 6 0 rfl rfl rfl rfl hl.1 rfl (Nat.le_of_ble_eq_true rfl) d_Md_moves_163 hf0 (fun u_38 H locs h hP hD hS => ?_)
            have hP : va_P D vwCl (wD qd qmemory qr qcounts cI cB ms u_38.1 u_38.2.1 u_38.2.2.1 u_38.2.2.2.1 u_38.2.2.2.2.1 u_38.2.2.2.2.2) H := hP.sub [0, 1, 2, 3] rfl
            have hD : va_D A (wD qd qmemory qr qcounts cI cB ms u_38.1 u_38.2.1 u_38.2.2.1 u_38.2.2.2.1 u_38.2.2.2.2.1 u_38.2.2.2.2.2) := hD.sub [0, 1, 2, 3] (by decide) rfl
            refine lv_goto (tgt := 186) hx hb d_Md_moves_166 (by decide) ?_
            exact W.vret hx hb hr (fun t ht hW => ⟨⟨(u_38.1, u_38.2.1, u_38.2.2.1, u_38.2.2.2.1, u_38.2.2.2.2.1, u_38.2.2.2.2.2), rfl, h, by rw [ht]; exact hP, hD⟩, hS.F ht⟩) hS.2.2 d_Md_moves_186
          · have h := h.2 c_37
            by_cases c_40 : a0 = (13 : Int32)
            · have h := h.1 c_40
              have h0 := c_40
              refine lv_tableIn (off := 168) (tgt := 169) hx hb d_Md_moves_1 (by rw [h0]; decide) (by rw [h0]; decide) (by rw [h0]; rfl) (by decide) ?_
              refine lv_aload_n hx hb d_Md_moves_169 rfl (lv_at hl 0 rfl) ?_
              refine lv_bipush (v := 6) hx hb d_Md_moves_170 (by decide) ?_
              refine zz_Wv (As := [.int (6 : Int32)]) (rest := []) (wc := wD qd qmemory qr qcounts cI cB ms dd Lwhole Lwhole2 bm rr kt) (wr := []) X hK hP hD hS hA (c_Md_ends l D cI cB qd qmemory qr qcounts ms dd Lwhole Lwhole2 bm rr kt (6 : Int32) _ h _) ⟨rfl, rfl⟩ m_Md_ends k_Md_116 ⟨Nat.le_of_ble_eq_true rfl, Nat.le_of_ble_eq_true rfl⟩ [0, 1, 2, 3] [] rfl rfl (by decide) (by decide) (by decide) 6 0 rfl rfl rfl rfl hl.1 rfl (Nat.le_of_ble_eq_true rfl) d_Md_moves_172 hf0 (fun u_41 H locs h hP hD hS => ?_)
              have hP : va_P D vwCl (wD qd qmemory qr qcounts cI cB ms u_41.1 u_41.2.1 u_41.2.2.1 u_41.2.2.2.1 u_41.2.2.2.2.1 u_41.2.2.2.2.2) H := hP.sub [0, 1, 2, 3] rfl
              have hD : va_D A (wD qd qmemory qr qcounts cI cB ms u_41.1 u_41.2.1 u_41.2.2.1 u_41.2.2.2.1 u_41.2.2.2.2.1 u_41.2.2.2.2.2) := hD.sub [0, 1, 2, 3] (by decide) rfl
              refine lv_goto (tgt := 186) hx hb d_Md_moves_175 (by decide) ?_
              exact W.vret hx hb hr (fun t ht hW => ⟨⟨(u_41.1, u_41.2.1, u_41.2.2.1, u_41.2.2.2.1, u_41.2.2.2.2.1, u_41.2.2.2.2.2), rfl, h, by rw [ht]; exact hP, hD⟩, hS.F ht⟩) hS.2.2 d_Md_moves_186
            · have h := h.2 c_40
              by_cases c_43 : a0 = (15 : Int32)
              · have h := h.1 c_43
                have h0 := c_43
                refine lv_tableIn (off := 177) (tgt := 178) hx hb d_Md_moves_1 (by rw [h0]; decide) (by rw [h0]; decide) (by rw [h0]; rfl) (by decide) ?_
                refine lv_goto (tgt := 186) hx hb d_Md_moves_178 (by decide) ?_
                exact W.vret hx hb hr (fun t ht hW => ⟨⟨(dd, Lwhole, Lwhole2, bm, rr, kt), rfl, h, by rw [ht]; exact hP, hD⟩, hS.F ht⟩) hS.2.2 d_Md_moves_186
              · have h := h.2 c_43
                refine zz_swD (tgt := 181) hx hb [8, 9, 10, 11, 12, 13, 15] d_Md_moves_1 (by decide +kernel) (by decide) (List.forall_mem_cons.mpr ⟨lv_neT (k := 8) c_1 (by decide), List.forall_mem_cons.mpr ⟨lv_neT (k := 9) c_5 (by decide), List.forall_mem_cons.mpr ⟨lv_neT (k := 10) c_23 (by decide), List.forall_mem_cons.mpr ⟨lv_neT (k := 11) c_30 (by decide), List.forall_mem_cons.mpr ⟨lv_neT (k := 12) c_37 (by decide), List.forall_mem_cons.mpr ⟨lv_neT (k := 13) c_40 (by decide), List.forall_mem_cons.mpr ⟨lv_neT (k := 15) c_43 (by decide), fun _ h9 => nomatch h9⟩⟩⟩⟩⟩⟩⟩) (by decide) ?_
                refine lv_aload_n hx hb d_Md_moves_181 rfl (lv_at hl 0 rfl) ?_
                refine lv_iconst (v := 3) hx hb d_Md_moves_182 (by decide) ?_
                refine zz_Wv (As := [.int (3 : Int32)]) (rest := []) (wc := wD qd qmemory qr qcounts cI cB ms dd Lwhole Lwhole2 bm rr kt) (wr := []) X hK hP hD hS hA (c_Md_ends l D cI cB qd qmemory qr qcounts ms dd Lwhole Lwhole2 bm rr kt (3 : Int32) _ h _) ⟨rfl, rfl⟩ m_Md_ends k_Md_116 ⟨Nat.le_of_ble_eq_true rfl, Nat.le_of_ble_eq_true rfl⟩ [0, 1, 2, 3] [] rfl rfl (by decide) (by decide) (by decide) 6 0 rfl rfl rfl rfl hl.1 rfl (Nat.le_of_ble_eq_true rfl) d_Md_moves_183 hf0 (fun u_44 H locs h hP hD hS => ?_)
                have hP : va_P D vwCl (wD qd qmemory qr qcounts cI cB ms u_44.1 u_44.2.1 u_44.2.2.1 u_44.2.2.2.1 u_44.2.2.2.2.1 u_44.2.2.2.2.2) H := hP.sub [0, 1, 2, 3] rfl
                have hD : va_D A (wD qd qmemory qr qcounts cI cB ms u_44.1 u_44.2.1 u_44.2.2.1 u_44.2.2.2.1 u_44.2.2.2.2.1 u_44.2.2.2.2.2) := hD.sub [0, 1, 2, 3] (by decide) rfl
                exact W.vret hx hb hr (fun t ht hW => ⟨⟨(u_44.1, u_44.2.1, u_44.2.2.1, u_44.2.2.2.1, u_44.2.2.2.2.1, u_44.2.2.2.2.2), rfl, h, by rw [ht]; exact hP, hD⟩, hS.F ht⟩) hS.2.2 d_Md_moves_186
def wp_Md_halves (ms : Int32) (dd : Nat → Int32) (Lwhole : Int64) (Lwhole2 : Int64) (bm : Nat → Int32) (rr : Nat → Int32) (kt : Nat → Int32) (a0 : Int32) (P : ((Nat → Int32) × Int64 × Int64 × (Nat → Int32) × (Nat → Int32) × (Nat → Int32)) → Prop) : Prop := (((18 : Int32) ≤ a0 → ∀ x_2 : Int32, x_2 = (dd 2) → (((a0 &&& (1 : Int32)) = (0 : Int32) → ((x_2 = (0 : Int32) → wp_Md_ends ms dd Lwhole Lwhole2 bm rr kt (8 : Int32) (fun u_12 => wp_Md_field ms u_12.1 u_12.2.1 u_12.2.2.1 u_12.2.2.2.1 u_12.2.2.2.2.1 u_12.2.2.2.2.2 (11 : Int32) (fun r_14 => vp_in (33 : Int32) 67 ∧ ∀ x_15 : Int32, x_15 = (u_12.2.2.2.2.1 (33 : Int32).toNatClampNeg) → wp_Md_into ms u_12.1 u_12.2.1 u_12.2.2.1 u_12.2.2.2.1 u_12.2.2.2.2.1 u_12.2.2.2.2.2 r_14 x_15 (fun u_16 => P (u_16.1, u_16.2.1, u_16.2.2.1, u_16.2.2.2.1, u_16.2.2.2.2.1, u_16.2.2.2.2.2))))) ∧ (¬ x_2 = (0 : Int32) → wp_Md_field ms dd Lwhole Lwhole2 bm rr kt (11 : Int32) (fun r_8 => vp_in (33 : Int32) 67 ∧ ∀ x_9 : Int32, x_9 = (rr (33 : Int32).toNatClampNeg) → wp_Md_into ms dd Lwhole Lwhole2 bm rr kt r_8 x_9 (fun u_10 => P (u_10.1, u_10.2.1, u_10.2.2.1, u_10.2.2.2.1, u_10.2.2.2.2.1, u_10.2.2.2.2.2)))))) ∧ (¬ (a0 &&& (1 : Int32)) = (0 : Int32) → wp_Md_rs ms dd Lwhole Lwhole2 bm rr kt (fun r_5 => vp_in (33 : Int32) 67 ∧ P ((upd dd 2 (1 : Int32)), Lwhole, Lwhole2, bm, (upd rr (33 : Int32).toNatClampNeg r_5), kt))))) ∧ (¬ (18 : Int32) ≤ a0 → ∀ x_18 : Int32, x_18 = (dd 1) → (((a0 &&& (1 : Int32)) = (0 : Int32) → ((x_18 = (0 : Int32) → wp_Md_ends ms dd Lwhole Lwhole2 bm rr kt (8 : Int32) (fun u_28 => wp_Md_field ms u_28.1 u_28.2.1 u_28.2.2.1 u_28.2.2.2.1 u_28.2.2.2.2.1 u_28.2.2.2.2.2 (11 : Int32) (fun r_30 => vp_in (32 : Int32) 67 ∧ ∀ x_31 : Int32, x_31 = (u_28.2.2.2.2.1 (32 : Int32).toNatClampNeg) → wp_Md_into ms u_28.1 u_28.2.1 u_28.2.2.1 u_28.2.2.2.1 u_28.2.2.2.2.1 u_28.2.2.2.2.2 r_30 x_31 (fun u_32 => P (u_32.1, u_32.2.1, u_32.2.2.1, u_32.2.2.2.1, u_32.2.2.2.2.1, u_32.2.2.2.2.2))))) ∧ (¬ x_18 = (0 : Int32) → wp_Md_field ms dd Lwhole Lwhole2 bm rr kt (11 : Int32) (fun r_24 => vp_in (32 : Int32) 67 ∧ ∀ x_25 : Int32, x_25 = (rr (32 : Int32).toNatClampNeg) → wp_Md_into ms dd Lwhole Lwhole2 bm rr kt r_24 x_25 (fun u_26 => P (u_26.1, u_26.2.1, u_26.2.2.1, u_26.2.2.2.1, u_26.2.2.2.2.1, u_26.2.2.2.2.2)))))) ∧ (¬ (a0 &&& (1 : Int32)) = (0 : Int32) → wp_Md_rs ms dd Lwhole Lwhole2 bm rr kt (fun r_21 => vp_in (32 : Int32) 67 ∧ P ((upd dd 1 (1 : Int32)), Lwhole, Lwhole2, bm, (upd rr (32 : Int32).toNatClampNeg r_21), kt))))))
abbrev rm_Md_halves : Room := { frames := 2, cells := 0, slots := 0, locals := 41 }
set_option maxHeartbeats 4000000 in
set_option maxRecDepth 100000 in
theorem c_Md_halves (l : Launch) (D : va_G) (cI : ClassId) (cB : ClassId) (qd : Nat) (qmemory : Nat) (qr : Nat) (qcounts : Nat) (ms : Int32) (dd : Nat → Int32) (Lwhole : Int64) (Lwhole2 : Int64) (bm : Nat → Int32) (rr : Nat → Int32) (kt : Nat → Int32) (a0 : Int32) (P : ((Nat → Int32) × Int64 × Int64 × (Nat → Int32) × (Nat → Int32) × (Nat → Int32)) → Prop) (h : wp_Md_halves ms dd Lwhole Lwhole2 bm rr kt a0 P) (sz : Nat) : Met l y_Md_halves (zz_ws y_Md_halves b_Md_halves 4 none) rm_Md_halves (va_Pc [.ref qd, .int a0] (zz_pw D [(cI, .int), (cB, .byte)] (wD qd qmemory qr qcounts cI cB ms dd Lwhole Lwhole2 bm rr kt) sz)) (va_Qv P (zz_qw D (fun u => wD qd qmemory qr qcounts cI cB ms u.1 u.2.1 u.2.2.1 u.2.2.2.1 u.2.2.2.2.1 u.2.2.2.2.2) (va_A (wD qd qmemory qr qcounts cI cB ms dd Lwhole Lwhole2 bm rr kt) sz)) (va_A (wD qd qmemory qr qcounts cI cB ms dd Lwhole Lwhole2 bm rr kt) sz)) 0 0 (va_A (wD qd qmemory qr qcounts cI cB ms dd Lwhole Lwhole2 bm rr kt) sz) := by
  refine Met.ofW (cc := b_Md_halves) (maxL := 4) (ret := none) (by decide) rfl ?_
  intro p e s m args below meth c s₁ B hml hv
  obtain ⟨rfl, hsz, hP, hK, hD0⟩ := hv
  have hx := B.exec
  have hb := B.bytes
  have hr := B.returns
  have hts := atoms_spec (ws := (zz_ws y_Md_halves b_Md_halves 4 none)) B.pre
  have hown : s.vm.findClass R_Md = some m.cls := findClass_of_methodNamed B.named
  have hlocks := B.notSynchronized
  have hT := zz_hts hts
  have X : CallFix p m c b_Md_halves 4 s ([.ref qd, .int a0] : List Value).toArray (zz_ws y_Md_halves b_Md_halves 4 none) R_Md := ⟨hx, hb, hml, hown, hts⟩
  have hf0 : 0 + 0 ≤ (headSpec (zz_ws y_Md_halves b_Md_halves 4 none) rm_Md_halves).room.cells ∧ 0 + 0 ≤ (headSpec (zz_ws y_Md_halves b_Md_halves 4 none) rm_Md_halves).room.slots := ⟨Nat.le_of_ble_eq_true rfl, Nat.le_of_ble_eq_true rfl⟩
  subst hsz
  have hD := hD0.self (sz := s.heap.size)
  generalize hAe : va_A (wD qd qmemory qr qcounts cI cB ms dd Lwhole Lwhole2 bm rr kt) s.heap.size = A at hD ⊢
  have hA : ∀ q : Nat, s.heap.size ≤ q → A q := fun q h => by rw [← hAe]; exact Or.inr h
  have hS : va_S A s.heap s.heap [] := va_S.rf
  have hl := lv_entry ([.ref qd, .int a0]) (n := 4) (Nat.le_of_ble_eq_true rfl)
  rw [lg_entry_eq]
  generalize (lg_sl ([.ref qd, .int a0]) ++ List.replicate (4 - (lg_sl ([.ref qd, .int a0])).length) Slot.unset).toArray = ls at hl ⊢
  have hl : lv_has ls 4 [(0, .ref qd), (1, .int a0)] := hl
  refine lv_iload_n hx hb d_Md_halves_0 rfl (lv_at hl 1 rfl) ?_
  refine lv_bipush (v := 18) hx hb d_Md_halves_1 (by decide) ?_
  refine lv_icmp_ge (tgt := 13) hx hb d_Md_halves_3 (by decide) (fun c_1 => ?_) (fun c_1 => ?_)
  · skip
    have h := h.1 c_1
    refine lv_aload_n hx hb d_Md_halves_13 rfl (lv_at hl 0 rfl) ?_
    refine g_Md_22 (v := .int (dd 2)) hx hb hT hown hK hP 0 rfl rfl d_Md_halves_14 ?_
    refine lv_topi (fun x_2 ex_2 => ?_)
    have h := h x_2 ex_2
    refine lv_istore_n (lv' := [(2, .int x_2), (0, .ref qd), (1, .int a0)]) hx hb d_Md_halves_17 rfl hl (by decide) rfl (fun ls hl => ?_)
    refine lv_iload_n hx hb d_Md_halves_18 rfl (lv_at hl 2 rfl) ?_
    refine lv_bipush (v := 18) hx hb d_Md_halves_19 (by decide) ?_
    refine lv_icmp_ge (tgt := 29) hx hb d_Md_halves_21 (by decide) (fun c_3 => ?_) (fun c_3 => ?_)
    · skip
      refine lv_bipush (v := 33) hx hb d_Md_halves_29 (by decide) ?_
      refine lv_istore_n (lv' := [(3, .int (33 : Int32)), (2, .int x_2), (0, .ref qd), (1, .int a0)]) hx hb d_Md_halves_31 rfl hl (by decide) rfl (fun ls hl => ?_)
      refine lv_iload_n hx hb d_Md_halves_32 rfl (lv_at hl 3 rfl) ?_
      refine lv_iconst (v := 1) hx hb d_Md_halves_33 (by decide) ?_
      refine lv_iand hx hb d_Md_halves_34 ?_
      refine lv_if_ne (tgt := 65) hx hb d_Md_halves_35 (by decide) (fun c_4 => ?_) (fun c_4 => ?_)
      · skip
        have h := h.2 c_4
        refine lv_aload_n hx hb d_Md_halves_65 rfl (lv_at hl 2 rfl) ?_
        refine g_Md_14 (v := .ref qr) hx hb hT hown hK hP 0 rfl rfl d_Md_halves_66 ?_
        refine lv_iload_n hx hb d_Md_halves_69 rfl (lv_at hl 0 rfl) ?_
        refine lv_aload_n hx hb d_Md_halves_70 rfl (lv_at hl 2 rfl) ?_
        refine zz_Ri (As := []) (rest := [.int (33 : Int32), .ref qr]) (wc := wD qd qmemory qr qcounts cI cB ms dd Lwhole Lwhole2 bm rr kt) X hK hP (c_Md_rs l D cI cB qd qmemory qr qcounts ms dd Lwhole Lwhole2 bm rr kt _ h) ⟨rfl, rfl⟩ m_Md_rs k_Md_132 ⟨Nat.le_of_ble_eq_true rfl, Nat.le_of_ble_eq_true rfl⟩ [0, 1, 2, 3] rfl 6 0 rfl rfl rfl rfl hl.1 rfl (Nat.le_of_ble_eq_true rfl) d_Md_halves_71 hf0 (fun r_5 h => ?_)
        refine va_iast (f := rr) hx hb hK hP hD hS 2 0 rfl rfl h.1 d_Md_halves_74 (fun H locs (hP : va_P D vwCl (wD qd qmemory qr qcounts cI cB ms dd Lwhole Lwhole2 bm (upd rr (33 : Int32).toNatClampNeg r_5) kt) H) (hD : va_D A (wD qd qmemory qr qcounts cI cB ms dd Lwhole Lwhole2 bm (upd rr (33 : Int32).toNatClampNeg r_5) kt)) hS => ?_)
        have h := h.2
        refine lv_iload_n hx hb d_Md_halves_75 rfl (lv_at hl 3 rfl) ?_
        refine lv_bipush (v := 18) hx hb d_Md_halves_76 (by decide) ?_
        refine lv_icmp_ge (tgt := 89) hx hb d_Md_halves_78 (by decide) (fun c_6 => ?_) (fun c_6 => ?_)
        · skip
          refine lv_aload_n hx hb d_Md_halves_89 rfl (lv_at hl 2 rfl) ?_
          refine lv_iconst (v := 1) hx hb d_Md_halves_90 (by decide) ?_
          refine p_Md_22 hx hb hT hown hK hP hD hS 0 rfl rfl (Or.inr rfl) d_Md_halves_91 (fun H locs (hP : va_P D vwCl (wD qd qmemory qr qcounts cI cB ms (upd dd 2 (1 : Int32)) Lwhole Lwhole2 bm (upd rr (33 : Int32).toNatClampNeg r_5) kt) H) (hD : va_D A (wD qd qmemory qr qcounts cI cB ms (upd dd 2 (1 : Int32)) Lwhole Lwhole2 bm (upd rr (33 : Int32).toNatClampNeg r_5) kt)) hS => ?_)
          exact W.vret hx hb hr (fun t ht hW => ⟨⟨((upd dd 2 (1 : Int32)), Lwhole, Lwhole2, bm, (upd rr (33 : Int32).toNatClampNeg r_5), kt), rfl, h, by rw [ht]; exact hP, hD⟩, hS.F ht⟩) hS.2.2 d_Md_halves_94
        · exact absurd c_1 c_6
      · skip
        have h := h.1 c_4
        refine lv_iload_n hx hb d_Md_halves_38 rfl (lv_at hl 1 rfl) ?_
        refine lv_if_ne (tgt := 48) hx hb d_Md_halves_39 (by decide) (fun c_7 => ?_) (fun c_7 => ?_)
        · skip
          have h := h.2 c_7
          refine lv_aload_n hx hb d_Md_halves_48 rfl (lv_at hl 2 rfl) ?_
          refine lv_aload_n hx hb d_Md_halves_49 rfl (lv_at hl 2 rfl) ?_
          refine lv_bipush (v := 11) hx hb d_Md_halves_50 (by decide) ?_
          refine zz_Ri (As := [.int (11 : Int32)]) (rest := [.ref qd]) (wc := wD qd qmemory qr qcounts cI cB ms dd Lwhole Lwhole2 bm rr kt) X hK hP (c_Md_field l D cI cB qd qmemory qr qcounts ms dd Lwhole Lwhole2 bm rr kt (11 : Int32) _ h) ⟨rfl, rfl⟩ m_Md_field k_Md_85 ⟨Nat.le_of_ble_eq_true rfl, Nat.le_of_ble_eq_true rfl⟩ [0, 1, 2, 3] rfl 6 0 rfl rfl rfl rfl hl.1 rfl (Nat.le_of_ble_eq_true rfl) d_Md_halves_52 hf0 (fun r_8 h => ?_)
          refine lv_aload_n hx hb d_Md_halves_55 rfl (lv_at hl 2 rfl) ?_
          refine g_Md_14 (v := .ref qr) hx hb hT hown hK hP 0 rfl rfl d_Md_halves_56 ?_
          refine lv_iload_n hx hb d_Md_halves_59 rfl (lv_at hl 0 rfl) ?_
          refine va_iald (f := rr) hx hb hK hP 2 0 rfl rfl h.1 d_Md_halves_60 ?_
          have h := h.2
          refine lv_topi (fun x_9 ex_9 => ?_)
          have h := h x_9 ex_9
          refine zz_Wv (As := [.int r_8, .int x_9]) (rest := []) (wc := wD qd qmemory qr qcounts cI cB ms dd Lwhole Lwhole2 bm rr kt) (wr := []) X hK hP hD hS hA (c_Md_into l D cI cB qd qmemory qr qcounts ms dd Lwhole Lwhole2 bm rr kt r_8 x_9 _ h _) ⟨rfl, rfl⟩ m_Md_into k_Md_128 ⟨Nat.le_of_ble_eq_true rfl, Nat.le_of_ble_eq_true rfl⟩ [0, 1, 2, 3] [] rfl rfl (by decide) (by decide) (by decide) 6 0 rfl rfl rfl rfl hl.1 rfl (Nat.le_of_ble_eq_true rfl) d_Md_halves_61 hf0 (fun u_10 H locs h hP hD hS => ?_)
          have hP : va_P D vwCl (wD qd qmemory qr qcounts cI cB ms u_10.1 u_10.2.1 u_10.2.2.1 u_10.2.2.2.1 u_10.2.2.2.2.1 u_10.2.2.2.2.2) H := hP.sub [0, 1, 2, 3] rfl
          have hD : va_D A (wD qd qmemory qr qcounts cI cB ms u_10.1 u_10.2.1 u_10.2.2.1 u_10.2.2.2.1 u_10.2.2.2.2.1 u_10.2.2.2.2.2) := hD.sub [0, 1, 2, 3] (by decide) rfl
          exact W.vret hx hb hr (fun t ht hW => ⟨⟨(u_10.1, u_10.2.1, u_10.2.2.1, u_10.2.2.2.1, u_10.2.2.2.2.1, u_10.2.2.2.2.2), rfl, h, by rw [ht]; exact hP, hD⟩, hS.F ht⟩) hS.2.2 d_Md_halves_64
        · skip
          have h := h.1 c_7
          refine lv_aload_n hx hb d_Md_halves_42 rfl (lv_at hl 2 rfl) ?_
          refine lv_bipush (v := 8) hx hb d_Md_halves_43 (by decide) ?_
          refine zz_Wv (As := [.int (8 : Int32)]) (rest := []) (wc := wD qd qmemory qr qcounts cI cB ms dd Lwhole Lwhole2 bm rr kt) (wr := []) X hK hP hD hS hA (c_Md_ends l D cI cB qd qmemory qr qcounts ms dd Lwhole Lwhole2 bm rr kt (8 : Int32) _ h _) ⟨rfl, rfl⟩ m_Md_ends k_Md_116 ⟨Nat.le_of_ble_eq_true rfl, Nat.le_of_ble_eq_true rfl⟩ [0, 1, 2, 3] [] rfl rfl (by decide) (by decide) (by decide) 6 0 rfl rfl rfl rfl hl.1 rfl (Nat.le_of_ble_eq_true rfl) d_Md_halves_45 hf0 (fun u_12 H locs h hP hD hS => ?_)
          have hP : va_P D vwCl (wD qd qmemory qr qcounts cI cB ms u_12.1 u_12.2.1 u_12.2.2.1 u_12.2.2.2.1 u_12.2.2.2.2.1 u_12.2.2.2.2.2) H := hP.sub [0, 1, 2, 3] rfl
          have hD : va_D A (wD qd qmemory qr qcounts cI cB ms u_12.1 u_12.2.1 u_12.2.2.1 u_12.2.2.2.1 u_12.2.2.2.2.1 u_12.2.2.2.2.2) := hD.sub [0, 1, 2, 3] (by decide) rfl
          refine lv_aload_n hx hb d_Md_halves_48 rfl (lv_at hl 2 rfl) ?_
          refine lv_aload_n hx hb d_Md_halves_49 rfl (lv_at hl 2 rfl) ?_
          refine lv_bipush (v := 11) hx hb d_Md_halves_50 (by decide) ?_
          refine zz_Ri (As := [.int (11 : Int32)]) (rest := [.ref qd]) (wc := wD qd qmemory qr qcounts cI cB ms u_12.1 u_12.2.1 u_12.2.2.1 u_12.2.2.2.1 u_12.2.2.2.2.1 u_12.2.2.2.2.2) X hK hP (c_Md_field l D cI cB qd qmemory qr qcounts ms u_12.1 u_12.2.1 u_12.2.2.1 u_12.2.2.2.1 u_12.2.2.2.2.1 u_12.2.2.2.2.2 (11 : Int32) _ h) ⟨rfl, rfl⟩ m_Md_field k_Md_85 ⟨Nat.le_of_ble_eq_true rfl, Nat.le_of_ble_eq_true rfl⟩ [0, 1, 2, 3] rfl 6 0 rfl rfl rfl rfl hl.1 rfl (Nat.le_of_ble_eq_true rfl) d_Md_halves_52 hf0 (fun r_14 h => ?_)
          refine lv_aload_n hx hb d_Md_halves_55 rfl (lv_at hl 2 rfl) ?_
          refine g_Md_14 (v := .ref qr) hx hb hT hown hK hP 0 rfl rfl d_Md_halves_56 ?_
          refine lv_iload_n hx hb d_Md_halves_59 rfl (lv_at hl 0 rfl) ?_
          refine va_iald (f := u_12.2.2.2.2.1) hx hb hK hP 2 0 rfl rfl h.1 d_Md_halves_60 ?_
          have h := h.2
          refine lv_topi (fun x_15 ex_15 => ?_)
          have h := h x_15 ex_15
          refine zz_Wv (As := [.int r_14, .int x_15]) (rest := []) (wc := wD qd qmemory qr qcounts cI cB ms u_12.1 u_12.2.1 u_12.2.2.1 u_12.2.2.2.1 u_12.2.2.2.2.1 u_12.2.2.2.2.2) (wr := []) X hK hP hD hS hA (c_Md_into l D cI cB qd qmemory qr qcounts ms u_12.1 u_12.2.1 u_12.2.2.1 u_12.2.2.2.1 u_12.2.2.2.2.1 u_12.2.2.2.2.2 r_14 x_15 _ h _) ⟨rfl, rfl⟩ m_Md_into k_Md_128 ⟨Nat.le_of_ble_eq_true rfl, Nat.le_of_ble_eq_true rfl⟩ [0, 1, 2, 3] [] rfl rfl (by decide) (by decide) (by decide) 6 0 rfl rfl rfl rfl hl.1 rfl (Nat.le_of_ble_eq_true rfl) d_Md_halves_61 hf0 (fun u_16 H locs h hP hD hS => ?_)
          have hP : va_P D vwCl (wD qd qmemory qr qcounts cI cB ms u_16.1 u_16.2.1 u_16.2.2.1 u_16.2.2.2.1 u_16.2.2.2.2.1 u_16.2.2.2.2.2) H := hP.sub [0, 1, 2, 3] rfl
          have hD : va_D A (wD qd qmemory qr qcounts cI cB ms u_16.1 u_16.2.1 u_16.2.2.1 u_16.2.2.2.1 u_16.2.2.2.2.1 u_16.2.2.2.2.2) := hD.sub [0, 1, 2, 3] (by decide) rfl
          exact W.vret hx hb hr (fun t ht hW => ⟨⟨(u_16.1, u_16.2.1, u_16.2.2.1, u_16.2.2.2.1, u_16.2.2.2.2.1, u_16.2.2.2.2.2), rfl, h, by rw [ht]; exact hP, hD⟩, hS.F ht⟩) hS.2.2 d_Md_halves_64
    · exact absurd c_1 c_3
  · skip
    have h := h.2 c_1
    refine lv_aload_n hx hb d_Md_halves_6 rfl (lv_at hl 0 rfl) ?_
    refine g_Md_18 (v := .int (dd 1)) hx hb hT hown hK hP 0 rfl rfl d_Md_halves_7 ?_
    refine lv_goto (tgt := 17) hx hb d_Md_halves_10 (by decide) ?_
    refine lv_topi (fun x_18 ex_18 => ?_)
    have h := h x_18 ex_18
    refine lv_istore_n (lv' := [(2, .int x_18), (0, .ref qd), (1, .int a0)]) hx hb d_Md_halves_17 rfl hl (by decide) rfl (fun ls hl => ?_)
    refine lv_iload_n hx hb d_Md_halves_18 rfl (lv_at hl 2 rfl) ?_
    refine lv_bipush (v := 18) hx hb d_Md_halves_19 (by decide) ?_
    refine lv_icmp_ge (tgt := 29) hx hb d_Md_halves_21 (by decide) (fun c_19 => ?_) (fun c_19 => ?_)
    · exact absurd c_19 c_1
    · skip
      refine lv_bipush (v := 32) hx hb d_Md_halves_24 (by decide) ?_
      refine lv_goto (tgt := 31) hx hb d_Md_halves_26 (by decide) ?_
      refine lv_istore_n (lv' := [(3, .int (32 : Int32)), (2, .int x_18), (0, .ref qd), (1, .int a0)]) hx hb d_Md_halves_31 rfl hl (by decide) rfl (fun ls hl => ?_)
      refine lv_iload_n hx hb d_Md_halves_32 rfl (lv_at hl 3 rfl) ?_
      refine lv_iconst (v := 1) hx hb d_Md_halves_33 (by decide) ?_
      refine lv_iand hx hb d_Md_halves_34 ?_
      refine lv_if_ne (tgt := 65) hx hb d_Md_halves_35 (by decide) (fun c_20 => ?_) (fun c_20 => ?_)
      · skip
        have h := h.2 c_20
        refine lv_aload_n hx hb d_Md_halves_65 rfl (lv_at hl 2 rfl) ?_
        refine g_Md_14 (v := .ref qr) hx hb hT hown hK hP 0 rfl rfl d_Md_halves_66 ?_
        refine lv_iload_n hx hb d_Md_halves_69 rfl (lv_at hl 0 rfl) ?_
        refine lv_aload_n hx hb d_Md_halves_70 rfl (lv_at hl 2 rfl) ?_
        refine zz_Ri (As := []) (rest := [.int (32 : Int32), .ref qr]) (wc := wD qd qmemory qr qcounts cI cB ms dd Lwhole Lwhole2 bm rr kt) X hK hP (c_Md_rs l D cI cB qd qmemory qr qcounts ms dd Lwhole Lwhole2 bm rr kt _ h) ⟨rfl, rfl⟩ m_Md_rs k_Md_132 ⟨Nat.le_of_ble_eq_true rfl, Nat.le_of_ble_eq_true rfl⟩ [0, 1, 2, 3] rfl 6 0 rfl rfl rfl rfl hl.1 rfl (Nat.le_of_ble_eq_true rfl) d_Md_halves_71 hf0 (fun r_21 h => ?_)
        refine va_iast (f := rr) hx hb hK hP hD hS 2 0 rfl rfl h.1 d_Md_halves_74 (fun H locs (hP : va_P D vwCl (wD qd qmemory qr qcounts cI cB ms dd Lwhole Lwhole2 bm (upd rr (32 : Int32).toNatClampNeg r_21) kt) H) (hD : va_D A (wD qd qmemory qr qcounts cI cB ms dd Lwhole Lwhole2 bm (upd rr (32 : Int32).toNatClampNeg r_21) kt)) hS => ?_)
        have h := h.2
        refine lv_iload_n hx hb d_Md_halves_75 rfl (lv_at hl 3 rfl) ?_
        refine lv_bipush (v := 18) hx hb d_Md_halves_76 (by decide) ?_
        refine lv_icmp_ge (tgt := 89) hx hb d_Md_halves_78 (by decide) (fun c_22 => ?_) (fun c_22 => ?_)
        · exact absurd c_22 c_1
        · skip
          refine lv_aload_n hx hb d_Md_halves_81 rfl (lv_at hl 2 rfl) ?_
          refine lv_iconst (v := 1) hx hb d_Md_halves_82 (by decide) ?_
          refine p_Md_18 hx hb hT hown hK hP hD hS 0 rfl rfl (Or.inr rfl) d_Md_halves_83 (fun H locs (hP : va_P D vwCl (wD qd qmemory qr qcounts cI cB ms (upd dd 1 (1 : Int32)) Lwhole Lwhole2 bm (upd rr (32 : Int32).toNatClampNeg r_21) kt) H) (hD : va_D A (wD qd qmemory qr qcounts cI cB ms (upd dd 1 (1 : Int32)) Lwhole Lwhole2 bm (upd rr (32 : Int32).toNatClampNeg r_21) kt)) hS => ?_)
          refine lv_goto (tgt := 94) hx hb d_Md_halves_86 (by decide) ?_
          exact W.vret hx hb hr (fun t ht hW => ⟨⟨((upd dd 1 (1 : Int32)), Lwhole, Lwhole2, bm, (upd rr (32 : Int32).toNatClampNeg r_21), kt), rfl, h, by rw [ht]; exact hP, hD⟩, hS.F ht⟩) hS.2.2 d_Md_halves_94
      · skip
        have h := h.1 c_20
        refine lv_iload_n hx hb d_Md_halves_38 rfl (lv_at hl 1 rfl) ?_
        refine lv_if_ne (tgt := 48) hx hb d_Md_halves_39 (by decide) (fun c_23 => ?_) (fun c_23 => ?_)
        · skip
          have h := h.2 c_23
          refine lv_aload_n hx hb d_Md_halves_48 rfl (lv_at hl 2 rfl) ?_
          refine lv_aload_n hx hb d_Md_halves_49 rfl (lv_at hl 2 rfl) ?_
          refine lv_bipush (v := 11) hx hb d_Md_halves_50 (by decide) ?_
          refine zz_Ri (As := [.int (11 : Int32)]) (rest := [.ref qd]) (wc := wD qd qmemory qr qcounts cI cB ms dd Lwhole Lwhole2 bm rr kt) X hK hP (c_Md_field l D cI cB qd qmemory qr qcounts ms dd Lwhole Lwhole2 bm rr kt (11 : Int32) _ h) ⟨rfl, rfl⟩ m_Md_field k_Md_85 ⟨Nat.le_of_ble_eq_true rfl, Nat.le_of_ble_eq_true rfl⟩ [0, 1, 2, 3] rfl 6 0 rfl rfl rfl rfl hl.1 rfl (Nat.le_of_ble_eq_true rfl) d_Md_halves_52 hf0 (fun r_24 h => ?_)
          refine lv_aload_n hx hb d_Md_halves_55 rfl (lv_at hl 2 rfl) ?_
          refine g_Md_14 (v := .ref qr) hx hb hT hown hK hP 0 rfl rfl d_Md_halves_56 ?_
          refine lv_iload_n hx hb d_Md_halves_59 rfl (lv_at hl 0 rfl) ?_
          refine va_iald (f := rr) hx hb hK hP 2 0 rfl rfl h.1 d_Md_halves_60 ?_
          have h := h.2
          refine lv_topi (fun x_25 ex_25 => ?_)
          have h := h x_25 ex_25
          refine zz_Wv (As := [.int r_24, .int x_25]) (rest := []) (wc := wD qd qmemory qr qcounts cI cB ms dd Lwhole Lwhole2 bm rr kt) (wr := []) X hK hP hD hS hA (c_Md_into l D cI cB qd qmemory qr qcounts ms dd Lwhole Lwhole2 bm rr kt r_24 x_25 _ h _) ⟨rfl, rfl⟩ m_Md_into k_Md_128 ⟨Nat.le_of_ble_eq_true rfl, Nat.le_of_ble_eq_true rfl⟩ [0, 1, 2, 3] [] rfl rfl (by decide) (by decide) (by decide) 6 0 rfl rfl rfl rfl hl.1 rfl (Nat.le_of_ble_eq_true rfl) d_Md_halves_61 hf0 (fun u_26 H locs h hP hD hS => ?_)
          have hP : va_P D vwCl (wD qd qmemory qr qcounts cI cB ms u_26.1 u_26.2.1 u_26.2.2.1 u_26.2.2.2.1 u_26.2.2.2.2.1 u_26.2.2.2.2.2) H := hP.sub [0, 1, 2, 3] rfl
          have hD : va_D A (wD qd qmemory qr qcounts cI cB ms u_26.1 u_26.2.1 u_26.2.2.1 u_26.2.2.2.1 u_26.2.2.2.2.1 u_26.2.2.2.2.2) := hD.sub [0, 1, 2, 3] (by decide) rfl
          exact W.vret hx hb hr (fun t ht hW => ⟨⟨(u_26.1, u_26.2.1, u_26.2.2.1, u_26.2.2.2.1, u_26.2.2.2.2.1, u_26.2.2.2.2.2), rfl, h, by rw [ht]; exact hP, hD⟩, hS.F ht⟩) hS.2.2 d_Md_halves_64
        · skip
          have h := h.1 c_23
          refine lv_aload_n hx hb d_Md_halves_42 rfl (lv_at hl 2 rfl) ?_
          refine lv_bipush (v := 8) hx hb d_Md_halves_43 (by decide) ?_
          refine zz_Wv (As := [.int (8 : Int32)]) (rest := []) (wc := wD qd qmemory qr qcounts cI cB ms dd Lwhole Lwhole2 bm rr kt) (wr := []) X hK hP hD hS hA (c_Md_ends l D cI cB qd qmemory qr qcounts ms dd Lwhole Lwhole2 bm rr kt (8 : Int32) _ h _) ⟨rfl, rfl⟩ m_Md_ends k_Md_116 ⟨Nat.le_of_ble_eq_true rfl, Nat.le_of_ble_eq_true rfl⟩ [0, 1, 2, 3] [] rfl rfl (by decide) (by decide) (by decide) 6 0 rfl rfl rfl rfl hl.1 rfl (Nat.le_of_ble_eq_true rfl) d_Md_halves_45 hf0 (fun u_28 H locs h hP hD hS => ?_)
          have hP : va_P D vwCl (wD qd qmemory qr qcounts cI cB ms u_28.1 u_28.2.1 u_28.2.2.1 u_28.2.2.2.1 u_28.2.2.2.2.1 u_28.2.2.2.2.2) H := hP.sub [0, 1, 2, 3] rfl
          have hD : va_D A (wD qd qmemory qr qcounts cI cB ms u_28.1 u_28.2.1 u_28.2.2.1 u_28.2.2.2.1 u_28.2.2.2.2.1 u_28.2.2.2.2.2) := hD.sub [0, 1, 2, 3] (by decide) rfl
          refine lv_aload_n hx hb d_Md_halves_48 rfl (lv_at hl 2 rfl) ?_
          refine lv_aload_n hx hb d_Md_halves_49 rfl (lv_at hl 2 rfl) ?_
          refine lv_bipush (v := 11) hx hb d_Md_halves_50 (by decide) ?_
          refine zz_Ri (As := [.int (11 : Int32)]) (rest := [.ref qd]) (wc := wD qd qmemory qr qcounts cI cB ms u_28.1 u_28.2.1 u_28.2.2.1 u_28.2.2.2.1 u_28.2.2.2.2.1 u_28.2.2.2.2.2) X hK hP (c_Md_field l D cI cB qd qmemory qr qcounts ms u_28.1 u_28.2.1 u_28.2.2.1 u_28.2.2.2.1 u_28.2.2.2.2.1 u_28.2.2.2.2.2 (11 : Int32) _ h) ⟨rfl, rfl⟩ m_Md_field k_Md_85 ⟨Nat.le_of_ble_eq_true rfl, Nat.le_of_ble_eq_true rfl⟩ [0, 1, 2, 3] rfl 6 0 rfl rfl rfl rfl hl.1 rfl (Nat.le_of_ble_eq_true rfl) d_Md_halves_52 hf0 (fun r_30 h => ?_)
          refine lv_aload_n hx hb d_Md_halves_55 rfl (lv_at hl 2 rfl) ?_
          refine g_Md_14 (v := .ref qr) hx hb hT hown hK hP 0 rfl rfl d_Md_halves_56 ?_
          refine lv_iload_n hx hb d_Md_halves_59 rfl (lv_at hl 0 rfl) ?_
          refine va_iald (f := u_28.2.2.2.2.1) hx hb hK hP 2 0 rfl rfl h.1 d_Md_halves_60 ?_
          have h := h.2
          refine lv_topi (fun x_31 ex_31 => ?_)
          have h := h x_31 ex_31
          refine zz_Wv (As := [.int r_30, .int x_31]) (rest := []) (wc := wD qd qmemory qr qcounts cI cB ms u_28.1 u_28.2.1 u_28.2.2.1 u_28.2.2.2.1 u_28.2.2.2.2.1 u_28.2.2.2.2.2) (wr := []) X hK hP hD hS hA (c_Md_into l D cI cB qd qmemory qr qcounts ms u_28.1 u_28.2.1 u_28.2.2.1 u_28.2.2.2.1 u_28.2.2.2.2.1 u_28.2.2.2.2.2 r_30 x_31 _ h _) ⟨rfl, rfl⟩ m_Md_into k_Md_128 ⟨Nat.le_of_ble_eq_true rfl, Nat.le_of_ble_eq_true rfl⟩ [0, 1, 2, 3] [] rfl rfl (by decide) (by decide) (by decide) 6 0 rfl rfl rfl rfl hl.1 rfl (Nat.le_of_ble_eq_true rfl) d_Md_halves_61 hf0 (fun u_32 H locs h hP hD hS => ?_)
          have hP : va_P D vwCl (wD qd qmemory qr qcounts cI cB ms u_32.1 u_32.2.1 u_32.2.2.1 u_32.2.2.2.1 u_32.2.2.2.2.1 u_32.2.2.2.2.2) H := hP.sub [0, 1, 2, 3] rfl
          have hD : va_D A (wD qd qmemory qr qcounts cI cB ms u_32.1 u_32.2.1 u_32.2.2.1 u_32.2.2.2.1 u_32.2.2.2.2.1 u_32.2.2.2.2.2) := hD.sub [0, 1, 2, 3] (by decide) rfl
          exact W.vret hx hb hr (fun t ht hW => ⟨⟨(u_32.1, u_32.2.1, u_32.2.2.1, u_32.2.2.2.1, u_32.2.2.2.2.1, u_32.2.2.2.2.2), rfl, h, by rw [ht]; exact hP, hD⟩, hS.F ht⟩) hS.2.2 d_Md_halves_64
def wp_Md_product (ms : Int32) (dd : Nat → Int32) (Lwhole : Int64) (Lwhole2 : Int64) (bm : Nat → Int32) (rr : Nat → Int32) (kt : Nat → Int32) (a0 : Int32) (P : Int64 → Prop) : Prop := ((a0 = (0 : Int32) → wp_Md_rs ms dd Lwhole Lwhole2 bm rr kt (fun r_2 => ∀ x_3 : Int64, x_3 = (r_2.toInt64 &&& (4294967295 : Int64)) → wp_Md_rt ms dd Lwhole Lwhole2 bm rr kt (fun r_4 => ∀ x_5 : Int64, x_5 = (r_4.toInt64 &&& (4294967295 : Int64)) → P (x_3 * x_5)))) ∧ (¬ a0 = (0 : Int32) → wp_Md_rs ms dd Lwhole Lwhole2 bm rr kt (fun r_6 => wp_Md_rt ms dd Lwhole Lwhole2 bm rr kt (fun r_7 => P (r_6.toInt64 * r_7.toInt64)))))
abbrev rm_Md_product : Room := { frames := 2, cells := 0, slots := 0, locals := 41 }
set_option maxHeartbeats 4000000 in
set_option maxRecDepth 100000 in
theorem c_Md_product (l : Launch) (D : va_G) (cI : ClassId) (cB : ClassId) (qd : Nat) (qmemory : Nat) (qr : Nat) (qcounts : Nat) (ms : Int32) (dd : Nat → Int32) (Lwhole : Int64) (Lwhole2 : Int64) (bm : Nat → Int32) (rr : Nat → Int32) (kt : Nat → Int32) (a0 : Int32) (P : Int64 → Prop) (h : wp_Md_product ms dd Lwhole Lwhole2 bm rr kt a0 P) : Met l y_Md_product (zz_ws y_Md_product b_Md_product 2 (some .long)) rm_Md_product (va_Pc [.ref qd, .int a0] (zz_pr D [(cI, .int), (cB, .byte)] (wD qd qmemory qr qcounts cI cB ms dd Lwhole Lwhole2 bm rr kt))) (vp_Sl P) 0 0 (fun _ => False) := by
  refine Met.ofW (cc := b_Md_product) (maxL := 2) (ret := (some .long)) (by decide) rfl ?_
  intro p e s m args below meth c s₁ B hml hv
  obtain ⟨rfl, hP, hK⟩ := hv
  have hx := B.exec
  have hb := B.bytes
  have hr := B.returns
  have hts := atoms_spec (ws := (zz_ws y_Md_product b_Md_product 2 (some .long))) B.pre
  have hown : s.vm.findClass R_Md = some m.cls := findClass_of_methodNamed B.named
  have hlocks := B.notSynchronized
  have hT := zz_hts hts
  have X : CallFix p m c b_Md_product 2 s ([.ref qd, .int a0] : List Value).toArray (zz_ws y_Md_product b_Md_product 2 (some .long)) R_Md := ⟨hx, hb, hml, hown, hts⟩
  have hf0 : 0 + 0 ≤ (headSpec (zz_ws y_Md_product b_Md_product 2 (some .long)) rm_Md_product).room.cells ∧ 0 + 0 ≤ (headSpec (zz_ws y_Md_product b_Md_product 2 (some .long)) rm_Md_product).room.slots := ⟨Nat.le_of_ble_eq_true rfl, Nat.le_of_ble_eq_true rfl⟩
  have hl := lv_entry ([.ref qd, .int a0]) (n := 2) (Nat.le_of_ble_eq_true rfl)
  rw [lg_entry_eq]
  generalize (lg_sl ([.ref qd, .int a0]) ++ List.replicate (2 - (lg_sl ([.ref qd, .int a0])).length) Slot.unset).toArray = ls at hl ⊢
  have hl : lv_has ls 2 [(0, .ref qd), (1, .int a0)] := hl
  refine lv_iload_n hx hb d_Md_product_0 rfl (lv_at hl 1 rfl) ?_
  refine lv_if_eq (tgt := 18) hx hb d_Md_product_1 (by decide) (fun c_1 => ?_) (fun c_1 => ?_)
  · skip
    have h := h.1 c_1
    refine lv_aload_n hx hb d_Md_product_18 rfl (lv_at hl 0 rfl) ?_
    refine zz_Ri (As := []) (rest := []) (wc := wD qd qmemory qr qcounts cI cB ms dd Lwhole Lwhole2 bm rr kt) X hK hP (c_Md_rs l D cI cB qd qmemory qr qcounts ms dd Lwhole Lwhole2 bm rr kt _ h) ⟨rfl, rfl⟩ m_Md_rs k_Md_132 ⟨Nat.le_of_ble_eq_true rfl, Nat.le_of_ble_eq_true rfl⟩ [0, 1, 2, 3] rfl 6 0 rfl rfl rfl rfl hl.1 rfl (Nat.le_of_ble_eq_true rfl) d_Md_product_19 hf0 (fun r_2 h => ?_)
    refine lv_i2l (v := r_2.toInt64) hx hb d_Md_product_22 rfl ?_
    refine lv_ldc2 (v := 4294967295) hx hb hown (hT _ n_Md_163) d_Md_product_23 ?_
    refine lv_land hx hb d_Md_product_26 ?_
    refine lv_topl (fun x_3 ex_3 => ?_)
    have h := h x_3 ex_3
    refine lv_aload_n hx hb d_Md_product_27 rfl (lv_at hl 0 rfl) ?_
    refine zz_Ri (As := []) (rest := [.long x_3]) (wc := wD qd qmemory qr qcounts cI cB ms dd Lwhole Lwhole2 bm rr kt) X hK hP (c_Md_rt l D cI cB qd qmemory qr qcounts ms dd Lwhole Lwhole2 bm rr kt _ h) ⟨rfl, rfl⟩ m_Md_rt k_Md_135 ⟨Nat.le_of_ble_eq_true rfl, Nat.le_of_ble_eq_true rfl⟩ [0, 1, 2, 3] rfl 6 0 rfl rfl rfl rfl hl.1 rfl (Nat.le_of_ble_eq_true rfl) d_Md_product_28 hf0 (fun r_4 h => ?_)
    refine lv_i2l (v := r_4.toInt64) hx hb d_Md_product_31 rfl ?_
    refine lv_ldc2 (v := 4294967295) hx hb hown (hT _ n_Md_163) d_Md_product_32 ?_
    refine lv_land hx hb d_Md_product_35 ?_
    refine lv_topl (fun x_5 ex_5 => ?_)
    have h := h x_5 ex_5
    refine lv_lmul hx hb d_Md_product_36 ?_
    exact W.lret (v := (x_3 * x_5)) hx hb hr (fun t ht hW => ⟨(x_3 * x_5),  rfl, h, ht⟩) t_nil d_Md_product_37
  · skip
    have h := h.2 c_1
    refine lv_aload_n hx hb d_Md_product_4 rfl (lv_at hl 0 rfl) ?_
    refine zz_Ri (As := []) (rest := []) (wc := wD qd qmemory qr qcounts cI cB ms dd Lwhole Lwhole2 bm rr kt) X hK hP (c_Md_rs l D cI cB qd qmemory qr qcounts ms dd Lwhole Lwhole2 bm rr kt _ h) ⟨rfl, rfl⟩ m_Md_rs k_Md_132 ⟨Nat.le_of_ble_eq_true rfl, Nat.le_of_ble_eq_true rfl⟩ [0, 1, 2, 3] rfl 6 0 rfl rfl rfl rfl hl.1 rfl (Nat.le_of_ble_eq_true rfl) d_Md_product_5 hf0 (fun r_6 h => ?_)
    refine lv_i2l (v := r_6.toInt64) hx hb d_Md_product_8 rfl ?_
    refine lv_aload_n hx hb d_Md_product_9 rfl (lv_at hl 0 rfl) ?_
    refine zz_Ri (As := []) (rest := [.long r_6.toInt64]) (wc := wD qd qmemory qr qcounts cI cB ms dd Lwhole Lwhole2 bm rr kt) X hK hP (c_Md_rt l D cI cB qd qmemory qr qcounts ms dd Lwhole Lwhole2 bm rr kt _ h) ⟨rfl, rfl⟩ m_Md_rt k_Md_135 ⟨Nat.le_of_ble_eq_true rfl, Nat.le_of_ble_eq_true rfl⟩ [0, 1, 2, 3] rfl 6 0 rfl rfl rfl rfl hl.1 rfl (Nat.le_of_ble_eq_true rfl) d_Md_product_10 hf0 (fun r_7 h => ?_)
    refine lv_i2l (v := r_7.toInt64) hx hb d_Md_product_13 rfl ?_
    refine lv_lmul hx hb d_Md_product_14 ?_
    refine lv_goto (tgt := 37) hx hb d_Md_product_15 (by decide) ?_
    exact W.lret (v := (r_6.toInt64 * r_7.toInt64)) hx hb hr (fun t ht hW => ⟨(r_6.toInt64 * r_7.toInt64),  rfl, h, ht⟩) t_nil d_Md_product_37
def wp_Md_both (ms : Int32) (dd : Nat → Int32) (Lwhole : Int64) (Lwhole2 : Int64) (bm : Nat → Int32) (rr : Nat → Int32) (kt : Nat → Int32) (a0 : Int64) (P : ((Nat → Int32) × Int64 × Int64 × (Nat → Int32) × (Nat → Int32) × (Nat → Int32)) → Prop) : Prop := ∀ x_1 : Int32, x_1 = (zz_lshr a0 (32 : Int32)).toInt32 → vp_in (32 : Int32) 67 ∧ vp_in (33 : Int32) 67 ∧ P ((upd (upd dd 1 (1 : Int32)) 2 (1 : Int32)), Lwhole, Lwhole2, bm, (upd (upd rr (32 : Int32).toNatClampNeg x_1) (33 : Int32).toNatClampNeg a0.toInt32), kt)
abbrev rm_Md_both : Room := { frames := 0, cells := 0, slots := 0, locals := 0 }
set_option maxHeartbeats 4000000 in
set_option maxRecDepth 100000 in
theorem c_Md_both (l : Launch) (D : va_G) (cI : ClassId) (cB : ClassId) (qd : Nat) (qmemory : Nat) (qr : Nat) (qcounts : Nat) (ms : Int32) (dd : Nat → Int32) (Lwhole : Int64) (Lwhole2 : Int64) (bm : Nat → Int32) (rr : Nat → Int32) (kt : Nat → Int32) (a0 : Int64) (P : ((Nat → Int32) × Int64 × Int64 × (Nat → Int32) × (Nat → Int32) × (Nat → Int32)) → Prop) (h : wp_Md_both ms dd Lwhole Lwhole2 bm rr kt a0 P) (sz : Nat) : Met l y_Md_both (zz_ws y_Md_both b_Md_both 3 none) rm_Md_both (va_Pc [.ref qd, .long a0] (zz_pw D [(cI, .int), (cB, .byte)] (wD qd qmemory qr qcounts cI cB ms dd Lwhole Lwhole2 bm rr kt) sz)) (va_Qv P (zz_qw D (fun u => wD qd qmemory qr qcounts cI cB ms u.1 u.2.1 u.2.2.1 u.2.2.2.1 u.2.2.2.2.1 u.2.2.2.2.2) (va_A (wD qd qmemory qr qcounts cI cB ms dd Lwhole Lwhole2 bm rr kt) sz)) (va_A (wD qd qmemory qr qcounts cI cB ms dd Lwhole Lwhole2 bm rr kt) sz)) 0 0 (va_A (wD qd qmemory qr qcounts cI cB ms dd Lwhole Lwhole2 bm rr kt) sz) := by
  refine Met.ofW (cc := b_Md_both) (maxL := 3) (ret := none) (by decide) rfl ?_
  intro p e s m args below meth c s₁ B hml hv
  obtain ⟨rfl, hsz, hP, hK, hD0⟩ := hv
  have hx := B.exec
  have hb := B.bytes
  have hr := B.returns
  have hts := atoms_spec (ws := (zz_ws y_Md_both b_Md_both 3 none)) B.pre
  have hown : s.vm.findClass R_Md = some m.cls := findClass_of_methodNamed B.named
  have hlocks := B.notSynchronized
  have hT := zz_hts hts
  have X : CallFix p m c b_Md_both 3 s ([.ref qd, .long a0] : List Value).toArray (zz_ws y_Md_both b_Md_both 3 none) R_Md := ⟨hx, hb, hml, hown, hts⟩
  have hf0 : 0 + 0 ≤ (headSpec (zz_ws y_Md_both b_Md_both 3 none) rm_Md_both).room.cells ∧ 0 + 0 ≤ (headSpec (zz_ws y_Md_both b_Md_both 3 none) rm_Md_both).room.slots := ⟨Nat.le_of_ble_eq_true rfl, Nat.le_of_ble_eq_true rfl⟩
  subst hsz
  have hD := hD0.self (sz := s.heap.size)
  generalize hAe : va_A (wD qd qmemory qr qcounts cI cB ms dd Lwhole Lwhole2 bm rr kt) s.heap.size = A at hD ⊢
  have hA : ∀ q : Nat, s.heap.size ≤ q → A q := fun q h => by rw [← hAe]; exact Or.inr h
  have hS : va_S A s.heap s.heap [] := va_S.rf
  have hl := lv_entry ([.ref qd, .long a0]) (n := 3) (Nat.le_of_ble_eq_true rfl)
  rw [lg_entry_eq]
  generalize (lg_sl ([.ref qd, .long a0]) ++ List.replicate (3 - (lg_sl ([.ref qd, .long a0])).length) Slot.unset).toArray = ls at hl ⊢
  have hl : lv_has ls 3 [(0, .ref qd), (1, .long a0)] := hl
  refine lv_aload_n hx hb d_Md_both_0 rfl (lv_at hl 0 rfl) ?_
  refine g_Md_14 (v := .ref qr) hx hb hT hown hK hP 0 rfl rfl d_Md_both_1 ?_
  refine lv_bipush (v := 32) hx hb d_Md_both_4 (by decide) ?_
  refine lv_lload_n hx hb d_Md_both_6 rfl (lv_at hl 1 rfl) ?_
  refine lv_bipush (v := 32) hx hb d_Md_both_7 (by decide) ?_
  refine zz_llshr hx hb d_Md_both_9 ?_
  refine lv_l2i (v := (zz_lshr a0 (32 : Int32)).toInt32) hx hb d_Md_both_10 rfl ?_
  refine lv_topi (fun x_1 ex_1 => ?_)
  have h := h x_1 ex_1
  refine va_iast (f := rr) hx hb hK hP hD hS 2 0 rfl rfl h.1 d_Md_both_11 (fun H locs (hP : va_P D vwCl (wD qd qmemory qr qcounts cI cB ms dd Lwhole Lwhole2 bm (upd rr (32 : Int32).toNatClampNeg x_1) kt) H) (hD : va_D A (wD qd qmemory qr qcounts cI cB ms dd Lwhole Lwhole2 bm (upd rr (32 : Int32).toNatClampNeg x_1) kt)) hS => ?_)
  have h := h.2
  refine lv_aload_n hx hb d_Md_both_12 rfl (lv_at hl 0 rfl) ?_
  refine g_Md_14 (v := .ref qr) hx hb hT hown hK hP 0 rfl rfl d_Md_both_13 ?_
  refine lv_bipush (v := 33) hx hb d_Md_both_16 (by decide) ?_
  refine lv_lload_n hx hb d_Md_both_18 rfl (lv_at hl 1 rfl) ?_
  refine lv_l2i (v := a0.toInt32) hx hb d_Md_both_19 rfl ?_
  refine va_iast (f := (upd rr (32 : Int32).toNatClampNeg x_1)) hx hb hK hP hD hS 2 0 rfl rfl h.1 d_Md_both_20 (fun H locs (hP : va_P D vwCl (wD qd qmemory qr qcounts cI cB ms dd Lwhole Lwhole2 bm (upd (upd rr (32 : Int32).toNatClampNeg x_1) (33 : Int32).toNatClampNeg a0.toInt32) kt) H) (hD : va_D A (wD qd qmemory qr qcounts cI cB ms dd Lwhole Lwhole2 bm (upd (upd rr (32 : Int32).toNatClampNeg x_1) (33 : Int32).toNatClampNeg a0.toInt32) kt)) hS => ?_)
  have h := h.2
  refine lv_aload_n hx hb d_Md_both_21 rfl (lv_at hl 0 rfl) ?_
  refine lv_iconst (v := 1) hx hb d_Md_both_22 (by decide) ?_
  refine p_Md_18 hx hb hT hown hK hP hD hS 0 rfl rfl (Or.inr rfl) d_Md_both_23 (fun H locs (hP : va_P D vwCl (wD qd qmemory qr qcounts cI cB ms (upd dd 1 (1 : Int32)) Lwhole Lwhole2 bm (upd (upd rr (32 : Int32).toNatClampNeg x_1) (33 : Int32).toNatClampNeg a0.toInt32) kt) H) (hD : va_D A (wD qd qmemory qr qcounts cI cB ms (upd dd 1 (1 : Int32)) Lwhole Lwhole2 bm (upd (upd rr (32 : Int32).toNatClampNeg x_1) (33 : Int32).toNatClampNeg a0.toInt32) kt)) hS => ?_)
  refine lv_aload_n hx hb d_Md_both_26 rfl (lv_at hl 0 rfl) ?_
  refine lv_iconst (v := 1) hx hb d_Md_both_27 (by decide) ?_
  refine p_Md_22 hx hb hT hown hK hP hD hS 0 rfl rfl (Or.inr rfl) d_Md_both_28 (fun H locs (hP : va_P D vwCl (wD qd qmemory qr qcounts cI cB ms (upd (upd dd 1 (1 : Int32)) 2 (1 : Int32)) Lwhole Lwhole2 bm (upd (upd rr (32 : Int32).toNatClampNeg x_1) (33 : Int32).toNatClampNeg a0.toInt32) kt) H) (hD : va_D A (wD qd qmemory qr qcounts cI cB ms (upd (upd dd 1 (1 : Int32)) 2 (1 : Int32)) Lwhole Lwhole2 bm (upd (upd rr (32 : Int32).toNatClampNeg x_1) (33 : Int32).toNatClampNeg a0.toInt32) kt)) hS => ?_)
  exact W.vret hx hb hr (fun t ht hW => ⟨⟨((upd (upd dd 1 (1 : Int32)) 2 (1 : Int32)), Lwhole, Lwhole2, bm, (upd (upd rr (32 : Int32).toNatClampNeg x_1) (33 : Int32).toNatClampNeg a0.toInt32), kt), rfl, h, by rw [ht]; exact hP, hD⟩, hS.F ht⟩) hS.2.2 d_Md_both_31
def wp_Md_products (ms : Int32) (dd : Nat → Int32) (Lwhole : Int64) (Lwhole2 : Int64) (bm : Nat → Int32) (rr : Nat → Int32) (kt : Nat → Int32) (a0 : Int32) (P : ((Nat → Int32) × Int64 × Int64 × (Nat → Int32) × (Nat → Int32) × (Nat → Int32)) → Prop) : Prop := (((26 : Int32) ≤ a0 → wp_Md_rt ms dd Lwhole Lwhole2 bm rr kt (fun r_2 => ((r_2 = (0 : Int32) → P ((upd (upd dd 1 (0 : Int32)) 2 (0 : Int32)), Lwhole, Lwhole2, bm, rr, kt)) ∧ (¬ r_2 = (0 : Int32) → ((a0 = (26 : Int32) → wp_Md_rs ms dd Lwhole Lwhole2 bm rr kt (fun r_14 => wp_Md_rt ms dd Lwhole Lwhole2 bm rr kt (fun r_16 => ¬ r_16.toInt64 = 0 ∧ ∀ x_17 : Int64, x_17 = (r_14.toInt64 - r_14.toInt64 / r_16.toInt64 * r_16.toInt64) → ¬ r_16.toInt64 = 0 ∧ ∀ x_18 : Int64, x_18 = (r_14.toInt64 / r_16.toInt64) → ∀ x_19 : Int64, x_19 = (x_18 &&& (4294967295 : Int64)) → ∀ x_20 : Int64, x_20 = ((zz_lshl x_17 (32 : Int32)) ||| x_19) → wp_Md_both ms dd Lwhole Lwhole2 bm rr kt x_20 (fun u_21 => P (u_21.1, u_21.2.1, u_21.2.2.1, u_21.2.2.2.1, u_21.2.2.2.2.1, u_21.2.2.2.2.2))))) ∧ (¬ a0 = (26 : Int32) → wp_Md_rs ms dd Lwhole Lwhole2 bm rr kt (fun r_5 => ∀ x_6 : Int64, x_6 = (r_5.toInt64 &&& (4294967295 : Int64)) → wp_Md_rt ms dd Lwhole Lwhole2 bm rr kt (fun r_8 => ∀ x_9 : Int64, x_9 = (r_8.toInt64 &&& (4294967295 : Int64)) → ¬ x_9 = 0 ∧ ∀ x_10 : Int64, x_10 = (zz_lshl (x_6 - x_6 / x_9 * x_9) (32 : Int32)) → ¬ x_9 = 0 ∧ ∀ x_11 : Int64, x_11 = ((x_6 / x_9) &&& (4294967295 : Int64)) → wp_Md_both ms dd Lwhole Lwhole2 bm rr kt (x_10 ||| x_11) (fun u_12 => P (u_12.1, u_12.2.1, u_12.2.2.1, u_12.2.2.2.1, u_12.2.2.2.2.1, u_12.2.2.2.2.2)))))))))) ∧ (¬ (26 : Int32) ≤ a0 → ((a0 = (24 : Int32) → wp_Md_product ms dd Lwhole Lwhole2 bm rr kt (1 : Int32) (fun r_27 => wp_Md_both ms dd Lwhole Lwhole2 bm rr kt r_27 (fun u_28 => P (u_28.1, u_28.2.1, u_28.2.2.1, u_28.2.2.2.1, u_28.2.2.2.2.1, u_28.2.2.2.2.2)))) ∧ (¬ a0 = (24 : Int32) → wp_Md_product ms dd Lwhole Lwhole2 bm rr kt (0 : Int32) (fun r_24 => wp_Md_both ms dd Lwhole Lwhole2 bm rr kt r_24 (fun u_25 => P (u_25.1, u_25.2.1, u_25.2.2.1, u_25.2.2.2.1, u_25.2.2.2.2.1, u_25.2.2.2.2.2)))))))
abbrev rm_Md_products : Room := { frames := 3, cells := 0, slots := 0, locals := 62 }
set_option maxHeartbeats 4000000 in
set_option maxRecDepth 100000 in
theorem c_Md_products (l : Launch) (D : va_G) (cI : ClassId) (cB : ClassId) (qd : Nat) (qmemory : Nat) (qr : Nat) (qcounts : Nat) (ms : Int32) (dd : Nat → Int32) (Lwhole : Int64) (Lwhole2 : Int64) (bm : Nat → Int32) (rr : Nat → Int32) (kt : Nat → Int32) (a0 : Int32) (P : ((Nat → Int32) × Int64 × Int64 × (Nat → Int32) × (Nat → Int32) × (Nat → Int32)) → Prop) (h : wp_Md_products ms dd Lwhole Lwhole2 bm rr kt a0 P) (sz : Nat) : Met l y_Md_products (zz_ws y_Md_products b_Md_products 6 none) rm_Md_products (va_Pc [.ref qd, .int a0] (zz_pw D [(cI, .int), (cB, .byte)] (wD qd qmemory qr qcounts cI cB ms dd Lwhole Lwhole2 bm rr kt) sz)) (va_Qv P (zz_qw D (fun u => wD qd qmemory qr qcounts cI cB ms u.1 u.2.1 u.2.2.1 u.2.2.2.1 u.2.2.2.2.1 u.2.2.2.2.2) (va_A (wD qd qmemory qr qcounts cI cB ms dd Lwhole Lwhole2 bm rr kt) sz)) (va_A (wD qd qmemory qr qcounts cI cB ms dd Lwhole Lwhole2 bm rr kt) sz)) 0 0 (va_A (wD qd qmemory qr qcounts cI cB ms dd Lwhole Lwhole2 bm rr kt) sz) := by
  refine Met.ofW (cc := b_Md_products) (maxL := 6) (ret := none) (by decide) rfl ?_
  intro p e s m args below meth c s₁ B hml hv
  obtain ⟨rfl, hsz, hP, hK, hD0⟩ := hv
  have hx := B.exec
  have hb := B.bytes
  have hr := B.returns
  have hts := atoms_spec (ws := (zz_ws y_Md_products b_Md_products 6 none)) B.pre
  have hown : s.vm.findClass R_Md = some m.cls := findClass_of_methodNamed B.named
  have hlocks := B.notSynchronized
  have hT := zz_hts hts
  have X : CallFix p m c b_Md_products 6 s ([.ref qd, .int a0] : List Value).toArray (zz_ws y_Md_products b_Md_products 6 none) R_Md := ⟨hx, hb, hml, hown, hts⟩
  have hf0 : 0 + 0 ≤ (headSpec (zz_ws y_Md_products b_Md_products 6 none) rm_Md_products).room.cells ∧ 0 + 0 ≤ (headSpec (zz_ws y_Md_products b_Md_products 6 none) rm_Md_products).room.slots := ⟨Nat.le_of_ble_eq_true rfl, Nat.le_of_ble_eq_true rfl⟩
  subst hsz
  have hD := hD0.self (sz := s.heap.size)
  generalize hAe : va_A (wD qd qmemory qr qcounts cI cB ms dd Lwhole Lwhole2 bm rr kt) s.heap.size = A at hD ⊢
  have hA : ∀ q : Nat, s.heap.size ≤ q → A q := fun q h => by rw [← hAe]; exact Or.inr h
  have hS : va_S A s.heap s.heap [] := va_S.rf
  have hl := lv_entry ([.ref qd, .int a0]) (n := 6) (Nat.le_of_ble_eq_true rfl)
  rw [lg_entry_eq]
  generalize (lg_sl ([.ref qd, .int a0]) ++ List.replicate (6 - (lg_sl ([.ref qd, .int a0])).length) Slot.unset).toArray = ls at hl ⊢
  have hl : lv_has ls 6 [(0, .ref qd), (1, .int a0)] := hl
  refine lv_iload_n hx hb d_Md_products_0 rfl (lv_at hl 1 rfl) ?_
  refine lv_bipush (v := 26) hx hb d_Md_products_1 (by decide) ?_
  refine lv_icmp_ge (tgt := 26) hx hb d_Md_products_3 (by decide) (fun c_1 => ?_) (fun c_1 => ?_)
  · skip
    have h := h.1 c_1
    refine lv_aload_n hx hb d_Md_products_26 rfl (lv_at hl 0 rfl) ?_
    refine zz_Ri (As := []) (rest := []) (wc := wD qd qmemory qr qcounts cI cB ms dd Lwhole Lwhole2 bm rr kt) X hK hP (c_Md_rt l D cI cB qd qmemory qr qcounts ms dd Lwhole Lwhole2 bm rr kt _ h) ⟨rfl, rfl⟩ m_Md_rt k_Md_135 ⟨Nat.le_of_ble_eq_true rfl, Nat.le_of_ble_eq_true rfl⟩ [0, 1, 2, 3] rfl 6 0 rfl rfl rfl rfl hl.1 rfl (Nat.le_of_ble_eq_true rfl) d_Md_products_27 hf0 (fun r_2 h => ?_)
    refine lv_if_ne (tgt := 44) hx hb d_Md_products_30 (by decide) (fun c_3 => ?_) (fun c_3 => ?_)
    · skip
      have h := h.2 c_3
      refine lv_iload_n hx hb d_Md_products_44 rfl (lv_at hl 1 rfl) ?_
      refine lv_bipush (v := 26) hx hb d_Md_products_45 (by decide) ?_
      refine lv_icmp_ne (tgt := 58) hx hb d_Md_products_47 (by decide) (fun c_4 => ?_) (fun c_4 => ?_)
      · skip
        have h := h.2 c_4
        refine lv_aload_n hx hb d_Md_products_58 rfl (lv_at hl 0 rfl) ?_
        refine zz_Ri (As := []) (rest := []) (wc := wD qd qmemory qr qcounts cI cB ms dd Lwhole Lwhole2 bm rr kt) X hK hP (c_Md_rs l D cI cB qd qmemory qr qcounts ms dd Lwhole Lwhole2 bm rr kt _ h) ⟨rfl, rfl⟩ m_Md_rs k_Md_132 ⟨Nat.le_of_ble_eq_true rfl, Nat.le_of_ble_eq_true rfl⟩ [0, 1, 2, 3] rfl 6 0 rfl rfl rfl rfl hl.1 rfl (Nat.le_of_ble_eq_true rfl) d_Md_products_59 hf0 (fun r_5 h => ?_)
        refine lv_i2l (v := r_5.toInt64) hx hb d_Md_products_62 rfl ?_
        refine lv_ldc2 (v := 4294967295) hx hb hown (hT _ n_Md_163) d_Md_products_63 ?_
        refine lv_land hx hb d_Md_products_66 ?_
        refine lv_topl (fun x_6 ex_6 => ?_)
        have h := h x_6 ex_6
        refine lv_lstore_n (lv' := [(2, .long x_6), (0, .ref qd), (1, .int a0)]) hx hb d_Md_products_67 rfl hl (by decide) rfl (fun ls hl => ?_)
        refine lv_iload_n hx hb d_Md_products_68 rfl (lv_at hl 2 rfl) ?_
        refine lv_bipush (v := 26) hx hb d_Md_products_69 (by decide) ?_
        refine lv_icmp_ne (tgt := 82) hx hb d_Md_products_71 (by decide) (fun c_7 => ?_) (fun c_7 => ?_)
        · skip
          refine lv_aload_n hx hb d_Md_products_82 rfl (lv_at hl 1 rfl) ?_
          refine zz_Ri (As := []) (rest := []) (wc := wD qd qmemory qr qcounts cI cB ms dd Lwhole Lwhole2 bm rr kt) X hK hP (c_Md_rt l D cI cB qd qmemory qr qcounts ms dd Lwhole Lwhole2 bm rr kt _ h) ⟨rfl, rfl⟩ m_Md_rt k_Md_135 ⟨Nat.le_of_ble_eq_true rfl, Nat.le_of_ble_eq_true rfl⟩ [0, 1, 2, 3] rfl 6 0 rfl rfl rfl rfl hl.1 rfl (Nat.le_of_ble_eq_true rfl) d_Md_products_83 hf0 (fun r_8 h => ?_)
          refine lv_i2l (v := r_8.toInt64) hx hb d_Md_products_86 rfl ?_
          refine lv_ldc2 (v := 4294967295) hx hb hown (hT _ n_Md_163) d_Md_products_87 ?_
          refine lv_land hx hb d_Md_products_90 ?_
          refine lv_topl (fun x_9 ex_9 => ?_)
          have h := h x_9 ex_9
          refine lv_lstore (lv' := [(4, .long x_9), (2, .long x_6), (0, .ref qd), (1, .int a0)]) hx hb d_Md_products_91 hl (by decide) rfl (fun ls hl => ?_)
          refine lv_aload_n hx hb d_Md_products_93 rfl (lv_at hl 2 rfl) ?_
          refine lv_lload_n hx hb d_Md_products_94 rfl (lv_at hl 1 rfl) ?_
          refine lv_lload hx hb d_Md_products_95 (lv_at hl 0 rfl) ?_
          refine lv_lrem hx hb d_Md_products_97 h.1 ?_
          have h := h.2
          refine lv_bipush (v := 32) hx hb d_Md_products_98 (by decide) ?_
          refine zz_llshl hx hb d_Md_products_100 ?_
          refine lv_topl (fun x_10 ex_10 => ?_)
          have h := h x_10 ex_10
          refine lv_lload_n hx hb d_Md_products_101 rfl (lv_at hl 1 rfl) ?_
          refine lv_lload hx hb d_Md_products_102 (lv_at hl 0 rfl) ?_
          refine lv_ldiv hx hb d_Md_products_104 h.1 ?_
          have h := h.2
          refine lv_ldc2 (v := 4294967295) hx hb hown (hT _ n_Md_163) d_Md_products_105 ?_
          refine lv_land hx hb d_Md_products_108 ?_
          refine lv_topl (fun x_11 ex_11 => ?_)
          have h := h x_11 ex_11
          refine lv_lor hx hb d_Md_products_109 ?_
          refine zz_Wv (As := [.long (x_10 ||| x_11)]) (rest := []) (wc := wD qd qmemory qr qcounts cI cB ms dd Lwhole Lwhole2 bm rr kt) (wr := []) X hK hP hD hS hA (c_Md_both l D cI cB qd qmemory qr qcounts ms dd Lwhole Lwhole2 bm rr kt (x_10 ||| x_11) _ h _) ⟨rfl, rfl⟩ m_Md_both k_Md_169 ⟨Nat.le_of_ble_eq_true rfl, Nat.le_of_ble_eq_true rfl⟩ [0, 1, 2, 3] [] rfl rfl (by decide) (by decide) (by decide) 6 0 rfl rfl rfl rfl hl.1 rfl (Nat.le_of_ble_eq_true rfl) d_Md_products_110 hf0 (fun u_12 H locs h hP hD hS => ?_)
          have hP : va_P D vwCl (wD qd qmemory qr qcounts cI cB ms u_12.1 u_12.2.1 u_12.2.2.1 u_12.2.2.2.1 u_12.2.2.2.2.1 u_12.2.2.2.2.2) H := hP.sub [0, 1, 2, 3] rfl
          have hD : va_D A (wD qd qmemory qr qcounts cI cB ms u_12.1 u_12.2.1 u_12.2.2.1 u_12.2.2.2.1 u_12.2.2.2.2.1 u_12.2.2.2.2.2) := hD.sub [0, 1, 2, 3] (by decide) rfl
          exact W.vret hx hb hr (fun t ht hW => ⟨⟨(u_12.1, u_12.2.1, u_12.2.2.1, u_12.2.2.2.1, u_12.2.2.2.2.1, u_12.2.2.2.2.2), rfl, h, by rw [ht]; exact hP, hD⟩, hS.F ht⟩) hS.2.2 d_Md_products_113
        · exact absurd c_7 c_4
      · skip
        have h := h.1 c_4
        refine lv_aload_n hx hb d_Md_products_50 rfl (lv_at hl 0 rfl) ?_
        refine zz_Ri (As := []) (rest := []) (wc := wD qd qmemory qr qcounts cI cB ms dd Lwhole Lwhole2 bm rr kt) X hK hP (c_Md_rs l D cI cB qd qmemory qr qcounts ms dd Lwhole Lwhole2 bm rr kt _ h) ⟨rfl, rfl⟩ m_Md_rs k_Md_132 ⟨Nat.le_of_ble_eq_true rfl, Nat.le_of_ble_eq_true rfl⟩ [0, 1, 2, 3] rfl 6 0 rfl rfl rfl rfl hl.1 rfl (Nat.le_of_ble_eq_true rfl) d_Md_products_51 hf0 (fun r_14 h => ?_)
        refine lv_i2l (v := r_14.toInt64) hx hb d_Md_products_54 rfl ?_
        refine lv_goto (tgt := 67) hx hb d_Md_products_55 (by decide) ?_
        refine lv_lstore_n (lv' := [(2, .long r_14.toInt64), (0, .ref qd), (1, .int a0)]) hx hb d_Md_products_67 rfl hl (by decide) rfl (fun ls hl => ?_)
        refine lv_iload_n hx hb d_Md_products_68 rfl (lv_at hl 2 rfl) ?_
        refine lv_bipush (v := 26) hx hb d_Md_products_69 (by decide) ?_
        refine lv_icmp_ne (tgt := 82) hx hb d_Md_products_71 (by decide) (fun c_15 => ?_) (fun c_15 => ?_)
        · exact absurd c_4 c_15
        · skip
          refine lv_aload_n hx hb d_Md_products_74 rfl (lv_at hl 1 rfl) ?_
          refine zz_Ri (As := []) (rest := []) (wc := wD qd qmemory qr qcounts cI cB ms dd Lwhole Lwhole2 bm rr kt) X hK hP (c_Md_rt l D cI cB qd qmemory qr qcounts ms dd Lwhole Lwhole2 bm rr kt _ h) ⟨rfl, rfl⟩ m_Md_rt k_Md_135 ⟨Nat.le_of_ble_eq_true rfl, Nat.le_of_ble_eq_true rfl⟩ [0, 1, 2, 3] rfl 6 0 rfl rfl rfl rfl hl.1 rfl (Nat.le_of_ble_eq_true rfl) d_Md_products_75 hf0 (fun r_16 h => ?_)
          refine lv_i2l (v := r_16.toInt64) hx hb d_Md_products_78 rfl ?_
          refine lv_goto (tgt := 91) hx hb d_Md_products_79 (by decide) ?_
          refine lv_lstore (lv' := [(4, .long r_16.toInt64), (2, .long r_14.toInt64), (0, .ref qd), (1, .int a0)]) hx hb d_Md_products_91 hl (by decide) rfl (fun ls hl => ?_)
          refine lv_aload_n hx hb d_Md_products_93 rfl (lv_at hl 2 rfl) ?_
          refine lv_lload_n hx hb d_Md_products_94 rfl (lv_at hl 1 rfl) ?_
          refine lv_lload hx hb d_Md_products_95 (lv_at hl 0 rfl) ?_
          refine lv_lrem hx hb d_Md_products_97 h.1 ?_
          have h := h.2
          refine lv_topl (fun x_17 ex_17 => ?_)
          have h := h x_17 ex_17
          refine lv_bipush (v := 32) hx hb d_Md_products_98 (by decide) ?_
          refine zz_llshl hx hb d_Md_products_100 ?_
          refine lv_lload_n hx hb d_Md_products_101 rfl (lv_at hl 1 rfl) ?_
          refine lv_lload hx hb d_Md_products_102 (lv_at hl 0 rfl) ?_
          refine lv_ldiv hx hb d_Md_products_104 h.1 ?_
          have h := h.2
          refine lv_topl (fun x_18 ex_18 => ?_)
          have h := h x_18 ex_18
          refine lv_ldc2 (v := 4294967295) hx hb hown (hT _ n_Md_163) d_Md_products_105 ?_
          refine lv_land hx hb d_Md_products_108 ?_
          refine lv_topl (fun x_19 ex_19 => ?_)
          have h := h x_19 ex_19
          refine lv_lor hx hb d_Md_products_109 ?_
          refine lv_topl (fun x_20 ex_20 => ?_)
          have h := h x_20 ex_20
          refine zz_Wv (As := [.long x_20]) (rest := []) (wc := wD qd qmemory qr qcounts cI cB ms dd Lwhole Lwhole2 bm rr kt) (wr := []) X hK hP hD hS hA (c_Md_both l D cI cB qd qmemory qr qcounts ms dd Lwhole Lwhole2 bm rr kt x_20 _ h _) ⟨rfl, rfl⟩ m_Md_both k_Md_169 ⟨Nat.le_of_ble_eq_true rfl, Nat.le_of_ble_eq_true rfl⟩ [0, 1, 2, 3] [] rfl rfl (by decide) (by decide) (by decide) 6 0 rfl rfl rfl rfl hl.1 rfl (Nat.le_of_ble_eq_true rfl) d_Md_products_110 hf0 (fun u_21 H locs h hP hD hS => ?_)
          have hP : va_P D vwCl (wD qd qmemory qr qcounts cI cB ms u_21.1 u_21.2.1 u_21.2.2.1 u_21.2.2.2.1 u_21.2.2.2.2.1 u_21.2.2.2.2.2) H := hP.sub [0, 1, 2, 3] rfl
          have hD : va_D A (wD qd qmemory qr qcounts cI cB ms u_21.1 u_21.2.1 u_21.2.2.1 u_21.2.2.2.1 u_21.2.2.2.2.1 u_21.2.2.2.2.2) := hD.sub [0, 1, 2, 3] (by decide) rfl
          exact W.vret hx hb hr (fun t ht hW => ⟨⟨(u_21.1, u_21.2.1, u_21.2.2.1, u_21.2.2.2.1, u_21.2.2.2.2.1, u_21.2.2.2.2.2), rfl, h, by rw [ht]; exact hP, hD⟩, hS.F ht⟩) hS.2.2 d_Md_products_113
    · skip
      have h := h.1 c_3
      refine lv_aload_n hx hb d_Md_products_33 rfl (lv_at hl 0 rfl) ?_
      refine lv_iconst (v := 0) hx hb d_Md_products_34 (by decide) ?_
      refine p_Md_18 hx hb hT hown hK hP hD hS 0 rfl rfl (Or.inl rfl) d_Md_products_35 (fun H locs (hP : va_P D vwCl (wD qd qmemory qr qcounts cI cB ms (upd dd 1 (0 : Int32)) Lwhole Lwhole2 bm rr kt) H) (hD : va_D A (wD qd qmemory qr qcounts cI cB ms (upd dd 1 (0 : Int32)) Lwhole Lwhole2 bm rr kt)) hS => ?_)
      refine lv_aload_n hx hb d_Md_products_38 rfl (lv_at hl 0 rfl) ?_
      refine lv_iconst (v := 0) hx hb d_Md_products_39 (by decide) ?_
      refine p_Md_22 hx hb hT hown hK hP hD hS 0 rfl rfl (Or.inl rfl) d_Md_products_40 (fun H locs (hP : va_P D vwCl (wD qd qmemory qr qcounts cI cB ms (upd (upd dd 1 (0 : Int32)) 2 (0 : Int32)) Lwhole Lwhole2 bm rr kt) H) (hD : va_D A (wD qd qmemory qr qcounts cI cB ms (upd (upd dd 1 (0 : Int32)) 2 (0 : Int32)) Lwhole Lwhole2 bm rr kt)) hS => ?_)
      exact W.vret hx hb hr (fun t ht hW => ⟨⟨((upd (upd dd 1 (0 : Int32)) 2 (0 : Int32)), Lwhole, Lwhole2, bm, rr, kt), rfl, h, by rw [ht]; exact hP, hD⟩, hS.F ht⟩) hS.2.2 d_Md_products_43
  · skip
    have h := h.2 c_1
    refine lv_aload_n hx hb d_Md_products_6 rfl (lv_at hl 0 rfl) ?_
    refine lv_aload_n hx hb d_Md_products_7 rfl (lv_at hl 0 rfl) ?_
    refine lv_iload_n hx hb d_Md_products_8 rfl (lv_at hl 1 rfl) ?_
    refine lv_bipush (v := 24) hx hb d_Md_products_9 (by decide) ?_
    refine lv_icmp_ne (tgt := 18) hx hb d_Md_products_11 (by decide) (fun c_23 => ?_) (fun c_23 => ?_)
    · skip
      have h := h.2 c_23
      refine lv_iconst (v := 0) hx hb d_Md_products_18 (by decide) ?_
      refine zz_Rl (As := [.int (0 : Int32)]) (rest := [.ref qd]) (wc := wD qd qmemory qr qcounts cI cB ms dd Lwhole Lwhole2 bm rr kt) X hK hP (c_Md_product l D cI cB qd qmemory qr qcounts ms dd Lwhole Lwhole2 bm rr kt (0 : Int32) _ h) ⟨rfl, rfl⟩ m_Md_product k_Md_165 ⟨Nat.le_of_ble_eq_true rfl, Nat.le_of_ble_eq_true rfl⟩ [0, 1, 2, 3] rfl 6 0 rfl rfl rfl rfl hl.1 rfl (Nat.le_of_ble_eq_true rfl) d_Md_products_19 hf0 (fun r_24 h => ?_)
      refine zz_Wv (As := [.long r_24]) (rest := []) (wc := wD qd qmemory qr qcounts cI cB ms dd Lwhole Lwhole2 bm rr kt) (wr := []) X hK hP hD hS hA (c_Md_both l D cI cB qd qmemory qr qcounts ms dd Lwhole Lwhole2 bm rr kt r_24 _ h _) ⟨rfl, rfl⟩ m_Md_both k_Md_169 ⟨Nat.le_of_ble_eq_true rfl, Nat.le_of_ble_eq_true rfl⟩ [0, 1, 2, 3] [] rfl rfl (by decide) (by decide) (by decide) 6 0 rfl rfl rfl rfl hl.1 rfl (Nat.le_of_ble_eq_true rfl) d_Md_products_22 hf0 (fun u_25 H locs h hP hD hS => ?_)
      have hP : va_P D vwCl (wD qd qmemory qr qcounts cI cB ms u_25.1 u_25.2.1 u_25.2.2.1 u_25.2.2.2.1 u_25.2.2.2.2.1 u_25.2.2.2.2.2) H := hP.sub [0, 1, 2, 3] rfl
      have hD : va_D A (wD qd qmemory qr qcounts cI cB ms u_25.1 u_25.2.1 u_25.2.2.1 u_25.2.2.2.1 u_25.2.2.2.2.1 u_25.2.2.2.2.2) := hD.sub [0, 1, 2, 3] (by decide) rfl
      exact W.vret hx hb hr (fun t ht hW => ⟨⟨(u_25.1, u_25.2.1, u_25.2.2.1, u_25.2.2.2.1, u_25.2.2.2.2.1, u_25.2.2.2.2.2), rfl, h, by rw [ht]; exact hP, hD⟩, hS.F ht⟩) hS.2.2 d_Md_products_25
    · skip
      have h := h.1 c_23
      refine lv_iconst (v := 1) hx hb d_Md_products_14 (by decide) ?_
      refine lv_goto (tgt := 19) hx hb d_Md_products_15 (by decide) ?_
      refine zz_Rl (As := [.int (1 : Int32)]) (rest := [.ref qd]) (wc := wD qd qmemory qr qcounts cI cB ms dd Lwhole Lwhole2 bm rr kt) X hK hP (c_Md_product l D cI cB qd qmemory qr qcounts ms dd Lwhole Lwhole2 bm rr kt (1 : Int32) _ h) ⟨rfl, rfl⟩ m_Md_product k_Md_165 ⟨Nat.le_of_ble_eq_true rfl, Nat.le_of_ble_eq_true rfl⟩ [0, 1, 2, 3] rfl 6 0 rfl rfl rfl rfl hl.1 rfl (Nat.le_of_ble_eq_true rfl) d_Md_products_19 hf0 (fun r_27 h => ?_)
      refine zz_Wv (As := [.long r_27]) (rest := []) (wc := wD qd qmemory qr qcounts cI cB ms dd Lwhole Lwhole2 bm rr kt) (wr := []) X hK hP hD hS hA (c_Md_both l D cI cB qd qmemory qr qcounts ms dd Lwhole Lwhole2 bm rr kt r_27 _ h _) ⟨rfl, rfl⟩ m_Md_both k_Md_169 ⟨Nat.le_of_ble_eq_true rfl, Nat.le_of_ble_eq_true rfl⟩ [0, 1, 2, 3] [] rfl rfl (by decide) (by decide) (by decide) 6 0 rfl rfl rfl rfl hl.1 rfl (Nat.le_of_ble_eq_true rfl) d_Md_products_22 hf0 (fun u_28 H locs h hP hD hS => ?_)
      have hP : va_P D vwCl (wD qd qmemory qr qcounts cI cB ms u_28.1 u_28.2.1 u_28.2.2.1 u_28.2.2.2.1 u_28.2.2.2.2.1 u_28.2.2.2.2.2) H := hP.sub [0, 1, 2, 3] rfl
      have hD : va_D A (wD qd qmemory qr qcounts cI cB ms u_28.1 u_28.2.1 u_28.2.2.1 u_28.2.2.2.1 u_28.2.2.2.2.1 u_28.2.2.2.2.2) := hD.sub [0, 1, 2, 3] (by decide) rfl
      exact W.vret hx hb hr (fun t ht hW => ⟨⟨(u_28.1, u_28.2.1, u_28.2.2.1, u_28.2.2.2.1, u_28.2.2.2.2.1, u_28.2.2.2.2.2), rfl, h, by rw [ht]; exact hP, hD⟩, hS.F ht⟩) hS.2.2 d_Md_products_25
def wj_Md_sum_IJZV_18 (ms : Int32) (a0 : Int32) (a1 : Int64) (a2 : Int32) (P : ((Nat → Int32) × Int64 × Int64 × (Nat → Int32) × (Nat → Int32) × (Nat → Int32)) → Prop) (z18dd : Nat → Int32) (z18Lwhole : Int64) (z18Lwhole2 : Int64) (z18bm : Nat → Int32) (z18rr : Nat → Int32) (z18kt : Nat → Int32) : Prop := wp_Md_into ms z18dd z18Lwhole z18Lwhole2 z18bm z18rr z18kt a0 a1.toInt32 (fun u_1 => P (u_1.1, u_1.2.1, u_1.2.2.1, u_1.2.2.2.1, u_1.2.2.2.2.1, u_1.2.2.2.2.2))
def wp_Md_sum_IJZV (ms : Int32) (dd : Nat → Int32) (Lwhole : Int64) (Lwhole2 : Int64) (bm : Nat → Int32) (rr : Nat → Int32) (kt : Nat → Int32) (a0 : Int32) (a1 : Int64) (a2 : Int32) (P : ((Nat → Int32) × Int64 × Int64 × (Nat → Int32) × (Nat → Int32) × (Nat → Int32)) → Prop) : Prop := ((a2 = (0 : Int32) → wj_Md_sum_IJZV_18 ms a0 a1 a2 P dd Lwhole Lwhole2 bm rr kt) ∧ (¬ a2 = (0 : Int32) → ((a1 = a1.toInt32.toInt64 → wj_Md_sum_IJZV_18 ms a0 a1 a2 P dd Lwhole Lwhole2 bm rr kt) ∧ (¬ a1 = a1.toInt32.toInt64 → wp_Md_ends ms dd Lwhole Lwhole2 bm rr kt (4 : Int32) (fun u_5 => wj_Md_sum_IJZV_18 ms a0 a1 a2 P u_5.1 u_5.2.1 u_5.2.2.1 u_5.2.2.2.1 u_5.2.2.2.2.1 u_5.2.2.2.2.2)))))
abbrev rm_Md_sum_IJZV : Room := { frames := 1, cells := 0, slots := 0, locals := 22 }
set_option maxHeartbeats 4000000 in
set_option maxRecDepth 100000 in
theorem c_Md_sum_IJZV (l : Launch) (D : va_G) (cI : ClassId) (cB : ClassId) (qd : Nat) (qmemory : Nat) (qr : Nat) (qcounts : Nat) (ms : Int32) (dd : Nat → Int32) (Lwhole : Int64) (Lwhole2 : Int64) (bm : Nat → Int32) (rr : Nat → Int32) (kt : Nat → Int32) (a0 : Int32) (a1 : Int64) (a2 : Int32) (P : ((Nat → Int32) × Int64 × Int64 × (Nat → Int32) × (Nat → Int32) × (Nat → Int32)) → Prop) (h : wp_Md_sum_IJZV ms dd Lwhole Lwhole2 bm rr kt a0 a1 a2 P) (sz : Nat) : Met l y_Md_sum_IJZV (zz_ws y_Md_sum_IJZV b_Md_sum_IJZV 5 none) rm_Md_sum_IJZV (va_Pc [.ref qd, .int a0, .long a1, .int a2] (zz_pw D [(cI, .int), (cB, .byte)] (wD qd qmemory qr qcounts cI cB ms dd Lwhole Lwhole2 bm rr kt) sz)) (va_Qv P (zz_qw D (fun u => wD qd qmemory qr qcounts cI cB ms u.1 u.2.1 u.2.2.1 u.2.2.2.1 u.2.2.2.2.1 u.2.2.2.2.2) (va_A (wD qd qmemory qr qcounts cI cB ms dd Lwhole Lwhole2 bm rr kt) sz)) (va_A (wD qd qmemory qr qcounts cI cB ms dd Lwhole Lwhole2 bm rr kt) sz)) 0 0 (va_A (wD qd qmemory qr qcounts cI cB ms dd Lwhole Lwhole2 bm rr kt) sz) := by
  refine Met.ofW (cc := b_Md_sum_IJZV) (maxL := 5) (ret := none) (by decide) rfl ?_
  intro p e s m args below meth c s₁ B hml hv
  obtain ⟨rfl, hsz, hP, hK, hD0⟩ := hv
  have hx := B.exec
  have hb := B.bytes
  have hr := B.returns
  have hts := atoms_spec (ws := (zz_ws y_Md_sum_IJZV b_Md_sum_IJZV 5 none)) B.pre
  have hown : s.vm.findClass R_Md = some m.cls := findClass_of_methodNamed B.named
  have hlocks := B.notSynchronized
  have hT := zz_hts hts
  have X : CallFix p m c b_Md_sum_IJZV 5 s ([.ref qd, .int a0, .long a1, .int a2] : List Value).toArray (zz_ws y_Md_sum_IJZV b_Md_sum_IJZV 5 none) R_Md := ⟨hx, hb, hml, hown, hts⟩
  have hf0 : 0 + 0 ≤ (headSpec (zz_ws y_Md_sum_IJZV b_Md_sum_IJZV 5 none) rm_Md_sum_IJZV).room.cells ∧ 0 + 0 ≤ (headSpec (zz_ws y_Md_sum_IJZV b_Md_sum_IJZV 5 none) rm_Md_sum_IJZV).room.slots := ⟨Nat.le_of_ble_eq_true rfl, Nat.le_of_ble_eq_true rfl⟩
  subst hsz
  have hD := hD0.self (sz := s.heap.size)
  generalize hAe : va_A (wD qd qmemory qr qcounts cI cB ms dd Lwhole Lwhole2 bm rr kt) s.heap.size = A at hD ⊢
  have hA : ∀ q : Nat, s.heap.size ≤ q → A q := fun q h => by rw [← hAe]; exact Or.inr h
  have hS : va_S A s.heap s.heap [] := va_S.rf
  have hl := lv_entry ([.ref qd, .int a0, .long a1, .int a2]) (n := 5) (Nat.le_of_ble_eq_true rfl)
  rw [lg_entry_eq]
  generalize (lg_sl ([.ref qd, .int a0, .long a1, .int a2]) ++ List.replicate (5 - (lg_sl ([.ref qd, .int a0, .long a1, .int a2])).length) Slot.unset).toArray = ls at hl ⊢
  have hl : lv_has ls 5 [(0, .ref qd), (1, .int a0), (2, .long a1), (4, .int a2)] := hl
  have jn_18 : ∀ (z18dd : Nat → Int32) (z18Lwhole : Int64) (z18Lwhole2 : Int64) (z18bm : Nat → Int32) (z18rr : Nat → Int32) (z18kt : Nat → Int32), wj_Md_sum_IJZV_18 ms a0 a1 a2 P z18dd z18Lwhole z18Lwhole2 z18bm z18rr z18kt → ∀ (H : Heap) (locs : List Loc), va_P D vwCl (wD qd qmemory qr qcounts cI cB ms z18dd z18Lwhole z18Lwhole2 z18bm z18rr z18kt) H → va_D A (wD qd qmemory qr qcounts cI cB ms z18dd z18Lwhole z18Lwhole2 z18bm z18rr z18kt) → va_S A s.heap H locs → ∀ ls : Array Slot, lv_has ls 5 [(0, .ref qd), (1, .int a0), (2, .long a1)] → W p l e (headSpec (zz_ws y_Md_sum_IJZV b_Md_sum_IJZV 5 none) rm_Md_sum_IJZV).room s m ([.ref qd, .int a0, .long a1, .int a2] : List Value).toArray below meth c H locs 0 0 (MQ below (va_Qv P (zz_qw D (fun u => wD qd qmemory qr qcounts cI cB ms u.1 u.2.1 u.2.2.1 u.2.2.2.1 u.2.2.2.2.1 u.2.2.2.2.2) A) A) ([.ref qd, .int a0, .long a1, .int a2] : List Value).toArray s 0 0 A) (F0 m 18 ls []) := by
    intro z18dd z18Lwhole z18Lwhole2 z18bm z18rr z18kt h H locs hP hD hS ls hl
    unfold wj_Md_sum_IJZV_18 at h
    refine lv_aload_n hx hb d_Md_sum_IJZV_18 rfl (lv_at hl 0 rfl) ?_
    refine lv_iload_n hx hb d_Md_sum_IJZV_19 rfl (lv_at hl 1 rfl) ?_
    refine lv_lload_n hx hb d_Md_sum_IJZV_20 rfl (lv_at hl 2 rfl) ?_
    refine lv_l2i (v := a1.toInt32) hx hb d_Md_sum_IJZV_21 rfl ?_
    refine zz_Wv (As := [.int a0, .int a1.toInt32]) (rest := []) (wc := wD qd qmemory qr qcounts cI cB ms z18dd z18Lwhole z18Lwhole2 z18bm z18rr z18kt) (wr := []) X hK hP hD hS hA (c_Md_into l D cI cB qd qmemory qr qcounts ms z18dd z18Lwhole z18Lwhole2 z18bm z18rr z18kt a0 a1.toInt32 _ h _) ⟨rfl, rfl⟩ m_Md_into k_Md_128 ⟨Nat.le_of_ble_eq_true rfl, Nat.le_of_ble_eq_true rfl⟩ [0, 1, 2, 3] [] rfl rfl (by decide) (by decide) (by decide) 6 0 rfl rfl rfl rfl hl.1 rfl (Nat.le_of_ble_eq_true rfl) d_Md_sum_IJZV_22 hf0 (fun u_1 H locs h hP hD hS => ?_)
    have hP : va_P D vwCl (wD qd qmemory qr qcounts cI cB ms u_1.1 u_1.2.1 u_1.2.2.1 u_1.2.2.2.1 u_1.2.2.2.2.1 u_1.2.2.2.2.2) H := hP.sub [0, 1, 2, 3] rfl
    have hD : va_D A (wD qd qmemory qr qcounts cI cB ms u_1.1 u_1.2.1 u_1.2.2.1 u_1.2.2.2.1 u_1.2.2.2.2.1 u_1.2.2.2.2.2) := hD.sub [0, 1, 2, 3] (by decide) rfl
    exact W.vret hx hb hr (fun t ht hW => ⟨⟨(u_1.1, u_1.2.1, u_1.2.2.1, u_1.2.2.2.1, u_1.2.2.2.2.1, u_1.2.2.2.2.2), rfl, h, by rw [ht]; exact hP, hD⟩, hS.F ht⟩) hS.2.2 d_Md_sum_IJZV_25
  refine lv_iload hx hb d_Md_sum_IJZV_0 (lv_at hl 3 rfl) ?_
  refine lv_if_eq (tgt := 18) hx hb d_Md_sum_IJZV_2 (by decide) (fun c_3 => ?_) (fun c_3 => ?_)
  · skip
    have h := h.1 c_3
    exact jn_18 dd Lwhole Lwhole2 bm rr kt h _ _ hP hD hS ls (lv_sub hl [0, 1, 2] rfl)
  · skip
    have h := h.2 c_3
    refine lv_lload_n hx hb d_Md_sum_IJZV_5 rfl (lv_at hl 2 rfl) ?_
    refine lv_lload_n hx hb d_Md_sum_IJZV_6 rfl (lv_at hl 2 rfl) ?_
    refine lv_l2i (v := a1.toInt32) hx hb d_Md_sum_IJZV_7 rfl ?_
    refine lv_i2l (v := a1.toInt32.toInt64) hx hb d_Md_sum_IJZV_8 rfl ?_
    refine W.lcmp hx hb d_Md_sum_IJZV_9 ?_
    refine lv_if_eq (tgt := 18) hx hb d_Md_sum_IJZV_10 (by decide) (fun c_4 => ?_) (fun c_4 => ?_)
    · have kc_4 := ((lg_cmp_eq _ _).mp c_4)
      have h := h.1 kc_4
      exact jn_18 dd Lwhole Lwhole2 bm rr kt h _ _ hP hD hS ls (lv_sub hl [0, 1, 2] rfl)
    · have kc_4 := (fun q => c_4 ((lg_cmp_eq _ _).mpr q))
      have h := h.2 kc_4
      refine lv_aload_n hx hb d_Md_sum_IJZV_13 rfl (lv_at hl 0 rfl) ?_
      refine lv_iconst (v := 4) hx hb d_Md_sum_IJZV_14 (by decide) ?_
      refine zz_Wv (As := [.int (4 : Int32)]) (rest := []) (wc := wD qd qmemory qr qcounts cI cB ms dd Lwhole Lwhole2 bm rr kt) (wr := []) X hK hP hD hS hA (c_Md_ends l D cI cB qd qmemory qr qcounts ms dd Lwhole Lwhole2 bm rr kt (4 : Int32) _ h _) ⟨rfl, rfl⟩ m_Md_ends k_Md_116 ⟨Nat.le_of_ble_eq_true rfl, Nat.le_of_ble_eq_true rfl⟩ [0, 1, 2, 3] [] rfl rfl (by decide) (by decide) (by decide) 6 0 rfl rfl rfl rfl hl.1 rfl (Nat.le_of_ble_eq_true rfl) d_Md_sum_IJZV_15 hf0 (fun u_5 H locs h hP hD hS => ?_)
      have hP : va_P D vwCl (wD qd qmemory qr qcounts cI cB ms u_5.1 u_5.2.1 u_5.2.2.1 u_5.2.2.2.1 u_5.2.2.2.2.1 u_5.2.2.2.2.2) H := hP.sub [0, 1, 2, 3] rfl
      have hD : va_D A (wD qd qmemory qr qcounts cI cB ms u_5.1 u_5.2.1 u_5.2.2.1 u_5.2.2.2.1 u_5.2.2.2.2.1 u_5.2.2.2.2.2) := hD.sub [0, 1, 2, 3] (by decide) rfl
      exact jn_18 u_5.1 u_5.2.1 u_5.2.2.1 u_5.2.2.2.1 u_5.2.2.2.2.1 u_5.2.2.2.2.2 h _ _ hP hD hS ls (lv_sub hl [0, 1, 2] rfl)
def wp_Md_below (a0 : Int32) (a1 : Int32) (P : Int32 → Prop) : Prop := (((a1 + (-2147483648 : Int32)) ≤ (a0 + (-2147483648 : Int32)) → P (0 : Int32)) ∧ (¬ (a1 + (-2147483648 : Int32)) ≤ (a0 + (-2147483648 : Int32)) → P (1 : Int32)))
abbrev rm_Md_below : Room := { frames := 0, cells := 0, slots := 0, locals := 0 }
set_option maxHeartbeats 4000000 in
set_option maxRecDepth 100000 in
theorem c_Md_below (l : Launch) (a0 : Int32) (a1 : Int32) (P : Int32 → Prop) (h : wp_Md_below a0 a1 P) : Met l y_Md_below (zz_ws y_Md_below b_Md_below 2 (some .boolean)) rm_Md_below (fun v _ => v = ([.int a0, .int a1] : List Value).toArray) (vp_Si P) 0 0 (fun _ => False) := by
  refine Met.ofW (cc := b_Md_below) (maxL := 2) (ret := (some .boolean)) (by decide) rfl ?_
  intro p e s m args below meth c s₁ B hml hv
  subst hv
  have hx := B.exec
  have hb := B.bytes
  have hr := B.returns
  have hts := atoms_spec (ws := (zz_ws y_Md_below b_Md_below 2 (some .boolean))) B.pre
  have hown : s.vm.findClass R_Md = some m.cls := findClass_of_methodNamed B.named
  have hlocks := B.notSynchronized
  have hT := zz_hts hts
  have X : CallFix p m c b_Md_below 2 s ([.int a0, .int a1] : List Value).toArray (zz_ws y_Md_below b_Md_below 2 (some .boolean)) R_Md := ⟨hx, hb, hml, hown, hts⟩
  have hf0 : 0 + 0 ≤ (headSpec (zz_ws y_Md_below b_Md_below 2 (some .boolean)) rm_Md_below).room.cells ∧ 0 + 0 ≤ (headSpec (zz_ws y_Md_below b_Md_below 2 (some .boolean)) rm_Md_below).room.slots := ⟨Nat.le_of_ble_eq_true rfl, Nat.le_of_ble_eq_true rfl⟩
  have hl := lv_entry ([.int a0, .int a1]) (n := 2) (Nat.le_of_ble_eq_true rfl)
  rw [lg_entry_eq]
  generalize (lg_sl ([.int a0, .int a1]) ++ List.replicate (2 - (lg_sl ([.int a0, .int a1])).length) Slot.unset).toArray = ls at hl ⊢
  have hl : lv_has ls 2 [(0, .int a0), (1, .int a1)] := hl
  refine lv_iload_n hx hb d_Md_below_0 rfl (lv_at hl 0 rfl) ?_
  refine lv_ldc (v := -2147483648) hx hb hown (hT _ n_Md_144) d_Md_below_1 ?_
  refine lv_iadd hx hb d_Md_below_3 ?_
  refine lv_iload_n hx hb d_Md_below_4 rfl (lv_at hl 1 rfl) ?_
  refine lv_ldc (v := -2147483648) hx hb hown (hT _ n_Md_144) d_Md_below_5 ?_
  refine lv_iadd hx hb d_Md_below_7 ?_
  refine lv_icmp_ge (tgt := 15) hx hb d_Md_below_8 (by decide) (fun c_1 => ?_) (fun c_1 => ?_)
  · skip
    have h := h.1 c_1
    refine lv_iconst (v := 0) hx hb d_Md_below_15 (by decide) ?_
    exact W.zret (v := (0 : Int32)) hx hb hr (zz_bz_n (Or.inl rfl)) (fun t ht hW => ⟨(0 : Int32),  rfl, h, ht⟩) t_nil d_Md_below_16
  · skip
    have h := h.2 c_1
    refine lv_iconst (v := 1) hx hb d_Md_below_11 (by decide) ?_
    refine lv_goto (tgt := 16) hx hb d_Md_below_12 (by decide) ?_
    exact W.zret (v := (1 : Int32)) hx hb hr (zz_bz_n (Or.inr rfl)) (fun t ht hW => ⟨(1 : Int32),  rfl, h, ht⟩) t_nil d_Md_below_16
def wp_Md_alu (ms : Int32) (dd : Nat → Int32) (Lwhole : Int64) (Lwhole2 : Int64) (bm : Nat → Int32) (rr : Nat → Int32) (kt : Nat → Int32) (a0 : Int32) (P : ((Nat → Int32) × Int64 × Int64 × (Nat → Int32) × (Nat → Int32) × (Nat → Int32)) → Prop) : Prop := wp_Md_rs ms dd Lwhole Lwhole2 bm rr kt (fun r_1 => wp_Md_rt ms dd Lwhole Lwhole2 bm rr kt (fun r_2 => wp_Md_field ms dd Lwhole Lwhole2 bm rr kt (11 : Int32) (fun r_3 => (((a0 = (32 : Int32) ∨ a0 = (33 : Int32)) → ((a0 = (32 : Int32) → wp_Md_sum_IJZV ms dd Lwhole Lwhole2 bm rr kt r_3 (r_1.toInt64 + r_2.toInt64) (1 : Int32) (fun u_8 => P (u_8.1, u_8.2.1, u_8.2.2.1, u_8.2.2.2.1, u_8.2.2.2.2.1, u_8.2.2.2.2.2))) ∧ (¬ a0 = (32 : Int32) → wp_Md_sum_IJZV ms dd Lwhole Lwhole2 bm rr kt r_3 (r_1.toInt64 + r_2.toInt64) (0 : Int32) (fun u_6 => P (u_6.1, u_6.2.1, u_6.2.2.1, u_6.2.2.2.1, u_6.2.2.2.2.1, u_6.2.2.2.2.2))))) ∧ (¬ (a0 = (32 : Int32) ∨ a0 = (33 : Int32)) → (((a0 = (34 : Int32) ∨ a0 = (35 : Int32)) → ((a0 = (34 : Int32) → wp_Md_sum_IJZV ms dd Lwhole Lwhole2 bm rr kt r_3 (r_1.toInt64 - r_2.toInt64) (1 : Int32) (fun u_14 => P (u_14.1, u_14.2.1, u_14.2.2.1, u_14.2.2.2.1, u_14.2.2.2.2.1, u_14.2.2.2.2.2))) ∧ (¬ a0 = (34 : Int32) → wp_Md_sum_IJZV ms dd Lwhole Lwhole2 bm rr kt r_3 (r_1.toInt64 - r_2.toInt64) (0 : Int32) (fun u_12 => P (u_12.1, u_12.2.1, u_12.2.2.1, u_12.2.2.2.1, u_12.2.2.2.2.1, u_12.2.2.2.2.2))))) ∧ (¬ (a0 = (34 : Int32) ∨ a0 = (35 : Int32)) → (((a0 = (36 : Int32)) → wp_Md_into ms dd Lwhole Lwhole2 bm rr kt r_3 (r_1 &&& r_2) (fun u_17 => P (u_17.1, u_17.2.1, u_17.2.2.1, u_17.2.2.2.1, u_17.2.2.2.2.1, u_17.2.2.2.2.2))) ∧ (¬ (a0 = (36 : Int32)) → (((a0 = (37 : Int32)) → wp_Md_into ms dd Lwhole Lwhole2 bm rr kt r_3 (r_1 ||| r_2) (fun u_20 => P (u_20.1, u_20.2.1, u_20.2.2.1, u_20.2.2.2.1, u_20.2.2.2.2.1, u_20.2.2.2.2.2))) ∧ (¬ (a0 = (37 : Int32)) → (((a0 = (38 : Int32)) → wp_Md_into ms dd Lwhole Lwhole2 bm rr kt r_3 (r_1 ^^^ r_2) (fun u_23 => P (u_23.1, u_23.2.1, u_23.2.2.1, u_23.2.2.2.1, u_23.2.2.2.2.1, u_23.2.2.2.2.2))) ∧ (¬ (a0 = (38 : Int32)) → (((a0 = (39 : Int32)) → ∀ x_26 : Int32, x_26 = ((r_1 ||| r_2) ^^^ (-1 : Int32)) → wp_Md_into ms dd Lwhole Lwhole2 bm rr kt r_3 x_26 (fun u_27 => P (u_27.1, u_27.2.1, u_27.2.2.1, u_27.2.2.2.1, u_27.2.2.2.2.1, u_27.2.2.2.2.2))) ∧ (¬ (a0 = (39 : Int32)) → (((a0 = (42 : Int32)) → ((r_2 ≤ r_1 → wp_Md_into ms dd Lwhole Lwhole2 bm rr kt r_3 (0 : Int32) (fun u_31 => P (u_31.1, u_31.2.1, u_31.2.2.1, u_31.2.2.2.1, u_31.2.2.2.2.1, u_31.2.2.2.2.2))) ∧ (¬ r_2 ≤ r_1 → wp_Md_into ms dd Lwhole Lwhole2 bm rr kt r_3 (1 : Int32) (fun u_33 => P (u_33.1, u_33.2.1, u_33.2.2.1, u_33.2.2.2.1, u_33.2.2.2.2.1, u_33.2.2.2.2.2))))) ∧ (¬ (a0 = (42 : Int32)) → wp_Md_below r_1 r_2 (fun r_35 => ((r_35 = (0 : Int32) → wp_Md_into ms dd Lwhole Lwhole2 bm rr kt r_3 (0 : Int32) (fun u_37 => P (u_37.1, u_37.2.1, u_37.2.2.1, u_37.2.2.2.1, u_37.2.2.2.2.1, u_37.2.2.2.2.2))) ∧ (¬ r_35 = (0 : Int32) → wp_Md_into ms dd Lwhole Lwhole2 bm rr kt r_3 (1 : Int32) (fun u_39 => P (u_39.1, u_39.2.1, u_39.2.2.1, u_39.2.2.2.1, u_39.2.2.2.2.1, u_39.2.2.2.2.2))))))))))))))))))))))
abbrev rm_Md_alu : Room := { frames := 2, cells := 0, slots := 0, locals := 46 }
set_option maxHeartbeats 4000000 in
set_option maxRecDepth 100000 in
theorem c_Md_alu (l : Launch) (D : va_G) (cI : ClassId) (cB : ClassId) (qd : Nat) (qmemory : Nat) (qr : Nat) (qcounts : Nat) (ms : Int32) (dd : Nat → Int32) (Lwhole : Int64) (Lwhole2 : Int64) (bm : Nat → Int32) (rr : Nat → Int32) (kt : Nat → Int32) (a0 : Int32) (P : ((Nat → Int32) × Int64 × Int64 × (Nat → Int32) × (Nat → Int32) × (Nat → Int32)) → Prop) (h : wp_Md_alu ms dd Lwhole Lwhole2 bm rr kt a0 P) (sz : Nat) : Met l y_Md_alu (zz_ws y_Md_alu b_Md_alu 5 none) rm_Md_alu (va_Pc [.ref qd, .int a0] (zz_pw D [(cI, .int), (cB, .byte)] (wD qd qmemory qr qcounts cI cB ms dd Lwhole Lwhole2 bm rr kt) sz)) (va_Qv P (zz_qw D (fun u => wD qd qmemory qr qcounts cI cB ms u.1 u.2.1 u.2.2.1 u.2.2.2.1 u.2.2.2.2.1 u.2.2.2.2.2) (va_A (wD qd qmemory qr qcounts cI cB ms dd Lwhole Lwhole2 bm rr kt) sz)) (va_A (wD qd qmemory qr qcounts cI cB ms dd Lwhole Lwhole2 bm rr kt) sz)) 0 0 (va_A (wD qd qmemory qr qcounts cI cB ms dd Lwhole Lwhole2 bm rr kt) sz) := by
  refine Met.ofW (cc := b_Md_alu) (maxL := 5) (ret := none) (by decide) rfl ?_
  intro p e s m args below meth c s₁ B hml hv
  obtain ⟨rfl, hsz, hP, hK, hD0⟩ := hv
  have hx := B.exec
  have hb := B.bytes
  have hr := B.returns
  have hts := atoms_spec (ws := (zz_ws y_Md_alu b_Md_alu 5 none)) B.pre
  have hown : s.vm.findClass R_Md = some m.cls := findClass_of_methodNamed B.named
  have hlocks := B.notSynchronized
  have hT := zz_hts hts
  have X : CallFix p m c b_Md_alu 5 s ([.ref qd, .int a0] : List Value).toArray (zz_ws y_Md_alu b_Md_alu 5 none) R_Md := ⟨hx, hb, hml, hown, hts⟩
  have hf0 : 0 + 0 ≤ (headSpec (zz_ws y_Md_alu b_Md_alu 5 none) rm_Md_alu).room.cells ∧ 0 + 0 ≤ (headSpec (zz_ws y_Md_alu b_Md_alu 5 none) rm_Md_alu).room.slots := ⟨Nat.le_of_ble_eq_true rfl, Nat.le_of_ble_eq_true rfl⟩
  subst hsz
  have hD := hD0.self (sz := s.heap.size)
  generalize hAe : va_A (wD qd qmemory qr qcounts cI cB ms dd Lwhole Lwhole2 bm rr kt) s.heap.size = A at hD ⊢
  have hA : ∀ q : Nat, s.heap.size ≤ q → A q := fun q h => by rw [← hAe]; exact Or.inr h
  have hS : va_S A s.heap s.heap [] := va_S.rf
  have hl := lv_entry ([.ref qd, .int a0]) (n := 5) (Nat.le_of_ble_eq_true rfl)
  rw [lg_entry_eq]
  generalize (lg_sl ([.ref qd, .int a0]) ++ List.replicate (5 - (lg_sl ([.ref qd, .int a0])).length) Slot.unset).toArray = ls at hl ⊢
  have hl : lv_has ls 5 [(0, .ref qd), (1, .int a0)] := hl
  refine lv_aload_n hx hb d_Md_alu_0 rfl (lv_at hl 0 rfl) ?_
  refine zz_Ri (As := []) (rest := []) (wc := wD qd qmemory qr qcounts cI cB ms dd Lwhole Lwhole2 bm rr kt) X hK hP (c_Md_rs l D cI cB qd qmemory qr qcounts ms dd Lwhole Lwhole2 bm rr kt _ h) ⟨rfl, rfl⟩ m_Md_rs k_Md_132 ⟨Nat.le_of_ble_eq_true rfl, Nat.le_of_ble_eq_true rfl⟩ [0, 1, 2, 3] rfl 6 0 rfl rfl rfl rfl hl.1 rfl (Nat.le_of_ble_eq_true rfl) d_Md_alu_1 hf0 (fun r_1 h => ?_)
  refine lv_istore_n (lv' := [(2, .int r_1), (0, .ref qd), (1, .int a0)]) hx hb d_Md_alu_4 rfl hl (by decide) rfl (fun ls hl => ?_)
  refine lv_aload_n hx hb d_Md_alu_5 rfl (lv_at hl 1 rfl) ?_
  refine zz_Ri (As := []) (rest := []) (wc := wD qd qmemory qr qcounts cI cB ms dd Lwhole Lwhole2 bm rr kt) X hK hP (c_Md_rt l D cI cB qd qmemory qr qcounts ms dd Lwhole Lwhole2 bm rr kt _ h) ⟨rfl, rfl⟩ m_Md_rt k_Md_135 ⟨Nat.le_of_ble_eq_true rfl, Nat.le_of_ble_eq_true rfl⟩ [0, 1, 2, 3] rfl 6 0 rfl rfl rfl rfl hl.1 rfl (Nat.le_of_ble_eq_true rfl) d_Md_alu_6 hf0 (fun r_2 h => ?_)
  refine lv_istore_n (lv' := [(3, .int r_2), (2, .int r_1), (0, .ref qd), (1, .int a0)]) hx hb d_Md_alu_9 rfl hl (by decide) rfl (fun ls hl => ?_)
  refine lv_aload_n hx hb d_Md_alu_10 rfl (lv_at hl 2 rfl) ?_
  refine lv_bipush (v := 11) hx hb d_Md_alu_11 (by decide) ?_
  refine zz_Ri (As := [.int (11 : Int32)]) (rest := []) (wc := wD qd qmemory qr qcounts cI cB ms dd Lwhole Lwhole2 bm rr kt) X hK hP (c_Md_field l D cI cB qd qmemory qr qcounts ms dd Lwhole Lwhole2 bm rr kt (11 : Int32) _ h) ⟨rfl, rfl⟩ m_Md_field k_Md_85 ⟨Nat.le_of_ble_eq_true rfl, Nat.le_of_ble_eq_true rfl⟩ [0, 1, 2, 3] rfl 6 0 rfl rfl rfl rfl hl.1 rfl (Nat.le_of_ble_eq_true rfl) d_Md_alu_13 hf0 (fun r_3 h => ?_)
  refine lv_istore (lv' := [(4, .int r_3), (3, .int r_2), (2, .int r_1), (0, .ref qd), (1, .int a0)]) hx hb d_Md_alu_16 hl (by decide) rfl (fun ls hl => ?_)
  refine lv_iload_n hx hb d_Md_alu_18 rfl (lv_at hl 4 rfl) ?_
  by_cases c_4 : a0 = (32 : Int32) ∨ a0 = (33 : Int32)
  · have h := h.1 c_4
    have h0 := c_4
    refine lv_tableIn (off := 57) (tgt := 76) hx hb d_Md_alu_19 (by rcases h0 with h0 | h0 <;> (rw [h0]; decide)) (by rcases h0 with h0 | h0 <;> (rw [h0]; decide)) (by rcases h0 with h0 | h0 <;> (rw [h0]; rfl)) (by decide) ?_
    refine lv_aload_n hx hb d_Md_alu_76 rfl (lv_at hl 3 rfl) ?_
    refine lv_iload hx hb d_Md_alu_77 (lv_at hl 0 rfl) ?_
    refine lv_iload_n hx hb d_Md_alu_79 rfl (lv_at hl 2 rfl) ?_
    refine lv_i2l (v := r_1.toInt64) hx hb d_Md_alu_80 rfl ?_
    refine lv_iload_n hx hb d_Md_alu_81 rfl (lv_at hl 1 rfl) ?_
    refine lv_i2l (v := r_2.toInt64) hx hb d_Md_alu_82 rfl ?_
    refine lv_ladd hx hb d_Md_alu_83 ?_
    refine lv_iload_n hx hb d_Md_alu_84 rfl (lv_at hl 4 rfl) ?_
    refine lv_bipush (v := 32) hx hb d_Md_alu_85 (by decide) ?_
    refine lv_icmp_ne (tgt := 94) hx hb d_Md_alu_87 (by decide) (fun c_5 => ?_) (fun c_5 => ?_)
    · skip
      have h := h.2 c_5
      refine lv_iconst (v := 0) hx hb d_Md_alu_94 (by decide) ?_
      refine zz_Wv (As := [.int r_3, .long (r_1.toInt64 + r_2.toInt64), .int (0 : Int32)]) (rest := []) (wc := wD qd qmemory qr qcounts cI cB ms dd Lwhole Lwhole2 bm rr kt) (wr := []) X hK hP hD hS hA (c_Md_sum_IJZV l D cI cB qd qmemory qr qcounts ms dd Lwhole Lwhole2 bm rr kt r_3 (r_1.toInt64 + r_2.toInt64) (0 : Int32) _ h _) ⟨rfl, rfl⟩ m_Md_sum_IJZV k_Md_173 ⟨Nat.le_of_ble_eq_true rfl, Nat.le_of_ble_eq_true rfl⟩ [0, 1, 2, 3] [] rfl rfl (by decide) (by decide) (by decide) 6 0 rfl rfl rfl rfl hl.1 rfl (Nat.le_of_ble_eq_true rfl) d_Md_alu_95 hf0 (fun u_6 H locs h hP hD hS => ?_)
      have hP : va_P D vwCl (wD qd qmemory qr qcounts cI cB ms u_6.1 u_6.2.1 u_6.2.2.1 u_6.2.2.2.1 u_6.2.2.2.2.1 u_6.2.2.2.2.2) H := hP.sub [0, 1, 2, 3] rfl
      have hD : va_D A (wD qd qmemory qr qcounts cI cB ms u_6.1 u_6.2.1 u_6.2.2.1 u_6.2.2.2.1 u_6.2.2.2.2.1 u_6.2.2.2.2.2) := hD.sub [0, 1, 2, 3] (by decide) rfl
      refine lv_goto (tgt := 214) hx hb d_Md_alu_98 (by decide) ?_
      exact W.vret hx hb hr (fun t ht hW => ⟨⟨(u_6.1, u_6.2.1, u_6.2.2.1, u_6.2.2.2.1, u_6.2.2.2.2.1, u_6.2.2.2.2.2), rfl, h, by rw [ht]; exact hP, hD⟩, hS.F ht⟩) hS.2.2 d_Md_alu_214
    · skip
      have h := h.1 c_5
      refine lv_iconst (v := 1) hx hb d_Md_alu_90 (by decide) ?_
      refine lv_goto (tgt := 95) hx hb d_Md_alu_91 (by decide) ?_
      refine zz_Wv (As := [.int r_3, .long (r_1.toInt64 + r_2.toInt64), .int (1 : Int32)]) (rest := []) (wc := wD qd qmemory qr qcounts cI cB ms dd Lwhole Lwhole2 bm rr kt) (wr := []) X hK hP hD hS hA (c_Md_sum_IJZV l D cI cB qd qmemory qr qcounts ms dd Lwhole Lwhole2 bm rr kt r_3 (r_1.toInt64 + r_2.toInt64) (1 : Int32) _ h _) ⟨rfl, rfl⟩ m_Md_sum_IJZV k_Md_173 ⟨Nat.le_of_ble_eq_true rfl, Nat.le_of_ble_eq_true rfl⟩ [0, 1, 2, 3] [] rfl rfl (by decide) (by decide) (by decide) 6 0 rfl rfl rfl rfl hl.1 rfl (Nat.le_of_ble_eq_true rfl) d_Md_alu_95 hf0 (fun u_8 H locs h hP hD hS => ?_)
      have hP : va_P D vwCl (wD qd qmemory qr qcounts cI cB ms u_8.1 u_8.2.1 u_8.2.2.1 u_8.2.2.2.1 u_8.2.2.2.2.1 u_8.2.2.2.2.2) H := hP.sub [0, 1, 2, 3] rfl
      have hD : va_D A (wD qd qmemory qr qcounts cI cB ms u_8.1 u_8.2.1 u_8.2.2.1 u_8.2.2.2.1 u_8.2.2.2.2.1 u_8.2.2.2.2.2) := hD.sub [0, 1, 2, 3] (by decide) rfl
      refine lv_goto (tgt := 214) hx hb d_Md_alu_98 (by decide) ?_
      exact W.vret hx hb hr (fun t ht hW => ⟨⟨(u_8.1, u_8.2.1, u_8.2.2.1, u_8.2.2.2.1, u_8.2.2.2.2.1, u_8.2.2.2.2.2), rfl, h, by rw [ht]; exact hP, hD⟩, hS.F ht⟩) hS.2.2 d_Md_alu_214
  · have h := h.2 c_4
    by_cases c_10 : a0 = (34 : Int32) ∨ a0 = (35 : Int32)
    · have h := h.1 c_10
      have h0 := c_10
      refine lv_tableIn (off := 82) (tgt := 101) hx hb d_Md_alu_19 (by rcases h0 with h0 | h0 <;> (rw [h0]; decide)) (by rcases h0 with h0 | h0 <;> (rw [h0]; decide)) (by rcases h0 with h0 | h0 <;> (rw [h0]; rfl)) (by decide) ?_
      refine lv_aload_n hx hb d_Md_alu_101 rfl (lv_at hl 3 rfl) ?_
      refine lv_iload hx hb d_Md_alu_102 (lv_at hl 0 rfl) ?_
      refine lv_iload_n hx hb d_Md_alu_104 rfl (lv_at hl 2 rfl) ?_
      refine lv_i2l (v := r_1.toInt64) hx hb d_Md_alu_105 rfl ?_
      refine lv_iload_n hx hb d_Md_alu_106 rfl (lv_at hl 1 rfl) ?_
      refine lv_i2l (v := r_2.toInt64) hx hb d_Md_alu_107 rfl ?_
      refine lv_lsub hx hb d_Md_alu_108 ?_
      refine lv_iload_n hx hb d_Md_alu_109 rfl (lv_at hl 4 rfl) ?_
      refine lv_bipush (v := 34) hx hb d_Md_alu_110 (by decide) ?_
      refine lv_icmp_ne (tgt := 119) hx hb d_Md_alu_112 (by decide) (fun c_11 => ?_) (fun c_11 => ?_)
      · skip
        have h := h.2 c_11
        refine lv_iconst (v := 0) hx hb d_Md_alu_119 (by decide) ?_
        refine zz_Wv (As := [.int r_3, .long (r_1.toInt64 - r_2.toInt64), .int (0 : Int32)]) (rest := []) (wc := wD qd qmemory qr qcounts cI cB ms dd Lwhole Lwhole2 bm rr kt) (wr := []) X hK hP hD hS hA (c_Md_sum_IJZV l D cI cB qd qmemory qr qcounts ms dd Lwhole Lwhole2 bm rr kt r_3 (r_1.toInt64 - r_2.toInt64) (0 : Int32) _ h _) ⟨rfl, rfl⟩ m_Md_sum_IJZV k_Md_173 ⟨Nat.le_of_ble_eq_true rfl, Nat.le_of_ble_eq_true rfl⟩ [0, 1, 2, 3] [] rfl rfl (by decide) (by decide) (by decide) 6 0 rfl rfl rfl rfl hl.1 rfl (Nat.le_of_ble_eq_true rfl) d_Md_alu_120 hf0 (fun u_12 H locs h hP hD hS => ?_)
        have hP : va_P D vwCl (wD qd qmemory qr qcounts cI cB ms u_12.1 u_12.2.1 u_12.2.2.1 u_12.2.2.2.1 u_12.2.2.2.2.1 u_12.2.2.2.2.2) H := hP.sub [0, 1, 2, 3] rfl
        have hD : va_D A (wD qd qmemory qr qcounts cI cB ms u_12.1 u_12.2.1 u_12.2.2.1 u_12.2.2.2.1 u_12.2.2.2.2.1 u_12.2.2.2.2.2) := hD.sub [0, 1, 2, 3] (by decide) rfl
        refine lv_goto (tgt := 214) hx hb d_Md_alu_123 (by decide) ?_
        exact W.vret hx hb hr (fun t ht hW => ⟨⟨(u_12.1, u_12.2.1, u_12.2.2.1, u_12.2.2.2.1, u_12.2.2.2.2.1, u_12.2.2.2.2.2), rfl, h, by rw [ht]; exact hP, hD⟩, hS.F ht⟩) hS.2.2 d_Md_alu_214
      · skip
        have h := h.1 c_11
        refine lv_iconst (v := 1) hx hb d_Md_alu_115 (by decide) ?_
        refine lv_goto (tgt := 120) hx hb d_Md_alu_116 (by decide) ?_
        refine zz_Wv (As := [.int r_3, .long (r_1.toInt64 - r_2.toInt64), .int (1 : Int32)]) (rest := []) (wc := wD qd qmemory qr qcounts cI cB ms dd Lwhole Lwhole2 bm rr kt) (wr := []) X hK hP hD hS hA (c_Md_sum_IJZV l D cI cB qd qmemory qr qcounts ms dd Lwhole Lwhole2 bm rr kt r_3 (r_1.toInt64 - r_2.toInt64) (1 : Int32) _ h _) ⟨rfl, rfl⟩ m_Md_sum_IJZV k_Md_173 ⟨Nat.le_of_ble_eq_true rfl, Nat.le_of_ble_eq_true rfl⟩ [0, 1, 2, 3] [] rfl rfl (by decide) (by decide) (by decide) 6 0 rfl rfl rfl rfl hl.1 rfl (Nat.le_of_ble_eq_true rfl) d_Md_alu_120 hf0 (fun u_14 H locs h hP hD hS => ?_)
        have hP : va_P D vwCl (wD qd qmemory qr qcounts cI cB ms u_14.1 u_14.2.1 u_14.2.2.1 u_14.2.2.2.1 u_14.2.2.2.2.1 u_14.2.2.2.2.2) H := hP.sub [0, 1, 2, 3] rfl
        have hD : va_D A (wD qd qmemory qr qcounts cI cB ms u_14.1 u_14.2.1 u_14.2.2.1 u_14.2.2.2.1 u_14.2.2.2.2.1 u_14.2.2.2.2.2) := hD.sub [0, 1, 2, 3] (by decide) rfl
        refine lv_goto (tgt := 214) hx hb d_Md_alu_123 (by decide) ?_
        exact W.vret hx hb hr (fun t ht hW => ⟨⟨(u_14.1, u_14.2.1, u_14.2.2.1, u_14.2.2.2.1, u_14.2.2.2.2.1, u_14.2.2.2.2.2), rfl, h, by rw [ht]; exact hP, hD⟩, hS.F ht⟩) hS.2.2 d_Md_alu_214
    · have h := h.2 c_10
      by_cases c_16 : a0 = (36 : Int32)
      · have h := h.1 c_16
        have h0 := c_16
        refine lv_tableIn (off := 107) (tgt := 126) hx hb d_Md_alu_19 (by rw [h0]; decide) (by rw [h0]; decide) (by rw [h0]; rfl) (by decide) ?_
        refine lv_aload_n hx hb d_Md_alu_126 rfl (lv_at hl 3 rfl) ?_
        refine lv_iload hx hb d_Md_alu_127 (lv_at hl 0 rfl) ?_
        refine lv_iload_n hx hb d_Md_alu_129 rfl (lv_at hl 2 rfl) ?_
        refine lv_iload_n hx hb d_Md_alu_130 rfl (lv_at hl 1 rfl) ?_
        refine lv_iand hx hb d_Md_alu_131 ?_
        refine zz_Wv (As := [.int r_3, .int (r_1 &&& r_2)]) (rest := []) (wc := wD qd qmemory qr qcounts cI cB ms dd Lwhole Lwhole2 bm rr kt) (wr := []) X hK hP hD hS hA (c_Md_into l D cI cB qd qmemory qr qcounts ms dd Lwhole Lwhole2 bm rr kt r_3 (r_1 &&& r_2) _ h _) ⟨rfl, rfl⟩ m_Md_into k_Md_128 ⟨Nat.le_of_ble_eq_true rfl, Nat.le_of_ble_eq_true rfl⟩ [0, 1, 2, 3] [] rfl rfl (by decide) (by decide) (by decide) 6 0 rfl rfl rfl rfl hl.1 rfl (Nat.le_of_ble_eq_true rfl) d_Md_alu_132 hf0 (fun u_17 H locs h hP hD hS => ?_)
        have hP : va_P D vwCl (wD qd qmemory qr qcounts cI cB ms u_17.1 u_17.2.1 u_17.2.2.1 u_17.2.2.2.1 u_17.2.2.2.2.1 u_17.2.2.2.2.2) H := hP.sub [0, 1, 2, 3] rfl
        have hD : va_D A (wD qd qmemory qr qcounts cI cB ms u_17.1 u_17.2.1 u_17.2.2.1 u_17.2.2.2.1 u_17.2.2.2.2.1 u_17.2.2.2.2.2) := hD.sub [0, 1, 2, 3] (by decide) rfl
        refine lv_goto (tgt := 214) hx hb d_Md_alu_135 (by decide) ?_
        exact W.vret hx hb hr (fun t ht hW => ⟨⟨(u_17.1, u_17.2.1, u_17.2.2.1, u_17.2.2.2.1, u_17.2.2.2.2.1, u_17.2.2.2.2.2), rfl, h, by rw [ht]; exact hP, hD⟩, hS.F ht⟩) hS.2.2 d_Md_alu_214
      · have h := h.2 c_16
        by_cases c_19 : a0 = (37 : Int32)
        · have h := h.1 c_19
          have h0 := c_19
          refine lv_tableIn (off := 119) (tgt := 138) hx hb d_Md_alu_19 (by rw [h0]; decide) (by rw [h0]; decide) (by rw [h0]; rfl) (by decide) ?_
          refine lv_aload_n hx hb d_Md_alu_138 rfl (lv_at hl 3 rfl) ?_
          refine lv_iload hx hb d_Md_alu_139 (lv_at hl 0 rfl) ?_
          refine lv_iload_n hx hb d_Md_alu_141 rfl (lv_at hl 2 rfl) ?_
          refine lv_iload_n hx hb d_Md_alu_142 rfl (lv_at hl 1 rfl) ?_
          refine lv_ior hx hb d_Md_alu_143 ?_
          refine zz_Wv (As := [.int r_3, .int (r_1 ||| r_2)]) (rest := []) (wc := wD qd qmemory qr qcounts cI cB ms dd Lwhole Lwhole2 bm rr kt) (wr := []) X hK hP hD hS hA (c_Md_into l D cI cB qd qmemory qr qcounts ms dd Lwhole Lwhole2 bm rr kt r_3 (r_1 ||| r_2) _ h _) ⟨rfl, rfl⟩ m_Md_into k_Md_128 ⟨Nat.le_of_ble_eq_true rfl, Nat.le_of_ble_eq_true rfl⟩ [0, 1, 2, 3] [] rfl rfl (by decide) (by decide) (by decide) 6 0 rfl rfl rfl rfl hl.1 rfl (Nat.le_of_ble_eq_true rfl) d_Md_alu_144 hf0 (fun u_20 H locs h hP hD hS => ?_)
          have hP : va_P D vwCl (wD qd qmemory qr qcounts cI cB ms u_20.1 u_20.2.1 u_20.2.2.1 u_20.2.2.2.1 u_20.2.2.2.2.1 u_20.2.2.2.2.2) H := hP.sub [0, 1, 2, 3] rfl
          have hD : va_D A (wD qd qmemory qr qcounts cI cB ms u_20.1 u_20.2.1 u_20.2.2.1 u_20.2.2.2.1 u_20.2.2.2.2.1 u_20.2.2.2.2.2) := hD.sub [0, 1, 2, 3] (by decide) rfl
          refine lv_goto (tgt := 214) hx hb d_Md_alu_147 (by decide) ?_
          exact W.vret hx hb hr (fun t ht hW => ⟨⟨(u_20.1, u_20.2.1, u_20.2.2.1, u_20.2.2.2.1, u_20.2.2.2.2.1, u_20.2.2.2.2.2), rfl, h, by rw [ht]; exact hP, hD⟩, hS.F ht⟩) hS.2.2 d_Md_alu_214
        · have h := h.2 c_19
          by_cases c_22 : a0 = (38 : Int32)
          · have h := h.1 c_22
            have h0 := c_22
            refine lv_tableIn (off := 131) (tgt := 150) hx hb d_Md_alu_19 (by rw [h0]; decide) (by rw [h0]; decide) (by rw [h0]; rfl) (by decide) ?_
            refine lv_aload_n hx hb d_Md_alu_150 rfl (lv_at hl 3 rfl) ?_
            refine lv_iload hx hb d_Md_alu_151 (lv_at hl 0 rfl) ?_
            refine lv_iload_n hx hb d_Md_alu_153 rfl (lv_at hl 2 rfl) ?_
            refine lv_iload_n hx hb d_Md_alu_154 rfl (lv_at hl 1 rfl) ?_
            refine lv_ixor hx hb d_Md_alu_155 ?_
            refine zz_Wv (As := [.int r_3, .int (r_1 ^^^ r_2)]) (rest := []) (wc := wD qd qmemory qr qcounts cI cB ms dd Lwhole Lwhole2 bm rr kt) (wr := []) X hK hP hD hS hA (c_Md_into l D cI cB qd qmemory qr qcounts ms dd Lwhole Lwhole2 bm rr kt r_3 (r_1 ^^^ r_2) _ h _) ⟨rfl, rfl⟩ m_Md_into k_Md_128 ⟨Nat.le_of_ble_eq_true rfl, Nat.le_of_ble_eq_true rfl⟩ [0, 1, 2, 3] [] rfl rfl (by decide) (by decide) (by decide) 6 0 rfl rfl rfl rfl hl.1 rfl (Nat.le_of_ble_eq_true rfl) d_Md_alu_156 hf0 (fun u_23 H locs h hP hD hS => ?_)
            have hP : va_P D vwCl (wD qd qmemory qr qcounts cI cB ms u_23.1 u_23.2.1 u_23.2.2.1 u_23.2.2.2.1 u_23.2.2.2.2.1 u_23.2.2.2.2.2) H := hP.sub [0, 1, 2, 3] rfl
            have hD : va_D A (wD qd qmemory qr qcounts cI cB ms u_23.1 u_23.2.1 u_23.2.2.1 u_23.2.2.2.1 u_23.2.2.2.2.1 u_23.2.2.2.2.2) := hD.sub [0, 1, 2, 3] (by decide) rfl
            refine lv_goto (tgt := 214) hx hb d_Md_alu_159 (by decide) ?_
            exact W.vret hx hb hr (fun t ht hW => ⟨⟨(u_23.1, u_23.2.1, u_23.2.2.1, u_23.2.2.2.1, u_23.2.2.2.2.1, u_23.2.2.2.2.2), rfl, h, by rw [ht]; exact hP, hD⟩, hS.F ht⟩) hS.2.2 d_Md_alu_214
          · have h := h.2 c_22
            by_cases c_25 : a0 = (39 : Int32)
            · have h := h.1 c_25
              have h0 := c_25
              refine lv_tableIn (off := 143) (tgt := 162) hx hb d_Md_alu_19 (by rw [h0]; decide) (by rw [h0]; decide) (by rw [h0]; rfl) (by decide) ?_
              refine lv_aload_n hx hb d_Md_alu_162 rfl (lv_at hl 3 rfl) ?_
              refine lv_iload hx hb d_Md_alu_163 (lv_at hl 0 rfl) ?_
              refine lv_iload_n hx hb d_Md_alu_165 rfl (lv_at hl 2 rfl) ?_
              refine lv_iload_n hx hb d_Md_alu_166 rfl (lv_at hl 1 rfl) ?_
              refine lv_ior hx hb d_Md_alu_167 ?_
              refine lv_iconst (v := -1) hx hb d_Md_alu_168 (by decide) ?_
              refine lv_ixor hx hb d_Md_alu_169 ?_
              refine lv_topi (fun x_26 ex_26 => ?_)
              have h := h x_26 ex_26
              refine zz_Wv (As := [.int r_3, .int x_26]) (rest := []) (wc := wD qd qmemory qr qcounts cI cB ms dd Lwhole Lwhole2 bm rr kt) (wr := []) X hK hP hD hS hA (c_Md_into l D cI cB qd qmemory qr qcounts ms dd Lwhole Lwhole2 bm rr kt r_3 x_26 _ h _) ⟨rfl, rfl⟩ m_Md_into k_Md_128 ⟨Nat.le_of_ble_eq_true rfl, Nat.le_of_ble_eq_true rfl⟩ [0, 1, 2, 3] [] rfl rfl (by decide) (by decide) (by decide) 6 0 rfl rfl rfl rfl hl.1 rfl (Nat.le_of_ble_eq_true rfl) d_Md_alu_170 hf0 (fun u_27 H locs h hP hD hS => ?_)
              have hP : va_P D vwCl (wD qd qmemory qr qcounts cI cB ms u_27.1 u_27.2.1 u_27.2.2.1 u_27.2.2.2.1 u_27.2.2.2.2.1 u_27.2.2.2.2.2) H := hP.sub [0, 1, 2, 3] rfl
              have hD : va_D A (wD qd qmemory qr qcounts cI cB ms u_27.1 u_27.2.1 u_27.2.2.1 u_27.2.2.2.1 u_27.2.2.2.2.1 u_27.2.2.2.2.2) := hD.sub [0, 1, 2, 3] (by decide) rfl
              refine lv_goto (tgt := 214) hx hb d_Md_alu_173 (by decide) ?_
              exact W.vret hx hb hr (fun t ht hW => ⟨⟨(u_27.1, u_27.2.1, u_27.2.2.1, u_27.2.2.2.1, u_27.2.2.2.2.1, u_27.2.2.2.2.2), rfl, h, by rw [ht]; exact hP, hD⟩, hS.F ht⟩) hS.2.2 d_Md_alu_214
            · have h := h.2 c_25
              by_cases c_29 : a0 = (42 : Int32)
              · have h := h.1 c_29
                have h0 := c_29
                refine lv_tableIn (off := 157) (tgt := 176) hx hb d_Md_alu_19 (by rw [h0]; decide) (by rw [h0]; decide) (by rw [h0]; rfl) (by decide) ?_
                refine lv_aload_n hx hb d_Md_alu_176 rfl (lv_at hl 3 rfl) ?_
                refine lv_iload hx hb d_Md_alu_177 (lv_at hl 0 rfl) ?_
                refine lv_iload_n hx hb d_Md_alu_179 rfl (lv_at hl 2 rfl) ?_
                refine lv_iload_n hx hb d_Md_alu_180 rfl (lv_at hl 1 rfl) ?_
                refine lv_icmp_ge (tgt := 188) hx hb d_Md_alu_181 (by decide) (fun c_30 => ?_) (fun c_30 => ?_)
                · skip
                  have h := h.1 c_30
                  refine lv_iconst (v := 0) hx hb d_Md_alu_188 (by decide) ?_
                  refine zz_Wv (As := [.int r_3, .int (0 : Int32)]) (rest := []) (wc := wD qd qmemory qr qcounts cI cB ms dd Lwhole Lwhole2 bm rr kt) (wr := []) X hK hP hD hS hA (c_Md_into l D cI cB qd qmemory qr qcounts ms dd Lwhole Lwhole2 bm rr kt r_3 (0 : Int32) _ h _) ⟨rfl, rfl⟩ m_Md_into k_Md_128 ⟨Nat.le_of_ble_eq_true rfl, Nat.le_of_ble_eq_true rfl⟩ [0, 1, 2, 3] [] rfl rfl (by decide) (by decide) (by decide) 6 0 rfl rfl rfl rfl hl.1 rfl (Nat.le_of_ble_eq_true rfl) d_Md_alu_189 hf0 (fun u_31 H locs h hP hD hS => ?_)
                  have hP : va_P D vwCl (wD qd qmemory qr qcounts cI cB ms u_31.1 u_31.2.1 u_31.2.2.1 u_31.2.2.2.1 u_31.2.2.2.2.1 u_31.2.2.2.2.2) H := hP.sub [0, 1, 2, 3] rfl
                  have hD : va_D A (wD qd qmemory qr qcounts cI cB ms u_31.1 u_31.2.1 u_31.2.2.1 u_31.2.2.2.1 u_31.2.2.2.2.1 u_31.2.2.2.2.2) := hD.sub [0, 1, 2, 3] (by decide) rfl
                  refine lv_goto (tgt := 214) hx hb d_Md_alu_192 (by decide) ?_
                  exact W.vret hx hb hr (fun t ht hW => ⟨⟨(u_31.1, u_31.2.1, u_31.2.2.1, u_31.2.2.2.1, u_31.2.2.2.2.1, u_31.2.2.2.2.2), rfl, h, by rw [ht]; exact hP, hD⟩, hS.F ht⟩) hS.2.2 d_Md_alu_214
                · skip
                  have h := h.2 c_30
                  refine lv_iconst (v := 1) hx hb d_Md_alu_184 (by decide) ?_
                  refine lv_goto (tgt := 189) hx hb d_Md_alu_185 (by decide) ?_
                  refine zz_Wv (As := [.int r_3, .int (1 : Int32)]) (rest := []) (wc := wD qd qmemory qr qcounts cI cB ms dd Lwhole Lwhole2 bm rr kt) (wr := []) X hK hP hD hS hA (c_Md_into l D cI cB qd qmemory qr qcounts ms dd Lwhole Lwhole2 bm rr kt r_3 (1 : Int32) _ h _) ⟨rfl, rfl⟩ m_Md_into k_Md_128 ⟨Nat.le_of_ble_eq_true rfl, Nat.le_of_ble_eq_true rfl⟩ [0, 1, 2, 3] [] rfl rfl (by decide) (by decide) (by decide) 6 0 rfl rfl rfl rfl hl.1 rfl (Nat.le_of_ble_eq_true rfl) d_Md_alu_189 hf0 (fun u_33 H locs h hP hD hS => ?_)
                  have hP : va_P D vwCl (wD qd qmemory qr qcounts cI cB ms u_33.1 u_33.2.1 u_33.2.2.1 u_33.2.2.2.1 u_33.2.2.2.2.1 u_33.2.2.2.2.2) H := hP.sub [0, 1, 2, 3] rfl
                  have hD : va_D A (wD qd qmemory qr qcounts cI cB ms u_33.1 u_33.2.1 u_33.2.2.1 u_33.2.2.2.1 u_33.2.2.2.2.1 u_33.2.2.2.2.2) := hD.sub [0, 1, 2, 3] (by decide) rfl
                  refine lv_goto (tgt := 214) hx hb d_Md_alu_192 (by decide) ?_
                  exact W.vret hx hb hr (fun t ht hW => ⟨⟨(u_33.1, u_33.2.1, u_33.2.2.1, u_33.2.2.2.1, u_33.2.2.2.2.1, u_33.2.2.2.2.2), rfl, h, by rw [ht]; exact hP, hD⟩, hS.F ht⟩) hS.2.2 d_Md_alu_214
              · have h := h.2 c_29
                refine zz_swD (tgt := 195) hx hb [32, 33, 34, 35, 36, 37, 38, 39, 42] d_Md_alu_19 (by decide +kernel) (by decide) (List.forall_mem_cons.mpr ⟨lv_neT (k := 32) (fun q => c_4 (Or.inl q)) (by decide), List.forall_mem_cons.mpr ⟨lv_neT (k := 33) (fun q => c_4 (Or.inr (q))) (by decide), List.forall_mem_cons.mpr ⟨lv_neT (k := 34) (fun q => c_10 (Or.inl q)) (by decide), List.forall_mem_cons.mpr ⟨lv_neT (k := 35) (fun q => c_10 (Or.inr (q))) (by decide), List.forall_mem_cons.mpr ⟨lv_neT (k := 36) c_16 (by decide), List.forall_mem_cons.mpr ⟨lv_neT (k := 37) c_19 (by decide), List.forall_mem_cons.mpr ⟨lv_neT (k := 38) c_22 (by decide), List.forall_mem_cons.mpr ⟨lv_neT (k := 39) c_25 (by decide), List.forall_mem_cons.mpr ⟨lv_neT (k := 42) c_29 (by decide), fun _ h9 => nomatch h9⟩⟩⟩⟩⟩⟩⟩⟩⟩) (by decide) ?_
                refine lv_aload_n hx hb d_Md_alu_195 rfl (lv_at hl 3 rfl) ?_
                refine lv_iload hx hb d_Md_alu_196 (lv_at hl 0 rfl) ?_
                refine lv_iload_n hx hb d_Md_alu_198 rfl (lv_at hl 2 rfl) ?_
                refine lv_iload_n hx hb d_Md_alu_199 rfl (lv_at hl 1 rfl) ?_
                refine zz_Si (As := [.int r_1, .int r_2]) (rest := [.int r_3, .ref qd]) X (c_Md_below l r_1 r_2 _ h) ⟨rfl, rfl⟩ m_Md_below k_Md_145 ⟨Nat.le_of_ble_eq_true rfl, Nat.le_of_ble_eq_true rfl⟩ rfl hl.1 rfl (Nat.le_of_ble_eq_true rfl) d_Md_alu_200 hf0 (fun r_35 h => ?_)
                refine lv_if_eq (tgt := 210) hx hb d_Md_alu_203 (by decide) (fun c_36 => ?_) (fun c_36 => ?_)
                · skip
                  have h := h.1 c_36
                  refine lv_iconst (v := 0) hx hb d_Md_alu_210 (by decide) ?_
                  refine zz_Wv (As := [.int r_3, .int (0 : Int32)]) (rest := []) (wc := wD qd qmemory qr qcounts cI cB ms dd Lwhole Lwhole2 bm rr kt) (wr := []) X hK hP hD hS hA (c_Md_into l D cI cB qd qmemory qr qcounts ms dd Lwhole Lwhole2 bm rr kt r_3 (0 : Int32) _ h _) ⟨rfl, rfl⟩ m_Md_into k_Md_128 ⟨Nat.le_of_ble_eq_true rfl, Nat.le_of_ble_eq_true rfl⟩ [0, 1, 2, 3] [] rfl rfl (by decide) (by decide) (by decide) 6 0 rfl rfl rfl rfl hl.1 rfl (Nat.le_of_ble_eq_true rfl) d_Md_alu_211 hf0 (fun u_37 H locs h hP hD hS => ?_)
                  have hP : va_P D vwCl (wD qd qmemory qr qcounts cI cB ms u_37.1 u_37.2.1 u_37.2.2.1 u_37.2.2.2.1 u_37.2.2.2.2.1 u_37.2.2.2.2.2) H := hP.sub [0, 1, 2, 3] rfl
                  have hD : va_D A (wD qd qmemory qr qcounts cI cB ms u_37.1 u_37.2.1 u_37.2.2.1 u_37.2.2.2.1 u_37.2.2.2.2.1 u_37.2.2.2.2.2) := hD.sub [0, 1, 2, 3] (by decide) rfl
                  exact W.vret hx hb hr (fun t ht hW => ⟨⟨(u_37.1, u_37.2.1, u_37.2.2.1, u_37.2.2.2.1, u_37.2.2.2.2.1, u_37.2.2.2.2.2), rfl, h, by rw [ht]; exact hP, hD⟩, hS.F ht⟩) hS.2.2 d_Md_alu_214
                · skip
                  have h := h.2 c_36
                  refine lv_iconst (v := 1) hx hb d_Md_alu_206 (by decide) ?_
                  refine lv_goto (tgt := 211) hx hb d_Md_alu_207 (by decide) ?_
                  refine zz_Wv (As := [.int r_3, .int (1 : Int32)]) (rest := []) (wc := wD qd qmemory qr qcounts cI cB ms dd Lwhole Lwhole2 bm rr kt) (wr := []) X hK hP hD hS hA (c_Md_into l D cI cB qd qmemory qr qcounts ms dd Lwhole Lwhole2 bm rr kt r_3 (1 : Int32) _ h _) ⟨rfl, rfl⟩ m_Md_into k_Md_128 ⟨Nat.le_of_ble_eq_true rfl, Nat.le_of_ble_eq_true rfl⟩ [0, 1, 2, 3] [] rfl rfl (by decide) (by decide) (by decide) 6 0 rfl rfl rfl rfl hl.1 rfl (Nat.le_of_ble_eq_true rfl) d_Md_alu_211 hf0 (fun u_39 H locs h hP hD hS => ?_)
                  have hP : va_P D vwCl (wD qd qmemory qr qcounts cI cB ms u_39.1 u_39.2.1 u_39.2.2.1 u_39.2.2.2.1 u_39.2.2.2.2.1 u_39.2.2.2.2.2) H := hP.sub [0, 1, 2, 3] rfl
                  have hD : va_D A (wD qd qmemory qr qcounts cI cB ms u_39.1 u_39.2.1 u_39.2.2.1 u_39.2.2.2.1 u_39.2.2.2.2.1 u_39.2.2.2.2.2) := hD.sub [0, 1, 2, 3] (by decide) rfl
                  exact W.vret hx hb hr (fun t ht hW => ⟨⟨(u_39.1, u_39.2.1, u_39.2.2.1, u_39.2.2.2.1, u_39.2.2.2.2.1, u_39.2.2.2.2.2), rfl, h, by rw [ht]; exact hP, hD⟩, hS.F ht⟩) hS.2.2 d_Md_alu_214
