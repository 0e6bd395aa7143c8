def wp_Md_trap (ms : Int32) (dd : Nat → Int32) (Lwhole : Int64) (Lwhole2 : Int64) (bm : Nat → Int32) (rr : Nat → Int32) (kt : Nat → Int32) (a0 : Int32) (a1 : Int32) (a2 : Int32) (P : ((Nat → Int32) × Int64 × Int64 × (Nat → Int32) × (Nat → Int32) × (Nat → Int32)) → Prop) : Prop := ((a0 = (0 : Int32) → ((a1 < a2 → P (dd, Lwhole, Lwhole2, bm, rr, kt)) ∧ (¬ a1 < a2 → wp_Md_ends ms dd Lwhole Lwhole2 bm rr kt (5 : Int32) (fun u_34 => P (u_34.1, u_34.2.1, u_34.2.2.1, u_34.2.2.2.1, u_34.2.2.2.2.1, u_34.2.2.2.2.2))))) ∧ (¬ a0 = (0 : Int32) → ((a0 = (1 : Int32) → wp_Md_below a1 a2 (fun r_25 => ((r_25 = (0 : Int32) → wp_Md_ends ms dd Lwhole Lwhole2 bm rr kt (5 : Int32) (fun u_29 => P (u_29.1, u_29.2.1, u_29.2.2.1, u_29.2.2.2.1, u_29.2.2.2.2.1, u_29.2.2.2.2.2))) ∧ (¬ r_25 = (0 : Int32) → P (dd, Lwhole, Lwhole2, bm, rr, kt))))) ∧ (¬ a0 = (1 : Int32) → ((a0 = (2 : Int32) → ((a2 ≤ a1 → P (dd, Lwhole, Lwhole2, bm, rr, kt)) ∧ (¬ a2 ≤ a1 → wp_Md_ends ms dd Lwhole Lwhole2 bm rr kt (5 : Int32) (fun u_23 => P (u_23.1, u_23.2.1, u_23.2.2.1, u_23.2.2.2.1, u_23.2.2.2.2.1, u_23.2.2.2.2.2))))) ∧ (¬ a0 = (2 : Int32) → ((a0 = (3 : Int32) → wp_Md_below a1 a2 (fun r_16 => ((r_16 = (0 : Int32) → P (dd, Lwhole, Lwhole2, bm, rr, kt)) ∧ (¬ r_16 = (0 : Int32) → wp_Md_ends ms dd Lwhole Lwhole2 bm rr kt (5 : Int32) (fun u_18 => P (u_18.1, u_18.2.1, u_18.2.2.1, u_18.2.2.2.1, u_18.2.2.2.2.1, u_18.2.2.2.2.2)))))) ∧ (¬ a0 = (3 : Int32) → ((a0 = (4 : Int32) → ((a1 = a2 → wp_Md_ends ms dd Lwhole Lwhole2 bm rr kt (5 : Int32) (fun u_14 => P (u_14.1, u_14.2.1, u_14.2.2.1, u_14.2.2.2.1, u_14.2.2.2.2.1, u_14.2.2.2.2.2))) ∧ (¬ a1 = a2 → P (dd, Lwhole, Lwhole2, bm, rr, kt)))) ∧ (¬ a0 = (4 : Int32) → ((a1 = a2 → P (dd, Lwhole, Lwhole2, bm, rr, kt)) ∧ (¬ a1 = a2 → wp_Md_ends ms dd Lwhole Lwhole2 bm rr kt (5 : Int32) (fun u_9 => P (u_9.1, u_9.2.1, u_9.2.2.1, u_9.2.2.2.1, u_9.2.2.2.2.1, u_9.2.2.2.2.2))))))))))))))
abbrev rm_Md_trap : Room := { frames := 1, cells := 0, slots := 0, locals := 21 }
set_option maxHeartbeats 4000000 in
set_option maxRecDepth 100000 in
theorem c_Md_trap (l : Launch) (D : va_G) (cI : ClassId) (cB : ClassId) (qd : Nat) (qmemory : Nat) (qr : Nat) (qcounts : Nat) (ms : Int32) (dd : Nat → Int32) (Lwhole : Int64) (Lwhole2 : Int64) (bm : Nat → Int32) (rr : Nat → Int32) (kt : Nat → Int32) (a0 : Int32) (a1 : Int32) (a2 : Int32) (P : ((Nat → Int32) × Int64 × Int64 × (Nat → Int32) × (Nat → Int32) × (Nat → Int32)) → Prop) (h : wp_Md_trap ms dd Lwhole Lwhole2 bm rr kt a0 a1 a2 P) (sz : Nat) : Met l y_Md_trap (zz_ws y_Md_trap b_Md_trap 5 none) rm_Md_trap (va_Pc [.ref qd, .int a0, .int a1, .int a2] (zz_pw D [(cI, .int), (cB, .byte)] (wD qd qmemory qr qcounts cI cB ms dd Lwhole Lwhole2 bm rr kt) sz)) (va_Qv P (zz_qw D (fun u => wD qd qmemory qr qcounts cI cB ms u.1 u.2.1 u.2.2.1 u.2.2.2.1 u.2.2.2.2.1 u.2.2.2.2.2) (va_A (wD qd qmemory qr qcounts cI cB ms dd Lwhole Lwhole2 bm rr kt) sz)) (va_A (wD qd qmemory qr qcounts cI cB ms dd Lwhole Lwhole2 bm rr kt) sz)) 0 0 (va_A (wD qd qmemory qr qcounts cI cB ms dd Lwhole Lwhole2 bm rr kt) sz) := by
  refine Met.ofW (cc := b_Md_trap) (maxL := 5) (ret := none) (by decide) rfl ?_
  intro p e s m args below meth c s₁ B hml hv
  obtain ⟨rfl, hsz, hP, hK, hD0⟩ := hv
  have hx := B.exec
  have hb := B.bytes
  have hr := B.returns
  have hts := atoms_spec (ws := (zz_ws y_Md_trap b_Md_trap 5 none)) B.pre
  have hown : s.vm.findClass R_Md = some m.cls := findClass_of_methodNamed B.named
  have hlocks := B.notSynchronized
  have hT := zz_hts hts
  have X : CallFix p m c b_Md_trap 5 s ([.ref qd, .int a0, .int a1, .int a2] : List Value).toArray (zz_ws y_Md_trap b_Md_trap 5 none) R_Md := ⟨hx, hb, hml, hown, hts⟩
  have hf0 : 0 + 0 ≤ (headSpec (zz_ws y_Md_trap b_Md_trap 5 none) rm_Md_trap).room.cells ∧ 0 + 0 ≤ (headSpec (zz_ws y_Md_trap b_Md_trap 5 none) rm_Md_trap).room.slots := ⟨Nat.le_of_ble_eq_true rfl, Nat.le_of_ble_eq_true rfl⟩
  subst hsz
  have hD := hD0.self (sz := s.heap.size)
  generalize hAe : va_A (wD qd qmemory qr qcounts cI cB ms dd Lwhole Lwhole2 bm rr kt) s.heap.size = A at hD ⊢
  have hA : ∀ q : Nat, s.heap.size ≤ q → A q := fun q h => by rw [← hAe]; exact Or.inr h
  have hS : va_S A s.heap s.heap [] := va_S.rf
  have hl := lv_entry ([.ref qd, .int a0, .int a1, .int a2]) (n := 5) (Nat.le_of_ble_eq_true rfl)
  rw [lg_entry_eq]
  generalize (lg_sl ([.ref qd, .int a0, .int a1, .int a2]) ++ List.replicate (5 - (lg_sl ([.ref qd, .int a0, .int a1, .int a2])).length) Slot.unset).toArray = ls at hl ⊢
  have hl : lv_has ls 5 [(0, .ref qd), (1, .int a0), (2, .int a1), (3, .int a2)] := hl
  refine lv_iload_n hx hb d_Md_trap_0 rfl (lv_at hl 1 rfl) ?_
  refine lv_if_ne (tgt := 17) hx hb d_Md_trap_1 (by decide) (fun c_1 => ?_) (fun c_1 => ?_)
  · skip
    have h := h.2 c_1
    refine lv_iload_n hx hb d_Md_trap_17 rfl (lv_at hl 1 rfl) ?_
    refine lv_iconst (v := 1) hx hb d_Md_trap_18 (by decide) ?_
    refine lv_icmp_ne (tgt := 38) hx hb d_Md_trap_19 (by decide) (fun c_2 => ?_) (fun c_2 => ?_)
    · skip
      have h := h.2 c_2
      refine lv_iload_n hx hb d_Md_trap_38 rfl (lv_at hl 1 rfl) ?_
      refine lv_iconst (v := 2) hx hb d_Md_trap_39 (by decide) ?_
      refine lv_icmp_ne (tgt := 56) hx hb d_Md_trap_40 (by decide) (fun c_3 => ?_) (fun c_3 => ?_)
      · skip
        have h := h.2 c_3
        refine lv_iload_n hx hb d_Md_trap_56 rfl (lv_at hl 1 rfl) ?_
        refine lv_iconst (v := 3) hx hb d_Md_trap_57 (by decide) ?_
        refine lv_icmp_ne (tgt := 69) hx hb d_Md_trap_58 (by decide) (fun c_4 => ?_) (fun c_4 => ?_)
        · skip
          have h := h.2 c_4
          refine lv_iload_n hx hb d_Md_trap_69 rfl (lv_at hl 1 rfl) ?_
          refine lv_iconst (v := 4) hx hb d_Md_trap_70 (by decide) ?_
          refine lv_icmp_ne (tgt := 87) hx hb d_Md_trap_71 (by decide) (fun c_5 => ?_) (fun c_5 => ?_)
          · skip
            have h := h.2 c_5
            refine lv_iload_n hx hb d_Md_trap_87 rfl (lv_at hl 2 rfl) ?_
            refine lv_iload_n hx hb d_Md_trap_88 rfl (lv_at hl 3 rfl) ?_
            refine lv_icmp_eq (tgt := 96) hx hb d_Md_trap_89 (by decide) (fun c_6 => ?_) (fun c_6 => ?_)
            · skip
              have h := h.1 c_6
              refine lv_iconst (v := 0) hx hb d_Md_trap_96 (by decide) ?_
              refine lv_istore (lv' := [(4, .int (0 : Int32)), (0, .ref qd), (1, .int a0), (2, .int a1), (3, .int a2)]) hx hb d_Md_trap_97 hl (by decide) rfl (fun ls hl => ?_)
              refine lv_iload hx hb d_Md_trap_99 (lv_at hl 0 rfl) ?_
              refine lv_if_eq (tgt := 109) hx hb d_Md_trap_101 (by decide) (fun c_7 => ?_) (fun c_7 => ?_)
              · skip
                exact W.vret hx hb hr (fun t ht hW => ⟨⟨(dd, Lwhole, Lwhole2, bm, rr, kt), rfl, h, by rw [ht]; exact hP, hD⟩, hS.F ht⟩) hS.2.2 d_Md_trap_109
              · exact absurd c_7 (by decide)
            · skip
              have h := h.2 c_6
              refine lv_iconst (v := 1) hx hb d_Md_trap_92 (by decide) ?_
              refine lv_goto (tgt := 97) hx hb d_Md_trap_93 (by decide) ?_
              refine lv_istore (lv' := [(4, .int (1 : Int32)), (0, .ref qd), (1, .int a0), (2, .int a1), (3, .int a2)]) hx hb d_Md_trap_97 hl (by decide) rfl (fun ls hl => ?_)
              refine lv_iload hx hb d_Md_trap_99 (lv_at hl 0 rfl) ?_
              refine lv_if_eq (tgt := 109) hx hb d_Md_trap_101 (by decide) (fun c_8 => ?_) (fun c_8 => ?_)
              · exact absurd c_8 (by decide)
              · skip
                refine lv_aload_n hx hb d_Md_trap_104 rfl (lv_at hl 1 rfl) ?_
                refine lv_iconst (v := 5) hx hb d_Md_trap_105 (by decide) ?_
                refine zz_Wv (As := [.int (5 : Int32)]) (rest := []) (wc := wD qd qmemory qr qcounts cI cB ms dd Lwhole Lwhole2 bm rr kt) (wr := []) X hK hP hD hS hA (c_Md_ends l D cI cB qd qmemory qr qcounts ms dd Lwhole Lwhole2 bm rr kt (5 : Int32) _ h _) ⟨rfl, rfl⟩ m_Md_ends k_Md_116 ⟨Nat.le_of_ble_eq_true rfl, Nat.le_of_ble_eq_true rfl⟩ [0, 1, 2, 3] [] rfl rfl (by decide) (by decide) (by decide) 6 0 rfl rfl rfl rfl hl.1 rfl (Nat.le_of_ble_eq_true rfl) d_Md_trap_106 hf0 (fun u_9 H locs h hP hD hS => ?_)
                have hP : va_P D vwCl (wD qd qmemory qr qcounts cI cB ms u_9.1 u_9.2.1 u_9.2.2.1 u_9.2.2.2.1 u_9.2.2.2.2.1 u_9.2.2.2.2.2) H := hP.sub [0, 1, 2, 3] rfl
                have hD : va_D A (wD qd qmemory qr qcounts cI cB ms u_9.1 u_9.2.1 u_9.2.2.1 u_9.2.2.2.1 u_9.2.2.2.2.1 u_9.2.2.2.2.2) := hD.sub [0, 1, 2, 3] (by decide) rfl
                exact W.vret hx hb hr (fun t ht hW => ⟨⟨(u_9.1, u_9.2.1, u_9.2.2.1, u_9.2.2.2.1, u_9.2.2.2.2.1, u_9.2.2.2.2.2), rfl, h, by rw [ht]; exact hP, hD⟩, hS.F ht⟩) hS.2.2 d_Md_trap_109
          · skip
            have h := h.1 c_5
            refine lv_iload_n hx hb d_Md_trap_74 rfl (lv_at hl 2 rfl) ?_
            refine lv_iload_n hx hb d_Md_trap_75 rfl (lv_at hl 3 rfl) ?_
            refine lv_icmp_ne (tgt := 83) hx hb d_Md_trap_76 (by decide) (fun c_11 => ?_) (fun c_11 => ?_)
            · skip
              have h := h.2 c_11
              refine lv_iconst (v := 0) hx hb d_Md_trap_83 (by decide) ?_
              refine lv_goto (tgt := 97) hx hb d_Md_trap_84 (by decide) ?_
              refine lv_istore (lv' := [(4, .int (0 : Int32)), (0, .ref qd), (1, .int a0), (2, .int a1), (3, .int a2)]) hx hb d_Md_trap_97 hl (by decide) rfl (fun ls hl => ?_)
              refine lv_iload hx hb d_Md_trap_99 (lv_at hl 0 rfl) ?_
              refine lv_if_eq (tgt := 109) hx hb d_Md_trap_101 (by decide) (fun c_12 => ?_) (fun c_12 => ?_)
              · skip
                exact W.vret hx hb hr (fun t ht hW => ⟨⟨(dd, Lwhole, Lwhole2, bm, rr, kt), rfl, h, by rw [ht]; exact hP, hD⟩, hS.F ht⟩) hS.2.2 d_Md_trap_109
              · exact absurd c_12 (by decide)
            · skip
              have h := h.1 c_11
              refine lv_iconst (v := 1) hx hb d_Md_trap_79 (by decide) ?_
              refine lv_goto (tgt := 97) hx hb d_Md_trap_80 (by decide) ?_
              refine lv_istore (lv' := [(4, .int (1 : Int32)), (0, .ref qd), (1, .int a0), (2, .int a1), (3, .int a2)]) hx hb d_Md_trap_97 hl (by decide) rfl (fun ls hl => ?_)
              refine lv_iload hx hb d_Md_trap_99 (lv_at hl 0 rfl) ?_
              refine lv_if_eq (tgt := 109) hx hb d_Md_trap_101 (by decide) (fun c_13 => ?_) (fun c_13 => ?_)
              · exact absurd c_13 (by decide)
              · skip
                refine lv_aload_n hx hb d_Md_trap_104 rfl (lv_at hl 1 rfl) ?_
                refine lv_iconst (v := 5) hx hb d_Md_trap_105 (by decide) ?_
                refine zz_Wv (As := [.int (5 : Int32)]) (rest := []) (wc := wD qd qmemory qr qcounts cI cB ms dd Lwhole Lwhole2 bm rr kt) (wr := []) X hK hP hD hS hA (c_Md_ends l D cI cB qd qmemory qr qcounts ms dd Lwhole Lwhole2 bm rr kt (5 : Int32) _ h _) ⟨rfl, rfl⟩ m_Md_ends k_Md_116 ⟨Nat.le_of_ble_eq_true rfl, Nat.le_of_ble_eq_true rfl⟩ [0, 1, 2, 3] [] rfl rfl (by decide) (by decide) (by decide) 6 0 rfl rfl rfl rfl hl.1 rfl (Nat.le_of_ble_eq_true rfl) d_Md_trap_106 hf0 (fun u_14 H locs h hP hD hS => ?_)
                have hP : va_P D vwCl (wD qd qmemory qr qcounts cI cB ms u_14.1 u_14.2.1 u_14.2.2.1 u_14.2.2.2.1 u_14.2.2.2.2.1 u_14.2.2.2.2.2) H := hP.sub [0, 1, 2, 3] rfl
                have hD : va_D A (wD qd qmemory qr qcounts cI cB ms u_14.1 u_14.2.1 u_14.2.2.1 u_14.2.2.2.1 u_14.2.2.2.2.1 u_14.2.2.2.2.2) := hD.sub [0, 1, 2, 3] (by decide) rfl
                exact W.vret hx hb hr (fun t ht hW => ⟨⟨(u_14.1, u_14.2.1, u_14.2.2.1, u_14.2.2.2.1, u_14.2.2.2.2.1, u_14.2.2.2.2.2), rfl, h, by rw [ht]; exact hP, hD⟩, hS.F ht⟩) hS.2.2 d_Md_trap_109
        · skip
          have h := h.1 c_4
          refine lv_iload_n hx hb d_Md_trap_61 rfl (lv_at hl 2 rfl) ?_
          refine lv_iload_n hx hb d_Md_trap_62 rfl (lv_at hl 3 rfl) ?_
          refine zz_Si (As := [.int a1, .int a2]) (rest := []) X (c_Md_below l a1 a2 _ h) ⟨rfl, rfl⟩ m_Md_below k_Md_145 ⟨Nat.le_of_ble_eq_true rfl, Nat.le_of_ble_eq_true rfl⟩ rfl hl.1 rfl (Nat.le_of_ble_eq_true rfl) d_Md_trap_63 hf0 (fun r_16 h => ?_)
          refine lv_goto (tgt := 97) hx hb d_Md_trap_66 (by decide) ?_
          refine lv_istore (lv' := [(4, .int r_16), (0, .ref qd), (1, .int a0), (2, .int a1), (3, .int a2)]) hx hb d_Md_trap_97 hl (by decide) rfl (fun ls hl => ?_)
          refine lv_iload hx hb d_Md_trap_99 (lv_at hl 0 rfl) ?_
          refine lv_if_eq (tgt := 109) hx hb d_Md_trap_101 (by decide) (fun c_17 => ?_) (fun c_17 => ?_)
          · skip
            have h := h.1 c_17
            exact W.vret hx hb hr (fun t ht hW => ⟨⟨(dd, Lwhole, Lwhole2, bm, rr, kt), rfl, h, by rw [ht]; exact hP, hD⟩, hS.F ht⟩) hS.2.2 d_Md_trap_109
          · skip
            have h := h.2 c_17
            refine lv_aload_n hx hb d_Md_trap_104 rfl (lv_at hl 1 rfl) ?_
            refine lv_iconst (v := 5) hx hb d_Md_trap_105 (by decide) ?_
            refine zz_Wv (As := [.int (5 : Int32)]) (rest := []) (wc := wD qd qmemory qr qcounts cI cB ms dd Lwhole Lwhole2 bm rr kt) (wr := []) X hK hP hD hS hA (c_Md_ends l D cI cB qd qmemory qr qcounts ms dd Lwhole Lwhole2 bm rr kt (5 : Int32) _ h _) ⟨rfl, rfl⟩ m_Md_ends k_Md_116 ⟨Nat.le_of_ble_eq_true rfl, Nat.le_of_ble_eq_true rfl⟩ [0, 1, 2, 3] [] rfl rfl (by decide) (by decide) (by decide) 6 0 rfl rfl rfl rfl hl.1 rfl (Nat.le_of_ble_eq_true rfl) d_Md_trap_106 hf0 (fun u_18 H locs h hP hD hS => ?_)
            have hP : va_P D vwCl (wD qd qmemory qr qcounts cI cB ms u_18.1 u_18.2.1 u_18.2.2.1 u_18.2.2.2.1 u_18.2.2.2.2.1 u_18.2.2.2.2.2) H := hP.sub [0, 1, 2, 3] rfl
            have hD : va_D A (wD qd qmemory qr qcounts cI cB ms u_18.1 u_18.2.1 u_18.2.2.1 u_18.2.2.2.1 u_18.2.2.2.2.1 u_18.2.2.2.2.2) := hD.sub [0, 1, 2, 3] (by decide) rfl
            exact W.vret hx hb hr (fun t ht hW => ⟨⟨(u_18.1, u_18.2.1, u_18.2.2.1, u_18.2.2.2.1, u_18.2.2.2.2.1, u_18.2.2.2.2.2), rfl, h, by rw [ht]; exact hP, hD⟩, hS.F ht⟩) hS.2.2 d_Md_trap_109
      · skip
        have h := h.1 c_3
        refine lv_iload_n hx hb d_Md_trap_43 rfl (lv_at hl 2 rfl) ?_
        refine lv_iload_n hx hb d_Md_trap_44 rfl (lv_at hl 3 rfl) ?_
        refine lv_icmp_ge (tgt := 52) hx hb d_Md_trap_45 (by decide) (fun c_20 => ?_) (fun c_20 => ?_)
        · skip
          have h := h.1 c_20
          refine lv_iconst (v := 0) hx hb d_Md_trap_52 (by decide) ?_
          refine lv_goto (tgt := 97) hx hb d_Md_trap_53 (by decide) ?_
          refine lv_istore (lv' := [(4, .int (0 : Int32)), (0, .ref qd), (1, .int a0), (2, .int a1), (3, .int a2)]) hx hb d_Md_trap_97 hl (by decide) rfl (fun ls hl => ?_)
          refine lv_iload hx hb d_Md_trap_99 (lv_at hl 0 rfl) ?_
          refine lv_if_eq (tgt := 109) hx hb d_Md_trap_101 (by decide) (fun c_21 => ?_) (fun c_21 => ?_)
          · skip
            exact W.vret hx hb hr (fun t ht hW => ⟨⟨(dd, Lwhole, Lwhole2, bm, rr, kt), rfl, h, by rw [ht]; exact hP, hD⟩, hS.F ht⟩) hS.2.2 d_Md_trap_109
          · exact absurd c_21 (by decide)
        · skip
          have h := h.2 c_20
          refine lv_iconst (v := 1) hx hb d_Md_trap_48 (by decide) ?_
          refine lv_goto (tgt := 97) hx hb d_Md_trap_49 (by decide) ?_
          refine lv_istore (lv' := [(4, .int (1 : Int32)), (0, .ref qd), (1, .int a0), (2, .int a1), (3, .int a2)]) hx hb d_Md_trap_97 hl (by decide) rfl (fun ls hl => ?_)
          refine lv_iload hx hb d_Md_trap_99 (lv_at hl 0 rfl) ?_
          refine lv_if_eq (tgt := 109) hx hb d_Md_trap_101 (by decide) (fun c_22 => ?_) (fun c_22 => ?_)
          · exact absurd c_22 (by decide)
          · skip
            refine lv_aload_n hx hb d_Md_trap_104 rfl (lv_at hl 1 rfl) ?_
            refine lv_iconst (v := 5) hx hb d_Md_trap_105 (by decide) ?_
            refine zz_Wv (As := [.int (5 : Int32)]) (rest := []) (wc := wD qd qmemory qr qcounts cI cB ms dd Lwhole Lwhole2 bm rr kt) (wr := []) X hK hP hD hS hA (c_Md_ends l D cI cB qd qmemory qr qcounts ms dd Lwhole Lwhole2 bm rr kt (5 : Int32) _ h _) ⟨rfl, rfl⟩ m_Md_ends k_Md_116 ⟨Nat.le_of_ble_eq_true rfl, Nat.le_of_ble_eq_true rfl⟩ [0, 1, 2, 3] [] rfl rfl (by decide) (by decide) (by decide) 6 0 rfl rfl rfl rfl hl.1 rfl (Nat.le_of_ble_eq_true rfl) d_Md_trap_106 hf0 (fun u_23 H locs h hP hD hS => ?_)
            have hP : va_P D vwCl (wD qd qmemory qr qcounts cI cB ms u_23.1 u_23.2.1 u_23.2.2.1 u_23.2.2.2.1 u_23.2.2.2.2.1 u_23.2.2.2.2.2) H := hP.sub [0, 1, 2, 3] rfl
            have hD : va_D A (wD qd qmemory qr qcounts cI cB ms u_23.1 u_23.2.1 u_23.2.2.1 u_23.2.2.2.1 u_23.2.2.2.2.1 u_23.2.2.2.2.2) := hD.sub [0, 1, 2, 3] (by decide) rfl
            exact W.vret hx hb hr (fun t ht hW => ⟨⟨(u_23.1, u_23.2.1, u_23.2.2.1, u_23.2.2.2.1, u_23.2.2.2.2.1, u_23.2.2.2.2.2), rfl, h, by rw [ht]; exact hP, hD⟩, hS.F ht⟩) hS.2.2 d_Md_trap_109
    · skip
      have h := h.1 c_2
      refine lv_iload_n hx hb d_Md_trap_22 rfl (lv_at hl 2 rfl) ?_
      refine lv_iload_n hx hb d_Md_trap_23 rfl (lv_at hl 3 rfl) ?_
      refine zz_Si (As := [.int a1, .int a2]) (rest := []) X (c_Md_below l a1 a2 _ h) ⟨rfl, rfl⟩ m_Md_below k_Md_145 ⟨Nat.le_of_ble_eq_true rfl, Nat.le_of_ble_eq_true rfl⟩ rfl hl.1 rfl (Nat.le_of_ble_eq_true rfl) d_Md_trap_24 hf0 (fun r_25 h => ?_)
      refine lv_if_ne (tgt := 34) hx hb d_Md_trap_27 (by decide) (fun c_26 => ?_) (fun c_26 => ?_)
      · skip
        have h := h.2 c_26
        refine lv_iconst (v := 0) hx hb d_Md_trap_34 (by decide) ?_
        refine lv_goto (tgt := 97) hx hb d_Md_trap_35 (by decide) ?_
        refine lv_istore (lv' := [(4, .int (0 : Int32)), (0, .ref qd), (1, .int a0), (2, .int a1), (3, .int a2)]) hx hb d_Md_trap_97 hl (by decide) rfl (fun ls hl => ?_)
        refine lv_iload hx hb d_Md_trap_99 (lv_at hl 0 rfl) ?_
        refine lv_if_eq (tgt := 109) hx hb d_Md_trap_101 (by decide) (fun c_27 => ?_) (fun c_27 => ?_)
        · skip
          exact W.vret hx hb hr (fun t ht hW => ⟨⟨(dd, Lwhole, Lwhole2, bm, rr, kt), rfl, h, by rw [ht]; exact hP, hD⟩, hS.F ht⟩) hS.2.2 d_Md_trap_109
        · exact absurd c_27 (by decide)
      · skip
        have h := h.1 c_26
        refine lv_iconst (v := 1) hx hb d_Md_trap_30 (by decide) ?_
        refine lv_goto (tgt := 97) hx hb d_Md_trap_31 (by decide) ?_
        refine lv_istore (lv' := [(4, .int (1 : Int32)), (0, .ref qd), (1, .int a0), (2, .int a1), (3, .int a2)]) hx hb d_Md_trap_97 hl (by decide) rfl (fun ls hl => ?_)
        refine lv_iload hx hb d_Md_trap_99 (lv_at hl 0 rfl) ?_
        refine lv_if_eq (tgt := 109) hx hb d_Md_trap_101 (by decide) (fun c_28 => ?_) (fun c_28 => ?_)
        · exact absurd c_28 (by decide)
        · skip
          refine lv_aload_n hx hb d_Md_trap_104 rfl (lv_at hl 1 rfl) ?_
          refine lv_iconst (v := 5) hx hb d_Md_trap_105 (by decide) ?_
          refine zz_Wv (As := [.int (5 : Int32)]) (rest := []) (wc := wD qd qmemory qr qcounts cI cB ms dd Lwhole Lwhole2 bm rr kt) (wr := []) X hK hP hD hS hA (c_Md_ends l D cI cB qd qmemory qr qcounts ms dd Lwhole Lwhole2 bm rr kt (5 : Int32) _ h _) ⟨rfl, rfl⟩ m_Md_ends k_Md_116 ⟨Nat.le_of_ble_eq_true rfl, Nat.le_of_ble_eq_true rfl⟩ [0, 1, 2, 3] [] rfl rfl (by decide) (by decide) (by decide) 6 0 rfl rfl rfl rfl hl.1 rfl (Nat.le_of_ble_eq_true rfl) d_Md_trap_106 hf0 (fun u_29 H locs h hP hD hS => ?_)
          have hP : va_P D vwCl (wD qd qmemory qr qcounts cI cB ms u_29.1 u_29.2.1 u_29.2.2.1 u_29.2.2.2.1 u_29.2.2.2.2.1 u_29.2.2.2.2.2) H := hP.sub [0, 1, 2, 3] rfl
          have hD : va_D A (wD qd qmemory qr qcounts cI cB ms u_29.1 u_29.2.1 u_29.2.2.1 u_29.2.2.2.1 u_29.2.2.2.2.1 u_29.2.2.2.2.2) := hD.sub [0, 1, 2, 3] (by decide) rfl
          exact W.vret hx hb hr (fun t ht hW => ⟨⟨(u_29.1, u_29.2.1, u_29.2.2.1, u_29.2.2.2.1, u_29.2.2.2.2.1, u_29.2.2.2.2.2), rfl, h, by rw [ht]; exact hP, hD⟩, hS.F ht⟩) hS.2.2 d_Md_trap_109
  · skip
    have h := h.1 c_1
    refine lv_iload_n hx hb d_Md_trap_4 rfl (lv_at hl 2 rfl) ?_
    refine lv_iload_n hx hb d_Md_trap_5 rfl (lv_at hl 3 rfl) ?_
    refine lv_icmp_lt (tgt := 13) hx hb d_Md_trap_6 (by decide) (fun c_31 => ?_) (fun c_31 => ?_)
    · skip
      have h := h.1 c_31
      refine lv_iconst (v := 0) hx hb d_Md_trap_13 (by decide) ?_
      refine lv_goto (tgt := 97) hx hb d_Md_trap_14 (by decide) ?_
      refine lv_istore (lv' := [(4, .int (0 : Int32)), (0, .ref qd), (1, .int a0), (2, .int a1), (3, .int a2)]) hx hb d_Md_trap_97 hl (by decide) rfl (fun ls hl => ?_)
      refine lv_iload hx hb d_Md_trap_99 (lv_at hl 0 rfl) ?_
      refine lv_if_eq (tgt := 109) hx hb d_Md_trap_101 (by decide) (fun c_32 => ?_) (fun c_32 => ?_)
      · skip
        exact W.vret hx hb hr (fun t ht hW => ⟨⟨(dd, Lwhole, Lwhole2, bm, rr, kt), rfl, h, by rw [ht]; exact hP, hD⟩, hS.F ht⟩) hS.2.2 d_Md_trap_109
      · exact absurd c_32 (by decide)
    · skip
      have h := h.2 c_31
      refine lv_iconst (v := 1) hx hb d_Md_trap_9 (by decide) ?_
      refine lv_goto (tgt := 97) hx hb d_Md_trap_10 (by decide) ?_
      refine lv_istore (lv' := [(4, .int (1 : Int32)), (0, .ref qd), (1, .int a0), (2, .int a1), (3, .int a2)]) hx hb d_Md_trap_97 hl (by decide) rfl (fun ls hl => ?_)
      refine lv_iload hx hb d_Md_trap_99 (lv_at hl 0 rfl) ?_
      refine lv_if_eq (tgt := 109) hx hb d_Md_trap_101 (by decide) (fun c_33 => ?_) (fun c_33 => ?_)
      · exact absurd c_33 (by decide)
      · skip
        refine lv_aload_n hx hb d_Md_trap_104 rfl (lv_at hl 1 rfl) ?_
        refine lv_iconst (v := 5) hx hb d_Md_trap_105 (by decide) ?_
        refine zz_Wv (As := [.int (5 : Int32)]) (rest := []) (wc := wD qd qmemory qr qcounts cI cB ms dd Lwhole Lwhole2 bm rr kt) (wr := []) X hK hP hD hS hA (c_Md_ends l D cI cB qd qmemory qr qcounts ms dd Lwhole Lwhole2 bm rr kt (5 : Int32) _ h _) ⟨rfl, rfl⟩ m_Md_ends k_Md_116 ⟨Nat.le_of_ble_eq_true rfl, Nat.le_of_ble_eq_true rfl⟩ [0, 1, 2, 3] [] rfl rfl (by decide) (by decide) (by decide) 6 0 rfl rfl rfl rfl hl.1 rfl (Nat.le_of_ble_eq_true rfl) d_Md_trap_106 hf0 (fun u_34 H locs h hP hD hS => ?_)
        have hP : va_P D vwCl (wD qd qmemory qr qcounts cI cB ms u_34.1 u_34.2.1 u_34.2.2.1 u_34.2.2.2.1 u_34.2.2.2.2.1 u_34.2.2.2.2.2) H := hP.sub [0, 1, 2, 3] rfl
        have hD : va_D A (wD qd qmemory qr qcounts cI cB ms u_34.1 u_34.2.1 u_34.2.2.1 u_34.2.2.2.1 u_34.2.2.2.2.1 u_34.2.2.2.2.2) := hD.sub [0, 1, 2, 3] (by decide) rfl
        exact W.vret hx hb hr (fun t ht hW => ⟨⟨(u_34.1, u_34.2.1, u_34.2.2.1, u_34.2.2.2.1, u_34.2.2.2.2.1, u_34.2.2.2.2.2), rfl, h, by rw [ht]; exact hP, hD⟩, hS.F ht⟩) hS.2.2 d_Md_trap_109
def wj_Md_special_131 (ms : Int32) (a0 : Int32) (P : ((Nat → Int32) × Int64 × Int64 × (Nat → Int32) × (Nat → Int32) × (Nat → Int32)) → Prop) (z131dd : Nat → Int32) (z131Lwhole : Int64) (z131Lwhole2 : Int64) (z131bm : Nat → Int32) (z131rr : Nat → Int32) (z131kt : Nat → Int32) : Prop := wp_Md_ends ms z131dd z131Lwhole z131Lwhole2 z131bm z131rr z131kt (3 : Int32) (fun u_1 => P (u_1.1, u_1.2.1, u_1.2.2.1, u_1.2.2.2.1, u_1.2.2.2.2.1, u_1.2.2.2.2.2))
def wj_Md_special_94 (ms : Int32) (a0 : Int32) (P : ((Nat → Int32) × Int64 × Int64 × (Nat → Int32) × (Nat → Int32) × (Nat → Int32)) → Prop) (z94dd : Nat → Int32) (z94Lwhole : Int64) (z94Lwhole2 : Int64) (z94bm : Nat → Int32) (z94rr : Nat → Int32) (z94kt : Nat → Int32) : Prop := ((a0 < (48 : Int32) → wj_Md_special_131 ms a0 P z94dd z94Lwhole z94Lwhole2 z94bm z94rr z94kt) ∧ (¬ a0 < (48 : Int32) → (((55 : Int32) ≤ a0 → wj_Md_special_131 ms a0 P z94dd z94Lwhole z94Lwhole2 z94bm z94rr z94kt) ∧ (¬ (55 : Int32) ≤ a0 → ((a0 = (53 : Int32) → wj_Md_special_131 ms a0 P z94dd z94Lwhole z94Lwhole2 z94bm z94rr z94kt) ∧ (¬ a0 = (53 : Int32) → wp_Md_rs ms z94dd z94Lwhole z94Lwhole2 z94bm z94rr z94kt (fun r_6 => wp_Md_rt ms z94dd z94Lwhole z94Lwhole2 z94bm z94rr z94kt (fun r_7 => wp_Md_trap ms z94dd z94Lwhole z94Lwhole2 z94bm z94rr z94kt (a0 - (48 : Int32)) r_6 r_7 (fun u_8 => P (u_8.1, u_8.2.1, u_8.2.2.1, u_8.2.2.2.1, u_8.2.2.2.2.1, u_8.2.2.2.2.2))))))))))
def wj_Md_special_62 (ms : Int32) (a0 : Int32) (P : ((Nat → Int32) × Int64 × Int64 × (Nat → Int32) × (Nat → Int32) × (Nat → Int32)) → Prop) (z62dd : Nat → Int32) (z62Lwhole : Int64) (z62Lwhole2 : Int64) (z62bm : Nat → Int32) (z62rr : Nat → Int32) (z62kt : Nat → Int32) : Prop := ((a0 < (32 : Int32) → wj_Md_special_94 ms a0 P z62dd z62Lwhole z62Lwhole2 z62bm z62rr z62kt) ∧ (¬ a0 < (32 : Int32) → (((44 : Int32) ≤ a0 → wj_Md_special_94 ms a0 P z62dd z62Lwhole z62Lwhole2 z62bm z62rr z62kt) ∧ (¬ (44 : Int32) ≤ a0 → ((a0 = (40 : Int32) → wj_Md_special_94 ms a0 P z62dd z62Lwhole z62Lwhole2 z62bm z62rr z62kt) ∧ (¬ a0 = (40 : Int32) → ((a0 = (41 : Int32) → wj_Md_special_94 ms a0 P z62dd z62Lwhole z62Lwhole2 z62bm z62rr z62kt) ∧ (¬ a0 = (41 : Int32) → wp_Md_alu ms z62dd z62Lwhole z62Lwhole2 z62bm z62rr z62kt a0 (fun u_14 => P (u_14.1, u_14.2.1, u_14.2.2.1, u_14.2.2.2.1, u_14.2.2.2.2.1, u_14.2.2.2.2.2))))))))))
def wp_Md_special (ms : Int32) (dd : Nat → Int32) (Lwhole : Int64) (Lwhole2 : Int64) (bm : Nat → Int32) (rr : Nat → Int32) (kt : Nat → Int32) (a0 : Int32) (P : ((Nat → Int32) × Int64 × Int64 × (Nat → Int32) × (Nat → Int32) × (Nat → Int32)) → Prop) : Prop := (((8 : Int32) ≤ a0 → (((16 : Int32) ≤ a0 → (((20 : Int32) ≤ a0 → ((a0 < (24 : Int32) → wj_Md_special_62 ms a0 P dd Lwhole Lwhole2 bm rr kt) ∧ (¬ a0 < (24 : Int32) → (((28 : Int32) ≤ a0 → wj_Md_special_62 ms a0 P dd Lwhole Lwhole2 bm rr kt) ∧ (¬ (28 : Int32) ≤ a0 → wp_Md_products ms dd Lwhole Lwhole2 bm rr kt a0 (fun u_21 => P (u_21.1, u_21.2.1, u_21.2.2.1, u_21.2.2.2.1, u_21.2.2.2.2.1, u_21.2.2.2.2.2))))))) ∧ (¬ (20 : Int32) ≤ a0 → wp_Md_halves ms dd Lwhole Lwhole2 bm rr kt a0 (fun u_23 => P (u_23.1, u_23.2.1, u_23.2.2.1, u_23.2.2.2.1, u_23.2.2.2.2.1, u_23.2.2.2.2.2))))) ∧ (¬ (16 : Int32) ≤ a0 → wp_Md_moves ms dd Lwhole Lwhole2 bm rr kt a0 (fun u_25 => P (u_25.1, u_25.2.1, u_25.2.2.1, u_25.2.2.2.1, u_25.2.2.2.2.1, u_25.2.2.2.2.2))))) ∧ (¬ (8 : Int32) ≤ a0 → wp_Md_shifts ms dd Lwhole Lwhole2 bm rr kt a0 (fun u_27 => P (u_27.1, u_27.2.1, u_27.2.2.1, u_27.2.2.2.1, u_27.2.2.2.2.1, u_27.2.2.2.2.2))))
abbrev rm_Md_special : Room := { frames := 4, cells := 0, slots := 0, locals := 87 }
set_option maxHeartbeats 4000000 in
set_option maxRecDepth 100000 in
theorem c_Md_special (l : Launch) (D : va_G) (cI : ClassId) (cB : ClassId) (qd : Nat) (qmemory : Nat) (qr : Nat) (qcounts : Nat) (ms : Int32) (dd : Nat → Int32) (Lwhole : Int64) (Lwhole2 : Int64) (bm : Nat → Int32) (rr : Nat → Int32) (kt : Nat → Int32) (a0 : Int32) (P : ((Nat → Int32) × Int64 × Int64 × (Nat → Int32) × (Nat → Int32) × (Nat → Int32)) → Prop) (h : wp_Md_special ms dd Lwhole Lwhole2 bm rr kt a0 P) (sz : Nat) : Met l y_Md_special (zz_ws y_Md_special b_Md_special 2 none) rm_Md_special (va_Pc [.ref qd, .int a0] (zz_pw D [(cI, .int), (cB, .byte)] (wD qd qmemory qr qcounts cI cB ms dd Lwhole Lwhole2 bm rr kt) sz)) (va_Qv P (zz_qw D (fun u => wD qd qmemory qr qcounts cI cB ms u.1 u.2.1 u.2.2.1 u.2.2.2.1 u.2.2.2.2.1 u.2.2.2.2.2) (va_A (wD qd qmemory qr qcounts cI cB ms dd Lwhole Lwhole2 bm rr kt) sz)) (va_A (wD qd qmemory qr qcounts cI cB ms dd Lwhole Lwhole2 bm rr kt) sz)) 0 0 (va_A (wD qd qmemory qr qcounts cI cB ms dd Lwhole Lwhole2 bm rr kt) sz) := by
  refine Met.ofW (cc := b_Md_special) (maxL := 2) (ret := none) (by decide) rfl ?_
  intro p e s m args below meth c s₁ B hml hv
  obtain ⟨rfl, hsz, hP, hK, hD0⟩ := hv
  have hx := B.exec
  have hb := B.bytes
  have hr := B.returns
  have hts := atoms_spec (ws := (zz_ws y_Md_special b_Md_special 2 none)) B.pre
  have hown : s.vm.findClass R_Md = some m.cls := findClass_of_methodNamed B.named
  have hlocks := B.notSynchronized
  have hT := zz_hts hts
  have X : CallFix p m c b_Md_special 2 s ([.ref qd, .int a0] : List Value).toArray (zz_ws y_Md_special b_Md_special 2 none) R_Md := ⟨hx, hb, hml, hown, hts⟩
  have hf0 : 0 + 0 ≤ (headSpec (zz_ws y_Md_special b_Md_special 2 none) rm_Md_special).room.cells ∧ 0 + 0 ≤ (headSpec (zz_ws y_Md_special b_Md_special 2 none) rm_Md_special).room.slots := ⟨Nat.le_of_ble_eq_true rfl, Nat.le_of_ble_eq_true rfl⟩
  subst hsz
  have hD := hD0.self (sz := s.heap.size)
  generalize hAe : va_A (wD qd qmemory qr qcounts cI cB ms dd Lwhole Lwhole2 bm rr kt) s.heap.size = A at hD ⊢
  have hA : ∀ q : Nat, s.heap.size ≤ q → A q := fun q h => by rw [← hAe]; exact Or.inr h
  have hS : va_S A s.heap s.heap [] := va_S.rf
  have hl := lv_entry ([.ref qd, .int a0]) (n := 2) (Nat.le_of_ble_eq_true rfl)
  rw [lg_entry_eq]
  generalize (lg_sl ([.ref qd, .int a0]) ++ List.replicate (2 - (lg_sl ([.ref qd, .int a0])).length) Slot.unset).toArray = ls at hl ⊢
  have hl : lv_has ls 2 [(0, .ref qd), (1, .int a0)] := hl
  have jn_131 : ∀ (z131dd : Nat → Int32) (z131Lwhole : Int64) (z131Lwhole2 : Int64) (z131bm : Nat → Int32) (z131rr : Nat → Int32) (z131kt : Nat → Int32), wj_Md_special_131 ms a0 P z131dd z131Lwhole z131Lwhole2 z131bm z131rr z131kt → ∀ (H : Heap) (locs : List Loc), va_P D vwCl (wD qd qmemory qr qcounts cI cB ms z131dd z131Lwhole z131Lwhole2 z131bm z131rr z131kt) H → va_D A (wD qd qmemory qr qcounts cI cB ms z131dd z131Lwhole z131Lwhole2 z131bm z131rr z131kt) → va_S A s.heap H locs → ∀ ls : Array Slot, lv_has ls 2 [(0, .ref qd)] → W p l e (headSpec (zz_ws y_Md_special b_Md_special 2 none) rm_Md_special).room s m ([.ref qd, .int a0] : List Value).toArray below meth c H locs 0 0 (MQ below (va_Qv P (zz_qw D (fun u => wD qd qmemory qr qcounts cI cB ms u.1 u.2.1 u.2.2.1 u.2.2.2.1 u.2.2.2.2.1 u.2.2.2.2.2) A) A) ([.ref qd, .int a0] : List Value).toArray s 0 0 A) (F0 m 131 ls []) := by
    intro z131dd z131Lwhole z131Lwhole2 z131bm z131rr z131kt h H locs hP hD hS ls hl
    unfold wj_Md_special_131 at h
    refine lv_aload_n hx hb d_Md_special_131 rfl (lv_at hl 0 rfl) ?_
    refine lv_iconst (v := 3) hx hb d_Md_special_132 (by decide) ?_
    refine zz_Wv (As := [.int (3 : Int32)]) (rest := []) (wc := wD qd qmemory qr qcounts cI cB ms z131dd z131Lwhole z131Lwhole2 z131bm z131rr z131kt) (wr := []) X hK hP hD hS hA (c_Md_ends l D cI cB qd qmemory qr qcounts ms z131dd z131Lwhole z131Lwhole2 z131bm z131rr z131kt (3 : Int32) _ h _) ⟨rfl, rfl⟩ m_Md_ends k_Md_116 ⟨Nat.le_of_ble_eq_true rfl, Nat.le_of_ble_eq_true rfl⟩ [0, 1, 2, 3] [] rfl rfl (by decide) (by decide) (by decide) 6 0 rfl rfl rfl rfl hl.1 rfl (Nat.le_of_ble_eq_true rfl) d_Md_special_133 hf0 (fun u_1 H locs h hP hD hS => ?_)
    have hP : va_P D vwCl (wD qd qmemory qr qcounts cI cB ms u_1.1 u_1.2.1 u_1.2.2.1 u_1.2.2.2.1 u_1.2.2.2.2.1 u_1.2.2.2.2.2) H := hP.sub [0, 1, 2, 3] rfl
    have hD : va_D A (wD qd qmemory qr qcounts cI cB ms u_1.1 u_1.2.1 u_1.2.2.1 u_1.2.2.2.1 u_1.2.2.2.2.1 u_1.2.2.2.2.2) := hD.sub [0, 1, 2, 3] (by decide) rfl
    exact W.vret hx hb hr (fun t ht hW => ⟨⟨(u_1.1, u_1.2.1, u_1.2.2.1, u_1.2.2.2.1, u_1.2.2.2.2.1, u_1.2.2.2.2.2), rfl, h, by rw [ht]; exact hP, hD⟩, hS.F ht⟩) hS.2.2 d_Md_special_136
  have jn_94 : ∀ (z94dd : Nat → Int32) (z94Lwhole : Int64) (z94Lwhole2 : Int64) (z94bm : Nat → Int32) (z94rr : Nat → Int32) (z94kt : Nat → Int32), wj_Md_special_94 ms a0 P z94dd z94Lwhole z94Lwhole2 z94bm z94rr z94kt → ∀ (H : Heap) (locs : List Loc), va_P D vwCl (wD qd qmemory qr qcounts cI cB ms z94dd z94Lwhole z94Lwhole2 z94bm z94rr z94kt) H → va_D A (wD qd qmemory qr qcounts cI cB ms z94dd z94Lwhole z94Lwhole2 z94bm z94rr z94kt) → va_S A s.heap H locs → ∀ ls : Array Slot, lv_has ls 2 [(0, .ref qd), (1, .int a0)] → W p l e (headSpec (zz_ws y_Md_special b_Md_special 2 none) rm_Md_special).room s m ([.ref qd, .int a0] : List Value).toArray below meth c H locs 0 0 (MQ below (va_Qv P (zz_qw D (fun u => wD qd qmemory qr qcounts cI cB ms u.1 u.2.1 u.2.2.1 u.2.2.2.1 u.2.2.2.2.1 u.2.2.2.2.2) A) A) ([.ref qd, .int a0] : List Value).toArray s 0 0 A) (F0 m 94 ls []) := by
    intro z94dd z94Lwhole z94Lwhole2 z94bm z94rr z94kt h H locs hP hD hS ls hl
    unfold wj_Md_special_94 at h
    refine lv_iload_n hx hb d_Md_special_94 rfl (lv_at hl 1 rfl) ?_
    refine lv_bipush (v := 48) hx hb d_Md_special_95 (by decide) ?_
    refine lv_icmp_lt (tgt := 131) hx hb d_Md_special_97 (by decide) (fun c_3 => ?_) (fun c_3 => ?_)
    · skip
      have h := h.1 c_3
      exact jn_131 z94dd z94Lwhole z94Lwhole2 z94bm z94rr z94kt h _ _ hP hD hS ls (lv_sub hl [0] rfl)
    · skip
      have h := h.2 c_3
      refine lv_iload_n hx hb d_Md_special_100 rfl (lv_at hl 1 rfl) ?_
      refine lv_bipush (v := 55) hx hb d_Md_special_101 (by decide) ?_
      refine lv_icmp_ge (tgt := 131) hx hb d_Md_special_103 (by decide) (fun c_4 => ?_) (fun c_4 => ?_)
      · skip
        have h := h.1 c_4
        exact jn_131 z94dd z94Lwhole z94Lwhole2 z94bm z94rr z94kt h _ _ hP hD hS ls (lv_sub hl [0] rfl)
      · skip
        have h := h.2 c_4
        refine lv_iload_n hx hb d_Md_special_106 rfl (lv_at hl 1 rfl) ?_
        refine lv_bipush (v := 53) hx hb d_Md_special_107 (by decide) ?_
        refine lv_icmp_eq (tgt := 131) hx hb d_Md_special_109 (by decide) (fun c_5 => ?_) (fun c_5 => ?_)
        · skip
          have h := h.1 c_5
          exact jn_131 z94dd z94Lwhole z94Lwhole2 z94bm z94rr z94kt h _ _ hP hD hS ls (lv_sub hl [0] rfl)
        · skip
          have h := h.2 c_5
          refine lv_aload_n hx hb d_Md_special_112 rfl (lv_at hl 0 rfl) ?_
          refine lv_iload_n hx hb d_Md_special_113 rfl (lv_at hl 1 rfl) ?_
          refine lv_bipush (v := 48) hx hb d_Md_special_114 (by decide) ?_
          refine lv_isub hx hb d_Md_special_116 ?_
          refine lv_aload_n hx hb d_Md_special_117 rfl (lv_at hl 0 rfl) ?_
          refine zz_Ri (As := []) (rest := [.int (a0 - (48 : Int32)), .ref qd]) (wc := wD qd qmemory qr qcounts cI cB ms z94dd z94Lwhole z94Lwhole2 z94bm z94rr z94kt) X hK hP (c_Md_rs l D cI cB qd qmemory qr qcounts ms z94dd z94Lwhole z94Lwhole2 z94bm z94rr z94kt _ h) ⟨rfl, rfl⟩ m_Md_rs k_Md_132 ⟨Nat.le_of_ble_eq_true rfl, Nat.le_of_ble_eq_true rfl⟩ [0, 1, 2, 3] rfl 6 0 rfl rfl rfl rfl hl.1 rfl (Nat.le_of_ble_eq_true rfl) d_Md_special_118 hf0 (fun r_6 h => ?_)
          refine lv_aload_n hx hb d_Md_special_121 rfl (lv_at hl 0 rfl) ?_
          refine zz_Ri (As := []) (rest := [.int r_6, .int (a0 - (48 : Int32)), .ref qd]) (wc := wD qd qmemory qr qcounts cI cB ms z94dd z94Lwhole z94Lwhole2 z94bm z94rr z94kt) X hK hP (c_Md_rt l D cI cB qd qmemory qr qcounts ms z94dd z94Lwhole z94Lwhole2 z94bm z94rr z94kt _ h) ⟨rfl, rfl⟩ m_Md_rt k_Md_135 ⟨Nat.le_of_ble_eq_true rfl, Nat.le_of_ble_eq_true rfl⟩ [0, 1, 2, 3] rfl 6 0 rfl rfl rfl rfl hl.1 rfl (Nat.le_of_ble_eq_true rfl) d_Md_special_122 hf0 (fun r_7 h => ?_)
          refine zz_Wv (As := [.int (a0 - (48 : Int32)), .int r_6, .int r_7]) (rest := []) (wc := wD qd qmemory qr qcounts cI cB ms z94dd z94Lwhole z94Lwhole2 z94bm z94rr z94kt) (wr := []) X hK hP hD hS hA (c_Md_trap l D cI cB qd qmemory qr qcounts ms z94dd z94Lwhole z94Lwhole2 z94bm z94rr z94kt (a0 - (48 : Int32)) r_6 r_7 _ h _) ⟨rfl, rfl⟩ m_Md_trap k_Md_141 ⟨Nat.le_of_ble_eq_true rfl, Nat.le_of_ble_eq_true rfl⟩ [0, 1, 2, 3] [] rfl rfl (by decide) (by decide) (by decide) 6 0 rfl rfl rfl rfl hl.1 rfl (Nat.le_of_ble_eq_true rfl) d_Md_special_125 hf0 (fun u_8 H locs h hP hD hS => ?_)
          have hP : va_P D vwCl (wD qd qmemory qr qcounts cI cB ms u_8.1 u_8.2.1 u_8.2.2.1 u_8.2.2.2.1 u_8.2.2.2.2.1 u_8.2.2.2.2.2) H := hP.sub [0, 1, 2, 3] rfl
          have hD : va_D A (wD qd qmemory qr qcounts cI cB ms u_8.1 u_8.2.1 u_8.2.2.1 u_8.2.2.2.1 u_8.2.2.2.2.1 u_8.2.2.2.2.2) := hD.sub [0, 1, 2, 3] (by decide) rfl
          refine lv_goto (tgt := 136) hx hb d_Md_special_128 (by decide) ?_
          exact W.vret hx hb hr (fun t ht hW => ⟨⟨(u_8.1, u_8.2.1, u_8.2.2.1, u_8.2.2.2.1, u_8.2.2.2.2.1, u_8.2.2.2.2.2), rfl, h, by rw [ht]; exact hP, hD⟩, hS.F ht⟩) hS.2.2 d_Md_special_136
  have jn_62 : ∀ (z62dd : Nat → Int32) (z62Lwhole : Int64) (z62Lwhole2 : Int64) (z62bm : Nat → Int32) (z62rr : Nat → Int32) (z62kt : Nat → Int32), wj_Md_special_62 ms a0 P z62dd z62Lwhole z62Lwhole2 z62bm z62rr z62kt → ∀ (H : Heap) (locs : List Loc), va_P D vwCl (wD qd qmemory qr qcounts cI cB ms z62dd z62Lwhole z62Lwhole2 z62bm z62rr z62kt) H → va_D A (wD qd qmemory qr qcounts cI cB ms z62dd z62Lwhole z62Lwhole2 z62bm z62rr z62kt) → va_S A s.heap H locs → ∀ ls : Array Slot, lv_has ls 2 [(0, .ref qd), (1, .int a0)] → W p l e (headSpec (zz_ws y_Md_special b_Md_special 2 none) rm_Md_special).room s m ([.ref qd, .int a0] : List Value).toArray below meth c H locs 0 0 (MQ below (va_Qv P (zz_qw D (fun u => wD qd qmemory qr qcounts cI cB ms u.1 u.2.1 u.2.2.1 u.2.2.2.1 u.2.2.2.2.1 u.2.2.2.2.2) A) A) ([.ref qd, .int a0] : List Value).toArray s 0 0 A) (F0 m 62 ls []) := by
    intro z62dd z62Lwhole z62Lwhole2 z62bm z62rr z62kt h H locs hP hD hS ls hl
    unfold wj_Md_special_62 at h
    refine lv_iload_n hx hb d_Md_special_62 rfl (lv_at hl 1 rfl) ?_
    refine lv_bipush (v := 32) hx hb d_Md_special_63 (by decide) ?_
    refine lv_icmp_lt (tgt := 94) hx hb d_Md_special_65 (by decide) (fun c_10 => ?_) (fun c_10 => ?_)
    · skip
      have h := h.1 c_10
      exact jn_94 z62dd z62Lwhole z62Lwhole2 z62bm z62rr z62kt h _ _ hP hD hS ls (lv_sub hl [0, 1] rfl)
    · skip
      have h := h.2 c_10
      refine lv_iload_n hx hb d_Md_special_68 rfl (lv_at hl 1 rfl) ?_
      refine lv_bipush (v := 44) hx hb d_Md_special_69 (by decide) ?_
      refine lv_icmp_ge (tgt := 94) hx hb d_Md_special_71 (by decide) (fun c_11 => ?_) (fun c_11 => ?_)
      · skip
        have h := h.1 c_11
        exact jn_94 z62dd z62Lwhole z62Lwhole2 z62bm z62rr z62kt h _ _ hP hD hS ls (lv_sub hl [0, 1] rfl)
      · skip
        have h := h.2 c_11
        refine lv_iload_n hx hb d_Md_special_74 rfl (lv_at hl 1 rfl) ?_
        refine lv_bipush (v := 40) hx hb d_Md_special_75 (by decide) ?_
        refine lv_icmp_eq (tgt := 94) hx hb d_Md_special_77 (by decide) (fun c_12 => ?_) (fun c_12 => ?_)
        · skip
          have h := h.1 c_12
          exact jn_94 z62dd z62Lwhole z62Lwhole2 z62bm z62rr z62kt h _ _ hP hD hS ls (lv_sub hl [0, 1] rfl)
        · skip
          have h := h.2 c_12
          refine lv_iload_n hx hb d_Md_special_80 rfl (lv_at hl 1 rfl) ?_
          refine lv_bipush (v := 41) hx hb d_Md_special_81 (by decide) ?_
          refine lv_icmp_eq (tgt := 94) hx hb d_Md_special_83 (by decide) (fun c_13 => ?_) (fun c_13 => ?_)
          · skip
            have h := h.1 c_13
            exact jn_94 z62dd z62Lwhole z62Lwhole2 z62bm z62rr z62kt h _ _ hP hD hS ls (lv_sub hl [0, 1] rfl)
          · skip
            have h := h.2 c_13
            refine lv_aload_n hx hb d_Md_special_86 rfl (lv_at hl 0 rfl) ?_
            refine lv_iload_n hx hb d_Md_special_87 rfl (lv_at hl 1 rfl) ?_
            refine zz_Wv (As := [.int a0]) (rest := []) (wc := wD qd qmemory qr qcounts cI cB ms z62dd z62Lwhole z62Lwhole2 z62bm z62rr z62kt) (wr := []) X hK hP hD hS hA (c_Md_alu l D cI cB qd qmemory qr qcounts ms z62dd z62Lwhole z62Lwhole2 z62bm z62rr z62kt a0 _ h _) ⟨rfl, rfl⟩ m_Md_alu k_Md_160 ⟨Nat.le_of_ble_eq_true rfl, Nat.le_of_ble_eq_true rfl⟩ [0, 1, 2, 3] [] rfl rfl (by decide) (by decide) (by decide) 6 0 rfl rfl rfl rfl hl.1 rfl (Nat.le_of_ble_eq_true rfl) d_Md_special_88 hf0 (fun u_14 H locs h hP hD hS => ?_)
            have hP : va_P D vwCl (wD qd qmemory qr qcounts cI cB ms u_14.1 u_14.2.1 u_14.2.2.1 u_14.2.2.2.1 u_14.2.2.2.2.1 u_14.2.2.2.2.2) H := hP.sub [0, 1, 2, 3] rfl
            have hD : va_D A (wD qd qmemory qr qcounts cI cB ms u_14.1 u_14.2.1 u_14.2.2.1 u_14.2.2.2.1 u_14.2.2.2.2.1 u_14.2.2.2.2.2) := hD.sub [0, 1, 2, 3] (by decide) rfl
            refine lv_goto (tgt := 136) hx hb d_Md_special_91 (by decide) ?_
            exact W.vret hx hb hr (fun t ht hW => ⟨⟨(u_14.1, u_14.2.1, u_14.2.2.1, u_14.2.2.2.1, u_14.2.2.2.2.1, u_14.2.2.2.2.2), rfl, h, by rw [ht]; exact hP, hD⟩, hS.F ht⟩) hS.2.2 d_Md_special_136
  refine lv_iload_n hx hb d_Md_special_0 rfl (lv_at hl 1 rfl) ?_
  refine lv_bipush (v := 8) hx hb d_Md_special_1 (by decide) ?_
  refine lv_icmp_ge (tgt := 14) hx hb d_Md_special_3 (by decide) (fun c_16 => ?_) (fun c_16 => ?_)
  · skip
    have h := h.1 c_16
    refine lv_iload_n hx hb d_Md_special_14 rfl (lv_at hl 1 rfl) ?_
    refine lv_bipush (v := 16) hx hb d_Md_special_15 (by decide) ?_
    refine lv_icmp_ge (tgt := 28) hx hb d_Md_special_17 (by decide) (fun c_17 => ?_) (fun c_17 => ?_)
    · skip
      have h := h.1 c_17
      refine lv_iload_n hx hb d_Md_special_28 rfl (lv_at hl 1 rfl) ?_
      refine lv_bipush (v := 20) hx hb d_Md_special_29 (by decide) ?_
      refine lv_icmp_ge (tgt := 42) hx hb d_Md_special_31 (by decide) (fun c_18 => ?_) (fun c_18 => ?_)
      · skip
        have h := h.1 c_18
        refine lv_iload_n hx hb d_Md_special_42 rfl (lv_at hl 1 rfl) ?_
        refine lv_bipush (v := 24) hx hb d_Md_special_43 (by decide) ?_
        refine lv_icmp_lt (tgt := 62) hx hb d_Md_special_45 (by decide) (fun c_19 => ?_) (fun c_19 => ?_)
        · skip
          have h := h.1 c_19
          exact jn_62 dd Lwhole Lwhole2 bm rr kt h _ _ hP hD hS ls (lv_sub hl [0, 1] rfl)
        · skip
          have h := h.2 c_19
          refine lv_iload_n hx hb d_Md_special_48 rfl (lv_at hl 1 rfl) ?_
          refine lv_bipush (v := 28) hx hb d_Md_special_49 (by decide) ?_
          refine lv_icmp_ge (tgt := 62) hx hb d_Md_special_51 (by decide) (fun c_20 => ?_) (fun c_20 => ?_)
          · skip
            have h := h.1 c_20
            exact jn_62 dd Lwhole Lwhole2 bm rr kt h _ _ hP hD hS ls (lv_sub hl [0, 1] rfl)
          · skip
            have h := h.2 c_20
            refine lv_aload_n hx hb d_Md_special_54 rfl (lv_at hl 0 rfl) ?_
            refine lv_iload_n hx hb d_Md_special_55 rfl (lv_at hl 1 rfl) ?_
            refine zz_Wv (As := [.int a0]) (rest := []) (wc := wD qd qmemory qr qcounts cI cB ms dd Lwhole Lwhole2 bm rr kt) (wr := []) X hK hP hD hS hA (c_Md_products l D cI cB qd qmemory qr qcounts ms dd Lwhole Lwhole2 bm rr kt a0 _ h _) ⟨rfl, rfl⟩ m_Md_products k_Md_157 ⟨Nat.le_of_ble_eq_true rfl, Nat.le_of_ble_eq_true rfl⟩ [0, 1, 2, 3] [] rfl rfl (by decide) (by decide) (by decide) 6 0 rfl rfl rfl rfl hl.1 rfl (Nat.le_of_ble_eq_true rfl) d_Md_special_56 hf0 (fun u_21 H locs h hP hD hS => ?_)
            have hP : va_P D vwCl (wD qd qmemory qr qcounts cI cB ms u_21.1 u_21.2.1 u_21.2.2.1 u_21.2.2.2.1 u_21.2.2.2.2.1 u_21.2.2.2.2.2) H := hP.sub [0, 1, 2, 3] rfl
            have hD : va_D A (wD qd qmemory qr qcounts cI cB ms u_21.1 u_21.2.1 u_21.2.2.1 u_21.2.2.2.1 u_21.2.2.2.2.1 u_21.2.2.2.2.2) := hD.sub [0, 1, 2, 3] (by decide) rfl
            refine lv_goto (tgt := 136) hx hb d_Md_special_59 (by decide) ?_
            exact W.vret hx hb hr (fun t ht hW => ⟨⟨(u_21.1, u_21.2.1, u_21.2.2.1, u_21.2.2.2.1, u_21.2.2.2.2.1, u_21.2.2.2.2.2), rfl, h, by rw [ht]; exact hP, hD⟩, hS.F ht⟩) hS.2.2 d_Md_special_136
      · skip
        have h := h.2 c_18
        refine lv_aload_n hx hb d_Md_special_34 rfl (lv_at hl 0 rfl) ?_
        refine lv_iload_n hx hb d_Md_special_35 rfl (lv_at hl 1 rfl) ?_
        refine zz_Wv (As := [.int a0]) (rest := []) (wc := wD qd qmemory qr qcounts cI cB ms dd Lwhole Lwhole2 bm rr kt) (wr := []) X hK hP hD hS hA (c_Md_halves l D cI cB qd qmemory qr qcounts ms dd Lwhole Lwhole2 bm rr kt a0 _ h _) ⟨rfl, rfl⟩ m_Md_halves k_Md_154 ⟨Nat.le_of_ble_eq_true rfl, Nat.le_of_ble_eq_true rfl⟩ [0, 1, 2, 3] [] rfl rfl (by decide) (by decide) (by decide) 6 0 rfl rfl rfl rfl hl.1 rfl (Nat.le_of_ble_eq_true rfl) d_Md_special_36 hf0 (fun u_23 H locs h hP hD hS => ?_)
        have hP : va_P D vwCl (wD qd qmemory qr qcounts cI cB ms u_23.1 u_23.2.1 u_23.2.2.1 u_23.2.2.2.1 u_23.2.2.2.2.1 u_23.2.2.2.2.2) H := hP.sub [0, 1, 2, 3] rfl
        have hD : va_D A (wD qd qmemory qr qcounts cI cB ms u_23.1 u_23.2.1 u_23.2.2.1 u_23.2.2.2.1 u_23.2.2.2.2.1 u_23.2.2.2.2.2) := hD.sub [0, 1, 2, 3] (by decide) rfl
        refine lv_goto (tgt := 136) hx hb d_Md_special_39 (by decide) ?_
        exact W.vret hx hb hr (fun t ht hW => ⟨⟨(u_23.1, u_23.2.1, u_23.2.2.1, u_23.2.2.2.1, u_23.2.2.2.2.1, u_23.2.2.2.2.2), rfl, h, by rw [ht]; exact hP, hD⟩, hS.F ht⟩) hS.2.2 d_Md_special_136
    · skip
      have h := h.2 c_17
      refine lv_aload_n hx hb d_Md_special_20 rfl (lv_at hl 0 rfl) ?_
      refine lv_iload_n hx hb d_Md_special_21 rfl (lv_at hl 1 rfl) ?_
      refine zz_Wv (As := [.int a0]) (rest := []) (wc := wD qd qmemory qr qcounts cI cB ms dd Lwhole Lwhole2 bm rr kt) (wr := []) X hK hP hD hS hA (c_Md_moves l D cI cB qd qmemory qr qcounts ms dd Lwhole Lwhole2 bm rr kt a0 _ h _) ⟨rfl, rfl⟩ m_Md_moves k_Md_151 ⟨Nat.le_of_ble_eq_true rfl, Nat.le_of_ble_eq_true rfl⟩ [0, 1, 2, 3] [] rfl rfl (by decide) (by decide) (by decide) 6 0 rfl rfl rfl rfl hl.1 rfl (Nat.le_of_ble_eq_true rfl) d_Md_special_22 hf0 (fun u_25 H locs h hP hD hS => ?_)
      have hP : va_P D vwCl (wD qd qmemory qr qcounts cI cB ms u_25.1 u_25.2.1 u_25.2.2.1 u_25.2.2.2.1 u_25.2.2.2.2.1 u_25.2.2.2.2.2) H := hP.sub [0, 1, 2, 3] rfl
      have hD : va_D A (wD qd qmemory qr qcounts cI cB ms u_25.1 u_25.2.1 u_25.2.2.1 u_25.2.2.2.1 u_25.2.2.2.2.1 u_25.2.2.2.2.2) := hD.sub [0, 1, 2, 3] (by decide) rfl
      refine lv_goto (tgt := 136) hx hb d_Md_special_25 (by decide) ?_
      exact W.vret hx hb hr (fun t ht hW => ⟨⟨(u_25.1, u_25.2.1, u_25.2.2.1, u_25.2.2.2.1, u_25.2.2.2.2.1, u_25.2.2.2.2.2), rfl, h, by rw [ht]; exact hP, hD⟩, hS.F ht⟩) hS.2.2 d_Md_special_136
  · skip
    have h := h.2 c_16
    refine lv_aload_n hx hb d_Md_special_6 rfl (lv_at hl 0 rfl) ?_
    refine lv_iload_n hx hb d_Md_special_7 rfl (lv_at hl 1 rfl) ?_
    refine zz_Wv (As := [.int a0]) (rest := []) (wc := wD qd qmemory qr qcounts cI cB ms dd Lwhole Lwhole2 bm rr kt) (wr := []) X hK hP hD hS hA (c_Md_shifts l D cI cB qd qmemory qr qcounts ms dd Lwhole Lwhole2 bm rr kt a0 _ h _) ⟨rfl, rfl⟩ m_Md_shifts k_Md_148 ⟨Nat.le_of_ble_eq_true rfl, Nat.le_of_ble_eq_true rfl⟩ [0, 1, 2, 3] [] rfl rfl (by decide) (by decide) (by decide) 6 0 rfl rfl rfl rfl hl.1 rfl (Nat.le_of_ble_eq_true rfl) d_Md_special_8 hf0 (fun u_27 H locs h hP hD hS => ?_)
    have hP : va_P D vwCl (wD qd qmemory qr qcounts cI cB ms u_27.1 u_27.2.1 u_27.2.2.1 u_27.2.2.2.1 u_27.2.2.2.2.1 u_27.2.2.2.2.2) H := hP.sub [0, 1, 2, 3] rfl
    have hD : va_D A (wD qd qmemory qr qcounts cI cB ms u_27.1 u_27.2.1 u_27.2.2.1 u_27.2.2.2.1 u_27.2.2.2.2.1 u_27.2.2.2.2.2) := hD.sub [0, 1, 2, 3] (by decide) rfl
    refine lv_goto (tgt := 136) hx hb d_Md_special_11 (by decide) ?_
    exact W.vret hx hb hr (fun t ht hW => ⟨⟨(u_27.1, u_27.2.1, u_27.2.2.1, u_27.2.2.2.1, u_27.2.2.2.2.1, u_27.2.2.2.2.2), rfl, h, by rw [ht]; exact hP, hD⟩, hS.F ht⟩) hS.2.2 d_Md_special_136
def wp_Md_offset (ms : Int32) (dd : Nat → Int32) (Lwhole : Int64) (Lwhole2 : Int64) (bm : Nat → Int32) (rr : Nat → Int32) (kt : Nat → Int32) (P : Int32 → Prop) : Prop := ∀ x_1 : Int32, x_1 = (zz_shr (zz_shl (dd 9) (16 : Int32)) (16 : Int32)) → P x_1
abbrev rm_Md_offset : Room := { frames := 0, cells := 0, slots := 0, locals := 0 }
set_option maxHeartbeats 4000000 in
set_option maxRecDepth 100000 in
theorem c_Md_offset (l : Launch) (D : va_G) (cI : ClassId) (cB : ClassId) (qd : Nat) (qmemory : Nat) (qr : Nat) (qcounts : Nat) (ms : Int32) (dd : Nat → Int32) (Lwhole : Int64) (Lwhole2 : Int64) (bm : Nat → Int32) (rr : Nat → Int32) (kt : Nat → Int32) (P : Int32 → Prop) (h : wp_Md_offset ms dd Lwhole Lwhole2 bm rr kt P) : Met l y_Md_offset (zz_ws y_Md_offset b_Md_offset 1 (some .int)) rm_Md_offset (va_Pc [.ref qd] (zz_pr D [(cI, .int), (cB, .byte)] (wD qd qmemory qr qcounts cI cB ms dd Lwhole Lwhole2 bm rr kt))) (vp_Si P) 0 0 (fun _ => False) := by
  refine Met.ofW (cc := b_Md_offset) (maxL := 1) (ret := (some .int)) (by decide) rfl ?_
  intro p e s m args below meth c s₁ B hml hv
  obtain ⟨rfl, hP, hK⟩ := hv
  have hx := B.exec
  have hb := B.bytes
  have hr := B.returns
  have hts := atoms_spec (ws := (zz_ws y_Md_offset b_Md_offset 1 (some .int))) B.pre
  have hown : s.vm.findClass R_Md = some m.cls := findClass_of_methodNamed B.named
  have hlocks := B.notSynchronized
  have hT := zz_hts hts
  have X : CallFix p m c b_Md_offset 1 s ([.ref qd] : List Value).toArray (zz_ws y_Md_offset b_Md_offset 1 (some .int)) R_Md := ⟨hx, hb, hml, hown, hts⟩
  have hf0 : 0 + 0 ≤ (headSpec (zz_ws y_Md_offset b_Md_offset 1 (some .int)) rm_Md_offset).room.cells ∧ 0 + 0 ≤ (headSpec (zz_ws y_Md_offset b_Md_offset 1 (some .int)) rm_Md_offset).room.slots := ⟨Nat.le_of_ble_eq_true rfl, Nat.le_of_ble_eq_true rfl⟩
  have hl := lv_entry ([.ref qd]) (n := 1) (Nat.le_of_ble_eq_true rfl)
  rw [lg_entry_eq]
  generalize (lg_sl ([.ref qd]) ++ List.replicate (1 - (lg_sl ([.ref qd])).length) Slot.unset).toArray = ls at hl ⊢
  have hl : lv_has ls 1 [(0, .ref qd)] := hl
  refine lv_aload_n hx hb d_Md_offset_0 rfl (lv_at hl 0 rfl) ?_
  refine g_Md_82 (v := .int (dd 9)) hx hb hT hown hK hP 0 rfl rfl d_Md_offset_1 ?_
  refine lv_bipush (v := 16) hx hb d_Md_offset_4 (by decide) ?_
  refine zz_ishl hx hb d_Md_offset_6 ?_
  refine lv_bipush (v := 16) hx hb d_Md_offset_7 (by decide) ?_
  refine zz_ishr hx hb d_Md_offset_9 ?_
  refine lv_topi (fun x_1 ex_1 => ?_)
  have h := h x_1 ex_1
  exact W.iret (v := x_1) hx hb hr (fun t ht hW => ⟨x_1,  rfl, h, ht⟩) t_nil d_Md_offset_10
def wp_Md_near (ms : Int32) (dd : Nat → Int32) (Lwhole : Int64) (Lwhole2 : Int64) (bm : Nat → Int32) (rr : Nat → Int32) (kt : Nat → Int32) (P : Int32 → Prop) : Prop := wp_Md_offset ms dd Lwhole Lwhole2 bm rr kt (fun r_1 => ∀ x_2 : Int32, x_2 = (((dd 3) + (4 : Int32)) + (zz_shl r_1 (2 : Int32))) → P x_2)
abbrev rm_Md_near : Room := { frames := 1, cells := 0, slots := 0, locals := 20 }
set_option maxHeartbeats 4000000 in
set_option maxRecDepth 100000 in
theorem c_Md_near (l : Launch) (D : va_G) (cI : ClassId) (cB : ClassId) (qd : Nat) (qmemory : Nat) (qr : Nat) (qcounts : Nat) (ms : Int32) (dd : Nat → Int32) (Lwhole : Int64) (Lwhole2 : Int64) (bm : Nat → Int32) (rr : Nat → Int32) (kt : Nat → Int32) (P : Int32 → Prop) (h : wp_Md_near ms dd Lwhole Lwhole2 bm rr kt P) : Met l y_Md_near (zz_ws y_Md_near b_Md_near 1 (some .int)) rm_Md_near (va_Pc [.ref qd] (zz_pr D [(cI, .int), (cB, .byte)] (wD qd qmemory qr qcounts cI cB ms dd Lwhole Lwhole2 bm rr kt))) (vp_Si P) 0 0 (fun _ => False) := by
  refine Met.ofW (cc := b_Md_near) (maxL := 1) (ret := (some .int)) (by decide) rfl ?_
  intro p e s m args below meth c s₁ B hml hv
  obtain ⟨rfl, hP, hK⟩ := hv
  have hx := B.exec
  have hb := B.bytes
  have hr := B.returns
  have hts := atoms_spec (ws := (zz_ws y_Md_near b_Md_near 1 (some .int))) B.pre
  have hown : s.vm.findClass R_Md = some m.cls := findClass_of_methodNamed B.named
  have hlocks := B.notSynchronized
  have hT := zz_hts hts
  have X : CallFix p m c b_Md_near 1 s ([.ref qd] : List Value).toArray (zz_ws y_Md_near b_Md_near 1 (some .int)) R_Md := ⟨hx, hb, hml, hown, hts⟩
  have hf0 : 0 + 0 ≤ (headSpec (zz_ws y_Md_near b_Md_near 1 (some .int)) rm_Md_near).room.cells ∧ 0 + 0 ≤ (headSpec (zz_ws y_Md_near b_Md_near 1 (some .int)) rm_Md_near).room.slots := ⟨Nat.le_of_ble_eq_true rfl, Nat.le_of_ble_eq_true rfl⟩
  have hl := lv_entry ([.ref qd]) (n := 1) (Nat.le_of_ble_eq_true rfl)
  rw [lg_entry_eq]
  generalize (lg_sl ([.ref qd]) ++ List.replicate (1 - (lg_sl ([.ref qd])).length) Slot.unset).toArray = ls at hl ⊢
  have hl : lv_has ls 1 [(0, .ref qd)] := hl
  refine lv_aload_n hx hb d_Md_near_0 rfl (lv_at hl 0 rfl) ?_
  refine g_Md_54 (v := .int (dd 3)) hx hb hT hown hK hP 0 rfl rfl d_Md_near_1 ?_
  refine lv_iconst (v := 4) hx hb d_Md_near_4 (by decide) ?_
  refine lv_iadd hx hb d_Md_near_5 ?_
  refine lv_aload_n hx hb d_Md_near_6 rfl (lv_at hl 0 rfl) ?_
  refine zz_Ri (As := []) (rest := [.int ((dd 3) + (4 : Int32))]) (wc := wD qd qmemory qr qcounts cI cB ms dd Lwhole Lwhole2 bm rr kt) X hK hP (c_Md_offset l D cI cB qd qmemory qr qcounts ms dd Lwhole Lwhole2 bm rr kt _ h) ⟨rfl, rfl⟩ m_Md_offset k_Md_119 ⟨Nat.le_of_ble_eq_true rfl, Nat.le_of_ble_eq_true rfl⟩ [0, 1, 2, 3] rfl 6 0 rfl rfl rfl rfl hl.1 rfl (Nat.le_of_ble_eq_true rfl) d_Md_near_7 hf0 (fun r_1 h => ?_)
  refine lv_iconst (v := 2) hx hb d_Md_near_10 (by decide) ?_
  refine zz_ishl hx hb d_Md_near_11 ?_
  refine lv_iadd hx hb d_Md_near_12 ?_
  refine lv_topi (fun x_2 ex_2 => ?_)
  have h := h x_2 ex_2
  exact W.iret (v := x_2) hx hb hr (fun t ht hW => ⟨x_2,  rfl, h, ht⟩) t_nil d_Md_near_13
def wj_Md_immediate_163 (ms : Int32) (a0 : Int32) (P : ((Nat → Int32) × Int64 × Int64 × (Nat → Int32) × (Nat → Int32) × (Nat → Int32)) → Prop) (z163dd : Nat → Int32) (z163Lwhole : Int64) (z163Lwhole2 : Int64) (z163bm : Nat → Int32) (z163rr : Nat → Int32) (z163kt : Nat → Int32) : Prop := wp_Md_ends ms z163dd z163Lwhole z163Lwhole2 z163bm z163rr z163kt (3 : Int32) (fun u_1 => P (u_1.1, u_1.2.1, u_1.2.2.1, u_1.2.2.2.1, u_1.2.2.2.2.1, u_1.2.2.2.2.2))
def wj_Md_immediate_98 (ms : Int32) (a0 : Int32) (P : ((Nat → Int32) × Int64 × Int64 × (Nat → Int32) × (Nat → Int32) × (Nat → Int32)) → Prop) (j98_2 : Int32) (s98_1 : Int32) (s98_2 : Int32) (s98_3 : Int32) (z98dd : Nat → Int32) (z98Lwhole : Int64) (z98Lwhole2 : Int64) (z98bm : Nat → Int32) (z98rr : Nat → Int32) (z98kt : Nat → Int32) : Prop := wp_Md_jumps ms z98dd z98Lwhole z98Lwhole2 z98bm z98rr z98kt s98_1 s98_2 s98_3 (fun u_3 => ((j98_2 = (0 : Int32) → P (u_3.1, u_3.2.1, u_3.2.2.1, u_3.2.2.2.1, u_3.2.2.2.2.1, u_3.2.2.2.2.2)) ∧ (¬ j98_2 = (0 : Int32) → (((u_3.1 5) = (0 : Int32) → wp_Md_into ms u_3.1 u_3.2.1 u_3.2.2.1 u_3.2.2.2.1 u_3.2.2.2.2.1 u_3.2.2.2.2.2 (31 : Int32) ((u_3.1 3) + (8 : Int32)) (fun u_7 => P (u_7.1, u_7.2.1, u_7.2.2.1, u_7.2.2.2.1, u_7.2.2.2.2.1, u_7.2.2.2.2.2))) ∧ (¬ (u_3.1 5) = (0 : Int32) → P (u_3.1, u_3.2.1, u_3.2.2.1, u_3.2.2.2.1, u_3.2.2.2.2.1, u_3.2.2.2.2.2))))))
def wj_Md_immediate_82 (ms : Int32) (a0 : Int32) (P : ((Nat → Int32) × Int64 × Int64 × (Nat → Int32) × (Nat → Int32) × (Nat → Int32)) → Prop) (j82_2 : Int32) (s82_1 : Int32) (z82dd : Nat → Int32) (z82Lwhole : Int64) (z82Lwhole2 : Int64) (z82bm : Nat → Int32) (z82rr : Nat → Int32) (z82kt : Nat → Int32) : Prop := wp_Md_near ms z82dd z82Lwhole z82Lwhole2 z82bm z82rr z82kt (fun r_9 => (((a0 &&& (2 : Int32)) = (2 : Int32) → wj_Md_immediate_98 ms a0 P j82_2 s82_1 r_9 (1 : Int32) z82dd z82Lwhole z82Lwhole2 z82bm z82rr z82kt) ∧ (¬ (a0 &&& (2 : Int32)) = (2 : Int32) → wj_Md_immediate_98 ms a0 P j82_2 s82_1 r_9 (0 : Int32) z82dd z82Lwhole z82Lwhole2 z82bm z82rr z82kt)))
def wj_Md_immediate_48 (ms : Int32) (a0 : Int32) (P : ((Nat → Int32) × Int64 × Int64 × (Nat → Int32) × (Nat → Int32) × (Nat → Int32)) → Prop) (j48_2 : Int32) (z48dd : Nat → Int32) (z48Lwhole : Int64) (z48Lwhole2 : Int64) (z48bm : Nat → Int32) (z48rr : Nat → Int32) (z48kt : Nat → Int32) : Prop := (((a0 &&& (1 : Int32)) = (0 : Int32) → wp_Md_rs ms z48dd z48Lwhole z48Lwhole2 z48bm z48rr z48kt (fun r_14 => (((0 : Int32) ≤ r_14 → wj_Md_immediate_82 ms a0 P j48_2 (0 : Int32) z48dd z48Lwhole z48Lwhole2 z48bm z48rr z48kt) ∧ (¬ (0 : Int32) ≤ r_14 → wj_Md_immediate_82 ms a0 P j48_2 (1 : Int32) z48dd z48Lwhole z48Lwhole2 z48bm z48rr z48kt)))) ∧ (¬ (a0 &&& (1 : Int32)) = (0 : Int32) → wp_Md_rs ms z48dd z48Lwhole z48Lwhole2 z48bm z48rr z48kt (fun r_12 => ((r_12 < (0 : Int32) → wj_Md_immediate_82 ms a0 P j48_2 (0 : Int32) z48dd z48Lwhole z48Lwhole2 z48bm z48rr z48kt) ∧ (¬ r_12 < (0 : Int32) → wj_Md_immediate_82 ms a0 P j48_2 (1 : Int32) z48dd z48Lwhole z48Lwhole2 z48bm z48rr z48kt)))))
def wj_Md_immediate_27 (ms : Int32) (a0 : Int32) (P : ((Nat → Int32) × Int64 × Int64 × (Nat → Int32) × (Nat → Int32) × (Nat → Int32)) → Prop) (j27_2 : Int32) (z27dd : Nat → Int32) (z27Lwhole : Int64) (z27Lwhole2 : Int64) (z27bm : Nat → Int32) (z27rr : Nat → Int32) (z27kt : Nat → Int32) : Prop := ((j27_2 = (0 : Int32) → wj_Md_immediate_48 ms a0 P j27_2 z27dd z27Lwhole z27Lwhole2 z27bm z27rr z27kt) ∧ (¬ j27_2 = (0 : Int32) → wp_Md_field ms z27dd z27Lwhole z27Lwhole2 z27bm z27rr z27kt (21 : Int32) (fun r_17 => ((r_17 = (31 : Int32) → wp_Md_ends ms z27dd z27Lwhole z27Lwhole2 z27bm z27rr z27kt (8 : Int32) (fun u_19 => wj_Md_immediate_48 ms a0 P j27_2 u_19.1 u_19.2.1 u_19.2.2.1 u_19.2.2.2.1 u_19.2.2.2.2.1 u_19.2.2.2.2.2)) ∧ (¬ r_17 = (31 : Int32) → wj_Md_immediate_48 ms a0 P j27_2 z27dd z27Lwhole z27Lwhole2 z27bm z27rr z27kt)))))
def wj_Md_immediate_17 (ms : Int32) (a0 : Int32) (P : ((Nat → Int32) × Int64 × Int64 × (Nat → Int32) × (Nat → Int32) × (Nat → Int32)) → Prop) (s17_0 : Int32) (z17dd : Nat → Int32) (z17Lwhole : Int64) (z17Lwhole2 : Int64) (z17bm : Nat → Int32) (z17rr : Nat → Int32) (z17kt : Nat → Int32) : Prop := ((a0 < (4 : Int32) → wj_Md_immediate_27 ms a0 P s17_0 z17dd z17Lwhole z17Lwhole2 z17bm z17rr z17kt) ∧ (¬ a0 < (4 : Int32) → ((s17_0 = (0 : Int32) → ((a0 < (8 : Int32) → wj_Md_immediate_163 ms a0 P z17dd z17Lwhole z17Lwhole2 z17bm z17rr z17kt) ∧ (¬ a0 < (8 : Int32) → (((15 : Int32) ≤ a0 → wj_Md_immediate_163 ms a0 P z17dd z17Lwhole z17Lwhole2 z17bm z17rr z17kt) ∧ (¬ (15 : Int32) ≤ a0 → ((a0 = (13 : Int32) → wj_Md_immediate_163 ms a0 P z17dd z17Lwhole z17Lwhole2 z17bm z17rr z17kt) ∧ (¬ a0 = (13 : Int32) → wp_Md_rs ms z17dd z17Lwhole z17Lwhole2 z17bm z17rr z17kt (fun r_26 => wp_Md_offset ms z17dd z17Lwhole z17Lwhole2 z17bm z17rr z17kt (fun r_27 => wp_Md_trap ms z17dd z17Lwhole z17Lwhole2 z17bm z17rr z17kt (a0 - (8 : Int32)) r_26 r_27 (fun u_28 => P (u_28.1, u_28.2.1, u_28.2.2.1, u_28.2.2.2.1, u_28.2.2.2.2.1, u_28.2.2.2.2.2))))))))))) ∧ (¬ s17_0 = (0 : Int32) → wj_Md_immediate_27 ms a0 P s17_0 z17dd z17Lwhole z17Lwhole2 z17bm z17rr z17kt))))
def wj_Md_immediate_16 (ms : Int32) (a0 : Int32) (P : ((Nat → Int32) × Int64 × Int64 × (Nat → Int32) × (Nat → Int32) × (Nat → Int32)) → Prop) (z16dd : Nat → Int32) (z16Lwhole : Int64) (z16Lwhole2 : Int64) (z16bm : Nat → Int32) (z16rr : Nat → Int32) (z16kt : Nat → Int32) : Prop := wj_Md_immediate_17 ms a0 P (0 : Int32) z16dd z16Lwhole z16Lwhole2 z16bm z16rr z16kt
def wp_Md_immediate (ms : Int32) (dd : Nat → Int32) (Lwhole : Int64) (Lwhole2 : Int64) (bm : Nat → Int32) (rr : Nat → Int32) (kt : Nat → Int32) (a0 : Int32) (P : ((Nat → Int32) × Int64 × Int64 × (Nat → Int32) × (Nat → Int32) × (Nat → Int32)) → Prop) : Prop := ((a0 < (16 : Int32) → wj_Md_immediate_16 ms a0 P dd Lwhole Lwhole2 bm rr kt) ∧ (¬ a0 < (16 : Int32) → (((20 : Int32) ≤ a0 → wj_Md_immediate_16 ms a0 P dd Lwhole Lwhole2 bm rr kt) ∧ (¬ (20 : Int32) ≤ a0 → wj_Md_immediate_17 ms a0 P (1 : Int32) dd Lwhole Lwhole2 bm rr kt))))
abbrev rm_Md_immediate : Room := { frames := 2, cells := 0, slots := 0, locals := 45 }
set_option maxHeartbeats 4000000 in
set_option maxRecDepth 100000 in
theorem c_Md_immediate (l : Launch) (D : va_G) (cI : ClassId) (cB : ClassId) (qd : Nat) (qmemory : Nat) (qr : Nat) (qcounts : Nat) (ms : Int32) (dd : Nat → Int32) (Lwhole : Int64) (Lwhole2 : Int64) (bm : Nat → Int32) (rr : Nat → Int32) (kt : Nat → Int32) (a0 : Int32) (P : ((Nat → Int32) × Int64 × Int64 × (Nat → Int32) × (Nat → Int32) × (Nat → Int32)) → Prop) (h : wp_Md_immediate ms dd Lwhole Lwhole2 bm rr kt a0 P) (sz : Nat) : Met l y_Md_immediate (zz_ws y_Md_immediate b_Md_immediate 3 none) rm_Md_immediate (va_Pc [.ref qd, .int a0] (zz_pw D [(cI, .int), (cB, .byte)] (wD qd qmemory qr qcounts cI cB ms dd Lwhole Lwhole2 bm rr kt) sz)) (va_Qv P (zz_qw D (fun u => wD qd qmemory qr qcounts cI cB ms u.1 u.2.1 u.2.2.1 u.2.2.2.1 u.2.2.2.2.1 u.2.2.2.2.2) (va_A (wD qd qmemory qr qcounts cI cB ms dd Lwhole Lwhole2 bm rr kt) sz)) (va_A (wD qd qmemory qr qcounts cI cB ms dd Lwhole Lwhole2 bm rr kt) sz)) 0 0 (va_A (wD qd qmemory qr qcounts cI cB ms dd Lwhole Lwhole2 bm rr kt) sz) := by
  refine Met.ofW (cc := b_Md_immediate) (maxL := 3) (ret := none) (by decide) rfl ?_
  intro p e s m args below meth c s₁ B hml hv
  obtain ⟨rfl, hsz, hP, hK, hD0⟩ := hv
  have hx := B.exec
  have hb := B.bytes
  have hr := B.returns
  have hts := atoms_spec (ws := (zz_ws y_Md_immediate b_Md_immediate 3 none)) B.pre
  have hown : s.vm.findClass R_Md = some m.cls := findClass_of_methodNamed B.named
  have hlocks := B.notSynchronized
  have hT := zz_hts hts
  have X : CallFix p m c b_Md_immediate 3 s ([.ref qd, .int a0] : List Value).toArray (zz_ws y_Md_immediate b_Md_immediate 3 none) R_Md := ⟨hx, hb, hml, hown, hts⟩
  have hf0 : 0 + 0 ≤ (headSpec (zz_ws y_Md_immediate b_Md_immediate 3 none) rm_Md_immediate).room.cells ∧ 0 + 0 ≤ (headSpec (zz_ws y_Md_immediate b_Md_immediate 3 none) rm_Md_immediate).room.slots := ⟨Nat.le_of_ble_eq_true rfl, Nat.le_of_ble_eq_true rfl⟩
  subst hsz
  have hD := hD0.self (sz := s.heap.size)
  generalize hAe : va_A (wD qd qmemory qr qcounts cI cB ms dd Lwhole Lwhole2 bm rr kt) s.heap.size = A at hD ⊢
  have hA : ∀ q : Nat, s.heap.size ≤ q → A q := fun q h => by rw [← hAe]; exact Or.inr h
  have hS : va_S A s.heap s.heap [] := va_S.rf
  have hl := lv_entry ([.ref qd, .int a0]) (n := 3) (Nat.le_of_ble_eq_true rfl)
  rw [lg_entry_eq]
  generalize (lg_sl ([.ref qd, .int a0]) ++ List.replicate (3 - (lg_sl ([.ref qd, .int a0])).length) Slot.unset).toArray = ls at hl ⊢
  have hl : lv_has ls 3 [(0, .ref qd), (1, .int a0)] := hl
  have jn_163 : ∀ (z163dd : Nat → Int32) (z163Lwhole : Int64) (z163Lwhole2 : Int64) (z163bm : Nat → Int32) (z163rr : Nat → Int32) (z163kt : Nat → Int32), wj_Md_immediate_163 ms a0 P z163dd z163Lwhole z163Lwhole2 z163bm z163rr z163kt → ∀ (H : Heap) (locs : List Loc), va_P D vwCl (wD qd qmemory qr qcounts cI cB ms z163dd z163Lwhole z163Lwhole2 z163bm z163rr z163kt) H → va_D A (wD qd qmemory qr qcounts cI cB ms z163dd z163Lwhole z163Lwhole2 z163bm z163rr z163kt) → va_S A s.heap H locs → ∀ ls : Array Slot, lv_has ls 3 [(0, .ref qd)] → W p l e (headSpec (zz_ws y_Md_immediate b_Md_immediate 3 none) rm_Md_immediate).room s m ([.ref qd, .int a0] : List Value).toArray below meth c H locs 0 0 (MQ below (va_Qv P (zz_qw D (fun u => wD qd qmemory qr qcounts cI cB ms u.1 u.2.1 u.2.2.1 u.2.2.2.1 u.2.2.2.2.1 u.2.2.2.2.2) A) A) ([.ref qd, .int a0] : List Value).toArray s 0 0 A) (F0 m 163 ls []) := by
    intro z163dd z163Lwhole z163Lwhole2 z163bm z163rr z163kt h H locs hP hD hS ls hl
    unfold wj_Md_immediate_163 at h
    refine lv_aload_n hx hb d_Md_immediate_163 rfl (lv_at hl 0 rfl) ?_
    refine lv_iconst (v := 3) hx hb d_Md_immediate_164 (by decide) ?_
    refine zz_Wv (As := [.int (3 : Int32)]) (rest := []) (wc := wD qd qmemory qr qcounts cI cB ms z163dd z163Lwhole z163Lwhole2 z163bm z163rr z163kt) (wr := []) X hK hP hD hS hA (c_Md_ends l D cI cB qd qmemory qr qcounts ms z163dd z163Lwhole z163Lwhole2 z163bm z163rr z163kt (3 : Int32) _ h _) ⟨rfl, rfl⟩ m_Md_ends k_Md_116 ⟨Nat.le_of_ble_eq_true rfl, Nat.le_of_ble_eq_true rfl⟩ [0, 1, 2, 3] [] rfl rfl (by decide) (by decide) (by decide) 6 0 rfl rfl rfl rfl hl.1 rfl (Nat.le_of_ble_eq_true rfl) d_Md_immediate_165 hf0 (fun u_1 H locs h hP hD hS => ?_)
    have hP : va_P D vwCl (wD qd qmemory qr qcounts cI cB ms u_1.1 u_1.2.1 u_1.2.2.1 u_1.2.2.2.1 u_1.2.2.2.2.1 u_1.2.2.2.2.2) H := hP.sub [0, 1, 2, 3] rfl
    have hD : va_D A (wD qd qmemory qr qcounts cI cB ms u_1.1 u_1.2.1 u_1.2.2.1 u_1.2.2.2.1 u_1.2.2.2.2.1 u_1.2.2.2.2.2) := hD.sub [0, 1, 2, 3] (by decide) rfl
    exact W.vret hx hb hr (fun t ht hW => ⟨⟨(u_1.1, u_1.2.1, u_1.2.2.1, u_1.2.2.2.1, u_1.2.2.2.2.1, u_1.2.2.2.2.2), rfl, h, by rw [ht]; exact hP, hD⟩, hS.F ht⟩) hS.2.2 d_Md_immediate_168
  have jn_98 : ∀ (j98_2 : Int32) (s98_1 : Int32) (s98_2 : Int32) (s98_3 : Int32) (z98dd : Nat → Int32) (z98Lwhole : Int64) (z98Lwhole2 : Int64) (z98bm : Nat → Int32) (z98rr : Nat → Int32) (z98kt : Nat → Int32), wj_Md_immediate_98 ms a0 P j98_2 s98_1 s98_2 s98_3 z98dd z98Lwhole z98Lwhole2 z98bm z98rr z98kt → ∀ (H : Heap) (locs : List Loc), va_P D vwCl (wD qd qmemory qr qcounts cI cB ms z98dd z98Lwhole z98Lwhole2 z98bm z98rr z98kt) H → va_D A (wD qd qmemory qr qcounts cI cB ms z98dd z98Lwhole z98Lwhole2 z98bm z98rr z98kt) → va_S A s.heap H locs → ∀ ls : Array Slot, lv_has ls 3 [(0, .ref qd), (2, .int j98_2)] → W p l e (headSpec (zz_ws y_Md_immediate b_Md_immediate 3 none) rm_Md_immediate).room s m ([.ref qd, .int a0] : List Value).toArray below meth c H locs 0 0 (MQ below (va_Qv P (zz_qw D (fun u => wD qd qmemory qr qcounts cI cB ms u.1 u.2.1 u.2.2.1 u.2.2.2.1 u.2.2.2.2.1 u.2.2.2.2.2) A) A) ([.ref qd, .int a0] : List Value).toArray s 0 0 A) (F0 m 98 ls [.int s98_3, .int s98_2, .int s98_1, .ref qd]) := by
    intro j98_2 s98_1 s98_2 s98_3 z98dd z98Lwhole z98Lwhole2 z98bm z98rr z98kt h H locs hP hD hS ls hl
    unfold wj_Md_immediate_98 at h
    refine zz_Wv (As := [.int s98_1, .int s98_2, .int s98_3]) (rest := []) (wc := wD qd qmemory qr qcounts cI cB ms z98dd z98Lwhole z98Lwhole2 z98bm z98rr z98kt) (wr := []) X hK hP hD hS hA (c_Md_jumps l D cI cB qd qmemory qr qcounts ms z98dd z98Lwhole z98Lwhole2 z98bm z98rr z98kt s98_1 s98_2 s98_3 _ h _) ⟨rfl, rfl⟩ m_Md_jumps k_Md_124 ⟨Nat.le_of_ble_eq_true rfl, Nat.le_of_ble_eq_true rfl⟩ [0, 1, 2, 3] [] rfl rfl (by decide) (by decide) (by decide) 6 0 rfl rfl rfl rfl hl.1 rfl (Nat.le_of_ble_eq_true rfl) d_Md_immediate_98 hf0 (fun u_3 H locs h hP hD hS => ?_)
    have hP : va_P D vwCl (wD qd qmemory qr qcounts cI cB ms u_3.1 u_3.2.1 u_3.2.2.1 u_3.2.2.2.1 u_3.2.2.2.2.1 u_3.2.2.2.2.2) H := hP.sub [0, 1, 2, 3] rfl
    have hD : va_D A (wD qd qmemory qr qcounts cI cB ms u_3.1 u_3.2.1 u_3.2.2.1 u_3.2.2.2.1 u_3.2.2.2.2.1 u_3.2.2.2.2.2) := hD.sub [0, 1, 2, 3] (by decide) rfl
    refine lv_iload_n hx hb d_Md_immediate_101 rfl (lv_at hl 1 rfl) ?_
    refine lv_if_eq (tgt := 125) hx hb d_Md_immediate_102 (by decide) (fun c_5 => ?_) (fun c_5 => ?_)
    · skip
      have h := h.1 c_5
      exact W.vret hx hb hr (fun t ht hW => ⟨⟨(u_3.1, u_3.2.1, u_3.2.2.1, u_3.2.2.2.1, u_3.2.2.2.2.1, u_3.2.2.2.2.2), rfl, h, by rw [ht]; exact hP, hD⟩, hS.F ht⟩) hS.2.2 d_Md_immediate_125
    · skip
      have h := h.2 c_5
      refine lv_aload_n hx hb d_Md_immediate_105 rfl (lv_at hl 0 rfl) ?_
      refine g_Md_63 (v := .int (u_3.1 5)) hx hb hT hown hK hP 0 rfl rfl d_Md_immediate_106 ?_
      refine lv_if_ne (tgt := 125) hx hb d_Md_immediate_109 (by decide) (fun c_6 => ?_) (fun c_6 => ?_)
      · skip
        have h := h.2 c_6
        exact W.vret hx hb hr (fun t ht hW => ⟨⟨(u_3.1, u_3.2.1, u_3.2.2.1, u_3.2.2.2.1, u_3.2.2.2.2.1, u_3.2.2.2.2.2), rfl, h, by rw [ht]; exact hP, hD⟩, hS.F ht⟩) hS.2.2 d_Md_immediate_125
      · skip
        have h := h.1 c_6
        refine lv_aload_n hx hb d_Md_immediate_112 rfl (lv_at hl 0 rfl) ?_
        refine lv_bipush (v := 31) hx hb d_Md_immediate_113 (by decide) ?_
        refine lv_aload_n hx hb d_Md_immediate_115 rfl (lv_at hl 0 rfl) ?_
        refine g_Md_54 (v := .int (u_3.1 3)) hx hb hT hown hK hP 0 rfl rfl d_Md_immediate_116 ?_
        refine lv_bipush (v := 8) hx hb d_Md_immediate_119 (by decide) ?_
        refine lv_iadd hx hb d_Md_immediate_121 ?_
        refine zz_Wv (As := [.int (31 : Int32), .int ((u_3.1 3) + (8 : Int32))]) (rest := []) (wc := wD qd qmemory qr qcounts cI cB ms u_3.1 u_3.2.1 u_3.2.2.1 u_3.2.2.2.1 u_3.2.2.2.2.1 u_3.2.2.2.2.2) (wr := []) X hK hP hD hS hA (c_Md_into l D cI cB qd qmemory qr qcounts ms u_3.1 u_3.2.1 u_3.2.2.1 u_3.2.2.2.1 u_3.2.2.2.2.1 u_3.2.2.2.2.2 (31 : Int32) ((u_3.1 3) + (8 : Int32)) _ h _) ⟨rfl, rfl⟩ m_Md_into k_Md_128 ⟨Nat.le_of_ble_eq_true rfl, Nat.le_of_ble_eq_true rfl⟩ [0, 1, 2, 3] [] rfl rfl (by decide) (by decide) (by decide) 6 0 rfl rfl rfl rfl hl.1 rfl (Nat.le_of_ble_eq_true rfl) d_Md_immediate_122 hf0 (fun u_7 H locs h hP hD hS => ?_)
        have hP : va_P D vwCl (wD qd qmemory qr qcounts cI cB ms u_7.1 u_7.2.1 u_7.2.2.1 u_7.2.2.2.1 u_7.2.2.2.2.1 u_7.2.2.2.2.2) H := hP.sub [0, 1, 2, 3] rfl
        have hD : va_D A (wD qd qmemory qr qcounts cI cB ms u_7.1 u_7.2.1 u_7.2.2.1 u_7.2.2.2.1 u_7.2.2.2.2.1 u_7.2.2.2.2.2) := hD.sub [0, 1, 2, 3] (by decide) rfl
        exact W.vret hx hb hr (fun t ht hW => ⟨⟨(u_7.1, u_7.2.1, u_7.2.2.1, u_7.2.2.2.1, u_7.2.2.2.2.1, u_7.2.2.2.2.2), rfl, h, by rw [ht]; exact hP, hD⟩, hS.F ht⟩) hS.2.2 d_Md_immediate_125
  have jn_82 : ∀ (j82_2 : Int32) (s82_1 : Int32) (z82dd : Nat → Int32) (z82Lwhole : Int64) (z82Lwhole2 : Int64) (z82bm : Nat → Int32) (z82rr : Nat → Int32) (z82kt : Nat → Int32), wj_Md_immediate_82 ms a0 P j82_2 s82_1 z82dd z82Lwhole z82Lwhole2 z82bm z82rr z82kt → ∀ (H : Heap) (locs : List Loc), va_P D vwCl (wD qd qmemory qr qcounts cI cB ms z82dd z82Lwhole z82Lwhole2 z82bm z82rr z82kt) H → va_D A (wD qd qmemory qr qcounts cI cB ms z82dd z82Lwhole z82Lwhole2 z82bm z82rr z82kt) → va_S A s.heap H locs → ∀ ls : Array Slot, lv_has ls 3 [(0, .ref qd), (1, .int a0), (2, .int j82_2)] → W p l e (headSpec (zz_ws y_Md_immediate b_Md_immediate 3 none) rm_Md_immediate).room s m ([.ref qd, .int a0] : List Value).toArray below meth c H locs 0 0 (MQ below (va_Qv P (zz_qw D (fun u => wD qd qmemory qr qcounts cI cB ms u.1 u.2.1 u.2.2.1 u.2.2.2.1 u.2.2.2.2.1 u.2.2.2.2.2) A) A) ([.ref qd, .int a0] : List Value).toArray s 0 0 A) (F0 m 82 ls [.int s82_1, .ref qd]) := by
    intro j82_2 s82_1 z82dd z82Lwhole z82Lwhole2 z82bm z82rr z82kt h H locs hP hD hS ls hl
    unfold wj_Md_immediate_82 at h
    refine lv_aload_n hx hb d_Md_immediate_82 rfl (lv_at hl 0 rfl) ?_
    refine zz_Ri (As := []) (rest := [.int s82_1, .ref qd]) (wc := wD qd qmemory qr qcounts cI cB ms z82dd z82Lwhole z82Lwhole2 z82bm z82rr z82kt) X hK hP (c_Md_near l D cI cB qd qmemory qr qcounts ms z82dd z82Lwhole z82Lwhole2 z82bm z82rr z82kt _ h) ⟨rfl, rfl⟩ m_Md_near k_Md_138 ⟨Nat.le_of_ble_eq_true rfl, Nat.le_of_ble_eq_true rfl⟩ [0, 1, 2, 3] rfl 6 0 rfl rfl rfl rfl hl.1 rfl (Nat.le_of_ble_eq_true rfl) d_Md_immediate_83 hf0 (fun r_9 h => ?_)
    refine lv_iload_n hx hb d_Md_immediate_86 rfl (lv_at hl 1 rfl) ?_
    refine lv_iconst (v := 2) hx hb d_Md_immediate_87 (by decide) ?_
    refine lv_iand hx hb d_Md_immediate_88 ?_
    refine lv_iconst (v := 2) hx hb d_Md_immediate_89 (by decide) ?_
    refine lv_icmp_ne (tgt := 97) hx hb d_Md_immediate_90 (by decide) (fun c_10 => ?_) (fun c_10 => ?_)
    · skip
      have h := h.2 c_10
      refine lv_iconst (v := 0) hx hb d_Md_immediate_97 (by decide) ?_
      exact jn_98 j82_2 s82_1 r_9 (0 : Int32) z82dd z82Lwhole z82Lwhole2 z82bm z82rr z82kt h _ _ hP hD hS ls (lv_sub hl [0, 2] rfl)
    · skip
      have h := h.1 c_10
      refine lv_iconst (v := 1) hx hb d_Md_immediate_93 (by decide) ?_
      refine lv_goto (tgt := 98) hx hb d_Md_immediate_94 (by decide) ?_
      exact jn_98 j82_2 s82_1 r_9 (1 : Int32) z82dd z82Lwhole z82Lwhole2 z82bm z82rr z82kt h _ _ hP hD hS ls (lv_sub hl [0, 2] rfl)
  have jn_48 : ∀ (j48_2 : Int32) (z48dd : Nat → Int32) (z48Lwhole : Int64) (z48Lwhole2 : Int64) (z48bm : Nat → Int32) (z48rr : Nat → Int32) (z48kt : Nat → Int32), wj_Md_immediate_48 ms a0 P j48_2 z48dd z48Lwhole z48Lwhole2 z48bm z48rr z48kt → ∀ (H : Heap) (locs : List Loc), va_P D vwCl (wD qd qmemory qr qcounts cI cB ms z48dd z48Lwhole z48Lwhole2 z48bm z48rr z48kt) H → va_D A (wD qd qmemory qr qcounts cI cB ms z48dd z48Lwhole z48Lwhole2 z48bm z48rr z48kt) → va_S A s.heap H locs → ∀ ls : Array Slot, lv_has ls 3 [(0, .ref qd), (1, .int a0), (2, .int j48_2)] → W p l e (headSpec (zz_ws y_Md_immediate b_Md_immediate 3 none) rm_Md_immediate).room s m ([.ref qd, .int a0] : List Value).toArray below meth c H locs 0 0 (MQ below (va_Qv P (zz_qw D (fun u => wD qd qmemory qr qcounts cI cB ms u.1 u.2.1 u.2.2.1 u.2.2.2.1 u.2.2.2.2.1 u.2.2.2.2.2) A) A) ([.ref qd, .int a0] : List Value).toArray s 0 0 A) (F0 m 48 ls []) := by
    intro j48_2 z48dd z48Lwhole z48Lwhole2 z48bm z48rr z48kt h H locs hP hD hS ls hl
    unfold wj_Md_immediate_48 at h
    refine lv_aload_n hx hb d_Md_immediate_48 rfl (lv_at hl 0 rfl) ?_
    refine lv_iload_n hx hb d_Md_immediate_49 rfl (lv_at hl 1 rfl) ?_
    refine lv_iconst (v := 1) hx hb d_Md_immediate_50 (by decide) ?_
    refine lv_iand hx hb d_Md_immediate_51 ?_
    refine lv_if_ne (tgt := 70) hx hb d_Md_immediate_52 (by decide) (fun c_11 => ?_) (fun c_11 => ?_)
    · skip
      have h := h.2 c_11
      refine lv_aload_n hx hb d_Md_immediate_70 rfl (lv_at hl 0 rfl) ?_
      refine zz_Ri (As := []) (rest := [.ref qd]) (wc := wD qd qmemory qr qcounts cI cB ms z48dd z48Lwhole z48Lwhole2 z48bm z48rr z48kt) X hK hP (c_Md_rs l D cI cB qd qmemory qr qcounts ms z48dd z48Lwhole z48Lwhole2 z48bm z48rr z48kt _ h) ⟨rfl, rfl⟩ m_Md_rs k_Md_132 ⟨Nat.le_of_ble_eq_true rfl, Nat.le_of_ble_eq_true rfl⟩ [0, 1, 2, 3] rfl 6 0 rfl rfl rfl rfl hl.1 rfl (Nat.le_of_ble_eq_true rfl) d_Md_immediate_71 hf0 (fun r_12 h => ?_)
      refine lv_if_lt (tgt := 81) hx hb d_Md_immediate_74 (by decide) (fun c_13 => ?_) (fun c_13 => ?_)
      · skip
        have h := h.1 c_13
        refine lv_iconst (v := 0) hx hb d_Md_immediate_81 (by decide) ?_
        exact jn_82 j48_2 (0 : Int32) z48dd z48Lwhole z48Lwhole2 z48bm z48rr z48kt h _ _ hP hD hS ls (lv_sub hl [0, 1, 2] rfl)
      · skip
        have h := h.2 c_13
        refine lv_iconst (v := 1) hx hb d_Md_immediate_77 (by decide) ?_
        refine lv_goto (tgt := 82) hx hb d_Md_immediate_78 (by decide) ?_
        exact jn_82 j48_2 (1 : Int32) z48dd z48Lwhole z48Lwhole2 z48bm z48rr z48kt h _ _ hP hD hS ls (lv_sub hl [0, 1, 2] rfl)
    · skip
      have h := h.1 c_11
      refine lv_aload_n hx hb d_Md_immediate_55 rfl (lv_at hl 0 rfl) ?_
      refine zz_Ri (As := []) (rest := [.ref qd]) (wc := wD qd qmemory qr qcounts cI cB ms z48dd z48Lwhole z48Lwhole2 z48bm z48rr z48kt) X hK hP (c_Md_rs l D cI cB qd qmemory qr qcounts ms z48dd z48Lwhole z48Lwhole2 z48bm z48rr z48kt _ h) ⟨rfl, rfl⟩ m_Md_rs k_Md_132 ⟨Nat.le_of_ble_eq_true rfl, Nat.le_of_ble_eq_true rfl⟩ [0, 1, 2, 3] rfl 6 0 rfl rfl rfl rfl hl.1 rfl (Nat.le_of_ble_eq_true rfl) d_Md_immediate_56 hf0 (fun r_14 h => ?_)
      refine lv_if_ge (tgt := 66) hx hb d_Md_immediate_59 (by decide) (fun c_15 => ?_) (fun c_15 => ?_)
      · skip
        have h := h.1 c_15
        refine lv_iconst (v := 0) hx hb d_Md_immediate_66 (by decide) ?_
        refine lv_goto (tgt := 82) hx hb d_Md_immediate_67 (by decide) ?_
        exact jn_82 j48_2 (0 : Int32) z48dd z48Lwhole z48Lwhole2 z48bm z48rr z48kt h _ _ hP hD hS ls (lv_sub hl [0, 1, 2] rfl)
      · skip
        have h := h.2 c_15
        refine lv_iconst (v := 1) hx hb d_Md_immediate_62 (by decide) ?_
        refine lv_goto (tgt := 82) hx hb d_Md_immediate_63 (by decide) ?_
        exact jn_82 j48_2 (1 : Int32) z48dd z48Lwhole z48Lwhole2 z48bm z48rr z48kt h _ _ hP hD hS ls (lv_sub hl [0, 1, 2] rfl)
  have jn_27 : ∀ (j27_2 : Int32) (z27dd : Nat → Int32) (z27Lwhole : Int64) (z27Lwhole2 : Int64) (z27bm : Nat → Int32) (z27rr : Nat → Int32) (z27kt : Nat → Int32), wj_Md_immediate_27 ms a0 P j27_2 z27dd z27Lwhole z27Lwhole2 z27bm z27rr z27kt → ∀ (H : Heap) (locs : List Loc), va_P D vwCl (wD qd qmemory qr qcounts cI cB ms z27dd z27Lwhole z27Lwhole2 z27bm z27rr z27kt) H → va_D A (wD qd qmemory qr qcounts cI cB ms z27dd z27Lwhole z27Lwhole2 z27bm z27rr z27kt) → va_S A s.heap H locs → ∀ ls : Array Slot, lv_has ls 3 [(0, .ref qd), (1, .int a0), (2, .int j27_2)] → W p l e (headSpec (zz_ws y_Md_immediate b_Md_immediate 3 none) rm_Md_immediate).room s m ([.ref qd, .int a0] : List Value).toArray below meth c H locs 0 0 (MQ below (va_Qv P (zz_qw D (fun u => wD qd qmemory qr qcounts cI cB ms u.1 u.2.1 u.2.2.1 u.2.2.2.1 u.2.2.2.2.1 u.2.2.2.2.2) A) A) ([.ref qd, .int a0] : List Value).toArray s 0 0 A) (F0 m 27 ls []) := by
    intro j27_2 z27dd z27Lwhole z27Lwhole2 z27bm z27rr z27kt h H locs hP hD hS ls hl
    unfold wj_Md_immediate_27 at h
    refine lv_iload_n hx hb d_Md_immediate_27 rfl (lv_at hl 2 rfl) ?_
    refine lv_if_eq (tgt := 48) hx hb d_Md_immediate_28 (by decide) (fun c_16 => ?_) (fun c_16 => ?_)
    · skip
      have h := h.1 c_16
      exact jn_48 j27_2 z27dd z27Lwhole z27Lwhole2 z27bm z27rr z27kt h _ _ hP hD hS ls (lv_sub hl [0, 1, 2] rfl)
    · skip
      have h := h.2 c_16
      refine lv_aload_n hx hb d_Md_immediate_31 rfl (lv_at hl 0 rfl) ?_
      refine lv_bipush (v := 21) hx hb d_Md_immediate_32 (by decide) ?_
      refine zz_Ri (As := [.int (21 : Int32)]) (rest := []) (wc := wD qd qmemory qr qcounts cI cB ms z27dd z27Lwhole z27Lwhole2 z27bm z27rr z27kt) X hK hP (c_Md_field l D cI cB qd qmemory qr qcounts ms z27dd z27Lwhole z27Lwhole2 z27bm z27rr z27kt (21 : Int32) _ h) ⟨rfl, rfl⟩ m_Md_field k_Md_85 ⟨Nat.le_of_ble_eq_true rfl, Nat.le_of_ble_eq_true rfl⟩ [0, 1, 2, 3] rfl 6 0 rfl rfl rfl rfl hl.1 rfl (Nat.le_of_ble_eq_true rfl) d_Md_immediate_34 hf0 (fun r_17 h => ?_)
      refine lv_bipush (v := 31) hx hb d_Md_immediate_37 (by decide) ?_
      refine lv_icmp_ne (tgt := 48) hx hb d_Md_immediate_39 (by decide) (fun c_18 => ?_) (fun c_18 => ?_)
      · skip
        have h := h.2 c_18
        exact jn_48 j27_2 z27dd z27Lwhole z27Lwhole2 z27bm z27rr z27kt h _ _ hP hD hS ls (lv_sub hl [0, 1, 2] rfl)
      · skip
        have h := h.1 c_18
        refine lv_aload_n hx hb d_Md_immediate_42 rfl (lv_at hl 0 rfl) ?_
        refine lv_bipush (v := 8) hx hb d_Md_immediate_43 (by decide) ?_
        refine zz_Wv (As := [.int (8 : Int32)]) (rest := []) (wc := wD qd qmemory qr qcounts cI cB ms z27dd z27Lwhole z27Lwhole2 z27bm z27rr z27kt) (wr := []) X hK hP hD hS hA (c_Md_ends l D cI cB qd qmemory qr qcounts ms z27dd z27Lwhole z27Lwhole2 z27bm z27rr z27kt (8 : Int32) _ h _) ⟨rfl, rfl⟩ m_Md_ends k_Md_116 ⟨Nat.le_of_ble_eq_true rfl, Nat.le_of_ble_eq_true rfl⟩ [0, 1, 2, 3] [] rfl rfl (by decide) (by decide) (by decide) 6 0 rfl rfl rfl rfl hl.1 rfl (Nat.le_of_ble_eq_true rfl) d_Md_immediate_45 hf0 (fun u_19 H locs h hP hD hS => ?_)
        have hP : va_P D vwCl (wD qd qmemory qr qcounts cI cB ms u_19.1 u_19.2.1 u_19.2.2.1 u_19.2.2.2.1 u_19.2.2.2.2.1 u_19.2.2.2.2.2) H := hP.sub [0, 1, 2, 3] rfl
        have hD : va_D A (wD qd qmemory qr qcounts cI cB ms u_19.1 u_19.2.1 u_19.2.2.1 u_19.2.2.2.1 u_19.2.2.2.2.1 u_19.2.2.2.2.2) := hD.sub [0, 1, 2, 3] (by decide) rfl
        exact jn_48 j27_2 u_19.1 u_19.2.1 u_19.2.2.1 u_19.2.2.2.1 u_19.2.2.2.2.1 u_19.2.2.2.2.2 h _ _ hP hD hS ls (lv_sub hl [0, 1, 2] rfl)
  have jn_17 : ∀ (s17_0 : Int32) (z17dd : Nat → Int32) (z17Lwhole : Int64) (z17Lwhole2 : Int64) (z17bm : Nat → Int32) (z17rr : Nat → Int32) (z17kt : Nat → Int32), wj_Md_immediate_17 ms a0 P s17_0 z17dd z17Lwhole z17Lwhole2 z17bm z17rr z17kt → ∀ (H : Heap) (locs : List Loc), va_P D vwCl (wD qd qmemory qr qcounts cI cB ms z17dd z17Lwhole z17Lwhole2 z17bm z17rr z17kt) H → va_D A (wD qd qmemory qr qcounts cI cB ms z17dd z17Lwhole z17Lwhole2 z17bm z17rr z17kt) → va_S A s.heap H locs → ∀ ls : Array Slot, lv_has ls 3 [(0, .ref qd), (1, .int a0)] → W p l e (headSpec (zz_ws y_Md_immediate b_Md_immediate 3 none) rm_Md_immediate).room s m ([.ref qd, .int a0] : List Value).toArray below meth c H locs 0 0 (MQ below (va_Qv P (zz_qw D (fun u => wD qd qmemory qr qcounts cI cB ms u.1 u.2.1 u.2.2.1 u.2.2.2.1 u.2.2.2.2.1 u.2.2.2.2.2) A) A) ([.ref qd, .int a0] : List Value).toArray s 0 0 A) (F0 m 17 ls [.int s17_0]) := by
    intro s17_0 z17dd z17Lwhole z17Lwhole2 z17bm z17rr z17kt h H locs hP hD hS ls hl
    unfold wj_Md_immediate_17 at h
    refine lv_istore_n (lv' := [(2, .int s17_0), (0, .ref qd), (1, .int a0)]) hx hb d_Md_immediate_17 rfl hl (by decide) rfl (fun ls hl => ?_)
    refine lv_iload_n hx hb d_Md_immediate_18 rfl (lv_at hl 2 rfl) ?_
    refine lv_iconst (v := 4) hx hb d_Md_immediate_19 (by decide) ?_
    refine lv_icmp_lt (tgt := 27) hx hb d_Md_immediate_20 (by decide) (fun c_21 => ?_) (fun c_21 => ?_)
    · skip
      have h := h.1 c_21
      exact jn_27 s17_0 z17dd z17Lwhole z17Lwhole2 z17bm z17rr z17kt h _ _ hP hD hS ls (lv_sub hl [1, 2, 0] rfl)
    · skip
      have h := h.2 c_21
      refine lv_iload_n hx hb d_Md_immediate_23 rfl (lv_at hl 0 rfl) ?_
      refine lv_if_eq (tgt := 126) hx hb d_Md_immediate_24 (by decide) (fun c_22 => ?_) (fun c_22 => ?_)
      · skip
        have h := h.1 c_22
        refine lv_iload_n hx hb d_Md_immediate_126 rfl (lv_at hl 2 rfl) ?_
        refine lv_bipush (v := 8) hx hb d_Md_immediate_127 (by decide) ?_
        refine lv_icmp_lt (tgt := 163) hx hb d_Md_immediate_129 (by decide) (fun c_23 => ?_) (fun c_23 => ?_)
        · skip
          have h := h.1 c_23
          exact jn_163 z17dd z17Lwhole z17Lwhole2 z17bm z17rr z17kt h _ _ hP hD hS ls (lv_sub hl [1] rfl)
        · skip
          have h := h.2 c_23
          refine lv_iload_n hx hb d_Md_immediate_132 rfl (lv_at hl 2 rfl) ?_
          refine lv_bipush (v := 15) hx hb d_Md_immediate_133 (by decide) ?_
          refine lv_icmp_ge (tgt := 163) hx hb d_Md_immediate_135 (by decide) (fun c_24 => ?_) (fun c_24 => ?_)
          · skip
            have h := h.1 c_24
            exact jn_163 z17dd z17Lwhole z17Lwhole2 z17bm z17rr z17kt h _ _ hP hD hS ls (lv_sub hl [1] rfl)
          · skip
            have h := h.2 c_24
            refine lv_iload_n hx hb d_Md_immediate_138 rfl (lv_at hl 2 rfl) ?_
            refine lv_bipush (v := 13) hx hb d_Md_immediate_139 (by decide) ?_
            refine lv_icmp_eq (tgt := 163) hx hb d_Md_immediate_141 (by decide) (fun c_25 => ?_) (fun c_25 => ?_)
            · skip
              have h := h.1 c_25
              exact jn_163 z17dd z17Lwhole z17Lwhole2 z17bm z17rr z17kt h _ _ hP hD hS ls (lv_sub hl [1] rfl)
            · skip
              have h := h.2 c_25
              refine lv_aload_n hx hb d_Md_immediate_144 rfl (lv_at hl 1 rfl) ?_
              refine lv_iload_n hx hb d_Md_immediate_145 rfl (lv_at hl 2 rfl) ?_
              refine lv_bipush (v := 8) hx hb d_Md_immediate_146 (by decide) ?_
              refine lv_isub hx hb d_Md_immediate_148 ?_
              refine lv_aload_n hx hb d_Md_immediate_149 rfl (lv_at hl 1 rfl) ?_
              refine zz_Ri (As := []) (rest := [.int (a0 - (8 : Int32)), .ref qd]) (wc := wD qd qmemory qr qcounts cI cB ms z17dd z17Lwhole z17Lwhole2 z17bm z17rr z17kt) X hK hP (c_Md_rs l D cI cB qd qmemory qr qcounts ms z17dd z17Lwhole z17Lwhole2 z17bm z17rr z17kt _ h) ⟨rfl, rfl⟩ m_Md_rs k_Md_132 ⟨Nat.le_of_ble_eq_true rfl, Nat.le_of_ble_eq_true rfl⟩ [0, 1, 2, 3] rfl 6 0 rfl rfl rfl rfl hl.1 rfl (Nat.le_of_ble_eq_true rfl) d_Md_immediate_150 hf0 (fun r_26 h => ?_)
              refine lv_aload_n hx hb d_Md_immediate_153 rfl (lv_at hl 1 rfl) ?_
              refine zz_Ri (As := []) (rest := [.int r_26, .int (a0 - (8 : Int32)), .ref qd]) (wc := wD qd qmemory qr qcounts cI cB ms z17dd z17Lwhole z17Lwhole2 z17bm z17rr z17kt) X hK hP (c_Md_offset l D cI cB qd qmemory qr qcounts ms z17dd z17Lwhole z17Lwhole2 z17bm z17rr z17kt _ h) ⟨rfl, rfl⟩ m_Md_offset k_Md_119 ⟨Nat.le_of_ble_eq_true rfl, Nat.le_of_ble_eq_true rfl⟩ [0, 1, 2, 3] rfl 6 0 rfl rfl rfl rfl hl.1 rfl (Nat.le_of_ble_eq_true rfl) d_Md_immediate_154 hf0 (fun r_27 h => ?_)
              refine zz_Wv (As := [.int (a0 - (8 : Int32)), .int r_26, .int r_27]) (rest := []) (wc := wD qd qmemory qr qcounts cI cB ms z17dd z17Lwhole z17Lwhole2 z17bm z17rr z17kt) (wr := []) X hK hP hD hS hA (c_Md_trap l D cI cB qd qmemory qr qcounts ms z17dd z17Lwhole z17Lwhole2 z17bm z17rr z17kt (a0 - (8 : Int32)) r_26 r_27 _ h _) ⟨rfl, rfl⟩ m_Md_trap k_Md_141 ⟨Nat.le_of_ble_eq_true rfl, Nat.le_of_ble_eq_true rfl⟩ [0, 1, 2, 3] [] rfl rfl (by decide) (by decide) (by decide) 6 0 rfl rfl rfl rfl hl.1 rfl (Nat.le_of_ble_eq_true rfl) d_Md_immediate_157 hf0 (fun u_28 H locs h hP hD hS => ?_)
              have hP : va_P D vwCl (wD qd qmemory qr qcounts cI cB ms u_28.1 u_28.2.1 u_28.2.2.1 u_28.2.2.2.1 u_28.2.2.2.2.1 u_28.2.2.2.2.2) H := hP.sub [0, 1, 2, 3] rfl
              have hD : va_D A (wD qd qmemory qr qcounts cI cB ms u_28.1 u_28.2.1 u_28.2.2.1 u_28.2.2.2.1 u_28.2.2.2.2.1 u_28.2.2.2.2.2) := hD.sub [0, 1, 2, 3] (by decide) rfl
              refine lv_goto (tgt := 168) hx hb d_Md_immediate_160 (by decide) ?_
              exact W.vret hx hb hr (fun t ht hW => ⟨⟨(u_28.1, u_28.2.1, u_28.2.2.1, u_28.2.2.2.1, u_28.2.2.2.2.1, u_28.2.2.2.2.2), rfl, h, by rw [ht]; exact hP, hD⟩, hS.F ht⟩) hS.2.2 d_Md_immediate_168
      · skip
        have h := h.2 c_22
        exact jn_27 s17_0 z17dd z17Lwhole z17Lwhole2 z17bm z17rr z17kt h _ _ hP hD hS ls (lv_sub hl [1, 2, 0] rfl)
  have jn_16 : ∀ (z16dd : Nat → Int32) (z16Lwhole : Int64) (z16Lwhole2 : Int64) (z16bm : Nat → Int32) (z16rr : Nat → Int32) (z16kt : Nat → Int32), wj_Md_immediate_16 ms a0 P z16dd z16Lwhole z16Lwhole2 z16bm z16rr z16kt → ∀ (H : Heap) (locs : List Loc), va_P D vwCl (wD qd qmemory qr qcounts cI cB ms z16dd z16Lwhole z16Lwhole2 z16bm z16rr z16kt) H → va_D A (wD qd qmemory qr qcounts cI cB ms z16dd z16Lwhole z16Lwhole2 z16bm z16rr z16kt) → va_S A s.heap H locs → ∀ ls : Array Slot, lv_has ls 3 [(0, .ref qd), (1, .int a0)] → W p l e (headSpec (zz_ws y_Md_immediate b_Md_immediate 3 none) rm_Md_immediate).room s m ([.ref qd, .int a0] : List Value).toArray below meth c H locs 0 0 (MQ below (va_Qv P (zz_qw D (fun u => wD qd qmemory qr qcounts cI cB ms u.1 u.2.1 u.2.2.1 u.2.2.2.1 u.2.2.2.2.1 u.2.2.2.2.2) A) A) ([.ref qd, .int a0] : List Value).toArray s 0 0 A) (F0 m 16 ls []) := by
    intro z16dd z16Lwhole z16Lwhole2 z16bm z16rr z16kt h H locs hP hD hS ls hl
    unfold wj_Md_immediate_16 at h
    refine lv_iconst (v := 0) hx hb d_Md_immediate_16 (by decide) ?_
    exact jn_17 (0 : Int32) z16dd z16Lwhole z16Lwhole2 z16bm z16rr z16kt h _ _ hP hD hS ls (lv_sub hl [0, 1] rfl)
  refine lv_iload_n hx hb d_Md_immediate_0 rfl (lv_at hl 1 rfl) ?_
  refine lv_bipush (v := 16) hx hb d_Md_immediate_1 (by decide) ?_
  refine lv_icmp_lt (tgt := 16) hx hb d_Md_immediate_3 (by decide) (fun c_30 => ?_) (fun c_30 => ?_)
  · skip
    have h := h.1 c_30
    exact jn_16 dd Lwhole Lwhole2 bm rr kt h _ _ hP hD hS ls (lv_sub hl [0, 1] rfl)
  · skip
    have h := h.2 c_30
    refine lv_iload_n hx hb d_Md_immediate_6 rfl (lv_at hl 1 rfl) ?_
    refine lv_bipush (v := 20) hx hb d_Md_immediate_7 (by decide) ?_
    refine lv_icmp_ge (tgt := 16) hx hb d_Md_immediate_9 (by decide) (fun c_31 => ?_) (fun c_31 => ?_)
    · skip
      have h := h.1 c_31
      exact jn_16 dd Lwhole Lwhole2 bm rr kt h _ _ hP hD hS ls (lv_sub hl [0, 1] rfl)
    · skip
      have h := h.2 c_31
      refine lv_iconst (v := 1) hx hb d_Md_immediate_12 (by decide) ?_
      refine lv_goto (tgt := 17) hx hb d_Md_immediate_13 (by decide) ?_
      exact jn_17 (1 : Int32) dd Lwhole Lwhole2 bm rr kt h _ _ hP hD hS ls (lv_sub hl [0, 1] rfl)
def wp_Md_rtNow (ms : Int32) (dd : Nat → Int32) (Lwhole : Int64) (Lwhole2 : Int64) (bm : Nat → Int32) (rr : Nat → Int32) (kt : Nat → Int32) (P : Int32 → Prop) : Prop := wp_Md_rt ms dd Lwhole Lwhole2 bm rr kt (fun r_1 => P r_1)
abbrev rm_Md_rtNow : Room := { frames := 2, cells := 0, slots := 0, locals := 41 }
set_option maxHeartbeats 4000000 in
set_option maxRecDepth 100000 in
theorem c_Md_rtNow (l : Launch) (D : va_G) (cI : ClassId) (cB : ClassId) (qd : Nat) (qmemory : Nat) (qr : Nat) (qcounts : Nat) (ms : Int32) (dd : Nat → Int32) (Lwhole : Int64) (Lwhole2 : Int64) (bm : Nat → Int32) (rr : Nat → Int32) (kt : Nat → Int32) (P : Int32 → Prop) (h : wp_Md_rtNow ms dd Lwhole Lwhole2 bm rr kt P) : Met l y_Md_rtNow (zz_ws y_Md_rtNow b_Md_rtNow 1 (some .int)) rm_Md_rtNow (va_Pc [.ref qd] (zz_pr D [(cI, .int), (cB, .byte)] (wD qd qmemory qr qcounts cI cB ms dd Lwhole Lwhole2 bm rr kt))) (vp_Si P) 0 0 (fun _ => False) := by
  refine Met.ofW (cc := b_Md_rtNow) (maxL := 1) (ret := (some .int)) (by decide) rfl ?_
  intro p e s m args below meth c s₁ B hml hv
  obtain ⟨rfl, hP, hK⟩ := hv
  have hx := B.exec
  have hb := B.bytes
  have hr := B.returns
  have hts := atoms_spec (ws := (zz_ws y_Md_rtNow b_Md_rtNow 1 (some .int))) B.pre
  have hown : s.vm.findClass R_Md = some m.cls := findClass_of_methodNamed B.named
  have hlocks := B.notSynchronized
  have hT := zz_hts hts
  have X : CallFix p m c b_Md_rtNow 1 s ([.ref qd] : List Value).toArray (zz_ws y_Md_rtNow b_Md_rtNow 1 (some .int)) R_Md := ⟨hx, hb, hml, hown, hts⟩
  have hf0 : 0 + 0 ≤ (headSpec (zz_ws y_Md_rtNow b_Md_rtNow 1 (some .int)) rm_Md_rtNow).room.cells ∧ 0 + 0 ≤ (headSpec (zz_ws y_Md_rtNow b_Md_rtNow 1 (some .int)) rm_Md_rtNow).room.slots := ⟨Nat.le_of_ble_eq_true rfl, Nat.le_of_ble_eq_true rfl⟩
  have hl := lv_entry ([.ref qd]) (n := 1) (Nat.le_of_ble_eq_true rfl)
  rw [lg_entry_eq]
  generalize (lg_sl ([.ref qd]) ++ List.replicate (1 - (lg_sl ([.ref qd])).length) Slot.unset).toArray = ls at hl ⊢
  have hl : lv_has ls 1 [(0, .ref qd)] := hl
  refine lv_aload_n hx hb d_Md_rtNow_0 rfl (lv_at hl 0 rfl) ?_
  refine zz_Ri (As := []) (rest := []) (wc := wD qd qmemory qr qcounts cI cB ms dd Lwhole Lwhole2 bm rr kt) X hK hP (c_Md_rt l D cI cB qd qmemory qr qcounts ms dd Lwhole Lwhole2 bm rr kt _ h) ⟨rfl, rfl⟩ m_Md_rt k_Md_135 ⟨Nat.le_of_ble_eq_true rfl, Nat.le_of_ble_eq_true rfl⟩ [0, 1, 2, 3] rfl 6 0 rfl rfl rfl rfl hl.1 rfl (Nat.le_of_ble_eq_true rfl) d_Md_rtNow_1 hf0 (fun r_1 h => ?_)
  exact W.iret (v := r_1) hx hb hr (fun t ht hW => ⟨r_1,  rfl, h, ht⟩) t_nil d_Md_rtNow_4
def wp_Md_even (ms : Int32) (dd : Nat → Int32) (Lwhole : Int64) (Lwhole2 : Int64) (bm : Nat → Int32) (rr : Nat → Int32) (kt : Nat → Int32) (a0 : Int32) (a1 : Int32) (P : ((Nat → Int32) × Int64 × Int64 × (Nat → Int32) × (Nat → Int32) × (Nat → Int32)) → Prop) : Prop := ((a0 = (0 : Int32) → P (dd, Lwhole, Lwhole2, bm, rr, kt)) ∧ (¬ a0 = (0 : Int32) → (((a1 &&& (1 : Int32)) = (1 : Int32) → wp_Md_ends ms dd Lwhole Lwhole2 bm rr kt (8 : Int32) (fun u_3 => P (u_3.1, u_3.2.1, u_3.2.2.1, u_3.2.2.2.1, u_3.2.2.2.2.1, u_3.2.2.2.2.2))) ∧ (¬ (a1 &&& (1 : Int32)) = (1 : Int32) → P (dd, Lwhole, Lwhole2, bm, rr, kt)))))
abbrev rm_Md_even : Room := { frames := 1, cells := 0, slots := 0, locals := 21 }
set_option maxHeartbeats 4000000 in
set_option maxRecDepth 100000 in
theorem c_Md_even (l : Launch) (D : va_G) (cI : ClassId) (cB : ClassId) (qd : Nat) (qmemory : Nat) (qr : Nat) (qcounts : Nat) (ms : Int32) (dd : Nat → Int32) (Lwhole : Int64) (Lwhole2 : Int64) (bm : Nat → Int32) (rr : Nat → Int32) (kt : Nat → Int32) (a0 : Int32) (a1 : Int32) (P : ((Nat → Int32) × Int64 × Int64 × (Nat → Int32) × (Nat → Int32) × (Nat → Int32)) → Prop) (h : wp_Md_even ms dd Lwhole Lwhole2 bm rr kt a0 a1 P) (sz : Nat) : Met l y_Md_even (zz_ws y_Md_even b_Md_even 3 none) rm_Md_even (va_Pc [.ref qd, .int a0, .int a1] (zz_pw D [(cI, .int), (cB, .byte)] (wD qd qmemory qr qcounts cI cB ms dd Lwhole Lwhole2 bm rr kt) sz)) (va_Qv P (zz_qw D (fun u => wD qd qmemory qr qcounts cI cB ms u.1 u.2.1 u.2.2.1 u.2.2.2.1 u.2.2.2.2.1 u.2.2.2.2.2) (va_A (wD qd qmemory qr qcounts cI cB ms dd Lwhole Lwhole2 bm rr kt) sz)) (va_A (wD qd qmemory qr qcounts cI cB ms dd Lwhole Lwhole2 bm rr kt) sz)) 0 0 (va_A (wD qd qmemory qr qcounts cI cB ms dd Lwhole Lwhole2 bm rr kt) sz) := by
  refine Met.ofW (cc := b_Md_even) (maxL := 3) (ret := none) (by decide) rfl ?_
  intro p e s m args below meth c s₁ B hml hv
  obtain ⟨rfl, hsz, hP, hK, hD0⟩ := hv
  have hx := B.exec
  have hb := B.bytes
  have hr := B.returns
  have hts := atoms_spec (ws := (zz_ws y_Md_even b_Md_even 3 none)) B.pre
  have hown : s.vm.findClass R_Md = some m.cls := findClass_of_methodNamed B.named
  have hlocks := B.notSynchronized
  have hT := zz_hts hts
  have X : CallFix p m c b_Md_even 3 s ([.ref qd, .int a0, .int a1] : List Value).toArray (zz_ws y_Md_even b_Md_even 3 none) R_Md := ⟨hx, hb, hml, hown, hts⟩
  have hf0 : 0 + 0 ≤ (headSpec (zz_ws y_Md_even b_Md_even 3 none) rm_Md_even).room.cells ∧ 0 + 0 ≤ (headSpec (zz_ws y_Md_even b_Md_even 3 none) rm_Md_even).room.slots := ⟨Nat.le_of_ble_eq_true rfl, Nat.le_of_ble_eq_true rfl⟩
  subst hsz
  have hD := hD0.self (sz := s.heap.size)
  generalize hAe : va_A (wD qd qmemory qr qcounts cI cB ms dd Lwhole Lwhole2 bm rr kt) s.heap.size = A at hD ⊢
  have hA : ∀ q : Nat, s.heap.size ≤ q → A q := fun q h => by rw [← hAe]; exact Or.inr h
  have hS : va_S A s.heap s.heap [] := va_S.rf
  have hl := lv_entry ([.ref qd, .int a0, .int a1]) (n := 3) (Nat.le_of_ble_eq_true rfl)
  rw [lg_entry_eq]
  generalize (lg_sl ([.ref qd, .int a0, .int a1]) ++ List.replicate (3 - (lg_sl ([.ref qd, .int a0, .int a1])).length) Slot.unset).toArray = ls at hl ⊢
  have hl : lv_has ls 3 [(0, .ref qd), (1, .int a0), (2, .int a1)] := hl
  refine lv_iload_n hx hb d_Md_even_0 rfl (lv_at hl 1 rfl) ?_
  refine lv_if_eq (tgt := 17) hx hb d_Md_even_1 (by decide) (fun c_1 => ?_) (fun c_1 => ?_)
  · skip
    have h := h.1 c_1
    exact W.vret hx hb hr (fun t ht hW => ⟨⟨(dd, Lwhole, Lwhole2, bm, rr, kt), rfl, h, by rw [ht]; exact hP, hD⟩, hS.F ht⟩) hS.2.2 d_Md_even_17
  · skip
    have h := h.2 c_1
    refine lv_iload_n hx hb d_Md_even_4 rfl (lv_at hl 2 rfl) ?_
    refine lv_iconst (v := 1) hx hb d_Md_even_5 (by decide) ?_
    refine lv_iand hx hb d_Md_even_6 ?_
    refine lv_iconst (v := 1) hx hb d_Md_even_7 (by decide) ?_
    refine lv_icmp_ne (tgt := 17) hx hb d_Md_even_8 (by decide) (fun c_2 => ?_) (fun c_2 => ?_)
    · skip
      have h := h.2 c_2
      exact W.vret hx hb hr (fun t ht hW => ⟨⟨(dd, Lwhole, Lwhole2, bm, rr, kt), rfl, h, by rw [ht]; exact hP, hD⟩, hS.F ht⟩) hS.2.2 d_Md_even_17
    · skip
      have h := h.1 c_2
      refine lv_aload_n hx hb d_Md_even_11 rfl (lv_at hl 0 rfl) ?_
      refine lv_bipush (v := 8) hx hb d_Md_even_12 (by decide) ?_
      refine zz_Wv (As := [.int (8 : Int32)]) (rest := []) (wc := wD qd qmemory qr qcounts cI cB ms dd Lwhole Lwhole2 bm rr kt) (wr := []) X hK hP hD hS hA (c_Md_ends l D cI cB qd qmemory qr qcounts ms dd Lwhole Lwhole2 bm rr kt (8 : Int32) _ h _) ⟨rfl, rfl⟩ m_Md_ends k_Md_116 ⟨Nat.le_of_ble_eq_true rfl, Nat.le_of_ble_eq_true rfl⟩ [0, 1, 2, 3] [] rfl rfl (by decide) (by decide) (by decide) 6 0 rfl rfl rfl rfl hl.1 rfl (Nat.le_of_ble_eq_true rfl) d_Md_even_14 hf0 (fun u_3 H locs h hP hD hS => ?_)
      have hP : va_P D vwCl (wD qd qmemory qr qcounts cI cB ms u_3.1 u_3.2.1 u_3.2.2.1 u_3.2.2.2.1 u_3.2.2.2.2.1 u_3.2.2.2.2.2) H := hP.sub [0, 1, 2, 3] rfl
      have hD : va_D A (wD qd qmemory qr qcounts cI cB ms u_3.1 u_3.2.1 u_3.2.2.1 u_3.2.2.2.1 u_3.2.2.2.2.1 u_3.2.2.2.2.2) := hD.sub [0, 1, 2, 3] (by decide) rfl
      exact W.vret hx hb hr (fun t ht hW => ⟨⟨(u_3.1, u_3.2.1, u_3.2.2.1, u_3.2.2.2.1, u_3.2.2.2.2.1, u_3.2.2.2.2.2), rfl, h, by rw [ht]; exact hP, hD⟩, hS.F ht⟩) hS.2.2 d_Md_even_17
def wp_Md_bitsOf (ms : Int32) (dd : Nat → Int32) (Lwhole : Int64) (Lwhole2 : Int64) (bm : Nat → Int32) (rr : Nat → Int32) (kt : Nat → Int32) (a0 : Int32) (a1 : Int32) (P : Int64 → Prop) : Prop := ((a1 = (0 : Int32) → vp_in ((34 : Int32) + a0) 67 ∧ ∀ x_2 : Int32, x_2 = (rr ((34 : Int32) + a0).toNatClampNeg) → ∀ x_3 : Int64, x_3 = (x_2.toInt64 &&& (4294967295 : Int64)) → P x_3) ∧ (¬ a1 = (0 : Int32) → vp_in ((35 : Int32) + a0) 67 ∧ ∀ x_4 : Int32, x_4 = (rr ((35 : Int32) + a0).toNatClampNeg) → ∀ x_5 : Int64, x_5 = (zz_lshl x_4.toInt64 (32 : Int32)) → vp_in ((34 : Int32) + a0) 67 ∧ ∀ x_6 : Int32, x_6 = (rr ((34 : Int32) + a0).toNatClampNeg) → ∀ x_7 : Int64, x_7 = (x_6.toInt64 &&& (4294967295 : Int64)) → P (x_5 ||| x_7)))
abbrev rm_Md_bitsOf : Room := { frames := 0, cells := 0, slots := 0, locals := 0 }
set_option maxHeartbeats 4000000 in
set_option maxRecDepth 100000 in
theorem c_Md_bitsOf (l : Launch) (D : va_G) (cI : ClassId) (cB : ClassId) (qd : Nat) (qmemory : Nat) (qr : Nat) (qcounts : Nat) (ms : Int32) (dd : Nat → Int32) (Lwhole : Int64) (Lwhole2 : Int64) (bm : Nat → Int32) (rr : Nat → Int32) (kt : Nat → Int32) (a0 : Int32) (a1 : Int32) (P : Int64 → Prop) (h : wp_Md_bitsOf ms dd Lwhole Lwhole2 bm rr kt a0 a1 P) : Met l y_Md_bitsOf (zz_ws y_Md_bitsOf b_Md_bitsOf 3 (some .long)) rm_Md_bitsOf (va_Pc [.ref qd, .int a0, .int a1] (zz_pr D [(cI, .int), (cB, .byte)] (wD qd qmemory qr qcounts cI cB ms dd Lwhole Lwhole2 bm rr kt))) (vp_Sl P) 0 0 (fun _ => False) := by
  refine Met.ofW (cc := b_Md_bitsOf) (maxL := 3) (ret := (some .long)) (by decide) rfl ?_
  intro p e s m args below meth c s₁ B hml hv
  obtain ⟨rfl, hP, hK⟩ := hv
  have hx := B.exec
  have hb := B.bytes
  have hr := B.returns
  have hts := atoms_spec (ws := (zz_ws y_Md_bitsOf b_Md_bitsOf 3 (some .long))) B.pre
  have hown : s.vm.findClass R_Md = some m.cls := findClass_of_methodNamed B.named
  have hlocks := B.notSynchronized
  have hT := zz_hts hts
  have X : CallFix p m c b_Md_bitsOf 3 s ([.ref qd, .int a0, .int a1] : List Value).toArray (zz_ws y_Md_bitsOf b_Md_bitsOf 3 (some .long)) R_Md := ⟨hx, hb, hml, hown, hts⟩
  have hf0 : 0 + 0 ≤ (headSpec (zz_ws y_Md_bitsOf b_Md_bitsOf 3 (some .long)) rm_Md_bitsOf).room.cells ∧ 0 + 0 ≤ (headSpec (zz_ws y_Md_bitsOf b_Md_bitsOf 3 (some .long)) rm_Md_bitsOf).room.slots := ⟨Nat.le_of_ble_eq_true rfl, Nat.le_of_ble_eq_true rfl⟩
  have hl := lv_entry ([.ref qd, .int a0, .int a1]) (n := 3) (Nat.le_of_ble_eq_true rfl)
  rw [lg_entry_eq]
  generalize (lg_sl ([.ref qd, .int a0, .int a1]) ++ List.replicate (3 - (lg_sl ([.ref qd, .int a0, .int a1])).length) Slot.unset).toArray = ls at hl ⊢
  have hl : lv_has ls 3 [(0, .ref qd), (1, .int a0), (2, .int a1)] := hl
  refine lv_iload_n hx hb d_Md_bitsOf_0 rfl (lv_at hl 2 rfl) ?_
  refine lv_if_eq (tgt := 35) hx hb d_Md_bitsOf_1 (by decide) (fun c_1 => ?_) (fun c_1 => ?_)
  · skip
    have h := h.1 c_1
    refine lv_aload_n hx hb d_Md_bitsOf_35 rfl (lv_at hl 0 rfl) ?_
    refine g_Md_14 (v := .ref qr) hx hb hT hown hK hP 0 rfl rfl d_Md_bitsOf_36 ?_
    refine lv_bipush (v := 34) hx hb d_Md_bitsOf_39 (by decide) ?_
    refine lv_iload_n hx hb d_Md_bitsOf_41 rfl (lv_at hl 1 rfl) ?_
    refine lv_iadd hx hb d_Md_bitsOf_42 ?_
    refine va_iald (f := rr) hx hb hK hP 2 0 rfl rfl h.1 d_Md_bitsOf_43 ?_
    have h := h.2
    refine lv_topi (fun x_2 ex_2 => ?_)
    have h := h x_2 ex_2
    refine lv_i2l (v := x_2.toInt64) hx hb d_Md_bitsOf_44 rfl ?_
    refine lv_ldc2 (v := 4294967295) hx hb hown (hT _ n_Md_163) d_Md_bitsOf_45 ?_
    refine lv_land hx hb d_Md_bitsOf_48 ?_
    refine lv_topl (fun x_3 ex_3 => ?_)
    have h := h x_3 ex_3
    exact W.lret (v := x_3) hx hb hr (fun t ht hW => ⟨x_3,  rfl, h, ht⟩) t_nil d_Md_bitsOf_49
  · skip
    have h := h.2 c_1
    refine lv_aload_n hx hb d_Md_bitsOf_4 rfl (lv_at hl 0 rfl) ?_
    refine g_Md_14 (v := .ref qr) hx hb hT hown hK hP 0 rfl rfl d_Md_bitsOf_5 ?_
    refine lv_bipush (v := 35) hx hb d_Md_bitsOf_8 (by decide) ?_
    refine lv_iload_n hx hb d_Md_bitsOf_10 rfl (lv_at hl 1 rfl) ?_
    refine lv_iadd hx hb d_Md_bitsOf_11 ?_
    refine va_iald (f := rr) hx hb hK hP 2 0 rfl rfl h.1 d_Md_bitsOf_12 ?_
    have h := h.2
    refine lv_topi (fun x_4 ex_4 => ?_)
    have h := h x_4 ex_4
    refine lv_i2l (v := x_4.toInt64) hx hb d_Md_bitsOf_13 rfl ?_
    refine lv_bipush (v := 32) hx hb d_Md_bitsOf_14 (by decide) ?_
    refine zz_llshl hx hb d_Md_bitsOf_16 ?_
    refine lv_topl (fun x_5 ex_5 => ?_)
    have h := h x_5 ex_5
    refine lv_aload_n hx hb d_Md_bitsOf_17 rfl (lv_at hl 0 rfl) ?_
    refine g_Md_14 (v := .ref qr) hx hb hT hown hK hP 0 rfl rfl d_Md_bitsOf_18 ?_
    refine lv_bipush (v := 34) hx hb d_Md_bitsOf_21 (by decide) ?_
    refine lv_iload_n hx hb d_Md_bitsOf_23 rfl (lv_at hl 1 rfl) ?_
    refine lv_iadd hx hb d_Md_bitsOf_24 ?_
    refine va_iald (f := rr) hx hb hK hP 2 0 rfl rfl h.1 d_Md_bitsOf_25 ?_
    have h := h.2
    refine lv_topi (fun x_6 ex_6 => ?_)
    have h := h x_6 ex_6
    refine lv_i2l (v := x_6.toInt64) hx hb d_Md_bitsOf_26 rfl ?_
    refine lv_ldc2 (v := 4294967295) hx hb hown (hT _ n_Md_163) d_Md_bitsOf_27 ?_
    refine lv_land hx hb d_Md_bitsOf_30 ?_
    refine lv_topl (fun x_7 ex_7 => ?_)
    have h := h x_7 ex_7
    refine lv_lor hx hb d_Md_bitsOf_31 ?_
    refine lv_goto (tgt := 49) hx hb d_Md_bitsOf_32 (by decide) ?_
    exact W.lret (v := (x_5 ||| x_7)) hx hb hr (fun t ht hW => ⟨(x_5 ||| x_7),  rfl, h, ht⟩) t_nil d_Md_bitsOf_49
def wp_Md_digits (a0 : Int32) (P : Int32 → Prop) : Prop := ((a0 = (0 : Int32) → P (23 : Int32)) ∧ (¬ a0 = (0 : Int32) → P (52 : Int32)))
abbrev rm_Md_digits : Room := { frames := 0, cells := 0, slots := 0, locals := 0 }
set_option maxHeartbeats 4000000 in
set_option maxRecDepth 100000 in
theorem c_Md_digits (l : Launch) (a0 : Int32) (P : Int32 → Prop) (h : wp_Md_digits a0 P) : Met l y_Md_digits (zz_ws y_Md_digits b_Md_digits 1 (some .int)) rm_Md_digits (fun v _ => v = ([.int a0] : List Value).toArray) (vp_Si P) 0 0 (fun _ => False) := by
  refine Met.ofW (cc := b_Md_digits) (maxL := 1) (ret := (some .int)) (by decide) rfl ?_
  intro p e s m args below meth c s₁ B hml hv
  subst hv
  have hx := B.exec
  have hb := B.bytes
  have hr := B.returns
  have hts := atoms_spec (ws := (zz_ws y_Md_digits b_Md_digits 1 (some .int))) B.pre
  have hown : s.vm.findClass R_Md = some m.cls := findClass_of_methodNamed B.named
  have hlocks := B.notSynchronized
  have hT := zz_hts hts
  have X : CallFix p m c b_Md_digits 1 s ([.int a0] : List Value).toArray (zz_ws y_Md_digits b_Md_digits 1 (some .int)) R_Md := ⟨hx, hb, hml, hown, hts⟩
  have hf0 : 0 + 0 ≤ (headSpec (zz_ws y_Md_digits b_Md_digits 1 (some .int)) rm_Md_digits).room.cells ∧ 0 + 0 ≤ (headSpec (zz_ws y_Md_digits b_Md_digits 1 (some .int)) rm_Md_digits).room.slots := ⟨Nat.le_of_ble_eq_true rfl, Nat.le_of_ble_eq_true rfl⟩
  have hl := lv_entry ([.int a0]) (n := 1) (Nat.le_of_ble_eq_true rfl)
  rw [lg_entry_eq]
  generalize (lg_sl ([.int a0]) ++ List.replicate (1 - (lg_sl ([.int a0])).length) Slot.unset).toArray = ls at hl ⊢
  have hl : lv_has ls 1 [(0, .int a0)] := hl
  refine lv_iload_n hx hb d_Md_digits_0 rfl (lv_at hl 0 rfl) ?_
  refine lv_if_eq (tgt := 9) hx hb d_Md_digits_1 (by decide) (fun c_1 => ?_) (fun c_1 => ?_)
  · skip
    have h := h.1 c_1
    refine lv_bipush (v := 23) hx hb d_Md_digits_9 (by decide) ?_
    exact W.iret (v := (23 : Int32)) hx hb hr (fun t ht hW => ⟨(23 : Int32),  rfl, h, ht⟩) t_nil d_Md_digits_11
  · skip
    have h := h.2 c_1
    refine lv_bipush (v := 52) hx hb d_Md_digits_4 (by decide) ?_
    refine lv_goto (tgt := 11) hx hb d_Md_digits_6 (by decide) ?_
    exact W.iret (v := (52 : Int32)) hx hb hr (fun t ht hW => ⟨(52 : Int32),  rfl, h, ht⟩) t_nil d_Md_digits_11
def wp_Md_most (a0 : Int32) (P : Int32 → Prop) : Prop := ((a0 = (0 : Int32) → P (255 : Int32)) ∧ (¬ a0 = (0 : Int32) → P (2047 : Int32)))
abbrev rm_Md_most : Room := { frames := 0, cells := 0, slots := 0, locals := 0 }
set_option maxHeartbeats 4000000 in
set_option maxRecDepth 100000 in
theorem c_Md_most (l : Launch) (a0 : Int32) (P : Int32 → Prop) (h : wp_Md_most a0 P) : Met l y_Md_most (zz_ws y_Md_most b_Md_most 1 (some .int)) rm_Md_most (fun v _ => v = ([.int a0] : List Value).toArray) (vp_Si P) 0 0 (fun _ => False) := by
  refine Met.ofW (cc := b_Md_most) (maxL := 1) (ret := (some .int)) (by decide) rfl ?_
  intro p e s m args below meth c s₁ B hml hv
  subst hv
  have hx := B.exec
  have hb := B.bytes
  have hr := B.returns
  have hts := atoms_spec (ws := (zz_ws y_Md_most b_Md_most 1 (some .int))) B.pre
  have hown : s.vm.findClass R_Md = some m.cls := findClass_of_methodNamed B.named
  have hlocks := B.notSynchronized
  have hT := zz_hts hts
  have X : CallFix p m c b_Md_most 1 s ([.int a0] : List Value).toArray (zz_ws y_Md_most b_Md_most 1 (some .int)) R_Md := ⟨hx, hb, hml, hown, hts⟩
  have hf0 : 0 + 0 ≤ (headSpec (zz_ws y_Md_most b_Md_most 1 (some .int)) rm_Md_most).room.cells ∧ 0 + 0 ≤ (headSpec (zz_ws y_Md_most b_Md_most 1 (some .int)) rm_Md_most).room.slots := ⟨Nat.le_of_ble_eq_true rfl, Nat.le_of_ble_eq_true rfl⟩
  have hl := lv_entry ([.int a0]) (n := 1) (Nat.le_of_ble_eq_true rfl)
  rw [lg_entry_eq]
  generalize (lg_sl ([.int a0]) ++ List.replicate (1 - (lg_sl ([.int a0])).length) Slot.unset).toArray = ls at hl ⊢
  have hl : lv_has ls 1 [(0, .int a0)] := hl
  refine lv_iload_n hx hb d_Md_most_0 rfl (lv_at hl 0 rfl) ?_
  refine lv_if_eq (tgt := 10) hx hb d_Md_most_1 (by decide) (fun c_1 => ?_) (fun c_1 => ?_)
  · skip
    have h := h.1 c_1
    refine lv_sipush (v := 255) hx hb d_Md_most_10 (by decide) ?_
    exact W.iret (v := (255 : Int32)) hx hb hr (fun t ht hW => ⟨(255 : Int32),  rfl, h, ht⟩) t_nil d_Md_most_13
  · skip
    have h := h.2 c_1
    refine lv_sipush (v := 2047) hx hb d_Md_most_4 (by decide) ?_
    refine lv_goto (tgt := 13) hx hb d_Md_most_7 (by decide) ?_
    exact W.iret (v := (2047 : Int32)) hx hb hr (fun t ht hW => ⟨(2047 : Int32),  rfl, h, ht⟩) t_nil d_Md_most_13
def wp_Md_bias (a0 : Int32) (P : Int32 → Prop) : Prop := ((a0 = (0 : Int32) → P (127 : Int32)) ∧ (¬ a0 = (0 : Int32) → P (1023 : Int32)))
abbrev rm_Md_bias : Room := { frames := 0, cells := 0, slots := 0, locals := 0 }
set_option maxHeartbeats 4000000 in
set_option maxRecDepth 100000 in
theorem c_Md_bias (l : Launch) (a0 : Int32) (P : Int32 → Prop) (h : wp_Md_bias a0 P) : Met l y_Md_bias (zz_ws y_Md_bias b_Md_bias 1 (some .int)) rm_Md_bias (fun v _ => v = ([.int a0] : List Value).toArray) (vp_Si P) 0 0 (fun _ => False) := by
  refine Met.ofW (cc := b_Md_bias) (maxL := 1) (ret := (some .int)) (by decide) rfl ?_
  intro p e s m args below meth c s₁ B hml hv
  subst hv
  have hx := B.exec
  have hb := B.bytes
  have hr := B.returns
  have hts := atoms_spec (ws := (zz_ws y_Md_bias b_Md_bias 1 (some .int))) B.pre
  have hown : s.vm.findClass R_Md = some m.cls := findClass_of_methodNamed B.named
  have hlocks := B.notSynchronized
  have hT := zz_hts hts
  have X : CallFix p m c b_Md_bias 1 s ([.int a0] : List Value).toArray (zz_ws y_Md_bias b_Md_bias 1 (some .int)) R_Md := ⟨hx, hb, hml, hown, hts⟩
  have hf0 : 0 + 0 ≤ (headSpec (zz_ws y_Md_bias b_Md_bias 1 (some .int)) rm_Md_bias).room.cells ∧ 0 + 0 ≤ (headSpec (zz_ws y_Md_bias b_Md_bias 1 (some .int)) rm_Md_bias).room.slots := ⟨Nat.le_of_ble_eq_true rfl, Nat.le_of_ble_eq_true rfl⟩
  have hl := lv_entry ([.int a0]) (n := 1) (Nat.le_of_ble_eq_true rfl)
  rw [lg_entry_eq]
  generalize (lg_sl ([.int a0]) ++ List.replicate (1 - (lg_sl ([.int a0])).length) Slot.unset).toArray = ls at hl ⊢
  have hl : lv_has ls 1 [(0, .int a0)] := hl
  refine lv_iload_n hx hb d_Md_bias_0 rfl (lv_at hl 0 rfl) ?_
  refine lv_if_eq (tgt := 10) hx hb d_Md_bias_1 (by decide) (fun c_1 => ?_) (fun c_1 => ?_)
  · skip
    have h := h.1 c_1
    refine lv_bipush (v := 127) hx hb d_Md_bias_10 (by decide) ?_
    exact W.iret (v := (127 : Int32)) hx hb hr (fun t ht hW => ⟨(127 : Int32),  rfl, h, ht⟩) t_nil d_Md_bias_12
  · skip
    have h := h.2 c_1
    refine lv_sipush (v := 1023) hx hb d_Md_bias_4 (by decide) ?_
    refine lv_goto (tgt := 12) hx hb d_Md_bias_7 (by decide) ?_
    exact W.iret (v := (1023 : Int32)) hx hb hr (fun t ht hW => ⟨(1023 : Int32),  rfl, h, ht⟩) t_nil d_Md_bias_12
def wl_Md_take_143 (ms : Int32) (a0 : Int64) (a1 : Int32) (P : ((Nat → Int32) × Int64 × Int64 × (Nat → Int32) × (Nat → Int32) × (Nat → Int32)) → Prop) : Nat → (Nat → Int32) → Int64 → Int64 → (Nat → Int32) → (Nat → Int32) → (Nat → Int32) → Prop
  | 0, _, _, _, _, _, _ => False
  | n + 1, wdd, wLwhole, wLwhole2, wbm, wrr, wkt => (((wdd 14) = (1 : Int32) → ∀ x_2 : Int64, x_2 = (zz_lshr wLwhole (52 : Int32)) → ((x_2 = (0 : Int64) → ∀ x_4 : Int64, x_4 = (zz_lshl wLwhole (1 : Int32)) → ∀ x_5 : Int32, x_5 = ((wdd 15) - (1 : Int32)) → wl_Md_take_143 ms a0 a1 P n (upd wdd 15 x_5) x_4 wLwhole2 wbm wrr wkt) ∧ (¬ x_2 = (0 : Int64) → P (wdd, wLwhole, wLwhole2, wbm, wrr, wkt)))) ∧ (¬ (wdd 14) = (1 : Int32) → P (wdd, wLwhole, wLwhole2, wbm, wrr, wkt)))
def wj_Md_take_140 (ms : Int32) (a0 : Int64) (a1 : Int32) (P : ((Nat → Int32) × Int64 × Int64 × (Nat → Int32) × (Nat → Int32) × (Nat → Int32)) → Prop) (s140_1 : Int32) (z140dd : Nat → Int32) (z140Lwhole : Int64) (z140Lwhole2 : Int64) (z140bm : Nat → Int32) (z140rr : Nat → Int32) (z140kt : Nat → Int32) : Prop := ∃ n, wl_Md_take_143 ms a0 a1 P n (upd z140dd 14 s140_1) z140Lwhole z140Lwhole2 z140bm z140rr z140kt
def wj_Md_take_90 (ms : Int32) (a0 : Int64) (a1 : Int32) (P : ((Nat → Int32) × Int64 × Int64 × (Nat → Int32) × (Nat → Int32) × (Nat → Int32)) → Prop) (j90_4 : Int32) (j90_5 : Int32) (j90_6 : Int64) (s90_1 : Int32) (z90dd : Nat → Int32) (z90Lwhole : Int64) (z90Lwhole2 : Int64) (z90bm : Nat → Int32) (z90rr : Nat → Int32) (z90kt : Nat → Int32) : Prop := wp_Md_bias a1 (fun r_6 => ∀ x_7 : Int32, x_7 = ((s90_1 - r_6) - j90_4) → wp_Md_most a1 (fun r_8 => ((j90_5 = r_8 → ((j90_6 = (0 : Int64) → wj_Md_take_140 ms a0 a1 P (2 : Int32) (upd z90dd 15 x_7) z90Lwhole z90Lwhole2 z90bm z90rr z90kt) ∧ (¬ j90_6 = (0 : Int64) → wj_Md_take_140 ms a0 a1 P (3 : Int32) (upd z90dd 15 x_7) z90Lwhole z90Lwhole2 z90bm z90rr z90kt))) ∧ (¬ j90_5 = r_8 → ((z90Lwhole = (0 : Int64) → wj_Md_take_140 ms a0 a1 P (0 : Int32) (upd z90dd 15 x_7) z90Lwhole z90Lwhole2 z90bm z90rr z90kt) ∧ (¬ z90Lwhole = (0 : Int64) → wj_Md_take_140 ms a0 a1 P (1 : Int32) (upd z90dd 15 x_7) z90Lwhole z90Lwhole2 z90bm z90rr z90kt))))))
def wj_Md_take_75 (ms : Int32) (a0 : Int64) (a1 : Int32) (P : ((Nat → Int32) × Int64 × Int64 × (Nat → Int32) × (Nat → Int32) × (Nat → Int32)) → Prop) (j75_4 : Int32) (j75_5 : Int32) (j75_6 : Int64) (s75_1 : Int64) (z75dd : Nat → Int32) (z75Lwhole : Int64) (z75Lwhole2 : Int64) (z75bm : Nat → Int32) (z75rr : Nat → Int32) (z75kt : Nat → Int32) : Prop := ((j75_5 = (0 : Int32) → wj_Md_take_90 ms a0 a1 P j75_4 j75_5 j75_6 (1 : Int32) z75dd s75_1 z75Lwhole2 z75bm z75rr z75kt) ∧ (¬ j75_5 = (0 : Int32) → wj_Md_take_90 ms a0 a1 P j75_4 j75_5 j75_6 j75_5 z75dd s75_1 z75Lwhole2 z75bm z75rr z75kt))
def wj_Md_take_54 (ms : Int32) (a0 : Int64) (a1 : Int32) (P : ((Nat → Int32) × Int64 × Int64 × (Nat → Int32) × (Nat → Int32) × (Nat → Int32)) → Prop) (j54_4 : Int32) (j54_5 : Int32) (j54_6 : Int64) (s54_1 : Int32) (z54dd : Nat → Int32) (z54Lwhole : Int64) (z54Lwhole2 : Int64) (z54bm : Nat → Int32) (z54rr : Nat → Int32) (z54kt : Nat → Int32) : Prop := zz_bz s54_1 ∧ ((j54_5 = (0 : Int32) → wj_Md_take_75 ms a0 a1 P j54_4 j54_5 j54_6 j54_6 (upd z54dd 18 s54_1) z54Lwhole z54Lwhole2 z54bm z54rr z54kt) ∧ (¬ j54_5 = (0 : Int32) → ∀ x_14 : Int64, x_14 = (j54_6 ||| (zz_lshl (1 : Int64) j54_4)) → wj_Md_take_75 ms a0 a1 P j54_4 j54_5 j54_6 x_14 (upd z54dd 18 s54_1) z54Lwhole z54Lwhole2 z54bm z54rr z54kt))
def wj_Md_take_41 (ms : Int32) (a0 : Int64) (a1 : Int32) (P : ((Nat → Int32) × Int64 × Int64 × (Nat → Int32) × (Nat → Int32) × (Nat → Int32)) → Prop) (j41_4 : Int32) (j41_5 : Int32) (j41_6 : Int64) (s41_1 : Int64) (s41_2 : Int32) (z41dd : Nat → Int32) (z41Lwhole : Int64) (z41Lwhole2 : Int64) (z41bm : Nat → Int32) (z41rr : Nat → Int32) (z41kt : Nat → Int32) : Prop := ∀ x_15 : Int64, x_15 = ((zz_lushr s41_1 s41_2) &&& (1 : Int64)) → ((x_15 = (1 : Int64) → wj_Md_take_54 ms a0 a1 P j41_4 j41_5 j41_6 (1 : Int32) z41dd z41Lwhole z41Lwhole2 z41bm z41rr z41kt) ∧ (¬ x_15 = (1 : Int64) → wj_Md_take_54 ms a0 a1 P j41_4 j41_5 j41_6 (0 : Int32) z41dd z41Lwhole z41Lwhole2 z41bm z41rr z41kt))
def wp_Md_take (ms : Int32) (dd : Nat → Int32) (Lwhole : Int64) (Lwhole2 : Int64) (bm : Nat → Int32) (rr : Nat → Int32) (kt : Nat → Int32) (a0 : Int64) (a1 : Int32) (P : ((Nat → Int32) × Int64 × Int64 × (Nat → Int32) × (Nat → Int32) × (Nat → Int32)) → Prop) : Prop := wp_Md_digits a1 (fun r_17 => wp_Md_most a1 (fun r_18 => ∀ x_19 : Int32, x_19 = ((zz_lushr a0 r_17).toInt32 &&& r_18) → ∀ x_20 : Int64, x_20 = ((zz_lshl (1 : Int64) r_17) - (1 : Int64)) → ∀ x_21 : Int64, x_21 = (a0 &&& x_20) → ((a1 = (0 : Int32) → wj_Md_take_41 ms a0 a1 P r_17 x_19 x_21 a0 (31 : Int32) dd Lwhole Lwhole2 bm rr kt) ∧ (¬ a1 = (0 : Int32) → wj_Md_take_41 ms a0 a1 P r_17 x_19 x_21 a0 (63 : Int32) dd Lwhole Lwhole2 bm rr kt))))
abbrev rm_Md_take : Room := { frames := 1, cells := 0, slots := 0, locals := 20 }
set_option maxHeartbeats 4000000 in
set_option maxRecDepth 100000 in
theorem c_Md_take (l : Launch) (D : va_G) (cI : ClassId) (cB : ClassId) (qd : Nat) (qmemory : Nat) (qr : Nat) (qcounts : Nat) (ms : Int32) (dd : Nat → Int32) (Lwhole : Int64) (Lwhole2 : Int64) (bm : Nat → Int32) (rr : Nat → Int32) (kt : Nat → Int32) (a0 : Int64) (a1 : Int32) (P : ((Nat → Int32) × Int64 × Int64 × (Nat → Int32) × (Nat → Int32) × (Nat → Int32)) → Prop) (h : wp_Md_take ms dd Lwhole Lwhole2 bm rr kt a0 a1 P) (sz : Nat) : Met l y_Md_take (zz_ws y_Md_take b_Md_take 8 none) rm_Md_take (va_Pc [.ref qd, .long a0, .int a1] (zz_pw D [(cI, .int), (cB, .byte)] (wD qd qmemory qr qcounts cI cB ms dd Lwhole Lwhole2 bm rr kt) sz)) (va_Qv P (zz_qw D (fun u => wD qd qmemory qr qcounts cI cB ms u.1 u.2.1 u.2.2.1 u.2.2.2.1 u.2.2.2.2.1 u.2.2.2.2.2) (va_A (wD qd qmemory qr qcounts cI cB ms dd Lwhole Lwhole2 bm rr kt) sz)) (va_A (wD qd qmemory qr qcounts cI cB ms dd Lwhole Lwhole2 bm rr kt) sz)) 0 0 (va_A (wD qd qmemory qr qcounts cI cB ms dd Lwhole Lwhole2 bm rr kt) sz) := by
  refine Met.ofW (cc := b_Md_take) (maxL := 8) (ret := none) (by decide) rfl ?_
  intro p e s m args below meth c s₁ B hml hv
  obtain ⟨rfl, hsz, hP, hK, hD0⟩ := hv
  have hx := B.exec
  have hb := B.bytes
  have hr := B.returns
  have hts := atoms_spec (ws := (zz_ws y_Md_take b_Md_take 8 none)) B.pre
  have hown : s.vm.findClass R_Md = some m.cls := findClass_of_methodNamed B.named
  have hlocks := B.notSynchronized
  have hT := zz_hts hts
  have X : CallFix p m c b_Md_take 8 s ([.ref qd, .long a0, .int a1] : List Value).toArray (zz_ws y_Md_take b_Md_take 8 none) R_Md := ⟨hx, hb, hml, hown, hts⟩
  have hf0 : 0 + 0 ≤ (headSpec (zz_ws y_Md_take b_Md_take 8 none) rm_Md_take).room.cells ∧ 0 + 0 ≤ (headSpec (zz_ws y_Md_take b_Md_take 8 none) rm_Md_take).room.slots := ⟨Nat.le_of_ble_eq_true rfl, Nat.le_of_ble_eq_true rfl⟩
  subst hsz
  have hD := hD0.self (sz := s.heap.size)
  generalize hAe : va_A (wD qd qmemory qr qcounts cI cB ms dd Lwhole Lwhole2 bm rr kt) s.heap.size = A at hD ⊢
  have hA : ∀ q : Nat, s.heap.size ≤ q → A q := fun q h => by rw [← hAe]; exact Or.inr h
  have hS : va_S A s.heap s.heap [] := va_S.rf
  have hl := lv_entry ([.ref qd, .long a0, .int a1]) (n := 8) (Nat.le_of_ble_eq_true rfl)
  rw [lg_entry_eq]
  generalize (lg_sl ([.ref qd, .long a0, .int a1]) ++ List.replicate (8 - (lg_sl ([.ref qd, .long a0, .int a1])).length) Slot.unset).toArray = ls at hl ⊢
  have hl : lv_has ls 8 [(0, .ref qd), (1, .long a0), (3, .int a1)] := hl
  have jn_140 : ∀ (s140_1 : Int32) (z140dd : Nat → Int32) (z140Lwhole : Int64) (z140Lwhole2 : Int64) (z140bm : Nat → Int32) (z140rr : Nat → Int32) (z140kt : Nat → Int32), wj_Md_take_140 ms a0 a1 P s140_1 z140dd z140Lwhole z140Lwhole2 z140bm z140rr z140kt → ∀ (H : Heap) (locs : List Loc), va_P D vwCl (wD qd qmemory qr qcounts cI cB ms z140dd z140Lwhole z140Lwhole2 z140bm z140rr z140kt) H → va_D A (wD qd qmemory qr qcounts cI cB ms z140dd z140Lwhole z140Lwhole2 z140bm z140rr z140kt) → va_S A s.heap H locs → ∀ ls : Array Slot, lv_has ls 8 [(0, .ref qd)] → W p l e (headSpec (zz_ws y_Md_take b_Md_take 8 none) rm_Md_take).room s m ([.ref qd, .long a0, .int a1] : List Value).toArray below meth c H locs 0 0 (MQ below (va_Qv P (zz_qw D (fun u => wD qd qmemory qr qcounts cI cB ms u.1 u.2.1 u.2.2.1 u.2.2.2.1 u.2.2.2.2.1 u.2.2.2.2.2) A) A) ([.ref qd, .long a0, .int a1] : List Value).toArray s 0 0 A) (F0 m 140 ls [.int s140_1, .ref qd]) := by
    intro s140_1 z140dd z140Lwhole z140Lwhole2 z140bm z140rr z140kt h H locs hP hD hS ls hl
    unfold wj_Md_take_140 at h
    refine p_Md_210 hx hb hT hown hK hP hD hS 0 rfl rfl d_Md_take_140 (fun H locs (hP : va_P D vwCl (wD qd qmemory qr qcounts cI cB ms (upd z140dd 14 s140_1) z140Lwhole z140Lwhole2 z140bm z140rr z140kt) H) (hD : va_D A (wD qd qmemory qr qcounts cI cB ms (upd z140dd 14 s140_1) z140Lwhole z140Lwhole2 z140bm z140rr z140kt)) hS => ?_)
    have lp : ∀ (n : Nat) (wdd : Nat → Int32) (wLwhole : Int64) (wLwhole2 : Int64) (wbm : Nat → Int32) (wrr : Nat → Int32) (wkt : Nat → Int32), wl_Md_take_143 ms a0 a1 P n wdd wLwhole wLwhole2 wbm wrr wkt → ∀ (H : Heap) (locs : List Loc), va_P D vwCl (wD qd qmemory qr qcounts cI cB ms wdd wLwhole wLwhole2 wbm wrr wkt) H → va_D A (wD qd qmemory qr qcounts cI cB ms wdd wLwhole wLwhole2 wbm wrr wkt) → va_S A s.heap H locs → ∀ ls : Array Slot, lv_has ls 8 [(0, .ref qd)] → W p l e (headSpec (zz_ws y_Md_take b_Md_take 8 none) rm_Md_take).room s m ([.ref qd, .long a0, .int a1] : List Value).toArray below meth c H locs 0 0 (MQ below (va_Qv P (zz_qw D (fun u => wD qd qmemory qr qcounts cI cB ms u.1 u.2.1 u.2.2.1 u.2.2.2.1 u.2.2.2.2.1 u.2.2.2.2.2) A) A) ([.ref qd, .long a0, .int a1] : List Value).toArray s 0 0 A) (F0 m 143 ls []) := by
      intro n
      induction n with
      | zero =>
        intro wdd wLwhole wLwhole2 wbm wrr wkt h
        exact False.elim h
      | succ n ih =>
        intro wdd wLwhole wLwhole2 wbm wrr wkt h H locs hP hD hS ls hl
        rw [wl_Md_take_143] at h
        refine lv_aload_n hx hb d_Md_take_143 rfl (lv_at hl 0 rfl) ?_
        refine g_Md_210 (v := .int (wdd 14)) hx hb hT hown hK hP 0 rfl rfl d_Md_take_144 ?_
        refine lv_iconst (v := 1) hx hb d_Md_take_147 (by decide) ?_
        refine lv_icmp_ne (tgt := 186) hx hb d_Md_take_148 (by decide) (fun c_1 => ?_) (fun c_1 => ?_)
        · skip
          have h := h.2 c_1
          exact W.vret hx hb hr (fun t ht hW => ⟨⟨(wdd, wLwhole, wLwhole2, wbm, wrr, wkt), rfl, h, by rw [ht]; exact hP, hD⟩, hS.F ht⟩) hS.2.2 d_Md_take_186
        · skip
          have h := h.1 c_1
          refine lv_aload_n hx hb d_Md_take_151 rfl (lv_at hl 0 rfl) ?_
          refine g_Md_200 (v := .long wLwhole) hx hb hT hown hK hP 0 rfl rfl d_Md_take_152 ?_
          refine lv_bipush (v := 52) hx hb d_Md_take_155 (by decide) ?_
          refine zz_llshr hx hb d_Md_take_157 ?_
          refine lv_topl (fun x_2 ex_2 => ?_)
          have h := h x_2 ex_2
          refine lv_lconst (v := 0) hx hb d_Md_take_158 (by decide) ?_
          refine W.lcmp hx hb d_Md_take_159 ?_
          refine lv_if_ne (tgt := 186) hx hb d_Md_take_160 (by decide) (fun c_3 => ?_) (fun c_3 => ?_)
          · have kc_3 := (fun q => c_3 ((lg_cmp_eq _ _).mpr q))
            have h := h.2 kc_3
            exact W.vret hx hb hr (fun t ht hW => ⟨⟨(wdd, wLwhole, wLwhole2, wbm, wrr, wkt), rfl, h, by rw [ht]; exact hP, hD⟩, hS.F ht⟩) hS.2.2 d_Md_take_186
          · have kc_3 := ((lg_cmp_eq _ _).mp c_3)
            have h := h.1 kc_3
            refine lv_aload_n hx hb d_Md_take_163 rfl (lv_at hl 0 rfl) ?_
            refine lv_dup hx hb d_Md_take_164 rfl ?_
            refine g_Md_200 (v := .long wLwhole) hx hb hT hown hK hP 0 rfl rfl d_Md_take_165 ?_
            refine lv_iconst (v := 1) hx hb d_Md_take_168 (by decide) ?_
            refine zz_llshl hx hb d_Md_take_169 ?_
            refine lv_topl (fun x_4 ex_4 => ?_)
            have h := h x_4 ex_4
            refine p_Md_200 hx hb hT hown hK hP hD hS 0 rfl rfl d_Md_take_170 (fun H locs (hP : va_P D vwCl (wD qd qmemory qr qcounts cI cB ms wdd x_4 wLwhole2 wbm wrr wkt) H) (hD : va_D A (wD qd qmemory qr qcounts cI cB ms wdd x_4 wLwhole2 wbm wrr wkt)) hS => ?_)
            refine lv_aload_n hx hb d_Md_take_173 rfl (lv_at hl 0 rfl) ?_
            refine lv_dup hx hb d_Md_take_174 rfl ?_
            refine g_Md_207 (v := .int (wdd 15)) hx hb hT hown hK hP 0 rfl rfl d_Md_take_175 ?_
            refine lv_iconst (v := 1) hx hb d_Md_take_178 (by decide) ?_
            refine lv_isub hx hb d_Md_take_179 ?_
            refine lv_topi (fun x_5 ex_5 => ?_)
            have h := h x_5 ex_5
            refine p_Md_207 hx hb hT hown hK hP hD hS 0 rfl rfl d_Md_take_180 (fun H locs (hP : va_P D vwCl (wD qd qmemory qr qcounts cI cB ms (upd wdd 15 x_5) x_4 wLwhole2 wbm wrr wkt) H) (hD : va_D A (wD qd qmemory qr qcounts cI cB ms (upd wdd 15 x_5) x_4 wLwhole2 wbm wrr wkt)) hS => ?_)
            refine lv_goto (tgt := 143) hx hb d_Md_take_183 (by decide) ?_
            exact ih (upd wdd 15 x_5) x_4 wLwhole2 wbm wrr wkt h H locs hP hD hS ls (lv_sub hl [0] rfl)
    obtain ⟨n, h⟩ := h
    exact lp n (upd z140dd 14 s140_1) z140Lwhole z140Lwhole2 z140bm z140rr z140kt h _ _ hP hD hS ls hl
  have jn_90 : ∀ (j90_4 : Int32) (j90_5 : Int32) (j90_6 : Int64) (s90_1 : Int32) (z90dd : Nat → Int32) (z90Lwhole : Int64) (z90Lwhole2 : Int64) (z90bm : Nat → Int32) (z90rr : Nat → Int32) (z90kt : Nat → Int32), wj_Md_take_90 ms a0 a1 P j90_4 j90_5 j90_6 s90_1 z90dd z90Lwhole z90Lwhole2 z90bm z90rr z90kt → ∀ (H : Heap) (locs : List Loc), va_P D vwCl (wD qd qmemory qr qcounts cI cB ms z90dd z90Lwhole z90Lwhole2 z90bm z90rr z90kt) H → va_D A (wD qd qmemory qr qcounts cI cB ms z90dd z90Lwhole z90Lwhole2 z90bm z90rr z90kt) → va_S A s.heap H locs → ∀ ls : Array Slot, lv_has ls 8 [(0, .ref qd), (3, .int a1), (4, .int j90_4), (5, .int j90_5), (6, .long j90_6)] → W p l e (headSpec (zz_ws y_Md_take b_Md_take 8 none) rm_Md_take).room s m ([.ref qd, .long a0, .int a1] : List Value).toArray below meth c H locs 0 0 (MQ below (va_Qv P (zz_qw D (fun u => wD qd qmemory qr qcounts cI cB ms u.1 u.2.1 u.2.2.1 u.2.2.2.1 u.2.2.2.2.1 u.2.2.2.2.2) A) A) ([.ref qd, .long a0, .int a1] : List Value).toArray s 0 0 A) (F0 m 90 ls [.int s90_1, .ref qd]) := by
    intro j90_4 j90_5 j90_6 s90_1 z90dd z90Lwhole z90Lwhole2 z90bm z90rr z90kt h H locs hP hD hS ls hl
    unfold wj_Md_take_90 at h
    refine lv_iload_n hx hb d_Md_take_90 rfl (lv_at hl 1 rfl) ?_
    refine zz_Si (As := [.int a1]) (rest := [.int s90_1, .ref qd]) X (c_Md_bias l a1 _ h) ⟨rfl, rfl⟩ m_Md_bias k_Md_204 ⟨Nat.le_of_ble_eq_true rfl, Nat.le_of_ble_eq_true rfl⟩ rfl hl.1 rfl (Nat.le_of_ble_eq_true rfl) d_Md_take_91 hf0 (fun r_6 h => ?_)
    refine lv_isub hx hb d_Md_take_94 ?_
    refine lv_iload hx hb d_Md_take_95 (lv_at hl 2 rfl) ?_
    refine lv_isub hx hb d_Md_take_97 ?_
    refine lv_topi (fun x_7 ex_7 => ?_)
    have h := h x_7 ex_7
    refine p_Md_207 hx hb hT hown hK hP hD hS 0 rfl rfl d_Md_take_98 (fun H locs (hP : va_P D vwCl (wD qd qmemory qr qcounts cI cB ms (upd z90dd 15 x_7) z90Lwhole z90Lwhole2 z90bm z90rr z90kt) H) (hD : va_D A (wD qd qmemory qr qcounts cI cB ms (upd z90dd 15 x_7) z90Lwhole z90Lwhole2 z90bm z90rr z90kt)) hS => ?_)
    refine lv_aload_n hx hb d_Md_take_101 rfl (lv_at hl 0 rfl) ?_
    refine lv_iload hx hb d_Md_take_102 (lv_at hl 3 rfl) ?_
    refine lv_iload_n hx hb d_Md_take_104 rfl (lv_at hl 1 rfl) ?_
    refine zz_Si (As := [.int a1]) (rest := [.int j90_5, .ref qd]) X (c_Md_most l a1 _ h) ⟨rfl, rfl⟩ m_Md_most k_Md_194 ⟨Nat.le_of_ble_eq_true rfl, Nat.le_of_ble_eq_true rfl⟩ rfl hl.1 rfl (Nat.le_of_ble_eq_true rfl) d_Md_take_105 hf0 (fun r_8 h => ?_)
    refine lv_icmp_ne (tgt := 126) hx hb d_Md_take_108 (by decide) (fun c_9 => ?_) (fun c_9 => ?_)
    · skip
      have h := h.2 c_9
      refine lv_aload_n hx hb d_Md_take_126 rfl (lv_at hl 0 rfl) ?_
      refine g_Md_200 (v := .long z90Lwhole) hx hb hT hown hK hP 0 rfl rfl d_Md_take_127 ?_
      refine lv_lconst (v := 0) hx hb d_Md_take_130 (by decide) ?_
      refine W.lcmp hx hb d_Md_take_131 ?_
      refine lv_if_ne (tgt := 139) hx hb d_Md_take_132 (by decide) (fun c_10 => ?_) (fun c_10 => ?_)
      · have kc_10 := (fun q => c_10 ((lg_cmp_eq _ _).mpr q))
        have h := h.2 kc_10
        refine lv_iconst (v := 1) hx hb d_Md_take_139 (by decide) ?_
        exact jn_140 (1 : Int32) (upd z90dd 15 x_7) z90Lwhole z90Lwhole2 z90bm z90rr z90kt h _ _ hP hD hS ls (lv_sub hl [0] rfl)
      · have kc_10 := ((lg_cmp_eq _ _).mp c_10)
        have h := h.1 kc_10
        refine lv_iconst (v := 0) hx hb d_Md_take_135 (by decide) ?_
        refine lv_goto (tgt := 140) hx hb d_Md_take_136 (by decide) ?_
        exact jn_140 (0 : Int32) (upd z90dd 15 x_7) z90Lwhole z90Lwhole2 z90bm z90rr z90kt h _ _ hP hD hS ls (lv_sub hl [0] rfl)
    · skip
      have h := h.1 c_9
      refine lv_lload hx hb d_Md_take_111 (lv_at hl 4 rfl) ?_
      refine lv_lconst (v := 0) hx hb d_Md_take_113 (by decide) ?_
      refine W.lcmp hx hb d_Md_take_114 ?_
      refine lv_if_ne (tgt := 122) hx hb d_Md_take_115 (by decide) (fun c_11 => ?_) (fun c_11 => ?_)
      · have kc_11 := (fun q => c_11 ((lg_cmp_eq _ _).mpr q))
        have h := h.2 kc_11
        refine lv_iconst (v := 3) hx hb d_Md_take_122 (by decide) ?_
        refine lv_goto (tgt := 140) hx hb d_Md_take_123 (by decide) ?_
        exact jn_140 (3 : Int32) (upd z90dd 15 x_7) z90Lwhole z90Lwhole2 z90bm z90rr z90kt h _ _ hP hD hS ls (lv_sub hl [0] rfl)
      · have kc_11 := ((lg_cmp_eq _ _).mp c_11)
        have h := h.1 kc_11
        refine lv_iconst (v := 2) hx hb d_Md_take_118 (by decide) ?_
        refine lv_goto (tgt := 140) hx hb d_Md_take_119 (by decide) ?_
        exact jn_140 (2 : Int32) (upd z90dd 15 x_7) z90Lwhole z90Lwhole2 z90bm z90rr z90kt h _ _ hP hD hS ls (lv_sub hl [0] rfl)
  have jn_75 : ∀ (j75_4 : Int32) (j75_5 : Int32) (j75_6 : Int64) (s75_1 : Int64) (z75dd : Nat → Int32) (z75Lwhole : Int64) (z75Lwhole2 : Int64) (z75bm : Nat → Int32) (z75rr : Nat → Int32) (z75kt : Nat → Int32), wj_Md_take_75 ms a0 a1 P j75_4 j75_5 j75_6 s75_1 z75dd z75Lwhole z75Lwhole2 z75bm z75rr z75kt → ∀ (H : Heap) (locs : List Loc), va_P D vwCl (wD qd qmemory qr qcounts cI cB ms z75dd z75Lwhole z75Lwhole2 z75bm z75rr z75kt) H → va_D A (wD qd qmemory qr qcounts cI cB ms z75dd z75Lwhole z75Lwhole2 z75bm z75rr z75kt) → va_S A s.heap H locs → ∀ ls : Array Slot, lv_has ls 8 [(0, .ref qd), (3, .int a1), (4, .int j75_4), (5, .int j75_5), (6, .long j75_6)] → W p l e (headSpec (zz_ws y_Md_take b_Md_take 8 none) rm_Md_take).room s m ([.ref qd, .long a0, .int a1] : List Value).toArray below meth c H locs 0 0 (MQ below (va_Qv P (zz_qw D (fun u => wD qd qmemory qr qcounts cI cB ms u.1 u.2.1 u.2.2.1 u.2.2.2.1 u.2.2.2.2.1 u.2.2.2.2.2) A) A) ([.ref qd, .long a0, .int a1] : List Value).toArray s 0 0 A) (F0 m 75 ls [.long s75_1, .ref qd]) := by
    intro j75_4 j75_5 j75_6 s75_1 z75dd z75Lwhole z75Lwhole2 z75bm z75rr z75kt h H locs hP hD hS ls hl
    unfold wj_Md_take_75 at h
    refine p_Md_200 hx hb hT hown hK hP hD hS 0 rfl rfl d_Md_take_75 (fun H locs (hP : va_P D vwCl (wD qd qmemory qr qcounts cI cB ms z75dd s75_1 z75Lwhole2 z75bm z75rr z75kt) H) (hD : va_D A (wD qd qmemory qr qcounts cI cB ms z75dd s75_1 z75Lwhole2 z75bm z75rr z75kt)) hS => ?_)
    refine lv_aload_n hx hb d_Md_take_78 rfl (lv_at hl 0 rfl) ?_
    refine lv_iload hx hb d_Md_take_79 (lv_at hl 3 rfl) ?_
    refine lv_if_ne (tgt := 88) hx hb d_Md_take_81 (by decide) (fun c_12 => ?_) (fun c_12 => ?_)
    · skip
      have h := h.2 c_12
      refine lv_iload hx hb d_Md_take_88 (lv_at hl 3 rfl) ?_
      exact jn_90 j75_4 j75_5 j75_6 j75_5 z75dd s75_1 z75Lwhole2 z75bm z75rr z75kt h _ _ hP hD hS ls (lv_sub hl [0, 1, 2, 3, 4] rfl)
    · skip
      have h := h.1 c_12
      refine lv_iconst (v := 1) hx hb d_Md_take_84 (by decide) ?_
      refine lv_goto (tgt := 90) hx hb d_Md_take_85 (by decide) ?_
      exact jn_90 j75_4 j75_5 j75_6 (1 : Int32) z75dd s75_1 z75Lwhole2 z75bm z75rr z75kt h _ _ hP hD hS ls (lv_sub hl [0, 1, 2, 3, 4] rfl)
  have jn_54 : ∀ (j54_4 : Int32) (j54_5 : Int32) (j54_6 : Int64) (s54_1 : Int32) (z54dd : Nat → Int32) (z54Lwhole : Int64) (z54Lwhole2 : Int64) (z54bm : Nat → Int32) (z54rr : Nat → Int32) (z54kt : Nat → Int32), wj_Md_take_54 ms a0 a1 P j54_4 j54_5 j54_6 s54_1 z54dd z54Lwhole z54Lwhole2 z54bm z54rr z54kt → ∀ (H : Heap) (locs : List Loc), va_P D vwCl (wD qd qmemory qr qcounts cI cB ms z54dd z54Lwhole z54Lwhole2 z54bm z54rr z54kt) H → va_D A (wD qd qmemory qr qcounts cI cB ms z54dd z54Lwhole z54Lwhole2 z54bm z54rr z54kt) → va_S A s.heap H locs → ∀ ls : Array Slot, lv_has ls 8 [(0, .ref qd), (3, .int a1), (4, .int j54_4), (5, .int j54_5), (6, .long j54_6)] → W p l e (headSpec (zz_ws y_Md_take b_Md_take 8 none) rm_Md_take).room s m ([.ref qd, .long a0, .int a1] : List Value).toArray below meth c H locs 0 0 (MQ below (va_Qv P (zz_qw D (fun u => wD qd qmemory qr qcounts cI cB ms u.1 u.2.1 u.2.2.1 u.2.2.2.1 u.2.2.2.2.1 u.2.2.2.2.2) A) A) ([.ref qd, .long a0, .int a1] : List Value).toArray s 0 0 A) (F0 m 54 ls [.int s54_1, .ref qd]) := by
    intro j54_4 j54_5 j54_6 s54_1 z54dd z54Lwhole z54Lwhole2 z54bm z54rr z54kt h H locs hP hD hS ls hl
    unfold wj_Md_take_54 at h
    refine p_Md_197 hx hb hT hown hK hP hD hS 0 rfl rfl h.1 d_Md_take_54 (fun H locs (hP : va_P D vwCl (wD qd qmemory qr qcounts cI cB ms (upd z54dd 18 s54_1) z54Lwhole z54Lwhole2 z54bm z54rr z54kt) H) (hD : va_D A (wD qd qmemory qr qcounts cI cB ms (upd z54dd 18 s54_1) z54Lwhole z54Lwhole2 z54bm z54rr z54kt)) hS => ?_)
    have h := h.2
    refine lv_aload_n hx hb d_Md_take_57 rfl (lv_at hl 0 rfl) ?_
    refine lv_iload hx hb d_Md_take_58 (lv_at hl 3 rfl) ?_
    refine lv_if_ne (tgt := 68) hx hb d_Md_take_60 (by decide) (fun c_13 => ?_) (fun c_13 => ?_)
    · skip
      have h := h.2 c_13
      refine lv_lload hx hb d_Md_take_68 (lv_at hl 4 rfl) ?_
      refine lv_lconst (v := 1) hx hb d_Md_take_70 (by decide) ?_
      refine lv_iload hx hb d_Md_take_71 (lv_at hl 2 rfl) ?_
      refine zz_llshl hx hb d_Md_take_73 ?_
      refine lv_lor hx hb d_Md_take_74 ?_
      refine lv_topl (fun x_14 ex_14 => ?_)
      have h := h x_14 ex_14
      exact jn_75 j54_4 j54_5 j54_6 x_14 (upd z54dd 18 s54_1) z54Lwhole z54Lwhole2 z54bm z54rr z54kt h _ _ hP hD hS ls (lv_sub hl [0, 1, 2, 3, 4] rfl)
    · skip
      have h := h.1 c_13
      refine lv_lload hx hb d_Md_take_63 (lv_at hl 4 rfl) ?_
      refine lv_goto (tgt := 75) hx hb d_Md_take_65 (by decide) ?_
      exact jn_75 j54_4 j54_5 j54_6 j54_6 (upd z54dd 18 s54_1) z54Lwhole z54Lwhole2 z54bm z54rr z54kt h _ _ hP hD hS ls (lv_sub hl [0, 1, 2, 3, 4] rfl)
  have jn_41 : ∀ (j41_4 : Int32) (j41_5 : Int32) (j41_6 : Int64) (s41_1 : Int64) (s41_2 : Int32) (z41dd : Nat → Int32) (z41Lwhole : Int64) (z41Lwhole2 : Int64) (z41bm : Nat → Int32) (z41rr : Nat → Int32) (z41kt : Nat → Int32), wj_Md_take_41 ms a0 a1 P j41_4 j41_5 j41_6 s41_1 s41_2 z41dd z41Lwhole z41Lwhole2 z41bm z41rr z41kt → ∀ (H : Heap) (locs : List Loc), va_P D vwCl (wD qd qmemory qr qcounts cI cB ms z41dd z41Lwhole z41Lwhole2 z41bm z41rr z41kt) H → va_D A (wD qd qmemory qr qcounts cI cB ms z41dd z41Lwhole z41Lwhole2 z41bm z41rr z41kt) → va_S A s.heap H locs → ∀ ls : Array Slot, lv_has ls 8 [(0, .ref qd), (3, .int a1), (4, .int j41_4), (5, .int j41_5), (6, .long j41_6)] → W p l e (headSpec (zz_ws y_Md_take b_Md_take 8 none) rm_Md_take).room s m ([.ref qd, .long a0, .int a1] : List Value).toArray below meth c H locs 0 0 (MQ below (va_Qv P (zz_qw D (fun u => wD qd qmemory qr qcounts cI cB ms u.1 u.2.1 u.2.2.1 u.2.2.2.1 u.2.2.2.2.1 u.2.2.2.2.2) A) A) ([.ref qd, .long a0, .int a1] : List Value).toArray s 0 0 A) (F0 m 41 ls [.int s41_2, .long s41_1, .ref qd]) := by
    intro j41_4 j41_5 j41_6 s41_1 s41_2 z41dd z41Lwhole z41Lwhole2 z41bm z41rr z41kt h H locs hP hD hS ls hl
    unfold wj_Md_take_41 at h
    refine zz_llushr hx hb d_Md_take_41 ?_
    refine lv_lconst (v := 1) hx hb d_Md_take_42 (by decide) ?_
    refine lv_land hx hb d_Md_take_43 ?_
    refine lv_topl (fun x_15 ex_15 => ?_)
    have h := h x_15 ex_15
    refine lv_lconst (v := 1) hx hb d_Md_take_44 (by decide) ?_
    refine W.lcmp hx hb d_Md_take_45 ?_
    refine lv_if_ne (tgt := 53) hx hb d_Md_take_46 (by decide) (fun c_16 => ?_) (fun c_16 => ?_)
    · have kc_16 := (fun q => c_16 ((lg_cmp_eq _ _).mpr q))
      have h := h.2 kc_16
      refine lv_iconst (v := 0) hx hb d_Md_take_53 (by decide) ?_
      exact jn_54 j41_4 j41_5 j41_6 (0 : Int32) z41dd z41Lwhole z41Lwhole2 z41bm z41rr z41kt h _ _ hP hD hS ls (lv_sub hl [0, 1, 2, 3, 4] rfl)
    · have kc_16 := ((lg_cmp_eq _ _).mp c_16)
      have h := h.1 kc_16
      refine lv_iconst (v := 1) hx hb d_Md_take_49 (by decide) ?_
      refine lv_goto (tgt := 54) hx hb d_Md_take_50 (by decide) ?_
      exact jn_54 j41_4 j41_5 j41_6 (1 : Int32) z41dd z41Lwhole z41Lwhole2 z41bm z41rr z41kt h _ _ hP hD hS ls (lv_sub hl [0, 1, 2, 3, 4] rfl)
  refine lv_iload_n hx hb d_Md_take_0 rfl (lv_at hl 2 rfl) ?_
  refine zz_Si (As := [.int a1]) (rest := []) X (c_Md_digits l a1 _ h) ⟨rfl, rfl⟩ m_Md_digits k_Md_190 ⟨Nat.le_of_ble_eq_true rfl, Nat.le_of_ble_eq_true rfl⟩ rfl hl.1 rfl (Nat.le_of_ble_eq_true rfl) d_Md_take_1 hf0 (fun r_17 h => ?_)
  refine lv_istore (lv' := [(4, .int r_17), (0, .ref qd), (1, .long a0), (3, .int a1)]) hx hb d_Md_take_4 hl (by decide) rfl (fun ls hl => ?_)
  refine lv_lload_n hx hb d_Md_take_6 rfl (lv_at hl 2 rfl) ?_
  refine lv_iload hx hb d_Md_take_7 (lv_at hl 0 rfl) ?_
  refine zz_llushr hx hb d_Md_take_9 ?_
  refine lv_l2i (v := (zz_lushr a0 r_17).toInt32) hx hb d_Md_take_10 rfl ?_
  refine lv_iload_n hx hb d_Md_take_11 rfl (lv_at hl 3 rfl) ?_
  refine zz_Si (As := [.int a1]) (rest := [.int (zz_lushr a0 r_17).toInt32]) X (c_Md_most l a1 _ h) ⟨rfl, rfl⟩ m_Md_most k_Md_194 ⟨Nat.le_of_ble_eq_true rfl, Nat.le_of_ble_eq_true rfl⟩ rfl hl.1 rfl (Nat.le_of_ble_eq_true rfl) d_Md_take_12 hf0 (fun r_18 h => ?_)
  refine lv_iand hx hb d_Md_take_15 ?_
  refine lv_topi (fun x_19 ex_19 => ?_)
  have h := h x_19 ex_19
  refine lv_istore (lv' := [(5, .int x_19), (4, .int r_17), (0, .ref qd), (1, .long a0), (3, .int a1)]) hx hb d_Md_take_16 hl (by decide) rfl (fun ls hl => ?_)
  refine lv_lload_n hx hb d_Md_take_18 rfl (lv_at hl 3 rfl) ?_
  refine lv_lconst (v := 1) hx hb d_Md_take_19 (by decide) ?_
  refine lv_iload hx hb d_Md_take_20 (lv_at hl 1 rfl) ?_
  refine zz_llshl hx hb d_Md_take_22 ?_
  refine lv_lconst (v := 1) hx hb d_Md_take_23 (by decide) ?_
  refine lv_lsub hx hb d_Md_take_24 ?_
  refine lv_topl (fun x_20 ex_20 => ?_)
  have h := h x_20 ex_20
  refine lv_land hx hb d_Md_take_25 ?_
  refine lv_topl (fun x_21 ex_21 => ?_)
  have h := h x_21 ex_21
  refine lv_lstore (lv' := [(6, .long x_21), (5, .int x_19), (4, .int r_17), (0, .ref qd), (1, .long a0), (3, .int a1)]) hx hb d_Md_take_26 hl (by decide) rfl (fun ls hl => ?_)
  refine lv_aload_n hx hb d_Md_take_28 rfl (lv_at hl 3 rfl) ?_
  refine lv_lload_n hx hb d_Md_take_29 rfl (lv_at hl 4 rfl) ?_
  refine lv_iload_n hx hb d_Md_take_30 rfl (lv_at hl 5 rfl) ?_
  refine lv_if_eq (tgt := 39) hx hb d_Md_take_31 (by decide) (fun c_22 => ?_) (fun c_22 => ?_)
  · skip
    have h := h.1 c_22
    refine lv_bipush (v := 31) hx hb d_Md_take_39 (by decide) ?_
    exact jn_41 r_17 x_19 x_21 a0 (31 : Int32) dd Lwhole Lwhole2 bm rr kt h _ _ hP hD hS ls (lv_sub hl [3, 5, 2, 1, 0] rfl)
  · skip
    have h := h.2 c_22
    refine lv_bipush (v := 63) hx hb d_Md_take_34 (by decide) ?_
    refine lv_goto (tgt := 41) hx hb d_Md_take_36 (by decide) ?_
    exact jn_41 r_17 x_19 x_21 a0 (63 : Int32) dd Lwhole Lwhole2 bm rr kt h _ _ hP hD hS ls (lv_sub hl [3, 5, 2, 1, 0] rfl)
