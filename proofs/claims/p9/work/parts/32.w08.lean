def wp_Md_operate (ms : Int32) (dd : Nat → Int32) (Lwhole : Int64) (Lwhole2 : Int64) (bm : Nat → Int32) (rr : Nat → Int32) (kt : Nat → Int32) (a0 : Int32) (P : ((Nat → Int32) × Int64 × Int64 × (Nat → Int32) × (Nat → Int32) × (Nat → Int32)) → Prop) : Prop := ((a0 = (0 : Int32) → wp_Md_special ms dd Lwhole Lwhole2 bm rr kt ((dd 9) &&& (63 : Int32)) (fun u_32 => P (u_32.1, u_32.2.1, u_32.2.2.1, u_32.2.2.2.1, u_32.2.2.2.2.1, u_32.2.2.2.2.2))) ∧ (¬ a0 = (0 : Int32) → ((a0 = (1 : Int32) → wp_Md_field ms dd Lwhole Lwhole2 bm rr kt (16 : Int32) (fun r_29 => wp_Md_immediate ms dd Lwhole Lwhole2 bm rr kt r_29 (fun u_30 => P (u_30.1, u_30.2.1, u_30.2.2.1, u_30.2.2.2.1, u_30.2.2.2.2.1, u_30.2.2.2.2.2)))) ∧ (¬ a0 = (1 : Int32) → ((a0 = (17 : Int32) → wp_Md_fractions ms dd Lwhole Lwhole2 bm rr kt (fun u_27 => P (u_27.1, u_27.2.1, u_27.2.2.1, u_27.2.2.2.1, u_27.2.2.2.2.1, u_27.2.2.2.2.2))) ∧ (¬ a0 = (17 : Int32) → ((a0 = (28 : Int32) → wp_Md_second ms dd Lwhole Lwhole2 bm rr kt ((dd 9) &&& (63 : Int32)) (fun u_25 => P (u_25.1, u_25.2.1, u_25.2.2.1, u_25.2.2.2.1, u_25.2.2.2.2.1, u_25.2.2.2.2.2))) ∧ (¬ a0 = (28 : Int32) → (((8 : Int32) ≤ a0 → (((16 : Int32) ≤ a0 → ((a0 < (20 : Int32) → ((a0 < (32 : Int32) → wp_Md_ends ms dd Lwhole Lwhole2 bm rr kt (3 : Int32) (fun u_9 => P (u_9.1, u_9.2.1, u_9.2.2.1, u_9.2.2.2.1, u_9.2.2.2.2.1, u_9.2.2.2.2.2))) ∧ (¬ a0 < (32 : Int32) → wp_Md_memories ms dd Lwhole Lwhole2 bm rr kt a0 (fun u_11 => P (u_11.1, u_11.2.1, u_11.2.2.1, u_11.2.2.2.1, u_11.2.2.2.2.1, u_11.2.2.2.2.2))))) ∧ (¬ a0 < (20 : Int32) → (((24 : Int32) ≤ a0 → ((a0 < (32 : Int32) → wp_Md_ends ms dd Lwhole Lwhole2 bm rr kt (3 : Int32) (fun u_15 => P (u_15.1, u_15.2.1, u_15.2.2.1, u_15.2.2.2.1, u_15.2.2.2.2.1, u_15.2.2.2.2.2))) ∧ (¬ a0 < (32 : Int32) → wp_Md_memories ms dd Lwhole Lwhole2 bm rr kt a0 (fun u_17 => P (u_17.1, u_17.2.1, u_17.2.2.1, u_17.2.2.2.1, u_17.2.2.2.2.1, u_17.2.2.2.2.2))))) ∧ (¬ (24 : Int32) ≤ a0 → wp_Md_branches ms dd Lwhole Lwhole2 bm rr kt a0 (fun u_19 => P (u_19.1, u_19.2.1, u_19.2.2.1, u_19.2.2.2.1, u_19.2.2.2.2.1, u_19.2.2.2.2.2))))))) ∧ (¬ (16 : Int32) ≤ a0 → wp_Md_numbers ms dd Lwhole Lwhole2 bm rr kt a0 (fun u_21 => P (u_21.1, u_21.2.1, u_21.2.2.1, u_21.2.2.2.1, u_21.2.2.2.2.1, u_21.2.2.2.2.2))))) ∧ (¬ (8 : Int32) ≤ a0 → wp_Md_branches ms dd Lwhole Lwhole2 bm rr kt a0 (fun u_23 => P (u_23.1, u_23.2.1, u_23.2.2.1, u_23.2.2.2.1, u_23.2.2.2.2.1, u_23.2.2.2.2.2))))))))))))
abbrev rm_Md_operate : Room := { frames := 8, cells := 0, slots := 0, locals := 223 }
set_option maxHeartbeats 4000000 in
set_option maxRecDepth 100000 in
theorem c_Md_operate (l : Launch) (D : va_G) (cI : ClassId) (cB : ClassId) (qd : Nat) (qmemory : Nat) (qr : Nat) (qcounts : Nat) (ms : Int32) (dd : Nat → Int32) (Lwhole : Int64) (Lwhole2 : Int64) (bm : Nat → Int32) (rr : Nat → Int32) (kt : Nat → Int32) (a0 : Int32) (P : ((Nat → Int32) × Int64 × Int64 × (Nat → Int32) × (Nat → Int32) × (Nat → Int32)) → Prop) (h : wp_Md_operate ms dd Lwhole Lwhole2 bm rr kt a0 P) (sz : Nat) : Met l y_Md_operate (zz_ws y_Md_operate b_Md_operate 2 none) rm_Md_operate (va_Pc [.ref qd, .int a0] (zz_pw D [(cI, .int), (cB, .byte)] (wD qd qmemory qr qcounts cI cB ms dd Lwhole Lwhole2 bm rr kt) sz)) (va_Qv P (zz_qw D (fun u => wD qd qmemory qr qcounts cI cB ms u.1 u.2.1 u.2.2.1 u.2.2.2.1 u.2.2.2.2.1 u.2.2.2.2.2) (va_A (wD qd qmemory qr qcounts cI cB ms dd Lwhole Lwhole2 bm rr kt) sz)) (va_A (wD qd qmemory qr qcounts cI cB ms dd Lwhole Lwhole2 bm rr kt) sz)) 0 0 (va_A (wD qd qmemory qr qcounts cI cB ms dd Lwhole Lwhole2 bm rr kt) sz) := by
  refine Met.ofW (cc := b_Md_operate) (maxL := 2) (ret := none) (by decide) rfl ?_
  intro p e s m args below meth c s₁ B hml hv
  obtain ⟨rfl, hsz, hP, hK, hD0⟩ := hv
  have hx := B.exec
  have hb := B.bytes
  have hr := B.returns
  have hts := atoms_spec (ws := (zz_ws y_Md_operate b_Md_operate 2 none)) B.pre
  have hown : s.vm.findClass R_Md = some m.cls := findClass_of_methodNamed B.named
  have hlocks := B.notSynchronized
  have hT := zz_hts hts
  have X : CallFix p m c b_Md_operate 2 s ([.ref qd, .int a0] : List Value).toArray (zz_ws y_Md_operate b_Md_operate 2 none) R_Md := ⟨hx, hb, hml, hown, hts⟩
  have hf0 : 0 + 0 ≤ (headSpec (zz_ws y_Md_operate b_Md_operate 2 none) rm_Md_operate).room.cells ∧ 0 + 0 ≤ (headSpec (zz_ws y_Md_operate b_Md_operate 2 none) rm_Md_operate).room.slots := ⟨Nat.le_of_ble_eq_true rfl, Nat.le_of_ble_eq_true rfl⟩
  subst hsz
  have hD := hD0.self (sz := s.heap.size)
  generalize hAe : va_A (wD qd qmemory qr qcounts cI cB ms dd Lwhole Lwhole2 bm rr kt) s.heap.size = A at hD ⊢
  have hA : ∀ q : Nat, s.heap.size ≤ q → A q := fun q h => by rw [← hAe]; exact Or.inr h
  have hS : va_S A s.heap s.heap [] := va_S.rf
  have hl := lv_entry ([.ref qd, .int a0]) (n := 2) (Nat.le_of_ble_eq_true rfl)
  rw [lg_entry_eq]
  generalize (lg_sl ([.ref qd, .int a0]) ++ List.replicate (2 - (lg_sl ([.ref qd, .int a0])).length) Slot.unset).toArray = ls at hl ⊢
  have hl : lv_has ls 2 [(0, .ref qd), (1, .int a0)] := hl
  refine lv_iload_n hx hb d_Md_operate_0 rfl (lv_at hl 1 rfl) ?_
  refine lv_if_ne (tgt := 18) hx hb d_Md_operate_1 (by decide) (fun c_1 => ?_) (fun c_1 => ?_)
  · skip
    have h := h.2 c_1
    refine lv_iload_n hx hb d_Md_operate_18 rfl (lv_at hl 1 rfl) ?_
    refine lv_iconst (v := 1) hx hb d_Md_operate_19 (by decide) ?_
    refine lv_icmp_ne (tgt := 36) hx hb d_Md_operate_20 (by decide) (fun c_2 => ?_) (fun c_2 => ?_)
    · skip
      have h := h.2 c_2
      refine lv_iload_n hx hb d_Md_operate_36 rfl (lv_at hl 1 rfl) ?_
      refine lv_bipush (v := 17) hx hb d_Md_operate_37 (by decide) ?_
      refine lv_icmp_ne (tgt := 49) hx hb d_Md_operate_39 (by decide) (fun c_3 => ?_) (fun c_3 => ?_)
      · skip
        have h := h.2 c_3
        refine lv_iload_n hx hb d_Md_operate_49 rfl (lv_at hl 1 rfl) ?_
        refine lv_bipush (v := 28) hx hb d_Md_operate_50 (by decide) ?_
        refine lv_icmp_ne (tgt := 69) hx hb d_Md_operate_52 (by decide) (fun c_4 => ?_) (fun c_4 => ?_)
        · skip
          have h := h.2 c_4
          refine lv_iload_n hx hb d_Md_operate_69 rfl (lv_at hl 1 rfl) ?_
          refine lv_bipush (v := 8) hx hb d_Md_operate_70 (by decide) ?_
          refine lv_icmp_ge (tgt := 83) hx hb d_Md_operate_72 (by decide) (fun c_5 => ?_) (fun c_5 => ?_)
          · skip
            have h := h.1 c_5
            refine lv_iload_n hx hb d_Md_operate_83 rfl (lv_at hl 1 rfl) ?_
            refine lv_bipush (v := 16) hx hb d_Md_operate_84 (by decide) ?_
            refine lv_icmp_ge (tgt := 97) hx hb d_Md_operate_86 (by decide) (fun c_6 => ?_) (fun c_6 => ?_)
            · skip
              have h := h.1 c_6
              refine lv_iload_n hx hb d_Md_operate_97 rfl (lv_at hl 1 rfl) ?_
              refine lv_bipush (v := 20) hx hb d_Md_operate_98 (by decide) ?_
              refine lv_icmp_lt (tgt := 117) hx hb d_Md_operate_100 (by decide) (fun c_7 => ?_) (fun c_7 => ?_)
              · skip
                have h := h.1 c_7
                refine lv_iload_n hx hb d_Md_operate_117 rfl (lv_at hl 1 rfl) ?_
                refine lv_bipush (v := 32) hx hb d_Md_operate_118 (by decide) ?_
                refine lv_icmp_lt (tgt := 131) hx hb d_Md_operate_120 (by decide) (fun c_8 => ?_) (fun c_8 => ?_)
                · skip
                  have h := h.1 c_8
                  refine lv_aload_n hx hb d_Md_operate_131 rfl (lv_at hl 0 rfl) ?_
                  refine lv_iconst (v := 3) hx hb d_Md_operate_132 (by decide) ?_
                  refine zz_Wv (As := [.int (3 : Int32)]) (rest := []) (wc := wD qd qmemory qr qcounts cI cB ms dd Lwhole Lwhole2 bm rr kt) (wr := []) X hK hP hD hS hA (c_Md_ends l D cI cB qd qmemory qr qcounts ms dd Lwhole Lwhole2 bm rr kt (3 : Int32) _ h _) ⟨rfl, rfl⟩ m_Md_ends k_Md_116 ⟨Nat.le_of_ble_eq_true rfl, Nat.le_of_ble_eq_true rfl⟩ [0, 1, 2, 3] [] rfl rfl (by decide) (by decide) (by decide) 6 0 rfl rfl rfl rfl hl.1 rfl (Nat.le_of_ble_eq_true rfl) d_Md_operate_133 hf0 (fun u_9 H locs h hP hD hS => ?_)
                  have hP : va_P D vwCl (wD qd qmemory qr qcounts cI cB ms u_9.1 u_9.2.1 u_9.2.2.1 u_9.2.2.2.1 u_9.2.2.2.2.1 u_9.2.2.2.2.2) H := hP.sub [0, 1, 2, 3] rfl
                  have hD : va_D A (wD qd qmemory qr qcounts cI cB ms u_9.1 u_9.2.1 u_9.2.2.1 u_9.2.2.2.1 u_9.2.2.2.2.1 u_9.2.2.2.2.2) := hD.sub [0, 1, 2, 3] (by decide) rfl
                  exact W.vret hx hb hr (fun t ht hW => ⟨⟨(u_9.1, u_9.2.1, u_9.2.2.1, u_9.2.2.2.1, u_9.2.2.2.2.1, u_9.2.2.2.2.2), rfl, h, by rw [ht]; exact hP, hD⟩, hS.F ht⟩) hS.2.2 d_Md_operate_136
                · skip
                  have h := h.2 c_8
                  refine lv_aload_n hx hb d_Md_operate_123 rfl (lv_at hl 0 rfl) ?_
                  refine lv_iload_n hx hb d_Md_operate_124 rfl (lv_at hl 1 rfl) ?_
                  refine zz_Wv (As := [.int a0]) (rest := []) (wc := wD qd qmemory qr qcounts cI cB ms dd Lwhole Lwhole2 bm rr kt) (wr := []) X hK hP hD hS hA (c_Md_memories l D cI cB qd qmemory qr qcounts ms dd Lwhole Lwhole2 bm rr kt a0 _ h _) ⟨rfl, rfl⟩ m_Md_memories k_Md_113 ⟨Nat.le_of_ble_eq_true rfl, Nat.le_of_ble_eq_true rfl⟩ [0, 1, 2, 3] [] rfl rfl (by decide) (by decide) (by decide) 6 0 rfl rfl rfl rfl hl.1 rfl (Nat.le_of_ble_eq_true rfl) d_Md_operate_125 hf0 (fun u_11 H locs h hP hD hS => ?_)
                  have hP : va_P D vwCl (wD qd qmemory qr qcounts cI cB ms u_11.1 u_11.2.1 u_11.2.2.1 u_11.2.2.2.1 u_11.2.2.2.2.1 u_11.2.2.2.2.2) H := hP.sub [0, 1, 2, 3] rfl
                  have hD : va_D A (wD qd qmemory qr qcounts cI cB ms u_11.1 u_11.2.1 u_11.2.2.1 u_11.2.2.2.1 u_11.2.2.2.2.1 u_11.2.2.2.2.2) := hD.sub [0, 1, 2, 3] (by decide) rfl
                  refine lv_goto (tgt := 136) hx hb d_Md_operate_128 (by decide) ?_
                  exact W.vret hx hb hr (fun t ht hW => ⟨⟨(u_11.1, u_11.2.1, u_11.2.2.1, u_11.2.2.2.1, u_11.2.2.2.2.1, u_11.2.2.2.2.2), rfl, h, by rw [ht]; exact hP, hD⟩, hS.F ht⟩) hS.2.2 d_Md_operate_136
              · skip
                have h := h.2 c_7
                refine lv_iload_n hx hb d_Md_operate_103 rfl (lv_at hl 1 rfl) ?_
                refine lv_bipush (v := 24) hx hb d_Md_operate_104 (by decide) ?_
                refine lv_icmp_ge (tgt := 117) hx hb d_Md_operate_106 (by decide) (fun c_13 => ?_) (fun c_13 => ?_)
                · skip
                  have h := h.1 c_13
                  refine lv_iload_n hx hb d_Md_operate_117 rfl (lv_at hl 1 rfl) ?_
                  refine lv_bipush (v := 32) hx hb d_Md_operate_118 (by decide) ?_
                  refine lv_icmp_lt (tgt := 131) hx hb d_Md_operate_120 (by decide) (fun c_14 => ?_) (fun c_14 => ?_)
                  · skip
                    have h := h.1 c_14
                    refine lv_aload_n hx hb d_Md_operate_131 rfl (lv_at hl 0 rfl) ?_
                    refine lv_iconst (v := 3) hx hb d_Md_operate_132 (by decide) ?_
                    refine zz_Wv (As := [.int (3 : Int32)]) (rest := []) (wc := wD qd qmemory qr qcounts cI cB ms dd Lwhole Lwhole2 bm rr kt) (wr := []) X hK hP hD hS hA (c_Md_ends l D cI cB qd qmemory qr qcounts ms dd Lwhole Lwhole2 bm rr kt (3 : Int32) _ h _) ⟨rfl, rfl⟩ m_Md_ends k_Md_116 ⟨Nat.le_of_ble_eq_true rfl, Nat.le_of_ble_eq_true rfl⟩ [0, 1, 2, 3] [] rfl rfl (by decide) (by decide) (by decide) 6 0 rfl rfl rfl rfl hl.1 rfl (Nat.le_of_ble_eq_true rfl) d_Md_operate_133 hf0 (fun u_15 H locs h hP hD hS => ?_)
                    have hP : va_P D vwCl (wD qd qmemory qr qcounts cI cB ms u_15.1 u_15.2.1 u_15.2.2.1 u_15.2.2.2.1 u_15.2.2.2.2.1 u_15.2.2.2.2.2) H := hP.sub [0, 1, 2, 3] rfl
                    have hD : va_D A (wD qd qmemory qr qcounts cI cB ms u_15.1 u_15.2.1 u_15.2.2.1 u_15.2.2.2.1 u_15.2.2.2.2.1 u_15.2.2.2.2.2) := hD.sub [0, 1, 2, 3] (by decide) rfl
                    exact W.vret hx hb hr (fun t ht hW => ⟨⟨(u_15.1, u_15.2.1, u_15.2.2.1, u_15.2.2.2.1, u_15.2.2.2.2.1, u_15.2.2.2.2.2), rfl, h, by rw [ht]; exact hP, hD⟩, hS.F ht⟩) hS.2.2 d_Md_operate_136
                  · skip
                    have h := h.2 c_14
                    refine lv_aload_n hx hb d_Md_operate_123 rfl (lv_at hl 0 rfl) ?_
                    refine lv_iload_n hx hb d_Md_operate_124 rfl (lv_at hl 1 rfl) ?_
                    refine zz_Wv (As := [.int a0]) (rest := []) (wc := wD qd qmemory qr qcounts cI cB ms dd Lwhole Lwhole2 bm rr kt) (wr := []) X hK hP hD hS hA (c_Md_memories l D cI cB qd qmemory qr qcounts ms dd Lwhole Lwhole2 bm rr kt a0 _ h _) ⟨rfl, rfl⟩ m_Md_memories k_Md_113 ⟨Nat.le_of_ble_eq_true rfl, Nat.le_of_ble_eq_true rfl⟩ [0, 1, 2, 3] [] rfl rfl (by decide) (by decide) (by decide) 6 0 rfl rfl rfl rfl hl.1 rfl (Nat.le_of_ble_eq_true rfl) d_Md_operate_125 hf0 (fun u_17 H locs h hP hD hS => ?_)
                    have hP : va_P D vwCl (wD qd qmemory qr qcounts cI cB ms u_17.1 u_17.2.1 u_17.2.2.1 u_17.2.2.2.1 u_17.2.2.2.2.1 u_17.2.2.2.2.2) H := hP.sub [0, 1, 2, 3] rfl
                    have hD : va_D A (wD qd qmemory qr qcounts cI cB ms u_17.1 u_17.2.1 u_17.2.2.1 u_17.2.2.2.1 u_17.2.2.2.2.1 u_17.2.2.2.2.2) := hD.sub [0, 1, 2, 3] (by decide) rfl
                    refine lv_goto (tgt := 136) hx hb d_Md_operate_128 (by decide) ?_
                    exact W.vret hx hb hr (fun t ht hW => ⟨⟨(u_17.1, u_17.2.1, u_17.2.2.1, u_17.2.2.2.1, u_17.2.2.2.2.1, u_17.2.2.2.2.2), rfl, h, by rw [ht]; exact hP, hD⟩, hS.F ht⟩) hS.2.2 d_Md_operate_136
                · skip
                  have h := h.2 c_13
                  refine lv_aload_n hx hb d_Md_operate_109 rfl (lv_at hl 0 rfl) ?_
                  refine lv_iload_n hx hb d_Md_operate_110 rfl (lv_at hl 1 rfl) ?_
                  refine zz_Wv (As := [.int a0]) (rest := []) (wc := wD qd qmemory qr qcounts cI cB ms dd Lwhole Lwhole2 bm rr kt) (wr := []) X hK hP hD hS hA (c_Md_branches l D cI cB qd qmemory qr qcounts ms dd Lwhole Lwhole2 bm rr kt a0 _ h _) ⟨rfl, rfl⟩ m_Md_branches k_Md_107 ⟨Nat.le_of_ble_eq_true rfl, Nat.le_of_ble_eq_true rfl⟩ [0, 1, 2, 3] [] rfl rfl (by decide) (by decide) (by decide) 6 0 rfl rfl rfl rfl hl.1 rfl (Nat.le_of_ble_eq_true rfl) d_Md_operate_111 hf0 (fun u_19 H locs h hP hD hS => ?_)
                  have hP : va_P D vwCl (wD qd qmemory qr qcounts cI cB ms u_19.1 u_19.2.1 u_19.2.2.1 u_19.2.2.2.1 u_19.2.2.2.2.1 u_19.2.2.2.2.2) H := hP.sub [0, 1, 2, 3] rfl
                  have hD : va_D A (wD qd qmemory qr qcounts cI cB ms u_19.1 u_19.2.1 u_19.2.2.1 u_19.2.2.2.1 u_19.2.2.2.2.1 u_19.2.2.2.2.2) := hD.sub [0, 1, 2, 3] (by decide) rfl
                  refine lv_goto (tgt := 136) hx hb d_Md_operate_114 (by decide) ?_
                  exact W.vret hx hb hr (fun t ht hW => ⟨⟨(u_19.1, u_19.2.1, u_19.2.2.1, u_19.2.2.2.1, u_19.2.2.2.2.1, u_19.2.2.2.2.2), rfl, h, by rw [ht]; exact hP, hD⟩, hS.F ht⟩) hS.2.2 d_Md_operate_136
            · skip
              have h := h.2 c_6
              refine lv_aload_n hx hb d_Md_operate_89 rfl (lv_at hl 0 rfl) ?_
              refine lv_iload_n hx hb d_Md_operate_90 rfl (lv_at hl 1 rfl) ?_
              refine zz_Wv (As := [.int a0]) (rest := []) (wc := wD qd qmemory qr qcounts cI cB ms dd Lwhole Lwhole2 bm rr kt) (wr := []) X hK hP hD hS hA (c_Md_numbers l D cI cB qd qmemory qr qcounts ms dd Lwhole Lwhole2 bm rr kt a0 _ h _) ⟨rfl, rfl⟩ m_Md_numbers k_Md_110 ⟨Nat.le_of_ble_eq_true rfl, Nat.le_of_ble_eq_true rfl⟩ [0, 1, 2, 3] [] rfl rfl (by decide) (by decide) (by decide) 6 0 rfl rfl rfl rfl hl.1 rfl (Nat.le_of_ble_eq_true rfl) d_Md_operate_91 hf0 (fun u_21 H locs h hP hD hS => ?_)
              have hP : va_P D vwCl (wD qd qmemory qr qcounts cI cB ms u_21.1 u_21.2.1 u_21.2.2.1 u_21.2.2.2.1 u_21.2.2.2.2.1 u_21.2.2.2.2.2) H := hP.sub [0, 1, 2, 3] rfl
              have hD : va_D A (wD qd qmemory qr qcounts cI cB ms u_21.1 u_21.2.1 u_21.2.2.1 u_21.2.2.2.1 u_21.2.2.2.2.1 u_21.2.2.2.2.2) := hD.sub [0, 1, 2, 3] (by decide) rfl
              refine lv_goto (tgt := 136) hx hb d_Md_operate_94 (by decide) ?_
              exact W.vret hx hb hr (fun t ht hW => ⟨⟨(u_21.1, u_21.2.1, u_21.2.2.1, u_21.2.2.2.1, u_21.2.2.2.2.1, u_21.2.2.2.2.2), rfl, h, by rw [ht]; exact hP, hD⟩, hS.F ht⟩) hS.2.2 d_Md_operate_136
          · skip
            have h := h.2 c_5
            refine lv_aload_n hx hb d_Md_operate_75 rfl (lv_at hl 0 rfl) ?_
            refine lv_iload_n hx hb d_Md_operate_76 rfl (lv_at hl 1 rfl) ?_
            refine zz_Wv (As := [.int a0]) (rest := []) (wc := wD qd qmemory qr qcounts cI cB ms dd Lwhole Lwhole2 bm rr kt) (wr := []) X hK hP hD hS hA (c_Md_branches l D cI cB qd qmemory qr qcounts ms dd Lwhole Lwhole2 bm rr kt a0 _ h _) ⟨rfl, rfl⟩ m_Md_branches k_Md_107 ⟨Nat.le_of_ble_eq_true rfl, Nat.le_of_ble_eq_true rfl⟩ [0, 1, 2, 3] [] rfl rfl (by decide) (by decide) (by decide) 6 0 rfl rfl rfl rfl hl.1 rfl (Nat.le_of_ble_eq_true rfl) d_Md_operate_77 hf0 (fun u_23 H locs h hP hD hS => ?_)
            have hP : va_P D vwCl (wD qd qmemory qr qcounts cI cB ms u_23.1 u_23.2.1 u_23.2.2.1 u_23.2.2.2.1 u_23.2.2.2.2.1 u_23.2.2.2.2.2) H := hP.sub [0, 1, 2, 3] rfl
            have hD : va_D A (wD qd qmemory qr qcounts cI cB ms u_23.1 u_23.2.1 u_23.2.2.1 u_23.2.2.2.1 u_23.2.2.2.2.1 u_23.2.2.2.2.2) := hD.sub [0, 1, 2, 3] (by decide) rfl
            refine lv_goto (tgt := 136) hx hb d_Md_operate_80 (by decide) ?_
            exact W.vret hx hb hr (fun t ht hW => ⟨⟨(u_23.1, u_23.2.1, u_23.2.2.1, u_23.2.2.2.1, u_23.2.2.2.2.1, u_23.2.2.2.2.2), rfl, h, by rw [ht]; exact hP, hD⟩, hS.F ht⟩) hS.2.2 d_Md_operate_136
        · skip
          have h := h.1 c_4
          refine lv_aload_n hx hb d_Md_operate_55 rfl (lv_at hl 0 rfl) ?_
          refine lv_aload_n hx hb d_Md_operate_56 rfl (lv_at hl 0 rfl) ?_
          refine g_Md_82 (v := .int (dd 9)) hx hb hT hown hK hP 0 rfl rfl d_Md_operate_57 ?_
          refine lv_bipush (v := 63) hx hb d_Md_operate_60 (by decide) ?_
          refine lv_iand hx hb d_Md_operate_62 ?_
          refine zz_Wv (As := [.int ((dd 9) &&& (63 : Int32))]) (rest := []) (wc := wD qd qmemory qr qcounts cI cB ms dd Lwhole Lwhole2 bm rr kt) (wr := []) X hK hP hD hS hA (c_Md_second l D cI cB qd qmemory qr qcounts ms dd Lwhole Lwhole2 bm rr kt ((dd 9) &&& (63 : Int32)) _ h _) ⟨rfl, rfl⟩ m_Md_second k_Md_104 ⟨Nat.le_of_ble_eq_true rfl, Nat.le_of_ble_eq_true rfl⟩ [0, 1, 2, 3] [] rfl rfl (by decide) (by decide) (by decide) 6 0 rfl rfl rfl rfl hl.1 rfl (Nat.le_of_ble_eq_true rfl) d_Md_operate_63 hf0 (fun u_25 H locs h hP hD hS => ?_)
          have hP : va_P D vwCl (wD qd qmemory qr qcounts cI cB ms u_25.1 u_25.2.1 u_25.2.2.1 u_25.2.2.2.1 u_25.2.2.2.2.1 u_25.2.2.2.2.2) H := hP.sub [0, 1, 2, 3] rfl
          have hD : va_D A (wD qd qmemory qr qcounts cI cB ms u_25.1 u_25.2.1 u_25.2.2.1 u_25.2.2.2.1 u_25.2.2.2.2.1 u_25.2.2.2.2.2) := hD.sub [0, 1, 2, 3] (by decide) rfl
          refine lv_goto (tgt := 136) hx hb d_Md_operate_66 (by decide) ?_
          exact W.vret hx hb hr (fun t ht hW => ⟨⟨(u_25.1, u_25.2.1, u_25.2.2.1, u_25.2.2.2.1, u_25.2.2.2.2.1, u_25.2.2.2.2.2), rfl, h, by rw [ht]; exact hP, hD⟩, hS.F ht⟩) hS.2.2 d_Md_operate_136
      · skip
        have h := h.1 c_3
        refine lv_aload_n hx hb d_Md_operate_42 rfl (lv_at hl 0 rfl) ?_
        refine zz_Wv (As := []) (rest := []) (wc := wD qd qmemory qr qcounts cI cB ms dd Lwhole Lwhole2 bm rr kt) (wr := []) X hK hP hD hS hA (c_Md_fractions l D cI cB qd qmemory qr qcounts ms dd Lwhole Lwhole2 bm rr kt _ h _) ⟨rfl, rfl⟩ m_Md_fractions k_Md_101 ⟨Nat.le_of_ble_eq_true rfl, Nat.le_of_ble_eq_true rfl⟩ [0, 1, 2, 3] [] rfl rfl (by decide) (by decide) (by decide) 6 0 rfl rfl rfl rfl hl.1 rfl (Nat.le_of_ble_eq_true rfl) d_Md_operate_43 hf0 (fun u_27 H locs h hP hD hS => ?_)
        have hP : va_P D vwCl (wD qd qmemory qr qcounts cI cB ms u_27.1 u_27.2.1 u_27.2.2.1 u_27.2.2.2.1 u_27.2.2.2.2.1 u_27.2.2.2.2.2) H := hP.sub [0, 1, 2, 3] rfl
        have hD : va_D A (wD qd qmemory qr qcounts cI cB ms u_27.1 u_27.2.1 u_27.2.2.1 u_27.2.2.2.1 u_27.2.2.2.2.1 u_27.2.2.2.2.2) := hD.sub [0, 1, 2, 3] (by decide) rfl
        refine lv_goto (tgt := 136) hx hb d_Md_operate_46 (by decide) ?_
        exact W.vret hx hb hr (fun t ht hW => ⟨⟨(u_27.1, u_27.2.1, u_27.2.2.1, u_27.2.2.2.1, u_27.2.2.2.2.1, u_27.2.2.2.2.2), rfl, h, by rw [ht]; exact hP, hD⟩, hS.F ht⟩) hS.2.2 d_Md_operate_136
    · skip
      have h := h.1 c_2
      refine lv_aload_n hx hb d_Md_operate_23 rfl (lv_at hl 0 rfl) ?_
      refine lv_aload_n hx hb d_Md_operate_24 rfl (lv_at hl 0 rfl) ?_
      refine lv_bipush (v := 16) hx hb d_Md_operate_25 (by decide) ?_
      refine zz_Ri (As := [.int (16 : Int32)]) (rest := [.ref qd]) (wc := wD qd qmemory qr qcounts cI cB ms dd Lwhole Lwhole2 bm rr kt) X hK hP (c_Md_field l D cI cB qd qmemory qr qcounts ms dd Lwhole Lwhole2 bm rr kt (16 : Int32) _ h) ⟨rfl, rfl⟩ m_Md_field k_Md_85 ⟨Nat.le_of_ble_eq_true rfl, Nat.le_of_ble_eq_true rfl⟩ [0, 1, 2, 3] rfl 6 0 rfl rfl rfl rfl hl.1 rfl (Nat.le_of_ble_eq_true rfl) d_Md_operate_27 hf0 (fun r_29 h => ?_)
      refine zz_Wv (As := [.int r_29]) (rest := []) (wc := wD qd qmemory qr qcounts cI cB ms dd Lwhole Lwhole2 bm rr kt) (wr := []) X hK hP hD hS hA (c_Md_immediate l D cI cB qd qmemory qr qcounts ms dd Lwhole Lwhole2 bm rr kt r_29 _ h _) ⟨rfl, rfl⟩ m_Md_immediate k_Md_98 ⟨Nat.le_of_ble_eq_true rfl, Nat.le_of_ble_eq_true rfl⟩ [0, 1, 2, 3] [] rfl rfl (by decide) (by decide) (by decide) 6 0 rfl rfl rfl rfl hl.1 rfl (Nat.le_of_ble_eq_true rfl) d_Md_operate_30 hf0 (fun u_30 H locs h hP hD hS => ?_)
      have hP : va_P D vwCl (wD qd qmemory qr qcounts cI cB ms u_30.1 u_30.2.1 u_30.2.2.1 u_30.2.2.2.1 u_30.2.2.2.2.1 u_30.2.2.2.2.2) H := hP.sub [0, 1, 2, 3] rfl
      have hD : va_D A (wD qd qmemory qr qcounts cI cB ms u_30.1 u_30.2.1 u_30.2.2.1 u_30.2.2.2.1 u_30.2.2.2.2.1 u_30.2.2.2.2.2) := hD.sub [0, 1, 2, 3] (by decide) rfl
      refine lv_goto (tgt := 136) hx hb d_Md_operate_33 (by decide) ?_
      exact W.vret hx hb hr (fun t ht hW => ⟨⟨(u_30.1, u_30.2.1, u_30.2.2.1, u_30.2.2.2.1, u_30.2.2.2.2.1, u_30.2.2.2.2.2), rfl, h, by rw [ht]; exact hP, hD⟩, hS.F ht⟩) hS.2.2 d_Md_operate_136
  · skip
    have h := h.1 c_1
    refine lv_aload_n hx hb d_Md_operate_4 rfl (lv_at hl 0 rfl) ?_
    refine lv_aload_n hx hb d_Md_operate_5 rfl (lv_at hl 0 rfl) ?_
    refine g_Md_82 (v := .int (dd 9)) hx hb hT hown hK hP 0 rfl rfl d_Md_operate_6 ?_
    refine lv_bipush (v := 63) hx hb d_Md_operate_9 (by decide) ?_
    refine lv_iand hx hb d_Md_operate_11 ?_
    refine zz_Wv (As := [.int ((dd 9) &&& (63 : Int32))]) (rest := []) (wc := wD qd qmemory qr qcounts cI cB ms dd Lwhole Lwhole2 bm rr kt) (wr := []) X hK hP hD hS hA (c_Md_special l D cI cB qd qmemory qr qcounts ms dd Lwhole Lwhole2 bm rr kt ((dd 9) &&& (63 : Int32)) _ h _) ⟨rfl, rfl⟩ m_Md_special k_Md_95 ⟨Nat.le_of_ble_eq_true rfl, Nat.le_of_ble_eq_true rfl⟩ [0, 1, 2, 3] [] rfl rfl (by decide) (by decide) (by decide) 6 0 rfl rfl rfl rfl hl.1 rfl (Nat.le_of_ble_eq_true rfl) d_Md_operate_12 hf0 (fun u_32 H locs h hP hD hS => ?_)
    have hP : va_P D vwCl (wD qd qmemory qr qcounts cI cB ms u_32.1 u_32.2.1 u_32.2.2.1 u_32.2.2.2.1 u_32.2.2.2.2.1 u_32.2.2.2.2.2) H := hP.sub [0, 1, 2, 3] rfl
    have hD : va_D A (wD qd qmemory qr qcounts cI cB ms u_32.1 u_32.2.1 u_32.2.2.1 u_32.2.2.2.1 u_32.2.2.2.2.1 u_32.2.2.2.2.2) := hD.sub [0, 1, 2, 3] (by decide) rfl
    refine lv_goto (tgt := 136) hx hb d_Md_operate_15 (by decide) ?_
    exact W.vret hx hb hr (fun t ht hW => ⟨⟨(u_32.1, u_32.2.1, u_32.2.2.1, u_32.2.2.2.1, u_32.2.2.2.2.1, u_32.2.2.2.2.2), rfl, h, by rw [ht]; exact hP, hD⟩, hS.F ht⟩) hS.2.2 d_Md_operate_136
def wp_Md_moveOn (ms : Int32) (dd : Nat → Int32) (Lwhole : Int64) (Lwhole2 : Int64) (bm : Nat → Int32) (rr : Nat → Int32) (kt : Nat → Int32) (P : ((Nat → Int32) × Int64 × Int64 × (Nat → Int32) × (Nat → Int32) × (Nat → Int32)) → Prop) : Prop := ∀ x_1 : Int32, x_1 = (dd 4) → vp_in (0 : Int32) 5 ∧ ∀ x_2 : Int32, x_2 = (kt (0 : Int32).toNatClampNeg) → vp_in (0 : Int32) 5 ∧ (((dd 13) = (0 : Int32) → (((dd 11) = (0 : Int32) → ∀ x_5 : Int32, x_5 = ((dd 4) + (4 : Int32)) → vp_in (3 : Int32) 5 ∧ ∀ x_6 : Int32, x_6 = ((upd kt (0 : Int32).toNatClampNeg (x_2 + (1 : Int32))) (3 : Int32).toNatClampNeg) → vp_in (3 : Int32) 5 ∧ ∀ x_8 : Int32, x_8 = (dd 12) → zz_bz x_8 ∧ P ((upd (upd (upd dd 4 x_5) 3 x_1) 6 x_8), Lwhole, Lwhole2, bm, rr, (upd (upd kt (0 : Int32).toNatClampNeg (x_2 + (1 : Int32))) (3 : Int32).toNatClampNeg (x_6 + (0 : Int32))))) ∧ (¬ (dd 11) = (0 : Int32) → ∀ x_9 : Int32, x_9 = (dd 10) → vp_in (3 : Int32) 5 ∧ ∀ x_10 : Int32, x_10 = ((upd kt (0 : Int32).toNatClampNeg (x_2 + (1 : Int32))) (3 : Int32).toNatClampNeg) → vp_in (3 : Int32) 5 ∧ ∀ x_12 : Int32, x_12 = (dd 12) → zz_bz x_12 ∧ P ((upd (upd (upd dd 4 x_9) 3 x_1) 6 x_12), Lwhole, Lwhole2, bm, rr, (upd (upd kt (0 : Int32).toNatClampNeg (x_2 + (1 : Int32))) (3 : Int32).toNatClampNeg (x_10 + (1 : Int32))))))) ∧ (¬ (dd 13) = (0 : Int32) → vp_in (4 : Int32) 5 ∧ ∀ x_13 : Int32, x_13 = ((upd kt (0 : Int32).toNatClampNeg (x_2 + (1 : Int32))) (4 : Int32).toNatClampNeg) → vp_in (4 : Int32) 5 ∧ ∀ x_14 : Int32, x_14 = ((dd 4) + (4 : Int32)) → ∀ x_15 : Int32, x_15 = ((dd 4) + (8 : Int32)) → P ((upd (upd (upd dd 3 x_14) 4 x_15) 6 (0 : Int32)), Lwhole, Lwhole2, bm, rr, (upd (upd kt (0 : Int32).toNatClampNeg (x_2 + (1 : Int32))) (4 : Int32).toNatClampNeg (x_13 + (1 : Int32))))))
abbrev rm_Md_moveOn : Room := { frames := 0, cells := 0, slots := 0, locals := 0 }
set_option maxHeartbeats 4000000 in
set_option maxRecDepth 100000 in
theorem c_Md_moveOn (l : Launch) (D : va_G) (cI : ClassId) (cB : ClassId) (qd : Nat) (qmemory : Nat) (qr : Nat) (qcounts : Nat) (ms : Int32) (dd : Nat → Int32) (Lwhole : Int64) (Lwhole2 : Int64) (bm : Nat → Int32) (rr : Nat → Int32) (kt : Nat → Int32) (P : ((Nat → Int32) × Int64 × Int64 × (Nat → Int32) × (Nat → Int32) × (Nat → Int32)) → Prop) (h : wp_Md_moveOn ms dd Lwhole Lwhole2 bm rr kt P) (sz : Nat) : Met l y_Md_moveOn (zz_ws y_Md_moveOn b_Md_moveOn 2 none) rm_Md_moveOn (va_Pc [.ref qd] (zz_pw D [(cI, .int), (cB, .byte)] (wD qd qmemory qr qcounts cI cB ms dd Lwhole Lwhole2 bm rr kt) sz)) (va_Qv P (zz_qw D (fun u => wD qd qmemory qr qcounts cI cB ms u.1 u.2.1 u.2.2.1 u.2.2.2.1 u.2.2.2.2.1 u.2.2.2.2.2) (va_A (wD qd qmemory qr qcounts cI cB ms dd Lwhole Lwhole2 bm rr kt) sz)) (va_A (wD qd qmemory qr qcounts cI cB ms dd Lwhole Lwhole2 bm rr kt) sz)) 0 0 (va_A (wD qd qmemory qr qcounts cI cB ms dd Lwhole Lwhole2 bm rr kt) sz) := by
  refine Met.ofW (cc := b_Md_moveOn) (maxL := 2) (ret := none) (by decide) rfl ?_
  intro p e s m args below meth c s₁ B hml hv
  obtain ⟨rfl, hsz, hP, hK, hD0⟩ := hv
  have hx := B.exec
  have hb := B.bytes
  have hr := B.returns
  have hts := atoms_spec (ws := (zz_ws y_Md_moveOn b_Md_moveOn 2 none)) B.pre
  have hown : s.vm.findClass R_Md = some m.cls := findClass_of_methodNamed B.named
  have hlocks := B.notSynchronized
  have hT := zz_hts hts
  have X : CallFix p m c b_Md_moveOn 2 s ([.ref qd] : List Value).toArray (zz_ws y_Md_moveOn b_Md_moveOn 2 none) R_Md := ⟨hx, hb, hml, hown, hts⟩
  have hf0 : 0 + 0 ≤ (headSpec (zz_ws y_Md_moveOn b_Md_moveOn 2 none) rm_Md_moveOn).room.cells ∧ 0 + 0 ≤ (headSpec (zz_ws y_Md_moveOn b_Md_moveOn 2 none) rm_Md_moveOn).room.slots := ⟨Nat.le_of_ble_eq_true rfl, Nat.le_of_ble_eq_true rfl⟩
  subst hsz
  have hD := hD0.self (sz := s.heap.size)
  generalize hAe : va_A (wD qd qmemory qr qcounts cI cB ms dd Lwhole Lwhole2 bm rr kt) s.heap.size = A at hD ⊢
  have hA : ∀ q : Nat, s.heap.size ≤ q → A q := fun q h => by rw [← hAe]; exact Or.inr h
  have hS : va_S A s.heap s.heap [] := va_S.rf
  have hl := lv_entry ([.ref qd]) (n := 2) (Nat.le_of_ble_eq_true rfl)
  rw [lg_entry_eq]
  generalize (lg_sl ([.ref qd]) ++ List.replicate (2 - (lg_sl ([.ref qd])).length) Slot.unset).toArray = ls at hl ⊢
  have hl : lv_has ls 2 [(0, .ref qd)] := hl
  refine lv_aload_n hx hb d_Md_moveOn_0 rfl (lv_at hl 0 rfl) ?_
  refine g_Md_25 (v := .int (dd 4)) hx hb hT hown hK hP 0 rfl rfl d_Md_moveOn_1 ?_
  refine lv_topi (fun x_1 ex_1 => ?_)
  have h := h x_1 ex_1
  refine lv_istore_n (lv' := [(1, .int x_1), (0, .ref qd)]) hx hb d_Md_moveOn_4 rfl hl (by decide) rfl (fun ls hl => ?_)
  refine lv_aload_n hx hb d_Md_moveOn_5 rfl (lv_at hl 1 rfl) ?_
  refine g_Md_29 (v := .ref qcounts) hx hb hT hown hK hP 0 rfl rfl d_Md_moveOn_6 ?_
  refine lv_iconst (v := 0) hx hb d_Md_moveOn_9 (by decide) ?_
  refine lv_dup2_11 hx hb d_Md_moveOn_10 rfl rfl ?_
  refine va_iald (f := kt) hx hb hK hP 3 0 rfl rfl h.1 d_Md_moveOn_11 ?_
  have h := h.2
  refine lv_topi (fun x_2 ex_2 => ?_)
  have h := h x_2 ex_2
  refine lv_iconst (v := 1) hx hb d_Md_moveOn_12 (by decide) ?_
  refine lv_iadd hx hb d_Md_moveOn_13 ?_
  refine va_iast (f := kt) hx hb hK hP hD hS 3 0 rfl rfl h.1 d_Md_moveOn_14 (fun H locs (hP : va_P D vwCl (wD qd qmemory qr qcounts cI cB ms dd Lwhole Lwhole2 bm rr (upd kt (0 : Int32).toNatClampNeg (x_2 + (1 : Int32)))) H) (hD : va_D A (wD qd qmemory qr qcounts cI cB ms dd Lwhole Lwhole2 bm rr (upd kt (0 : Int32).toNatClampNeg (x_2 + (1 : Int32))))) hS => ?_)
  have h := h.2
  refine lv_aload_n hx hb d_Md_moveOn_15 rfl (lv_at hl 1 rfl) ?_
  refine g_Md_76 (v := .int (dd 13)) hx hb hT hown hK hP 0 rfl rfl d_Md_moveOn_16 ?_
  refine lv_if_eq (tgt := 59) hx hb d_Md_moveOn_19 (by decide) (fun c_3 => ?_) (fun c_3 => ?_)
  · skip
    have h := h.1 c_3
    refine lv_aload_n hx hb d_Md_moveOn_59 rfl (lv_at hl 1 rfl) ?_
    refine lv_aload_n hx hb d_Md_moveOn_60 rfl (lv_at hl 1 rfl) ?_
    refine g_Md_70 (v := .int (dd 11)) hx hb hT hown hK hP 0 rfl rfl d_Md_moveOn_61 ?_
    refine lv_if_eq (tgt := 74) hx hb d_Md_moveOn_64 (by decide) (fun c_4 => ?_) (fun c_4 => ?_)
    · skip
      have h := h.1 c_4
      refine lv_aload_n hx hb d_Md_moveOn_74 rfl (lv_at hl 1 rfl) ?_
      refine g_Md_25 (v := .int (dd 4)) hx hb hT hown hK hP 0 rfl rfl d_Md_moveOn_75 ?_
      refine lv_iconst (v := 4) hx hb d_Md_moveOn_78 (by decide) ?_
      refine lv_iadd hx hb d_Md_moveOn_79 ?_
      refine lv_topi (fun x_5 ex_5 => ?_)
      have h := h x_5 ex_5
      refine p_Md_25 hx hb hT hown hK hP hD hS 0 rfl rfl d_Md_moveOn_80 (fun H locs (hP : va_P D vwCl (wD qd qmemory qr qcounts cI cB ms (upd dd 4 x_5) Lwhole Lwhole2 bm rr (upd kt (0 : Int32).toNatClampNeg (x_2 + (1 : Int32)))) H) (hD : va_D A (wD qd qmemory qr qcounts cI cB ms (upd dd 4 x_5) Lwhole Lwhole2 bm rr (upd kt (0 : Int32).toNatClampNeg (x_2 + (1 : Int32))))) hS => ?_)
      refine lv_aload_n hx hb d_Md_moveOn_83 rfl (lv_at hl 1 rfl) ?_
      refine g_Md_29 (v := .ref qcounts) hx hb hT hown hK hP 0 rfl rfl d_Md_moveOn_84 ?_
      refine lv_iconst (v := 3) hx hb d_Md_moveOn_87 (by decide) ?_
      refine lv_dup2_11 hx hb d_Md_moveOn_88 rfl rfl ?_
      refine va_iald (f := (upd kt (0 : Int32).toNatClampNeg (x_2 + (1 : Int32)))) hx hb hK hP 3 0 rfl rfl h.1 d_Md_moveOn_89 ?_
      have h := h.2
      refine lv_topi (fun x_6 ex_6 => ?_)
      have h := h x_6 ex_6
      refine lv_aload_n hx hb d_Md_moveOn_90 rfl (lv_at hl 1 rfl) ?_
      refine g_Md_70 (v := .int (dd 11)) hx hb hT hown hK hP 0 rfl rfl d_Md_moveOn_91 ?_
      refine lv_if_eq (tgt := 101) hx hb d_Md_moveOn_94 (by decide) (fun c_7 => ?_) (fun c_7 => ?_)
      · skip
        refine lv_iconst (v := 0) hx hb d_Md_moveOn_101 (by decide) ?_
        refine lv_iadd hx hb d_Md_moveOn_102 ?_
        refine va_iast (f := (upd kt (0 : Int32).toNatClampNeg (x_2 + (1 : Int32)))) hx hb hK hP hD hS 3 0 rfl rfl h.1 d_Md_moveOn_103 (fun H locs (hP : va_P D vwCl (wD qd qmemory qr qcounts cI cB ms (upd dd 4 x_5) Lwhole Lwhole2 bm rr (upd (upd kt (0 : Int32).toNatClampNeg (x_2 + (1 : Int32))) (3 : Int32).toNatClampNeg (x_6 + (0 : Int32)))) H) (hD : va_D A (wD qd qmemory qr qcounts cI cB ms (upd dd 4 x_5) Lwhole Lwhole2 bm rr (upd (upd kt (0 : Int32).toNatClampNeg (x_2 + (1 : Int32))) (3 : Int32).toNatClampNeg (x_6 + (0 : Int32))))) hS => ?_)
        have h := h.2
        refine lv_aload_n hx hb d_Md_moveOn_104 rfl (lv_at hl 1 rfl) ?_
        refine lv_iload_n hx hb d_Md_moveOn_105 rfl (lv_at hl 0 rfl) ?_
        refine p_Md_54 hx hb hT hown hK hP hD hS 0 rfl rfl d_Md_moveOn_106 (fun H locs (hP : va_P D vwCl (wD qd qmemory qr qcounts cI cB ms (upd (upd dd 4 x_5) 3 x_1) Lwhole Lwhole2 bm rr (upd (upd kt (0 : Int32).toNatClampNeg (x_2 + (1 : Int32))) (3 : Int32).toNatClampNeg (x_6 + (0 : Int32)))) H) (hD : va_D A (wD qd qmemory qr qcounts cI cB ms (upd (upd dd 4 x_5) 3 x_1) Lwhole Lwhole2 bm rr (upd (upd kt (0 : Int32).toNatClampNeg (x_2 + (1 : Int32))) (3 : Int32).toNatClampNeg (x_6 + (0 : Int32))))) hS => ?_)
        refine lv_aload_n hx hb d_Md_moveOn_109 rfl (lv_at hl 1 rfl) ?_
        refine lv_aload_n hx hb d_Md_moveOn_110 rfl (lv_at hl 1 rfl) ?_
        refine g_Md_73 (v := .int (dd 12)) hx hb hT hown hK hP 0 rfl rfl d_Md_moveOn_111 ?_
        refine lv_topi (fun x_8 ex_8 => ?_)
        have h := h x_8 ex_8
        refine p_Md_57 hx hb hT hown hK hP hD hS 0 rfl rfl h.1 d_Md_moveOn_114 (fun H locs (hP : va_P D vwCl (wD qd qmemory qr qcounts cI cB ms (upd (upd (upd dd 4 x_5) 3 x_1) 6 x_8) Lwhole Lwhole2 bm rr (upd (upd kt (0 : Int32).toNatClampNeg (x_2 + (1 : Int32))) (3 : Int32).toNatClampNeg (x_6 + (0 : Int32)))) H) (hD : va_D A (wD qd qmemory qr qcounts cI cB ms (upd (upd (upd dd 4 x_5) 3 x_1) 6 x_8) Lwhole Lwhole2 bm rr (upd (upd kt (0 : Int32).toNatClampNeg (x_2 + (1 : Int32))) (3 : Int32).toNatClampNeg (x_6 + (0 : Int32))))) hS => ?_)
        have h := h.2
        exact W.vret hx hb hr (fun t ht hW => ⟨⟨((upd (upd (upd dd 4 x_5) 3 x_1) 6 x_8), Lwhole, Lwhole2, bm, rr, (upd (upd kt (0 : Int32).toNatClampNeg (x_2 + (1 : Int32))) (3 : Int32).toNatClampNeg (x_6 + (0 : Int32)))), rfl, h, by rw [ht]; exact hP, hD⟩, hS.F ht⟩) hS.2.2 d_Md_moveOn_117
      · exact absurd c_4 c_7
    · skip
      have h := h.2 c_4
      refine lv_aload_n hx hb d_Md_moveOn_67 rfl (lv_at hl 1 rfl) ?_
      refine g_Md_92 (v := .int (dd 10)) hx hb hT hown hK hP 0 rfl rfl d_Md_moveOn_68 ?_
      refine lv_goto (tgt := 80) hx hb d_Md_moveOn_71 (by decide) ?_
      refine lv_topi (fun x_9 ex_9 => ?_)
      have h := h x_9 ex_9
      refine p_Md_25 hx hb hT hown hK hP hD hS 0 rfl rfl d_Md_moveOn_80 (fun H locs (hP : va_P D vwCl (wD qd qmemory qr qcounts cI cB ms (upd dd 4 x_9) Lwhole Lwhole2 bm rr (upd kt (0 : Int32).toNatClampNeg (x_2 + (1 : Int32)))) H) (hD : va_D A (wD qd qmemory qr qcounts cI cB ms (upd dd 4 x_9) Lwhole Lwhole2 bm rr (upd kt (0 : Int32).toNatClampNeg (x_2 + (1 : Int32))))) hS => ?_)
      refine lv_aload_n hx hb d_Md_moveOn_83 rfl (lv_at hl 1 rfl) ?_
      refine g_Md_29 (v := .ref qcounts) hx hb hT hown hK hP 0 rfl rfl d_Md_moveOn_84 ?_
      refine lv_iconst (v := 3) hx hb d_Md_moveOn_87 (by decide) ?_
      refine lv_dup2_11 hx hb d_Md_moveOn_88 rfl rfl ?_
      refine va_iald (f := (upd kt (0 : Int32).toNatClampNeg (x_2 + (1 : Int32)))) hx hb hK hP 3 0 rfl rfl h.1 d_Md_moveOn_89 ?_
      have h := h.2
      refine lv_topi (fun x_10 ex_10 => ?_)
      have h := h x_10 ex_10
      refine lv_aload_n hx hb d_Md_moveOn_90 rfl (lv_at hl 1 rfl) ?_
      refine g_Md_70 (v := .int (dd 11)) hx hb hT hown hK hP 0 rfl rfl d_Md_moveOn_91 ?_
      refine lv_if_eq (tgt := 101) hx hb d_Md_moveOn_94 (by decide) (fun c_11 => ?_) (fun c_11 => ?_)
      · exact absurd c_11 c_4
      · skip
        refine lv_iconst (v := 1) hx hb d_Md_moveOn_97 (by decide) ?_
        refine lv_goto (tgt := 102) hx hb d_Md_moveOn_98 (by decide) ?_
        refine lv_iadd hx hb d_Md_moveOn_102 ?_
        refine va_iast (f := (upd kt (0 : Int32).toNatClampNeg (x_2 + (1 : Int32)))) hx hb hK hP hD hS 3 0 rfl rfl h.1 d_Md_moveOn_103 (fun H locs (hP : va_P D vwCl (wD qd qmemory qr qcounts cI cB ms (upd dd 4 x_9) Lwhole Lwhole2 bm rr (upd (upd kt (0 : Int32).toNatClampNeg (x_2 + (1 : Int32))) (3 : Int32).toNatClampNeg (x_10 + (1 : Int32)))) H) (hD : va_D A (wD qd qmemory qr qcounts cI cB ms (upd dd 4 x_9) Lwhole Lwhole2 bm rr (upd (upd kt (0 : Int32).toNatClampNeg (x_2 + (1 : Int32))) (3 : Int32).toNatClampNeg (x_10 + (1 : Int32))))) hS => ?_)
        have h := h.2
        refine lv_aload_n hx hb d_Md_moveOn_104 rfl (lv_at hl 1 rfl) ?_
        refine lv_iload_n hx hb d_Md_moveOn_105 rfl (lv_at hl 0 rfl) ?_
        refine p_Md_54 hx hb hT hown hK hP hD hS 0 rfl rfl d_Md_moveOn_106 (fun H locs (hP : va_P D vwCl (wD qd qmemory qr qcounts cI cB ms (upd (upd dd 4 x_9) 3 x_1) Lwhole Lwhole2 bm rr (upd (upd kt (0 : Int32).toNatClampNeg (x_2 + (1 : Int32))) (3 : Int32).toNatClampNeg (x_10 + (1 : Int32)))) H) (hD : va_D A (wD qd qmemory qr qcounts cI cB ms (upd (upd dd 4 x_9) 3 x_1) Lwhole Lwhole2 bm rr (upd (upd kt (0 : Int32).toNatClampNeg (x_2 + (1 : Int32))) (3 : Int32).toNatClampNeg (x_10 + (1 : Int32))))) hS => ?_)
        refine lv_aload_n hx hb d_Md_moveOn_109 rfl (lv_at hl 1 rfl) ?_
        refine lv_aload_n hx hb d_Md_moveOn_110 rfl (lv_at hl 1 rfl) ?_
        refine g_Md_73 (v := .int (dd 12)) hx hb hT hown hK hP 0 rfl rfl d_Md_moveOn_111 ?_
        refine lv_topi (fun x_12 ex_12 => ?_)
        have h := h x_12 ex_12
        refine p_Md_57 hx hb hT hown hK hP hD hS 0 rfl rfl h.1 d_Md_moveOn_114 (fun H locs (hP : va_P D vwCl (wD qd qmemory qr qcounts cI cB ms (upd (upd (upd dd 4 x_9) 3 x_1) 6 x_12) Lwhole Lwhole2 bm rr (upd (upd kt (0 : Int32).toNatClampNeg (x_2 + (1 : Int32))) (3 : Int32).toNatClampNeg (x_10 + (1 : Int32)))) H) (hD : va_D A (wD qd qmemory qr qcounts cI cB ms (upd (upd (upd dd 4 x_9) 3 x_1) 6 x_12) Lwhole Lwhole2 bm rr (upd (upd kt (0 : Int32).toNatClampNeg (x_2 + (1 : Int32))) (3 : Int32).toNatClampNeg (x_10 + (1 : Int32))))) hS => ?_)
        have h := h.2
        exact W.vret hx hb hr (fun t ht hW => ⟨⟨((upd (upd (upd dd 4 x_9) 3 x_1) 6 x_12), Lwhole, Lwhole2, bm, rr, (upd (upd kt (0 : Int32).toNatClampNeg (x_2 + (1 : Int32))) (3 : Int32).toNatClampNeg (x_10 + (1 : Int32)))), rfl, h, by rw [ht]; exact hP, hD⟩, hS.F ht⟩) hS.2.2 d_Md_moveOn_117
  · skip
    have h := h.2 c_3
    refine lv_aload_n hx hb d_Md_moveOn_22 rfl (lv_at hl 1 rfl) ?_
    refine g_Md_29 (v := .ref qcounts) hx hb hT hown hK hP 0 rfl rfl d_Md_moveOn_23 ?_
    refine lv_iconst (v := 4) hx hb d_Md_moveOn_26 (by decide) ?_
    refine lv_dup2_11 hx hb d_Md_moveOn_27 rfl rfl ?_
    refine va_iald (f := (upd kt (0 : Int32).toNatClampNeg (x_2 + (1 : Int32)))) hx hb hK hP 3 0 rfl rfl h.1 d_Md_moveOn_28 ?_
    have h := h.2
    refine lv_topi (fun x_13 ex_13 => ?_)
    have h := h x_13 ex_13
    refine lv_iconst (v := 1) hx hb d_Md_moveOn_29 (by decide) ?_
    refine lv_iadd hx hb d_Md_moveOn_30 ?_
    refine va_iast (f := (upd kt (0 : Int32).toNatClampNeg (x_2 + (1 : Int32)))) hx hb hK hP hD hS 3 0 rfl rfl h.1 d_Md_moveOn_31 (fun H locs (hP : va_P D vwCl (wD qd qmemory qr qcounts cI cB ms dd Lwhole Lwhole2 bm rr (upd (upd kt (0 : Int32).toNatClampNeg (x_2 + (1 : Int32))) (4 : Int32).toNatClampNeg (x_13 + (1 : Int32)))) H) (hD : va_D A (wD qd qmemory qr qcounts cI cB ms dd Lwhole Lwhole2 bm rr (upd (upd kt (0 : Int32).toNatClampNeg (x_2 + (1 : Int32))) (4 : Int32).toNatClampNeg (x_13 + (1 : Int32))))) hS => ?_)
    have h := h.2
    refine lv_aload_n hx hb d_Md_moveOn_32 rfl (lv_at hl 1 rfl) ?_
    refine lv_aload_n hx hb d_Md_moveOn_33 rfl (lv_at hl 1 rfl) ?_
    refine g_Md_25 (v := .int (dd 4)) hx hb hT hown hK hP 0 rfl rfl d_Md_moveOn_34 ?_
    refine lv_iconst (v := 4) hx hb d_Md_moveOn_37 (by decide) ?_
    refine lv_iadd hx hb d_Md_moveOn_38 ?_
    refine lv_topi (fun x_14 ex_14 => ?_)
    have h := h x_14 ex_14
    refine p_Md_54 hx hb hT hown hK hP hD hS 0 rfl rfl d_Md_moveOn_39 (fun H locs (hP : va_P D vwCl (wD qd qmemory qr qcounts cI cB ms (upd dd 3 x_14) Lwhole Lwhole2 bm rr (upd (upd kt (0 : Int32).toNatClampNeg (x_2 + (1 : Int32))) (4 : Int32).toNatClampNeg (x_13 + (1 : Int32)))) H) (hD : va_D A (wD qd qmemory qr qcounts cI cB ms (upd dd 3 x_14) Lwhole Lwhole2 bm rr (upd (upd kt (0 : Int32).toNatClampNeg (x_2 + (1 : Int32))) (4 : Int32).toNatClampNeg (x_13 + (1 : Int32))))) hS => ?_)
    refine lv_aload_n hx hb d_Md_moveOn_42 rfl (lv_at hl 1 rfl) ?_
    refine lv_aload_n hx hb d_Md_moveOn_43 rfl (lv_at hl 1 rfl) ?_
    refine g_Md_25 (v := .int (dd 4)) hx hb hT hown hK hP 0 rfl rfl d_Md_moveOn_44 ?_
    refine lv_bipush (v := 8) hx hb d_Md_moveOn_47 (by decide) ?_
    refine lv_iadd hx hb d_Md_moveOn_49 ?_
    refine lv_topi (fun x_15 ex_15 => ?_)
    have h := h x_15 ex_15
    refine p_Md_25 hx hb hT hown hK hP hD hS 0 rfl rfl d_Md_moveOn_50 (fun H locs (hP : va_P D vwCl (wD qd qmemory qr qcounts cI cB ms (upd (upd dd 3 x_14) 4 x_15) Lwhole Lwhole2 bm rr (upd (upd kt (0 : Int32).toNatClampNeg (x_2 + (1 : Int32))) (4 : Int32).toNatClampNeg (x_13 + (1 : Int32)))) H) (hD : va_D A (wD qd qmemory qr qcounts cI cB ms (upd (upd dd 3 x_14) 4 x_15) Lwhole Lwhole2 bm rr (upd (upd kt (0 : Int32).toNatClampNeg (x_2 + (1 : Int32))) (4 : Int32).toNatClampNeg (x_13 + (1 : Int32))))) hS => ?_)
    refine lv_aload_n hx hb d_Md_moveOn_53 rfl (lv_at hl 1 rfl) ?_
    refine lv_iconst (v := 0) hx hb d_Md_moveOn_54 (by decide) ?_
    refine p_Md_57 hx hb hT hown hK hP hD hS 0 rfl rfl (Or.inl rfl) d_Md_moveOn_55 (fun H locs (hP : va_P D vwCl (wD qd qmemory qr qcounts cI cB ms (upd (upd (upd dd 3 x_14) 4 x_15) 6 (0 : Int32)) Lwhole Lwhole2 bm rr (upd (upd kt (0 : Int32).toNatClampNeg (x_2 + (1 : Int32))) (4 : Int32).toNatClampNeg (x_13 + (1 : Int32)))) H) (hD : va_D A (wD qd qmemory qr qcounts cI cB ms (upd (upd (upd dd 3 x_14) 4 x_15) 6 (0 : Int32)) Lwhole Lwhole2 bm rr (upd (upd kt (0 : Int32).toNatClampNeg (x_2 + (1 : Int32))) (4 : Int32).toNatClampNeg (x_13 + (1 : Int32))))) hS => ?_)
    exact W.vret hx hb hr (fun t ht hW => ⟨⟨((upd (upd (upd dd 3 x_14) 4 x_15) 6 (0 : Int32)), Lwhole, Lwhole2, bm, rr, (upd (upd kt (0 : Int32).toNatClampNeg (x_2 + (1 : Int32))) (4 : Int32).toNatClampNeg (x_13 + (1 : Int32)))), rfl, h, by rw [ht]; exact hP, hD⟩, hS.F ht⟩) hS.2.2 d_Md_moveOn_58
def wp_Md_step (ms : Int32) (dd : Nat → Int32) (Lwhole : Int64) (Lwhole2 : Int64) (bm : Nat → Int32) (rr : Nat → Int32) (kt : Nat → Int32) (P : ((Nat → Int32) × Int64 × Int64 × (Nat → Int32) × (Nat → Int32) × (Nat → Int32)) → Prop) : Prop := wp_Md_good ms dd Lwhole Lwhole2 bm rr kt (dd 3) (4 : Int32) (fun r_1 => ((r_1 = (0 : Int32) → P ((upd dd 5 (1 : Int32)), Lwhole, Lwhole2, bm, rr, kt)) ∧ (¬ r_1 = (0 : Int32) → wp_Md_part ms dd Lwhole Lwhole2 bm rr kt (dd 3) (4 : Int32) (fun r_3 => wp_Md_operate ms (upd (upd (upd (upd dd 9 r_3) 11 (0 : Int32)) 12 (0 : Int32)) 13 (0 : Int32)) Lwhole Lwhole2 bm rr kt (zz_ushr r_3 (26 : Int32)) (fun u_4 => (((u_4.1 5) ≤ (0 : Int32) → wp_Md_moveOn ms u_4.1 u_4.2.1 u_4.2.2.1 u_4.2.2.2.1 u_4.2.2.2.2.1 u_4.2.2.2.2.2 (fun u_7 => P (u_7.1, u_7.2.1, u_7.2.2.1, u_7.2.2.2.1, u_7.2.2.2.2.1, u_7.2.2.2.2.2))) ∧ (¬ (u_4.1 5) ≤ (0 : Int32) → P (u_4.1, u_4.2.1, u_4.2.2.1, u_4.2.2.2.1, u_4.2.2.2.2.1, u_4.2.2.2.2.2))))))))
abbrev rm_Md_step : Room := { frames := 9, cells := 0, slots := 0, locals := 244 }
set_option maxHeartbeats 4000000 in
set_option maxRecDepth 100000 in
theorem c_Md_step (l : Launch) (D : va_G) (cI : ClassId) (cB : ClassId) (qd : Nat) (qmemory : Nat) (qr : Nat) (qcounts : Nat) (ms : Int32) (dd : Nat → Int32) (Lwhole : Int64) (Lwhole2 : Int64) (bm : Nat → Int32) (rr : Nat → Int32) (kt : Nat → Int32) (P : ((Nat → Int32) × Int64 × Int64 × (Nat → Int32) × (Nat → Int32) × (Nat → Int32)) → Prop) (h : wp_Md_step ms dd Lwhole Lwhole2 bm rr kt P) (sz : Nat) : Met l y_Md_step (zz_ws y_Md_step b_Md_step 1 none) rm_Md_step (va_Pc [.ref qd] (zz_pw D [(cI, .int), (cB, .byte)] (wD qd qmemory qr qcounts cI cB ms dd Lwhole Lwhole2 bm rr kt) sz)) (va_Qv P (zz_qw D (fun u => wD qd qmemory qr qcounts cI cB ms u.1 u.2.1 u.2.2.1 u.2.2.2.1 u.2.2.2.2.1 u.2.2.2.2.2) (va_A (wD qd qmemory qr qcounts cI cB ms dd Lwhole Lwhole2 bm rr kt) sz)) (va_A (wD qd qmemory qr qcounts cI cB ms dd Lwhole Lwhole2 bm rr kt) sz)) 0 0 (va_A (wD qd qmemory qr qcounts cI cB ms dd Lwhole Lwhole2 bm rr kt) sz) := by
  refine Met.ofW (cc := b_Md_step) (maxL := 1) (ret := none) (by decide) rfl ?_
  intro p e s m args below meth c s₁ B hml hv
  obtain ⟨rfl, hsz, hP, hK, hD0⟩ := hv
  have hx := B.exec
  have hb := B.bytes
  have hr := B.returns
  have hts := atoms_spec (ws := (zz_ws y_Md_step b_Md_step 1 none)) B.pre
  have hown : s.vm.findClass R_Md = some m.cls := findClass_of_methodNamed B.named
  have hlocks := B.notSynchronized
  have hT := zz_hts hts
  have X : CallFix p m c b_Md_step 1 s ([.ref qd] : List Value).toArray (zz_ws y_Md_step b_Md_step 1 none) R_Md := ⟨hx, hb, hml, hown, hts⟩
  have hf0 : 0 + 0 ≤ (headSpec (zz_ws y_Md_step b_Md_step 1 none) rm_Md_step).room.cells ∧ 0 + 0 ≤ (headSpec (zz_ws y_Md_step b_Md_step 1 none) rm_Md_step).room.slots := ⟨Nat.le_of_ble_eq_true rfl, Nat.le_of_ble_eq_true rfl⟩
  subst hsz
  have hD := hD0.self (sz := s.heap.size)
  generalize hAe : va_A (wD qd qmemory qr qcounts cI cB ms dd Lwhole Lwhole2 bm rr kt) s.heap.size = A at hD ⊢
  have hA : ∀ q : Nat, s.heap.size ≤ q → A q := fun q h => by rw [← hAe]; exact Or.inr h
  have hS : va_S A s.heap s.heap [] := va_S.rf
  have hl := lv_entry ([.ref qd]) (n := 1) (Nat.le_of_ble_eq_true rfl)
  rw [lg_entry_eq]
  generalize (lg_sl ([.ref qd]) ++ List.replicate (1 - (lg_sl ([.ref qd])).length) Slot.unset).toArray = ls at hl ⊢
  have hl : lv_has ls 1 [(0, .ref qd)] := hl
  refine lv_aload_n hx hb d_Md_step_0 rfl (lv_at hl 0 rfl) ?_
  refine lv_aload_n hx hb d_Md_step_1 rfl (lv_at hl 0 rfl) ?_
  refine g_Md_54 (v := .int (dd 3)) hx hb hT hown hK hP 0 rfl rfl d_Md_step_2 ?_
  refine lv_iconst (v := 4) hx hb d_Md_step_5 (by decide) ?_
  refine zz_Ri (As := [.int (dd 3), .int (4 : Int32)]) (rest := []) (wc := wD qd qmemory qr qcounts cI cB ms dd Lwhole Lwhole2 bm rr kt) X hK hP (c_Md_good l D cI cB qd qmemory qr qcounts ms dd Lwhole Lwhole2 bm rr kt (dd 3) (4 : Int32) _ h) ⟨rfl, rfl⟩ m_Md_good k_Md_38 ⟨Nat.le_of_ble_eq_true rfl, Nat.le_of_ble_eq_true rfl⟩ [0, 1, 2, 3] rfl 6 0 rfl rfl rfl rfl hl.1 rfl (Nat.le_of_ble_eq_true rfl) d_Md_step_6 hf0 (fun r_1 h => ?_)
  refine lv_if_ne (tgt := 18) hx hb d_Md_step_9 (by decide) (fun c_2 => ?_) (fun c_2 => ?_)
  · skip
    have h := h.2 c_2
    refine lv_aload_n hx hb d_Md_step_18 rfl (lv_at hl 0 rfl) ?_
    refine lv_aload_n hx hb d_Md_step_19 rfl (lv_at hl 0 rfl) ?_
    refine lv_aload_n hx hb d_Md_step_20 rfl (lv_at hl 0 rfl) ?_
    refine g_Md_54 (v := .int (dd 3)) hx hb hT hown hK hP 0 rfl rfl d_Md_step_21 ?_
    refine lv_iconst (v := 4) hx hb d_Md_step_24 (by decide) ?_
    refine zz_Ri (As := [.int (dd 3), .int (4 : Int32)]) (rest := [.ref qd]) (wc := wD qd qmemory qr qcounts cI cB ms dd Lwhole Lwhole2 bm rr kt) X hK hP (c_Md_part l D cI cB qd qmemory qr qcounts ms dd Lwhole Lwhole2 bm rr kt (dd 3) (4 : Int32) _ h) ⟨rfl, rfl⟩ m_Md_part k_Md_46 ⟨Nat.le_of_ble_eq_true rfl, Nat.le_of_ble_eq_true rfl⟩ [0, 1, 2, 3] rfl 6 0 rfl rfl rfl rfl hl.1 rfl (Nat.le_of_ble_eq_true rfl) d_Md_step_25 hf0 (fun r_3 h => ?_)
    refine p_Md_82 hx hb hT hown hK hP hD hS 0 rfl rfl d_Md_step_28 (fun H locs (hP : va_P D vwCl (wD qd qmemory qr qcounts cI cB ms (upd dd 9 r_3) Lwhole Lwhole2 bm rr kt) H) (hD : va_D A (wD qd qmemory qr qcounts cI cB ms (upd dd 9 r_3) Lwhole Lwhole2 bm rr kt)) hS => ?_)
    refine lv_aload_n hx hb d_Md_step_31 rfl (lv_at hl 0 rfl) ?_
    refine lv_iconst (v := 0) hx hb d_Md_step_32 (by decide) ?_
    refine p_Md_70 hx hb hT hown hK hP hD hS 0 rfl rfl (Or.inl rfl) d_Md_step_33 (fun H locs (hP : va_P D vwCl (wD qd qmemory qr qcounts cI cB ms (upd (upd dd 9 r_3) 11 (0 : Int32)) Lwhole Lwhole2 bm rr kt) H) (hD : va_D A (wD qd qmemory qr qcounts cI cB ms (upd (upd dd 9 r_3) 11 (0 : Int32)) Lwhole Lwhole2 bm rr kt)) hS => ?_)
    refine lv_aload_n hx hb d_Md_step_36 rfl (lv_at hl 0 rfl) ?_
    refine lv_iconst (v := 0) hx hb d_Md_step_37 (by decide) ?_
    refine p_Md_73 hx hb hT hown hK hP hD hS 0 rfl rfl (Or.inl rfl) d_Md_step_38 (fun H locs (hP : va_P D vwCl (wD qd qmemory qr qcounts cI cB ms (upd (upd (upd dd 9 r_3) 11 (0 : Int32)) 12 (0 : Int32)) Lwhole Lwhole2 bm rr kt) H) (hD : va_D A (wD qd qmemory qr qcounts cI cB ms (upd (upd (upd dd 9 r_3) 11 (0 : Int32)) 12 (0 : Int32)) Lwhole Lwhole2 bm rr kt)) hS => ?_)
    refine lv_aload_n hx hb d_Md_step_41 rfl (lv_at hl 0 rfl) ?_
    refine lv_iconst (v := 0) hx hb d_Md_step_42 (by decide) ?_
    refine p_Md_76 hx hb hT hown hK hP hD hS 0 rfl rfl (Or.inl rfl) d_Md_step_43 (fun H locs (hP : va_P D vwCl (wD qd qmemory qr qcounts cI cB ms (upd (upd (upd (upd dd 9 r_3) 11 (0 : Int32)) 12 (0 : Int32)) 13 (0 : Int32)) Lwhole Lwhole2 bm rr kt) H) (hD : va_D A (wD qd qmemory qr qcounts cI cB ms (upd (upd (upd (upd dd 9 r_3) 11 (0 : Int32)) 12 (0 : Int32)) 13 (0 : Int32)) Lwhole Lwhole2 bm rr kt)) hS => ?_)
    refine lv_aload_n hx hb d_Md_step_46 rfl (lv_at hl 0 rfl) ?_
    refine lv_aload_n hx hb d_Md_step_47 rfl (lv_at hl 0 rfl) ?_
    refine g_Md_82 (v := .int r_3) hx hb hT hown hK hP 0 rfl rfl d_Md_step_48 ?_
    refine lv_bipush (v := 26) hx hb d_Md_step_51 (by decide) ?_
    refine zz_iushr hx hb d_Md_step_53 ?_
    refine zz_Wv (As := [.int (zz_ushr r_3 (26 : Int32))]) (rest := []) (wc := wD qd qmemory qr qcounts cI cB ms (upd (upd (upd (upd dd 9 r_3) 11 (0 : Int32)) 12 (0 : Int32)) 13 (0 : Int32)) Lwhole Lwhole2 bm rr kt) (wr := []) X hK hP hD hS hA (c_Md_operate l D cI cB qd qmemory qr qcounts ms (upd (upd (upd (upd dd 9 r_3) 11 (0 : Int32)) 12 (0 : Int32)) 13 (0 : Int32)) Lwhole Lwhole2 bm rr kt (zz_ushr r_3 (26 : Int32)) _ h _) ⟨rfl, rfl⟩ m_Md_operate k_Md_88 ⟨Nat.le_of_ble_eq_true rfl, Nat.le_of_ble_eq_true rfl⟩ [0, 1, 2, 3] [] rfl rfl (by decide) (by decide) (by decide) 6 0 rfl rfl rfl rfl hl.1 rfl (Nat.le_of_ble_eq_true rfl) d_Md_step_54 hf0 (fun u_4 H locs h hP hD hS => ?_)
    have hP : va_P D vwCl (wD qd qmemory qr qcounts cI cB ms u_4.1 u_4.2.1 u_4.2.2.1 u_4.2.2.2.1 u_4.2.2.2.2.1 u_4.2.2.2.2.2) H := hP.sub [0, 1, 2, 3] rfl
    have hD : va_D A (wD qd qmemory qr qcounts cI cB ms u_4.1 u_4.2.1 u_4.2.2.1 u_4.2.2.2.1 u_4.2.2.2.2.1 u_4.2.2.2.2.2) := hD.sub [0, 1, 2, 3] (by decide) rfl
    refine lv_aload_n hx hb d_Md_step_57 rfl (lv_at hl 0 rfl) ?_
    refine g_Md_63 (v := .int (u_4.1 5)) hx hb hT hown hK hP 0 rfl rfl d_Md_step_58 ?_
    refine lv_if_le (tgt := 65) hx hb d_Md_step_61 (by decide) (fun c_6 => ?_) (fun c_6 => ?_)
    · skip
      have h := h.1 c_6
      refine lv_aload_n hx hb d_Md_step_65 rfl (lv_at hl 0 rfl) ?_
      refine zz_Wv (As := []) (rest := []) (wc := wD qd qmemory qr qcounts cI cB ms u_4.1 u_4.2.1 u_4.2.2.1 u_4.2.2.2.1 u_4.2.2.2.2.1 u_4.2.2.2.2.2) (wr := []) X hK hP hD hS hA (c_Md_moveOn l D cI cB qd qmemory qr qcounts ms u_4.1 u_4.2.1 u_4.2.2.1 u_4.2.2.2.1 u_4.2.2.2.2.1 u_4.2.2.2.2.2 _ h _) ⟨rfl, rfl⟩ m_Md_moveOn k_Md_79 ⟨Nat.le_of_ble_eq_true rfl, Nat.le_of_ble_eq_true rfl⟩ [0, 1, 2, 3] [] rfl rfl (by decide) (by decide) (by decide) 6 0 rfl rfl rfl rfl hl.1 rfl (Nat.le_of_ble_eq_true rfl) d_Md_step_66 hf0 (fun u_7 H locs h hP hD hS => ?_)
      have hP : va_P D vwCl (wD qd qmemory qr qcounts cI cB ms u_7.1 u_7.2.1 u_7.2.2.1 u_7.2.2.2.1 u_7.2.2.2.2.1 u_7.2.2.2.2.2) H := hP.sub [0, 1, 2, 3] rfl
      have hD : va_D A (wD qd qmemory qr qcounts cI cB ms u_7.1 u_7.2.1 u_7.2.2.1 u_7.2.2.2.1 u_7.2.2.2.2.1 u_7.2.2.2.2.2) := hD.sub [0, 1, 2, 3] (by decide) rfl
      exact W.vret hx hb hr (fun t ht hW => ⟨⟨(u_7.1, u_7.2.1, u_7.2.2.1, u_7.2.2.2.1, u_7.2.2.2.2.1, u_7.2.2.2.2.2), rfl, h, by rw [ht]; exact hP, hD⟩, hS.F ht⟩) hS.2.2 d_Md_step_69
    · skip
      have h := h.2 c_6
      exact W.vret hx hb hr (fun t ht hW => ⟨⟨(u_4.1, u_4.2.1, u_4.2.2.1, u_4.2.2.2.1, u_4.2.2.2.2.1, u_4.2.2.2.2.2), rfl, h, by rw [ht]; exact hP, hD⟩, hS.F ht⟩) hS.2.2 d_Md_step_64
  · skip
    have h := h.1 c_2
    refine lv_aload_n hx hb d_Md_step_12 rfl (lv_at hl 0 rfl) ?_
    refine lv_iconst (v := 1) hx hb d_Md_step_13 (by decide) ?_
    refine p_Md_63 hx hb hT hown hK hP hD hS 0 rfl rfl d_Md_step_14 (fun H locs (hP : va_P D vwCl (wD qd qmemory qr qcounts cI cB ms (upd dd 5 (1 : Int32)) Lwhole Lwhole2 bm rr kt) H) (hD : va_D A (wD qd qmemory qr qcounts cI cB ms (upd dd 5 (1 : Int32)) Lwhole Lwhole2 bm rr kt)) hS => ?_)
    exact W.vret hx hb hr (fun t ht hW => ⟨⟨((upd dd 5 (1 : Int32)), Lwhole, Lwhole2, bm, rr, kt), rfl, h, by rw [ht]; exact hP, hD⟩, hS.F ht⟩) hS.2.2 d_Md_step_17
def wl_Md_run_38 (ms : Int32) (a0 : Int32) (P : Int32 → ((Nat → Int32) × Int64 × Int64 × (Nat → Int32) × (Nat → Int32) × (Nat → Int32)) → Prop) : Nat → Int32 → (Nat → Int32) → Int64 → Int64 → (Nat → Int32) → (Nat → Int32) → (Nat → Int32) → Prop
  | 0, _, _, _, _, _, _, _ => False
  | n + 1, v2, wdd, wLwhole, wLwhole2, wbm, wrr, wkt => ((a0 ≤ v2 → P v2 (wdd, wLwhole, wLwhole2, wbm, wrr, wkt)) ∧ (¬ a0 ≤ v2 → (((wdd 5) = (0 : Int32) → wp_Md_step ms wdd wLwhole wLwhole2 wbm wrr wkt (fun u_8 => (((u_8.1 5) = (0 : Int32) → ∀ x_11 : Int32, x_11 = v2 + 1 → wl_Md_run_38 ms a0 P n x_11 u_8.1 u_8.2.1 u_8.2.2.1 u_8.2.2.2.1 u_8.2.2.2.2.1 u_8.2.2.2.2.2) ∧ (¬ (u_8.1 5) = (0 : Int32) → wl_Md_run_38 ms a0 P n v2 u_8.1 u_8.2.1 u_8.2.2.1 u_8.2.2.2.1 u_8.2.2.2.2.1 u_8.2.2.2.2.2)))) ∧ (¬ (wdd 5) = (0 : Int32) → P v2 (wdd, wLwhole, wLwhole2, wbm, wrr, wkt)))))
def wp_Md_run (ms : Int32) (dd : Nat → Int32) (Lwhole : Int64) (Lwhole2 : Int64) (bm : Nat → Int32) (rr : Nat → Int32) (kt : Nat → Int32) (a0 : Int32) (P : Int32 → ((Nat → Int32) × Int64 × Int64 × (Nat → Int32) × (Nat → Int32) × (Nat → Int32)) → Prop) : Prop := ((a0 < (1 : Int32) → wp_Md_fail ms (upd dd 0 (0 : Int32)) Lwhole Lwhole2 bm rr kt (1 : Int32) (fun r_3 u_2 => P r_3 (u_2.1, u_2.2.1, u_2.2.2.1, u_2.2.2.2.1, u_2.2.2.2.2.1, u_2.2.2.2.2.2))) ∧ (¬ a0 < (1 : Int32) → ((a0 ≤ (10000 : Int32) → (((dd 5) ≤ (0 : Int32) → ∃ n, wl_Md_run_38 ms a0 P n (0 : Int32) (upd dd 0 (0 : Int32)) Lwhole Lwhole2 bm rr kt) ∧ (¬ (dd 5) ≤ (0 : Int32) → wp_Md_fail ms (upd dd 0 (0 : Int32)) Lwhole Lwhole2 bm rr kt (2 : Int32) (fun r_13 u_12 => P r_13 (u_12.1, u_12.2.1, u_12.2.2.1, u_12.2.2.2.1, u_12.2.2.2.2.1, u_12.2.2.2.2.2))))) ∧ (¬ a0 ≤ (10000 : Int32) → wp_Md_fail ms (upd dd 0 (0 : Int32)) Lwhole Lwhole2 bm rr kt (1 : Int32) (fun r_15 u_14 => P r_15 (u_14.1, u_14.2.1, u_14.2.2.1, u_14.2.2.2.1, u_14.2.2.2.2.1, u_14.2.2.2.2.2))))))
abbrev rm_Md_run : Room := { frames := 10, cells := 0, slots := 0, locals := 264 }
set_option maxHeartbeats 4000000 in
set_option maxRecDepth 100000 in
theorem c_Md_run (l : Launch) (D : va_G) (cI : ClassId) (cB : ClassId) (qd : Nat) (qmemory : Nat) (qr : Nat) (qcounts : Nat) (ms : Int32) (dd : Nat → Int32) (Lwhole : Int64) (Lwhole2 : Int64) (bm : Nat → Int32) (rr : Nat → Int32) (kt : Nat → Int32) (a0 : Int32) (P : Int32 → ((Nat → Int32) × Int64 × Int64 × (Nat → Int32) × (Nat → Int32) × (Nat → Int32)) → Prop) (h : wp_Md_run ms dd Lwhole Lwhole2 bm rr kt a0 P) (sz : Nat) : Met l y_Md_run (zz_ws y_Md_run b_Md_run 3 (some .int)) rm_Md_run (va_Pc [.ref qd, .int a0] (zz_pw D [(cI, .int), (cB, .byte)] (wD qd qmemory qr qcounts cI cB ms dd Lwhole Lwhole2 bm rr kt) sz)) (va_Qi P (zz_qw D (fun u => wD qd qmemory qr qcounts cI cB ms u.1 u.2.1 u.2.2.1 u.2.2.2.1 u.2.2.2.2.1 u.2.2.2.2.2) (va_A (wD qd qmemory qr qcounts cI cB ms dd Lwhole Lwhole2 bm rr kt) sz)) (va_A (wD qd qmemory qr qcounts cI cB ms dd Lwhole Lwhole2 bm rr kt) sz)) 0 0 (va_A (wD qd qmemory qr qcounts cI cB ms dd Lwhole Lwhole2 bm rr kt) sz) := by
  refine Met.ofW (cc := b_Md_run) (maxL := 3) (ret := (some .int)) (by decide) rfl ?_
  intro p e s m args below meth c s₁ B hml hv
  obtain ⟨rfl, hsz, hP, hK, hD0⟩ := hv
  have hx := B.exec
  have hb := B.bytes
  have hr := B.returns
  have hts := atoms_spec (ws := (zz_ws y_Md_run b_Md_run 3 (some .int))) B.pre
  have hown : s.vm.findClass R_Md = some m.cls := findClass_of_methodNamed B.named
  have hlocks := B.notSynchronized
  have hT := zz_hts hts
  have X : CallFix p m c b_Md_run 3 s ([.ref qd, .int a0] : List Value).toArray (zz_ws y_Md_run b_Md_run 3 (some .int)) R_Md := ⟨hx, hb, hml, hown, hts⟩
  have hf0 : 0 + 0 ≤ (headSpec (zz_ws y_Md_run b_Md_run 3 (some .int)) rm_Md_run).room.cells ∧ 0 + 0 ≤ (headSpec (zz_ws y_Md_run b_Md_run 3 (some .int)) rm_Md_run).room.slots := ⟨Nat.le_of_ble_eq_true rfl, Nat.le_of_ble_eq_true rfl⟩
  subst hsz
  have hD := hD0.self (sz := s.heap.size)
  generalize hAe : va_A (wD qd qmemory qr qcounts cI cB ms dd Lwhole Lwhole2 bm rr kt) s.heap.size = A at hD ⊢
  have hA : ∀ q : Nat, s.heap.size ≤ q → A q := fun q h => by rw [← hAe]; exact Or.inr h
  have hS : va_S A s.heap s.heap [] := va_S.rf
  have hl := lv_entry ([.ref qd, .int a0]) (n := 3) (Nat.le_of_ble_eq_true rfl)
  rw [lg_entry_eq]
  generalize (lg_sl ([.ref qd, .int a0]) ++ List.replicate (3 - (lg_sl ([.ref qd, .int a0])).length) Slot.unset).toArray = ls at hl ⊢
  have hl : lv_has ls 3 [(0, .ref qd), (1, .int a0)] := hl
  refine lv_aload_n hx hb d_Md_run_0 rfl (lv_at hl 0 rfl) ?_
  refine lv_iconst (v := 0) hx hb d_Md_run_1 (by decide) ?_
  refine p_Md_35 hx hb hT hown hK hP hD hS 0 rfl rfl d_Md_run_2 (fun H locs (hP : va_P D vwCl (wD qd qmemory qr qcounts cI cB ms (upd dd 0 (0 : Int32)) Lwhole Lwhole2 bm rr kt) H) (hD : va_D A (wD qd qmemory qr qcounts cI cB ms (upd dd 0 (0 : Int32)) Lwhole Lwhole2 bm rr kt)) hS => ?_)
  refine lv_iload_n hx hb d_Md_run_5 rfl (lv_at hl 1 rfl) ?_
  refine lv_iconst (v := 1) hx hb d_Md_run_6 (by decide) ?_
  refine lv_icmp_lt (tgt := 17) hx hb d_Md_run_7 (by decide) (fun c_1 => ?_) (fun c_1 => ?_)
  · skip
    have h := h.1 c_1
    refine lv_aload_n hx hb d_Md_run_17 rfl (lv_at hl 0 rfl) ?_
    refine lv_iconst (v := 1) hx hb d_Md_run_18 (by decide) ?_
    refine zz_Wi (As := [.int (1 : Int32)]) (rest := []) (wc := wD qd qmemory qr qcounts cI cB ms (upd dd 0 (0 : Int32)) Lwhole Lwhole2 bm rr kt) (wr := []) X hK hP hD hS hA (c_Md_fail l D cI cB qd qmemory qr qcounts ms (upd dd 0 (0 : Int32)) Lwhole Lwhole2 bm rr kt (1 : Int32) _ h _) ⟨rfl, rfl⟩ m_Md_fail k_Md_42 ⟨Nat.le_of_ble_eq_true rfl, Nat.le_of_ble_eq_true rfl⟩ [0, 1, 2, 3] [] rfl rfl (by decide) (by decide) (by decide) 6 0 rfl rfl rfl rfl hl.1 rfl (Nat.le_of_ble_eq_true rfl) d_Md_run_19 hf0 (fun r_3 u_2 H locs h hP hD hS => ?_)
    have hP : va_P D vwCl (wD qd qmemory qr qcounts cI cB ms u_2.1 u_2.2.1 u_2.2.2.1 u_2.2.2.2.1 u_2.2.2.2.2.1 u_2.2.2.2.2.2) H := hP.sub [0, 1, 2, 3] rfl
    have hD : va_D A (wD qd qmemory qr qcounts cI cB ms u_2.1 u_2.2.1 u_2.2.2.1 u_2.2.2.2.1 u_2.2.2.2.2.1 u_2.2.2.2.2.2) := hD.sub [0, 1, 2, 3] (by decide) rfl
    exact W.iret (v := r_3) hx hb hr (fun t ht hW => ⟨⟨r_3, (u_2.1, u_2.2.1, u_2.2.2.1, u_2.2.2.2.1, u_2.2.2.2.2.1, u_2.2.2.2.2.2), rfl, h, by rw [ht]; exact hP, hD⟩, hS.F ht⟩) hS.2.2 d_Md_run_22
  · skip
    have h := h.2 c_1
    refine lv_iload_n hx hb d_Md_run_10 rfl (lv_at hl 1 rfl) ?_
    refine lv_sipush (v := 10000) hx hb d_Md_run_11 (by decide) ?_
    refine lv_icmp_le (tgt := 23) hx hb d_Md_run_14 (by decide) (fun c_4 => ?_) (fun c_4 => ?_)
    · skip
      have h := h.1 c_4
      refine lv_aload_n hx hb d_Md_run_23 rfl (lv_at hl 0 rfl) ?_
      refine g_Md_63 (v := .int (dd 5)) hx hb hT hown hK hP 0 rfl rfl d_Md_run_24 ?_
      refine lv_if_le (tgt := 36) hx hb d_Md_run_27 (by decide) (fun c_5 => ?_) (fun c_5 => ?_)
      · skip
        have h := h.1 c_5
        refine lv_iconst (v := 0) hx hb d_Md_run_36 (by decide) ?_
        refine lv_istore_n (lv' := [(2, .int (0 : Int32)), (0, .ref qd), (1, .int a0)]) hx hb d_Md_run_37 rfl hl (by decide) rfl (fun ls hl => ?_)
        have lp : ∀ (n : Nat) (v2 : Int32) (wdd : Nat → Int32) (wLwhole : Int64) (wLwhole2 : Int64) (wbm : Nat → Int32) (wrr : Nat → Int32) (wkt : Nat → Int32), wl_Md_run_38 ms a0 P n v2 wdd wLwhole wLwhole2 wbm wrr wkt → ∀ (H : Heap) (locs : List Loc), va_P D vwCl (wD qd qmemory qr qcounts cI cB ms wdd wLwhole wLwhole2 wbm wrr wkt) H → va_D A (wD qd qmemory qr qcounts cI cB ms wdd wLwhole wLwhole2 wbm wrr wkt) → va_S A s.heap H locs → ∀ ls : Array Slot, lv_has ls 3 [(2, .int v2), (0, .ref qd), (1, .int a0)] → W p l e (headSpec (zz_ws y_Md_run b_Md_run 3 (some .int)) rm_Md_run).room s m ([.ref qd, .int a0] : List Value).toArray below meth c H locs 0 0 (MQ below (va_Qi P (zz_qw D (fun u => wD qd qmemory qr qcounts cI cB ms u.1 u.2.1 u.2.2.1 u.2.2.2.1 u.2.2.2.2.1 u.2.2.2.2.2) A) A) ([.ref qd, .int a0] : List Value).toArray s 0 0 A) (F0 m 38 ls []) := by
          intro n
          induction n with
          | zero =>
            intro v2 wdd wLwhole wLwhole2 wbm wrr wkt h
            exact False.elim h
          | succ n ih =>
            intro v2 wdd wLwhole wLwhole2 wbm wrr wkt h H locs hP hD hS ls hl
            rw [wl_Md_run_38] at h
            refine lv_iload_n hx hb d_Md_run_38 rfl (lv_at hl 0 rfl) ?_
            refine lv_iload_n hx hb d_Md_run_39 rfl (lv_at hl 2 rfl) ?_
            refine lv_icmp_ge (tgt := 67) hx hb d_Md_run_40 (by decide) (fun c_6 => ?_) (fun c_6 => ?_)
            · skip
              have h := h.1 c_6
              refine lv_iload_n hx hb d_Md_run_67 rfl (lv_at hl 0 rfl) ?_
              exact W.iret (v := v2) hx hb hr (fun t ht hW => ⟨⟨v2, (wdd, wLwhole, wLwhole2, wbm, wrr, wkt), rfl, h, by rw [ht]; exact hP, hD⟩, hS.F ht⟩) hS.2.2 d_Md_run_68
            · skip
              have h := h.2 c_6
              refine lv_aload_n hx hb d_Md_run_43 rfl (lv_at hl 1 rfl) ?_
              refine g_Md_63 (v := .int (wdd 5)) hx hb hT hown hK hP 0 rfl rfl d_Md_run_44 ?_
              refine lv_if_ne (tgt := 67) hx hb d_Md_run_47 (by decide) (fun c_7 => ?_) (fun c_7 => ?_)
              · skip
                have h := h.2 c_7
                refine lv_iload_n hx hb d_Md_run_67 rfl (lv_at hl 0 rfl) ?_
                exact W.iret (v := v2) hx hb hr (fun t ht hW => ⟨⟨v2, (wdd, wLwhole, wLwhole2, wbm, wrr, wkt), rfl, h, by rw [ht]; exact hP, hD⟩, hS.F ht⟩) hS.2.2 d_Md_run_68
              · skip
                have h := h.1 c_7
                refine lv_aload_n hx hb d_Md_run_50 rfl (lv_at hl 1 rfl) ?_
                refine zz_Wv (As := []) (rest := []) (wc := wD qd qmemory qr qcounts cI cB ms wdd wLwhole wLwhole2 wbm wrr wkt) (wr := []) X hK hP hD hS hA (c_Md_step l D cI cB qd qmemory qr qcounts ms wdd wLwhole wLwhole2 wbm wrr wkt _ h _) ⟨rfl, rfl⟩ m_Md_step k_Md_66 ⟨Nat.le_of_ble_eq_true rfl, Nat.le_of_ble_eq_true rfl⟩ [0, 1, 2, 3] [] rfl rfl (by decide) (by decide) (by decide) 6 0 rfl rfl rfl rfl hl.1 rfl (Nat.le_of_ble_eq_true rfl) d_Md_run_51 hf0 (fun u_8 H locs h hP hD hS => ?_)
                have hP : va_P D vwCl (wD qd qmemory qr qcounts cI cB ms u_8.1 u_8.2.1 u_8.2.2.1 u_8.2.2.2.1 u_8.2.2.2.2.1 u_8.2.2.2.2.2) H := hP.sub [0, 1, 2, 3] rfl
                have hD : va_D A (wD qd qmemory qr qcounts cI cB ms u_8.1 u_8.2.1 u_8.2.2.1 u_8.2.2.2.1 u_8.2.2.2.2.1 u_8.2.2.2.2.2) := hD.sub [0, 1, 2, 3] (by decide) rfl
                refine lv_aload_n hx hb d_Md_run_54 rfl (lv_at hl 1 rfl) ?_
                refine g_Md_63 (v := .int (u_8.1 5)) hx hb hT hown hK hP 0 rfl rfl d_Md_run_55 ?_
                refine lv_if_ne (tgt := 38) hx hb d_Md_run_58 (by decide) (fun c_10 => ?_) (fun c_10 => ?_)
                · skip
                  have h := h.2 c_10
                  exact ih v2 u_8.1 u_8.2.1 u_8.2.2.1 u_8.2.2.2.1 u_8.2.2.2.2.1 u_8.2.2.2.2.2 h H locs hP hD hS ls (lv_sub hl [0, 1, 2] rfl)
                · skip
                  have h := h.1 c_10
                  obtain ⟨x_11, ex_11⟩ : ∃ y : Int32, y = v2 + 1 := ⟨_, rfl⟩
                  have h := h x_11 ex_11
                  refine lv_iinc (v := x_11) (lv' := [(2, .int x_11), (0, .ref qd), (1, .int a0)]) hx hb d_Md_run_61 hl (k := 0) rfl (by rw [ex_11]; rfl) (by decide) rfl (fun ls hl => ?_)
                  refine lv_goto (tgt := 38) hx hb d_Md_run_64 (by decide) ?_
                  exact ih x_11 u_8.1 u_8.2.1 u_8.2.2.1 u_8.2.2.2.1 u_8.2.2.2.2.1 u_8.2.2.2.2.2 h H locs hP hD hS ls (lv_sub hl [0, 1, 2] rfl)
        obtain ⟨n, h⟩ := h
        exact lp n (0 : Int32) (upd dd 0 (0 : Int32)) Lwhole Lwhole2 bm rr kt h _ _ hP hD hS ls hl
      · skip
        have h := h.2 c_5
        refine lv_aload_n hx hb d_Md_run_30 rfl (lv_at hl 0 rfl) ?_
        refine lv_iconst (v := 2) hx hb d_Md_run_31 (by decide) ?_
        refine zz_Wi (As := [.int (2 : Int32)]) (rest := []) (wc := wD qd qmemory qr qcounts cI cB ms (upd dd 0 (0 : Int32)) Lwhole Lwhole2 bm rr kt) (wr := []) X hK hP hD hS hA (c_Md_fail l D cI cB qd qmemory qr qcounts ms (upd dd 0 (0 : Int32)) Lwhole Lwhole2 bm rr kt (2 : Int32) _ h _) ⟨rfl, rfl⟩ m_Md_fail k_Md_42 ⟨Nat.le_of_ble_eq_true rfl, Nat.le_of_ble_eq_true rfl⟩ [0, 1, 2, 3] [] rfl rfl (by decide) (by decide) (by decide) 6 0 rfl rfl rfl rfl hl.1 rfl (Nat.le_of_ble_eq_true rfl) d_Md_run_32 hf0 (fun r_13 u_12 H locs h hP hD hS => ?_)
        have hP : va_P D vwCl (wD qd qmemory qr qcounts cI cB ms u_12.1 u_12.2.1 u_12.2.2.1 u_12.2.2.2.1 u_12.2.2.2.2.1 u_12.2.2.2.2.2) H := hP.sub [0, 1, 2, 3] rfl
        have hD : va_D A (wD qd qmemory qr qcounts cI cB ms u_12.1 u_12.2.1 u_12.2.2.1 u_12.2.2.2.1 u_12.2.2.2.2.1 u_12.2.2.2.2.2) := hD.sub [0, 1, 2, 3] (by decide) rfl
        exact W.iret (v := r_13) hx hb hr (fun t ht hW => ⟨⟨r_13, (u_12.1, u_12.2.1, u_12.2.2.1, u_12.2.2.2.1, u_12.2.2.2.2.1, u_12.2.2.2.2.2), rfl, h, by rw [ht]; exact hP, hD⟩, hS.F ht⟩) hS.2.2 d_Md_run_35
    · skip
      have h := h.2 c_4
      refine lv_aload_n hx hb d_Md_run_17 rfl (lv_at hl 0 rfl) ?_
      refine lv_iconst (v := 1) hx hb d_Md_run_18 (by decide) ?_
      refine zz_Wi (As := [.int (1 : Int32)]) (rest := []) (wc := wD qd qmemory qr qcounts cI cB ms (upd dd 0 (0 : Int32)) Lwhole Lwhole2 bm rr kt) (wr := []) X hK hP hD hS hA (c_Md_fail l D cI cB qd qmemory qr qcounts ms (upd dd 0 (0 : Int32)) Lwhole Lwhole2 bm rr kt (1 : Int32) _ h _) ⟨rfl, rfl⟩ m_Md_fail k_Md_42 ⟨Nat.le_of_ble_eq_true rfl, Nat.le_of_ble_eq_true rfl⟩ [0, 1, 2, 3] [] rfl rfl (by decide) (by decide) (by decide) 6 0 rfl rfl rfl rfl hl.1 rfl (Nat.le_of_ble_eq_true rfl) d_Md_run_19 hf0 (fun r_15 u_14 H locs h hP hD hS => ?_)
      have hP : va_P D vwCl (wD qd qmemory qr qcounts cI cB ms u_14.1 u_14.2.1 u_14.2.2.1 u_14.2.2.2.1 u_14.2.2.2.2.1 u_14.2.2.2.2.2) H := hP.sub [0, 1, 2, 3] rfl
      have hD : va_D A (wD qd qmemory qr qcounts cI cB ms u_14.1 u_14.2.1 u_14.2.2.1 u_14.2.2.2.1 u_14.2.2.2.2.1 u_14.2.2.2.2.2) := hD.sub [0, 1, 2, 3] (by decide) rfl
      exact W.iret (v := r_15) hx hb hr (fun t ht hW => ⟨⟨r_15, (u_14.1, u_14.2.1, u_14.2.2.1, u_14.2.2.2.1, u_14.2.2.2.2.1, u_14.2.2.2.2.2), rfl, h, by rw [ht]; exact hP, hD⟩, hS.F ht⟩) hS.2.2 d_Md_run_22
def wp_Md_end (ms : Int32) (dd : Nat → Int32) (Lwhole : Int64) (Lwhole2 : Int64) (bm : Nat → Int32) (rr : Nat → Int32) (kt : Nat → Int32) (P : Int32 → ((Nat → Int32) × Int64 × Int64 × (Nat → Int32) × (Nat → Int32) × (Nat → Int32)) → Prop) : Prop := P (dd 5) ((upd dd 0 (0 : Int32)), Lwhole, Lwhole2, bm, rr, kt)
abbrev rm_Md_end : Room := { frames := 0, cells := 0, slots := 0, locals := 0 }
set_option maxHeartbeats 4000000 in
set_option maxRecDepth 100000 in
theorem c_Md_end (l : Launch) (D : va_G) (cI : ClassId) (cB : ClassId) (qd : Nat) (qmemory : Nat) (qr : Nat) (qcounts : Nat) (ms : Int32) (dd : Nat → Int32) (Lwhole : Int64) (Lwhole2 : Int64) (bm : Nat → Int32) (rr : Nat → Int32) (kt : Nat → Int32) (P : Int32 → ((Nat → Int32) × Int64 × Int64 × (Nat → Int32) × (Nat → Int32) × (Nat → Int32)) → Prop) (h : wp_Md_end ms dd Lwhole Lwhole2 bm rr kt P) (sz : Nat) : Met l y_Md_end (zz_ws y_Md_end b_Md_end 1 (some .int)) rm_Md_end (va_Pc [.ref qd] (zz_pw D [(cI, .int), (cB, .byte)] (wD qd qmemory qr qcounts cI cB ms dd Lwhole Lwhole2 bm rr kt) sz)) (va_Qi P (zz_qw D (fun u => wD qd qmemory qr qcounts cI cB ms u.1 u.2.1 u.2.2.1 u.2.2.2.1 u.2.2.2.2.1 u.2.2.2.2.2) (va_A (wD qd qmemory qr qcounts cI cB ms dd Lwhole Lwhole2 bm rr kt) sz)) (va_A (wD qd qmemory qr qcounts cI cB ms dd Lwhole Lwhole2 bm rr kt) sz)) 0 0 (va_A (wD qd qmemory qr qcounts cI cB ms dd Lwhole Lwhole2 bm rr kt) sz) := by
  refine Met.ofW (cc := b_Md_end) (maxL := 1) (ret := (some .int)) (by decide) rfl ?_
  intro p e s m args below meth c s₁ B hml hv
  obtain ⟨rfl, hsz, hP, hK, hD0⟩ := hv
  have hx := B.exec
  have hb := B.bytes
  have hr := B.returns
  have hts := atoms_spec (ws := (zz_ws y_Md_end b_Md_end 1 (some .int))) B.pre
  have hown : s.vm.findClass R_Md = some m.cls := findClass_of_methodNamed B.named
  have hlocks := B.notSynchronized
  have hT := zz_hts hts
  have X : CallFix p m c b_Md_end 1 s ([.ref qd] : List Value).toArray (zz_ws y_Md_end b_Md_end 1 (some .int)) R_Md := ⟨hx, hb, hml, hown, hts⟩
  have hf0 : 0 + 0 ≤ (headSpec (zz_ws y_Md_end b_Md_end 1 (some .int)) rm_Md_end).room.cells ∧ 0 + 0 ≤ (headSpec (zz_ws y_Md_end b_Md_end 1 (some .int)) rm_Md_end).room.slots := ⟨Nat.le_of_ble_eq_true rfl, Nat.le_of_ble_eq_true rfl⟩
  subst hsz
  have hD := hD0.self (sz := s.heap.size)
  generalize hAe : va_A (wD qd qmemory qr qcounts cI cB ms dd Lwhole Lwhole2 bm rr kt) s.heap.size = A at hD ⊢
  have hA : ∀ q : Nat, s.heap.size ≤ q → A q := fun q h => by rw [← hAe]; exact Or.inr h
  have hS : va_S A s.heap s.heap [] := va_S.rf
  have hl := lv_entry ([.ref qd]) (n := 1) (Nat.le_of_ble_eq_true rfl)
  rw [lg_entry_eq]
  generalize (lg_sl ([.ref qd]) ++ List.replicate (1 - (lg_sl ([.ref qd])).length) Slot.unset).toArray = ls at hl ⊢
  have hl : lv_has ls 1 [(0, .ref qd)] := hl
  refine lv_aload_n hx hb d_Md_end_0 rfl (lv_at hl 0 rfl) ?_
  refine lv_iconst (v := 0) hx hb d_Md_end_1 (by decide) ?_
  refine p_Md_35 hx hb hT hown hK hP hD hS 0 rfl rfl d_Md_end_2 (fun H locs (hP : va_P D vwCl (wD qd qmemory qr qcounts cI cB ms (upd dd 0 (0 : Int32)) Lwhole Lwhole2 bm rr kt) H) (hD : va_D A (wD qd qmemory qr qcounts cI cB ms (upd dd 0 (0 : Int32)) Lwhole Lwhole2 bm rr kt)) hS => ?_)
  refine lv_aload_n hx hb d_Md_end_5 rfl (lv_at hl 0 rfl) ?_
  refine g_Md_63 (v := .int (dd 5)) hx hb hT hown hK hP 0 rfl rfl d_Md_end_6 ?_
  exact W.iret (v := (dd 5)) hx hb hr (fun t ht hW => ⟨⟨(dd 5), ((upd dd 0 (0 : Int32)), Lwhole, Lwhole2, bm, rr, kt), rfl, h, by rw [ht]; exact hP, hD⟩, hS.F ht⟩) hS.2.2 d_Md_end_9
def wp_Md_pass (ms : Int32) (dd : Nat → Int32) (Lwhole : Int64) (Lwhole2 : Int64) (bm : Nat → Int32) (rr : Nat → Int32) (kt : Nat → Int32) (P : Int32 → ((Nat → Int32) × Int64 × Int64 × (Nat → Int32) × (Nat → Int32) × (Nat → Int32)) → Prop) : Prop := (((dd 5) = (6 : Int32) → wp_Md_part ms (upd dd 0 (0 : Int32)) Lwhole Lwhole2 bm rr kt (dd 3) (4 : Int32) (fun r_2 => ∀ x_3 : Int32, x_3 = ((zz_ushr r_2 (6 : Int32)) &&& (1048575 : Int32)) → wp_Md_moveOn ms (upd (upd (upd (upd (upd dd 0 (0 : Int32)) 5 (0 : Int32)) 11 (0 : Int32)) 12 (0 : Int32)) 13 (0 : Int32)) Lwhole Lwhole2 bm rr kt (fun u_4 => P x_3 (u_4.1, u_4.2.1, u_4.2.2.1, u_4.2.2.2.1, u_4.2.2.2.2.1, u_4.2.2.2.2.2)))) ∧ (¬ (dd 5) = (6 : Int32) → (((dd 5) = (7 : Int32) → wp_Md_part ms (upd dd 0 (0 : Int32)) Lwhole Lwhole2 bm rr kt (dd 3) (4 : Int32) (fun r_7 => ∀ x_8 : Int32, x_8 = ((zz_ushr r_7 (6 : Int32)) &&& (1048575 : Int32)) → wp_Md_moveOn ms (upd (upd (upd (upd (upd dd 0 (0 : Int32)) 5 (0 : Int32)) 11 (0 : Int32)) 12 (0 : Int32)) 13 (0 : Int32)) Lwhole Lwhole2 bm rr kt (fun u_9 => P x_8 (u_9.1, u_9.2.1, u_9.2.2.1, u_9.2.2.2.1, u_9.2.2.2.2.1, u_9.2.2.2.2.2)))) ∧ (¬ (dd 5) = (7 : Int32) → wp_Md_fail ms (upd dd 0 (0 : Int32)) Lwhole Lwhole2 bm rr kt (1 : Int32) (fun r_12 u_11 => P r_12 (u_11.1, u_11.2.1, u_11.2.2.1, u_11.2.2.2.1, u_11.2.2.2.2.1, u_11.2.2.2.2.2))))))
abbrev rm_Md_pass : Room := { frames := 1, cells := 0, slots := 0, locals := 24 }
set_option maxHeartbeats 4000000 in
set_option maxRecDepth 100000 in
theorem c_Md_pass (l : Launch) (D : va_G) (cI : ClassId) (cB : ClassId) (qd : Nat) (qmemory : Nat) (qr : Nat) (qcounts : Nat) (ms : Int32) (dd : Nat → Int32) (Lwhole : Int64) (Lwhole2 : Int64) (bm : Nat → Int32) (rr : Nat → Int32) (kt : Nat → Int32) (P : Int32 → ((Nat → Int32) × Int64 × Int64 × (Nat → Int32) × (Nat → Int32) × (Nat → Int32)) → Prop) (h : wp_Md_pass ms dd Lwhole Lwhole2 bm rr kt P) (sz : Nat) : Met l y_Md_pass (zz_ws y_Md_pass b_Md_pass 2 (some .int)) rm_Md_pass (va_Pc [.ref qd] (zz_pw D [(cI, .int), (cB, .byte)] (wD qd qmemory qr qcounts cI cB ms dd Lwhole Lwhole2 bm rr kt) sz)) (va_Qi P (zz_qw D (fun u => wD qd qmemory qr qcounts cI cB ms u.1 u.2.1 u.2.2.1 u.2.2.2.1 u.2.2.2.2.1 u.2.2.2.2.2) (va_A (wD qd qmemory qr qcounts cI cB ms dd Lwhole Lwhole2 bm rr kt) sz)) (va_A (wD qd qmemory qr qcounts cI cB ms dd Lwhole Lwhole2 bm rr kt) sz)) 0 0 (va_A (wD qd qmemory qr qcounts cI cB ms dd Lwhole Lwhole2 bm rr kt) sz) := by
  refine Met.ofW (cc := b_Md_pass) (maxL := 2) (ret := (some .int)) (by decide) rfl ?_
  intro p e s m args below meth c s₁ B hml hv
  obtain ⟨rfl, hsz, hP, hK, hD0⟩ := hv
  have hx := B.exec
  have hb := B.bytes
  have hr := B.returns
  have hts := atoms_spec (ws := (zz_ws y_Md_pass b_Md_pass 2 (some .int))) B.pre
  have hown : s.vm.findClass R_Md = some m.cls := findClass_of_methodNamed B.named
  have hlocks := B.notSynchronized
  have hT := zz_hts hts
  have X : CallFix p m c b_Md_pass 2 s ([.ref qd] : List Value).toArray (zz_ws y_Md_pass b_Md_pass 2 (some .int)) R_Md := ⟨hx, hb, hml, hown, hts⟩
  have hf0 : 0 + 0 ≤ (headSpec (zz_ws y_Md_pass b_Md_pass 2 (some .int)) rm_Md_pass).room.cells ∧ 0 + 0 ≤ (headSpec (zz_ws y_Md_pass b_Md_pass 2 (some .int)) rm_Md_pass).room.slots := ⟨Nat.le_of_ble_eq_true rfl, Nat.le_of_ble_eq_true rfl⟩
  subst hsz
  have hD := hD0.self (sz := s.heap.size)
  generalize hAe : va_A (wD qd qmemory qr qcounts cI cB ms dd Lwhole Lwhole2 bm rr kt) s.heap.size = A at hD ⊢
  have hA : ∀ q : Nat, s.heap.size ≤ q → A q := fun q h => by rw [← hAe]; exact Or.inr h
  have hS : va_S A s.heap s.heap [] := va_S.rf
  have hl := lv_entry ([.ref qd]) (n := 2) (Nat.le_of_ble_eq_true rfl)
  rw [lg_entry_eq]
  generalize (lg_sl ([.ref qd]) ++ List.replicate (2 - (lg_sl ([.ref qd])).length) Slot.unset).toArray = ls at hl ⊢
  have hl : lv_has ls 2 [(0, .ref qd)] := hl
  refine lv_aload_n hx hb d_Md_pass_0 rfl (lv_at hl 0 rfl) ?_
  refine lv_iconst (v := 0) hx hb d_Md_pass_1 (by decide) ?_
  refine p_Md_35 hx hb hT hown hK hP hD hS 0 rfl rfl d_Md_pass_2 (fun H locs (hP : va_P D vwCl (wD qd qmemory qr qcounts cI cB ms (upd dd 0 (0 : Int32)) Lwhole Lwhole2 bm rr kt) H) (hD : va_D A (wD qd qmemory qr qcounts cI cB ms (upd dd 0 (0 : Int32)) Lwhole Lwhole2 bm rr kt)) hS => ?_)
  refine lv_aload_n hx hb d_Md_pass_5 rfl (lv_at hl 0 rfl) ?_
  refine g_Md_63 (v := .int (dd 5)) hx hb hT hown hK hP 0 rfl rfl d_Md_pass_6 ?_
  refine lv_bipush (v := 6) hx hb d_Md_pass_9 (by decide) ?_
  refine lv_icmp_eq (tgt := 29) hx hb d_Md_pass_11 (by decide) (fun c_1 => ?_) (fun c_1 => ?_)
  · skip
    have h := h.1 c_1
    refine lv_aload_n hx hb d_Md_pass_29 rfl (lv_at hl 0 rfl) ?_
    refine lv_aload_n hx hb d_Md_pass_30 rfl (lv_at hl 0 rfl) ?_
    refine g_Md_54 (v := .int (dd 3)) hx hb hT hown hK hP 0 rfl rfl d_Md_pass_31 ?_
    refine lv_iconst (v := 4) hx hb d_Md_pass_34 (by decide) ?_
    refine zz_Ri (As := [.int (dd 3), .int (4 : Int32)]) (rest := []) (wc := wD qd qmemory qr qcounts cI cB ms (upd dd 0 (0 : Int32)) Lwhole Lwhole2 bm rr kt) X hK hP (c_Md_part l D cI cB qd qmemory qr qcounts ms (upd dd 0 (0 : Int32)) Lwhole Lwhole2 bm rr kt (dd 3) (4 : Int32) _ h) ⟨rfl, rfl⟩ m_Md_part k_Md_46 ⟨Nat.le_of_ble_eq_true rfl, Nat.le_of_ble_eq_true rfl⟩ [0, 1, 2, 3] rfl 6 0 rfl rfl rfl rfl hl.1 rfl (Nat.le_of_ble_eq_true rfl) d_Md_pass_35 hf0 (fun r_2 h => ?_)
    refine lv_bipush (v := 6) hx hb d_Md_pass_38 (by decide) ?_
    refine zz_iushr hx hb d_Md_pass_40 ?_
    refine lv_ldc (v := 1048575) hx hb hown (hT _ n_Md_69) d_Md_pass_41 ?_
    refine lv_iand hx hb d_Md_pass_43 ?_
    refine lv_topi (fun x_3 ex_3 => ?_)
    have h := h x_3 ex_3
    refine lv_istore_n (lv' := [(1, .int x_3), (0, .ref qd)]) hx hb d_Md_pass_44 rfl hl (by decide) rfl (fun ls hl => ?_)
    refine lv_aload_n hx hb d_Md_pass_45 rfl (lv_at hl 1 rfl) ?_
    refine lv_iconst (v := 0) hx hb d_Md_pass_46 (by decide) ?_
    refine p_Md_63 hx hb hT hown hK hP hD hS 0 rfl rfl d_Md_pass_47 (fun H locs (hP : va_P D vwCl (wD qd qmemory qr qcounts cI cB ms (upd (upd dd 0 (0 : Int32)) 5 (0 : Int32)) Lwhole Lwhole2 bm rr kt) H) (hD : va_D A (wD qd qmemory qr qcounts cI cB ms (upd (upd dd 0 (0 : Int32)) 5 (0 : Int32)) Lwhole Lwhole2 bm rr kt)) hS => ?_)
    refine lv_aload_n hx hb d_Md_pass_50 rfl (lv_at hl 1 rfl) ?_
    refine lv_iconst (v := 0) hx hb d_Md_pass_51 (by decide) ?_
    refine p_Md_70 hx hb hT hown hK hP hD hS 0 rfl rfl (Or.inl rfl) d_Md_pass_52 (fun H locs (hP : va_P D vwCl (wD qd qmemory qr qcounts cI cB ms (upd (upd (upd dd 0 (0 : Int32)) 5 (0 : Int32)) 11 (0 : Int32)) Lwhole Lwhole2 bm rr kt) H) (hD : va_D A (wD qd qmemory qr qcounts cI cB ms (upd (upd (upd dd 0 (0 : Int32)) 5 (0 : Int32)) 11 (0 : Int32)) Lwhole Lwhole2 bm rr kt)) hS => ?_)
    refine lv_aload_n hx hb d_Md_pass_55 rfl (lv_at hl 1 rfl) ?_
    refine lv_iconst (v := 0) hx hb d_Md_pass_56 (by decide) ?_
    refine p_Md_73 hx hb hT hown hK hP hD hS 0 rfl rfl (Or.inl rfl) d_Md_pass_57 (fun H locs (hP : va_P D vwCl (wD qd qmemory qr qcounts cI cB ms (upd (upd (upd (upd dd 0 (0 : Int32)) 5 (0 : Int32)) 11 (0 : Int32)) 12 (0 : Int32)) Lwhole Lwhole2 bm rr kt) H) (hD : va_D A (wD qd qmemory qr qcounts cI cB ms (upd (upd (upd (upd dd 0 (0 : Int32)) 5 (0 : Int32)) 11 (0 : Int32)) 12 (0 : Int32)) Lwhole Lwhole2 bm rr kt)) hS => ?_)
    refine lv_aload_n hx hb d_Md_pass_60 rfl (lv_at hl 1 rfl) ?_
    refine lv_iconst (v := 0) hx hb d_Md_pass_61 (by decide) ?_
    refine p_Md_76 hx hb hT hown hK hP hD hS 0 rfl rfl (Or.inl rfl) d_Md_pass_62 (fun H locs (hP : va_P D vwCl (wD qd qmemory qr qcounts cI cB ms (upd (upd (upd (upd (upd dd 0 (0 : Int32)) 5 (0 : Int32)) 11 (0 : Int32)) 12 (0 : Int32)) 13 (0 : Int32)) Lwhole Lwhole2 bm rr kt) H) (hD : va_D A (wD qd qmemory qr qcounts cI cB ms (upd (upd (upd (upd (upd dd 0 (0 : Int32)) 5 (0 : Int32)) 11 (0 : Int32)) 12 (0 : Int32)) 13 (0 : Int32)) Lwhole Lwhole2 bm rr kt)) hS => ?_)
    refine lv_aload_n hx hb d_Md_pass_65 rfl (lv_at hl 1 rfl) ?_
    refine zz_Wv (As := []) (rest := []) (wc := wD qd qmemory qr qcounts cI cB ms (upd (upd (upd (upd (upd dd 0 (0 : Int32)) 5 (0 : Int32)) 11 (0 : Int32)) 12 (0 : Int32)) 13 (0 : Int32)) Lwhole Lwhole2 bm rr kt) (wr := []) X hK hP hD hS hA (c_Md_moveOn l D cI cB qd qmemory qr qcounts ms (upd (upd (upd (upd (upd dd 0 (0 : Int32)) 5 (0 : Int32)) 11 (0 : Int32)) 12 (0 : Int32)) 13 (0 : Int32)) Lwhole Lwhole2 bm rr kt _ h _) ⟨rfl, rfl⟩ m_Md_moveOn k_Md_79 ⟨Nat.le_of_ble_eq_true rfl, Nat.le_of_ble_eq_true rfl⟩ [0, 1, 2, 3] [] rfl rfl (by decide) (by decide) (by decide) 6 0 rfl rfl rfl rfl hl.1 rfl (Nat.le_of_ble_eq_true rfl) d_Md_pass_66 hf0 (fun u_4 H locs h hP hD hS => ?_)
    have hP : va_P D vwCl (wD qd qmemory qr qcounts cI cB ms u_4.1 u_4.2.1 u_4.2.2.1 u_4.2.2.2.1 u_4.2.2.2.2.1 u_4.2.2.2.2.2) H := hP.sub [0, 1, 2, 3] rfl
    have hD : va_D A (wD qd qmemory qr qcounts cI cB ms u_4.1 u_4.2.1 u_4.2.2.1 u_4.2.2.2.1 u_4.2.2.2.2.1 u_4.2.2.2.2.2) := hD.sub [0, 1, 2, 3] (by decide) rfl
    refine lv_iload_n hx hb d_Md_pass_69 rfl (lv_at hl 0 rfl) ?_
    exact W.iret (v := x_3) hx hb hr (fun t ht hW => ⟨⟨x_3, (u_4.1, u_4.2.1, u_4.2.2.1, u_4.2.2.2.1, u_4.2.2.2.2.1, u_4.2.2.2.2.2), rfl, h, by rw [ht]; exact hP, hD⟩, hS.F ht⟩) hS.2.2 d_Md_pass_70
  · skip
    have h := h.2 c_1
    refine lv_aload_n hx hb d_Md_pass_14 rfl (lv_at hl 0 rfl) ?_
    refine g_Md_63 (v := .int (dd 5)) hx hb hT hown hK hP 0 rfl rfl d_Md_pass_15 ?_
    refine lv_bipush (v := 7) hx hb d_Md_pass_18 (by decide) ?_
    refine lv_icmp_eq (tgt := 29) hx hb d_Md_pass_20 (by decide) (fun c_6 => ?_) (fun c_6 => ?_)
    · skip
      have h := h.1 c_6
      refine lv_aload_n hx hb d_Md_pass_29 rfl (lv_at hl 0 rfl) ?_
      refine lv_aload_n hx hb d_Md_pass_30 rfl (lv_at hl 0 rfl) ?_
      refine g_Md_54 (v := .int (dd 3)) hx hb hT hown hK hP 0 rfl rfl d_Md_pass_31 ?_
      refine lv_iconst (v := 4) hx hb d_Md_pass_34 (by decide) ?_
      refine zz_Ri (As := [.int (dd 3), .int (4 : Int32)]) (rest := []) (wc := wD qd qmemory qr qcounts cI cB ms (upd dd 0 (0 : Int32)) Lwhole Lwhole2 bm rr kt) X hK hP (c_Md_part l D cI cB qd qmemory qr qcounts ms (upd dd 0 (0 : Int32)) Lwhole Lwhole2 bm rr kt (dd 3) (4 : Int32) _ h) ⟨rfl, rfl⟩ m_Md_part k_Md_46 ⟨Nat.le_of_ble_eq_true rfl, Nat.le_of_ble_eq_true rfl⟩ [0, 1, 2, 3] rfl 6 0 rfl rfl rfl rfl hl.1 rfl (Nat.le_of_ble_eq_true rfl) d_Md_pass_35 hf0 (fun r_7 h => ?_)
      refine lv_bipush (v := 6) hx hb d_Md_pass_38 (by decide) ?_
      refine zz_iushr hx hb d_Md_pass_40 ?_
      refine lv_ldc (v := 1048575) hx hb hown (hT _ n_Md_69) d_Md_pass_41 ?_
      refine lv_iand hx hb d_Md_pass_43 ?_
      refine lv_topi (fun x_8 ex_8 => ?_)
      have h := h x_8 ex_8
      refine lv_istore_n (lv' := [(1, .int x_8), (0, .ref qd)]) hx hb d_Md_pass_44 rfl hl (by decide) rfl (fun ls hl => ?_)
      refine lv_aload_n hx hb d_Md_pass_45 rfl (lv_at hl 1 rfl) ?_
      refine lv_iconst (v := 0) hx hb d_Md_pass_46 (by decide) ?_
      refine p_Md_63 hx hb hT hown hK hP hD hS 0 rfl rfl d_Md_pass_47 (fun H locs (hP : va_P D vwCl (wD qd qmemory qr qcounts cI cB ms (upd (upd dd 0 (0 : Int32)) 5 (0 : Int32)) Lwhole Lwhole2 bm rr kt) H) (hD : va_D A (wD qd qmemory qr qcounts cI cB ms (upd (upd dd 0 (0 : Int32)) 5 (0 : Int32)) Lwhole Lwhole2 bm rr kt)) hS => ?_)
      refine lv_aload_n hx hb d_Md_pass_50 rfl (lv_at hl 1 rfl) ?_
      refine lv_iconst (v := 0) hx hb d_Md_pass_51 (by decide) ?_
      refine p_Md_70 hx hb hT hown hK hP hD hS 0 rfl rfl (Or.inl rfl) d_Md_pass_52 (fun H locs (hP : va_P D vwCl (wD qd qmemory qr qcounts cI cB ms (upd (upd (upd dd 0 (0 : Int32)) 5 (0 : Int32)) 11 (0 : Int32)) Lwhole Lwhole2 bm rr kt) H) (hD : va_D A (wD qd qmemory qr qcounts cI cB ms (upd (upd (upd dd 0 (0 : Int32)) 5 (0 : Int32)) 11 (0 : Int32)) Lwhole Lwhole2 bm rr kt)) hS => ?_)
      refine lv_aload_n hx hb d_Md_pass_55 rfl (lv_at hl 1 rfl) ?_
      refine lv_iconst (v := 0) hx hb d_Md_pass_56 (by decide) ?_
      refine p_Md_73 hx hb hT hown hK hP hD hS 0 rfl rfl (Or.inl rfl) d_Md_pass_57 (fun H locs (hP : va_P D vwCl (wD qd qmemory qr qcounts cI cB ms (upd (upd (upd (upd dd 0 (0 : Int32)) 5 (0 : Int32)) 11 (0 : Int32)) 12 (0 : Int32)) Lwhole Lwhole2 bm rr kt) H) (hD : va_D A (wD qd qmemory qr qcounts cI cB ms (upd (upd (upd (upd dd 0 (0 : Int32)) 5 (0 : Int32)) 11 (0 : Int32)) 12 (0 : Int32)) Lwhole Lwhole2 bm rr kt)) hS => ?_)
      refine lv_aload_n hx hb d_Md_pass_60 rfl (lv_at hl 1 rfl) ?_
      refine lv_iconst (v := 0) hx hb d_Md_pass_61 (by decide) ?_
      refine p_Md_76 hx hb hT hown hK hP hD hS 0 rfl rfl (Or.inl rfl) d_Md_pass_62 (fun H locs (hP : va_P D vwCl (wD qd qmemory qr qcounts cI cB ms (upd (upd (upd (upd (upd dd 0 (0 : Int32)) 5 (0 : Int32)) 11 (0 : Int32)) 12 (0 : Int32)) 13 (0 : Int32)) Lwhole Lwhole2 bm rr kt) H) (hD : va_D A (wD qd qmemory qr qcounts cI cB ms (upd (upd (upd (upd (upd dd 0 (0 : Int32)) 5 (0 : Int32)) 11 (0 : Int32)) 12 (0 : Int32)) 13 (0 : Int32)) Lwhole Lwhole2 bm rr kt)) hS => ?_)
      refine lv_aload_n hx hb d_Md_pass_65 rfl (lv_at hl 1 rfl) ?_
      refine zz_Wv (As := []) (rest := []) (wc := wD qd qmemory qr qcounts cI cB ms (upd (upd (upd (upd (upd dd 0 (0 : Int32)) 5 (0 : Int32)) 11 (0 : Int32)) 12 (0 : Int32)) 13 (0 : Int32)) Lwhole Lwhole2 bm rr kt) (wr := []) X hK hP hD hS hA (c_Md_moveOn l D cI cB qd qmemory qr qcounts ms (upd (upd (upd (upd (upd dd 0 (0 : Int32)) 5 (0 : Int32)) 11 (0 : Int32)) 12 (0 : Int32)) 13 (0 : Int32)) Lwhole Lwhole2 bm rr kt _ h _) ⟨rfl, rfl⟩ m_Md_moveOn k_Md_79 ⟨Nat.le_of_ble_eq_true rfl, Nat.le_of_ble_eq_true rfl⟩ [0, 1, 2, 3] [] rfl rfl (by decide) (by decide) (by decide) 6 0 rfl rfl rfl rfl hl.1 rfl (Nat.le_of_ble_eq_true rfl) d_Md_pass_66 hf0 (fun u_9 H locs h hP hD hS => ?_)
      have hP : va_P D vwCl (wD qd qmemory qr qcounts cI cB ms u_9.1 u_9.2.1 u_9.2.2.1 u_9.2.2.2.1 u_9.2.2.2.2.1 u_9.2.2.2.2.2) H := hP.sub [0, 1, 2, 3] rfl
      have hD : va_D A (wD qd qmemory qr qcounts cI cB ms u_9.1 u_9.2.1 u_9.2.2.1 u_9.2.2.2.1 u_9.2.2.2.2.1 u_9.2.2.2.2.2) := hD.sub [0, 1, 2, 3] (by decide) rfl
      refine lv_iload_n hx hb d_Md_pass_69 rfl (lv_at hl 0 rfl) ?_
      exact W.iret (v := x_8) hx hb hr (fun t ht hW => ⟨⟨x_8, (u_9.1, u_9.2.1, u_9.2.2.1, u_9.2.2.2.1, u_9.2.2.2.2.1, u_9.2.2.2.2.2), rfl, h, by rw [ht]; exact hP, hD⟩, hS.F ht⟩) hS.2.2 d_Md_pass_70
    · skip
      have h := h.2 c_6
      refine lv_aload_n hx hb d_Md_pass_23 rfl (lv_at hl 0 rfl) ?_
      refine lv_iconst (v := 1) hx hb d_Md_pass_24 (by decide) ?_
      refine zz_Wi (As := [.int (1 : Int32)]) (rest := []) (wc := wD qd qmemory qr qcounts cI cB ms (upd dd 0 (0 : Int32)) Lwhole Lwhole2 bm rr kt) (wr := []) X hK hP hD hS hA (c_Md_fail l D cI cB qd qmemory qr qcounts ms (upd dd 0 (0 : Int32)) Lwhole Lwhole2 bm rr kt (1 : Int32) _ h _) ⟨rfl, rfl⟩ m_Md_fail k_Md_42 ⟨Nat.le_of_ble_eq_true rfl, Nat.le_of_ble_eq_true rfl⟩ [0, 1, 2, 3] [] rfl rfl (by decide) (by decide) (by decide) 6 0 rfl rfl rfl rfl hl.1 rfl (Nat.le_of_ble_eq_true rfl) d_Md_pass_25 hf0 (fun r_12 u_11 H locs h hP hD hS => ?_)
      have hP : va_P D vwCl (wD qd qmemory qr qcounts cI cB ms u_11.1 u_11.2.1 u_11.2.2.1 u_11.2.2.2.1 u_11.2.2.2.2.1 u_11.2.2.2.2.2) H := hP.sub [0, 1, 2, 3] rfl
      have hD : va_D A (wD qd qmemory qr qcounts cI cB ms u_11.1 u_11.2.1 u_11.2.2.1 u_11.2.2.2.1 u_11.2.2.2.2.1 u_11.2.2.2.2.2) := hD.sub [0, 1, 2, 3] (by decide) rfl
      exact W.iret (v := r_12) hx hb hr (fun t ht hW => ⟨⟨r_12, (u_11.1, u_11.2.1, u_11.2.2.1, u_11.2.2.2.1, u_11.2.2.2.2.1, u_11.2.2.2.2.2), rfl, h, by rw [ht]; exact hP, hD⟩, hS.F ht⟩) hS.2.2 d_Md_pass_28
def wp_Md_state (ms : Int32) (dd : Nat → Int32) (Lwhole : Int64) (Lwhole2 : Int64) (bm : Nat → Int32) (rr : Nat → Int32) (kt : Nat → Int32) (a0 : Int32) (P : Int32 → ((Nat → Int32) × Int64 × Int64 × (Nat → Int32) × (Nat → Int32) × (Nat → Int32)) → Prop) : Prop := ((a0 < (0 : Int32) → wp_Md_fail ms (upd dd 0 (0 : Int32)) Lwhole Lwhole2 bm rr kt (1 : Int32) (fun r_3 u_2 => P r_3 (u_2.1, u_2.2.1, u_2.2.2.1, u_2.2.2.2.1, u_2.2.2.2.2.1, u_2.2.2.2.2.2))) ∧ (¬ a0 < (0 : Int32) → ((a0 ≤ (7 : Int32) → ((a0 = (0 : Int32) → P (dd 3) ((upd dd 0 (0 : Int32)), Lwhole, Lwhole2, bm, rr, kt)) ∧ (¬ a0 = (0 : Int32) → ((a0 = (1 : Int32) → P (dd 4) ((upd dd 0 (0 : Int32)), Lwhole, Lwhole2, bm, rr, kt)) ∧ (¬ a0 = (1 : Int32) → ((a0 = (2 : Int32) → (((dd 6) = (0 : Int32) → P (0 : Int32) ((upd dd 0 (0 : Int32)), Lwhole, Lwhole2, bm, rr, kt)) ∧ (¬ (dd 6) = (0 : Int32) → P (1 : Int32) ((upd dd 0 (0 : Int32)), Lwhole, Lwhole2, bm, rr, kt)))) ∧ (¬ a0 = (2 : Int32) → vp_in (a0 - (3 : Int32)) 5 ∧ ∀ x_8 : Int32, x_8 = (kt (a0 - (3 : Int32)).toNatClampNeg) → P x_8 ((upd dd 0 (0 : Int32)), Lwhole, Lwhole2, bm, rr, kt)))))))) ∧ (¬ a0 ≤ (7 : Int32) → wp_Md_fail ms (upd dd 0 (0 : Int32)) Lwhole Lwhole2 bm rr kt (1 : Int32) (fun r_11 u_10 => P r_11 (u_10.1, u_10.2.1, u_10.2.2.1, u_10.2.2.2.1, u_10.2.2.2.2.1, u_10.2.2.2.2.2))))))
abbrev rm_Md_state : Room := { frames := 1, cells := 0, slots := 0, locals := 21 }
set_option maxHeartbeats 4000000 in
set_option maxRecDepth 100000 in
theorem c_Md_state (l : Launch) (D : va_G) (cI : ClassId) (cB : ClassId) (qd : Nat) (qmemory : Nat) (qr : Nat) (qcounts : Nat) (ms : Int32) (dd : Nat → Int32) (Lwhole : Int64) (Lwhole2 : Int64) (bm : Nat → Int32) (rr : Nat → Int32) (kt : Nat → Int32) (a0 : Int32) (P : Int32 → ((Nat → Int32) × Int64 × Int64 × (Nat → Int32) × (Nat → Int32) × (Nat → Int32)) → Prop) (h : wp_Md_state ms dd Lwhole Lwhole2 bm rr kt a0 P) (sz : Nat) : Met l y_Md_state (zz_ws y_Md_state b_Md_state 2 (some .int)) rm_Md_state (va_Pc [.ref qd, .int a0] (zz_pw D [(cI, .int), (cB, .byte)] (wD qd qmemory qr qcounts cI cB ms dd Lwhole Lwhole2 bm rr kt) sz)) (va_Qi P (zz_qw D (fun u => wD qd qmemory qr qcounts cI cB ms u.1 u.2.1 u.2.2.1 u.2.2.2.1 u.2.2.2.2.1 u.2.2.2.2.2) (va_A (wD qd qmemory qr qcounts cI cB ms dd Lwhole Lwhole2 bm rr kt) sz)) (va_A (wD qd qmemory qr qcounts cI cB ms dd Lwhole Lwhole2 bm rr kt) sz)) 0 0 (va_A (wD qd qmemory qr qcounts cI cB ms dd Lwhole Lwhole2 bm rr kt) sz) := by
  refine Met.ofW (cc := b_Md_state) (maxL := 2) (ret := (some .int)) (by decide) rfl ?_
  intro p e s m args below meth c s₁ B hml hv
  obtain ⟨rfl, hsz, hP, hK, hD0⟩ := hv
  have hx := B.exec
  have hb := B.bytes
  have hr := B.returns
  have hts := atoms_spec (ws := (zz_ws y_Md_state b_Md_state 2 (some .int))) B.pre
  have hown : s.vm.findClass R_Md = some m.cls := findClass_of_methodNamed B.named
  have hlocks := B.notSynchronized
  have hT := zz_hts hts
  have X : CallFix p m c b_Md_state 2 s ([.ref qd, .int a0] : List Value).toArray (zz_ws y_Md_state b_Md_state 2 (some .int)) R_Md := ⟨hx, hb, hml, hown, hts⟩
  have hf0 : 0 + 0 ≤ (headSpec (zz_ws y_Md_state b_Md_state 2 (some .int)) rm_Md_state).room.cells ∧ 0 + 0 ≤ (headSpec (zz_ws y_Md_state b_Md_state 2 (some .int)) rm_Md_state).room.slots := ⟨Nat.le_of_ble_eq_true rfl, Nat.le_of_ble_eq_true rfl⟩
  subst hsz
  have hD := hD0.self (sz := s.heap.size)
  generalize hAe : va_A (wD qd qmemory qr qcounts cI cB ms dd Lwhole Lwhole2 bm rr kt) s.heap.size = A at hD ⊢
  have hA : ∀ q : Nat, s.heap.size ≤ q → A q := fun q h => by rw [← hAe]; exact Or.inr h
  have hS : va_S A s.heap s.heap [] := va_S.rf
  have hl := lv_entry ([.ref qd, .int a0]) (n := 2) (Nat.le_of_ble_eq_true rfl)
  rw [lg_entry_eq]
  generalize (lg_sl ([.ref qd, .int a0]) ++ List.replicate (2 - (lg_sl ([.ref qd, .int a0])).length) Slot.unset).toArray = ls at hl ⊢
  have hl : lv_has ls 2 [(0, .ref qd), (1, .int a0)] := hl
  refine lv_aload_n hx hb d_Md_state_0 rfl (lv_at hl 0 rfl) ?_
  refine lv_iconst (v := 0) hx hb d_Md_state_1 (by decide) ?_
  refine p_Md_35 hx hb hT hown hK hP hD hS 0 rfl rfl d_Md_state_2 (fun H locs (hP : va_P D vwCl (wD qd qmemory qr qcounts cI cB ms (upd dd 0 (0 : Int32)) Lwhole Lwhole2 bm rr kt) H) (hD : va_D A (wD qd qmemory qr qcounts cI cB ms (upd dd 0 (0 : Int32)) Lwhole Lwhole2 bm rr kt)) hS => ?_)
  refine lv_iload_n hx hb d_Md_state_5 rfl (lv_at hl 1 rfl) ?_
  refine lv_if_lt (tgt := 15) hx hb d_Md_state_6 (by decide) (fun c_1 => ?_) (fun c_1 => ?_)
  · skip
    have h := h.1 c_1
    refine lv_aload_n hx hb d_Md_state_15 rfl (lv_at hl 0 rfl) ?_
    refine lv_iconst (v := 1) hx hb d_Md_state_16 (by decide) ?_
    refine zz_Wi (As := [.int (1 : Int32)]) (rest := []) (wc := wD qd qmemory qr qcounts cI cB ms (upd dd 0 (0 : Int32)) Lwhole Lwhole2 bm rr kt) (wr := []) X hK hP hD hS hA (c_Md_fail l D cI cB qd qmemory qr qcounts ms (upd dd 0 (0 : Int32)) Lwhole Lwhole2 bm rr kt (1 : Int32) _ h _) ⟨rfl, rfl⟩ m_Md_fail k_Md_42 ⟨Nat.le_of_ble_eq_true rfl, Nat.le_of_ble_eq_true rfl⟩ [0, 1, 2, 3] [] rfl rfl (by decide) (by decide) (by decide) 6 0 rfl rfl rfl rfl hl.1 rfl (Nat.le_of_ble_eq_true rfl) d_Md_state_17 hf0 (fun r_3 u_2 H locs h hP hD hS => ?_)
    have hP : va_P D vwCl (wD qd qmemory qr qcounts cI cB ms u_2.1 u_2.2.1 u_2.2.2.1 u_2.2.2.2.1 u_2.2.2.2.2.1 u_2.2.2.2.2.2) H := hP.sub [0, 1, 2, 3] rfl
    have hD : va_D A (wD qd qmemory qr qcounts cI cB ms u_2.1 u_2.2.1 u_2.2.2.1 u_2.2.2.2.1 u_2.2.2.2.2.1 u_2.2.2.2.2.2) := hD.sub [0, 1, 2, 3] (by decide) rfl
    exact W.iret (v := r_3) hx hb hr (fun t ht hW => ⟨⟨r_3, (u_2.1, u_2.2.1, u_2.2.2.1, u_2.2.2.2.1, u_2.2.2.2.2.1, u_2.2.2.2.2.2), rfl, h, by rw [ht]; exact hP, hD⟩, hS.F ht⟩) hS.2.2 d_Md_state_20
  · skip
    have h := h.2 c_1
    refine lv_iload_n hx hb d_Md_state_9 rfl (lv_at hl 1 rfl) ?_
    refine lv_bipush (v := 7) hx hb d_Md_state_10 (by decide) ?_
    refine lv_icmp_le (tgt := 21) hx hb d_Md_state_12 (by decide) (fun c_4 => ?_) (fun c_4 => ?_)
    · skip
      have h := h.1 c_4
      refine lv_iload_n hx hb d_Md_state_21 rfl (lv_at hl 1 rfl) ?_
      refine lv_if_ne (tgt := 32) hx hb d_Md_state_22 (by decide) (fun c_5 => ?_) (fun c_5 => ?_)
      · skip
        have h := h.2 c_5
        refine lv_iload_n hx hb d_Md_state_32 rfl (lv_at hl 1 rfl) ?_
        refine lv_iconst (v := 1) hx hb d_Md_state_33 (by decide) ?_
        refine lv_icmp_ne (tgt := 44) hx hb d_Md_state_34 (by decide) (fun c_6 => ?_) (fun c_6 => ?_)
        · skip
          have h := h.2 c_6
          refine lv_iload_n hx hb d_Md_state_44 rfl (lv_at hl 1 rfl) ?_
          refine lv_iconst (v := 2) hx hb d_Md_state_45 (by decide) ?_
          refine lv_icmp_ne (tgt := 64) hx hb d_Md_state_46 (by decide) (fun c_7 => ?_) (fun c_7 => ?_)
          · skip
            have h := h.2 c_7
            refine lv_aload_n hx hb d_Md_state_64 rfl (lv_at hl 0 rfl) ?_
            refine g_Md_29 (v := .ref qcounts) hx hb hT hown hK hP 0 rfl rfl d_Md_state_65 ?_
            refine lv_iload_n hx hb d_Md_state_68 rfl (lv_at hl 1 rfl) ?_
            refine lv_iconst (v := 3) hx hb d_Md_state_69 (by decide) ?_
            refine lv_isub hx hb d_Md_state_70 ?_
            refine va_iald (f := kt) hx hb hK hP 3 0 rfl rfl h.1 d_Md_state_71 ?_
            have h := h.2
            refine lv_topi (fun x_8 ex_8 => ?_)
            have h := h x_8 ex_8
            exact W.iret (v := x_8) hx hb hr (fun t ht hW => ⟨⟨x_8, ((upd dd 0 (0 : Int32)), Lwhole, Lwhole2, bm, rr, kt), rfl, h, by rw [ht]; exact hP, hD⟩, hS.F ht⟩) hS.2.2 d_Md_state_72
          · skip
            have h := h.1 c_7
            refine lv_aload_n hx hb d_Md_state_49 rfl (lv_at hl 0 rfl) ?_
            refine g_Md_57 (v := .int (dd 6)) hx hb hT hown hK hP 0 rfl rfl d_Md_state_50 ?_
            refine lv_if_eq (tgt := 60) hx hb d_Md_state_53 (by decide) (fun c_9 => ?_) (fun c_9 => ?_)
            · skip
              have h := h.1 c_9
              refine lv_iconst (v := 0) hx hb d_Md_state_60 (by decide) ?_
              refine lv_goto (tgt := 72) hx hb d_Md_state_61 (by decide) ?_
              exact W.iret (v := (0 : Int32)) hx hb hr (fun t ht hW => ⟨⟨(0 : Int32), ((upd dd 0 (0 : Int32)), Lwhole, Lwhole2, bm, rr, kt), rfl, h, by rw [ht]; exact hP, hD⟩, hS.F ht⟩) hS.2.2 d_Md_state_72
            · skip
              have h := h.2 c_9
              refine lv_iconst (v := 1) hx hb d_Md_state_56 (by decide) ?_
              refine lv_goto (tgt := 72) hx hb d_Md_state_57 (by decide) ?_
              exact W.iret (v := (1 : Int32)) hx hb hr (fun t ht hW => ⟨⟨(1 : Int32), ((upd dd 0 (0 : Int32)), Lwhole, Lwhole2, bm, rr, kt), rfl, h, by rw [ht]; exact hP, hD⟩, hS.F ht⟩) hS.2.2 d_Md_state_72
        · skip
          have h := h.1 c_6
          refine lv_aload_n hx hb d_Md_state_37 rfl (lv_at hl 0 rfl) ?_
          refine g_Md_25 (v := .int (dd 4)) hx hb hT hown hK hP 0 rfl rfl d_Md_state_38 ?_
          refine lv_goto (tgt := 72) hx hb d_Md_state_41 (by decide) ?_
          exact W.iret (v := (dd 4)) hx hb hr (fun t ht hW => ⟨⟨(dd 4), ((upd dd 0 (0 : Int32)), Lwhole, Lwhole2, bm, rr, kt), rfl, h, by rw [ht]; exact hP, hD⟩, hS.F ht⟩) hS.2.2 d_Md_state_72
      · skip
        have h := h.1 c_5
        refine lv_aload_n hx hb d_Md_state_25 rfl (lv_at hl 0 rfl) ?_
        refine g_Md_54 (v := .int (dd 3)) hx hb hT hown hK hP 0 rfl rfl d_Md_state_26 ?_
        refine lv_goto (tgt := 72) hx hb d_Md_state_29 (by decide) ?_
        exact W.iret (v := (dd 3)) hx hb hr (fun t ht hW => ⟨⟨(dd 3), ((upd dd 0 (0 : Int32)), Lwhole, Lwhole2, bm, rr, kt), rfl, h, by rw [ht]; exact hP, hD⟩, hS.F ht⟩) hS.2.2 d_Md_state_72
    · skip
      have h := h.2 c_4
      refine lv_aload_n hx hb d_Md_state_15 rfl (lv_at hl 0 rfl) ?_
      refine lv_iconst (v := 1) hx hb d_Md_state_16 (by decide) ?_
      refine zz_Wi (As := [.int (1 : Int32)]) (rest := []) (wc := wD qd qmemory qr qcounts cI cB ms (upd dd 0 (0 : Int32)) Lwhole Lwhole2 bm rr kt) (wr := []) X hK hP hD hS hA (c_Md_fail l D cI cB qd qmemory qr qcounts ms (upd dd 0 (0 : Int32)) Lwhole Lwhole2 bm rr kt (1 : Int32) _ h _) ⟨rfl, rfl⟩ m_Md_fail k_Md_42 ⟨Nat.le_of_ble_eq_true rfl, Nat.le_of_ble_eq_true rfl⟩ [0, 1, 2, 3] [] rfl rfl (by decide) (by decide) (by decide) 6 0 rfl rfl rfl rfl hl.1 rfl (Nat.le_of_ble_eq_true rfl) d_Md_state_17 hf0 (fun r_11 u_10 H locs h hP hD hS => ?_)
      have hP : va_P D vwCl (wD qd qmemory qr qcounts cI cB ms u_10.1 u_10.2.1 u_10.2.2.1 u_10.2.2.2.1 u_10.2.2.2.2.1 u_10.2.2.2.2.2) H := hP.sub [0, 1, 2, 3] rfl
      have hD : va_D A (wD qd qmemory qr qcounts cI cB ms u_10.1 u_10.2.1 u_10.2.2.1 u_10.2.2.2.1 u_10.2.2.2.2.1 u_10.2.2.2.2.2) := hD.sub [0, 1, 2, 3] (by decide) rfl
      exact W.iret (v := r_11) hx hb hr (fun t ht hW => ⟨⟨r_11, (u_10.1, u_10.2.1, u_10.2.2.1, u_10.2.2.2.1, u_10.2.2.2.2.1, u_10.2.2.2.2.2), rfl, h, by rw [ht]; exact hP, hD⟩, hS.F ht⟩) hS.2.2 d_Md_state_20
