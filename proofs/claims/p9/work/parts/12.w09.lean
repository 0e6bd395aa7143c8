def wp_Pr_perform (ms : Int32) (mn : Nat) (g : Nat → Int32) (rg : Nat → Int32) (hq : Nat → Int32) (mf : Nat → Int32) (cd : Int32) (fg : Nat → Int32) (L : Int32 × Int32 × Int32 × Int64) (O : Int32 × Int32 × Int32 × Int64) (a0 : Int32) (P : Int32 → ((Nat → Int32) × (Nat → Int32) × (Nat → Int32) × (Nat → Int32) × Int32 × (Nat → Int32) × (Int32 × Int32 × Int32 × Int64) × (Int32 × Int32 × Int32 × Int64)) → Prop) : Prop := wp_Pr_opcode a0 (fun r_1 => (((r_1 = (0 : Int32)) → wp_Pr_special ms mn g rg hq mf cd fg L O a0 (fun r_4 u_3 => P r_4 (u_3.1, u_3.2.1, u_3.2.2.1, u_3.2.2.2.1, u_3.2.2.2.2.1, u_3.2.2.2.2.2.1, u_3.2.2.2.2.2.2.1, u_3.2.2.2.2.2.2.2))) ∧ (¬ (r_1 = (0 : Int32)) → (((r_1 = (1 : Int32)) → wp_Pr_regimm ms mn g rg hq mf cd fg L O a0 (fun r_7 u_6 => P r_7 (u_6.1, u_6.2.1, u_6.2.2.1, u_6.2.2.2.1, u_6.2.2.2.2.1, u_6.2.2.2.2.2.1, u_6.2.2.2.2.2.2.1, u_6.2.2.2.2.2.2.2))) ∧ (¬ (r_1 = (1 : Int32)) → (((r_1 = (2 : Int32) ∨ r_1 = (3 : Int32)) → wp_Pr_jump ms mn g rg hq mf cd fg L O a0 (fun r_10 u_9 => P r_10 (u_9.1, u_9.2.1, u_9.2.2.1, u_9.2.2.2.1, u_9.2.2.2.2.1, u_9.2.2.2.2.2.1, u_9.2.2.2.2.2.2.1, u_9.2.2.2.2.2.2.2))) ∧ (¬ (r_1 = (2 : Int32) ∨ r_1 = (3 : Int32)) → (((r_1 = (4 : Int32) ∨ r_1 = (5 : Int32) ∨ r_1 = (6 : Int32) ∨ r_1 = (7 : Int32) ∨ r_1 = (20 : Int32) ∨ r_1 = (21 : Int32) ∨ r_1 = (22 : Int32) ∨ r_1 = (23 : Int32)) → wp_Pr_branchOnRegisters ms mn g rg hq mf cd fg L O a0 (fun r_13 u_12 => P r_13 (u_12.1, u_12.2.1, u_12.2.2.1, u_12.2.2.2.1, u_12.2.2.2.2.1, u_12.2.2.2.2.2.1, u_12.2.2.2.2.2.2.1, u_12.2.2.2.2.2.2.2))) ∧ (¬ (r_1 = (4 : Int32) ∨ r_1 = (5 : Int32) ∨ r_1 = (6 : Int32) ∨ r_1 = (7 : Int32) ∨ r_1 = (20 : Int32) ∨ r_1 = (21 : Int32) ∨ r_1 = (22 : Int32) ∨ r_1 = (23 : Int32)) → (((r_1 = (8 : Int32) ∨ r_1 = (9 : Int32) ∨ r_1 = (10 : Int32) ∨ r_1 = (11 : Int32) ∨ r_1 = (12 : Int32) ∨ r_1 = (13 : Int32) ∨ r_1 = (14 : Int32) ∨ r_1 = (15 : Int32)) → wp_Pr_immediate ms mn g rg hq mf cd fg L O a0 (fun r_16 u_15 => P r_16 (u_15.1, u_15.2.1, u_15.2.2.1, u_15.2.2.2.1, u_15.2.2.2.2.1, u_15.2.2.2.2.2.1, u_15.2.2.2.2.2.2.1, u_15.2.2.2.2.2.2.2))) ∧ (¬ (r_1 = (8 : Int32) ∨ r_1 = (9 : Int32) ∨ r_1 = (10 : Int32) ∨ r_1 = (11 : Int32) ∨ r_1 = (12 : Int32) ∨ r_1 = (13 : Int32) ∨ r_1 = (14 : Int32) ∨ r_1 = (15 : Int32)) → (((r_1 = (17 : Int32)) → wp_Pr_rs a0 (fun r_18 => (((16 : Int32) ≤ r_18 → wp_Pr_rt a0 (fun r_20 => vp_in r_20 32 ∧ ∀ x_21 : Int32, x_21 = (rg r_20.toNatClampNeg) → wp_Fu_perform cd fg L O a0 x_21 (fun r_23 u_22 => P r_23 (g, rg, hq, mf, u_22.1, u_22.2.1, u_22.2.2.1, u_22.2.2.2)))) ∧ (¬ (16 : Int32) ≤ r_18 → wp_Pr_coprocessor ms mn g rg hq mf cd fg L O a0 (fun r_25 u_24 => P r_25 (u_24.1, u_24.2.1, u_24.2.2.1, u_24.2.2.2.1, u_24.2.2.2.2.1, u_24.2.2.2.2.2.1, u_24.2.2.2.2.2.2.1, u_24.2.2.2.2.2.2.2)))))) ∧ (¬ (r_1 = (17 : Int32)) → (((r_1 = (28 : Int32)) → wp_Pr_special2 ms mn g rg hq mf cd fg L O a0 (fun r_28 u_27 => P r_28 (u_27.1, u_27.2.1, u_27.2.2.1, u_27.2.2.2.1, u_27.2.2.2.2.1, u_27.2.2.2.2.2.1, u_27.2.2.2.2.2.2.1, u_27.2.2.2.2.2.2.2))) ∧ (¬ (r_1 = (28 : Int32)) → (((r_1 = (51 : Int32)) → P (0 : Int32) (g, rg, hq, mf, cd, fg, L, O)) ∧ (¬ (r_1 = (51 : Int32)) → wp_Pr_access ms mn g rg hq mf cd fg L O a0 (fun r_31 u_30 => P r_31 (u_30.1, u_30.2.1, u_30.2.2.1, u_30.2.2.2.1, u_30.2.2.2.2.1, u_30.2.2.2.2.2.1, u_30.2.2.2.2.2.2.1, u_30.2.2.2.2.2.2.2)))))))))))))))))))
abbrev rm_Pr_perform : Room := { frames := 5, cells := 0, slots := 0, locals := 133 }
set_option maxHeartbeats 4000000 in
set_option maxRecDepth 100000 in
theorem c_Pr_perform (l : Launch) (D : va_G) (cI : ClassId) (qp : Nat) (qr : Nat) (qh : Nat) (qm : Nat) (qw : Nat) (qu : Nat) (qf : Nat) (ql : Nat) (qo : Nat) (ms : Int32) (mn : Nat) (g : Nat → Int32) (rg : Nat → Int32) (hq : Nat → Int32) (mf : Nat → Int32) (cd : Int32) (fg : Nat → Int32) (L : Int32 × Int32 × Int32 × Int64) (O : Int32 × Int32 × Int32 × Int64) (a0 : Int32) (P : Int32 → ((Nat → Int32) × (Nat → Int32) × (Nat → Int32) × (Nat → Int32) × Int32 × (Nat → Int32) × (Int32 × Int32 × Int32 × Int64) × (Int32 × Int32 × Int32 × Int64)) → Prop) (h : wp_Pr_perform ms mn g rg hq mf cd fg L O a0 P) (sz : Nat) : Met l y_Pr_perform (zz_ws y_Pr_perform b_Pr_perform 2 (some .int)) rm_Pr_perform (va_Pc [.ref qp, .int a0] (zz_pw D [(cI, .int)] (wP qp qr qh qm qw qu qf ql qo cI ms mn g rg hq mf cd fg L O) sz)) (va_Qi P (zz_qw D (fun u => wP qp qr qh qm qw qu qf ql qo cI ms mn u.1 u.2.1 u.2.2.1 u.2.2.2.1 u.2.2.2.2.1 u.2.2.2.2.2.1 u.2.2.2.2.2.2.1 u.2.2.2.2.2.2.2) (va_A (wP qp qr qh qm qw qu qf ql qo cI ms mn g rg hq mf cd fg L O) sz)) (va_A (wP qp qr qh qm qw qu qf ql qo cI ms mn g rg hq mf cd fg L O) sz)) 0 0 (va_A (wP qp qr qh qm qw qu qf ql qo cI ms mn g rg hq mf cd fg L O) sz) := by
  refine Met.ofW (cc := b_Pr_perform) (maxL := 2) (ret := (some .int)) (by decide) rfl ?_
  intro p e s m args below meth c s₁ B hml hv
  obtain ⟨rfl, hsz, hP, hK, hD0⟩ := hv
  have hx := B.exec
  have hb := B.bytes
  have hr := B.returns
  have hts := atoms_spec (ws := (zz_ws y_Pr_perform b_Pr_perform 2 (some .int))) B.pre
  have hown : s.vm.findClass R_Pr = some m.cls := findClass_of_methodNamed B.named
  have hlocks := B.notSynchronized
  have hT := zz_hts hts
  have X : CallFix p m c b_Pr_perform 2 s ([.ref qp, .int a0] : List Value).toArray (zz_ws y_Pr_perform b_Pr_perform 2 (some .int)) R_Pr := ⟨hx, hb, hml, hown, hts⟩
  have hf0 : 0 + 0 ≤ (headSpec (zz_ws y_Pr_perform b_Pr_perform 2 (some .int)) rm_Pr_perform).room.cells ∧ 0 + 0 ≤ (headSpec (zz_ws y_Pr_perform b_Pr_perform 2 (some .int)) rm_Pr_perform).room.slots := ⟨Nat.le_of_ble_eq_true rfl, Nat.le_of_ble_eq_true rfl⟩
  subst hsz
  have hD := hD0.self (sz := s.heap.size)
  generalize hAe : va_A (wP qp qr qh qm qw qu qf ql qo cI ms mn g rg hq mf cd fg L O) s.heap.size = A at hD ⊢
  have hA : ∀ q : Nat, s.heap.size ≤ q → A q := fun q h => by rw [← hAe]; exact Or.inr h
  have hS : va_S A s.heap s.heap [] := va_S.rf
  have hl := lv_entry ([.ref qp, .int a0]) (n := 2) (Nat.le_of_ble_eq_true rfl)
  rw [lg_entry_eq]
  generalize (lg_sl ([.ref qp, .int a0]) ++ List.replicate (2 - (lg_sl ([.ref qp, .int a0])).length) Slot.unset).toArray = ls at hl ⊢
  have hl : lv_has ls 2 [(0, .ref qp), (1, .int a0)] := hl
  refine lv_iload_n hx hb d_Pr_perform_0 rfl (lv_at hl 1 rfl) ?_
  refine zz_Si (As := [.int a0]) (rest := []) X (c_Pr_opcode l a0 _ h) ⟨rfl, rfl⟩ m_Pr_opcode k_Pr_71 ⟨Nat.le_of_ble_eq_true rfl, Nat.le_of_ble_eq_true rfl⟩ rfl hl.1 rfl (Nat.le_of_ble_eq_true rfl) d_Pr_perform_1 hf0 (fun r_1 h => ?_)
  by_cases c_2 : r_1 = (0 : Int32)
  · have h := h.1 c_2
    have h0 := c_2
    refine lv_tableIn (off := 224) (tgt := 228) hx hb d_Pr_perform_4 (by rw [h0]; decide) (by rw [h0]; decide) (by rw [h0]; rfl) (by decide) ?_
    refine lv_aload_n hx hb d_Pr_perform_228 rfl (lv_at hl 0 rfl) ?_
    refine lv_iload_n hx hb d_Pr_perform_229 rfl (lv_at hl 1 rfl) ?_
    refine zz_Wi (As := [.int a0]) (rest := []) (wc := wP qp qr qh qm qw qu qf ql qo cI ms mn g rg hq mf cd fg L O) (wr := []) X hK hP hD hS hA (c_Pr_special l D cI qp qr qh qm qw qu qf ql qo ms mn g rg hq mf cd fg L O a0 _ h _) ⟨rfl, rfl⟩ m_Pr_special k_Pr_74 ⟨Nat.le_of_ble_eq_true rfl, Nat.le_of_ble_eq_true rfl⟩ [0, 1, 2, 3, 4, 5, 6, 7, 8] [] rfl rfl (by decide) (by decide) (by decide) 4 0 rfl rfl rfl rfl hl.1 rfl (Nat.le_of_ble_eq_true rfl) d_Pr_perform_230 hf0 (fun r_4 u_3 H locs h hP hD hS => ?_)
    have hP : va_P D vwCl (wP qp qr qh qm qw qu qf ql qo cI ms mn u_3.1 u_3.2.1 u_3.2.2.1 u_3.2.2.2.1 u_3.2.2.2.2.1 u_3.2.2.2.2.2.1 u_3.2.2.2.2.2.2.1 u_3.2.2.2.2.2.2.2) H := hP.sub [0, 1, 2, 3, 4, 5, 6, 7, 8] rfl
    have hD : va_D A (wP qp qr qh qm qw qu qf ql qo cI ms mn u_3.1 u_3.2.1 u_3.2.2.1 u_3.2.2.2.1 u_3.2.2.2.2.1 u_3.2.2.2.2.2.1 u_3.2.2.2.2.2.2.1 u_3.2.2.2.2.2.2.2) := hD.sub [0, 1, 2, 3, 4, 5, 6, 7, 8] (by decide) rfl
    exact W.iret (v := r_4) hx hb hr (fun t ht hW => ⟨⟨r_4, (u_3.1, u_3.2.1, u_3.2.2.1, u_3.2.2.2.1, u_3.2.2.2.2.1, u_3.2.2.2.2.2.1, u_3.2.2.2.2.2.2.1, u_3.2.2.2.2.2.2.2), rfl, h, by rw [ht]; exact hP, hD⟩, hS.F ht⟩) hS.2.2 d_Pr_perform_233
  · have h := h.2 c_2
    by_cases c_5 : r_1 = (1 : Int32)
    · have h := h.1 c_5
      have h0 := c_5
      refine lv_tableIn (off := 230) (tgt := 234) hx hb d_Pr_perform_4 (by rw [h0]; decide) (by rw [h0]; decide) (by rw [h0]; rfl) (by decide) ?_
      refine lv_aload_n hx hb d_Pr_perform_234 rfl (lv_at hl 0 rfl) ?_
      refine lv_iload_n hx hb d_Pr_perform_235 rfl (lv_at hl 1 rfl) ?_
      refine zz_Wi (As := [.int a0]) (rest := []) (wc := wP qp qr qh qm qw qu qf ql qo cI ms mn g rg hq mf cd fg L O) (wr := []) X hK hP hD hS hA (c_Pr_regimm l D cI qp qr qh qm qw qu qf ql qo ms mn g rg hq mf cd fg L O a0 _ h _) ⟨rfl, rfl⟩ m_Pr_regimm k_Pr_77 ⟨Nat.le_of_ble_eq_true rfl, Nat.le_of_ble_eq_true rfl⟩ [0, 1, 2, 3, 4, 5, 6, 7, 8] [] rfl rfl (by decide) (by decide) (by decide) 4 0 rfl rfl rfl rfl hl.1 rfl (Nat.le_of_ble_eq_true rfl) d_Pr_perform_236 hf0 (fun r_7 u_6 H locs h hP hD hS => ?_)
      have hP : va_P D vwCl (wP qp qr qh qm qw qu qf ql qo cI ms mn u_6.1 u_6.2.1 u_6.2.2.1 u_6.2.2.2.1 u_6.2.2.2.2.1 u_6.2.2.2.2.2.1 u_6.2.2.2.2.2.2.1 u_6.2.2.2.2.2.2.2) H := hP.sub [0, 1, 2, 3, 4, 5, 6, 7, 8] rfl
      have hD : va_D A (wP qp qr qh qm qw qu qf ql qo cI ms mn u_6.1 u_6.2.1 u_6.2.2.1 u_6.2.2.2.1 u_6.2.2.2.2.1 u_6.2.2.2.2.2.1 u_6.2.2.2.2.2.2.1 u_6.2.2.2.2.2.2.2) := hD.sub [0, 1, 2, 3, 4, 5, 6, 7, 8] (by decide) rfl
      exact W.iret (v := r_7) hx hb hr (fun t ht hW => ⟨⟨r_7, (u_6.1, u_6.2.1, u_6.2.2.1, u_6.2.2.2.1, u_6.2.2.2.2.1, u_6.2.2.2.2.2.1, u_6.2.2.2.2.2.2.1, u_6.2.2.2.2.2.2.2), rfl, h, by rw [ht]; exact hP, hD⟩, hS.F ht⟩) hS.2.2 d_Pr_perform_239
    · have h := h.2 c_5
      by_cases c_8 : r_1 = (2 : Int32) ∨ r_1 = (3 : Int32)
      · have h := h.1 c_8
        have h0 := c_8
        refine lv_tableIn (off := 277) (tgt := 281) hx hb d_Pr_perform_4 (by rcases h0 with h0 | h0 <;> (rw [h0]; decide)) (by rcases h0 with h0 | h0 <;> (rw [h0]; decide)) (by rcases h0 with h0 | h0 <;> (rw [h0]; rfl)) (by decide) ?_
        refine lv_aload_n hx hb d_Pr_perform_281 rfl (lv_at hl 0 rfl) ?_
        refine lv_iload_n hx hb d_Pr_perform_282 rfl (lv_at hl 1 rfl) ?_
        refine zz_Wi (As := [.int a0]) (rest := []) (wc := wP qp qr qh qm qw qu qf ql qo cI ms mn g rg hq mf cd fg L O) (wr := []) X hK hP hD hS hA (c_Pr_jump l D cI qp qr qh qm qw qu qf ql qo ms mn g rg hq mf cd fg L O a0 _ h _) ⟨rfl, rfl⟩ m_Pr_jump k_Pr_94 ⟨Nat.le_of_ble_eq_true rfl, Nat.le_of_ble_eq_true rfl⟩ [0, 1, 2, 3, 4, 5, 6, 7, 8] [] rfl rfl (by decide) (by decide) (by decide) 4 0 rfl rfl rfl rfl hl.1 rfl (Nat.le_of_ble_eq_true rfl) d_Pr_perform_283 hf0 (fun r_10 u_9 H locs h hP hD hS => ?_)
        have hP : va_P D vwCl (wP qp qr qh qm qw qu qf ql qo cI ms mn u_9.1 u_9.2.1 u_9.2.2.1 u_9.2.2.2.1 u_9.2.2.2.2.1 u_9.2.2.2.2.2.1 u_9.2.2.2.2.2.2.1 u_9.2.2.2.2.2.2.2) H := hP.sub [0, 1, 2, 3, 4, 5, 6, 7, 8] rfl
        have hD : va_D A (wP qp qr qh qm qw qu qf ql qo cI ms mn u_9.1 u_9.2.1 u_9.2.2.1 u_9.2.2.2.1 u_9.2.2.2.2.1 u_9.2.2.2.2.2.1 u_9.2.2.2.2.2.2.1 u_9.2.2.2.2.2.2.2) := hD.sub [0, 1, 2, 3, 4, 5, 6, 7, 8] (by decide) rfl
        exact W.iret (v := r_10) hx hb hr (fun t ht hW => ⟨⟨r_10, (u_9.1, u_9.2.1, u_9.2.2.1, u_9.2.2.2.1, u_9.2.2.2.2.1, u_9.2.2.2.2.2.1, u_9.2.2.2.2.2.2.1, u_9.2.2.2.2.2.2.2), rfl, h, by rw [ht]; exact hP, hD⟩, hS.F ht⟩) hS.2.2 d_Pr_perform_286
      · have h := h.2 c_8
        by_cases c_11 : r_1 = (4 : Int32) ∨ r_1 = (5 : Int32) ∨ r_1 = (6 : Int32) ∨ r_1 = (7 : Int32) ∨ r_1 = (20 : Int32) ∨ r_1 = (21 : Int32) ∨ r_1 = (22 : Int32) ∨ r_1 = (23 : Int32)
        · have h := h.1 c_11
          have h0 := c_11
          refine lv_tableIn (off := 283) (tgt := 287) hx hb d_Pr_perform_4 (by rcases h0 with h0 | h0 | h0 | h0 | h0 | h0 | h0 | h0 <;> (rw [h0]; decide)) (by rcases h0 with h0 | h0 | h0 | h0 | h0 | h0 | h0 | h0 <;> (rw [h0]; decide)) (by rcases h0 with h0 | h0 | h0 | h0 | h0 | h0 | h0 | h0 <;> (rw [h0]; rfl)) (by decide) ?_
          refine lv_aload_n hx hb d_Pr_perform_287 rfl (lv_at hl 0 rfl) ?_
          refine lv_iload_n hx hb d_Pr_perform_288 rfl (lv_at hl 1 rfl) ?_
          refine zz_Wi (As := [.int a0]) (rest := []) (wc := wP qp qr qh qm qw qu qf ql qo cI ms mn g rg hq mf cd fg L O) (wr := []) X hK hP hD hS hA (c_Pr_branchOnRegisters l D cI qp qr qh qm qw qu qf ql qo ms mn g rg hq mf cd fg L O a0 _ h _) ⟨rfl, rfl⟩ m_Pr_branchOnRegisters k_Pr_97 ⟨Nat.le_of_ble_eq_true rfl, Nat.le_of_ble_eq_true rfl⟩ [0, 1, 2, 3, 4, 5, 6, 7, 8] [] rfl rfl (by decide) (by decide) (by decide) 4 0 rfl rfl rfl rfl hl.1 rfl (Nat.le_of_ble_eq_true rfl) d_Pr_perform_289 hf0 (fun r_13 u_12 H locs h hP hD hS => ?_)
          have hP : va_P D vwCl (wP qp qr qh qm qw qu qf ql qo cI ms mn u_12.1 u_12.2.1 u_12.2.2.1 u_12.2.2.2.1 u_12.2.2.2.2.1 u_12.2.2.2.2.2.1 u_12.2.2.2.2.2.2.1 u_12.2.2.2.2.2.2.2) H := hP.sub [0, 1, 2, 3, 4, 5, 6, 7, 8] rfl
          have hD : va_D A (wP qp qr qh qm qw qu qf ql qo cI ms mn u_12.1 u_12.2.1 u_12.2.2.1 u_12.2.2.2.1 u_12.2.2.2.2.1 u_12.2.2.2.2.2.1 u_12.2.2.2.2.2.2.1 u_12.2.2.2.2.2.2.2) := hD.sub [0, 1, 2, 3, 4, 5, 6, 7, 8] (by decide) rfl
          exact W.iret (v := r_13) hx hb hr (fun t ht hW => ⟨⟨r_13, (u_12.1, u_12.2.1, u_12.2.2.1, u_12.2.2.2.1, u_12.2.2.2.2.1, u_12.2.2.2.2.2.1, u_12.2.2.2.2.2.2.1, u_12.2.2.2.2.2.2.2), rfl, h, by rw [ht]; exact hP, hD⟩, hS.F ht⟩) hS.2.2 d_Pr_perform_292
        · have h := h.2 c_11
          by_cases c_14 : r_1 = (8 : Int32) ∨ r_1 = (9 : Int32) ∨ r_1 = (10 : Int32) ∨ r_1 = (11 : Int32) ∨ r_1 = (12 : Int32) ∨ r_1 = (13 : Int32) ∨ r_1 = (14 : Int32) ∨ r_1 = (15 : Int32)
          · have h := h.1 c_14
            have h0 := c_14
            refine lv_tableIn (off := 289) (tgt := 293) hx hb d_Pr_perform_4 (by rcases h0 with h0 | h0 | h0 | h0 | h0 | h0 | h0 | h0 <;> (rw [h0]; decide)) (by rcases h0 with h0 | h0 | h0 | h0 | h0 | h0 | h0 | h0 <;> (rw [h0]; decide)) (by rcases h0 with h0 | h0 | h0 | h0 | h0 | h0 | h0 | h0 <;> (rw [h0]; rfl)) (by decide) ?_
            refine lv_aload_n hx hb d_Pr_perform_293 rfl (lv_at hl 0 rfl) ?_
            refine lv_iload_n hx hb d_Pr_perform_294 rfl (lv_at hl 1 rfl) ?_
            refine zz_Wi (As := [.int a0]) (rest := []) (wc := wP qp qr qh qm qw qu qf ql qo cI ms mn g rg hq mf cd fg L O) (wr := []) X hK hP hD hS hA (c_Pr_immediate l D cI qp qr qh qm qw qu qf ql qo ms mn g rg hq mf cd fg L O a0 _ h _) ⟨rfl, rfl⟩ m_Pr_immediate k_Pr_100 ⟨Nat.le_of_ble_eq_true rfl, Nat.le_of_ble_eq_true rfl⟩ [0, 1, 2, 3, 4, 5, 6, 7, 8] [] rfl rfl (by decide) (by decide) (by decide) 4 0 rfl rfl rfl rfl hl.1 rfl (Nat.le_of_ble_eq_true rfl) d_Pr_perform_295 hf0 (fun r_16 u_15 H locs h hP hD hS => ?_)
            have hP : va_P D vwCl (wP qp qr qh qm qw qu qf ql qo cI ms mn u_15.1 u_15.2.1 u_15.2.2.1 u_15.2.2.2.1 u_15.2.2.2.2.1 u_15.2.2.2.2.2.1 u_15.2.2.2.2.2.2.1 u_15.2.2.2.2.2.2.2) H := hP.sub [0, 1, 2, 3, 4, 5, 6, 7, 8] rfl
            have hD : va_D A (wP qp qr qh qm qw qu qf ql qo cI ms mn u_15.1 u_15.2.1 u_15.2.2.1 u_15.2.2.2.1 u_15.2.2.2.2.1 u_15.2.2.2.2.2.1 u_15.2.2.2.2.2.2.1 u_15.2.2.2.2.2.2.2) := hD.sub [0, 1, 2, 3, 4, 5, 6, 7, 8] (by decide) rfl
            exact W.iret (v := r_16) hx hb hr (fun t ht hW => ⟨⟨r_16, (u_15.1, u_15.2.1, u_15.2.2.1, u_15.2.2.2.1, u_15.2.2.2.2.1, u_15.2.2.2.2.2.1, u_15.2.2.2.2.2.2.1, u_15.2.2.2.2.2.2.2), rfl, h, by rw [ht]; exact hP, hD⟩, hS.F ht⟩) hS.2.2 d_Pr_perform_298
          · have h := h.2 c_14
            by_cases c_17 : r_1 = (17 : Int32)
            · have h := h.1 c_17
              have h0 := c_17
              refine lv_tableIn (off := 242) (tgt := 246) hx hb d_Pr_perform_4 (by rw [h0]; decide) (by rw [h0]; decide) (by rw [h0]; rfl) (by decide) ?_
              refine lv_iload_n hx hb d_Pr_perform_246 rfl (lv_at hl 1 rfl) ?_
              refine zz_Si (As := [.int a0]) (rest := []) X (c_Pr_rs l a0 _ h) ⟨rfl, rfl⟩ m_Pr_rs k_Pr_83 ⟨Nat.le_of_ble_eq_true rfl, Nat.le_of_ble_eq_true rfl⟩ rfl hl.1 rfl (Nat.le_of_ble_eq_true rfl) d_Pr_perform_247 hf0 (fun r_18 h => ?_)
              refine lv_bipush (v := 16) hx hb d_Pr_perform_250 (by decide) ?_
              refine lv_icmp_ge (tgt := 263) hx hb d_Pr_perform_252 (by decide) (fun c_19 => ?_) (fun c_19 => ?_)
              · skip
                have h := h.1 c_19
                refine lv_aload_n hx hb d_Pr_perform_263 rfl (lv_at hl 0 rfl) ?_
                refine g_Pr_25 (v := .ref qu) hx hb hT hown hK hP 0 rfl rfl d_Pr_perform_264 ?_
                refine lv_iload_n hx hb d_Pr_perform_267 rfl (lv_at hl 1 rfl) ?_
                refine lv_aload_n hx hb d_Pr_perform_268 rfl (lv_at hl 0 rfl) ?_
                refine g_Pr_9 (v := .ref qr) hx hb hT hown hK hP 0 rfl rfl d_Pr_perform_269 ?_
                refine lv_iload_n hx hb d_Pr_perform_272 rfl (lv_at hl 1 rfl) ?_
                refine zz_Si (As := [.int a0]) (rest := [.ref qr, .int a0, .ref qu]) X (c_Pr_rt l a0 _ h) ⟨rfl, rfl⟩ m_Pr_rt k_Pr_89 ⟨Nat.le_of_ble_eq_true rfl, Nat.le_of_ble_eq_true rfl⟩ rfl hl.1 rfl (Nat.le_of_ble_eq_true rfl) d_Pr_perform_273 hf0 (fun r_20 h => ?_)
                refine va_iald (f := rg) hx hb hK hP 1 0 rfl rfl h.1 d_Pr_perform_276 ?_
                have h := h.2
                refine lv_topi (fun x_21 ex_21 => ?_)
                have h := h x_21 ex_21
                refine zz_Wi (As := [.int a0, .int x_21]) (rest := []) (wc := wU qu qf ql qo cI cd fg L O) (wr := [(qp, .inr (4, [.ref qm, .ref qr, .ref qh, .ref qu, .int (g 0), .int (g 1), .int (g 2), .int (g 3), .int (g 4), .int (g 5), .int (g 6), .int (g 7), .int (g 8), .int (g 9), .int (g 10), .int (g 11)])), (qr, .inl (cI, 32, .inl rg)), (qh, .inr (2, [.int (hq 0), .int (hq 1), .int (hq 2), .int (hq 3)])), (qm, .inr (3, [.int ms, .ref qw])), (qw, .inl (cI, mn, .inl mf))]) X hK hP hD hS hA (c_Fu_perform l D cI qu qf ql qo cd fg L O a0 x_21 _ h _) ⟨rfl, rfl⟩ m_Fu_perform k_Pr_92 ⟨Nat.le_of_ble_eq_true rfl, Nat.le_of_ble_eq_true rfl⟩ [5, 6, 7, 8] [0, 1, 2, 3, 4] rfl rfl (by decide) (by decide) (by decide) 1 5 rfl rfl rfl rfl hl.1 rfl (Nat.le_of_ble_eq_true rfl) d_Pr_perform_277 hf0 (fun r_23 u_22 H locs h hP hD hS => ?_)
                have hP : va_P D vwCl (wP qp qr qh qm qw qu qf ql qo cI ms mn g rg hq mf u_22.1 u_22.2.1 u_22.2.2.1 u_22.2.2.2) H := hP.sub [0, 1, 2, 3, 4, 5, 6, 7, 8] rfl
                have hD : va_D A (wP qp qr qh qm qw qu qf ql qo cI ms mn g rg hq mf u_22.1 u_22.2.1 u_22.2.2.1 u_22.2.2.2) := hD.sub [0, 1, 2, 3, 4, 5, 6, 7, 8] (by decide) rfl
                exact W.iret (v := r_23) hx hb hr (fun t ht hW => ⟨⟨r_23, (g, rg, hq, mf, u_22.1, u_22.2.1, u_22.2.2.1, u_22.2.2.2), rfl, h, by rw [ht]; exact hP, hD⟩, hS.F ht⟩) hS.2.2 d_Pr_perform_280
              · skip
                have h := h.2 c_19
                refine lv_aload_n hx hb d_Pr_perform_255 rfl (lv_at hl 0 rfl) ?_
                refine lv_iload_n hx hb d_Pr_perform_256 rfl (lv_at hl 1 rfl) ?_
                refine zz_Wi (As := [.int a0]) (rest := []) (wc := wP qp qr qh qm qw qu qf ql qo cI ms mn g rg hq mf cd fg L O) (wr := []) X hK hP hD hS hA (c_Pr_coprocessor l D cI qp qr qh qm qw qu qf ql qo ms mn g rg hq mf cd fg L O a0 _ h _) ⟨rfl, rfl⟩ m_Pr_coprocessor k_Pr_86 ⟨Nat.le_of_ble_eq_true rfl, Nat.le_of_ble_eq_true rfl⟩ [0, 1, 2, 3, 4, 5, 6, 7, 8] [] rfl rfl (by decide) (by decide) (by decide) 4 0 rfl rfl rfl rfl hl.1 rfl (Nat.le_of_ble_eq_true rfl) d_Pr_perform_257 hf0 (fun r_25 u_24 H locs h hP hD hS => ?_)
                have hP : va_P D vwCl (wP qp qr qh qm qw qu qf ql qo cI ms mn u_24.1 u_24.2.1 u_24.2.2.1 u_24.2.2.2.1 u_24.2.2.2.2.1 u_24.2.2.2.2.2.1 u_24.2.2.2.2.2.2.1 u_24.2.2.2.2.2.2.2) H := hP.sub [0, 1, 2, 3, 4, 5, 6, 7, 8] rfl
                have hD : va_D A (wP qp qr qh qm qw qu qf ql qo cI ms mn u_24.1 u_24.2.1 u_24.2.2.1 u_24.2.2.2.1 u_24.2.2.2.2.1 u_24.2.2.2.2.2.1 u_24.2.2.2.2.2.2.1 u_24.2.2.2.2.2.2.2) := hD.sub [0, 1, 2, 3, 4, 5, 6, 7, 8] (by decide) rfl
                refine lv_goto (tgt := 280) hx hb d_Pr_perform_260 (by decide) ?_
                exact W.iret (v := r_25) hx hb hr (fun t ht hW => ⟨⟨r_25, (u_24.1, u_24.2.1, u_24.2.2.1, u_24.2.2.2.1, u_24.2.2.2.2.1, u_24.2.2.2.2.2.1, u_24.2.2.2.2.2.2.1, u_24.2.2.2.2.2.2.2), rfl, h, by rw [ht]; exact hP, hD⟩, hS.F ht⟩) hS.2.2 d_Pr_perform_280
            · have h := h.2 c_17
              by_cases c_26 : r_1 = (28 : Int32)
              · have h := h.1 c_26
                have h0 := c_26
                refine lv_tableIn (off := 236) (tgt := 240) hx hb d_Pr_perform_4 (by rw [h0]; decide) (by rw [h0]; decide) (by rw [h0]; rfl) (by decide) ?_
                refine lv_aload_n hx hb d_Pr_perform_240 rfl (lv_at hl 0 rfl) ?_
                refine lv_iload_n hx hb d_Pr_perform_241 rfl (lv_at hl 1 rfl) ?_
                refine zz_Wi (As := [.int a0]) (rest := []) (wc := wP qp qr qh qm qw qu qf ql qo cI ms mn g rg hq mf cd fg L O) (wr := []) X hK hP hD hS hA (c_Pr_special2 l D cI qp qr qh qm qw qu qf ql qo ms mn g rg hq mf cd fg L O a0 _ h _) ⟨rfl, rfl⟩ m_Pr_special2 k_Pr_80 ⟨Nat.le_of_ble_eq_true rfl, Nat.le_of_ble_eq_true rfl⟩ [0, 1, 2, 3, 4, 5, 6, 7, 8] [] rfl rfl (by decide) (by decide) (by decide) 4 0 rfl rfl rfl rfl hl.1 rfl (Nat.le_of_ble_eq_true rfl) d_Pr_perform_242 hf0 (fun r_28 u_27 H locs h hP hD hS => ?_)
                have hP : va_P D vwCl (wP qp qr qh qm qw qu qf ql qo cI ms mn u_27.1 u_27.2.1 u_27.2.2.1 u_27.2.2.2.1 u_27.2.2.2.2.1 u_27.2.2.2.2.2.1 u_27.2.2.2.2.2.2.1 u_27.2.2.2.2.2.2.2) H := hP.sub [0, 1, 2, 3, 4, 5, 6, 7, 8] rfl
                have hD : va_D A (wP qp qr qh qm qw qu qf ql qo cI ms mn u_27.1 u_27.2.1 u_27.2.2.1 u_27.2.2.2.1 u_27.2.2.2.2.1 u_27.2.2.2.2.2.1 u_27.2.2.2.2.2.2.1 u_27.2.2.2.2.2.2.2) := hD.sub [0, 1, 2, 3, 4, 5, 6, 7, 8] (by decide) rfl
                exact W.iret (v := r_28) hx hb hr (fun t ht hW => ⟨⟨r_28, (u_27.1, u_27.2.1, u_27.2.2.1, u_27.2.2.2.1, u_27.2.2.2.2.1, u_27.2.2.2.2.2.1, u_27.2.2.2.2.2.2.1, u_27.2.2.2.2.2.2.2), rfl, h, by rw [ht]; exact hP, hD⟩, hS.F ht⟩) hS.2.2 d_Pr_perform_245
              · have h := h.2 c_26
                by_cases c_29 : r_1 = (51 : Int32)
                · have h := h.1 c_29
                  have h0 := c_29
                  refine lv_tableIn (off := 295) (tgt := 299) hx hb d_Pr_perform_4 (by rw [h0]; decide) (by rw [h0]; decide) (by rw [h0]; rfl) (by decide) ?_
                  refine lv_iconst (v := 0) hx hb d_Pr_perform_299 (by decide) ?_
                  exact W.iret (v := (0 : Int32)) hx hb hr (fun t ht hW => ⟨⟨(0 : Int32), (g, rg, hq, mf, cd, fg, L, O), rfl, h, by rw [ht]; exact hP, hD⟩, hS.F ht⟩) hS.2.2 d_Pr_perform_300
                · have h := h.2 c_29
                  refine zz_swD (tgt := 301) hx hb [0, 1, 2, 3, 4, 5, 6, 7, 20, 21, 22, 23, 8, 9, 10, 11, 12, 13, 14, 15, 17, 28, 51] d_Pr_perform_4 (by decide +kernel) (by decide) (List.forall_mem_cons.mpr ⟨lv_neT (k := 0) c_2 (by decide), List.forall_mem_cons.mpr ⟨lv_neT (k := 1) c_5 (by decide), List.forall_mem_cons.mpr ⟨lv_neT (k := 2) (fun q => c_8 (Or.inl q)) (by decide), List.forall_mem_cons.mpr ⟨lv_neT (k := 3) (fun q => c_8 (Or.inr (q))) (by decide), List.forall_mem_cons.mpr ⟨lv_neT (k := 4) (fun q => c_11 (Or.inl q)) (by decide), List.forall_mem_cons.mpr ⟨lv_neT (k := 5) (fun q => c_11 (Or.inr (Or.inl q))) (by decide), List.forall_mem_cons.mpr ⟨lv_neT (k := 6) (fun q => c_11 (Or.inr (Or.inr (Or.inl q)))) (by decide), List.forall_mem_cons.mpr ⟨lv_neT (k := 7) (fun q => c_11 (Or.inr (Or.inr (Or.inr (Or.inl q))))) (by decide), List.forall_mem_cons.mpr ⟨lv_neT (k := 20) (fun q => c_11 (Or.inr (Or.inr (Or.inr (Or.inr (Or.inl q)))))) (by decide), List.forall_mem_cons.mpr ⟨lv_neT (k := 21) (fun q => c_11 (Or.inr (Or.inr (Or.inr (Or.inr (Or.inr (Or.inl q))))))) (by decide), List.forall_mem_cons.mpr ⟨lv_neT (k := 22) (fun q => c_11 (Or.inr (Or.inr (Or.inr (Or.inr (Or.inr (Or.inr (Or.inl q)))))))) (by decide), List.forall_mem_cons.mpr ⟨lv_neT (k := 23) (fun q => c_11 (Or.inr (Or.inr (Or.inr (Or.inr (Or.inr (Or.inr (Or.inr (q))))))))) (by decide), List.forall_mem_cons.mpr ⟨lv_neT (k := 8) (fun q => c_14 (Or.inl q)) (by decide), List.forall_mem_cons.mpr ⟨lv_neT (k := 9) (fun q => c_14 (Or.inr (Or.inl q))) (by decide), List.forall_mem_cons.mpr ⟨lv_neT (k := 10) (fun q => c_14 (Or.inr (Or.inr (Or.inl q)))) (by decide), List.forall_mem_cons.mpr ⟨lv_neT (k := 11) (fun q => c_14 (Or.inr (Or.inr (Or.inr (Or.inl q))))) (by decide), List.forall_mem_cons.mpr ⟨lv_neT (k := 12) (fun q => c_14 (Or.inr (Or.inr (Or.inr (Or.inr (Or.inl q)))))) (by decide), List.forall_mem_cons.mpr ⟨lv_neT (k := 13) (fun q => c_14 (Or.inr (Or.inr (Or.inr (Or.inr (Or.inr (Or.inl q))))))) (by decide), List.forall_mem_cons.mpr ⟨lv_neT (k := 14) (fun q => c_14 (Or.inr (Or.inr (Or.inr (Or.inr (Or.inr (Or.inr (Or.inl q)))))))) (by decide), List.forall_mem_cons.mpr ⟨lv_neT (k := 15) (fun q => c_14 (Or.inr (Or.inr (Or.inr (Or.inr (Or.inr (Or.inr (Or.inr (q))))))))) (by decide), List.forall_mem_cons.mpr ⟨lv_neT (k := 17) c_17 (by decide), List.forall_mem_cons.mpr ⟨lv_neT (k := 28) c_26 (by decide), List.forall_mem_cons.mpr ⟨lv_neT (k := 51) c_29 (by decide), fun _ h9 => nomatch h9⟩⟩⟩⟩⟩⟩⟩⟩⟩⟩⟩⟩⟩⟩⟩⟩⟩⟩⟩⟩⟩⟩⟩) (by decide) ?_
                  refine lv_aload_n hx hb d_Pr_perform_301 rfl (lv_at hl 0 rfl) ?_
                  refine lv_iload_n hx hb d_Pr_perform_302 rfl (lv_at hl 1 rfl) ?_
                  refine zz_Wi (As := [.int a0]) (rest := []) (wc := wP qp qr qh qm qw qu qf ql qo cI ms mn g rg hq mf cd fg L O) (wr := []) X hK hP hD hS hA (c_Pr_access l D cI qp qr qh qm qw qu qf ql qo ms mn g rg hq mf cd fg L O a0 _ h _) ⟨rfl, rfl⟩ m_Pr_access k_Pr_103 ⟨Nat.le_of_ble_eq_true rfl, Nat.le_of_ble_eq_true rfl⟩ [0, 1, 2, 3, 4, 5, 6, 7, 8] [] rfl rfl (by decide) (by decide) (by decide) 4 0 rfl rfl rfl rfl hl.1 rfl (Nat.le_of_ble_eq_true rfl) d_Pr_perform_303 hf0 (fun r_31 u_30 H locs h hP hD hS => ?_)
                  have hP : va_P D vwCl (wP qp qr qh qm qw qu qf ql qo cI ms mn u_30.1 u_30.2.1 u_30.2.2.1 u_30.2.2.2.1 u_30.2.2.2.2.1 u_30.2.2.2.2.2.1 u_30.2.2.2.2.2.2.1 u_30.2.2.2.2.2.2.2) H := hP.sub [0, 1, 2, 3, 4, 5, 6, 7, 8] rfl
                  have hD : va_D A (wP qp qr qh qm qw qu qf ql qo cI ms mn u_30.1 u_30.2.1 u_30.2.2.1 u_30.2.2.2.1 u_30.2.2.2.2.1 u_30.2.2.2.2.2.1 u_30.2.2.2.2.2.2.1 u_30.2.2.2.2.2.2.2) := hD.sub [0, 1, 2, 3, 4, 5, 6, 7, 8] (by decide) rfl
                  exact W.iret (v := r_31) hx hb hr (fun t ht hW => ⟨⟨r_31, (u_30.1, u_30.2.1, u_30.2.2.1, u_30.2.2.2.1, u_30.2.2.2.2.1, u_30.2.2.2.2.2.1, u_30.2.2.2.2.2.2.1, u_30.2.2.2.2.2.2.2), rfl, h, by rw [ht]; exact hP, hD⟩, hS.F ht⟩) hS.2.2 d_Pr_perform_306
def wp_Pr_step (ms : Int32) (mn : Nat) (g : Nat → Int32) (rg : Nat → Int32) (hq : Nat → Int32) (mf : Nat → Int32) (cd : Int32) (fg : Nat → Int32) (L : Int32 × Int32 × Int32 × Int64) (O : Int32 × Int32 × Int32 × Int64) (P : ((Nat → Int32) × (Nat → Int32) × (Nat → Int32) × (Nat → Int32) × Int32 × (Nat → Int32) × (Int32 × Int32 × Int32 × Int64) × (Int32 × Int32 × Int32 × Int64)) → Prop) : Prop := wp_Me_good ms mn mf (g 0) (4 : Int32) (fun r_1 => ((r_1 = (0 : Int32) → P ((upd g 5 (1 : Int32)), rg, hq, mf, cd, fg, L, O)) ∧ (¬ r_1 = (0 : Int32) → wp_Me_read ms mn mf (g 0) (4 : Int32) (fun r_3 => wp_Pr_perform ms mn g rg hq mf cd fg L O r_3 (fun r_5 u_4 => ((r_5 ≤ (0 : Int32) → ((r_5 = (-1 : Int32) → ∀ x_8 : Int32, x_8 = ((u_4.1 7) + (1 : Int32)) → P ((upd u_4.1 7 x_8), u_4.2.1, u_4.2.2.1, u_4.2.2.2.1, u_4.2.2.2.2.1, u_4.2.2.2.2.2.1, u_4.2.2.2.2.2.2.1, u_4.2.2.2.2.2.2.2)) ∧ (¬ r_5 = (-1 : Int32) → wp_Pr_move ms mn u_4.1 u_4.2.1 u_4.2.2.1 u_4.2.2.2.1 u_4.2.2.2.2.1 u_4.2.2.2.2.2.1 u_4.2.2.2.2.2.2.1 u_4.2.2.2.2.2.2.2 (u_4.1 1) ((u_4.1 1) + (4 : Int32)) (0 : Int32) (fun u_9 => ∀ x_11 : Int32, x_11 = ((u_9.1 7) + (1 : Int32)) → P ((upd u_9.1 7 x_11), u_9.2.1, u_9.2.2.1, u_9.2.2.2.1, u_9.2.2.2.2.1, u_9.2.2.2.2.2.1, u_9.2.2.2.2.2.2.1, u_9.2.2.2.2.2.2.2))))) ∧ (¬ r_5 ≤ (0 : Int32) → P ((upd u_4.1 5 r_5), u_4.2.1, u_4.2.2.1, u_4.2.2.2.1, u_4.2.2.2.2.1, u_4.2.2.2.2.2.1, u_4.2.2.2.2.2.2.1, u_4.2.2.2.2.2.2.2))))))))
abbrev rm_Pr_step : Room := { frames := 6, cells := 0, slots := 0, locals := 154 }
set_option maxHeartbeats 4000000 in
set_option maxRecDepth 100000 in
theorem c_Pr_step (l : Launch) (D : va_G) (cI : ClassId) (qp : Nat) (qr : Nat) (qh : Nat) (qm : Nat) (qw : Nat) (qu : Nat) (qf : Nat) (ql : Nat) (qo : Nat) (ms : Int32) (mn : Nat) (g : Nat → Int32) (rg : Nat → Int32) (hq : Nat → Int32) (mf : Nat → Int32) (cd : Int32) (fg : Nat → Int32) (L : Int32 × Int32 × Int32 × Int64) (O : Int32 × Int32 × Int32 × Int64) (P : ((Nat → Int32) × (Nat → Int32) × (Nat → Int32) × (Nat → Int32) × Int32 × (Nat → Int32) × (Int32 × Int32 × Int32 × Int64) × (Int32 × Int32 × Int32 × Int64)) → Prop) (h : wp_Pr_step ms mn g rg hq mf cd fg L O P) (sz : Nat) : Met l y_Pr_step (zz_ws y_Pr_step b_Pr_step 2 none) rm_Pr_step (va_Pc [.ref qp] (zz_pw D [(cI, .int)] (wP qp qr qh qm qw qu qf ql qo cI ms mn g rg hq mf cd fg L O) sz)) (va_Qv P (zz_qw D (fun u => wP qp qr qh qm qw qu qf ql qo cI ms mn u.1 u.2.1 u.2.2.1 u.2.2.2.1 u.2.2.2.2.1 u.2.2.2.2.2.1 u.2.2.2.2.2.2.1 u.2.2.2.2.2.2.2) (va_A (wP qp qr qh qm qw qu qf ql qo cI ms mn g rg hq mf cd fg L O) sz)) (va_A (wP qp qr qh qm qw qu qf ql qo cI ms mn g rg hq mf cd fg L O) sz)) 0 0 (va_A (wP qp qr qh qm qw qu qf ql qo cI ms mn g rg hq mf cd fg L O) sz) := by
  refine Met.ofW (cc := b_Pr_step) (maxL := 2) (ret := none) (by decide) rfl ?_
  intro p e s m args below meth c s₁ B hml hv
  obtain ⟨rfl, hsz, hP, hK, hD0⟩ := hv
  have hx := B.exec
  have hb := B.bytes
  have hr := B.returns
  have hts := atoms_spec (ws := (zz_ws y_Pr_step b_Pr_step 2 none)) B.pre
  have hown : s.vm.findClass R_Pr = some m.cls := findClass_of_methodNamed B.named
  have hlocks := B.notSynchronized
  have hT := zz_hts hts
  have X : CallFix p m c b_Pr_step 2 s ([.ref qp] : List Value).toArray (zz_ws y_Pr_step b_Pr_step 2 none) R_Pr := ⟨hx, hb, hml, hown, hts⟩
  have hf0 : 0 + 0 ≤ (headSpec (zz_ws y_Pr_step b_Pr_step 2 none) rm_Pr_step).room.cells ∧ 0 + 0 ≤ (headSpec (zz_ws y_Pr_step b_Pr_step 2 none) rm_Pr_step).room.slots := ⟨Nat.le_of_ble_eq_true rfl, Nat.le_of_ble_eq_true rfl⟩
  subst hsz
  have hD := hD0.self (sz := s.heap.size)
  generalize hAe : va_A (wP qp qr qh qm qw qu qf ql qo cI ms mn g rg hq mf cd fg L O) s.heap.size = A at hD ⊢
  have hA : ∀ q : Nat, s.heap.size ≤ q → A q := fun q h => by rw [← hAe]; exact Or.inr h
  have hS : va_S A s.heap s.heap [] := va_S.rf
  have hl := lv_entry ([.ref qp]) (n := 2) (Nat.le_of_ble_eq_true rfl)
  rw [lg_entry_eq]
  generalize (lg_sl ([.ref qp]) ++ List.replicate (2 - (lg_sl ([.ref qp])).length) Slot.unset).toArray = ls at hl ⊢
  have hl : lv_has ls 2 [(0, .ref qp)] := hl
  refine lv_aload_n hx hb d_Pr_step_0 rfl (lv_at hl 0 rfl) ?_
  refine g_Pr_33 (v := .ref qm) hx hb hT hown hK hP 0 rfl rfl d_Pr_step_1 ?_
  refine lv_aload_n hx hb d_Pr_step_4 rfl (lv_at hl 0 rfl) ?_
  refine g_Pr_48 (v := .int (g 0)) hx hb hT hown hK hP 0 rfl rfl d_Pr_step_5 ?_
  refine lv_iconst (v := 4) hx hb d_Pr_step_8 (by decide) ?_
  refine zz_Ri (As := [.int (g 0), .int (4 : Int32)]) (rest := []) (wc := wM qm qw cI ms mn mf) X hK hP (c_Me_good l D cI qm qw ms mn mf (g 0) (4 : Int32) _ h) ⟨rfl, rfl⟩ m_Me_good k_Pr_51 ⟨Nat.le_of_ble_eq_true rfl, Nat.le_of_ble_eq_true rfl⟩ [3, 4] rfl 3 3 rfl rfl rfl rfl hl.1 rfl (Nat.le_of_ble_eq_true rfl) d_Pr_step_9 hf0 (fun r_1 h => ?_)
  refine lv_if_ne (tgt := 21) hx hb d_Pr_step_12 (by decide) (fun c_2 => ?_) (fun c_2 => ?_)
  · skip
    have h := h.2 c_2
    refine lv_aload_n hx hb d_Pr_step_21 rfl (lv_at hl 0 rfl) ?_
    refine lv_aload_n hx hb d_Pr_step_22 rfl (lv_at hl 0 rfl) ?_
    refine g_Pr_33 (v := .ref qm) hx hb hT hown hK hP 0 rfl rfl d_Pr_step_23 ?_
    refine lv_aload_n hx hb d_Pr_step_26 rfl (lv_at hl 0 rfl) ?_
    refine g_Pr_48 (v := .int (g 0)) hx hb hT hown hK hP 0 rfl rfl d_Pr_step_27 ?_
    refine lv_iconst (v := 4) hx hb d_Pr_step_30 (by decide) ?_
    refine zz_Ri (As := [.int (g 0), .int (4 : Int32)]) (rest := [.ref qp]) (wc := wM qm qw cI ms mn mf) X hK hP (c_Me_read l D cI qm qw ms mn mf (g 0) (4 : Int32) _ h) ⟨rfl, rfl⟩ m_Me_read k_Pr_57 ⟨Nat.le_of_ble_eq_true rfl, Nat.le_of_ble_eq_true rfl⟩ [3, 4] rfl 3 3 rfl rfl rfl rfl hl.1 rfl (Nat.le_of_ble_eq_true rfl) d_Pr_step_31 hf0 (fun r_3 h => ?_)
    refine zz_Wi (As := [.int r_3]) (rest := []) (wc := wP qp qr qh qm qw qu qf ql qo cI ms mn g rg hq mf cd fg L O) (wr := []) X hK hP hD hS hA (c_Pr_perform l D cI qp qr qh qm qw qu qf ql qo ms mn g rg hq mf cd fg L O r_3 _ h _) ⟨rfl, rfl⟩ m_Pr_perform k_Pr_61 ⟨Nat.le_of_ble_eq_true rfl, Nat.le_of_ble_eq_true rfl⟩ [0, 1, 2, 3, 4, 5, 6, 7, 8] [] rfl rfl (by decide) (by decide) (by decide) 4 0 rfl rfl rfl rfl hl.1 rfl (Nat.le_of_ble_eq_true rfl) d_Pr_step_34 hf0 (fun r_5 u_4 H locs h hP hD hS => ?_)
    have hP : va_P D vwCl (wP qp qr qh qm qw qu qf ql qo cI ms mn u_4.1 u_4.2.1 u_4.2.2.1 u_4.2.2.2.1 u_4.2.2.2.2.1 u_4.2.2.2.2.2.1 u_4.2.2.2.2.2.2.1 u_4.2.2.2.2.2.2.2) H := hP.sub [0, 1, 2, 3, 4, 5, 6, 7, 8] rfl
    have hD : va_D A (wP qp qr qh qm qw qu qf ql qo cI ms mn u_4.1 u_4.2.1 u_4.2.2.1 u_4.2.2.2.1 u_4.2.2.2.2.1 u_4.2.2.2.2.2.1 u_4.2.2.2.2.2.2.1 u_4.2.2.2.2.2.2.2) := hD.sub [0, 1, 2, 3, 4, 5, 6, 7, 8] (by decide) rfl
    refine lv_istore_n (lv' := [(1, .int r_5), (0, .ref qp)]) hx hb d_Pr_step_37 rfl hl (by decide) rfl (fun ls hl => ?_)
    refine lv_iload_n hx hb d_Pr_step_38 rfl (lv_at hl 0 rfl) ?_
    refine lv_if_le (tgt := 48) hx hb d_Pr_step_39 (by decide) (fun c_6 => ?_) (fun c_6 => ?_)
    · skip
      have h := h.1 c_6
      refine lv_iload_n hx hb d_Pr_step_48 rfl (lv_at hl 0 rfl) ?_
      refine lv_iconst (v := -1) hx hb d_Pr_step_49 (by decide) ?_
      refine lv_icmp_eq (tgt := 68) hx hb d_Pr_step_50 (by decide) (fun c_7 => ?_) (fun c_7 => ?_)
      · skip
        have h := h.1 c_7
        refine lv_aload_n hx hb d_Pr_step_68 rfl (lv_at hl 1 rfl) ?_
        refine lv_dup hx hb d_Pr_step_69 rfl ?_
        refine g_Pr_65 (v := .int (u_4.1 7)) hx hb hT hown hK hP 0 rfl rfl d_Pr_step_70 ?_
        refine lv_iconst (v := 1) hx hb d_Pr_step_73 (by decide) ?_
        refine lv_iadd hx hb d_Pr_step_74 ?_
        refine lv_topi (fun x_8 ex_8 => ?_)
        have h := h x_8 ex_8
        refine p_Pr_65 hx hb hT hown hK hP hD hS 0 rfl rfl d_Pr_step_75 (fun H locs (hP : va_P D vwCl (wP qp qr qh qm qw qu qf ql qo cI ms mn (upd u_4.1 7 x_8) u_4.2.1 u_4.2.2.1 u_4.2.2.2.1 u_4.2.2.2.2.1 u_4.2.2.2.2.2.1 u_4.2.2.2.2.2.2.1 u_4.2.2.2.2.2.2.2) H) (hD : va_D A (wP qp qr qh qm qw qu qf ql qo cI ms mn (upd u_4.1 7 x_8) u_4.2.1 u_4.2.2.1 u_4.2.2.2.1 u_4.2.2.2.2.1 u_4.2.2.2.2.2.1 u_4.2.2.2.2.2.2.1 u_4.2.2.2.2.2.2.2)) hS => ?_)
        exact W.vret hx hb hr (fun t ht hW => ⟨⟨((upd u_4.1 7 x_8), u_4.2.1, u_4.2.2.1, u_4.2.2.2.1, u_4.2.2.2.2.1, u_4.2.2.2.2.2.1, u_4.2.2.2.2.2.2.1, u_4.2.2.2.2.2.2.2), rfl, h, by rw [ht]; exact hP, hD⟩, hS.F ht⟩) hS.2.2 d_Pr_step_78
      · skip
        have h := h.2 c_7
        refine lv_aload_n hx hb d_Pr_step_53 rfl (lv_at hl 1 rfl) ?_
        refine lv_aload_n hx hb d_Pr_step_54 rfl (lv_at hl 1 rfl) ?_
        refine g_Pr_29 (v := .int (u_4.1 1)) hx hb hT hown hK hP 0 rfl rfl d_Pr_step_55 ?_
        refine lv_aload_n hx hb d_Pr_step_58 rfl (lv_at hl 1 rfl) ?_
        refine g_Pr_29 (v := .int (u_4.1 1)) hx hb hT hown hK hP 0 rfl rfl d_Pr_step_59 ?_
        refine lv_iconst (v := 4) hx hb d_Pr_step_62 (by decide) ?_
        refine lv_iadd hx hb d_Pr_step_63 ?_
        refine lv_iconst (v := 0) hx hb d_Pr_step_64 (by decide) ?_
        refine zz_Wv (As := [.int (u_4.1 1), .int ((u_4.1 1) + (4 : Int32)), .int (0 : Int32)]) (rest := []) (wc := wP qp qr qh qm qw qu qf ql qo cI ms mn u_4.1 u_4.2.1 u_4.2.2.1 u_4.2.2.2.1 u_4.2.2.2.2.1 u_4.2.2.2.2.2.1 u_4.2.2.2.2.2.2.1 u_4.2.2.2.2.2.2.2) (wr := []) X hK hP hD hS hA (c_Pr_move l D cI qp qr qh qm qw qu qf ql qo ms mn u_4.1 u_4.2.1 u_4.2.2.1 u_4.2.2.2.1 u_4.2.2.2.2.1 u_4.2.2.2.2.2.1 u_4.2.2.2.2.2.2.1 u_4.2.2.2.2.2.2.2 (u_4.1 1) ((u_4.1 1) + (4 : Int32)) (0 : Int32) _ h _) ⟨rfl, rfl⟩ m_Pr_move k_Pr_37 ⟨Nat.le_of_ble_eq_true rfl, Nat.le_of_ble_eq_true rfl⟩ [0, 1, 2, 3, 4, 5, 6, 7, 8] [] rfl rfl (by decide) (by decide) (by decide) 4 0 rfl rfl rfl rfl hl.1 rfl (Nat.le_of_ble_eq_true rfl) d_Pr_step_65 hf0 (fun u_9 H locs h hP hD hS => ?_)
        have hP : va_P D vwCl (wP qp qr qh qm qw qu qf ql qo cI ms mn u_9.1 u_9.2.1 u_9.2.2.1 u_9.2.2.2.1 u_9.2.2.2.2.1 u_9.2.2.2.2.2.1 u_9.2.2.2.2.2.2.1 u_9.2.2.2.2.2.2.2) H := hP.sub [0, 1, 2, 3, 4, 5, 6, 7, 8] rfl
        have hD : va_D A (wP qp qr qh qm qw qu qf ql qo cI ms mn u_9.1 u_9.2.1 u_9.2.2.1 u_9.2.2.2.1 u_9.2.2.2.2.1 u_9.2.2.2.2.2.1 u_9.2.2.2.2.2.2.1 u_9.2.2.2.2.2.2.2) := hD.sub [0, 1, 2, 3, 4, 5, 6, 7, 8] (by decide) rfl
        refine lv_aload_n hx hb d_Pr_step_68 rfl (lv_at hl 1 rfl) ?_
        refine lv_dup hx hb d_Pr_step_69 rfl ?_
        refine g_Pr_65 (v := .int (u_9.1 7)) hx hb hT hown hK hP 0 rfl rfl d_Pr_step_70 ?_
        refine lv_iconst (v := 1) hx hb d_Pr_step_73 (by decide) ?_
        refine lv_iadd hx hb d_Pr_step_74 ?_
        refine lv_topi (fun x_11 ex_11 => ?_)
        have h := h x_11 ex_11
        refine p_Pr_65 hx hb hT hown hK hP hD hS 0 rfl rfl d_Pr_step_75 (fun H locs (hP : va_P D vwCl (wP qp qr qh qm qw qu qf ql qo cI ms mn (upd u_9.1 7 x_11) u_9.2.1 u_9.2.2.1 u_9.2.2.2.1 u_9.2.2.2.2.1 u_9.2.2.2.2.2.1 u_9.2.2.2.2.2.2.1 u_9.2.2.2.2.2.2.2) H) (hD : va_D A (wP qp qr qh qm qw qu qf ql qo cI ms mn (upd u_9.1 7 x_11) u_9.2.1 u_9.2.2.1 u_9.2.2.2.1 u_9.2.2.2.2.1 u_9.2.2.2.2.2.1 u_9.2.2.2.2.2.2.1 u_9.2.2.2.2.2.2.2)) hS => ?_)
        exact W.vret hx hb hr (fun t ht hW => ⟨⟨((upd u_9.1 7 x_11), u_9.2.1, u_9.2.2.1, u_9.2.2.2.1, u_9.2.2.2.2.1, u_9.2.2.2.2.2.1, u_9.2.2.2.2.2.2.1, u_9.2.2.2.2.2.2.2), rfl, h, by rw [ht]; exact hP, hD⟩, hS.F ht⟩) hS.2.2 d_Pr_step_78
    · skip
      have h := h.2 c_6
      refine lv_aload_n hx hb d_Pr_step_42 rfl (lv_at hl 1 rfl) ?_
      refine lv_iload_n hx hb d_Pr_step_43 rfl (lv_at hl 0 rfl) ?_
      refine p_Pr_45 hx hb hT hown hK hP hD hS 0 rfl rfl d_Pr_step_44 (fun H locs (hP : va_P D vwCl (wP qp qr qh qm qw qu qf ql qo cI ms mn (upd u_4.1 5 r_5) u_4.2.1 u_4.2.2.1 u_4.2.2.2.1 u_4.2.2.2.2.1 u_4.2.2.2.2.2.1 u_4.2.2.2.2.2.2.1 u_4.2.2.2.2.2.2.2) H) (hD : va_D A (wP qp qr qh qm qw qu qf ql qo cI ms mn (upd u_4.1 5 r_5) u_4.2.1 u_4.2.2.1 u_4.2.2.2.1 u_4.2.2.2.2.1 u_4.2.2.2.2.2.1 u_4.2.2.2.2.2.2.1 u_4.2.2.2.2.2.2.2)) hS => ?_)
      exact W.vret hx hb hr (fun t ht hW => ⟨⟨((upd u_4.1 5 r_5), u_4.2.1, u_4.2.2.1, u_4.2.2.2.1, u_4.2.2.2.2.1, u_4.2.2.2.2.2.1, u_4.2.2.2.2.2.2.1, u_4.2.2.2.2.2.2.2), rfl, h, by rw [ht]; exact hP, hD⟩, hS.F ht⟩) hS.2.2 d_Pr_step_47
  · skip
    have h := h.1 c_2
    refine lv_aload_n hx hb d_Pr_step_15 rfl (lv_at hl 0 rfl) ?_
    refine lv_iconst (v := 1) hx hb d_Pr_step_16 (by decide) ?_
    refine p_Pr_45 hx hb hT hown hK hP hD hS 0 rfl rfl d_Pr_step_17 (fun H locs (hP : va_P D vwCl (wP qp qr qh qm qw qu qf ql qo cI ms mn (upd g 5 (1 : Int32)) rg hq mf cd fg L O) H) (hD : va_D A (wP qp qr qh qm qw qu qf ql qo cI ms mn (upd g 5 (1 : Int32)) rg hq mf cd fg L O)) hS => ?_)
    exact W.vret hx hb hr (fun t ht hW => ⟨⟨((upd g 5 (1 : Int32)), rg, hq, mf, cd, fg, L, O), rfl, h, by rw [ht]; exact hP, hD⟩, hS.F ht⟩) hS.2.2 d_Pr_step_20
def wp_Pr_stepOver (ms : Int32) (mn : Nat) (g : Nat → Int32) (rg : Nat → Int32) (hq : Nat → Int32) (mf : Nat → Int32) (cd : Int32) (fg : Nat → Int32) (L : Int32 × Int32 × Int32 × Int64) (O : Int32 × Int32 × Int32 × Int64) (P : ((Nat → Int32) × (Nat → Int32) × (Nat → Int32) × (Nat → Int32) × Int32 × (Nat → Int32) × (Int32 × Int32 × Int32 × Int64) × (Int32 × Int32 × Int32 × Int64)) → Prop) : Prop := wp_Pr_move ms mn g rg hq mf cd fg L O (g 1) ((g 1) + (4 : Int32)) (0 : Int32) (fun u_1 => ∀ x_3 : Int32, x_3 = ((u_1.1 7) + (1 : Int32)) → P ((upd (upd u_1.1 7 x_3) 5 (0 : Int32)), u_1.2.1, u_1.2.2.1, u_1.2.2.2.1, u_1.2.2.2.2.1, u_1.2.2.2.2.2.1, u_1.2.2.2.2.2.2.1, u_1.2.2.2.2.2.2.2))
abbrev rm_Pr_stepOver : Room := { frames := 1, cells := 0, slots := 0, locals := 23 }
set_option maxHeartbeats 4000000 in
set_option maxRecDepth 100000 in
theorem c_Pr_stepOver (l : Launch) (D : va_G) (cI : ClassId) (qp : Nat) (qr : Nat) (qh : Nat) (qm : Nat) (qw : Nat) (qu : Nat) (qf : Nat) (ql : Nat) (qo : Nat) (ms : Int32) (mn : Nat) (g : Nat → Int32) (rg : Nat → Int32) (hq : Nat → Int32) (mf : Nat → Int32) (cd : Int32) (fg : Nat → Int32) (L : Int32 × Int32 × Int32 × Int64) (O : Int32 × Int32 × Int32 × Int64) (P : ((Nat → Int32) × (Nat → Int32) × (Nat → Int32) × (Nat → Int32) × Int32 × (Nat → Int32) × (Int32 × Int32 × Int32 × Int64) × (Int32 × Int32 × Int32 × Int64)) → Prop) (h : wp_Pr_stepOver ms mn g rg hq mf cd fg L O P) (sz : Nat) : Met l y_Pr_stepOver (zz_ws y_Pr_stepOver b_Pr_stepOver 1 none) rm_Pr_stepOver (va_Pc [.ref qp] (zz_pw D [(cI, .int)] (wP qp qr qh qm qw qu qf ql qo cI ms mn g rg hq mf cd fg L O) sz)) (va_Qv P (zz_qw D (fun u => wP qp qr qh qm qw qu qf ql qo cI ms mn u.1 u.2.1 u.2.2.1 u.2.2.2.1 u.2.2.2.2.1 u.2.2.2.2.2.1 u.2.2.2.2.2.2.1 u.2.2.2.2.2.2.2) (va_A (wP qp qr qh qm qw qu qf ql qo cI ms mn g rg hq mf cd fg L O) sz)) (va_A (wP qp qr qh qm qw qu qf ql qo cI ms mn g rg hq mf cd fg L O) sz)) 0 0 (va_A (wP qp qr qh qm qw qu qf ql qo cI ms mn g rg hq mf cd fg L O) sz) := by
  refine Met.ofW (cc := b_Pr_stepOver) (maxL := 1) (ret := none) (by decide) rfl ?_
  intro p e s m args below meth c s₁ B hml hv
  obtain ⟨rfl, hsz, hP, hK, hD0⟩ := hv
  have hx := B.exec
  have hb := B.bytes
  have hr := B.returns
  have hts := atoms_spec (ws := (zz_ws y_Pr_stepOver b_Pr_stepOver 1 none)) B.pre
  have hown : s.vm.findClass R_Pr = some m.cls := findClass_of_methodNamed B.named
  have hlocks := B.notSynchronized
  have hT := zz_hts hts
  have X : CallFix p m c b_Pr_stepOver 1 s ([.ref qp] : List Value).toArray (zz_ws y_Pr_stepOver b_Pr_stepOver 1 none) R_Pr := ⟨hx, hb, hml, hown, hts⟩
  have hf0 : 0 + 0 ≤ (headSpec (zz_ws y_Pr_stepOver b_Pr_stepOver 1 none) rm_Pr_stepOver).room.cells ∧ 0 + 0 ≤ (headSpec (zz_ws y_Pr_stepOver b_Pr_stepOver 1 none) rm_Pr_stepOver).room.slots := ⟨Nat.le_of_ble_eq_true rfl, Nat.le_of_ble_eq_true rfl⟩
  subst hsz
  have hD := hD0.self (sz := s.heap.size)
  generalize hAe : va_A (wP qp qr qh qm qw qu qf ql qo cI ms mn g rg hq mf cd fg L O) s.heap.size = A at hD ⊢
  have hA : ∀ q : Nat, s.heap.size ≤ q → A q := fun q h => by rw [← hAe]; exact Or.inr h
  have hS : va_S A s.heap s.heap [] := va_S.rf
  have hl := lv_entry ([.ref qp]) (n := 1) (Nat.le_of_ble_eq_true rfl)
  rw [lg_entry_eq]
  generalize (lg_sl ([.ref qp]) ++ List.replicate (1 - (lg_sl ([.ref qp])).length) Slot.unset).toArray = ls at hl ⊢
  have hl : lv_has ls 1 [(0, .ref qp)] := hl
  refine lv_aload_n hx hb d_Pr_stepOver_0 rfl (lv_at hl 0 rfl) ?_
  refine lv_aload_n hx hb d_Pr_stepOver_1 rfl (lv_at hl 0 rfl) ?_
  refine g_Pr_29 (v := .int (g 1)) hx hb hT hown hK hP 0 rfl rfl d_Pr_stepOver_2 ?_
  refine lv_aload_n hx hb d_Pr_stepOver_5 rfl (lv_at hl 0 rfl) ?_
  refine g_Pr_29 (v := .int (g 1)) hx hb hT hown hK hP 0 rfl rfl d_Pr_stepOver_6 ?_
  refine lv_iconst (v := 4) hx hb d_Pr_stepOver_9 (by decide) ?_
  refine lv_iadd hx hb d_Pr_stepOver_10 ?_
  refine lv_iconst (v := 0) hx hb d_Pr_stepOver_11 (by decide) ?_
  refine zz_Wv (As := [.int (g 1), .int ((g 1) + (4 : Int32)), .int (0 : Int32)]) (rest := []) (wc := wP qp qr qh qm qw qu qf ql qo cI ms mn g rg hq mf cd fg L O) (wr := []) X hK hP hD hS hA (c_Pr_move l D cI qp qr qh qm qw qu qf ql qo ms mn g rg hq mf cd fg L O (g 1) ((g 1) + (4 : Int32)) (0 : Int32) _ h _) ⟨rfl, rfl⟩ m_Pr_move k_Pr_37 ⟨Nat.le_of_ble_eq_true rfl, Nat.le_of_ble_eq_true rfl⟩ [0, 1, 2, 3, 4, 5, 6, 7, 8] [] rfl rfl (by decide) (by decide) (by decide) 4 0 rfl rfl rfl rfl hl.1 rfl (Nat.le_of_ble_eq_true rfl) d_Pr_stepOver_12 hf0 (fun u_1 H locs h hP hD hS => ?_)
  have hP : va_P D vwCl (wP qp qr qh qm qw qu qf ql qo cI ms mn u_1.1 u_1.2.1 u_1.2.2.1 u_1.2.2.2.1 u_1.2.2.2.2.1 u_1.2.2.2.2.2.1 u_1.2.2.2.2.2.2.1 u_1.2.2.2.2.2.2.2) H := hP.sub [0, 1, 2, 3, 4, 5, 6, 7, 8] rfl
  have hD : va_D A (wP qp qr qh qm qw qu qf ql qo cI ms mn u_1.1 u_1.2.1 u_1.2.2.1 u_1.2.2.2.1 u_1.2.2.2.2.1 u_1.2.2.2.2.2.1 u_1.2.2.2.2.2.2.1 u_1.2.2.2.2.2.2.2) := hD.sub [0, 1, 2, 3, 4, 5, 6, 7, 8] (by decide) rfl
  refine lv_aload_n hx hb d_Pr_stepOver_15 rfl (lv_at hl 0 rfl) ?_
  refine lv_dup hx hb d_Pr_stepOver_16 rfl ?_
  refine g_Pr_65 (v := .int (u_1.1 7)) hx hb hT hown hK hP 0 rfl rfl d_Pr_stepOver_17 ?_
  refine lv_iconst (v := 1) hx hb d_Pr_stepOver_20 (by decide) ?_
  refine lv_iadd hx hb d_Pr_stepOver_21 ?_
  refine lv_topi (fun x_3 ex_3 => ?_)
  have h := h x_3 ex_3
  refine p_Pr_65 hx hb hT hown hK hP hD hS 0 rfl rfl d_Pr_stepOver_22 (fun H locs (hP : va_P D vwCl (wP qp qr qh qm qw qu qf ql qo cI ms mn (upd u_1.1 7 x_3) u_1.2.1 u_1.2.2.1 u_1.2.2.2.1 u_1.2.2.2.2.1 u_1.2.2.2.2.2.1 u_1.2.2.2.2.2.2.1 u_1.2.2.2.2.2.2.2) H) (hD : va_D A (wP qp qr qh qm qw qu qf ql qo cI ms mn (upd u_1.1 7 x_3) u_1.2.1 u_1.2.2.1 u_1.2.2.2.1 u_1.2.2.2.2.1 u_1.2.2.2.2.2.1 u_1.2.2.2.2.2.2.1 u_1.2.2.2.2.2.2.2)) hS => ?_)
  refine lv_aload_n hx hb d_Pr_stepOver_25 rfl (lv_at hl 0 rfl) ?_
  refine lv_iconst (v := 0) hx hb d_Pr_stepOver_26 (by decide) ?_
  refine p_Pr_45 hx hb hT hown hK hP hD hS 0 rfl rfl d_Pr_stepOver_27 (fun H locs (hP : va_P D vwCl (wP qp qr qh qm qw qu qf ql qo cI ms mn (upd (upd u_1.1 7 x_3) 5 (0 : Int32)) u_1.2.1 u_1.2.2.1 u_1.2.2.2.1 u_1.2.2.2.2.1 u_1.2.2.2.2.2.1 u_1.2.2.2.2.2.2.1 u_1.2.2.2.2.2.2.2) H) (hD : va_D A (wP qp qr qh qm qw qu qf ql qo cI ms mn (upd (upd u_1.1 7 x_3) 5 (0 : Int32)) u_1.2.1 u_1.2.2.1 u_1.2.2.2.1 u_1.2.2.2.2.1 u_1.2.2.2.2.2.1 u_1.2.2.2.2.2.2.1 u_1.2.2.2.2.2.2.2)) hS => ?_)
  exact W.vret hx hb hr (fun t ht hW => ⟨⟨((upd (upd u_1.1 7 x_3) 5 (0 : Int32)), u_1.2.1, u_1.2.2.1, u_1.2.2.2.1, u_1.2.2.2.2.1, u_1.2.2.2.2.2.1, u_1.2.2.2.2.2.2.1, u_1.2.2.2.2.2.2.2), rfl, h, by rw [ht]; exact hP, hD⟩, hS.F ht⟩) hS.2.2 d_Pr_stepOver_30
def wp_Co_held (ms : Int32) (mn : Nat) (g : Nat → Int32) (rg : Nat → Int32) (hq : Nat → Int32) (mf : Nat → Int32) (cd : Int32) (fg : Nat → Int32) (L : Int32 × Int32 × Int32 × Int64) (O : Int32 × Int32 × Int32 × Int64) (a0 : Int32) (P : Int32 → Prop) : Prop := (((32 : Int32) ≤ a0 → ((a0 = (32 : Int32) → P (hq 0)) ∧ (¬ a0 = (32 : Int32) → ((a0 = (33 : Int32) → P (hq 1)) ∧ (¬ a0 = (33 : Int32) → (((66 : Int32) ≤ a0 → P cd) ∧ (¬ (66 : Int32) ≤ a0 → ∀ x_5 : Int32, x_5 = ((a0 - (34 : Int32)) &&& (31 : Int32)) → vp_in x_5 32 ∧ ∀ x_6 : Int32, x_6 = (fg x_5.toNatClampNeg) → P x_6))))))) ∧ (¬ (32 : Int32) ≤ a0 → vp_in (a0 &&& (31 : Int32)) 32 ∧ ∀ x_7 : Int32, x_7 = (rg (a0 &&& (31 : Int32)).toNatClampNeg) → P x_7))
abbrev rm_Co_held : Room := { frames := 0, cells := 0, slots := 0, locals := 0 }
set_option maxHeartbeats 4000000 in
set_option maxRecDepth 100000 in
theorem c_Co_held (l : Launch) (D : va_G) (cI : ClassId) (qc : Nat) (qp : Nat) (qr : Nat) (qh : Nat) (qm : Nat) (qw : Nat) (qu : Nat) (qf : Nat) (ql : Nat) (qo : Nat) (ms : Int32) (mn : Nat) (g : Nat → Int32) (rg : Nat → Int32) (hq : Nat → Int32) (mf : Nat → Int32) (cd : Int32) (fg : Nat → Int32) (L : Int32 × Int32 × Int32 × Int64) (O : Int32 × Int32 × Int32 × Int64) (a0 : Int32) (P : Int32 → Prop) (h : wp_Co_held ms mn g rg hq mf cd fg L O a0 P) : Met l y_Co_held (zz_ws y_Co_held b_Co_held 2 (some .int)) rm_Co_held (va_Pc [.ref qc, .int a0] (zz_pr D [(cI, .int)] (wC qc qp qr qh qm qw qu qf ql qo cI ms mn g rg hq mf cd fg L O))) (vp_Si P) 0 0 (fun _ => False) := by
  refine Met.ofW (cc := b_Co_held) (maxL := 2) (ret := (some .int)) (by decide) rfl ?_
  intro p e s m args below meth c s₁ B hml hv
  obtain ⟨rfl, hP, hK⟩ := hv
  have hx := B.exec
  have hb := B.bytes
  have hr := B.returns
  have hts := atoms_spec (ws := (zz_ws y_Co_held b_Co_held 2 (some .int))) B.pre
  have hown : s.vm.findClass R_Co = some m.cls := findClass_of_methodNamed B.named
  have hlocks := B.notSynchronized
  have hT := zz_hts hts
  have X : CallFix p m c b_Co_held 2 s ([.ref qc, .int a0] : List Value).toArray (zz_ws y_Co_held b_Co_held 2 (some .int)) R_Co := ⟨hx, hb, hml, hown, hts⟩
  have hf0 : 0 + 0 ≤ (headSpec (zz_ws y_Co_held b_Co_held 2 (some .int)) rm_Co_held).room.cells ∧ 0 + 0 ≤ (headSpec (zz_ws y_Co_held b_Co_held 2 (some .int)) rm_Co_held).room.slots := ⟨Nat.le_of_ble_eq_true rfl, Nat.le_of_ble_eq_true rfl⟩
  have hl := lv_entry ([.ref qc, .int a0]) (n := 2) (Nat.le_of_ble_eq_true rfl)
  rw [lg_entry_eq]
  generalize (lg_sl ([.ref qc, .int a0]) ++ List.replicate (2 - (lg_sl ([.ref qc, .int a0])).length) Slot.unset).toArray = ls at hl ⊢
  have hl : lv_has ls 2 [(0, .ref qc), (1, .int a0)] := hl
  refine lv_iload_n hx hb d_Co_held_0 rfl (lv_at hl 1 rfl) ?_
  refine lv_bipush (v := 32) hx hb d_Co_held_1 (by decide) ?_
  refine lv_icmp_ge (tgt := 19) hx hb d_Co_held_3 (by decide) (fun c_1 => ?_) (fun c_1 => ?_)
  · skip
    have h := h.1 c_1
    refine lv_iload_n hx hb d_Co_held_19 rfl (lv_at hl 1 rfl) ?_
    refine lv_bipush (v := 32) hx hb d_Co_held_20 (by decide) ?_
    refine lv_icmp_ne (tgt := 36) hx hb d_Co_held_22 (by decide) (fun c_2 => ?_) (fun c_2 => ?_)
    · skip
      have h := h.2 c_2
      refine lv_iload_n hx hb d_Co_held_36 rfl (lv_at hl 1 rfl) ?_
      refine lv_bipush (v := 33) hx hb d_Co_held_37 (by decide) ?_
      refine lv_icmp_ne (tgt := 53) hx hb d_Co_held_39 (by decide) (fun c_3 => ?_) (fun c_3 => ?_)
      · skip
        have h := h.2 c_3
        refine lv_iload_n hx hb d_Co_held_53 rfl (lv_at hl 1 rfl) ?_
        refine lv_bipush (v := 66) hx hb d_Co_held_54 (by decide) ?_
        refine lv_icmp_ge (tgt := 78) hx hb d_Co_held_56 (by decide) (fun c_4 => ?_) (fun c_4 => ?_)
        · skip
          have h := h.1 c_4
          refine lv_aload_n hx hb d_Co_held_78 rfl (lv_at hl 0 rfl) ?_
          refine g_Co_23 (v := .ref qp) hx hb hT hown hK hP 0 rfl rfl d_Co_held_79 ?_
          refine g_Co_137 (v := .ref qu) hx hb hT hown hK hP 1 rfl rfl d_Co_held_82 ?_
          refine g_Co_144 (v := .int cd) hx hb hT hown hK hP 6 rfl rfl d_Co_held_85 ?_
          exact W.iret (v := cd) hx hb hr (fun t ht hW => ⟨cd,  rfl, h, ht⟩) t_nil d_Co_held_88
        · skip
          have h := h.2 c_4
          refine lv_aload_n hx hb d_Co_held_59 rfl (lv_at hl 0 rfl) ?_
          refine g_Co_23 (v := .ref qp) hx hb hT hown hK hP 0 rfl rfl d_Co_held_60 ?_
          refine g_Co_137 (v := .ref qu) hx hb hT hown hK hP 1 rfl rfl d_Co_held_63 ?_
          refine g_Co_141 (v := .ref qf) hx hb hT hown hK hP 6 rfl rfl d_Co_held_66 ?_
          refine lv_iload_n hx hb d_Co_held_69 rfl (lv_at hl 1 rfl) ?_
          refine lv_bipush (v := 34) hx hb d_Co_held_70 (by decide) ?_
          refine lv_isub hx hb d_Co_held_72 ?_
          refine lv_bipush (v := 31) hx hb d_Co_held_73 (by decide) ?_
          refine lv_iand hx hb d_Co_held_75 ?_
          refine lv_topi (fun x_5 ex_5 => ?_)
          have h := h x_5 ex_5
          refine va_iald (f := fg) hx hb hK hP 7 0 rfl rfl h.1 d_Co_held_76 ?_
          have h := h.2
          refine lv_topi (fun x_6 ex_6 => ?_)
          have h := h x_6 ex_6
          exact W.iret (v := x_6) hx hb hr (fun t ht hW => ⟨x_6,  rfl, h, ht⟩) t_nil d_Co_held_77
      · skip
        have h := h.1 c_3
        refine lv_aload_n hx hb d_Co_held_42 rfl (lv_at hl 0 rfl) ?_
        refine g_Co_23 (v := .ref qp) hx hb hT hown hK hP 0 rfl rfl d_Co_held_43 ?_
        refine g_Co_68 (v := .ref qh) hx hb hT hown hK hP 1 rfl rfl d_Co_held_46 ?_
        refine g_Co_134 (v := .int (hq 1)) hx hb hT hown hK hP 3 rfl rfl d_Co_held_49 ?_
        exact W.iret (v := (hq 1)) hx hb hr (fun t ht hW => ⟨(hq 1),  rfl, h, ht⟩) t_nil d_Co_held_52
    · skip
      have h := h.1 c_2
      refine lv_aload_n hx hb d_Co_held_25 rfl (lv_at hl 0 rfl) ?_
      refine g_Co_23 (v := .ref qp) hx hb hT hown hK hP 0 rfl rfl d_Co_held_26 ?_
      refine g_Co_68 (v := .ref qh) hx hb hT hown hK hP 1 rfl rfl d_Co_held_29 ?_
      refine g_Co_131 (v := .int (hq 0)) hx hb hT hown hK hP 3 rfl rfl d_Co_held_32 ?_
      exact W.iret (v := (hq 0)) hx hb hr (fun t ht hW => ⟨(hq 0),  rfl, h, ht⟩) t_nil d_Co_held_35
  · skip
    have h := h.2 c_1
    refine lv_aload_n hx hb d_Co_held_6 rfl (lv_at hl 0 rfl) ?_
    refine g_Co_23 (v := .ref qp) hx hb hT hown hK hP 0 rfl rfl d_Co_held_7 ?_
    refine g_Co_127 (v := .ref qr) hx hb hT hown hK hP 1 rfl rfl d_Co_held_10 ?_
    refine lv_iload_n hx hb d_Co_held_13 rfl (lv_at hl 1 rfl) ?_
    refine lv_bipush (v := 31) hx hb d_Co_held_14 (by decide) ?_
    refine lv_iand hx hb d_Co_held_16 ?_
    refine va_iald (f := rg) hx hb hK hP 2 0 rfl rfl h.1 d_Co_held_17 ?_
    have h := h.2
    refine lv_topi (fun x_7 ex_7 => ?_)
    have h := h x_7 ex_7
    exact W.iret (v := x_7) hx hb hr (fun t ht hW => ⟨x_7,  rfl, h, ht⟩) t_nil d_Co_held_18
def wp_Co_hold (ms : Int32) (mn : Nat) (g : Nat → Int32) (rg : Nat → Int32) (hq : Nat → Int32) (mf : Nat → Int32) (cd : Int32) (fg : Nat → Int32) (L : Int32 × Int32 × Int32 × Int64) (O : Int32 × Int32 × Int32 × Int64) (a0 : Int32) (a1 : Int32) (P : ((Nat → Int32) × (Nat → Int32) × (Nat → Int32) × (Nat → Int32) × Int32 × (Nat → Int32) × (Int32 × Int32 × Int32 × Int64) × (Int32 × Int32 × Int32 × Int64)) → Prop) : Prop := (((32 : Int32) ≤ a0 → ((a0 = (32 : Int32) → wp_Hl_keepHi hq a1 (fun u_9 => P (g, rg, u_9, mf, cd, fg, L, O))) ∧ (¬ a0 = (32 : Int32) → ((a0 = (33 : Int32) → wp_Hl_keepLo hq a1 (fun u_7 => P (g, rg, u_7, mf, cd, fg, L, O))) ∧ (¬ a0 = (33 : Int32) → (((66 : Int32) ≤ a0 → ∀ x_5 : Int32, x_5 = (a1 &&& (255 : Int32)) → P (g, rg, hq, mf, x_5, fg, L, O)) ∧ (¬ (66 : Int32) ≤ a0 → ∀ x_6 : Int32, x_6 = ((a0 - (34 : Int32)) &&& (31 : Int32)) → vp_in x_6 32 ∧ P (g, rg, hq, mf, cd, (upd fg x_6.toNatClampNeg a1), L, O)))))))) ∧ (¬ (32 : Int32) ≤ a0 → wp_Pr_write ms mn g rg hq mf cd fg L O a0 a1 (fun u_11 => P (u_11.1, u_11.2.1, u_11.2.2.1, u_11.2.2.2.1, u_11.2.2.2.2.1, u_11.2.2.2.2.2.1, u_11.2.2.2.2.2.2.1, u_11.2.2.2.2.2.2.2))))
abbrev rm_Co_hold : Room := { frames := 1, cells := 0, slots := 0, locals := 22 }
set_option maxHeartbeats 4000000 in
set_option maxRecDepth 100000 in
theorem c_Co_hold (l : Launch) (D : va_G) (cI : ClassId) (qc : Nat) (qp : Nat) (qr : Nat) (qh : Nat) (qm : Nat) (qw : Nat) (qu : Nat) (qf : Nat) (ql : Nat) (qo : Nat) (ms : Int32) (mn : Nat) (g : Nat → Int32) (rg : Nat → Int32) (hq : Nat → Int32) (mf : Nat → Int32) (cd : Int32) (fg : Nat → Int32) (L : Int32 × Int32 × Int32 × Int64) (O : Int32 × Int32 × Int32 × Int64) (a0 : Int32) (a1 : Int32) (P : ((Nat → Int32) × (Nat → Int32) × (Nat → Int32) × (Nat → Int32) × Int32 × (Nat → Int32) × (Int32 × Int32 × Int32 × Int64) × (Int32 × Int32 × Int32 × Int64)) → Prop) (h : wp_Co_hold ms mn g rg hq mf cd fg L O a0 a1 P) (sz : Nat) : Met l y_Co_hold (zz_ws y_Co_hold b_Co_hold 3 none) rm_Co_hold (va_Pc [.ref qc, .int a0, .int a1] (zz_pw D [(cI, .int)] (wC qc qp qr qh qm qw qu qf ql qo cI ms mn g rg hq mf cd fg L O) sz)) (va_Qv P (zz_qw D (fun u => wC qc qp qr qh qm qw qu qf ql qo cI ms mn u.1 u.2.1 u.2.2.1 u.2.2.2.1 u.2.2.2.2.1 u.2.2.2.2.2.1 u.2.2.2.2.2.2.1 u.2.2.2.2.2.2.2) (va_A (wC qc qp qr qh qm qw qu qf ql qo cI ms mn g rg hq mf cd fg L O) sz)) (va_A (wC qc qp qr qh qm qw qu qf ql qo cI ms mn g rg hq mf cd fg L O) sz)) 0 0 (va_A (wC qc qp qr qh qm qw qu qf ql qo cI ms mn g rg hq mf cd fg L O) sz) := by
  refine Met.ofW (cc := b_Co_hold) (maxL := 3) (ret := none) (by decide) rfl ?_
  intro p e s m args below meth c s₁ B hml hv
  obtain ⟨rfl, hsz, hP, hK, hD0⟩ := hv
  have hx := B.exec
  have hb := B.bytes
  have hr := B.returns
  have hts := atoms_spec (ws := (zz_ws y_Co_hold b_Co_hold 3 none)) B.pre
  have hown : s.vm.findClass R_Co = some m.cls := findClass_of_methodNamed B.named
  have hlocks := B.notSynchronized
  have hT := zz_hts hts
  have X : CallFix p m c b_Co_hold 3 s ([.ref qc, .int a0, .int a1] : List Value).toArray (zz_ws y_Co_hold b_Co_hold 3 none) R_Co := ⟨hx, hb, hml, hown, hts⟩
  have hf0 : 0 + 0 ≤ (headSpec (zz_ws y_Co_hold b_Co_hold 3 none) rm_Co_hold).room.cells ∧ 0 + 0 ≤ (headSpec (zz_ws y_Co_hold b_Co_hold 3 none) rm_Co_hold).room.slots := ⟨Nat.le_of_ble_eq_true rfl, Nat.le_of_ble_eq_true rfl⟩
  subst hsz
  have hD := hD0.self (sz := s.heap.size)
  generalize hAe : va_A (wC qc qp qr qh qm qw qu qf ql qo cI ms mn g rg hq mf cd fg L O) s.heap.size = A at hD ⊢
  have hA : ∀ q : Nat, s.heap.size ≤ q → A q := fun q h => by rw [← hAe]; exact Or.inr h
  have hS : va_S A s.heap s.heap [] := va_S.rf
  have hl := lv_entry ([.ref qc, .int a0, .int a1]) (n := 3) (Nat.le_of_ble_eq_true rfl)
  rw [lg_entry_eq]
  generalize (lg_sl ([.ref qc, .int a0, .int a1]) ++ List.replicate (3 - (lg_sl ([.ref qc, .int a0, .int a1])).length) Slot.unset).toArray = ls at hl ⊢
  have hl : lv_has ls 3 [(0, .ref qc), (1, .int a0), (2, .int a1)] := hl
  refine lv_iload_n hx hb d_Co_hold_0 rfl (lv_at hl 1 rfl) ?_
  refine lv_bipush (v := 32) hx hb d_Co_hold_1 (by decide) ?_
  refine lv_icmp_ge (tgt := 18) hx hb d_Co_hold_3 (by decide) (fun c_1 => ?_) (fun c_1 => ?_)
  · skip
    have h := h.1 c_1
    refine lv_iload_n hx hb d_Co_hold_18 rfl (lv_at hl 1 rfl) ?_
    refine lv_bipush (v := 32) hx hb d_Co_hold_19 (by decide) ?_
    refine lv_icmp_ne (tgt := 38) hx hb d_Co_hold_21 (by decide) (fun c_2 => ?_) (fun c_2 => ?_)
    · skip
      have h := h.2 c_2
      refine lv_iload_n hx hb d_Co_hold_38 rfl (lv_at hl 1 rfl) ?_
      refine lv_bipush (v := 33) hx hb d_Co_hold_39 (by decide) ?_
      refine lv_icmp_ne (tgt := 58) hx hb d_Co_hold_41 (by decide) (fun c_3 => ?_) (fun c_3 => ?_)
      · skip
        have h := h.2 c_3
        refine lv_iload_n hx hb d_Co_hold_58 rfl (lv_at hl 1 rfl) ?_
        refine lv_bipush (v := 66) hx hb d_Co_hold_59 (by decide) ?_
        refine lv_icmp_ge (tgt := 86) hx hb d_Co_hold_61 (by decide) (fun c_4 => ?_) (fun c_4 => ?_)
        · skip
          have h := h.1 c_4
          refine lv_aload_n hx hb d_Co_hold_86 rfl (lv_at hl 0 rfl) ?_
          refine g_Co_23 (v := .ref qp) hx hb hT hown hK hP 0 rfl rfl d_Co_hold_87 ?_
          refine g_Co_137 (v := .ref qu) hx hb hT hown hK hP 1 rfl rfl d_Co_hold_90 ?_
          refine lv_iload_n hx hb d_Co_hold_93 rfl (lv_at hl 2 rfl) ?_
          refine lv_sipush (v := 255) hx hb d_Co_hold_94 (by decide) ?_
          refine lv_iand hx hb d_Co_hold_97 ?_
          refine lv_topi (fun x_5 ex_5 => ?_)
          have h := h x_5 ex_5
          refine p_Co_144 hx hb hT hown hK hP hD hS 6 rfl rfl d_Co_hold_98 (fun H locs (hP : va_P D vwCl (wC qc qp qr qh qm qw qu qf ql qo cI ms mn g rg hq mf x_5 fg L O) H) (hD : va_D A (wC qc qp qr qh qm qw qu qf ql qo cI ms mn g rg hq mf x_5 fg L O)) hS => ?_)
          exact W.vret hx hb hr (fun t ht hW => ⟨⟨(g, rg, hq, mf, x_5, fg, L, O), rfl, h, by rw [ht]; exact hP, hD⟩, hS.F ht⟩) hS.2.2 d_Co_hold_101
        · skip
          have h := h.2 c_4
          refine lv_aload_n hx hb d_Co_hold_64 rfl (lv_at hl 0 rfl) ?_
          refine g_Co_23 (v := .ref qp) hx hb hT hown hK hP 0 rfl rfl d_Co_hold_65 ?_
          refine g_Co_137 (v := .ref qu) hx hb hT hown hK hP 1 rfl rfl d_Co_hold_68 ?_
          refine g_Co_141 (v := .ref qf) hx hb hT hown hK hP 6 rfl rfl d_Co_hold_71 ?_
          refine lv_iload_n hx hb d_Co_hold_74 rfl (lv_at hl 1 rfl) ?_
          refine lv_bipush (v := 34) hx hb d_Co_hold_75 (by decide) ?_
          refine lv_isub hx hb d_Co_hold_77 ?_
          refine lv_bipush (v := 31) hx hb d_Co_hold_78 (by decide) ?_
          refine lv_iand hx hb d_Co_hold_80 ?_
          refine lv_topi (fun x_6 ex_6 => ?_)
          have h := h x_6 ex_6
          refine lv_iload_n hx hb d_Co_hold_81 rfl (lv_at hl 2 rfl) ?_
          refine va_iast (f := fg) hx hb hK hP hD hS 7 0 rfl rfl h.1 d_Co_hold_82 (fun H locs (hP : va_P D vwCl (wC qc qp qr qh qm qw qu qf ql qo cI ms mn g rg hq mf cd (upd fg x_6.toNatClampNeg a1) L O) H) (hD : va_D A (wC qc qp qr qh qm qw qu qf ql qo cI ms mn g rg hq mf cd (upd fg x_6.toNatClampNeg a1) L O)) hS => ?_)
          have h := h.2
          refine lv_goto (tgt := 101) hx hb d_Co_hold_83 (by decide) ?_
          exact W.vret hx hb hr (fun t ht hW => ⟨⟨(g, rg, hq, mf, cd, (upd fg x_6.toNatClampNeg a1), L, O), rfl, h, by rw [ht]; exact hP, hD⟩, hS.F ht⟩) hS.2.2 d_Co_hold_101
      · skip
        have h := h.1 c_3
        refine lv_aload_n hx hb d_Co_hold_44 rfl (lv_at hl 0 rfl) ?_
        refine g_Co_23 (v := .ref qp) hx hb hT hown hK hP 0 rfl rfl d_Co_hold_45 ?_
        refine g_Co_68 (v := .ref qh) hx hb hT hown hK hP 1 rfl rfl d_Co_hold_48 ?_
        refine lv_iload_n hx hb d_Co_hold_51 rfl (lv_at hl 2 rfl) ?_
        refine zz_Wv (As := [.int a1]) (rest := []) (wc := wH qh hq) (wr := [(qc, .inr (5, [.ref qm, .ref qp])), (qp, .inr (4, [.ref qm, .ref qr, .ref qh, .ref qu, .int (g 0), .int (g 1), .int (g 2), .int (g 3), .int (g 4), .int (g 5), .int (g 6), .int (g 7), .int (g 8), .int (g 9), .int (g 10), .int (g 11)])), (qr, .inl (cI, 32, .inl rg)), (qm, .inr (3, [.int ms, .ref qw])), (qw, .inl (cI, mn, .inl mf)), (qu, .inr (1, [.ref qf, .int cd, .ref ql, .ref qo])), (qf, .inl (cI, 32, .inl fg)), (ql, .inr (0, [.int L.1, .int L.2.1, .int L.2.2.1, .long L.2.2.2])), (qo, .inr (0, [.int O.1, .int O.2.1, .int O.2.2.1, .long O.2.2.2]))]) X hK hP hD hS hA (c_Hl_keepLo l D cI qh hq a1 _ h _) ⟨rfl, rfl⟩ m_Hl_keepLo k_Co_152 ⟨Nat.le_of_ble_eq_true rfl, Nat.le_of_ble_eq_true rfl⟩ [3] [0, 1, 2, 4, 5, 6, 7, 8, 9] rfl rfl (by decide) (by decide) (by decide) 2 3 rfl rfl rfl rfl hl.1 rfl (Nat.le_of_ble_eq_true rfl) d_Co_hold_52 hf0 (fun u_7 H locs h hP hD hS => ?_)
        have hP : va_P D vwCl (wC qc qp qr qh qm qw qu qf ql qo cI ms mn g rg u_7 mf cd fg L O) H := hP.sub [0, 1, 2, 9, 3, 4, 5, 6, 7, 8] rfl
        have hD : va_D A (wC qc qp qr qh qm qw qu qf ql qo cI ms mn g rg u_7 mf cd fg L O) := hD.sub [0, 1, 2, 9, 3, 4, 5, 6, 7, 8] (by decide) rfl
        refine lv_goto (tgt := 101) hx hb d_Co_hold_55 (by decide) ?_
        exact W.vret hx hb hr (fun t ht hW => ⟨⟨(g, rg, u_7, mf, cd, fg, L, O), rfl, h, by rw [ht]; exact hP, hD⟩, hS.F ht⟩) hS.2.2 d_Co_hold_101
    · skip
      have h := h.1 c_2
      refine lv_aload_n hx hb d_Co_hold_24 rfl (lv_at hl 0 rfl) ?_
      refine g_Co_23 (v := .ref qp) hx hb hT hown hK hP 0 rfl rfl d_Co_hold_25 ?_
      refine g_Co_68 (v := .ref qh) hx hb hT hown hK hP 1 rfl rfl d_Co_hold_28 ?_
      refine lv_iload_n hx hb d_Co_hold_31 rfl (lv_at hl 2 rfl) ?_
      refine zz_Wv (As := [.int a1]) (rest := []) (wc := wH qh hq) (wr := [(qc, .inr (5, [.ref qm, .ref qp])), (qp, .inr (4, [.ref qm, .ref qr, .ref qh, .ref qu, .int (g 0), .int (g 1), .int (g 2), .int (g 3), .int (g 4), .int (g 5), .int (g 6), .int (g 7), .int (g 8), .int (g 9), .int (g 10), .int (g 11)])), (qr, .inl (cI, 32, .inl rg)), (qm, .inr (3, [.int ms, .ref qw])), (qw, .inl (cI, mn, .inl mf)), (qu, .inr (1, [.ref qf, .int cd, .ref ql, .ref qo])), (qf, .inl (cI, 32, .inl fg)), (ql, .inr (0, [.int L.1, .int L.2.1, .int L.2.2.1, .long L.2.2.2])), (qo, .inr (0, [.int O.1, .int O.2.1, .int O.2.2.1, .long O.2.2.2]))]) X hK hP hD hS hA (c_Hl_keepHi l D cI qh hq a1 _ h _) ⟨rfl, rfl⟩ m_Hl_keepHi k_Co_149 ⟨Nat.le_of_ble_eq_true rfl, Nat.le_of_ble_eq_true rfl⟩ [3] [0, 1, 2, 4, 5, 6, 7, 8, 9] rfl rfl (by decide) (by decide) (by decide) 2 3 rfl rfl rfl rfl hl.1 rfl (Nat.le_of_ble_eq_true rfl) d_Co_hold_32 hf0 (fun u_9 H locs h hP hD hS => ?_)
      have hP : va_P D vwCl (wC qc qp qr qh qm qw qu qf ql qo cI ms mn g rg u_9 mf cd fg L O) H := hP.sub [0, 1, 2, 9, 3, 4, 5, 6, 7, 8] rfl
      have hD : va_D A (wC qc qp qr qh qm qw qu qf ql qo cI ms mn g rg u_9 mf cd fg L O) := hD.sub [0, 1, 2, 9, 3, 4, 5, 6, 7, 8] (by decide) rfl
      refine lv_goto (tgt := 101) hx hb d_Co_hold_35 (by decide) ?_
      exact W.vret hx hb hr (fun t ht hW => ⟨⟨(g, rg, u_9, mf, cd, fg, L, O), rfl, h, by rw [ht]; exact hP, hD⟩, hS.F ht⟩) hS.2.2 d_Co_hold_101
  · skip
    have h := h.2 c_1
    refine lv_aload_n hx hb d_Co_hold_6 rfl (lv_at hl 0 rfl) ?_
    refine g_Co_23 (v := .ref qp) hx hb hT hown hK hP 0 rfl rfl d_Co_hold_7 ?_
    refine lv_iload_n hx hb d_Co_hold_10 rfl (lv_at hl 1 rfl) ?_
    refine lv_iload_n hx hb d_Co_hold_11 rfl (lv_at hl 2 rfl) ?_
    refine zz_Wv (As := [.int a0, .int a1]) (rest := []) (wc := wP qp qr qh qm qw qu qf ql qo cI ms mn g rg hq mf cd fg L O) (wr := [(qc, .inr (5, [.ref qm, .ref qp]))]) X hK hP hD hS hA (c_Pr_write l D cI qp qr qh qm qw qu qf ql qo ms mn g rg hq mf cd fg L O a0 a1 _ h _) ⟨rfl, rfl⟩ m_Pr_write k_Co_147 ⟨Nat.le_of_ble_eq_true rfl, Nat.le_of_ble_eq_true rfl⟩ [1, 2, 3, 4, 5, 6, 7, 8, 9] [0] rfl rfl (by decide) (by decide) (by decide) 4 1 rfl rfl rfl rfl hl.1 rfl (Nat.le_of_ble_eq_true rfl) d_Co_hold_12 hf0 (fun u_11 H locs h hP hD hS => ?_)
    have hP : va_P D vwCl (wC qc qp qr qh qm qw qu qf ql qo cI ms mn u_11.1 u_11.2.1 u_11.2.2.1 u_11.2.2.2.1 u_11.2.2.2.2.1 u_11.2.2.2.2.2.1 u_11.2.2.2.2.2.2.1 u_11.2.2.2.2.2.2.2) H := hP.sub [0, 1, 2, 3, 4, 5, 6, 7, 8, 9] rfl
    have hD : va_D A (wC qc qp qr qh qm qw qu qf ql qo cI ms mn u_11.1 u_11.2.1 u_11.2.2.1 u_11.2.2.2.1 u_11.2.2.2.2.1 u_11.2.2.2.2.2.1 u_11.2.2.2.2.2.2.1 u_11.2.2.2.2.2.2.2) := hD.sub [0, 1, 2, 3, 4, 5, 6, 7, 8, 9] (by decide) rfl
    refine lv_goto (tgt := 101) hx hb d_Co_hold_15 (by decide) ?_
    exact W.vret hx hb hr (fun t ht hW => ⟨⟨(u_11.1, u_11.2.1, u_11.2.2.1, u_11.2.2.2.1, u_11.2.2.2.2.1, u_11.2.2.2.2.2.1, u_11.2.2.2.2.2.2.1, u_11.2.2.2.2.2.2.2), rfl, h, by rw [ht]; exact hP, hD⟩, hS.F ht⟩) hS.2.2 d_Co_hold_101
def wp_Co_end (ms : Int32) (mn : Nat) (g : Nat → Int32) (rg : Nat → Int32) (hq : Nat → Int32) (mf : Nat → Int32) (cd : Int32) (fg : Nat → Int32) (L : Int32 × Int32 × Int32 × Int64) (O : Int32 × Int32 × Int32 × Int64) (P : Int32 → Prop) : Prop := P (g 5)
abbrev rm_Co_end : Room := { frames := 0, cells := 0, slots := 0, locals := 0 }
set_option maxHeartbeats 4000000 in
set_option maxRecDepth 100000 in
theorem c_Co_end (l : Launch) (D : va_G) (cI : ClassId) (qc : Nat) (qp : Nat) (qr : Nat) (qh : Nat) (qm : Nat) (qw : Nat) (qu : Nat) (qf : Nat) (ql : Nat) (qo : Nat) (ms : Int32) (mn : Nat) (g : Nat → Int32) (rg : Nat → Int32) (hq : Nat → Int32) (mf : Nat → Int32) (cd : Int32) (fg : Nat → Int32) (L : Int32 × Int32 × Int32 × Int64) (O : Int32 × Int32 × Int32 × Int64) (P : Int32 → Prop) (h : wp_Co_end ms mn g rg hq mf cd fg L O P) : Met l y_Co_end (zz_ws y_Co_end b_Co_end 1 (some .int)) rm_Co_end (va_Pc [.ref qc] (zz_pr D [(cI, .int)] (wC qc qp qr qh qm qw qu qf ql qo cI ms mn g rg hq mf cd fg L O))) (vp_Si P) 0 0 (fun _ => False) := by
  refine Met.ofW (cc := b_Co_end) (maxL := 1) (ret := (some .int)) (by decide) rfl ?_
  intro p e s m args below meth c s₁ B hml hv
  obtain ⟨rfl, hP, hK⟩ := hv
  have hx := B.exec
  have hb := B.bytes
  have hr := B.returns
  have hts := atoms_spec (ws := (zz_ws y_Co_end b_Co_end 1 (some .int))) B.pre
  have hown : s.vm.findClass R_Co = some m.cls := findClass_of_methodNamed B.named
  have hlocks := B.notSynchronized
  have hT := zz_hts hts
  have X : CallFix p m c b_Co_end 1 s ([.ref qc] : List Value).toArray (zz_ws y_Co_end b_Co_end 1 (some .int)) R_Co := ⟨hx, hb, hml, hown, hts⟩
  have hf0 : 0 + 0 ≤ (headSpec (zz_ws y_Co_end b_Co_end 1 (some .int)) rm_Co_end).room.cells ∧ 0 + 0 ≤ (headSpec (zz_ws y_Co_end b_Co_end 1 (some .int)) rm_Co_end).room.slots := ⟨Nat.le_of_ble_eq_true rfl, Nat.le_of_ble_eq_true rfl⟩
  have hl := lv_entry ([.ref qc]) (n := 1) (Nat.le_of_ble_eq_true rfl)
  rw [lg_entry_eq]
  generalize (lg_sl ([.ref qc]) ++ List.replicate (1 - (lg_sl ([.ref qc])).length) Slot.unset).toArray = ls at hl ⊢
  have hl : lv_has ls 1 [(0, .ref qc)] := hl
  refine lv_aload_n hx hb d_Co_end_0 rfl (lv_at hl 0 rfl) ?_
  refine g_Co_23 (v := .ref qp) hx hb hT hown hK hP 0 rfl rfl d_Co_end_1 ?_
  refine g_Co_88 (v := .int (g 5)) hx hb hT hown hK hP 1 rfl rfl d_Co_end_4 ?_
  exact W.iret (v := (g 5)) hx hb hr (fun t ht hW => ⟨(g 5),  rfl, h, ht⟩) t_nil d_Co_end_7
