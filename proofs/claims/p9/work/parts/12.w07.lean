def wp_Pr_regimm (ms : Int32) (mn : Nat) (g : Nat → Int32) (rg : Nat → Int32) (hq : Nat → Int32) (mf : Nat → Int32) (cd : Int32) (fg : Nat → Int32) (L : Int32 × Int32 × Int32 × Int64) (O : Int32 × Int32 × Int32 × Int64) (a0 : Int32) (P : Int32 → ((Nat → Int32) × (Nat → Int32) × (Nat → Int32) × (Nat → Int32) × Int32 × (Nat → Int32) × (Int32 × Int32 × Int32 × Int64) × (Int32 × Int32 × Int32 × Int64)) → Prop) : Prop := wp_Pr_rt a0 (fun r_1 => ((((zz_ushr r_1 (2 : Int32)) = (0 : Int32) ∨ (zz_ushr r_1 (2 : Int32)) = (4 : Int32)) → wp_Pr_branchOnSign ms mn g rg hq mf cd fg L O a0 (fun r_4 u_3 => P r_4 (u_3.1, u_3.2.1, u_3.2.2.1, u_3.2.2.2.1, u_3.2.2.2.2.1, u_3.2.2.2.2.2.1, u_3.2.2.2.2.2.2.1, u_3.2.2.2.2.2.2.2))) ∧ (¬ ((zz_ushr r_1 (2 : Int32)) = (0 : Int32) ∨ (zz_ushr r_1 (2 : Int32)) = (4 : Int32)) → ((((zz_ushr r_1 (2 : Int32)) = (2 : Int32) ∨ (zz_ushr r_1 (2 : Int32)) = (3 : Int32)) → wp_Pr_rt a0 (fun r_6 => wp_Pr_rs a0 (fun r_7 => vp_in r_7 32 ∧ ∀ x_8 : Int32, x_8 = (rg r_7.toNatClampNeg) → wp_Pr_signed a0 (fun r_9 => wp_Pr_trap ms mn g rg hq mf cd fg L O (r_6 &&& (7 : Int32)) x_8 r_9 (fun r_10 => P r_10 (g, rg, hq, mf, cd, fg, L, O)))))) ∧ (¬ ((zz_ushr r_1 (2 : Int32)) = (2 : Int32) ∨ (zz_ushr r_1 (2 : Int32)) = (3 : Int32)) → P (3 : Int32) (g, rg, hq, mf, cd, fg, L, O))))))
abbrev rm_Pr_regimm : Room := { frames := 4, cells := 0, slots := 0, locals := 91 }
set_option maxHeartbeats 4000000 in
set_option maxRecDepth 100000 in
theorem c_Pr_regimm (l : Launch) (D : va_G) (cI : ClassId) (qp : Nat) (qr : Nat) (qh : Nat) (qm : Nat) (qw : Nat) (qu : Nat) (qf : Nat) (ql : Nat) (qo : Nat) (ms : Int32) (mn : Nat) (g : Nat → Int32) (rg : Nat → Int32) (hq : Nat → Int32) (mf : Nat → Int32) (cd : Int32) (fg : Nat → Int32) (L : Int32 × Int32 × Int32 × Int64) (O : Int32 × Int32 × Int32 × Int64) (a0 : Int32) (P : Int32 → ((Nat → Int32) × (Nat → Int32) × (Nat → Int32) × (Nat → Int32) × Int32 × (Nat → Int32) × (Int32 × Int32 × Int32 × Int64) × (Int32 × Int32 × Int32 × Int64)) → Prop) (h : wp_Pr_regimm ms mn g rg hq mf cd fg L O a0 P) (sz : Nat) : Met l y_Pr_regimm (zz_ws y_Pr_regimm b_Pr_regimm 2 (some .int)) rm_Pr_regimm (va_Pc [.ref qp, .int a0] (zz_pw D [(cI, .int)] (wP qp qr qh qm qw qu qf ql qo cI ms mn g rg hq mf cd fg L O) sz)) (va_Qi P (zz_qw D (fun u => wP qp qr qh qm qw qu qf ql qo cI ms mn u.1 u.2.1 u.2.2.1 u.2.2.2.1 u.2.2.2.2.1 u.2.2.2.2.2.1 u.2.2.2.2.2.2.1 u.2.2.2.2.2.2.2) (va_A (wP qp qr qh qm qw qu qf ql qo cI ms mn g rg hq mf cd fg L O) sz)) (va_A (wP qp qr qh qm qw qu qf ql qo cI ms mn g rg hq mf cd fg L O) sz)) 0 0 (va_A (wP qp qr qh qm qw qu qf ql qo cI ms mn g rg hq mf cd fg L O) sz) := by
  refine Met.ofW (cc := b_Pr_regimm) (maxL := 2) (ret := (some .int)) (by decide) rfl ?_
  intro p e s m args below meth c s₁ B hml hv
  obtain ⟨rfl, hsz, hP, hK, hD0⟩ := hv
  have hx := B.exec
  have hb := B.bytes
  have hr := B.returns
  have hts := atoms_spec (ws := (zz_ws y_Pr_regimm b_Pr_regimm 2 (some .int))) B.pre
  have hown : s.vm.findClass R_Pr = some m.cls := findClass_of_methodNamed B.named
  have hlocks := B.notSynchronized
  have hT := zz_hts hts
  have X : CallFix p m c b_Pr_regimm 2 s ([.ref qp, .int a0] : List Value).toArray (zz_ws y_Pr_regimm b_Pr_regimm 2 (some .int)) R_Pr := ⟨hx, hb, hml, hown, hts⟩
  have hf0 : 0 + 0 ≤ (headSpec (zz_ws y_Pr_regimm b_Pr_regimm 2 (some .int)) rm_Pr_regimm).room.cells ∧ 0 + 0 ≤ (headSpec (zz_ws y_Pr_regimm b_Pr_regimm 2 (some .int)) rm_Pr_regimm).room.slots := ⟨Nat.le_of_ble_eq_true rfl, Nat.le_of_ble_eq_true rfl⟩
  subst hsz
  have hD := hD0.self (sz := s.heap.size)
  generalize hAe : va_A (wP qp qr qh qm qw qu qf ql qo cI ms mn g rg hq mf cd fg L O) s.heap.size = A at hD ⊢
  have hA : ∀ q : Nat, s.heap.size ≤ q → A q := fun q h => by rw [← hAe]; exact Or.inr h
  have hS : va_S A s.heap s.heap [] := va_S.rf
  have hl := lv_entry ([.ref qp, .int a0]) (n := 2) (Nat.le_of_ble_eq_true rfl)
  rw [lg_entry_eq]
  generalize (lg_sl ([.ref qp, .int a0]) ++ List.replicate (2 - (lg_sl ([.ref qp, .int a0])).length) Slot.unset).toArray = ls at hl ⊢
  have hl : lv_has ls 2 [(0, .ref qp), (1, .int a0)] := hl
  refine lv_iload_n hx hb d_Pr_regimm_0 rfl (lv_at hl 1 rfl) ?_
  refine zz_Si (As := [.int a0]) (rest := []) X (c_Pr_rt l a0 _ h) ⟨rfl, rfl⟩ m_Pr_rt k_Pr_89 ⟨Nat.le_of_ble_eq_true rfl, Nat.le_of_ble_eq_true rfl⟩ rfl hl.1 rfl (Nat.le_of_ble_eq_true rfl) d_Pr_regimm_1 hf0 (fun r_1 h => ?_)
  refine lv_iconst (v := 2) hx hb d_Pr_regimm_4 (by decide) ?_
  refine zz_iushr hx hb d_Pr_regimm_5 ?_
  by_cases c_2 : (zz_ushr r_1 (2 : Int32)) = (0 : Int32) ∨ (zz_ushr r_1 (2 : Int32)) = (4 : Int32)
  · have h := h.1 c_2
    have h0 := c_2
    refine lv_tableIn (off := 34) (tgt := 40) hx hb d_Pr_regimm_6 (by rcases h0 with h0 | h0 <;> (rw [h0]; decide)) (by rcases h0 with h0 | h0 <;> (rw [h0]; decide)) (by rcases h0 with h0 | h0 <;> (rw [h0]; rfl)) (by decide) ?_
    refine lv_aload_n hx hb d_Pr_regimm_40 rfl (lv_at hl 0 rfl) ?_
    refine lv_iload_n hx hb d_Pr_regimm_41 rfl (lv_at hl 1 rfl) ?_
    refine zz_Wi (As := [.int a0]) (rest := []) (wc := wP qp qr qh qm qw qu qf ql qo cI ms mn g rg hq mf cd fg L O) (wr := []) X hK hP hD hS hA (c_Pr_branchOnSign l D cI qp qr qh qm qw qu qf ql qo ms mn g rg hq mf cd fg L O a0 _ h _) ⟨rfl, rfl⟩ m_Pr_branchOnSign k_Pr_242 ⟨Nat.le_of_ble_eq_true rfl, Nat.le_of_ble_eq_true rfl⟩ [0, 1, 2, 3, 4, 5, 6, 7, 8] [] rfl rfl (by decide) (by decide) (by decide) 4 0 rfl rfl rfl rfl hl.1 rfl (Nat.le_of_ble_eq_true rfl) d_Pr_regimm_42 hf0 (fun r_4 u_3 H locs h hP hD hS => ?_)
    have hP : va_P D vwCl (wP qp qr qh qm qw qu qf ql qo cI ms mn u_3.1 u_3.2.1 u_3.2.2.1 u_3.2.2.2.1 u_3.2.2.2.2.1 u_3.2.2.2.2.2.1 u_3.2.2.2.2.2.2.1 u_3.2.2.2.2.2.2.2) H := hP.sub [0, 1, 2, 3, 4, 5, 6, 7, 8] rfl
    have hD : va_D A (wP qp qr qh qm qw qu qf ql qo cI ms mn u_3.1 u_3.2.1 u_3.2.2.1 u_3.2.2.2.1 u_3.2.2.2.2.1 u_3.2.2.2.2.2.1 u_3.2.2.2.2.2.2.1 u_3.2.2.2.2.2.2.2) := hD.sub [0, 1, 2, 3, 4, 5, 6, 7, 8] (by decide) rfl
    exact W.iret (v := r_4) hx hb hr (fun t ht hW => ⟨⟨r_4, (u_3.1, u_3.2.1, u_3.2.2.1, u_3.2.2.2.1, u_3.2.2.2.2.1, u_3.2.2.2.2.2.1, u_3.2.2.2.2.2.2.1, u_3.2.2.2.2.2.2.2), rfl, h, by rw [ht]; exact hP, hD⟩, hS.F ht⟩) hS.2.2 d_Pr_regimm_45
  · have h := h.2 c_2
    by_cases c_5 : (zz_ushr r_1 (2 : Int32)) = (2 : Int32) ∨ (zz_ushr r_1 (2 : Int32)) = (3 : Int32)
    · have h := h.1 c_5
      have h0 := c_5
      refine lv_tableIn (off := 40) (tgt := 46) hx hb d_Pr_regimm_6 (by rcases h0 with h0 | h0 <;> (rw [h0]; decide)) (by rcases h0 with h0 | h0 <;> (rw [h0]; decide)) (by rcases h0 with h0 | h0 <;> (rw [h0]; rfl)) (by decide) ?_
      refine lv_aload_n hx hb d_Pr_regimm_46 rfl (lv_at hl 0 rfl) ?_
      refine lv_iload_n hx hb d_Pr_regimm_47 rfl (lv_at hl 1 rfl) ?_
      refine zz_Si (As := [.int a0]) (rest := [.ref qp]) X (c_Pr_rt l a0 _ h) ⟨rfl, rfl⟩ m_Pr_rt k_Pr_89 ⟨Nat.le_of_ble_eq_true rfl, Nat.le_of_ble_eq_true rfl⟩ rfl hl.1 rfl (Nat.le_of_ble_eq_true rfl) d_Pr_regimm_48 hf0 (fun r_6 h => ?_)
      refine lv_bipush (v := 7) hx hb d_Pr_regimm_51 (by decide) ?_
      refine lv_iand hx hb d_Pr_regimm_53 ?_
      refine lv_aload_n hx hb d_Pr_regimm_54 rfl (lv_at hl 0 rfl) ?_
      refine g_Pr_9 (v := .ref qr) hx hb hT hown hK hP 0 rfl rfl d_Pr_regimm_55 ?_
      refine lv_iload_n hx hb d_Pr_regimm_58 rfl (lv_at hl 1 rfl) ?_
      refine zz_Si (As := [.int a0]) (rest := [.ref qr, .int (r_6 &&& (7 : Int32)), .ref qp]) X (c_Pr_rs l a0 _ h) ⟨rfl, rfl⟩ m_Pr_rs k_Pr_83 ⟨Nat.le_of_ble_eq_true rfl, Nat.le_of_ble_eq_true rfl⟩ rfl hl.1 rfl (Nat.le_of_ble_eq_true rfl) d_Pr_regimm_59 hf0 (fun r_7 h => ?_)
      refine va_iald (f := rg) hx hb hK hP 1 0 rfl rfl h.1 d_Pr_regimm_62 ?_
      have h := h.2
      refine lv_topi (fun x_8 ex_8 => ?_)
      have h := h x_8 ex_8
      refine lv_iload_n hx hb d_Pr_regimm_63 rfl (lv_at hl 1 rfl) ?_
      refine zz_Si (As := [.int a0]) (rest := [.int x_8, .int (r_6 &&& (7 : Int32)), .ref qp]) X (c_Pr_signed l a0 _ h) ⟨rfl, rfl⟩ m_Pr_signed k_Pr_221 ⟨Nat.le_of_ble_eq_true rfl, Nat.le_of_ble_eq_true rfl⟩ rfl hl.1 rfl (Nat.le_of_ble_eq_true rfl) d_Pr_regimm_64 hf0 (fun r_9 h => ?_)
      refine zz_Ri (As := [.int (r_6 &&& (7 : Int32)), .int x_8, .int r_9]) (rest := []) (wc := wP qp qr qh qm qw qu qf ql qo cI ms mn g rg hq mf cd fg L O) X hK hP (c_Pr_trap l D cI qp qr qh qm qw qu qf ql qo ms mn g rg hq mf cd fg L O (r_6 &&& (7 : Int32)) x_8 r_9 _ h) ⟨rfl, rfl⟩ m_Pr_trap k_Pr_154 ⟨Nat.le_of_ble_eq_true rfl, Nat.le_of_ble_eq_true rfl⟩ [0, 1, 2, 3, 4, 5, 6, 7, 8] rfl 4 0 rfl rfl rfl rfl hl.1 rfl (Nat.le_of_ble_eq_true rfl) d_Pr_regimm_67 hf0 (fun r_10 h => ?_)
      exact W.iret (v := r_10) hx hb hr (fun t ht hW => ⟨⟨r_10, (g, rg, hq, mf, cd, fg, L, O), rfl, h, by rw [ht]; exact hP, hD⟩, hS.F ht⟩) hS.2.2 d_Pr_regimm_70
    · have h := h.2 c_5
      refine zz_swD (tgt := 71) hx hb [0, 4, 2, 3] d_Pr_regimm_6 (by decide +kernel) (by decide) (List.forall_mem_cons.mpr ⟨lv_neT (k := 0) (fun q => c_2 (Or.inl q)) (by decide), List.forall_mem_cons.mpr ⟨lv_neT (k := 4) (fun q => c_2 (Or.inr (q))) (by decide), List.forall_mem_cons.mpr ⟨lv_neT (k := 2) (fun q => c_5 (Or.inl q)) (by decide), List.forall_mem_cons.mpr ⟨lv_neT (k := 3) (fun q => c_5 (Or.inr (q))) (by decide), fun _ h9 => nomatch h9⟩⟩⟩⟩) (by decide) ?_
      refine lv_iconst (v := 3) hx hb d_Pr_regimm_71 (by decide) ?_
      exact W.iret (v := (3 : Int32)) hx hb hr (fun t ht hW => ⟨⟨(3 : Int32), (g, rg, hq, mf, cd, fg, L, O), rfl, h, by rw [ht]; exact hP, hD⟩, hS.F ht⟩) hS.2.2 d_Pr_regimm_72
def wp_Pr_accumulate (ms : Int32) (mn : Nat) (g : Nat → Int32) (rg : Nat → Int32) (hq : Nat → Int32) (mf : Nat → Int32) (cd : Int32) (fg : Nat → Int32) (L : Int32 × Int32 × Int32 × Int64) (O : Int32 × Int32 × Int32 × Int64) (a0 : Int64) (P : Int32 → ((Nat → Int32) × (Nat → Int32) × (Nat → Int32) × (Nat → Int32) × Int32 × (Nat → Int32) × (Int32 × Int32 × Int32 × Int64) × (Int32 × Int32 × Int32 × Int64)) → Prop) : Prop := wp_Hl_known hq (fun r_1 => ((r_1 = (0 : Int32) → P (8 : Int32) (g, rg, hq, mf, cd, fg, L, O)) ∧ (¬ r_1 = (0 : Int32) → wp_Hl_both hq (fun r_3 => wp_Hl_keep hq (r_3 + a0) (fun u_4 => P (0 : Int32) (g, rg, u_4, mf, cd, fg, L, O))))))
abbrev rm_Pr_accumulate : Room := { frames := 2, cells := 0, slots := 0, locals := 43 }
set_option maxHeartbeats 4000000 in
set_option maxRecDepth 100000 in
theorem c_Pr_accumulate (l : Launch) (D : va_G) (cI : ClassId) (qp : Nat) (qr : Nat) (qh : Nat) (qm : Nat) (qw : Nat) (qu : Nat) (qf : Nat) (ql : Nat) (qo : Nat) (ms : Int32) (mn : Nat) (g : Nat → Int32) (rg : Nat → Int32) (hq : Nat → Int32) (mf : Nat → Int32) (cd : Int32) (fg : Nat → Int32) (L : Int32 × Int32 × Int32 × Int64) (O : Int32 × Int32 × Int32 × Int64) (a0 : Int64) (P : Int32 → ((Nat → Int32) × (Nat → Int32) × (Nat → Int32) × (Nat → Int32) × Int32 × (Nat → Int32) × (Int32 × Int32 × Int32 × Int64) × (Int32 × Int32 × Int32 × Int64)) → Prop) (h : wp_Pr_accumulate ms mn g rg hq mf cd fg L O a0 P) (sz : Nat) : Met l y_Pr_accumulate (zz_ws y_Pr_accumulate b_Pr_accumulate 3 (some .int)) rm_Pr_accumulate (va_Pc [.ref qp, .long a0] (zz_pw D [(cI, .int)] (wP qp qr qh qm qw qu qf ql qo cI ms mn g rg hq mf cd fg L O) sz)) (va_Qi P (zz_qw D (fun u => wP qp qr qh qm qw qu qf ql qo cI ms mn u.1 u.2.1 u.2.2.1 u.2.2.2.1 u.2.2.2.2.1 u.2.2.2.2.2.1 u.2.2.2.2.2.2.1 u.2.2.2.2.2.2.2) (va_A (wP qp qr qh qm qw qu qf ql qo cI ms mn g rg hq mf cd fg L O) sz)) (va_A (wP qp qr qh qm qw qu qf ql qo cI ms mn g rg hq mf cd fg L O) sz)) 0 0 (va_A (wP qp qr qh qm qw qu qf ql qo cI ms mn g rg hq mf cd fg L O) sz) := by
  refine Met.ofW (cc := b_Pr_accumulate) (maxL := 3) (ret := (some .int)) (by decide) rfl ?_
  intro p e s m args below meth c s₁ B hml hv
  obtain ⟨rfl, hsz, hP, hK, hD0⟩ := hv
  have hx := B.exec
  have hb := B.bytes
  have hr := B.returns
  have hts := atoms_spec (ws := (zz_ws y_Pr_accumulate b_Pr_accumulate 3 (some .int))) B.pre
  have hown : s.vm.findClass R_Pr = some m.cls := findClass_of_methodNamed B.named
  have hlocks := B.notSynchronized
  have hT := zz_hts hts
  have X : CallFix p m c b_Pr_accumulate 3 s ([.ref qp, .long a0] : List Value).toArray (zz_ws y_Pr_accumulate b_Pr_accumulate 3 (some .int)) R_Pr := ⟨hx, hb, hml, hown, hts⟩
  have hf0 : 0 + 0 ≤ (headSpec (zz_ws y_Pr_accumulate b_Pr_accumulate 3 (some .int)) rm_Pr_accumulate).room.cells ∧ 0 + 0 ≤ (headSpec (zz_ws y_Pr_accumulate b_Pr_accumulate 3 (some .int)) rm_Pr_accumulate).room.slots := ⟨Nat.le_of_ble_eq_true rfl, Nat.le_of_ble_eq_true rfl⟩
  subst hsz
  have hD := hD0.self (sz := s.heap.size)
  generalize hAe : va_A (wP qp qr qh qm qw qu qf ql qo cI ms mn g rg hq mf cd fg L O) s.heap.size = A at hD ⊢
  have hA : ∀ q : Nat, s.heap.size ≤ q → A q := fun q h => by rw [← hAe]; exact Or.inr h
  have hS : va_S A s.heap s.heap [] := va_S.rf
  have hl := lv_entry ([.ref qp, .long a0]) (n := 3) (Nat.le_of_ble_eq_true rfl)
  rw [lg_entry_eq]
  generalize (lg_sl ([.ref qp, .long a0]) ++ List.replicate (3 - (lg_sl ([.ref qp, .long a0])).length) Slot.unset).toArray = ls at hl ⊢
  have hl : lv_has ls 3 [(0, .ref qp), (1, .long a0)] := hl
  refine lv_aload_n hx hb d_Pr_accumulate_0 rfl (lv_at hl 0 rfl) ?_
  refine g_Pr_18 (v := .ref qh) hx hb hT hown hK hP 0 rfl rfl d_Pr_accumulate_1 ?_
  refine zz_Ri (As := []) (rest := []) (wc := wH qh hq) X hK hP (c_Hl_known l D cI qh hq _ h) ⟨rfl, rfl⟩ m_Hl_known k_Pr_234 ⟨Nat.le_of_ble_eq_true rfl, Nat.le_of_ble_eq_true rfl⟩ [2] rfl 2 2 rfl rfl rfl rfl hl.1 rfl (Nat.le_of_ble_eq_true rfl) d_Pr_accumulate_4 hf0 (fun r_1 h => ?_)
  refine lv_if_ne (tgt := 13) hx hb d_Pr_accumulate_7 (by decide) (fun c_2 => ?_) (fun c_2 => ?_)
  · skip
    have h := h.2 c_2
    refine lv_aload_n hx hb d_Pr_accumulate_13 rfl (lv_at hl 0 rfl) ?_
    refine g_Pr_18 (v := .ref qh) hx hb hT hown hK hP 0 rfl rfl d_Pr_accumulate_14 ?_
    refine lv_aload_n hx hb d_Pr_accumulate_17 rfl (lv_at hl 0 rfl) ?_
    refine g_Pr_18 (v := .ref qh) hx hb hT hown hK hP 0 rfl rfl d_Pr_accumulate_18 ?_
    refine zz_Rl (As := []) (rest := [.ref qh]) (wc := wH qh hq) X hK hP (c_Hl_both l D cI qh hq _ h) ⟨rfl, rfl⟩ m_Hl_both k_Pr_238 ⟨Nat.le_of_ble_eq_true rfl, Nat.le_of_ble_eq_true rfl⟩ [2] rfl 2 2 rfl rfl rfl rfl hl.1 rfl (Nat.le_of_ble_eq_true rfl) d_Pr_accumulate_21 hf0 (fun r_3 h => ?_)
    refine lv_lload_n hx hb d_Pr_accumulate_24 rfl (lv_at hl 1 rfl) ?_
    refine lv_ladd hx hb d_Pr_accumulate_25 ?_
    refine zz_Wv (As := [.long (r_3 + a0)]) (rest := []) (wc := wH qh hq) (wr := [(qp, .inr (4, [.ref qm, .ref qr, .ref qh, .ref qu, .int (g 0), .int (g 1), .int (g 2), .int (g 3), .int (g 4), .int (g 5), .int (g 6), .int (g 7), .int (g 8), .int (g 9), .int (g 10), .int (g 11)])), (qr, .inl (cI, 32, .inl rg)), (qm, .inr (3, [.int ms, .ref qw])), (qw, .inl (cI, mn, .inl mf)), (qu, .inr (1, [.ref qf, .int cd, .ref ql, .ref qo])), (qf, .inl (cI, 32, .inl fg)), (ql, .inr (0, [.int L.1, .int L.2.1, .int L.2.2.1, .long L.2.2.2])), (qo, .inr (0, [.int O.1, .int O.2.1, .int O.2.2.1, .long O.2.2.2]))]) X hK hP hD hS hA (c_Hl_keep l D cI qh hq (r_3 + a0) _ h _) ⟨rfl, rfl⟩ m_Hl_keep k_Pr_204 ⟨Nat.le_of_ble_eq_true rfl, Nat.le_of_ble_eq_true rfl⟩ [2] [0, 1, 3, 4, 5, 6, 7, 8] rfl rfl (by decide) (by decide) (by decide) 2 2 rfl rfl rfl rfl hl.1 rfl (Nat.le_of_ble_eq_true rfl) d_Pr_accumulate_26 hf0 (fun u_4 H locs h hP hD hS => ?_)
    have hP : va_P D vwCl (wP qp qr qh qm qw qu qf ql qo cI ms mn g rg u_4 mf cd fg L O) H := hP.sub [0, 1, 8, 2, 3, 4, 5, 6, 7] rfl
    have hD : va_D A (wP qp qr qh qm qw qu qf ql qo cI ms mn g rg u_4 mf cd fg L O) := hD.sub [0, 1, 8, 2, 3, 4, 5, 6, 7] (by decide) rfl
    refine lv_iconst (v := 0) hx hb d_Pr_accumulate_29 (by decide) ?_
    exact W.iret (v := (0 : Int32)) hx hb hr (fun t ht hW => ⟨⟨(0 : Int32), (g, rg, u_4, mf, cd, fg, L, O), rfl, h, by rw [ht]; exact hP, hD⟩, hS.F ht⟩) hS.2.2 d_Pr_accumulate_30
  · skip
    have h := h.1 c_2
    refine lv_bipush (v := 8) hx hb d_Pr_accumulate_10 (by decide) ?_
    exact W.iret (v := (8 : Int32)) hx hb hr (fun t ht hW => ⟨⟨(8 : Int32), (g, rg, hq, mf, cd, fg, L, O), rfl, h, by rw [ht]; exact hP, hD⟩, hS.F ht⟩) hS.2.2 d_Pr_accumulate_12
def wp_Pr_special2 (ms : Int32) (mn : Nat) (g : Nat → Int32) (rg : Nat → Int32) (hq : Nat → Int32) (mf : Nat → Int32) (cd : Int32) (fg : Nat → Int32) (L : Int32 × Int32 × Int32 × Int64) (O : Int32 × Int32 × Int32 × Int64) (a0 : Int32) (P : Int32 → ((Nat → Int32) × (Nat → Int32) × (Nat → Int32) × (Nat → Int32) × Int32 × (Nat → Int32) × (Int32 × Int32 × Int32 × Int64) × (Int32 × Int32 × Int32 × Int64)) → Prop) : Prop := wp_Pr_rs a0 (fun r_1 => vp_in r_1 32 ∧ ∀ x_2 : Int32, x_2 = (rg r_1.toNatClampNeg) → wp_Pr_rt a0 (fun r_3 => vp_in r_3 32 ∧ ∀ x_4 : Int32, x_4 = (rg r_3.toNatClampNeg) → wp_Pr_function a0 (fun r_5 => (((r_5 = (0 : Int32)) → wp_Pr_accumulate ms mn g rg hq mf cd fg L O (x_2.toInt64 * x_4.toInt64) (fun r_8 u_7 => P r_8 (u_7.1, u_7.2.1, u_7.2.2.1, u_7.2.2.2.1, u_7.2.2.2.2.1, u_7.2.2.2.2.2.1, u_7.2.2.2.2.2.2.1, u_7.2.2.2.2.2.2.2))) ∧ (¬ (r_5 = (0 : Int32)) → (((r_5 = (1 : Int32)) → wp_Pr_unsigned x_2 (fun r_10 => wp_Pr_unsigned x_4 (fun r_11 => wp_Pr_accumulate ms mn g rg hq mf cd fg L O (r_10 * r_11) (fun r_13 u_12 => P r_13 (u_12.1, u_12.2.1, u_12.2.2.1, u_12.2.2.2.1, u_12.2.2.2.2.1, u_12.2.2.2.2.2.1, u_12.2.2.2.2.2.2.1, u_12.2.2.2.2.2.2.2))))) ∧ (¬ (r_5 = (1 : Int32)) → (((r_5 = (2 : Int32)) → wp_Hl_forget hq (fun u_15 => wp_Pr_rd a0 (fun r_17 => wp_Pr_result ms mn g rg u_15 mf cd fg L O r_17 (x_2 * x_4) (fun r_19 u_18 => P r_19 (u_18.1, u_18.2.1, u_18.2.2.1, u_18.2.2.2.1, u_18.2.2.2.2.1, u_18.2.2.2.2.2.1, u_18.2.2.2.2.2.2.1, u_18.2.2.2.2.2.2.2))))) ∧ (¬ (r_5 = (2 : Int32)) → (((r_5 = (4 : Int32)) → wp_Pr_accumulate ms mn g rg hq mf cd fg L O (-(x_2.toInt64 * x_4.toInt64)) (fun r_22 u_21 => P r_22 (u_21.1, u_21.2.1, u_21.2.2.1, u_21.2.2.2.1, u_21.2.2.2.2.1, u_21.2.2.2.2.2.1, u_21.2.2.2.2.2.2.1, u_21.2.2.2.2.2.2.2))) ∧ (¬ (r_5 = (4 : Int32)) → (((r_5 = (5 : Int32)) → wp_Pr_unsigned x_2 (fun r_24 => wp_Pr_unsigned x_4 (fun r_25 => wp_Pr_accumulate ms mn g rg hq mf cd fg L O (-(r_24 * r_25)) (fun r_27 u_26 => P r_27 (u_26.1, u_26.2.1, u_26.2.2.1, u_26.2.2.2.1, u_26.2.2.2.2.1, u_26.2.2.2.2.2.1, u_26.2.2.2.2.2.2.1, u_26.2.2.2.2.2.2.2))))) ∧ (¬ (r_5 = (5 : Int32)) → (((r_5 = (32 : Int32)) → wp_Pr_rd a0 (fun r_29 => wp_Pr_leadingZeros x_2 (fun r_30 => wp_Pr_result ms mn g rg hq mf cd fg L O r_29 r_30 (fun r_32 u_31 => P r_32 (u_31.1, u_31.2.1, u_31.2.2.1, u_31.2.2.2.1, u_31.2.2.2.2.1, u_31.2.2.2.2.2.1, u_31.2.2.2.2.2.2.1, u_31.2.2.2.2.2.2.2))))) ∧ (¬ (r_5 = (32 : Int32)) → (((r_5 = (33 : Int32)) → wp_Pr_rd a0 (fun r_34 => wp_Pr_leadingZeros (x_2 ^^^ (-1 : Int32)) (fun r_35 => wp_Pr_result ms mn g rg hq mf cd fg L O r_34 r_35 (fun r_37 u_36 => P r_37 (u_36.1, u_36.2.1, u_36.2.2.1, u_36.2.2.2.1, u_36.2.2.2.2.1, u_36.2.2.2.2.2.1, u_36.2.2.2.2.2.2.1, u_36.2.2.2.2.2.2.2))))) ∧ (¬ (r_5 = (33 : Int32)) → P (3 : Int32) (g, rg, hq, mf, cd, fg, L, O))))))))))))))))))
abbrev rm_Pr_special2 : Room := { frames := 3, cells := 0, slots := 0, locals := 65 }
set_option maxHeartbeats 4000000 in
set_option maxRecDepth 100000 in
theorem c_Pr_special2 (l : Launch) (D : va_G) (cI : ClassId) (qp : Nat) (qr : Nat) (qh : Nat) (qm : Nat) (qw : Nat) (qu : Nat) (qf : Nat) (ql : Nat) (qo : Nat) (ms : Int32) (mn : Nat) (g : Nat → Int32) (rg : Nat → Int32) (hq : Nat → Int32) (mf : Nat → Int32) (cd : Int32) (fg : Nat → Int32) (L : Int32 × Int32 × Int32 × Int64) (O : Int32 × Int32 × Int32 × Int64) (a0 : Int32) (P : Int32 → ((Nat → Int32) × (Nat → Int32) × (Nat → Int32) × (Nat → Int32) × Int32 × (Nat → Int32) × (Int32 × Int32 × Int32 × Int64) × (Int32 × Int32 × Int32 × Int64)) → Prop) (h : wp_Pr_special2 ms mn g rg hq mf cd fg L O a0 P) (sz : Nat) : Met l y_Pr_special2 (zz_ws y_Pr_special2 b_Pr_special2 4 (some .int)) rm_Pr_special2 (va_Pc [.ref qp, .int a0] (zz_pw D [(cI, .int)] (wP qp qr qh qm qw qu qf ql qo cI ms mn g rg hq mf cd fg L O) sz)) (va_Qi P (zz_qw D (fun u => wP qp qr qh qm qw qu qf ql qo cI ms mn u.1 u.2.1 u.2.2.1 u.2.2.2.1 u.2.2.2.2.1 u.2.2.2.2.2.1 u.2.2.2.2.2.2.1 u.2.2.2.2.2.2.2) (va_A (wP qp qr qh qm qw qu qf ql qo cI ms mn g rg hq mf cd fg L O) sz)) (va_A (wP qp qr qh qm qw qu qf ql qo cI ms mn g rg hq mf cd fg L O) sz)) 0 0 (va_A (wP qp qr qh qm qw qu qf ql qo cI ms mn g rg hq mf cd fg L O) sz) := by
  refine Met.ofW (cc := b_Pr_special2) (maxL := 4) (ret := (some .int)) (by decide) rfl ?_
  intro p e s m args below meth c s₁ B hml hv
  obtain ⟨rfl, hsz, hP, hK, hD0⟩ := hv
  have hx := B.exec
  have hb := B.bytes
  have hr := B.returns
  have hts := atoms_spec (ws := (zz_ws y_Pr_special2 b_Pr_special2 4 (some .int))) B.pre
  have hown : s.vm.findClass R_Pr = some m.cls := findClass_of_methodNamed B.named
  have hlocks := B.notSynchronized
  have hT := zz_hts hts
  have X : CallFix p m c b_Pr_special2 4 s ([.ref qp, .int a0] : List Value).toArray (zz_ws y_Pr_special2 b_Pr_special2 4 (some .int)) R_Pr := ⟨hx, hb, hml, hown, hts⟩
  have hf0 : 0 + 0 ≤ (headSpec (zz_ws y_Pr_special2 b_Pr_special2 4 (some .int)) rm_Pr_special2).room.cells ∧ 0 + 0 ≤ (headSpec (zz_ws y_Pr_special2 b_Pr_special2 4 (some .int)) rm_Pr_special2).room.slots := ⟨Nat.le_of_ble_eq_true rfl, Nat.le_of_ble_eq_true rfl⟩
  subst hsz
  have hD := hD0.self (sz := s.heap.size)
  generalize hAe : va_A (wP qp qr qh qm qw qu qf ql qo cI ms mn g rg hq mf cd fg L O) s.heap.size = A at hD ⊢
  have hA : ∀ q : Nat, s.heap.size ≤ q → A q := fun q h => by rw [← hAe]; exact Or.inr h
  have hS : va_S A s.heap s.heap [] := va_S.rf
  have hl := lv_entry ([.ref qp, .int a0]) (n := 4) (Nat.le_of_ble_eq_true rfl)
  rw [lg_entry_eq]
  generalize (lg_sl ([.ref qp, .int a0]) ++ List.replicate (4 - (lg_sl ([.ref qp, .int a0])).length) Slot.unset).toArray = ls at hl ⊢
  have hl : lv_has ls 4 [(0, .ref qp), (1, .int a0)] := hl
  refine lv_aload_n hx hb d_Pr_special2_0 rfl (lv_at hl 0 rfl) ?_
  refine g_Pr_9 (v := .ref qr) hx hb hT hown hK hP 0 rfl rfl d_Pr_special2_1 ?_
  refine lv_iload_n hx hb d_Pr_special2_4 rfl (lv_at hl 1 rfl) ?_
  refine zz_Si (As := [.int a0]) (rest := [.ref qr]) X (c_Pr_rs l a0 _ h) ⟨rfl, rfl⟩ m_Pr_rs k_Pr_83 ⟨Nat.le_of_ble_eq_true rfl, Nat.le_of_ble_eq_true rfl⟩ rfl hl.1 rfl (Nat.le_of_ble_eq_true rfl) d_Pr_special2_5 hf0 (fun r_1 h => ?_)
  refine va_iald (f := rg) hx hb hK hP 1 0 rfl rfl h.1 d_Pr_special2_8 ?_
  have h := h.2
  refine lv_topi (fun x_2 ex_2 => ?_)
  have h := h x_2 ex_2
  refine lv_istore_n (lv' := [(2, .int x_2), (0, .ref qp), (1, .int a0)]) hx hb d_Pr_special2_9 rfl hl (by decide) rfl (fun ls hl => ?_)
  refine lv_aload_n hx hb d_Pr_special2_10 rfl (lv_at hl 1 rfl) ?_
  refine g_Pr_9 (v := .ref qr) hx hb hT hown hK hP 0 rfl rfl d_Pr_special2_11 ?_
  refine lv_iload_n hx hb d_Pr_special2_14 rfl (lv_at hl 2 rfl) ?_
  refine zz_Si (As := [.int a0]) (rest := [.ref qr]) X (c_Pr_rt l a0 _ h) ⟨rfl, rfl⟩ m_Pr_rt k_Pr_89 ⟨Nat.le_of_ble_eq_true rfl, Nat.le_of_ble_eq_true rfl⟩ rfl hl.1 rfl (Nat.le_of_ble_eq_true rfl) d_Pr_special2_15 hf0 (fun r_3 h => ?_)
  refine va_iald (f := rg) hx hb hK hP 1 0 rfl rfl h.1 d_Pr_special2_18 ?_
  have h := h.2
  refine lv_topi (fun x_4 ex_4 => ?_)
  have h := h x_4 ex_4
  refine lv_istore_n (lv' := [(3, .int x_4), (2, .int x_2), (0, .ref qp), (1, .int a0)]) hx hb d_Pr_special2_19 rfl hl (by decide) rfl (fun ls hl => ?_)
  refine lv_iload_n hx hb d_Pr_special2_20 rfl (lv_at hl 3 rfl) ?_
  refine zz_Si (As := [.int a0]) (rest := []) X (c_Pr_function l a0 _ h) ⟨rfl, rfl⟩ m_Pr_function k_Pr_136 ⟨Nat.le_of_ble_eq_true rfl, Nat.le_of_ble_eq_true rfl⟩ rfl hl.1 rfl (Nat.le_of_ble_eq_true rfl) d_Pr_special2_21 hf0 (fun r_5 h => ?_)
  by_cases c_6 : r_5 = (0 : Int32)
  · have h := h.1 c_6
    have h0 := c_6
    refine lv_lookup (off := 68) (tgt := 92) hx hb d_Pr_special2_24 (by decide) (by rw [h0]; decide) (by decide) ?_
    refine lv_aload_n hx hb d_Pr_special2_92 rfl (lv_at hl 2 rfl) ?_
    refine lv_iload_n hx hb d_Pr_special2_93 rfl (lv_at hl 1 rfl) ?_
    refine lv_i2l (v := x_2.toInt64) hx hb d_Pr_special2_94 rfl ?_
    refine lv_iload_n hx hb d_Pr_special2_95 rfl (lv_at hl 0 rfl) ?_
    refine lv_i2l (v := x_4.toInt64) hx hb d_Pr_special2_96 rfl ?_
    refine lv_lmul hx hb d_Pr_special2_97 ?_
    refine zz_Wi (As := [.long (x_2.toInt64 * x_4.toInt64)]) (rest := []) (wc := wP qp qr qh qm qw qu qf ql qo cI ms mn g rg hq mf cd fg L O) (wr := []) X hK hP hD hS hA (c_Pr_accumulate l D cI qp qr qh qm qw qu qf ql qo ms mn g rg hq mf cd fg L O (x_2.toInt64 * x_4.toInt64) _ h _) ⟨rfl, rfl⟩ m_Pr_accumulate k_Pr_224 ⟨Nat.le_of_ble_eq_true rfl, Nat.le_of_ble_eq_true rfl⟩ [0, 1, 2, 3, 4, 5, 6, 7, 8] [] rfl rfl (by decide) (by decide) (by decide) 4 0 rfl rfl rfl rfl hl.1 rfl (Nat.le_of_ble_eq_true rfl) d_Pr_special2_98 hf0 (fun r_8 u_7 H locs h hP hD hS => ?_)
    have hP : va_P D vwCl (wP qp qr qh qm qw qu qf ql qo cI ms mn u_7.1 u_7.2.1 u_7.2.2.1 u_7.2.2.2.1 u_7.2.2.2.2.1 u_7.2.2.2.2.2.1 u_7.2.2.2.2.2.2.1 u_7.2.2.2.2.2.2.2) H := hP.sub [0, 1, 2, 3, 4, 5, 6, 7, 8] rfl
    have hD : va_D A (wP qp qr qh qm qw qu qf ql qo cI ms mn u_7.1 u_7.2.1 u_7.2.2.1 u_7.2.2.2.1 u_7.2.2.2.2.1 u_7.2.2.2.2.2.1 u_7.2.2.2.2.2.2.1 u_7.2.2.2.2.2.2.2) := hD.sub [0, 1, 2, 3, 4, 5, 6, 7, 8] (by decide) rfl
    exact W.iret (v := r_8) hx hb hr (fun t ht hW => ⟨⟨r_8, (u_7.1, u_7.2.1, u_7.2.2.1, u_7.2.2.2.1, u_7.2.2.2.2.1, u_7.2.2.2.2.2.1, u_7.2.2.2.2.2.2.1, u_7.2.2.2.2.2.2.2), rfl, h, by rw [ht]; exact hP, hD⟩, hS.F ht⟩) hS.2.2 d_Pr_special2_101
  · have h := h.2 c_6
    by_cases c_9 : r_5 = (1 : Int32)
    · have h := h.1 c_9
      have h0 := c_9
      refine lv_lookup (off := 78) (tgt := 102) hx hb d_Pr_special2_24 (by decide) (by rw [h0]; decide) (by decide) ?_
      refine lv_aload_n hx hb d_Pr_special2_102 rfl (lv_at hl 2 rfl) ?_
      refine lv_iload_n hx hb d_Pr_special2_103 rfl (lv_at hl 1 rfl) ?_
      refine zz_Sl (As := [.int x_2]) (rest := [.ref qp]) X (c_Pr_unsigned l x_2 _ h) ⟨rfl, rfl⟩ m_Pr_unsigned k_Pr_208 ⟨Nat.le_of_ble_eq_true rfl, Nat.le_of_ble_eq_true rfl⟩ rfl hl.1 rfl (Nat.le_of_ble_eq_true rfl) d_Pr_special2_104 hf0 (fun r_10 h => ?_)
      refine lv_iload_n hx hb d_Pr_special2_107 rfl (lv_at hl 0 rfl) ?_
      refine zz_Sl (As := [.int x_4]) (rest := [.long r_10, .ref qp]) X (c_Pr_unsigned l x_4 _ h) ⟨rfl, rfl⟩ m_Pr_unsigned k_Pr_208 ⟨Nat.le_of_ble_eq_true rfl, Nat.le_of_ble_eq_true rfl⟩ rfl hl.1 rfl (Nat.le_of_ble_eq_true rfl) d_Pr_special2_108 hf0 (fun r_11 h => ?_)
      refine lv_lmul hx hb d_Pr_special2_111 ?_
      refine zz_Wi (As := [.long (r_10 * r_11)]) (rest := []) (wc := wP qp qr qh qm qw qu qf ql qo cI ms mn g rg hq mf cd fg L O) (wr := []) X hK hP hD hS hA (c_Pr_accumulate l D cI qp qr qh qm qw qu qf ql qo ms mn g rg hq mf cd fg L O (r_10 * r_11) _ h _) ⟨rfl, rfl⟩ m_Pr_accumulate k_Pr_224 ⟨Nat.le_of_ble_eq_true rfl, Nat.le_of_ble_eq_true rfl⟩ [0, 1, 2, 3, 4, 5, 6, 7, 8] [] rfl rfl (by decide) (by decide) (by decide) 4 0 rfl rfl rfl rfl hl.1 rfl (Nat.le_of_ble_eq_true rfl) d_Pr_special2_112 hf0 (fun r_13 u_12 H locs h hP hD hS => ?_)
      have hP : va_P D vwCl (wP qp qr qh qm qw qu qf ql qo cI ms mn u_12.1 u_12.2.1 u_12.2.2.1 u_12.2.2.2.1 u_12.2.2.2.2.1 u_12.2.2.2.2.2.1 u_12.2.2.2.2.2.2.1 u_12.2.2.2.2.2.2.2) H := hP.sub [0, 1, 2, 3, 4, 5, 6, 7, 8] rfl
      have hD : va_D A (wP qp qr qh qm qw qu qf ql qo cI ms mn u_12.1 u_12.2.1 u_12.2.2.1 u_12.2.2.2.1 u_12.2.2.2.2.1 u_12.2.2.2.2.2.1 u_12.2.2.2.2.2.2.1 u_12.2.2.2.2.2.2.2) := hD.sub [0, 1, 2, 3, 4, 5, 6, 7, 8] (by decide) rfl
      exact W.iret (v := r_13) hx hb hr (fun t ht hW => ⟨⟨r_13, (u_12.1, u_12.2.1, u_12.2.2.1, u_12.2.2.2.1, u_12.2.2.2.2.1, u_12.2.2.2.2.2.1, u_12.2.2.2.2.2.2.1, u_12.2.2.2.2.2.2.2), rfl, h, by rw [ht]; exact hP, hD⟩, hS.F ht⟩) hS.2.2 d_Pr_special2_115
    · have h := h.2 c_9
      by_cases c_14 : r_5 = (2 : Int32)
      · have h := h.1 c_14
        have h0 := c_14
        refine lv_lookup (off := 118) (tgt := 142) hx hb d_Pr_special2_24 (by decide) (by rw [h0]; decide) (by decide) ?_
        refine lv_aload_n hx hb d_Pr_special2_142 rfl (lv_at hl 2 rfl) ?_
        refine g_Pr_18 (v := .ref qh) hx hb hT hown hK hP 0 rfl rfl d_Pr_special2_143 ?_
        refine zz_Wv (As := []) (rest := []) (wc := wH qh hq) (wr := [(qp, .inr (4, [.ref qm, .ref qr, .ref qh, .ref qu, .int (g 0), .int (g 1), .int (g 2), .int (g 3), .int (g 4), .int (g 5), .int (g 6), .int (g 7), .int (g 8), .int (g 9), .int (g 10), .int (g 11)])), (qr, .inl (cI, 32, .inl rg)), (qm, .inr (3, [.int ms, .ref qw])), (qw, .inl (cI, mn, .inl mf)), (qu, .inr (1, [.ref qf, .int cd, .ref ql, .ref qo])), (qf, .inl (cI, 32, .inl fg)), (ql, .inr (0, [.int L.1, .int L.2.1, .int L.2.2.1, .long L.2.2.2])), (qo, .inr (0, [.int O.1, .int O.2.1, .int O.2.2.1, .long O.2.2.2]))]) X hK hP hD hS hA (c_Hl_forget l D cI qh hq _ h _) ⟨rfl, rfl⟩ m_Hl_forget k_Pr_228 ⟨Nat.le_of_ble_eq_true rfl, Nat.le_of_ble_eq_true rfl⟩ [2] [0, 1, 3, 4, 5, 6, 7, 8] rfl rfl (by decide) (by decide) (by decide) 2 2 rfl rfl rfl rfl hl.1 rfl (Nat.le_of_ble_eq_true rfl) d_Pr_special2_146 hf0 (fun u_15 H locs h hP hD hS => ?_)
        have hP : va_P D vwCl (wP qp qr qh qm qw qu qf ql qo cI ms mn g rg u_15 mf cd fg L O) H := hP.sub [0, 1, 8, 2, 3, 4, 5, 6, 7] rfl
        have hD : va_D A (wP qp qr qh qm qw qu qf ql qo cI ms mn g rg u_15 mf cd fg L O) := hD.sub [0, 1, 8, 2, 3, 4, 5, 6, 7] (by decide) rfl
        refine lv_aload_n hx hb d_Pr_special2_149 rfl (lv_at hl 2 rfl) ?_
        refine lv_iload_n hx hb d_Pr_special2_150 rfl (lv_at hl 3 rfl) ?_
        refine zz_Si (As := [.int a0]) (rest := [.ref qp]) X (c_Pr_rd l a0 _ h) ⟨rfl, rfl⟩ m_Pr_rd k_Pr_158 ⟨Nat.le_of_ble_eq_true rfl, Nat.le_of_ble_eq_true rfl⟩ rfl hl.1 rfl (Nat.le_of_ble_eq_true rfl) d_Pr_special2_151 hf0 (fun r_17 h => ?_)
        refine lv_iload_n hx hb d_Pr_special2_154 rfl (lv_at hl 1 rfl) ?_
        refine lv_iload_n hx hb d_Pr_special2_155 rfl (lv_at hl 0 rfl) ?_
        refine lv_imul hx hb d_Pr_special2_156 ?_
        refine zz_Wi (As := [.int r_17, .int (x_2 * x_4)]) (rest := []) (wc := wP qp qr qh qm qw qu qf ql qo cI ms mn g rg u_15 mf cd fg L O) (wr := []) X hK hP hD hS hA (c_Pr_result l D cI qp qr qh qm qw qu qf ql qo ms mn g rg u_15 mf cd fg L O r_17 (x_2 * x_4) _ h _) ⟨rfl, rfl⟩ m_Pr_result k_Pr_161 ⟨Nat.le_of_ble_eq_true rfl, Nat.le_of_ble_eq_true rfl⟩ [0, 1, 2, 3, 4, 5, 6, 7, 8] [] rfl rfl (by decide) (by decide) (by decide) 4 0 rfl rfl rfl rfl hl.1 rfl (Nat.le_of_ble_eq_true rfl) d_Pr_special2_157 hf0 (fun r_19 u_18 H locs h hP hD hS => ?_)
        have hP : va_P D vwCl (wP qp qr qh qm qw qu qf ql qo cI ms mn u_18.1 u_18.2.1 u_18.2.2.1 u_18.2.2.2.1 u_18.2.2.2.2.1 u_18.2.2.2.2.2.1 u_18.2.2.2.2.2.2.1 u_18.2.2.2.2.2.2.2) H := hP.sub [0, 1, 2, 3, 4, 5, 6, 7, 8] rfl
        have hD : va_D A (wP qp qr qh qm qw qu qf ql qo cI ms mn u_18.1 u_18.2.1 u_18.2.2.1 u_18.2.2.2.1 u_18.2.2.2.2.1 u_18.2.2.2.2.2.1 u_18.2.2.2.2.2.2.1 u_18.2.2.2.2.2.2.2) := hD.sub [0, 1, 2, 3, 4, 5, 6, 7, 8] (by decide) rfl
        exact W.iret (v := r_19) hx hb hr (fun t ht hW => ⟨⟨r_19, (u_18.1, u_18.2.1, u_18.2.2.1, u_18.2.2.2.1, u_18.2.2.2.2.1, u_18.2.2.2.2.2.1, u_18.2.2.2.2.2.2.1, u_18.2.2.2.2.2.2.2), rfl, h, by rw [ht]; exact hP, hD⟩, hS.F ht⟩) hS.2.2 d_Pr_special2_160
      · have h := h.2 c_14
        by_cases c_20 : r_5 = (4 : Int32)
        · have h := h.1 c_20
          have h0 := c_20
          refine lv_lookup (off := 92) (tgt := 116) hx hb d_Pr_special2_24 (by decide) (by rw [h0]; decide) (by decide) ?_
          refine lv_aload_n hx hb d_Pr_special2_116 rfl (lv_at hl 2 rfl) ?_
          refine lv_iload_n hx hb d_Pr_special2_117 rfl (lv_at hl 1 rfl) ?_
          refine lv_i2l (v := x_2.toInt64) hx hb d_Pr_special2_118 rfl ?_
          refine lv_iload_n hx hb d_Pr_special2_119 rfl (lv_at hl 0 rfl) ?_
          refine lv_i2l (v := x_4.toInt64) hx hb d_Pr_special2_120 rfl ?_
          refine lv_lmul hx hb d_Pr_special2_121 ?_
          refine lv_lneg hx hb d_Pr_special2_122 ?_
          refine zz_Wi (As := [.long (-(x_2.toInt64 * x_4.toInt64))]) (rest := []) (wc := wP qp qr qh qm qw qu qf ql qo cI ms mn g rg hq mf cd fg L O) (wr := []) X hK hP hD hS hA (c_Pr_accumulate l D cI qp qr qh qm qw qu qf ql qo ms mn g rg hq mf cd fg L O (-(x_2.toInt64 * x_4.toInt64)) _ h _) ⟨rfl, rfl⟩ m_Pr_accumulate k_Pr_224 ⟨Nat.le_of_ble_eq_true rfl, Nat.le_of_ble_eq_true rfl⟩ [0, 1, 2, 3, 4, 5, 6, 7, 8] [] rfl rfl (by decide) (by decide) (by decide) 4 0 rfl rfl rfl rfl hl.1 rfl (Nat.le_of_ble_eq_true rfl) d_Pr_special2_123 hf0 (fun r_22 u_21 H locs h hP hD hS => ?_)
          have hP : va_P D vwCl (wP qp qr qh qm qw qu qf ql qo cI ms mn u_21.1 u_21.2.1 u_21.2.2.1 u_21.2.2.2.1 u_21.2.2.2.2.1 u_21.2.2.2.2.2.1 u_21.2.2.2.2.2.2.1 u_21.2.2.2.2.2.2.2) H := hP.sub [0, 1, 2, 3, 4, 5, 6, 7, 8] rfl
          have hD : va_D A (wP qp qr qh qm qw qu qf ql qo cI ms mn u_21.1 u_21.2.1 u_21.2.2.1 u_21.2.2.2.1 u_21.2.2.2.2.1 u_21.2.2.2.2.2.1 u_21.2.2.2.2.2.2.1 u_21.2.2.2.2.2.2.2) := hD.sub [0, 1, 2, 3, 4, 5, 6, 7, 8] (by decide) rfl
          exact W.iret (v := r_22) hx hb hr (fun t ht hW => ⟨⟨r_22, (u_21.1, u_21.2.1, u_21.2.2.1, u_21.2.2.2.1, u_21.2.2.2.2.1, u_21.2.2.2.2.2.1, u_21.2.2.2.2.2.2.1, u_21.2.2.2.2.2.2.2), rfl, h, by rw [ht]; exact hP, hD⟩, hS.F ht⟩) hS.2.2 d_Pr_special2_126
        · have h := h.2 c_20
          by_cases c_23 : r_5 = (5 : Int32)
          · have h := h.1 c_23
            have h0 := c_23
            refine lv_lookup (off := 103) (tgt := 127) hx hb d_Pr_special2_24 (by decide) (by rw [h0]; decide) (by decide) ?_
            refine lv_aload_n hx hb d_Pr_special2_127 rfl (lv_at hl 2 rfl) ?_
            refine lv_iload_n hx hb d_Pr_special2_128 rfl (lv_at hl 1 rfl) ?_
            refine zz_Sl (As := [.int x_2]) (rest := [.ref qp]) X (c_Pr_unsigned l x_2 _ h) ⟨rfl, rfl⟩ m_Pr_unsigned k_Pr_208 ⟨Nat.le_of_ble_eq_true rfl, Nat.le_of_ble_eq_true rfl⟩ rfl hl.1 rfl (Nat.le_of_ble_eq_true rfl) d_Pr_special2_129 hf0 (fun r_24 h => ?_)
            refine lv_iload_n hx hb d_Pr_special2_132 rfl (lv_at hl 0 rfl) ?_
            refine zz_Sl (As := [.int x_4]) (rest := [.long r_24, .ref qp]) X (c_Pr_unsigned l x_4 _ h) ⟨rfl, rfl⟩ m_Pr_unsigned k_Pr_208 ⟨Nat.le_of_ble_eq_true rfl, Nat.le_of_ble_eq_true rfl⟩ rfl hl.1 rfl (Nat.le_of_ble_eq_true rfl) d_Pr_special2_133 hf0 (fun r_25 h => ?_)
            refine lv_lmul hx hb d_Pr_special2_136 ?_
            refine lv_lneg hx hb d_Pr_special2_137 ?_
            refine zz_Wi (As := [.long (-(r_24 * r_25))]) (rest := []) (wc := wP qp qr qh qm qw qu qf ql qo cI ms mn g rg hq mf cd fg L O) (wr := []) X hK hP hD hS hA (c_Pr_accumulate l D cI qp qr qh qm qw qu qf ql qo ms mn g rg hq mf cd fg L O (-(r_24 * r_25)) _ h _) ⟨rfl, rfl⟩ m_Pr_accumulate k_Pr_224 ⟨Nat.le_of_ble_eq_true rfl, Nat.le_of_ble_eq_true rfl⟩ [0, 1, 2, 3, 4, 5, 6, 7, 8] [] rfl rfl (by decide) (by decide) (by decide) 4 0 rfl rfl rfl rfl hl.1 rfl (Nat.le_of_ble_eq_true rfl) d_Pr_special2_138 hf0 (fun r_27 u_26 H locs h hP hD hS => ?_)
            have hP : va_P D vwCl (wP qp qr qh qm qw qu qf ql qo cI ms mn u_26.1 u_26.2.1 u_26.2.2.1 u_26.2.2.2.1 u_26.2.2.2.2.1 u_26.2.2.2.2.2.1 u_26.2.2.2.2.2.2.1 u_26.2.2.2.2.2.2.2) H := hP.sub [0, 1, 2, 3, 4, 5, 6, 7, 8] rfl
            have hD : va_D A (wP qp qr qh qm qw qu qf ql qo cI ms mn u_26.1 u_26.2.1 u_26.2.2.1 u_26.2.2.2.1 u_26.2.2.2.2.1 u_26.2.2.2.2.2.1 u_26.2.2.2.2.2.2.1 u_26.2.2.2.2.2.2.2) := hD.sub [0, 1, 2, 3, 4, 5, 6, 7, 8] (by decide) rfl
            exact W.iret (v := r_27) hx hb hr (fun t ht hW => ⟨⟨r_27, (u_26.1, u_26.2.1, u_26.2.2.1, u_26.2.2.2.1, u_26.2.2.2.2.1, u_26.2.2.2.2.2.1, u_26.2.2.2.2.2.2.1, u_26.2.2.2.2.2.2.2), rfl, h, by rw [ht]; exact hP, hD⟩, hS.F ht⟩) hS.2.2 d_Pr_special2_141
          · have h := h.2 c_23
            by_cases c_28 : r_5 = (32 : Int32)
            · have h := h.1 c_28
              have h0 := c_28
              refine lv_lookup (off := 137) (tgt := 161) hx hb d_Pr_special2_24 (by decide) (by rw [h0]; decide) (by decide) ?_
              refine lv_aload_n hx hb d_Pr_special2_161 rfl (lv_at hl 2 rfl) ?_
              refine lv_iload_n hx hb d_Pr_special2_162 rfl (lv_at hl 3 rfl) ?_
              refine zz_Si (As := [.int a0]) (rest := [.ref qp]) X (c_Pr_rd l a0 _ h) ⟨rfl, rfl⟩ m_Pr_rd k_Pr_158 ⟨Nat.le_of_ble_eq_true rfl, Nat.le_of_ble_eq_true rfl⟩ rfl hl.1 rfl (Nat.le_of_ble_eq_true rfl) d_Pr_special2_163 hf0 (fun r_29 h => ?_)
              refine lv_iload_n hx hb d_Pr_special2_166 rfl (lv_at hl 1 rfl) ?_
              refine zz_Si (As := [.int x_2]) (rest := [.int r_29, .ref qp]) X (c_Pr_leadingZeros l x_2 _ h) ⟨rfl, rfl⟩ m_Pr_leadingZeros k_Pr_231 ⟨Nat.le_of_ble_eq_true rfl, Nat.le_of_ble_eq_true rfl⟩ rfl hl.1 rfl (Nat.le_of_ble_eq_true rfl) d_Pr_special2_167 hf0 (fun r_30 h => ?_)
              refine zz_Wi (As := [.int r_29, .int r_30]) (rest := []) (wc := wP qp qr qh qm qw qu qf ql qo cI ms mn g rg hq mf cd fg L O) (wr := []) X hK hP hD hS hA (c_Pr_result l D cI qp qr qh qm qw qu qf ql qo ms mn g rg hq mf cd fg L O r_29 r_30 _ h _) ⟨rfl, rfl⟩ m_Pr_result k_Pr_161 ⟨Nat.le_of_ble_eq_true rfl, Nat.le_of_ble_eq_true rfl⟩ [0, 1, 2, 3, 4, 5, 6, 7, 8] [] rfl rfl (by decide) (by decide) (by decide) 4 0 rfl rfl rfl rfl hl.1 rfl (Nat.le_of_ble_eq_true rfl) d_Pr_special2_170 hf0 (fun r_32 u_31 H locs h hP hD hS => ?_)
              have hP : va_P D vwCl (wP qp qr qh qm qw qu qf ql qo cI ms mn u_31.1 u_31.2.1 u_31.2.2.1 u_31.2.2.2.1 u_31.2.2.2.2.1 u_31.2.2.2.2.2.1 u_31.2.2.2.2.2.2.1 u_31.2.2.2.2.2.2.2) H := hP.sub [0, 1, 2, 3, 4, 5, 6, 7, 8] rfl
              have hD : va_D A (wP qp qr qh qm qw qu qf ql qo cI ms mn u_31.1 u_31.2.1 u_31.2.2.1 u_31.2.2.2.1 u_31.2.2.2.2.1 u_31.2.2.2.2.2.1 u_31.2.2.2.2.2.2.1 u_31.2.2.2.2.2.2.2) := hD.sub [0, 1, 2, 3, 4, 5, 6, 7, 8] (by decide) rfl
              exact W.iret (v := r_32) hx hb hr (fun t ht hW => ⟨⟨r_32, (u_31.1, u_31.2.1, u_31.2.2.1, u_31.2.2.2.1, u_31.2.2.2.2.1, u_31.2.2.2.2.2.1, u_31.2.2.2.2.2.2.1, u_31.2.2.2.2.2.2.2), rfl, h, by rw [ht]; exact hP, hD⟩, hS.F ht⟩) hS.2.2 d_Pr_special2_173
            · have h := h.2 c_28
              by_cases c_33 : r_5 = (33 : Int32)
              · have h := h.1 c_33
                have h0 := c_33
                refine lv_lookup (off := 150) (tgt := 174) hx hb d_Pr_special2_24 (by decide) (by rw [h0]; decide) (by decide) ?_
                refine lv_aload_n hx hb d_Pr_special2_174 rfl (lv_at hl 2 rfl) ?_
                refine lv_iload_n hx hb d_Pr_special2_175 rfl (lv_at hl 3 rfl) ?_
                refine zz_Si (As := [.int a0]) (rest := [.ref qp]) X (c_Pr_rd l a0 _ h) ⟨rfl, rfl⟩ m_Pr_rd k_Pr_158 ⟨Nat.le_of_ble_eq_true rfl, Nat.le_of_ble_eq_true rfl⟩ rfl hl.1 rfl (Nat.le_of_ble_eq_true rfl) d_Pr_special2_176 hf0 (fun r_34 h => ?_)
                refine lv_iload_n hx hb d_Pr_special2_179 rfl (lv_at hl 1 rfl) ?_
                refine lv_iconst (v := -1) hx hb d_Pr_special2_180 (by decide) ?_
                refine lv_ixor hx hb d_Pr_special2_181 ?_
                refine zz_Si (As := [.int (x_2 ^^^ (-1 : Int32))]) (rest := [.int r_34, .ref qp]) X (c_Pr_leadingZeros l (x_2 ^^^ (-1 : Int32)) _ h) ⟨rfl, rfl⟩ m_Pr_leadingZeros k_Pr_231 ⟨Nat.le_of_ble_eq_true rfl, Nat.le_of_ble_eq_true rfl⟩ rfl hl.1 rfl (Nat.le_of_ble_eq_true rfl) d_Pr_special2_182 hf0 (fun r_35 h => ?_)
                refine zz_Wi (As := [.int r_34, .int r_35]) (rest := []) (wc := wP qp qr qh qm qw qu qf ql qo cI ms mn g rg hq mf cd fg L O) (wr := []) X hK hP hD hS hA (c_Pr_result l D cI qp qr qh qm qw qu qf ql qo ms mn g rg hq mf cd fg L O r_34 r_35 _ h _) ⟨rfl, rfl⟩ m_Pr_result k_Pr_161 ⟨Nat.le_of_ble_eq_true rfl, Nat.le_of_ble_eq_true rfl⟩ [0, 1, 2, 3, 4, 5, 6, 7, 8] [] rfl rfl (by decide) (by decide) (by decide) 4 0 rfl rfl rfl rfl hl.1 rfl (Nat.le_of_ble_eq_true rfl) d_Pr_special2_185 hf0 (fun r_37 u_36 H locs h hP hD hS => ?_)
                have hP : va_P D vwCl (wP qp qr qh qm qw qu qf ql qo cI ms mn u_36.1 u_36.2.1 u_36.2.2.1 u_36.2.2.2.1 u_36.2.2.2.2.1 u_36.2.2.2.2.2.1 u_36.2.2.2.2.2.2.1 u_36.2.2.2.2.2.2.2) H := hP.sub [0, 1, 2, 3, 4, 5, 6, 7, 8] rfl
                have hD : va_D A (wP qp qr qh qm qw qu qf ql qo cI ms mn u_36.1 u_36.2.1 u_36.2.2.1 u_36.2.2.2.1 u_36.2.2.2.2.1 u_36.2.2.2.2.2.1 u_36.2.2.2.2.2.2.1 u_36.2.2.2.2.2.2.2) := hD.sub [0, 1, 2, 3, 4, 5, 6, 7, 8] (by decide) rfl
                exact W.iret (v := r_37) hx hb hr (fun t ht hW => ⟨⟨r_37, (u_36.1, u_36.2.1, u_36.2.2.1, u_36.2.2.2.1, u_36.2.2.2.2.1, u_36.2.2.2.2.2.1, u_36.2.2.2.2.2.2.1, u_36.2.2.2.2.2.2.2), rfl, h, by rw [ht]; exact hP, hD⟩, hS.F ht⟩) hS.2.2 d_Pr_special2_188
              · have h := h.2 c_33
                refine lv_lookup (off := 165) (tgt := 189) hx hb d_Pr_special2_24 (by decide) (by show Op.lookupswitch.offset [(0, 68), (1, 78), (2, 118), (4, 92), (5, 103), (32, 137), (33, 150)] _ _ = _; rw [lv_osw (k := 0) c_6 (by decide), lv_osw (k := 1) c_9 (by decide), lv_osw (k := 2) c_14 (by decide), lv_osw (k := 4) c_20 (by decide), lv_osw (k := 5) c_23 (by decide), lv_osw (k := 32) c_28 (by decide), lv_osw (k := 33) c_33 (by decide)]; rfl) (by decide) ?_
                refine lv_iconst (v := 3) hx hb d_Pr_special2_189 (by decide) ?_
                exact W.iret (v := (3 : Int32)) hx hb hr (fun t ht hW => ⟨⟨(3 : Int32), (g, rg, hq, mf, cd, fg, L, O), rfl, h, by rw [ht]; exact hP, hD⟩, hS.F ht⟩) hS.2.2 d_Pr_special2_190
def wp_Pr_branchOnCondition (ms : Int32) (mn : Nat) (g : Nat → Int32) (rg : Nat → Int32) (hq : Nat → Int32) (mf : Nat → Int32) (cd : Int32) (fg : Nat → Int32) (L : Int32 × Int32 × Int32 × Int64) (O : Int32 × Int32 × Int32 × Int64) (a0 : Int32) (P : Int32 → ((Nat → Int32) × (Nat → Int32) × (Nat → Int32) × (Nat → Int32) × Int32 × (Nat → Int32) × (Int32 × Int32 × Int32 × Int64) × (Int32 × Int32 × Int32 × Int64)) → Prop) : Prop := (((g 2) = (0 : Int32) → wp_Fu_conditionAsAsked cd fg L O a0 (fun r_2 => ∀ x_3 : Int32, x_3 = ((zz_ushr a0 (17 : Int32)) &&& (1 : Int32)) → ((x_3 = (0 : Int32) → wp_Pr_branch ms mn g rg hq mf cd fg L O a0 r_2 (0 : Int32) (fun r_6 u_5 => P r_6 (u_5.1, u_5.2.1, u_5.2.2.1, u_5.2.2.2.1, u_5.2.2.2.2.1, u_5.2.2.2.2.2.1, u_5.2.2.2.2.2.2.1, u_5.2.2.2.2.2.2.2))) ∧ (¬ x_3 = (0 : Int32) → wp_Pr_branch ms mn g rg hq mf cd fg L O a0 r_2 (1 : Int32) (fun r_8 u_7 => P r_8 (u_7.1, u_7.2.1, u_7.2.2.1, u_7.2.2.2.1, u_7.2.2.2.2.1, u_7.2.2.2.2.2.1, u_7.2.2.2.2.2.2.1, u_7.2.2.2.2.2.2.2)))))) ∧ (¬ (g 2) = (0 : Int32) → P (8 : Int32) (g, rg, hq, mf, cd, fg, L, O)))
abbrev rm_Pr_branchOnCondition : Room := { frames := 3, cells := 0, slots := 0, locals := 67 }
set_option maxHeartbeats 4000000 in
set_option maxRecDepth 100000 in
theorem c_Pr_branchOnCondition (l : Launch) (D : va_G) (cI : ClassId) (qp : Nat) (qr : Nat) (qh : Nat) (qm : Nat) (qw : Nat) (qu : Nat) (qf : Nat) (ql : Nat) (qo : Nat) (ms : Int32) (mn : Nat) (g : Nat → Int32) (rg : Nat → Int32) (hq : Nat → Int32) (mf : Nat → Int32) (cd : Int32) (fg : Nat → Int32) (L : Int32 × Int32 × Int32 × Int64) (O : Int32 × Int32 × Int32 × Int64) (a0 : Int32) (P : Int32 → ((Nat → Int32) × (Nat → Int32) × (Nat → Int32) × (Nat → Int32) × Int32 × (Nat → Int32) × (Int32 × Int32 × Int32 × Int64) × (Int32 × Int32 × Int32 × Int64)) → Prop) (h : wp_Pr_branchOnCondition ms mn g rg hq mf cd fg L O a0 P) (sz : Nat) : Met l y_Pr_branchOnCondition (zz_ws y_Pr_branchOnCondition b_Pr_branchOnCondition 2 (some .int)) rm_Pr_branchOnCondition (va_Pc [.ref qp, .int a0] (zz_pw D [(cI, .int)] (wP qp qr qh qm qw qu qf ql qo cI ms mn g rg hq mf cd fg L O) sz)) (va_Qi P (zz_qw D (fun u => wP qp qr qh qm qw qu qf ql qo cI ms mn u.1 u.2.1 u.2.2.1 u.2.2.2.1 u.2.2.2.2.1 u.2.2.2.2.2.1 u.2.2.2.2.2.2.1 u.2.2.2.2.2.2.2) (va_A (wP qp qr qh qm qw qu qf ql qo cI ms mn g rg hq mf cd fg L O) sz)) (va_A (wP qp qr qh qm qw qu qf ql qo cI ms mn g rg hq mf cd fg L O) sz)) 0 0 (va_A (wP qp qr qh qm qw qu qf ql qo cI ms mn g rg hq mf cd fg L O) sz) := by
  refine Met.ofW (cc := b_Pr_branchOnCondition) (maxL := 2) (ret := (some .int)) (by decide) rfl ?_
  intro p e s m args below meth c s₁ B hml hv
  obtain ⟨rfl, hsz, hP, hK, hD0⟩ := hv
  have hx := B.exec
  have hb := B.bytes
  have hr := B.returns
  have hts := atoms_spec (ws := (zz_ws y_Pr_branchOnCondition b_Pr_branchOnCondition 2 (some .int))) B.pre
  have hown : s.vm.findClass R_Pr = some m.cls := findClass_of_methodNamed B.named
  have hlocks := B.notSynchronized
  have hT := zz_hts hts
  have X : CallFix p m c b_Pr_branchOnCondition 2 s ([.ref qp, .int a0] : List Value).toArray (zz_ws y_Pr_branchOnCondition b_Pr_branchOnCondition 2 (some .int)) R_Pr := ⟨hx, hb, hml, hown, hts⟩
  have hf0 : 0 + 0 ≤ (headSpec (zz_ws y_Pr_branchOnCondition b_Pr_branchOnCondition 2 (some .int)) rm_Pr_branchOnCondition).room.cells ∧ 0 + 0 ≤ (headSpec (zz_ws y_Pr_branchOnCondition b_Pr_branchOnCondition 2 (some .int)) rm_Pr_branchOnCondition).room.slots := ⟨Nat.le_of_ble_eq_true rfl, Nat.le_of_ble_eq_true rfl⟩
  subst hsz
  have hD := hD0.self (sz := s.heap.size)
  generalize hAe : va_A (wP qp qr qh qm qw qu qf ql qo cI ms mn g rg hq mf cd fg L O) s.heap.size = A at hD ⊢
  have hA : ∀ q : Nat, s.heap.size ≤ q → A q := fun q h => by rw [← hAe]; exact Or.inr h
  have hS : va_S A s.heap s.heap [] := va_S.rf
  have hl := lv_entry ([.ref qp, .int a0]) (n := 2) (Nat.le_of_ble_eq_true rfl)
  rw [lg_entry_eq]
  generalize (lg_sl ([.ref qp, .int a0]) ++ List.replicate (2 - (lg_sl ([.ref qp, .int a0])).length) Slot.unset).toArray = ls at hl ⊢
  have hl : lv_has ls 2 [(0, .ref qp), (1, .int a0)] := hl
  refine lv_aload_n hx hb d_Pr_branchOnCondition_0 rfl (lv_at hl 0 rfl) ?_
  refine g_Pr_68 (v := .int (g 2)) hx hb hT hown hK hP 0 rfl rfl d_Pr_branchOnCondition_1 ?_
  refine lv_if_eq (tgt := 10) hx hb d_Pr_branchOnCondition_4 (by decide) (fun c_1 => ?_) (fun c_1 => ?_)
  · skip
    have h := h.1 c_1
    refine lv_aload_n hx hb d_Pr_branchOnCondition_10 rfl (lv_at hl 0 rfl) ?_
    refine lv_iload_n hx hb d_Pr_branchOnCondition_11 rfl (lv_at hl 1 rfl) ?_
    refine lv_aload_n hx hb d_Pr_branchOnCondition_12 rfl (lv_at hl 0 rfl) ?_
    refine g_Pr_25 (v := .ref qu) hx hb hT hown hK hP 0 rfl rfl d_Pr_branchOnCondition_13 ?_
    refine lv_iload_n hx hb d_Pr_branchOnCondition_16 rfl (lv_at hl 1 rfl) ?_
    refine zz_Ri (As := [.int a0]) (rest := [.int a0, .ref qp]) (wc := wU qu qf ql qo cI cd fg L O) X hK hP (c_Fu_conditionAsAsked l D cI qu qf ql qo cd fg L O a0 _ h) ⟨rfl, rfl⟩ m_Fu_conditionAsAsked k_Pr_164 ⟨Nat.le_of_ble_eq_true rfl, Nat.le_of_ble_eq_true rfl⟩ [5, 6, 7, 8] rfl 1 5 rfl rfl rfl rfl hl.1 rfl (Nat.le_of_ble_eq_true rfl) d_Pr_branchOnCondition_17 hf0 (fun r_2 h => ?_)
    refine lv_iload_n hx hb d_Pr_branchOnCondition_20 rfl (lv_at hl 1 rfl) ?_
    refine lv_bipush (v := 17) hx hb d_Pr_branchOnCondition_21 (by decide) ?_
    refine zz_iushr hx hb d_Pr_branchOnCondition_23 ?_
    refine lv_iconst (v := 1) hx hb d_Pr_branchOnCondition_24 (by decide) ?_
    refine lv_iand hx hb d_Pr_branchOnCondition_25 ?_
    refine lv_topi (fun x_3 ex_3 => ?_)
    have h := h x_3 ex_3
    refine lv_if_eq (tgt := 33) hx hb d_Pr_branchOnCondition_26 (by decide) (fun c_4 => ?_) (fun c_4 => ?_)
    · skip
      have h := h.1 c_4
      refine lv_iconst (v := 0) hx hb d_Pr_branchOnCondition_33 (by decide) ?_
      refine zz_Wi (As := [.int a0, .int r_2, .int (0 : Int32)]) (rest := []) (wc := wP qp qr qh qm qw qu qf ql qo cI ms mn g rg hq mf cd fg L O) (wr := []) X hK hP hD hS hA (c_Pr_branch l D cI qp qr qh qm qw qu qf ql qo ms mn g rg hq mf cd fg L O a0 r_2 (0 : Int32) _ h _) ⟨rfl, rfl⟩ m_Pr_branch k_Pr_249 ⟨Nat.le_of_ble_eq_true rfl, Nat.le_of_ble_eq_true rfl⟩ [0, 1, 2, 3, 4, 5, 6, 7, 8] [] rfl rfl (by decide) (by decide) (by decide) 4 0 rfl rfl rfl rfl hl.1 rfl (Nat.le_of_ble_eq_true rfl) d_Pr_branchOnCondition_34 hf0 (fun r_6 u_5 H locs h hP hD hS => ?_)
      have hP : va_P D vwCl (wP qp qr qh qm qw qu qf ql qo cI ms mn u_5.1 u_5.2.1 u_5.2.2.1 u_5.2.2.2.1 u_5.2.2.2.2.1 u_5.2.2.2.2.2.1 u_5.2.2.2.2.2.2.1 u_5.2.2.2.2.2.2.2) H := hP.sub [0, 1, 2, 3, 4, 5, 6, 7, 8] rfl
      have hD : va_D A (wP qp qr qh qm qw qu qf ql qo cI ms mn u_5.1 u_5.2.1 u_5.2.2.1 u_5.2.2.2.1 u_5.2.2.2.2.1 u_5.2.2.2.2.2.1 u_5.2.2.2.2.2.2.1 u_5.2.2.2.2.2.2.2) := hD.sub [0, 1, 2, 3, 4, 5, 6, 7, 8] (by decide) rfl
      exact W.iret (v := r_6) hx hb hr (fun t ht hW => ⟨⟨r_6, (u_5.1, u_5.2.1, u_5.2.2.1, u_5.2.2.2.1, u_5.2.2.2.2.1, u_5.2.2.2.2.2.1, u_5.2.2.2.2.2.2.1, u_5.2.2.2.2.2.2.2), rfl, h, by rw [ht]; exact hP, hD⟩, hS.F ht⟩) hS.2.2 d_Pr_branchOnCondition_37
    · skip
      have h := h.2 c_4
      refine lv_iconst (v := 1) hx hb d_Pr_branchOnCondition_29 (by decide) ?_
      refine lv_goto (tgt := 34) hx hb d_Pr_branchOnCondition_30 (by decide) ?_
      refine zz_Wi (As := [.int a0, .int r_2, .int (1 : Int32)]) (rest := []) (wc := wP qp qr qh qm qw qu qf ql qo cI ms mn g rg hq mf cd fg L O) (wr := []) X hK hP hD hS hA (c_Pr_branch l D cI qp qr qh qm qw qu qf ql qo ms mn g rg hq mf cd fg L O a0 r_2 (1 : Int32) _ h _) ⟨rfl, rfl⟩ m_Pr_branch k_Pr_249 ⟨Nat.le_of_ble_eq_true rfl, Nat.le_of_ble_eq_true rfl⟩ [0, 1, 2, 3, 4, 5, 6, 7, 8] [] rfl rfl (by decide) (by decide) (by decide) 4 0 rfl rfl rfl rfl hl.1 rfl (Nat.le_of_ble_eq_true rfl) d_Pr_branchOnCondition_34 hf0 (fun r_8 u_7 H locs h hP hD hS => ?_)
      have hP : va_P D vwCl (wP qp qr qh qm qw qu qf ql qo cI ms mn u_7.1 u_7.2.1 u_7.2.2.1 u_7.2.2.2.1 u_7.2.2.2.2.1 u_7.2.2.2.2.2.1 u_7.2.2.2.2.2.2.1 u_7.2.2.2.2.2.2.2) H := hP.sub [0, 1, 2, 3, 4, 5, 6, 7, 8] rfl
      have hD : va_D A (wP qp qr qh qm qw qu qf ql qo cI ms mn u_7.1 u_7.2.1 u_7.2.2.1 u_7.2.2.2.1 u_7.2.2.2.2.1 u_7.2.2.2.2.2.1 u_7.2.2.2.2.2.2.1 u_7.2.2.2.2.2.2.2) := hD.sub [0, 1, 2, 3, 4, 5, 6, 7, 8] (by decide) rfl
      exact W.iret (v := r_8) hx hb hr (fun t ht hW => ⟨⟨r_8, (u_7.1, u_7.2.1, u_7.2.2.1, u_7.2.2.2.1, u_7.2.2.2.2.1, u_7.2.2.2.2.2.1, u_7.2.2.2.2.2.2.1, u_7.2.2.2.2.2.2.2), rfl, h, by rw [ht]; exact hP, hD⟩, hS.F ht⟩) hS.2.2 d_Pr_branchOnCondition_37
  · skip
    have h := h.2 c_1
    refine lv_bipush (v := 8) hx hb d_Pr_branchOnCondition_7 (by decide) ?_
    exact W.iret (v := (8 : Int32)) hx hb hr (fun t ht hW => ⟨⟨(8 : Int32), (g, rg, hq, mf, cd, fg, L, O), rfl, h, by rw [ht]; exact hP, hD⟩, hS.F ht⟩) hS.2.2 d_Pr_branchOnCondition_9
def wp_Pr_coprocessor (ms : Int32) (mn : Nat) (g : Nat → Int32) (rg : Nat → Int32) (hq : Nat → Int32) (mf : Nat → Int32) (cd : Int32) (fg : Nat → Int32) (L : Int32 × Int32 × Int32 × Int64) (O : Int32 × Int32 × Int32 × Int64) (a0 : Int32) (P : Int32 → ((Nat → Int32) × (Nat → Int32) × (Nat → Int32) × (Nat → Int32) × Int32 × (Nat → Int32) × (Int32 × Int32 × Int32 × Int64) × (Int32 × Int32 × Int32 × Int64)) → Prop) : Prop := wp_Pr_rs a0 (fun r_1 => (((r_1 = (0 : Int32)) → wp_Pr_rt a0 (fun r_3 => wp_Pr_rd a0 (fun r_4 => vp_in r_4 32 ∧ ∀ x_5 : Int32, x_5 = (fg r_4.toNatClampNeg) → wp_Pr_result ms mn g rg hq mf cd fg L O r_3 x_5 (fun r_7 u_6 => P r_7 (u_6.1, u_6.2.1, u_6.2.2.1, u_6.2.2.2.1, u_6.2.2.2.2.1, u_6.2.2.2.2.2.1, u_6.2.2.2.2.2.2.1, u_6.2.2.2.2.2.2.2))))) ∧ (¬ (r_1 = (0 : Int32)) → (((r_1 = (4 : Int32)) → wp_Pr_rd a0 (fun r_9 => wp_Pr_rt a0 (fun r_10 => vp_in r_10 32 ∧ ∀ x_11 : Int32, x_11 = (rg r_10.toNatClampNeg) → vp_in r_9 32 ∧ P (0 : Int32) (g, rg, hq, mf, cd, (upd fg r_9.toNatClampNeg x_11), L, O)))) ∧ (¬ (r_1 = (4 : Int32)) → (((r_1 = (8 : Int32)) → wp_Pr_branchOnCondition ms mn g rg hq mf cd fg L O a0 (fun r_14 u_13 => P r_14 (u_13.1, u_13.2.1, u_13.2.2.1, u_13.2.2.2.1, u_13.2.2.2.2.1, u_13.2.2.2.2.2.1, u_13.2.2.2.2.2.2.1, u_13.2.2.2.2.2.2.2))) ∧ (¬ (r_1 = (8 : Int32)) → P (3 : Int32) (g, rg, hq, mf, cd, fg, L, O))))))))
abbrev rm_Pr_coprocessor : Room := { frames := 4, cells := 0, slots := 0, locals := 88 }
set_option maxHeartbeats 4000000 in
set_option maxRecDepth 100000 in
theorem c_Pr_coprocessor (l : Launch) (D : va_G) (cI : ClassId) (qp : Nat) (qr : Nat) (qh : Nat) (qm : Nat) (qw : Nat) (qu : Nat) (qf : Nat) (ql : Nat) (qo : Nat) (ms : Int32) (mn : Nat) (g : Nat → Int32) (rg : Nat → Int32) (hq : Nat → Int32) (mf : Nat → Int32) (cd : Int32) (fg : Nat → Int32) (L : Int32 × Int32 × Int32 × Int64) (O : Int32 × Int32 × Int32 × Int64) (a0 : Int32) (P : Int32 → ((Nat → Int32) × (Nat → Int32) × (Nat → Int32) × (Nat → Int32) × Int32 × (Nat → Int32) × (Int32 × Int32 × Int32 × Int64) × (Int32 × Int32 × Int32 × Int64)) → Prop) (h : wp_Pr_coprocessor ms mn g rg hq mf cd fg L O a0 P) (sz : Nat) : Met l y_Pr_coprocessor (zz_ws y_Pr_coprocessor b_Pr_coprocessor 2 (some .int)) rm_Pr_coprocessor (va_Pc [.ref qp, .int a0] (zz_pw D [(cI, .int)] (wP qp qr qh qm qw qu qf ql qo cI ms mn g rg hq mf cd fg L O) sz)) (va_Qi P (zz_qw D (fun u => wP qp qr qh qm qw qu qf ql qo cI ms mn u.1 u.2.1 u.2.2.1 u.2.2.2.1 u.2.2.2.2.1 u.2.2.2.2.2.1 u.2.2.2.2.2.2.1 u.2.2.2.2.2.2.2) (va_A (wP qp qr qh qm qw qu qf ql qo cI ms mn g rg hq mf cd fg L O) sz)) (va_A (wP qp qr qh qm qw qu qf ql qo cI ms mn g rg hq mf cd fg L O) sz)) 0 0 (va_A (wP qp qr qh qm qw qu qf ql qo cI ms mn g rg hq mf cd fg L O) sz) := by
  refine Met.ofW (cc := b_Pr_coprocessor) (maxL := 2) (ret := (some .int)) (by decide) rfl ?_
  intro p e s m args below meth c s₁ B hml hv
  obtain ⟨rfl, hsz, hP, hK, hD0⟩ := hv
  have hx := B.exec
  have hb := B.bytes
  have hr := B.returns
  have hts := atoms_spec (ws := (zz_ws y_Pr_coprocessor b_Pr_coprocessor 2 (some .int))) B.pre
  have hown : s.vm.findClass R_Pr = some m.cls := findClass_of_methodNamed B.named
  have hlocks := B.notSynchronized
  have hT := zz_hts hts
  have X : CallFix p m c b_Pr_coprocessor 2 s ([.ref qp, .int a0] : List Value).toArray (zz_ws y_Pr_coprocessor b_Pr_coprocessor 2 (some .int)) R_Pr := ⟨hx, hb, hml, hown, hts⟩
  have hf0 : 0 + 0 ≤ (headSpec (zz_ws y_Pr_coprocessor b_Pr_coprocessor 2 (some .int)) rm_Pr_coprocessor).room.cells ∧ 0 + 0 ≤ (headSpec (zz_ws y_Pr_coprocessor b_Pr_coprocessor 2 (some .int)) rm_Pr_coprocessor).room.slots := ⟨Nat.le_of_ble_eq_true rfl, Nat.le_of_ble_eq_true rfl⟩
  subst hsz
  have hD := hD0.self (sz := s.heap.size)
  generalize hAe : va_A (wP qp qr qh qm qw qu qf ql qo cI ms mn g rg hq mf cd fg L O) s.heap.size = A at hD ⊢
  have hA : ∀ q : Nat, s.heap.size ≤ q → A q := fun q h => by rw [← hAe]; exact Or.inr h
  have hS : va_S A s.heap s.heap [] := va_S.rf
  have hl := lv_entry ([.ref qp, .int a0]) (n := 2) (Nat.le_of_ble_eq_true rfl)
  rw [lg_entry_eq]
  generalize (lg_sl ([.ref qp, .int a0]) ++ List.replicate (2 - (lg_sl ([.ref qp, .int a0])).length) Slot.unset).toArray = ls at hl ⊢
  have hl : lv_has ls 2 [(0, .ref qp), (1, .int a0)] := hl
  refine lv_iload_n hx hb d_Pr_coprocessor_0 rfl (lv_at hl 1 rfl) ?_
  refine zz_Si (As := [.int a0]) (rest := []) X (c_Pr_rs l a0 _ h) ⟨rfl, rfl⟩ m_Pr_rs k_Pr_83 ⟨Nat.le_of_ble_eq_true rfl, Nat.le_of_ble_eq_true rfl⟩ rfl hl.1 rfl (Nat.le_of_ble_eq_true rfl) d_Pr_coprocessor_1 hf0 (fun r_1 h => ?_)
  by_cases c_2 : r_1 = (0 : Int32)
  · have h := h.1 c_2
    have h0 := c_2
    refine lv_lookup (off := 36) (tgt := 40) hx hb d_Pr_coprocessor_4 (by decide) (by rw [h0]; decide) (by decide) ?_
    refine lv_aload_n hx hb d_Pr_coprocessor_40 rfl (lv_at hl 0 rfl) ?_
    refine lv_iload_n hx hb d_Pr_coprocessor_41 rfl (lv_at hl 1 rfl) ?_
    refine zz_Si (As := [.int a0]) (rest := [.ref qp]) X (c_Pr_rt l a0 _ h) ⟨rfl, rfl⟩ m_Pr_rt k_Pr_89 ⟨Nat.le_of_ble_eq_true rfl, Nat.le_of_ble_eq_true rfl⟩ rfl hl.1 rfl (Nat.le_of_ble_eq_true rfl) d_Pr_coprocessor_42 hf0 (fun r_3 h => ?_)
    refine lv_aload_n hx hb d_Pr_coprocessor_45 rfl (lv_at hl 0 rfl) ?_
    refine g_Pr_25 (v := .ref qu) hx hb hT hown hK hP 0 rfl rfl d_Pr_coprocessor_46 ?_
    refine g_Pr_273 (v := .ref qf) hx hb hT hown hK hP 5 rfl rfl d_Pr_coprocessor_49 ?_
    refine lv_iload_n hx hb d_Pr_coprocessor_52 rfl (lv_at hl 1 rfl) ?_
    refine zz_Si (As := [.int a0]) (rest := [.ref qf, .int r_3, .ref qp]) X (c_Pr_rd l a0 _ h) ⟨rfl, rfl⟩ m_Pr_rd k_Pr_158 ⟨Nat.le_of_ble_eq_true rfl, Nat.le_of_ble_eq_true rfl⟩ rfl hl.1 rfl (Nat.le_of_ble_eq_true rfl) d_Pr_coprocessor_53 hf0 (fun r_4 h => ?_)
    refine va_iald (f := fg) hx hb hK hP 6 0 rfl rfl h.1 d_Pr_coprocessor_56 ?_
    have h := h.2
    refine lv_topi (fun x_5 ex_5 => ?_)
    have h := h x_5 ex_5
    refine zz_Wi (As := [.int r_3, .int x_5]) (rest := []) (wc := wP qp qr qh qm qw qu qf ql qo cI ms mn g rg hq mf cd fg L O) (wr := []) X hK hP hD hS hA (c_Pr_result l D cI qp qr qh qm qw qu qf ql qo ms mn g rg hq mf cd fg L O r_3 x_5 _ h _) ⟨rfl, rfl⟩ m_Pr_result k_Pr_161 ⟨Nat.le_of_ble_eq_true rfl, Nat.le_of_ble_eq_true rfl⟩ [0, 1, 2, 3, 4, 5, 6, 7, 8] [] rfl rfl (by decide) (by decide) (by decide) 4 0 rfl rfl rfl rfl hl.1 rfl (Nat.le_of_ble_eq_true rfl) d_Pr_coprocessor_57 hf0 (fun r_7 u_6 H locs h hP hD hS => ?_)
    have hP : va_P D vwCl (wP qp qr qh qm qw qu qf ql qo cI ms mn u_6.1 u_6.2.1 u_6.2.2.1 u_6.2.2.2.1 u_6.2.2.2.2.1 u_6.2.2.2.2.2.1 u_6.2.2.2.2.2.2.1 u_6.2.2.2.2.2.2.2) H := hP.sub [0, 1, 2, 3, 4, 5, 6, 7, 8] rfl
    have hD : va_D A (wP qp qr qh qm qw qu qf ql qo cI ms mn u_6.1 u_6.2.1 u_6.2.2.1 u_6.2.2.2.1 u_6.2.2.2.2.1 u_6.2.2.2.2.2.1 u_6.2.2.2.2.2.2.1 u_6.2.2.2.2.2.2.2) := hD.sub [0, 1, 2, 3, 4, 5, 6, 7, 8] (by decide) rfl
    exact W.iret (v := r_7) hx hb hr (fun t ht hW => ⟨⟨r_7, (u_6.1, u_6.2.1, u_6.2.2.1, u_6.2.2.2.1, u_6.2.2.2.2.1, u_6.2.2.2.2.2.1, u_6.2.2.2.2.2.2.1, u_6.2.2.2.2.2.2.2), rfl, h, by rw [ht]; exact hP, hD⟩, hS.F ht⟩) hS.2.2 d_Pr_coprocessor_60
  · have h := h.2 c_2
    by_cases c_8 : r_1 = (4 : Int32)
    · have h := h.1 c_8
      have h0 := c_8
      refine lv_lookup (off := 57) (tgt := 61) hx hb d_Pr_coprocessor_4 (by decide) (by rw [h0]; decide) (by decide) ?_
      refine lv_aload_n hx hb d_Pr_coprocessor_61 rfl (lv_at hl 0 rfl) ?_
      refine g_Pr_25 (v := .ref qu) hx hb hT hown hK hP 0 rfl rfl d_Pr_coprocessor_62 ?_
      refine g_Pr_273 (v := .ref qf) hx hb hT hown hK hP 5 rfl rfl d_Pr_coprocessor_65 ?_
      refine lv_iload_n hx hb d_Pr_coprocessor_68 rfl (lv_at hl 1 rfl) ?_
      refine zz_Si (As := [.int a0]) (rest := [.ref qf]) X (c_Pr_rd l a0 _ h) ⟨rfl, rfl⟩ m_Pr_rd k_Pr_158 ⟨Nat.le_of_ble_eq_true rfl, Nat.le_of_ble_eq_true rfl⟩ rfl hl.1 rfl (Nat.le_of_ble_eq_true rfl) d_Pr_coprocessor_69 hf0 (fun r_9 h => ?_)
      refine lv_aload_n hx hb d_Pr_coprocessor_72 rfl (lv_at hl 0 rfl) ?_
      refine g_Pr_9 (v := .ref qr) hx hb hT hown hK hP 0 rfl rfl d_Pr_coprocessor_73 ?_
      refine lv_iload_n hx hb d_Pr_coprocessor_76 rfl (lv_at hl 1 rfl) ?_
      refine zz_Si (As := [.int a0]) (rest := [.ref qr, .int r_9, .ref qf]) X (c_Pr_rt l a0 _ h) ⟨rfl, rfl⟩ m_Pr_rt k_Pr_89 ⟨Nat.le_of_ble_eq_true rfl, Nat.le_of_ble_eq_true rfl⟩ rfl hl.1 rfl (Nat.le_of_ble_eq_true rfl) d_Pr_coprocessor_77 hf0 (fun r_10 h => ?_)
      refine va_iald (f := rg) hx hb hK hP 1 0 rfl rfl h.1 d_Pr_coprocessor_80 ?_
      have h := h.2
      refine lv_topi (fun x_11 ex_11 => ?_)
      have h := h x_11 ex_11
      refine va_iast (f := fg) hx hb hK hP hD hS 6 0 rfl rfl h.1 d_Pr_coprocessor_81 (fun H locs (hP : va_P D vwCl (wP qp qr qh qm qw qu qf ql qo cI ms mn g rg hq mf cd (upd fg r_9.toNatClampNeg x_11) L O) H) (hD : va_D A (wP qp qr qh qm qw qu qf ql qo cI ms mn g rg hq mf cd (upd fg r_9.toNatClampNeg x_11) L O)) hS => ?_)
      have h := h.2
      refine lv_iconst (v := 0) hx hb d_Pr_coprocessor_82 (by decide) ?_
      exact W.iret (v := (0 : Int32)) hx hb hr (fun t ht hW => ⟨⟨(0 : Int32), (g, rg, hq, mf, cd, (upd fg r_9.toNatClampNeg x_11), L, O), rfl, h, by rw [ht]; exact hP, hD⟩, hS.F ht⟩) hS.2.2 d_Pr_coprocessor_83
    · have h := h.2 c_8
      by_cases c_12 : r_1 = (8 : Int32)
      · have h := h.1 c_12
        have h0 := c_12
        refine lv_lookup (off := 80) (tgt := 84) hx hb d_Pr_coprocessor_4 (by decide) (by rw [h0]; decide) (by decide) ?_
        refine lv_aload_n hx hb d_Pr_coprocessor_84 rfl (lv_at hl 0 rfl) ?_
        refine lv_iload_n hx hb d_Pr_coprocessor_85 rfl (lv_at hl 1 rfl) ?_
        refine zz_Wi (As := [.int a0]) (rest := []) (wc := wP qp qr qh qm qw qu qf ql qo cI ms mn g rg hq mf cd fg L O) (wr := []) X hK hP hD hS hA (c_Pr_branchOnCondition l D cI qp qr qh qm qw qu qf ql qo ms mn g rg hq mf cd fg L O a0 _ h _) ⟨rfl, rfl⟩ m_Pr_branchOnCondition k_Pr_280 ⟨Nat.le_of_ble_eq_true rfl, Nat.le_of_ble_eq_true rfl⟩ [0, 1, 2, 3, 4, 5, 6, 7, 8] [] rfl rfl (by decide) (by decide) (by decide) 4 0 rfl rfl rfl rfl hl.1 rfl (Nat.le_of_ble_eq_true rfl) d_Pr_coprocessor_86 hf0 (fun r_14 u_13 H locs h hP hD hS => ?_)
        have hP : va_P D vwCl (wP qp qr qh qm qw qu qf ql qo cI ms mn u_13.1 u_13.2.1 u_13.2.2.1 u_13.2.2.2.1 u_13.2.2.2.2.1 u_13.2.2.2.2.2.1 u_13.2.2.2.2.2.2.1 u_13.2.2.2.2.2.2.2) H := hP.sub [0, 1, 2, 3, 4, 5, 6, 7, 8] rfl
        have hD : va_D A (wP qp qr qh qm qw qu qf ql qo cI ms mn u_13.1 u_13.2.1 u_13.2.2.1 u_13.2.2.2.1 u_13.2.2.2.2.1 u_13.2.2.2.2.2.1 u_13.2.2.2.2.2.2.1 u_13.2.2.2.2.2.2.2) := hD.sub [0, 1, 2, 3, 4, 5, 6, 7, 8] (by decide) rfl
        exact W.iret (v := r_14) hx hb hr (fun t ht hW => ⟨⟨r_14, (u_13.1, u_13.2.1, u_13.2.2.1, u_13.2.2.2.1, u_13.2.2.2.2.1, u_13.2.2.2.2.2.1, u_13.2.2.2.2.2.2.1, u_13.2.2.2.2.2.2.2), rfl, h, by rw [ht]; exact hP, hD⟩, hS.F ht⟩) hS.2.2 d_Pr_coprocessor_89
      · have h := h.2 c_12
        refine lv_lookup (off := 86) (tgt := 90) hx hb d_Pr_coprocessor_4 (by decide) (by show Op.lookupswitch.offset [(0, 36), (4, 57), (8, 80)] _ _ = _; rw [lv_osw (k := 0) c_2 (by decide), lv_osw (k := 4) c_8 (by decide), lv_osw (k := 8) c_12 (by decide)]; rfl) (by decide) ?_
        refine lv_iconst (v := 3) hx hb d_Pr_coprocessor_90 (by decide) ?_
        exact W.iret (v := (3 : Int32)) hx hb hr (fun t ht hW => ⟨⟨(3 : Int32), (g, rg, hq, mf, cd, fg, L, O), rfl, h, by rw [ht]; exact hP, hD⟩, hS.F ht⟩) hS.2.2 d_Pr_coprocessor_91
def wp_Pr_jump (ms : Int32) (mn : Nat) (g : Nat → Int32) (rg : Nat → Int32) (hq : Nat → Int32) (mf : Nat → Int32) (cd : Int32) (fg : Nat → Int32) (L : Int32 × Int32 × Int32 × Int64) (O : Int32 × Int32 × Int32 × Int64) (a0 : Int32) (P : Int32 → ((Nat → Int32) × (Nat → Int32) × (Nat → Int32) × (Nat → Int32) × Int32 × (Nat → Int32) × (Int32 × Int32 × Int32 × Int64) × (Int32 × Int32 × Int32 × Int64)) → Prop) : Prop := (((g 2) = (0 : Int32) → wp_Pr_opcode a0 (fun r_2 => ((r_2 = (3 : Int32) → wp_Pr_write ms mn g rg hq mf cd fg L O (31 : Int32) ((g 0) + (8 : Int32)) (fun u_8 => ∀ x_10 : Int32, x_10 = ((u_8.1 1) &&& (-268435456 : Int32)) → ∀ x_11 : Int32, x_11 = (zz_shl (a0 &&& (67108863 : Int32)) (2 : Int32)) → wp_Pr_leave ms mn u_8.1 u_8.2.1 u_8.2.2.1 u_8.2.2.2.1 u_8.2.2.2.2.1 u_8.2.2.2.2.2.1 u_8.2.2.2.2.2.2.1 u_8.2.2.2.2.2.2.2 (x_10 ||| x_11) (fun r_13 u_12 => P r_13 (u_12.1, u_12.2.1, u_12.2.2.1, u_12.2.2.2.1, u_12.2.2.2.2.1, u_12.2.2.2.2.2.1, u_12.2.2.2.2.2.2.1, u_12.2.2.2.2.2.2.2)))) ∧ (¬ r_2 = (3 : Int32) → ∀ x_4 : Int32, x_4 = ((g 1) &&& (-268435456 : Int32)) → ∀ x_5 : Int32, x_5 = (zz_shl (a0 &&& (67108863 : Int32)) (2 : Int32)) → wp_Pr_leave ms mn g rg hq mf cd fg L O (x_4 ||| x_5) (fun r_7 u_6 => P r_7 (u_6.1, u_6.2.1, u_6.2.2.1, u_6.2.2.2.1, u_6.2.2.2.2.1, u_6.2.2.2.2.2.1, u_6.2.2.2.2.2.2.1, u_6.2.2.2.2.2.2.2)))))) ∧ (¬ (g 2) = (0 : Int32) → P (8 : Int32) (g, rg, hq, mf, cd, fg, L, O)))
abbrev rm_Pr_jump : Room := { frames := 2, cells := 0, slots := 0, locals := 44 }
set_option maxHeartbeats 4000000 in
set_option maxRecDepth 100000 in
theorem c_Pr_jump (l : Launch) (D : va_G) (cI : ClassId) (qp : Nat) (qr : Nat) (qh : Nat) (qm : Nat) (qw : Nat) (qu : Nat) (qf : Nat) (ql : Nat) (qo : Nat) (ms : Int32) (mn : Nat) (g : Nat → Int32) (rg : Nat → Int32) (hq : Nat → Int32) (mf : Nat → Int32) (cd : Int32) (fg : Nat → Int32) (L : Int32 × Int32 × Int32 × Int64) (O : Int32 × Int32 × Int32 × Int64) (a0 : Int32) (P : Int32 → ((Nat → Int32) × (Nat → Int32) × (Nat → Int32) × (Nat → Int32) × Int32 × (Nat → Int32) × (Int32 × Int32 × Int32 × Int64) × (Int32 × Int32 × Int32 × Int64)) → Prop) (h : wp_Pr_jump ms mn g rg hq mf cd fg L O a0 P) (sz : Nat) : Met l y_Pr_jump (zz_ws y_Pr_jump b_Pr_jump 2 (some .int)) rm_Pr_jump (va_Pc [.ref qp, .int a0] (zz_pw D [(cI, .int)] (wP qp qr qh qm qw qu qf ql qo cI ms mn g rg hq mf cd fg L O) sz)) (va_Qi P (zz_qw D (fun u => wP qp qr qh qm qw qu qf ql qo cI ms mn u.1 u.2.1 u.2.2.1 u.2.2.2.1 u.2.2.2.2.1 u.2.2.2.2.2.1 u.2.2.2.2.2.2.1 u.2.2.2.2.2.2.2) (va_A (wP qp qr qh qm qw qu qf ql qo cI ms mn g rg hq mf cd fg L O) sz)) (va_A (wP qp qr qh qm qw qu qf ql qo cI ms mn g rg hq mf cd fg L O) sz)) 0 0 (va_A (wP qp qr qh qm qw qu qf ql qo cI ms mn g rg hq mf cd fg L O) sz) := by
  refine Met.ofW (cc := b_Pr_jump) (maxL := 2) (ret := (some .int)) (by decide) rfl ?_
  intro p e s m args below meth c s₁ B hml hv
  obtain ⟨rfl, hsz, hP, hK, hD0⟩ := hv
  have hx := B.exec
  have hb := B.bytes
  have hr := B.returns
  have hts := atoms_spec (ws := (zz_ws y_Pr_jump b_Pr_jump 2 (some .int))) B.pre
  have hown : s.vm.findClass R_Pr = some m.cls := findClass_of_methodNamed B.named
  have hlocks := B.notSynchronized
  have hT := zz_hts hts
  have X : CallFix p m c b_Pr_jump 2 s ([.ref qp, .int a0] : List Value).toArray (zz_ws y_Pr_jump b_Pr_jump 2 (some .int)) R_Pr := ⟨hx, hb, hml, hown, hts⟩
  have hf0 : 0 + 0 ≤ (headSpec (zz_ws y_Pr_jump b_Pr_jump 2 (some .int)) rm_Pr_jump).room.cells ∧ 0 + 0 ≤ (headSpec (zz_ws y_Pr_jump b_Pr_jump 2 (some .int)) rm_Pr_jump).room.slots := ⟨Nat.le_of_ble_eq_true rfl, Nat.le_of_ble_eq_true rfl⟩
  subst hsz
  have hD := hD0.self (sz := s.heap.size)
  generalize hAe : va_A (wP qp qr qh qm qw qu qf ql qo cI ms mn g rg hq mf cd fg L O) s.heap.size = A at hD ⊢
  have hA : ∀ q : Nat, s.heap.size ≤ q → A q := fun q h => by rw [← hAe]; exact Or.inr h
  have hS : va_S A s.heap s.heap [] := va_S.rf
  have hl := lv_entry ([.ref qp, .int a0]) (n := 2) (Nat.le_of_ble_eq_true rfl)
  rw [lg_entry_eq]
  generalize (lg_sl ([.ref qp, .int a0]) ++ List.replicate (2 - (lg_sl ([.ref qp, .int a0])).length) Slot.unset).toArray = ls at hl ⊢
  have hl : lv_has ls 2 [(0, .ref qp), (1, .int a0)] := hl
  refine lv_aload_n hx hb d_Pr_jump_0 rfl (lv_at hl 0 rfl) ?_
  refine g_Pr_68 (v := .int (g 2)) hx hb hT hown hK hP 0 rfl rfl d_Pr_jump_1 ?_
  refine lv_if_eq (tgt := 10) hx hb d_Pr_jump_4 (by decide) (fun c_1 => ?_) (fun c_1 => ?_)
  · skip
    have h := h.1 c_1
    refine lv_iload_n hx hb d_Pr_jump_10 rfl (lv_at hl 1 rfl) ?_
    refine zz_Si (As := [.int a0]) (rest := []) X (c_Pr_opcode l a0 _ h) ⟨rfl, rfl⟩ m_Pr_opcode k_Pr_71 ⟨Nat.le_of_ble_eq_true rfl, Nat.le_of_ble_eq_true rfl⟩ rfl hl.1 rfl (Nat.le_of_ble_eq_true rfl) d_Pr_jump_11 hf0 (fun r_2 h => ?_)
    refine lv_iconst (v := 3) hx hb d_Pr_jump_14 (by decide) ?_
    refine lv_icmp_ne (tgt := 31) hx hb d_Pr_jump_15 (by decide) (fun c_3 => ?_) (fun c_3 => ?_)
    · skip
      have h := h.2 c_3
      refine lv_aload_n hx hb d_Pr_jump_31 rfl (lv_at hl 0 rfl) ?_
      refine lv_aload_n hx hb d_Pr_jump_32 rfl (lv_at hl 0 rfl) ?_
      refine g_Pr_29 (v := .int (g 1)) hx hb hT hown hK hP 0 rfl rfl d_Pr_jump_33 ?_
      refine lv_ldcw (v := -268435456) hx hb hown (hT _ n_Pr_256) d_Pr_jump_36 ?_
      refine lv_iand hx hb d_Pr_jump_39 ?_
      refine lv_topi (fun x_4 ex_4 => ?_)
      have h := h x_4 ex_4
      refine lv_iload_n hx hb d_Pr_jump_40 rfl (lv_at hl 1 rfl) ?_
      refine lv_ldcw (v := 67108863) hx hb hown (hT _ n_Pr_257) d_Pr_jump_41 ?_
      refine lv_iand hx hb d_Pr_jump_44 ?_
      refine lv_iconst (v := 2) hx hb d_Pr_jump_45 (by decide) ?_
      refine zz_ishl hx hb d_Pr_jump_46 ?_
      refine lv_topi (fun x_5 ex_5 => ?_)
      have h := h x_5 ex_5
      refine lv_ior hx hb d_Pr_jump_47 ?_
      refine zz_Wi (As := [.int (x_4 ||| x_5)]) (rest := []) (wc := wP qp qr qh qm qw qu qf ql qo cI ms mn g rg hq mf cd fg L O) (wr := []) X hK hP hD hS hA (c_Pr_leave l D cI qp qr qh qm qw qu qf ql qo ms mn g rg hq mf cd fg L O (x_4 ||| x_5) _ h _) ⟨rfl, rfl⟩ m_Pr_leave k_Pr_172 ⟨Nat.le_of_ble_eq_true rfl, Nat.le_of_ble_eq_true rfl⟩ [0, 1, 2, 3, 4, 5, 6, 7, 8] [] rfl rfl (by decide) (by decide) (by decide) 4 0 rfl rfl rfl rfl hl.1 rfl (Nat.le_of_ble_eq_true rfl) d_Pr_jump_48 hf0 (fun r_7 u_6 H locs h hP hD hS => ?_)
      have hP : va_P D vwCl (wP qp qr qh qm qw qu qf ql qo cI ms mn u_6.1 u_6.2.1 u_6.2.2.1 u_6.2.2.2.1 u_6.2.2.2.2.1 u_6.2.2.2.2.2.1 u_6.2.2.2.2.2.2.1 u_6.2.2.2.2.2.2.2) H := hP.sub [0, 1, 2, 3, 4, 5, 6, 7, 8] rfl
      have hD : va_D A (wP qp qr qh qm qw qu qf ql qo cI ms mn u_6.1 u_6.2.1 u_6.2.2.1 u_6.2.2.2.1 u_6.2.2.2.2.1 u_6.2.2.2.2.2.1 u_6.2.2.2.2.2.2.1 u_6.2.2.2.2.2.2.2) := hD.sub [0, 1, 2, 3, 4, 5, 6, 7, 8] (by decide) rfl
      exact W.iret (v := r_7) hx hb hr (fun t ht hW => ⟨⟨r_7, (u_6.1, u_6.2.1, u_6.2.2.1, u_6.2.2.2.1, u_6.2.2.2.2.1, u_6.2.2.2.2.2.1, u_6.2.2.2.2.2.2.1, u_6.2.2.2.2.2.2.2), rfl, h, by rw [ht]; exact hP, hD⟩, hS.F ht⟩) hS.2.2 d_Pr_jump_51
    · skip
      have h := h.1 c_3
      refine lv_aload_n hx hb d_Pr_jump_18 rfl (lv_at hl 0 rfl) ?_
      refine lv_bipush (v := 31) hx hb d_Pr_jump_19 (by decide) ?_
      refine lv_aload_n hx hb d_Pr_jump_21 rfl (lv_at hl 0 rfl) ?_
      refine g_Pr_48 (v := .int (g 0)) hx hb hT hown hK hP 0 rfl rfl d_Pr_jump_22 ?_
      refine lv_bipush (v := 8) hx hb d_Pr_jump_25 (by decide) ?_
      refine lv_iadd hx hb d_Pr_jump_27 ?_
      refine zz_Wv (As := [.int (31 : Int32), .int ((g 0) + (8 : Int32))]) (rest := []) (wc := wP qp qr qh qm qw qu qf ql qo cI ms mn g rg hq mf cd fg L O) (wr := []) X hK hP hD hS hA (c_Pr_write l D cI qp qr qh qm qw qu qf ql qo ms mn g rg hq mf cd fg L O (31 : Int32) ((g 0) + (8 : Int32)) _ h _) ⟨rfl, rfl⟩ m_Pr_write k_Pr_245 ⟨Nat.le_of_ble_eq_true rfl, Nat.le_of_ble_eq_true rfl⟩ [0, 1, 2, 3, 4, 5, 6, 7, 8] [] rfl rfl (by decide) (by decide) (by decide) 4 0 rfl rfl rfl rfl hl.1 rfl (Nat.le_of_ble_eq_true rfl) d_Pr_jump_28 hf0 (fun u_8 H locs h hP hD hS => ?_)
      have hP : va_P D vwCl (wP qp qr qh qm qw qu qf ql qo cI ms mn u_8.1 u_8.2.1 u_8.2.2.1 u_8.2.2.2.1 u_8.2.2.2.2.1 u_8.2.2.2.2.2.1 u_8.2.2.2.2.2.2.1 u_8.2.2.2.2.2.2.2) H := hP.sub [0, 1, 2, 3, 4, 5, 6, 7, 8] rfl
      have hD : va_D A (wP qp qr qh qm qw qu qf ql qo cI ms mn u_8.1 u_8.2.1 u_8.2.2.1 u_8.2.2.2.1 u_8.2.2.2.2.1 u_8.2.2.2.2.2.1 u_8.2.2.2.2.2.2.1 u_8.2.2.2.2.2.2.2) := hD.sub [0, 1, 2, 3, 4, 5, 6, 7, 8] (by decide) rfl
      refine lv_aload_n hx hb d_Pr_jump_31 rfl (lv_at hl 0 rfl) ?_
      refine lv_aload_n hx hb d_Pr_jump_32 rfl (lv_at hl 0 rfl) ?_
      refine g_Pr_29 (v := .int (u_8.1 1)) hx hb hT hown hK hP 0 rfl rfl d_Pr_jump_33 ?_
      refine lv_ldcw (v := -268435456) hx hb hown (hT _ n_Pr_256) d_Pr_jump_36 ?_
      refine lv_iand hx hb d_Pr_jump_39 ?_
      refine lv_topi (fun x_10 ex_10 => ?_)
      have h := h x_10 ex_10
      refine lv_iload_n hx hb d_Pr_jump_40 rfl (lv_at hl 1 rfl) ?_
      refine lv_ldcw (v := 67108863) hx hb hown (hT _ n_Pr_257) d_Pr_jump_41 ?_
      refine lv_iand hx hb d_Pr_jump_44 ?_
      refine lv_iconst (v := 2) hx hb d_Pr_jump_45 (by decide) ?_
      refine zz_ishl hx hb d_Pr_jump_46 ?_
      refine lv_topi (fun x_11 ex_11 => ?_)
      have h := h x_11 ex_11
      refine lv_ior hx hb d_Pr_jump_47 ?_
      refine zz_Wi (As := [.int (x_10 ||| x_11)]) (rest := []) (wc := wP qp qr qh qm qw qu qf ql qo cI ms mn u_8.1 u_8.2.1 u_8.2.2.1 u_8.2.2.2.1 u_8.2.2.2.2.1 u_8.2.2.2.2.2.1 u_8.2.2.2.2.2.2.1 u_8.2.2.2.2.2.2.2) (wr := []) X hK hP hD hS hA (c_Pr_leave l D cI qp qr qh qm qw qu qf ql qo ms mn u_8.1 u_8.2.1 u_8.2.2.1 u_8.2.2.2.1 u_8.2.2.2.2.1 u_8.2.2.2.2.2.1 u_8.2.2.2.2.2.2.1 u_8.2.2.2.2.2.2.2 (x_10 ||| x_11) _ h _) ⟨rfl, rfl⟩ m_Pr_leave k_Pr_172 ⟨Nat.le_of_ble_eq_true rfl, Nat.le_of_ble_eq_true rfl⟩ [0, 1, 2, 3, 4, 5, 6, 7, 8] [] rfl rfl (by decide) (by decide) (by decide) 4 0 rfl rfl rfl rfl hl.1 rfl (Nat.le_of_ble_eq_true rfl) d_Pr_jump_48 hf0 (fun r_13 u_12 H locs h hP hD hS => ?_)
      have hP : va_P D vwCl (wP qp qr qh qm qw qu qf ql qo cI ms mn u_12.1 u_12.2.1 u_12.2.2.1 u_12.2.2.2.1 u_12.2.2.2.2.1 u_12.2.2.2.2.2.1 u_12.2.2.2.2.2.2.1 u_12.2.2.2.2.2.2.2) H := hP.sub [0, 1, 2, 3, 4, 5, 6, 7, 8] rfl
      have hD : va_D A (wP qp qr qh qm qw qu qf ql qo cI ms mn u_12.1 u_12.2.1 u_12.2.2.1 u_12.2.2.2.1 u_12.2.2.2.2.1 u_12.2.2.2.2.2.1 u_12.2.2.2.2.2.2.1 u_12.2.2.2.2.2.2.2) := hD.sub [0, 1, 2, 3, 4, 5, 6, 7, 8] (by decide) rfl
      exact W.iret (v := r_13) hx hb hr (fun t ht hW => ⟨⟨r_13, (u_12.1, u_12.2.1, u_12.2.2.1, u_12.2.2.2.1, u_12.2.2.2.2.1, u_12.2.2.2.2.2.1, u_12.2.2.2.2.2.2.1, u_12.2.2.2.2.2.2.2), rfl, h, by rw [ht]; exact hP, hD⟩, hS.F ht⟩) hS.2.2 d_Pr_jump_51
  · skip
    have h := h.2 c_1
    refine lv_bipush (v := 8) hx hb d_Pr_jump_7 (by decide) ?_
    exact W.iret (v := (8 : Int32)) hx hb hr (fun t ht hW => ⟨⟨(8 : Int32), (g, rg, hq, mf, cd, fg, L, O), rfl, h, by rw [ht]; exact hP, hD⟩, hS.F ht⟩) hS.2.2 d_Pr_jump_9
def wp_Pr_branchOnRegisters (ms : Int32) (mn : Nat) (g : Nat → Int32) (rg : Nat → Int32) (hq : Nat → Int32) (mf : Nat → Int32) (cd : Int32) (fg : Nat → Int32) (L : Int32 × Int32 × Int32 × Int64) (O : Int32 × Int32 × Int32 × Int64) (a0 : Int32) (P : Int32 → ((Nat → Int32) × (Nat → Int32) × (Nat → Int32) × (Nat → Int32) × Int32 × (Nat → Int32) × (Int32 × Int32 × Int32 × Int64) × (Int32 × Int32 × Int32 × Int64)) → Prop) : Prop := (((g 2) = (0 : Int32) → wp_Pr_rs a0 (fun r_2 => vp_in r_2 32 ∧ ∀ x_3 : Int32, x_3 = (rg r_2.toNatClampNeg) → wp_Pr_rt a0 (fun r_4 => vp_in r_4 32 ∧ ∀ x_5 : Int32, x_5 = (rg r_4.toNatClampNeg) → wp_Pr_opcode a0 (fun r_6 => ((r_6 < (20 : Int32) → wp_Pr_opcode a0 (fun r_8 => (((r_8 = (4 : Int32) ∨ r_8 = (20 : Int32)) → ((x_3 = x_5 → wp_Pr_branch ms mn g rg hq mf cd fg L O a0 (1 : Int32) (0 : Int32) (fun r_14 u_13 => P r_14 (u_13.1, u_13.2.1, u_13.2.2.1, u_13.2.2.2.1, u_13.2.2.2.2.1, u_13.2.2.2.2.2.1, u_13.2.2.2.2.2.2.1, u_13.2.2.2.2.2.2.2))) ∧ (¬ x_3 = x_5 → wp_Pr_branch ms mn g rg hq mf cd fg L O a0 (0 : Int32) (0 : Int32) (fun r_12 u_11 => P r_12 (u_11.1, u_11.2.1, u_11.2.2.1, u_11.2.2.2.1, u_11.2.2.2.2.1, u_11.2.2.2.2.2.1, u_11.2.2.2.2.2.2.1, u_11.2.2.2.2.2.2.2))))) ∧ (¬ (r_8 = (4 : Int32) ∨ r_8 = (20 : Int32)) → (((r_8 = (5 : Int32) ∨ r_8 = (21 : Int32)) → ((x_3 = x_5 → wp_Pr_branch ms mn g rg hq mf cd fg L O a0 (0 : Int32) (0 : Int32) (fun r_18 u_17 => P r_18 (u_17.1, u_17.2.1, u_17.2.2.1, u_17.2.2.2.1, u_17.2.2.2.2.1, u_17.2.2.2.2.2.1, u_17.2.2.2.2.2.2.1, u_17.2.2.2.2.2.2.2))) ∧ (¬ x_3 = x_5 → wp_Pr_branch ms mn g rg hq mf cd fg L O a0 (1 : Int32) (0 : Int32) (fun r_20 u_19 => P r_20 (u_19.1, u_19.2.1, u_19.2.2.1, u_19.2.2.2.1, u_19.2.2.2.2.1, u_19.2.2.2.2.2.1, u_19.2.2.2.2.2.2.1, u_19.2.2.2.2.2.2.2))))) ∧ (¬ (r_8 = (5 : Int32) ∨ r_8 = (21 : Int32)) → (((r_8 = (6 : Int32) ∨ r_8 = (22 : Int32)) → (((0 : Int32) < x_3 → wp_Pr_branch ms mn g rg hq mf cd fg L O a0 (0 : Int32) (0 : Int32) (fun r_24 u_23 => P r_24 (u_23.1, u_23.2.1, u_23.2.2.1, u_23.2.2.2.1, u_23.2.2.2.2.1, u_23.2.2.2.2.2.1, u_23.2.2.2.2.2.2.1, u_23.2.2.2.2.2.2.2))) ∧ (¬ (0 : Int32) < x_3 → wp_Pr_branch ms mn g rg hq mf cd fg L O a0 (1 : Int32) (0 : Int32) (fun r_26 u_25 => P r_26 (u_25.1, u_25.2.1, u_25.2.2.1, u_25.2.2.2.1, u_25.2.2.2.2.1, u_25.2.2.2.2.2.1, u_25.2.2.2.2.2.2.1, u_25.2.2.2.2.2.2.2))))) ∧ (¬ (r_8 = (6 : Int32) ∨ r_8 = (22 : Int32)) → ((x_3 ≤ (0 : Int32) → wp_Pr_branch ms mn g rg hq mf cd fg L O a0 (0 : Int32) (0 : Int32) (fun r_29 u_28 => P r_29 (u_28.1, u_28.2.1, u_28.2.2.1, u_28.2.2.2.1, u_28.2.2.2.2.1, u_28.2.2.2.2.2.1, u_28.2.2.2.2.2.2.1, u_28.2.2.2.2.2.2.2))) ∧ (¬ x_3 ≤ (0 : Int32) → wp_Pr_branch ms mn g rg hq mf cd fg L O a0 (1 : Int32) (0 : Int32) (fun r_31 u_30 => P r_31 (u_30.1, u_30.2.1, u_30.2.2.1, u_30.2.2.2.1, u_30.2.2.2.2.1, u_30.2.2.2.2.2.1, u_30.2.2.2.2.2.2.1, u_30.2.2.2.2.2.2.2)))))))))))) ∧ (¬ r_6 < (20 : Int32) → wp_Pr_opcode a0 (fun r_32 => (((r_32 = (4 : Int32) ∨ r_32 = (20 : Int32)) → ((x_3 = x_5 → wp_Pr_branch ms mn g rg hq mf cd fg L O a0 (1 : Int32) (1 : Int32) (fun r_38 u_37 => P r_38 (u_37.1, u_37.2.1, u_37.2.2.1, u_37.2.2.2.1, u_37.2.2.2.2.1, u_37.2.2.2.2.2.1, u_37.2.2.2.2.2.2.1, u_37.2.2.2.2.2.2.2))) ∧ (¬ x_3 = x_5 → wp_Pr_branch ms mn g rg hq mf cd fg L O a0 (0 : Int32) (1 : Int32) (fun r_36 u_35 => P r_36 (u_35.1, u_35.2.1, u_35.2.2.1, u_35.2.2.2.1, u_35.2.2.2.2.1, u_35.2.2.2.2.2.1, u_35.2.2.2.2.2.2.1, u_35.2.2.2.2.2.2.2))))) ∧ (¬ (r_32 = (4 : Int32) ∨ r_32 = (20 : Int32)) → (((r_32 = (5 : Int32) ∨ r_32 = (21 : Int32)) → ((x_3 = x_5 → wp_Pr_branch ms mn g rg hq mf cd fg L O a0 (0 : Int32) (1 : Int32) (fun r_42 u_41 => P r_42 (u_41.1, u_41.2.1, u_41.2.2.1, u_41.2.2.2.1, u_41.2.2.2.2.1, u_41.2.2.2.2.2.1, u_41.2.2.2.2.2.2.1, u_41.2.2.2.2.2.2.2))) ∧ (¬ x_3 = x_5 → wp_Pr_branch ms mn g rg hq mf cd fg L O a0 (1 : Int32) (1 : Int32) (fun r_44 u_43 => P r_44 (u_43.1, u_43.2.1, u_43.2.2.1, u_43.2.2.2.1, u_43.2.2.2.2.1, u_43.2.2.2.2.2.1, u_43.2.2.2.2.2.2.1, u_43.2.2.2.2.2.2.2))))) ∧ (¬ (r_32 = (5 : Int32) ∨ r_32 = (21 : Int32)) → (((r_32 = (6 : Int32) ∨ r_32 = (22 : Int32)) → (((0 : Int32) < x_3 → wp_Pr_branch ms mn g rg hq mf cd fg L O a0 (0 : Int32) (1 : Int32) (fun r_48 u_47 => P r_48 (u_47.1, u_47.2.1, u_47.2.2.1, u_47.2.2.2.1, u_47.2.2.2.2.1, u_47.2.2.2.2.2.1, u_47.2.2.2.2.2.2.1, u_47.2.2.2.2.2.2.2))) ∧ (¬ (0 : Int32) < x_3 → wp_Pr_branch ms mn g rg hq mf cd fg L O a0 (1 : Int32) (1 : Int32) (fun r_50 u_49 => P r_50 (u_49.1, u_49.2.1, u_49.2.2.1, u_49.2.2.2.1, u_49.2.2.2.2.1, u_49.2.2.2.2.2.1, u_49.2.2.2.2.2.2.1, u_49.2.2.2.2.2.2.2))))) ∧ (¬ (r_32 = (6 : Int32) ∨ r_32 = (22 : Int32)) → ((x_3 ≤ (0 : Int32) → wp_Pr_branch ms mn g rg hq mf cd fg L O a0 (0 : Int32) (1 : Int32) (fun r_53 u_52 => P r_53 (u_52.1, u_52.2.1, u_52.2.2.1, u_52.2.2.2.1, u_52.2.2.2.2.1, u_52.2.2.2.2.2.1, u_52.2.2.2.2.2.2.1, u_52.2.2.2.2.2.2.2))) ∧ (¬ x_3 ≤ (0 : Int32) → wp_Pr_branch ms mn g rg hq mf cd fg L O a0 (1 : Int32) (1 : Int32) (fun r_55 u_54 => P r_55 (u_54.1, u_54.2.1, u_54.2.2.1, u_54.2.2.2.1, u_54.2.2.2.2.1, u_54.2.2.2.2.2.1, u_54.2.2.2.2.2.2.1, u_54.2.2.2.2.2.2.2))))))))))))))))) ∧ (¬ (g 2) = (0 : Int32) → P (8 : Int32) (g, rg, hq, mf, cd, fg, L, O)))
abbrev rm_Pr_branchOnRegisters : Room := { frames := 3, cells := 0, slots := 0, locals := 67 }
set_option maxHeartbeats 4000000 in
set_option maxRecDepth 100000 in
theorem c_Pr_branchOnRegisters (l : Launch) (D : va_G) (cI : ClassId) (qp : Nat) (qr : Nat) (qh : Nat) (qm : Nat) (qw : Nat) (qu : Nat) (qf : Nat) (ql : Nat) (qo : Nat) (ms : Int32) (mn : Nat) (g : Nat → Int32) (rg : Nat → Int32) (hq : Nat → Int32) (mf : Nat → Int32) (cd : Int32) (fg : Nat → Int32) (L : Int32 × Int32 × Int32 × Int64) (O : Int32 × Int32 × Int32 × Int64) (a0 : Int32) (P : Int32 → ((Nat → Int32) × (Nat → Int32) × (Nat → Int32) × (Nat → Int32) × Int32 × (Nat → Int32) × (Int32 × Int32 × Int32 × Int64) × (Int32 × Int32 × Int32 × Int64)) → Prop) (h : wp_Pr_branchOnRegisters ms mn g rg hq mf cd fg L O a0 P) (sz : Nat) : Met l y_Pr_branchOnRegisters (zz_ws y_Pr_branchOnRegisters b_Pr_branchOnRegisters 5 (some .int)) rm_Pr_branchOnRegisters (va_Pc [.ref qp, .int a0] (zz_pw D [(cI, .int)] (wP qp qr qh qm qw qu qf ql qo cI ms mn g rg hq mf cd fg L O) sz)) (va_Qi P (zz_qw D (fun u => wP qp qr qh qm qw qu qf ql qo cI ms mn u.1 u.2.1 u.2.2.1 u.2.2.2.1 u.2.2.2.2.1 u.2.2.2.2.2.1 u.2.2.2.2.2.2.1 u.2.2.2.2.2.2.2) (va_A (wP qp qr qh qm qw qu qf ql qo cI ms mn g rg hq mf cd fg L O) sz)) (va_A (wP qp qr qh qm qw qu qf ql qo cI ms mn g rg hq mf cd fg L O) sz)) 0 0 (va_A (wP qp qr qh qm qw qu qf ql qo cI ms mn g rg hq mf cd fg L O) sz) := by
  refine Met.ofW (cc := b_Pr_branchOnRegisters) (maxL := 5) (ret := (some .int)) (by decide) rfl ?_
  intro p e s m args below meth c s₁ B hml hv
  obtain ⟨rfl, hsz, hP, hK, hD0⟩ := hv
  have hx := B.exec
  have hb := B.bytes
  have hr := B.returns
  have hts := atoms_spec (ws := (zz_ws y_Pr_branchOnRegisters b_Pr_branchOnRegisters 5 (some .int))) B.pre
  have hown : s.vm.findClass R_Pr = some m.cls := findClass_of_methodNamed B.named
  have hlocks := B.notSynchronized
  have hT := zz_hts hts
  have X : CallFix p m c b_Pr_branchOnRegisters 5 s ([.ref qp, .int a0] : List Value).toArray (zz_ws y_Pr_branchOnRegisters b_Pr_branchOnRegisters 5 (some .int)) R_Pr := ⟨hx, hb, hml, hown, hts⟩
  have hf0 : 0 + 0 ≤ (headSpec (zz_ws y_Pr_branchOnRegisters b_Pr_branchOnRegisters 5 (some .int)) rm_Pr_branchOnRegisters).room.cells ∧ 0 + 0 ≤ (headSpec (zz_ws y_Pr_branchOnRegisters b_Pr_branchOnRegisters 5 (some .int)) rm_Pr_branchOnRegisters).room.slots := ⟨Nat.le_of_ble_eq_true rfl, Nat.le_of_ble_eq_true rfl⟩
  subst hsz
  have hD := hD0.self (sz := s.heap.size)
  generalize hAe : va_A (wP qp qr qh qm qw qu qf ql qo cI ms mn g rg hq mf cd fg L O) s.heap.size = A at hD ⊢
  have hA : ∀ q : Nat, s.heap.size ≤ q → A q := fun q h => by rw [← hAe]; exact Or.inr h
  have hS : va_S A s.heap s.heap [] := va_S.rf
  have hl := lv_entry ([.ref qp, .int a0]) (n := 5) (Nat.le_of_ble_eq_true rfl)
  rw [lg_entry_eq]
  generalize (lg_sl ([.ref qp, .int a0]) ++ List.replicate (5 - (lg_sl ([.ref qp, .int a0])).length) Slot.unset).toArray = ls at hl ⊢
  have hl : lv_has ls 5 [(0, .ref qp), (1, .int a0)] := hl
  refine lv_aload_n hx hb d_Pr_branchOnRegisters_0 rfl (lv_at hl 0 rfl) ?_
  refine g_Pr_68 (v := .int (g 2)) hx hb hT hown hK hP 0 rfl rfl d_Pr_branchOnRegisters_1 ?_
  refine lv_if_eq (tgt := 10) hx hb d_Pr_branchOnRegisters_4 (by decide) (fun c_1 => ?_) (fun c_1 => ?_)
  · skip
    have h := h.1 c_1
    refine lv_aload_n hx hb d_Pr_branchOnRegisters_10 rfl (lv_at hl 0 rfl) ?_
    refine g_Pr_9 (v := .ref qr) hx hb hT hown hK hP 0 rfl rfl d_Pr_branchOnRegisters_11 ?_
    refine lv_iload_n hx hb d_Pr_branchOnRegisters_14 rfl (lv_at hl 1 rfl) ?_
    refine zz_Si (As := [.int a0]) (rest := [.ref qr]) X (c_Pr_rs l a0 _ h) ⟨rfl, rfl⟩ m_Pr_rs k_Pr_83 ⟨Nat.le_of_ble_eq_true rfl, Nat.le_of_ble_eq_true rfl⟩ rfl hl.1 rfl (Nat.le_of_ble_eq_true rfl) d_Pr_branchOnRegisters_15 hf0 (fun r_2 h => ?_)
    refine va_iald (f := rg) hx hb hK hP 1 0 rfl rfl h.1 d_Pr_branchOnRegisters_18 ?_
    have h := h.2
    refine lv_topi (fun x_3 ex_3 => ?_)
    have h := h x_3 ex_3
    refine lv_istore_n (lv' := [(2, .int x_3), (0, .ref qp), (1, .int a0)]) hx hb d_Pr_branchOnRegisters_19 rfl hl (by decide) rfl (fun ls hl => ?_)
    refine lv_aload_n hx hb d_Pr_branchOnRegisters_20 rfl (lv_at hl 1 rfl) ?_
    refine g_Pr_9 (v := .ref qr) hx hb hT hown hK hP 0 rfl rfl d_Pr_branchOnRegisters_21 ?_
    refine lv_iload_n hx hb d_Pr_branchOnRegisters_24 rfl (lv_at hl 2 rfl) ?_
    refine zz_Si (As := [.int a0]) (rest := [.ref qr]) X (c_Pr_rt l a0 _ h) ⟨rfl, rfl⟩ m_Pr_rt k_Pr_89 ⟨Nat.le_of_ble_eq_true rfl, Nat.le_of_ble_eq_true rfl⟩ rfl hl.1 rfl (Nat.le_of_ble_eq_true rfl) d_Pr_branchOnRegisters_25 hf0 (fun r_4 h => ?_)
    refine va_iald (f := rg) hx hb hK hP 1 0 rfl rfl h.1 d_Pr_branchOnRegisters_28 ?_
    have h := h.2
    refine lv_topi (fun x_5 ex_5 => ?_)
    have h := h x_5 ex_5
    refine lv_istore_n (lv' := [(3, .int x_5), (2, .int x_3), (0, .ref qp), (1, .int a0)]) hx hb d_Pr_branchOnRegisters_29 rfl hl (by decide) rfl (fun ls hl => ?_)
    refine lv_iload_n hx hb d_Pr_branchOnRegisters_30 rfl (lv_at hl 3 rfl) ?_
    refine zz_Si (As := [.int a0]) (rest := []) X (c_Pr_opcode l a0 _ h) ⟨rfl, rfl⟩ m_Pr_opcode k_Pr_71 ⟨Nat.le_of_ble_eq_true rfl, Nat.le_of_ble_eq_true rfl⟩ rfl hl.1 rfl (Nat.le_of_ble_eq_true rfl) d_Pr_branchOnRegisters_31 hf0 (fun r_6 h => ?_)
    refine lv_bipush (v := 20) hx hb d_Pr_branchOnRegisters_34 (by decide) ?_
    refine lv_icmp_lt (tgt := 43) hx hb d_Pr_branchOnRegisters_36 (by decide) (fun c_7 => ?_) (fun c_7 => ?_)
    · skip
      have h := h.1 c_7
      refine lv_iconst (v := 0) hx hb d_Pr_branchOnRegisters_43 (by decide) ?_
      refine lv_istore (lv' := [(4, .int (0 : Int32)), (3, .int x_5), (2, .int x_3), (0, .ref qp), (1, .int a0)]) hx hb d_Pr_branchOnRegisters_44 hl (by decide) rfl (fun ls hl => ?_)
      refine lv_iload_n hx hb d_Pr_branchOnRegisters_46 rfl (lv_at hl 4 rfl) ?_
      refine zz_Si (As := [.int a0]) (rest := []) X (c_Pr_opcode l a0 _ h) ⟨rfl, rfl⟩ m_Pr_opcode k_Pr_71 ⟨Nat.le_of_ble_eq_true rfl, Nat.le_of_ble_eq_true rfl⟩ rfl hl.1 rfl (Nat.le_of_ble_eq_true rfl) d_Pr_branchOnRegisters_47 hf0 (fun r_8 h => ?_)
      by_cases c_9 : r_8 = (4 : Int32) ∨ r_8 = (20 : Int32)
      · have h := h.1 c_9
        have h0 := c_9
        refine lv_tableIn (off := 90) (tgt := 140) hx hb d_Pr_branchOnRegisters_50 (by rcases h0 with h0 | h0 <;> (rw [h0]; decide)) (by rcases h0 with h0 | h0 <;> (rw [h0]; decide)) (by rcases h0 with h0 | h0 <;> (rw [h0]; rfl)) (by decide) ?_
        refine lv_aload_n hx hb d_Pr_branchOnRegisters_140 rfl (lv_at hl 3 rfl) ?_
        refine lv_iload_n hx hb d_Pr_branchOnRegisters_141 rfl (lv_at hl 4 rfl) ?_
        refine lv_iload_n hx hb d_Pr_branchOnRegisters_142 rfl (lv_at hl 2 rfl) ?_
        refine lv_iload_n hx hb d_Pr_branchOnRegisters_143 rfl (lv_at hl 1 rfl) ?_
        refine lv_icmp_ne (tgt := 151) hx hb d_Pr_branchOnRegisters_144 (by decide) (fun c_10 => ?_) (fun c_10 => ?_)
        · skip
          have h := h.2 c_10
          refine lv_iconst (v := 0) hx hb d_Pr_branchOnRegisters_151 (by decide) ?_
          refine lv_iload hx hb d_Pr_branchOnRegisters_152 (lv_at hl 0 rfl) ?_
          refine zz_Wi (As := [.int a0, .int (0 : Int32), .int (0 : Int32)]) (rest := []) (wc := wP qp qr qh qm qw qu qf ql qo cI ms mn g rg hq mf cd fg L O) (wr := []) X hK hP hD hS hA (c_Pr_branch l D cI qp qr qh qm qw qu qf ql qo ms mn g rg hq mf cd fg L O a0 (0 : Int32) (0 : Int32) _ h _) ⟨rfl, rfl⟩ m_Pr_branch k_Pr_249 ⟨Nat.le_of_ble_eq_true rfl, Nat.le_of_ble_eq_true rfl⟩ [0, 1, 2, 3, 4, 5, 6, 7, 8] [] rfl rfl (by decide) (by decide) (by decide) 4 0 rfl rfl rfl rfl hl.1 rfl (Nat.le_of_ble_eq_true rfl) d_Pr_branchOnRegisters_154 hf0 (fun r_12 u_11 H locs h hP hD hS => ?_)
          have hP : va_P D vwCl (wP qp qr qh qm qw qu qf ql qo cI ms mn u_11.1 u_11.2.1 u_11.2.2.1 u_11.2.2.2.1 u_11.2.2.2.2.1 u_11.2.2.2.2.2.1 u_11.2.2.2.2.2.2.1 u_11.2.2.2.2.2.2.2) H := hP.sub [0, 1, 2, 3, 4, 5, 6, 7, 8] rfl
          have hD : va_D A (wP qp qr qh qm qw qu qf ql qo cI ms mn u_11.1 u_11.2.1 u_11.2.2.1 u_11.2.2.2.1 u_11.2.2.2.2.1 u_11.2.2.2.2.2.1 u_11.2.2.2.2.2.2.1 u_11.2.2.2.2.2.2.2) := hD.sub [0, 1, 2, 3, 4, 5, 6, 7, 8] (by decide) rfl
          exact W.iret (v := r_12) hx hb hr (fun t ht hW => ⟨⟨r_12, (u_11.1, u_11.2.1, u_11.2.2.1, u_11.2.2.2.1, u_11.2.2.2.2.1, u_11.2.2.2.2.2.1, u_11.2.2.2.2.2.2.1, u_11.2.2.2.2.2.2.2), rfl, h, by rw [ht]; exact hP, hD⟩, hS.F ht⟩) hS.2.2 d_Pr_branchOnRegisters_157
        · skip
          have h := h.1 c_10
          refine lv_iconst (v := 1) hx hb d_Pr_branchOnRegisters_147 (by decide) ?_
          refine lv_goto (tgt := 152) hx hb d_Pr_branchOnRegisters_148 (by decide) ?_
          refine lv_iload hx hb d_Pr_branchOnRegisters_152 (lv_at hl 0 rfl) ?_
          refine zz_Wi (As := [.int a0, .int (1 : Int32), .int (0 : Int32)]) (rest := []) (wc := wP qp qr qh qm qw qu qf ql qo cI ms mn g rg hq mf cd fg L O) (wr := []) X hK hP hD hS hA (c_Pr_branch l D cI qp qr qh qm qw qu qf ql qo ms mn g rg hq mf cd fg L O a0 (1 : Int32) (0 : Int32) _ h _) ⟨rfl, rfl⟩ m_Pr_branch k_Pr_249 ⟨Nat.le_of_ble_eq_true rfl, Nat.le_of_ble_eq_true rfl⟩ [0, 1, 2, 3, 4, 5, 6, 7, 8] [] rfl rfl (by decide) (by decide) (by decide) 4 0 rfl rfl rfl rfl hl.1 rfl (Nat.le_of_ble_eq_true rfl) d_Pr_branchOnRegisters_154 hf0 (fun r_14 u_13 H locs h hP hD hS => ?_)
          have hP : va_P D vwCl (wP qp qr qh qm qw qu qf ql qo cI ms mn u_13.1 u_13.2.1 u_13.2.2.1 u_13.2.2.2.1 u_13.2.2.2.2.1 u_13.2.2.2.2.2.1 u_13.2.2.2.2.2.2.1 u_13.2.2.2.2.2.2.2) H := hP.sub [0, 1, 2, 3, 4, 5, 6, 7, 8] rfl
          have hD : va_D A (wP qp qr qh qm qw qu qf ql qo cI ms mn u_13.1 u_13.2.1 u_13.2.2.1 u_13.2.2.2.1 u_13.2.2.2.2.1 u_13.2.2.2.2.2.1 u_13.2.2.2.2.2.2.1 u_13.2.2.2.2.2.2.2) := hD.sub [0, 1, 2, 3, 4, 5, 6, 7, 8] (by decide) rfl
          exact W.iret (v := r_14) hx hb hr (fun t ht hW => ⟨⟨r_14, (u_13.1, u_13.2.1, u_13.2.2.1, u_13.2.2.2.1, u_13.2.2.2.2.1, u_13.2.2.2.2.2.1, u_13.2.2.2.2.2.2.1, u_13.2.2.2.2.2.2.2), rfl, h, by rw [ht]; exact hP, hD⟩, hS.F ht⟩) hS.2.2 d_Pr_branchOnRegisters_157
      · have h := h.2 c_9
        by_cases c_15 : r_8 = (5 : Int32) ∨ r_8 = (21 : Int32)
        · have h := h.1 c_15
          have h0 := c_15
          refine lv_tableIn (off := 108) (tgt := 158) hx hb d_Pr_branchOnRegisters_50 (by rcases h0 with h0 | h0 <;> (rw [h0]; decide)) (by rcases h0 with h0 | h0 <;> (rw [h0]; decide)) (by rcases h0 with h0 | h0 <;> (rw [h0]; rfl)) (by decide) ?_
          refine lv_aload_n hx hb d_Pr_branchOnRegisters_158 rfl (lv_at hl 3 rfl) ?_
          refine lv_iload_n hx hb d_Pr_branchOnRegisters_159 rfl (lv_at hl 4 rfl) ?_
          refine lv_iload_n hx hb d_Pr_branchOnRegisters_160 rfl (lv_at hl 2 rfl) ?_
          refine lv_iload_n hx hb d_Pr_branchOnRegisters_161 rfl (lv_at hl 1 rfl) ?_
          refine lv_icmp_eq (tgt := 169) hx hb d_Pr_branchOnRegisters_162 (by decide) (fun c_16 => ?_) (fun c_16 => ?_)
          · skip
            have h := h.1 c_16
            refine lv_iconst (v := 0) hx hb d_Pr_branchOnRegisters_169 (by decide) ?_
            refine lv_iload hx hb d_Pr_branchOnRegisters_170 (lv_at hl 0 rfl) ?_
            refine zz_Wi (As := [.int a0, .int (0 : Int32), .int (0 : Int32)]) (rest := []) (wc := wP qp qr qh qm qw qu qf ql qo cI ms mn g rg hq mf cd fg L O) (wr := []) X hK hP hD hS hA (c_Pr_branch l D cI qp qr qh qm qw qu qf ql qo ms mn g rg hq mf cd fg L O a0 (0 : Int32) (0 : Int32) _ h _) ⟨rfl, rfl⟩ m_Pr_branch k_Pr_249 ⟨Nat.le_of_ble_eq_true rfl, Nat.le_of_ble_eq_true rfl⟩ [0, 1, 2, 3, 4, 5, 6, 7, 8] [] rfl rfl (by decide) (by decide) (by decide) 4 0 rfl rfl rfl rfl hl.1 rfl (Nat.le_of_ble_eq_true rfl) d_Pr_branchOnRegisters_172 hf0 (fun r_18 u_17 H locs h hP hD hS => ?_)
            have hP : va_P D vwCl (wP qp qr qh qm qw qu qf ql qo cI ms mn u_17.1 u_17.2.1 u_17.2.2.1 u_17.2.2.2.1 u_17.2.2.2.2.1 u_17.2.2.2.2.2.1 u_17.2.2.2.2.2.2.1 u_17.2.2.2.2.2.2.2) H := hP.sub [0, 1, 2, 3, 4, 5, 6, 7, 8] rfl
            have hD : va_D A (wP qp qr qh qm qw qu qf ql qo cI ms mn u_17.1 u_17.2.1 u_17.2.2.1 u_17.2.2.2.1 u_17.2.2.2.2.1 u_17.2.2.2.2.2.1 u_17.2.2.2.2.2.2.1 u_17.2.2.2.2.2.2.2) := hD.sub [0, 1, 2, 3, 4, 5, 6, 7, 8] (by decide) rfl
            exact W.iret (v := r_18) hx hb hr (fun t ht hW => ⟨⟨r_18, (u_17.1, u_17.2.1, u_17.2.2.1, u_17.2.2.2.1, u_17.2.2.2.2.1, u_17.2.2.2.2.2.1, u_17.2.2.2.2.2.2.1, u_17.2.2.2.2.2.2.2), rfl, h, by rw [ht]; exact hP, hD⟩, hS.F ht⟩) hS.2.2 d_Pr_branchOnRegisters_175
          · skip
            have h := h.2 c_16
            refine lv_iconst (v := 1) hx hb d_Pr_branchOnRegisters_165 (by decide) ?_
            refine lv_goto (tgt := 170) hx hb d_Pr_branchOnRegisters_166 (by decide) ?_
            refine lv_iload hx hb d_Pr_branchOnRegisters_170 (lv_at hl 0 rfl) ?_
            refine zz_Wi (As := [.int a0, .int (1 : Int32), .int (0 : Int32)]) (rest := []) (wc := wP qp qr qh qm qw qu qf ql qo cI ms mn g rg hq mf cd fg L O) (wr := []) X hK hP hD hS hA (c_Pr_branch l D cI qp qr qh qm qw qu qf ql qo ms mn g rg hq mf cd fg L O a0 (1 : Int32) (0 : Int32) _ h _) ⟨rfl, rfl⟩ m_Pr_branch k_Pr_249 ⟨Nat.le_of_ble_eq_true rfl, Nat.le_of_ble_eq_true rfl⟩ [0, 1, 2, 3, 4, 5, 6, 7, 8] [] rfl rfl (by decide) (by decide) (by decide) 4 0 rfl rfl rfl rfl hl.1 rfl (Nat.le_of_ble_eq_true rfl) d_Pr_branchOnRegisters_172 hf0 (fun r_20 u_19 H locs h hP hD hS => ?_)
            have hP : va_P D vwCl (wP qp qr qh qm qw qu qf ql qo cI ms mn u_19.1 u_19.2.1 u_19.2.2.1 u_19.2.2.2.1 u_19.2.2.2.2.1 u_19.2.2.2.2.2.1 u_19.2.2.2.2.2.2.1 u_19.2.2.2.2.2.2.2) H := hP.sub [0, 1, 2, 3, 4, 5, 6, 7, 8] rfl
            have hD : va_D A (wP qp qr qh qm qw qu qf ql qo cI ms mn u_19.1 u_19.2.1 u_19.2.2.1 u_19.2.2.2.1 u_19.2.2.2.2.1 u_19.2.2.2.2.2.1 u_19.2.2.2.2.2.2.1 u_19.2.2.2.2.2.2.2) := hD.sub [0, 1, 2, 3, 4, 5, 6, 7, 8] (by decide) rfl
            exact W.iret (v := r_20) hx hb hr (fun t ht hW => ⟨⟨r_20, (u_19.1, u_19.2.1, u_19.2.2.1, u_19.2.2.2.1, u_19.2.2.2.2.1, u_19.2.2.2.2.2.1, u_19.2.2.2.2.2.2.1, u_19.2.2.2.2.2.2.2), rfl, h, by rw [ht]; exact hP, hD⟩, hS.F ht⟩) hS.2.2 d_Pr_branchOnRegisters_175
        · have h := h.2 c_15
          by_cases c_21 : r_8 = (6 : Int32) ∨ r_8 = (22 : Int32)
          · have h := h.1 c_21
            have h0 := c_21
            refine lv_tableIn (off := 126) (tgt := 176) hx hb d_Pr_branchOnRegisters_50 (by rcases h0 with h0 | h0 <;> (rw [h0]; decide)) (by rcases h0 with h0 | h0 <;> (rw [h0]; decide)) (by rcases h0 with h0 | h0 <;> (rw [h0]; rfl)) (by decide) ?_
            refine lv_aload_n hx hb d_Pr_branchOnRegisters_176 rfl (lv_at hl 3 rfl) ?_
            refine lv_iload_n hx hb d_Pr_branchOnRegisters_177 rfl (lv_at hl 4 rfl) ?_
            refine lv_iload_n hx hb d_Pr_branchOnRegisters_178 rfl (lv_at hl 2 rfl) ?_
            refine lv_if_gt (tgt := 186) hx hb d_Pr_branchOnRegisters_179 (by decide) (fun c_22 => ?_) (fun c_22 => ?_)
            · skip
              have h := h.1 c_22
              refine lv_iconst (v := 0) hx hb d_Pr_branchOnRegisters_186 (by decide) ?_
              refine lv_iload hx hb d_Pr_branchOnRegisters_187 (lv_at hl 0 rfl) ?_
              refine zz_Wi (As := [.int a0, .int (0 : Int32), .int (0 : Int32)]) (rest := []) (wc := wP qp qr qh qm qw qu qf ql qo cI ms mn g rg hq mf cd fg L O) (wr := []) X hK hP hD hS hA (c_Pr_branch l D cI qp qr qh qm qw qu qf ql qo ms mn g rg hq mf cd fg L O a0 (0 : Int32) (0 : Int32) _ h _) ⟨rfl, rfl⟩ m_Pr_branch k_Pr_249 ⟨Nat.le_of_ble_eq_true rfl, Nat.le_of_ble_eq_true rfl⟩ [0, 1, 2, 3, 4, 5, 6, 7, 8] [] rfl rfl (by decide) (by decide) (by decide) 4 0 rfl rfl rfl rfl hl.1 rfl (Nat.le_of_ble_eq_true rfl) d_Pr_branchOnRegisters_189 hf0 (fun r_24 u_23 H locs h hP hD hS => ?_)
              have hP : va_P D vwCl (wP qp qr qh qm qw qu qf ql qo cI ms mn u_23.1 u_23.2.1 u_23.2.2.1 u_23.2.2.2.1 u_23.2.2.2.2.1 u_23.2.2.2.2.2.1 u_23.2.2.2.2.2.2.1 u_23.2.2.2.2.2.2.2) H := hP.sub [0, 1, 2, 3, 4, 5, 6, 7, 8] rfl
              have hD : va_D A (wP qp qr qh qm qw qu qf ql qo cI ms mn u_23.1 u_23.2.1 u_23.2.2.1 u_23.2.2.2.1 u_23.2.2.2.2.1 u_23.2.2.2.2.2.1 u_23.2.2.2.2.2.2.1 u_23.2.2.2.2.2.2.2) := hD.sub [0, 1, 2, 3, 4, 5, 6, 7, 8] (by decide) rfl
              exact W.iret (v := r_24) hx hb hr (fun t ht hW => ⟨⟨r_24, (u_23.1, u_23.2.1, u_23.2.2.1, u_23.2.2.2.1, u_23.2.2.2.2.1, u_23.2.2.2.2.2.1, u_23.2.2.2.2.2.2.1, u_23.2.2.2.2.2.2.2), rfl, h, by rw [ht]; exact hP, hD⟩, hS.F ht⟩) hS.2.2 d_Pr_branchOnRegisters_192
            · skip
              have h := h.2 c_22
              refine lv_iconst (v := 1) hx hb d_Pr_branchOnRegisters_182 (by decide) ?_
              refine lv_goto (tgt := 187) hx hb d_Pr_branchOnRegisters_183 (by decide) ?_
              refine lv_iload hx hb d_Pr_branchOnRegisters_187 (lv_at hl 0 rfl) ?_
              refine zz_Wi (As := [.int a0, .int (1 : Int32), .int (0 : Int32)]) (rest := []) (wc := wP qp qr qh qm qw qu qf ql qo cI ms mn g rg hq mf cd fg L O) (wr := []) X hK hP hD hS hA (c_Pr_branch l D cI qp qr qh qm qw qu qf ql qo ms mn g rg hq mf cd fg L O a0 (1 : Int32) (0 : Int32) _ h _) ⟨rfl, rfl⟩ m_Pr_branch k_Pr_249 ⟨Nat.le_of_ble_eq_true rfl, Nat.le_of_ble_eq_true rfl⟩ [0, 1, 2, 3, 4, 5, 6, 7, 8] [] rfl rfl (by decide) (by decide) (by decide) 4 0 rfl rfl rfl rfl hl.1 rfl (Nat.le_of_ble_eq_true rfl) d_Pr_branchOnRegisters_189 hf0 (fun r_26 u_25 H locs h hP hD hS => ?_)
              have hP : va_P D vwCl (wP qp qr qh qm qw qu qf ql qo cI ms mn u_25.1 u_25.2.1 u_25.2.2.1 u_25.2.2.2.1 u_25.2.2.2.2.1 u_25.2.2.2.2.2.1 u_25.2.2.2.2.2.2.1 u_25.2.2.2.2.2.2.2) H := hP.sub [0, 1, 2, 3, 4, 5, 6, 7, 8] rfl
              have hD : va_D A (wP qp qr qh qm qw qu qf ql qo cI ms mn u_25.1 u_25.2.1 u_25.2.2.1 u_25.2.2.2.1 u_25.2.2.2.2.1 u_25.2.2.2.2.2.1 u_25.2.2.2.2.2.2.1 u_25.2.2.2.2.2.2.2) := hD.sub [0, 1, 2, 3, 4, 5, 6, 7, 8] (by decide) rfl
              exact W.iret (v := r_26) hx hb hr (fun t ht hW => ⟨⟨r_26, (u_25.1, u_25.2.1, u_25.2.2.1, u_25.2.2.2.1, u_25.2.2.2.2.1, u_25.2.2.2.2.2.1, u_25.2.2.2.2.2.2.1, u_25.2.2.2.2.2.2.2), rfl, h, by rw [ht]; exact hP, hD⟩, hS.F ht⟩) hS.2.2 d_Pr_branchOnRegisters_192
          · have h := h.2 c_21
            refine zz_swD (tgt := 193) hx hb [4, 20, 5, 21, 6, 22] d_Pr_branchOnRegisters_50 (by decide +kernel) (by decide) (List.forall_mem_cons.mpr ⟨lv_neT (k := 4) (fun q => c_9 (Or.inl q)) (by decide), List.forall_mem_cons.mpr ⟨lv_neT (k := 20) (fun q => c_9 (Or.inr (q))) (by decide), List.forall_mem_cons.mpr ⟨lv_neT (k := 5) (fun q => c_15 (Or.inl q)) (by decide), List.forall_mem_cons.mpr ⟨lv_neT (k := 21) (fun q => c_15 (Or.inr (q))) (by decide), List.forall_mem_cons.mpr ⟨lv_neT (k := 6) (fun q => c_21 (Or.inl q)) (by decide), List.forall_mem_cons.mpr ⟨lv_neT (k := 22) (fun q => c_21 (Or.inr (q))) (by decide), fun _ h9 => nomatch h9⟩⟩⟩⟩⟩⟩) (by decide) ?_
            refine lv_aload_n hx hb d_Pr_branchOnRegisters_193 rfl (lv_at hl 3 rfl) ?_
            refine lv_iload_n hx hb d_Pr_branchOnRegisters_194 rfl (lv_at hl 4 rfl) ?_
            refine lv_iload_n hx hb d_Pr_branchOnRegisters_195 rfl (lv_at hl 2 rfl) ?_
            refine lv_if_le (tgt := 203) hx hb d_Pr_branchOnRegisters_196 (by decide) (fun c_27 => ?_) (fun c_27 => ?_)
            · skip
              have h := h.1 c_27
              refine lv_iconst (v := 0) hx hb d_Pr_branchOnRegisters_203 (by decide) ?_
              refine lv_iload hx hb d_Pr_branchOnRegisters_204 (lv_at hl 0 rfl) ?_
              refine zz_Wi (As := [.int a0, .int (0 : Int32), .int (0 : Int32)]) (rest := []) (wc := wP qp qr qh qm qw qu qf ql qo cI ms mn g rg hq mf cd fg L O) (wr := []) X hK hP hD hS hA (c_Pr_branch l D cI qp qr qh qm qw qu qf ql qo ms mn g rg hq mf cd fg L O a0 (0 : Int32) (0 : Int32) _ h _) ⟨rfl, rfl⟩ m_Pr_branch k_Pr_249 ⟨Nat.le_of_ble_eq_true rfl, Nat.le_of_ble_eq_true rfl⟩ [0, 1, 2, 3, 4, 5, 6, 7, 8] [] rfl rfl (by decide) (by decide) (by decide) 4 0 rfl rfl rfl rfl hl.1 rfl (Nat.le_of_ble_eq_true rfl) d_Pr_branchOnRegisters_206 hf0 (fun r_29 u_28 H locs h hP hD hS => ?_)
              have hP : va_P D vwCl (wP qp qr qh qm qw qu qf ql qo cI ms mn u_28.1 u_28.2.1 u_28.2.2.1 u_28.2.2.2.1 u_28.2.2.2.2.1 u_28.2.2.2.2.2.1 u_28.2.2.2.2.2.2.1 u_28.2.2.2.2.2.2.2) H := hP.sub [0, 1, 2, 3, 4, 5, 6, 7, 8] rfl
              have hD : va_D A (wP qp qr qh qm qw qu qf ql qo cI ms mn u_28.1 u_28.2.1 u_28.2.2.1 u_28.2.2.2.1 u_28.2.2.2.2.1 u_28.2.2.2.2.2.1 u_28.2.2.2.2.2.2.1 u_28.2.2.2.2.2.2.2) := hD.sub [0, 1, 2, 3, 4, 5, 6, 7, 8] (by decide) rfl
              exact W.iret (v := r_29) hx hb hr (fun t ht hW => ⟨⟨r_29, (u_28.1, u_28.2.1, u_28.2.2.1, u_28.2.2.2.1, u_28.2.2.2.2.1, u_28.2.2.2.2.2.1, u_28.2.2.2.2.2.2.1, u_28.2.2.2.2.2.2.2), rfl, h, by rw [ht]; exact hP, hD⟩, hS.F ht⟩) hS.2.2 d_Pr_branchOnRegisters_209
            · skip
              have h := h.2 c_27
              refine lv_iconst (v := 1) hx hb d_Pr_branchOnRegisters_199 (by decide) ?_
              refine lv_goto (tgt := 204) hx hb d_Pr_branchOnRegisters_200 (by decide) ?_
              refine lv_iload hx hb d_Pr_branchOnRegisters_204 (lv_at hl 0 rfl) ?_
              refine zz_Wi (As := [.int a0, .int (1 : Int32), .int (0 : Int32)]) (rest := []) (wc := wP qp qr qh qm qw qu qf ql qo cI ms mn g rg hq mf cd fg L O) (wr := []) X hK hP hD hS hA (c_Pr_branch l D cI qp qr qh qm qw qu qf ql qo ms mn g rg hq mf cd fg L O a0 (1 : Int32) (0 : Int32) _ h _) ⟨rfl, rfl⟩ m_Pr_branch k_Pr_249 ⟨Nat.le_of_ble_eq_true rfl, Nat.le_of_ble_eq_true rfl⟩ [0, 1, 2, 3, 4, 5, 6, 7, 8] [] rfl rfl (by decide) (by decide) (by decide) 4 0 rfl rfl rfl rfl hl.1 rfl (Nat.le_of_ble_eq_true rfl) d_Pr_branchOnRegisters_206 hf0 (fun r_31 u_30 H locs h hP hD hS => ?_)
              have hP : va_P D vwCl (wP qp qr qh qm qw qu qf ql qo cI ms mn u_30.1 u_30.2.1 u_30.2.2.1 u_30.2.2.2.1 u_30.2.2.2.2.1 u_30.2.2.2.2.2.1 u_30.2.2.2.2.2.2.1 u_30.2.2.2.2.2.2.2) H := hP.sub [0, 1, 2, 3, 4, 5, 6, 7, 8] rfl
              have hD : va_D A (wP qp qr qh qm qw qu qf ql qo cI ms mn u_30.1 u_30.2.1 u_30.2.2.1 u_30.2.2.2.1 u_30.2.2.2.2.1 u_30.2.2.2.2.2.1 u_30.2.2.2.2.2.2.1 u_30.2.2.2.2.2.2.2) := hD.sub [0, 1, 2, 3, 4, 5, 6, 7, 8] (by decide) rfl
              exact W.iret (v := r_31) hx hb hr (fun t ht hW => ⟨⟨r_31, (u_30.1, u_30.2.1, u_30.2.2.1, u_30.2.2.2.1, u_30.2.2.2.2.1, u_30.2.2.2.2.2.1, u_30.2.2.2.2.2.2.1, u_30.2.2.2.2.2.2.2), rfl, h, by rw [ht]; exact hP, hD⟩, hS.F ht⟩) hS.2.2 d_Pr_branchOnRegisters_209
    · skip
      have h := h.2 c_7
      refine lv_iconst (v := 1) hx hb d_Pr_branchOnRegisters_39 (by decide) ?_
      refine lv_goto (tgt := 44) hx hb d_Pr_branchOnRegisters_40 (by decide) ?_
      refine lv_istore (lv' := [(4, .int (1 : Int32)), (3, .int x_5), (2, .int x_3), (0, .ref qp), (1, .int a0)]) hx hb d_Pr_branchOnRegisters_44 hl (by decide) rfl (fun ls hl => ?_)
      refine lv_iload_n hx hb d_Pr_branchOnRegisters_46 rfl (lv_at hl 4 rfl) ?_
      refine zz_Si (As := [.int a0]) (rest := []) X (c_Pr_opcode l a0 _ h) ⟨rfl, rfl⟩ m_Pr_opcode k_Pr_71 ⟨Nat.le_of_ble_eq_true rfl, Nat.le_of_ble_eq_true rfl⟩ rfl hl.1 rfl (Nat.le_of_ble_eq_true rfl) d_Pr_branchOnRegisters_47 hf0 (fun r_32 h => ?_)
      by_cases c_33 : r_32 = (4 : Int32) ∨ r_32 = (20 : Int32)
      · have h := h.1 c_33
        have h0 := c_33
        refine lv_tableIn (off := 90) (tgt := 140) hx hb d_Pr_branchOnRegisters_50 (by rcases h0 with h0 | h0 <;> (rw [h0]; decide)) (by rcases h0 with h0 | h0 <;> (rw [h0]; decide)) (by rcases h0 with h0 | h0 <;> (rw [h0]; rfl)) (by decide) ?_
        refine lv_aload_n hx hb d_Pr_branchOnRegisters_140 rfl (lv_at hl 3 rfl) ?_
        refine lv_iload_n hx hb d_Pr_branchOnRegisters_141 rfl (lv_at hl 4 rfl) ?_
        refine lv_iload_n hx hb d_Pr_branchOnRegisters_142 rfl (lv_at hl 2 rfl) ?_
        refine lv_iload_n hx hb d_Pr_branchOnRegisters_143 rfl (lv_at hl 1 rfl) ?_
        refine lv_icmp_ne (tgt := 151) hx hb d_Pr_branchOnRegisters_144 (by decide) (fun c_34 => ?_) (fun c_34 => ?_)
        · skip
          have h := h.2 c_34
          refine lv_iconst (v := 0) hx hb d_Pr_branchOnRegisters_151 (by decide) ?_
          refine lv_iload hx hb d_Pr_branchOnRegisters_152 (lv_at hl 0 rfl) ?_
          refine zz_Wi (As := [.int a0, .int (0 : Int32), .int (1 : Int32)]) (rest := []) (wc := wP qp qr qh qm qw qu qf ql qo cI ms mn g rg hq mf cd fg L O) (wr := []) X hK hP hD hS hA (c_Pr_branch l D cI qp qr qh qm qw qu qf ql qo ms mn g rg hq mf cd fg L O a0 (0 : Int32) (1 : Int32) _ h _) ⟨rfl, rfl⟩ m_Pr_branch k_Pr_249 ⟨Nat.le_of_ble_eq_true rfl, Nat.le_of_ble_eq_true rfl⟩ [0, 1, 2, 3, 4, 5, 6, 7, 8] [] rfl rfl (by decide) (by decide) (by decide) 4 0 rfl rfl rfl rfl hl.1 rfl (Nat.le_of_ble_eq_true rfl) d_Pr_branchOnRegisters_154 hf0 (fun r_36 u_35 H locs h hP hD hS => ?_)
          have hP : va_P D vwCl (wP qp qr qh qm qw qu qf ql qo cI ms mn u_35.1 u_35.2.1 u_35.2.2.1 u_35.2.2.2.1 u_35.2.2.2.2.1 u_35.2.2.2.2.2.1 u_35.2.2.2.2.2.2.1 u_35.2.2.2.2.2.2.2) H := hP.sub [0, 1, 2, 3, 4, 5, 6, 7, 8] rfl
          have hD : va_D A (wP qp qr qh qm qw qu qf ql qo cI ms mn u_35.1 u_35.2.1 u_35.2.2.1 u_35.2.2.2.1 u_35.2.2.2.2.1 u_35.2.2.2.2.2.1 u_35.2.2.2.2.2.2.1 u_35.2.2.2.2.2.2.2) := hD.sub [0, 1, 2, 3, 4, 5, 6, 7, 8] (by decide) rfl
          exact W.iret (v := r_36) hx hb hr (fun t ht hW => ⟨⟨r_36, (u_35.1, u_35.2.1, u_35.2.2.1, u_35.2.2.2.1, u_35.2.2.2.2.1, u_35.2.2.2.2.2.1, u_35.2.2.2.2.2.2.1, u_35.2.2.2.2.2.2.2), rfl, h, by rw [ht]; exact hP, hD⟩, hS.F ht⟩) hS.2.2 d_Pr_branchOnRegisters_157
        · skip
          have h := h.1 c_34
          refine lv_iconst (v := 1) hx hb d_Pr_branchOnRegisters_147 (by decide) ?_
          refine lv_goto (tgt := 152) hx hb d_Pr_branchOnRegisters_148 (by decide) ?_
          refine lv_iload hx hb d_Pr_branchOnRegisters_152 (lv_at hl 0 rfl) ?_
          refine zz_Wi (As := [.int a0, .int (1 : Int32), .int (1 : Int32)]) (rest := []) (wc := wP qp qr qh qm qw qu qf ql qo cI ms mn g rg hq mf cd fg L O) (wr := []) X hK hP hD hS hA (c_Pr_branch l D cI qp qr qh qm qw qu qf ql qo ms mn g rg hq mf cd fg L O a0 (1 : Int32) (1 : Int32) _ h _) ⟨rfl, rfl⟩ m_Pr_branch k_Pr_249 ⟨Nat.le_of_ble_eq_true rfl, Nat.le_of_ble_eq_true rfl⟩ [0, 1, 2, 3, 4, 5, 6, 7, 8] [] rfl rfl (by decide) (by decide) (by decide) 4 0 rfl rfl rfl rfl hl.1 rfl (Nat.le_of_ble_eq_true rfl) d_Pr_branchOnRegisters_154 hf0 (fun r_38 u_37 H locs h hP hD hS => ?_)
          have hP : va_P D vwCl (wP qp qr qh qm qw qu qf ql qo cI ms mn u_37.1 u_37.2.1 u_37.2.2.1 u_37.2.2.2.1 u_37.2.2.2.2.1 u_37.2.2.2.2.2.1 u_37.2.2.2.2.2.2.1 u_37.2.2.2.2.2.2.2) H := hP.sub [0, 1, 2, 3, 4, 5, 6, 7, 8] rfl
          have hD : va_D A (wP qp qr qh qm qw qu qf ql qo cI ms mn u_37.1 u_37.2.1 u_37.2.2.1 u_37.2.2.2.1 u_37.2.2.2.2.1 u_37.2.2.2.2.2.1 u_37.2.2.2.2.2.2.1 u_37.2.2.2.2.2.2.2) := hD.sub [0, 1, 2, 3, 4, 5, 6, 7, 8] (by decide) rfl
          exact W.iret (v := r_38) hx hb hr (fun t ht hW => ⟨⟨r_38, (u_37.1, u_37.2.1, u_37.2.2.1, u_37.2.2.2.1, u_37.2.2.2.2.1, u_37.2.2.2.2.2.1, u_37.2.2.2.2.2.2.1, u_37.2.2.2.2.2.2.2), rfl, h, by rw [ht]; exact hP, hD⟩, hS.F ht⟩) hS.2.2 d_Pr_branchOnRegisters_157
      · have h := h.2 c_33
        by_cases c_39 : r_32 = (5 : Int32) ∨ r_32 = (21 : Int32)
        · have h := h.1 c_39
          have h0 := c_39
          refine lv_tableIn (off := 108) (tgt := 158) hx hb d_Pr_branchOnRegisters_50 (by rcases h0 with h0 | h0 <;> (rw [h0]; decide)) (by rcases h0 with h0 | h0 <;> (rw [h0]; decide)) (by rcases h0 with h0 | h0 <;> (rw [h0]; rfl)) (by decide) ?_
          refine lv_aload_n hx hb d_Pr_branchOnRegisters_158 rfl (lv_at hl 3 rfl) ?_
          refine lv_iload_n hx hb d_Pr_branchOnRegisters_159 rfl (lv_at hl 4 rfl) ?_
          refine lv_iload_n hx hb d_Pr_branchOnRegisters_160 rfl (lv_at hl 2 rfl) ?_
          refine lv_iload_n hx hb d_Pr_branchOnRegisters_161 rfl (lv_at hl 1 rfl) ?_
          refine lv_icmp_eq (tgt := 169) hx hb d_Pr_branchOnRegisters_162 (by decide) (fun c_40 => ?_) (fun c_40 => ?_)
          · skip
            have h := h.1 c_40
            refine lv_iconst (v := 0) hx hb d_Pr_branchOnRegisters_169 (by decide) ?_
            refine lv_iload hx hb d_Pr_branchOnRegisters_170 (lv_at hl 0 rfl) ?_
            refine zz_Wi (As := [.int a0, .int (0 : Int32), .int (1 : Int32)]) (rest := []) (wc := wP qp qr qh qm qw qu qf ql qo cI ms mn g rg hq mf cd fg L O) (wr := []) X hK hP hD hS hA (c_Pr_branch l D cI qp qr qh qm qw qu qf ql qo ms mn g rg hq mf cd fg L O a0 (0 : Int32) (1 : Int32) _ h _) ⟨rfl, rfl⟩ m_Pr_branch k_Pr_249 ⟨Nat.le_of_ble_eq_true rfl, Nat.le_of_ble_eq_true rfl⟩ [0, 1, 2, 3, 4, 5, 6, 7, 8] [] rfl rfl (by decide) (by decide) (by decide) 4 0 rfl rfl rfl rfl hl.1 rfl (Nat.le_of_ble_eq_true rfl) d_Pr_branchOnRegisters_172 hf0 (fun r_42 u_41 H locs h hP hD hS => ?_)
            have hP : va_P D vwCl (wP qp qr qh qm qw qu qf ql qo cI ms mn u_41.1 u_41.2.1 u_41.2.2.1 u_41.2.2.2.1 u_41.2.2.2.2.1 u_41.2.2.2.2.2.1 u_41.2.2.2.2.2.2.1 u_41.2.2.2.2.2.2.2) H := hP.sub [0, 1, 2, 3, 4, 5, 6, 7, 8] rfl
            have hD : va_D A (wP qp qr qh qm qw qu qf ql qo cI ms mn u_41.1 u_41.2.1 u_41.2.2.1 u_41.2.2.2.1 u_41.2.2.2.2.1 u_41.2.2.2.2.2.1 u_41.2.2.2.2.2.2.1 u_41.2.2.2.2.2.2.2) := hD.sub [0, 1, 2, 3, 4, 5, 6, 7, 8] (by decide) rfl
            exact W.iret (v := r_42) hx hb hr (fun t ht hW => ⟨⟨r_42, (u_41.1, u_41.2.1, u_41.2.2.1, u_41.2.2.2.1, u_41.2.2.2.2.1, u_41.2.2.2.2.2.1, u_41.2.2.2.2.2.2.1, u_41.2.2.2.2.2.2.2), rfl, h, by rw [ht]; exact hP, hD⟩, hS.F ht⟩) hS.2.2 d_Pr_branchOnRegisters_175
          · skip
            have h := h.2 c_40
            refine lv_iconst (v := 1) hx hb d_Pr_branchOnRegisters_165 (by decide) ?_
            refine lv_goto (tgt := 170) hx hb d_Pr_branchOnRegisters_166 (by decide) ?_
            refine lv_iload hx hb d_Pr_branchOnRegisters_170 (lv_at hl 0 rfl) ?_
            refine zz_Wi (As := [.int a0, .int (1 : Int32), .int (1 : Int32)]) (rest := []) (wc := wP qp qr qh qm qw qu qf ql qo cI ms mn g rg hq mf cd fg L O) (wr := []) X hK hP hD hS hA (c_Pr_branch l D cI qp qr qh qm qw qu qf ql qo ms mn g rg hq mf cd fg L O a0 (1 : Int32) (1 : Int32) _ h _) ⟨rfl, rfl⟩ m_Pr_branch k_Pr_249 ⟨Nat.le_of_ble_eq_true rfl, Nat.le_of_ble_eq_true rfl⟩ [0, 1, 2, 3, 4, 5, 6, 7, 8] [] rfl rfl (by decide) (by decide) (by decide) 4 0 rfl rfl rfl rfl hl.1 rfl (Nat.le_of_ble_eq_true rfl) d_Pr_branchOnRegisters_172 hf0 (fun r_44 u_43 H locs h hP hD hS => ?_)
            have hP : va_P D vwCl (wP qp qr qh qm qw qu qf ql qo cI ms mn u_43.1 u_43.2.1 u_43.2.2.1 u_43.2.2.2.1 u_43.2.2.2.2.1 u_43.2.2.2.2.2.1 u_43.2.2.2.2.2.2.1 u_43.2.2.2.2.2.2.2) H := hP.sub [0, 1, 2, 3, 4, 5, 6, 7, 8] rfl
            have hD : va_D A (wP qp qr qh qm qw qu qf ql qo cI ms mn u_43.1 u_43.2.1 u_43.2.2.1 u_43.2.2.2.1 u_43.2.2.2.2.1 u_43.2.2.2.2.2.1 u_43.2.2.2.2.2.2.1 u_43.2.2.2.2.2.2.2) := hD.sub [0, 1, 2, 3, 4, 5, 6, 7, 8] (by decide) rfl
            exact W.iret (v := r_44) hx hb hr (fun t ht hW => ⟨⟨r_44, (u_43.1, u_43.2.1, u_43.2.2.1, u_43.2.2.2.1, u_43.2.2.2.2.1, u_43.2.2.2.2.2.1, u_43.2.2.2.2.2.2.1, u_43.2.2.2.2.2.2.2), rfl, h, by rw [ht]; exact hP, hD⟩, hS.F ht⟩) hS.2.2 d_Pr_branchOnRegisters_175
        · have h := h.2 c_39
          by_cases c_45 : r_32 = (6 : Int32) ∨ r_32 = (22 : Int32)
          · have h := h.1 c_45
            have h0 := c_45
            refine lv_tableIn (off := 126) (tgt := 176) hx hb d_Pr_branchOnRegisters_50 (by rcases h0 with h0 | h0 <;> (rw [h0]; decide)) (by rcases h0 with h0 | h0 <;> (rw [h0]; decide)) (by rcases h0 with h0 | h0 <;> (rw [h0]; rfl)) (by decide) ?_
            refine lv_aload_n hx hb d_Pr_branchOnRegisters_176 rfl (lv_at hl 3 rfl) ?_
            refine lv_iload_n hx hb d_Pr_branchOnRegisters_177 rfl (lv_at hl 4 rfl) ?_
            refine lv_iload_n hx hb d_Pr_branchOnRegisters_178 rfl (lv_at hl 2 rfl) ?_
            refine lv_if_gt (tgt := 186) hx hb d_Pr_branchOnRegisters_179 (by decide) (fun c_46 => ?_) (fun c_46 => ?_)
            · skip
              have h := h.1 c_46
              refine lv_iconst (v := 0) hx hb d_Pr_branchOnRegisters_186 (by decide) ?_
              refine lv_iload hx hb d_Pr_branchOnRegisters_187 (lv_at hl 0 rfl) ?_
              refine zz_Wi (As := [.int a0, .int (0 : Int32), .int (1 : Int32)]) (rest := []) (wc := wP qp qr qh qm qw qu qf ql qo cI ms mn g rg hq mf cd fg L O) (wr := []) X hK hP hD hS hA (c_Pr_branch l D cI qp qr qh qm qw qu qf ql qo ms mn g rg hq mf cd fg L O a0 (0 : Int32) (1 : Int32) _ h _) ⟨rfl, rfl⟩ m_Pr_branch k_Pr_249 ⟨Nat.le_of_ble_eq_true rfl, Nat.le_of_ble_eq_true rfl⟩ [0, 1, 2, 3, 4, 5, 6, 7, 8] [] rfl rfl (by decide) (by decide) (by decide) 4 0 rfl rfl rfl rfl hl.1 rfl (Nat.le_of_ble_eq_true rfl) d_Pr_branchOnRegisters_189 hf0 (fun r_48 u_47 H locs h hP hD hS => ?_)
              have hP : va_P D vwCl (wP qp qr qh qm qw qu qf ql qo cI ms mn u_47.1 u_47.2.1 u_47.2.2.1 u_47.2.2.2.1 u_47.2.2.2.2.1 u_47.2.2.2.2.2.1 u_47.2.2.2.2.2.2.1 u_47.2.2.2.2.2.2.2) H := hP.sub [0, 1, 2, 3, 4, 5, 6, 7, 8] rfl
              have hD : va_D A (wP qp qr qh qm qw qu qf ql qo cI ms mn u_47.1 u_47.2.1 u_47.2.2.1 u_47.2.2.2.1 u_47.2.2.2.2.1 u_47.2.2.2.2.2.1 u_47.2.2.2.2.2.2.1 u_47.2.2.2.2.2.2.2) := hD.sub [0, 1, 2, 3, 4, 5, 6, 7, 8] (by decide) rfl
              exact W.iret (v := r_48) hx hb hr (fun t ht hW => ⟨⟨r_48, (u_47.1, u_47.2.1, u_47.2.2.1, u_47.2.2.2.1, u_47.2.2.2.2.1, u_47.2.2.2.2.2.1, u_47.2.2.2.2.2.2.1, u_47.2.2.2.2.2.2.2), rfl, h, by rw [ht]; exact hP, hD⟩, hS.F ht⟩) hS.2.2 d_Pr_branchOnRegisters_192
            · skip
              have h := h.2 c_46
              refine lv_iconst (v := 1) hx hb d_Pr_branchOnRegisters_182 (by decide) ?_
              refine lv_goto (tgt := 187) hx hb d_Pr_branchOnRegisters_183 (by decide) ?_
              refine lv_iload hx hb d_Pr_branchOnRegisters_187 (lv_at hl 0 rfl) ?_
              refine zz_Wi (As := [.int a0, .int (1 : Int32), .int (1 : Int32)]) (rest := []) (wc := wP qp qr qh qm qw qu qf ql qo cI ms mn g rg hq mf cd fg L O) (wr := []) X hK hP hD hS hA (c_Pr_branch l D cI qp qr qh qm qw qu qf ql qo ms mn g rg hq mf cd fg L O a0 (1 : Int32) (1 : Int32) _ h _) ⟨rfl, rfl⟩ m_Pr_branch k_Pr_249 ⟨Nat.le_of_ble_eq_true rfl, Nat.le_of_ble_eq_true rfl⟩ [0, 1, 2, 3, 4, 5, 6, 7, 8] [] rfl rfl (by decide) (by decide) (by decide) 4 0 rfl rfl rfl rfl hl.1 rfl (Nat.le_of_ble_eq_true rfl) d_Pr_branchOnRegisters_189 hf0 (fun r_50 u_49 H locs h hP hD hS => ?_)
              have hP : va_P D vwCl (wP qp qr qh qm qw qu qf ql qo cI ms mn u_49.1 u_49.2.1 u_49.2.2.1 u_49.2.2.2.1 u_49.2.2.2.2.1 u_49.2.2.2.2.2.1 u_49.2.2.2.2.2.2.1 u_49.2.2.2.2.2.2.2) H := hP.sub [0, 1, 2, 3, 4, 5, 6, 7, 8] rfl
              have hD : va_D A (wP qp qr qh qm qw qu qf ql qo cI ms mn u_49.1 u_49.2.1 u_49.2.2.1 u_49.2.2.2.1 u_49.2.2.2.2.1 u_49.2.2.2.2.2.1 u_49.2.2.2.2.2.2.1 u_49.2.2.2.2.2.2.2) := hD.sub [0, 1, 2, 3, 4, 5, 6, 7, 8] (by decide) rfl
              exact W.iret (v := r_50) hx hb hr (fun t ht hW => ⟨⟨r_50, (u_49.1, u_49.2.1, u_49.2.2.1, u_49.2.2.2.1, u_49.2.2.2.2.1, u_49.2.2.2.2.2.1, u_49.2.2.2.2.2.2.1, u_49.2.2.2.2.2.2.2), rfl, h, by rw [ht]; exact hP, hD⟩, hS.F ht⟩) hS.2.2 d_Pr_branchOnRegisters_192
          · have h := h.2 c_45
            refine zz_swD (tgt := 193) hx hb [4, 20, 5, 21, 6, 22] d_Pr_branchOnRegisters_50 (by decide +kernel) (by decide) (List.forall_mem_cons.mpr ⟨lv_neT (k := 4) (fun q => c_33 (Or.inl q)) (by decide), List.forall_mem_cons.mpr ⟨lv_neT (k := 20) (fun q => c_33 (Or.inr (q))) (by decide), List.forall_mem_cons.mpr ⟨lv_neT (k := 5) (fun q => c_39 (Or.inl q)) (by decide), List.forall_mem_cons.mpr ⟨lv_neT (k := 21) (fun q => c_39 (Or.inr (q))) (by decide), List.forall_mem_cons.mpr ⟨lv_neT (k := 6) (fun q => c_45 (Or.inl q)) (by decide), List.forall_mem_cons.mpr ⟨lv_neT (k := 22) (fun q => c_45 (Or.inr (q))) (by decide), fun _ h9 => nomatch h9⟩⟩⟩⟩⟩⟩) (by decide) ?_
            refine lv_aload_n hx hb d_Pr_branchOnRegisters_193 rfl (lv_at hl 3 rfl) ?_
            refine lv_iload_n hx hb d_Pr_branchOnRegisters_194 rfl (lv_at hl 4 rfl) ?_
            refine lv_iload_n hx hb d_Pr_branchOnRegisters_195 rfl (lv_at hl 2 rfl) ?_
            refine lv_if_le (tgt := 203) hx hb d_Pr_branchOnRegisters_196 (by decide) (fun c_51 => ?_) (fun c_51 => ?_)
            · skip
              have h := h.1 c_51
              refine lv_iconst (v := 0) hx hb d_Pr_branchOnRegisters_203 (by decide) ?_
              refine lv_iload hx hb d_Pr_branchOnRegisters_204 (lv_at hl 0 rfl) ?_
              refine zz_Wi (As := [.int a0, .int (0 : Int32), .int (1 : Int32)]) (rest := []) (wc := wP qp qr qh qm qw qu qf ql qo cI ms mn g rg hq mf cd fg L O) (wr := []) X hK hP hD hS hA (c_Pr_branch l D cI qp qr qh qm qw qu qf ql qo ms mn g rg hq mf cd fg L O a0 (0 : Int32) (1 : Int32) _ h _) ⟨rfl, rfl⟩ m_Pr_branch k_Pr_249 ⟨Nat.le_of_ble_eq_true rfl, Nat.le_of_ble_eq_true rfl⟩ [0, 1, 2, 3, 4, 5, 6, 7, 8] [] rfl rfl (by decide) (by decide) (by decide) 4 0 rfl rfl rfl rfl hl.1 rfl (Nat.le_of_ble_eq_true rfl) d_Pr_branchOnRegisters_206 hf0 (fun r_53 u_52 H locs h hP hD hS => ?_)
              have hP : va_P D vwCl (wP qp qr qh qm qw qu qf ql qo cI ms mn u_52.1 u_52.2.1 u_52.2.2.1 u_52.2.2.2.1 u_52.2.2.2.2.1 u_52.2.2.2.2.2.1 u_52.2.2.2.2.2.2.1 u_52.2.2.2.2.2.2.2) H := hP.sub [0, 1, 2, 3, 4, 5, 6, 7, 8] rfl
              have hD : va_D A (wP qp qr qh qm qw qu qf ql qo cI ms mn u_52.1 u_52.2.1 u_52.2.2.1 u_52.2.2.2.1 u_52.2.2.2.2.1 u_52.2.2.2.2.2.1 u_52.2.2.2.2.2.2.1 u_52.2.2.2.2.2.2.2) := hD.sub [0, 1, 2, 3, 4, 5, 6, 7, 8] (by decide) rfl
              exact W.iret (v := r_53) hx hb hr (fun t ht hW => ⟨⟨r_53, (u_52.1, u_52.2.1, u_52.2.2.1, u_52.2.2.2.1, u_52.2.2.2.2.1, u_52.2.2.2.2.2.1, u_52.2.2.2.2.2.2.1, u_52.2.2.2.2.2.2.2), rfl, h, by rw [ht]; exact hP, hD⟩, hS.F ht⟩) hS.2.2 d_Pr_branchOnRegisters_209
            · skip
              have h := h.2 c_51
              refine lv_iconst (v := 1) hx hb d_Pr_branchOnRegisters_199 (by decide) ?_
              refine lv_goto (tgt := 204) hx hb d_Pr_branchOnRegisters_200 (by decide) ?_
              refine lv_iload hx hb d_Pr_branchOnRegisters_204 (lv_at hl 0 rfl) ?_
              refine zz_Wi (As := [.int a0, .int (1 : Int32), .int (1 : Int32)]) (rest := []) (wc := wP qp qr qh qm qw qu qf ql qo cI ms mn g rg hq mf cd fg L O) (wr := []) X hK hP hD hS hA (c_Pr_branch l D cI qp qr qh qm qw qu qf ql qo ms mn g rg hq mf cd fg L O a0 (1 : Int32) (1 : Int32) _ h _) ⟨rfl, rfl⟩ m_Pr_branch k_Pr_249 ⟨Nat.le_of_ble_eq_true rfl, Nat.le_of_ble_eq_true rfl⟩ [0, 1, 2, 3, 4, 5, 6, 7, 8] [] rfl rfl (by decide) (by decide) (by decide) 4 0 rfl rfl rfl rfl hl.1 rfl (Nat.le_of_ble_eq_true rfl) d_Pr_branchOnRegisters_206 hf0 (fun r_55 u_54 H locs h hP hD hS => ?_)
              have hP : va_P D vwCl (wP qp qr qh qm qw qu qf ql qo cI ms mn u_54.1 u_54.2.1 u_54.2.2.1 u_54.2.2.2.1 u_54.2.2.2.2.1 u_54.2.2.2.2.2.1 u_54.2.2.2.2.2.2.1 u_54.2.2.2.2.2.2.2) H := hP.sub [0, 1, 2, 3, 4, 5, 6, 7, 8] rfl
              have hD : va_D A (wP qp qr qh qm qw qu qf ql qo cI ms mn u_54.1 u_54.2.1 u_54.2.2.1 u_54.2.2.2.1 u_54.2.2.2.2.1 u_54.2.2.2.2.2.1 u_54.2.2.2.2.2.2.1 u_54.2.2.2.2.2.2.2) := hD.sub [0, 1, 2, 3, 4, 5, 6, 7, 8] (by decide) rfl
              exact W.iret (v := r_55) hx hb hr (fun t ht hW => ⟨⟨r_55, (u_54.1, u_54.2.1, u_54.2.2.1, u_54.2.2.2.1, u_54.2.2.2.2.1, u_54.2.2.2.2.2.1, u_54.2.2.2.2.2.2.1, u_54.2.2.2.2.2.2.2), rfl, h, by rw [ht]; exact hP, hD⟩, hS.F ht⟩) hS.2.2 d_Pr_branchOnRegisters_209
  · skip
    have h := h.2 c_1
    refine lv_bipush (v := 8) hx hb d_Pr_branchOnRegisters_7 (by decide) ?_
    exact W.iret (v := (8 : Int32)) hx hb hr (fun t ht hW => ⟨⟨(8 : Int32), (g, rg, hq, mf, cd, fg, L, O), rfl, h, by rw [ht]; exact hP, hD⟩, hS.F ht⟩) hS.2.2 d_Pr_branchOnRegisters_9
def wp_Pr_immediate (ms : Int32) (mn : Nat) (g : Nat → Int32) (rg : Nat → Int32) (hq : Nat → Int32) (mf : Nat → Int32) (cd : Int32) (fg : Nat → Int32) (L : Int32 × Int32 × Int32 × Int64) (O : Int32 × Int32 × Int32 × Int64) (a0 : Int32) (P : Int32 → ((Nat → Int32) × (Nat → Int32) × (Nat → Int32) × (Nat → Int32) × Int32 × (Nat → Int32) × (Int32 × Int32 × Int32 × Int64) × (Int32 × Int32 × Int32 × Int64)) → Prop) : Prop := wp_Pr_rs a0 (fun r_1 => vp_in r_1 32 ∧ ∀ x_2 : Int32, x_2 = (rg r_1.toNatClampNeg) → ∀ x_3 : Int32, x_3 = (a0 &&& (65535 : Int32)) → wp_Pr_opcode a0 (fun r_4 => (((r_4 = (8 : Int32)) → wp_Pr_rt a0 (fun r_6 => wp_Pr_signed a0 (fun r_7 => wp_Pr_exactResult ms mn g rg hq mf cd fg L O r_6 (x_2.toInt64 + r_7.toInt64) (fun r_9 u_8 => P r_9 (u_8.1, u_8.2.1, u_8.2.2.1, u_8.2.2.2.1, u_8.2.2.2.2.1, u_8.2.2.2.2.2.1, u_8.2.2.2.2.2.2.1, u_8.2.2.2.2.2.2.2))))) ∧ (¬ (r_4 = (8 : Int32)) → (((r_4 = (9 : Int32)) → wp_Pr_rt a0 (fun r_11 => wp_Pr_signed a0 (fun r_12 => wp_Pr_result ms mn g rg hq mf cd fg L O r_11 (x_2 + r_12) (fun r_14 u_13 => P r_14 (u_13.1, u_13.2.1, u_13.2.2.1, u_13.2.2.2.1, u_13.2.2.2.2.1, u_13.2.2.2.2.2.1, u_13.2.2.2.2.2.2.1, u_13.2.2.2.2.2.2.2))))) ∧ (¬ (r_4 = (9 : Int32)) → (((r_4 = (10 : Int32)) → wp_Pr_rt a0 (fun r_16 => wp_Pr_signed a0 (fun r_17 => ((r_17 ≤ x_2 → wp_Pr_result ms mn g rg hq mf cd fg L O r_16 (0 : Int32) (fun r_20 u_19 => P r_20 (u_19.1, u_19.2.1, u_19.2.2.1, u_19.2.2.2.1, u_19.2.2.2.2.1, u_19.2.2.2.2.2.1, u_19.2.2.2.2.2.2.1, u_19.2.2.2.2.2.2.2))) ∧ (¬ r_17 ≤ x_2 → wp_Pr_result ms mn g rg hq mf cd fg L O r_16 (1 : Int32) (fun r_22 u_21 => P r_22 (u_21.1, u_21.2.1, u_21.2.2.1, u_21.2.2.2.1, u_21.2.2.2.2.1, u_21.2.2.2.2.2.1, u_21.2.2.2.2.2.2.1, u_21.2.2.2.2.2.2.2))))))) ∧ (¬ (r_4 = (10 : Int32)) → (((r_4 = (11 : Int32)) → wp_Pr_rt a0 (fun r_24 => wp_Pr_unsigned x_2 (fun r_25 => wp_Pr_signed a0 (fun r_26 => wp_Pr_unsigned r_26 (fun r_27 => ((r_27 ≤ r_25 → wp_Pr_result ms mn g rg hq mf cd fg L O r_24 (0 : Int32) (fun r_30 u_29 => P r_30 (u_29.1, u_29.2.1, u_29.2.2.1, u_29.2.2.2.1, u_29.2.2.2.2.1, u_29.2.2.2.2.2.1, u_29.2.2.2.2.2.2.1, u_29.2.2.2.2.2.2.2))) ∧ (¬ r_27 ≤ r_25 → wp_Pr_result ms mn g rg hq mf cd fg L O r_24 (1 : Int32) (fun r_32 u_31 => P r_32 (u_31.1, u_31.2.1, u_31.2.2.1, u_31.2.2.2.1, u_31.2.2.2.2.1, u_31.2.2.2.2.2.1, u_31.2.2.2.2.2.2.1, u_31.2.2.2.2.2.2.2))))))))) ∧ (¬ (r_4 = (11 : Int32)) → (((r_4 = (12 : Int32)) → wp_Pr_rt a0 (fun r_34 => wp_Pr_result ms mn g rg hq mf cd fg L O r_34 (x_2 &&& x_3) (fun r_36 u_35 => P r_36 (u_35.1, u_35.2.1, u_35.2.2.1, u_35.2.2.2.1, u_35.2.2.2.2.1, u_35.2.2.2.2.2.1, u_35.2.2.2.2.2.2.1, u_35.2.2.2.2.2.2.2)))) ∧ (¬ (r_4 = (12 : Int32)) → (((r_4 = (13 : Int32)) → wp_Pr_rt a0 (fun r_38 => wp_Pr_result ms mn g rg hq mf cd fg L O r_38 (x_2 ||| x_3) (fun r_40 u_39 => P r_40 (u_39.1, u_39.2.1, u_39.2.2.1, u_39.2.2.2.1, u_39.2.2.2.2.1, u_39.2.2.2.2.2.1, u_39.2.2.2.2.2.2.1, u_39.2.2.2.2.2.2.2)))) ∧ (¬ (r_4 = (13 : Int32)) → (((r_4 = (14 : Int32)) → wp_Pr_rt a0 (fun r_42 => wp_Pr_result ms mn g rg hq mf cd fg L O r_42 (x_2 ^^^ x_3) (fun r_44 u_43 => P r_44 (u_43.1, u_43.2.1, u_43.2.2.1, u_43.2.2.2.1, u_43.2.2.2.2.1, u_43.2.2.2.2.2.1, u_43.2.2.2.2.2.2.1, u_43.2.2.2.2.2.2.2)))) ∧ (¬ (r_4 = (14 : Int32)) → wp_Pr_rt a0 (fun r_45 => wp_Pr_result ms mn g rg hq mf cd fg L O r_45 (zz_shl x_3 (16 : Int32)) (fun r_47 u_46 => P r_47 (u_46.1, u_46.2.1, u_46.2.2.1, u_46.2.2.2.1, u_46.2.2.2.2.1, u_46.2.2.2.2.2.1, u_46.2.2.2.2.2.2.1, u_46.2.2.2.2.2.2.2)))))))))))))))))))
abbrev rm_Pr_immediate : Room := { frames := 3, cells := 0, slots := 0, locals := 67 }
set_option maxHeartbeats 4000000 in
set_option maxRecDepth 100000 in
theorem c_Pr_immediate (l : Launch) (D : va_G) (cI : ClassId) (qp : Nat) (qr : Nat) (qh : Nat) (qm : Nat) (qw : Nat) (qu : Nat) (qf : Nat) (ql : Nat) (qo : Nat) (ms : Int32) (mn : Nat) (g : Nat → Int32) (rg : Nat → Int32) (hq : Nat → Int32) (mf : Nat → Int32) (cd : Int32) (fg : Nat → Int32) (L : Int32 × Int32 × Int32 × Int64) (O : Int32 × Int32 × Int32 × Int64) (a0 : Int32) (P : Int32 → ((Nat → Int32) × (Nat → Int32) × (Nat → Int32) × (Nat → Int32) × Int32 × (Nat → Int32) × (Int32 × Int32 × Int32 × Int64) × (Int32 × Int32 × Int32 × Int64)) → Prop) (h : wp_Pr_immediate ms mn g rg hq mf cd fg L O a0 P) (sz : Nat) : Met l y_Pr_immediate (zz_ws y_Pr_immediate b_Pr_immediate 4 (some .int)) rm_Pr_immediate (va_Pc [.ref qp, .int a0] (zz_pw D [(cI, .int)] (wP qp qr qh qm qw qu qf ql qo cI ms mn g rg hq mf cd fg L O) sz)) (va_Qi P (zz_qw D (fun u => wP qp qr qh qm qw qu qf ql qo cI ms mn u.1 u.2.1 u.2.2.1 u.2.2.2.1 u.2.2.2.2.1 u.2.2.2.2.2.1 u.2.2.2.2.2.2.1 u.2.2.2.2.2.2.2) (va_A (wP qp qr qh qm qw qu qf ql qo cI ms mn g rg hq mf cd fg L O) sz)) (va_A (wP qp qr qh qm qw qu qf ql qo cI ms mn g rg hq mf cd fg L O) sz)) 0 0 (va_A (wP qp qr qh qm qw qu qf ql qo cI ms mn g rg hq mf cd fg L O) sz) := by
  refine Met.ofW (cc := b_Pr_immediate) (maxL := 4) (ret := (some .int)) (by decide) rfl ?_
  intro p e s m args below meth c s₁ B hml hv
  obtain ⟨rfl, hsz, hP, hK, hD0⟩ := hv
  have hx := B.exec
  have hb := B.bytes
  have hr := B.returns
  have hts := atoms_spec (ws := (zz_ws y_Pr_immediate b_Pr_immediate 4 (some .int))) B.pre
  have hown : s.vm.findClass R_Pr = some m.cls := findClass_of_methodNamed B.named
  have hlocks := B.notSynchronized
  have hT := zz_hts hts
  have X : CallFix p m c b_Pr_immediate 4 s ([.ref qp, .int a0] : List Value).toArray (zz_ws y_Pr_immediate b_Pr_immediate 4 (some .int)) R_Pr := ⟨hx, hb, hml, hown, hts⟩
  have hf0 : 0 + 0 ≤ (headSpec (zz_ws y_Pr_immediate b_Pr_immediate 4 (some .int)) rm_Pr_immediate).room.cells ∧ 0 + 0 ≤ (headSpec (zz_ws y_Pr_immediate b_Pr_immediate 4 (some .int)) rm_Pr_immediate).room.slots := ⟨Nat.le_of_ble_eq_true rfl, Nat.le_of_ble_eq_true rfl⟩
  subst hsz
  have hD := hD0.self (sz := s.heap.size)
  generalize hAe : va_A (wP qp qr qh qm qw qu qf ql qo cI ms mn g rg hq mf cd fg L O) s.heap.size = A at hD ⊢
  have hA : ∀ q : Nat, s.heap.size ≤ q → A q := fun q h => by rw [← hAe]; exact Or.inr h
  have hS : va_S A s.heap s.heap [] := va_S.rf
  have hl := lv_entry ([.ref qp, .int a0]) (n := 4) (Nat.le_of_ble_eq_true rfl)
  rw [lg_entry_eq]
  generalize (lg_sl ([.ref qp, .int a0]) ++ List.replicate (4 - (lg_sl ([.ref qp, .int a0])).length) Slot.unset).toArray = ls at hl ⊢
  have hl : lv_has ls 4 [(0, .ref qp), (1, .int a0)] := hl
  refine lv_aload_n hx hb d_Pr_immediate_0 rfl (lv_at hl 0 rfl) ?_
  refine g_Pr_9 (v := .ref qr) hx hb hT hown hK hP 0 rfl rfl d_Pr_immediate_1 ?_
  refine lv_iload_n hx hb d_Pr_immediate_4 rfl (lv_at hl 1 rfl) ?_
  refine zz_Si (As := [.int a0]) (rest := [.ref qr]) X (c_Pr_rs l a0 _ h) ⟨rfl, rfl⟩ m_Pr_rs k_Pr_83 ⟨Nat.le_of_ble_eq_true rfl, Nat.le_of_ble_eq_true rfl⟩ rfl hl.1 rfl (Nat.le_of_ble_eq_true rfl) d_Pr_immediate_5 hf0 (fun r_1 h => ?_)
  refine va_iald (f := rg) hx hb hK hP 1 0 rfl rfl h.1 d_Pr_immediate_8 ?_
  have h := h.2
  refine lv_topi (fun x_2 ex_2 => ?_)
  have h := h x_2 ex_2
  refine lv_istore_n (lv' := [(2, .int x_2), (0, .ref qp), (1, .int a0)]) hx hb d_Pr_immediate_9 rfl hl (by decide) rfl (fun ls hl => ?_)
  refine lv_iload_n hx hb d_Pr_immediate_10 rfl (lv_at hl 2 rfl) ?_
  refine lv_ldc (v := 65535) hx hb hown (hT _ n_Pr_220) d_Pr_immediate_11 ?_
  refine lv_iand hx hb d_Pr_immediate_13 ?_
  refine lv_topi (fun x_3 ex_3 => ?_)
  have h := h x_3 ex_3
  refine lv_istore_n (lv' := [(3, .int x_3), (2, .int x_2), (0, .ref qp), (1, .int a0)]) hx hb d_Pr_immediate_14 rfl hl (by decide) rfl (fun ls hl => ?_)
  refine lv_iload_n hx hb d_Pr_immediate_15 rfl (lv_at hl 3 rfl) ?_
  refine zz_Si (As := [.int a0]) (rest := []) X (c_Pr_opcode l a0 _ h) ⟨rfl, rfl⟩ m_Pr_opcode k_Pr_71 ⟨Nat.le_of_ble_eq_true rfl, Nat.le_of_ble_eq_true rfl⟩ rfl hl.1 rfl (Nat.le_of_ble_eq_true rfl) d_Pr_immediate_16 hf0 (fun r_4 h => ?_)
  by_cases c_5 : r_4 = (8 : Int32)
  · have h := h.1 c_5
    have h0 := c_5
    refine lv_tableIn (off := 41) (tgt := 60) hx hb d_Pr_immediate_19 (by rw [h0]; decide) (by rw [h0]; decide) (by rw [h0]; rfl) (by decide) ?_
    refine lv_aload_n hx hb d_Pr_immediate_60 rfl (lv_at hl 2 rfl) ?_
    refine lv_iload_n hx hb d_Pr_immediate_61 rfl (lv_at hl 3 rfl) ?_
    refine zz_Si (As := [.int a0]) (rest := [.ref qp]) X (c_Pr_rt l a0 _ h) ⟨rfl, rfl⟩ m_Pr_rt k_Pr_89 ⟨Nat.le_of_ble_eq_true rfl, Nat.le_of_ble_eq_true rfl⟩ rfl hl.1 rfl (Nat.le_of_ble_eq_true rfl) d_Pr_immediate_62 hf0 (fun r_6 h => ?_)
    refine lv_iload_n hx hb d_Pr_immediate_65 rfl (lv_at hl 1 rfl) ?_
    refine lv_i2l (v := x_2.toInt64) hx hb d_Pr_immediate_66 rfl ?_
    refine lv_iload_n hx hb d_Pr_immediate_67 rfl (lv_at hl 3 rfl) ?_
    refine zz_Si (As := [.int a0]) (rest := [.long x_2.toInt64, .int r_6, .ref qp]) X (c_Pr_signed l a0 _ h) ⟨rfl, rfl⟩ m_Pr_signed k_Pr_221 ⟨Nat.le_of_ble_eq_true rfl, Nat.le_of_ble_eq_true rfl⟩ rfl hl.1 rfl (Nat.le_of_ble_eq_true rfl) d_Pr_immediate_68 hf0 (fun r_7 h => ?_)
    refine lv_i2l (v := r_7.toInt64) hx hb d_Pr_immediate_71 rfl ?_
    refine lv_ladd hx hb d_Pr_immediate_72 ?_
    refine zz_Wi (As := [.int r_6, .long (x_2.toInt64 + r_7.toInt64)]) (rest := []) (wc := wP qp qr qh qm qw qu qf ql qo cI ms mn g rg hq mf cd fg L O) (wr := []) X hK hP hD hS hA (c_Pr_exactResult l D cI qp qr qh qm qw qu qf ql qo ms mn g rg hq mf cd fg L O r_6 (x_2.toInt64 + r_7.toInt64) _ h _) ⟨rfl, rfl⟩ m_Pr_exactResult k_Pr_216 ⟨Nat.le_of_ble_eq_true rfl, Nat.le_of_ble_eq_true rfl⟩ [0, 1, 2, 3, 4, 5, 6, 7, 8] [] rfl rfl (by decide) (by decide) (by decide) 4 0 rfl rfl rfl rfl hl.1 rfl (Nat.le_of_ble_eq_true rfl) d_Pr_immediate_73 hf0 (fun r_9 u_8 H locs h hP hD hS => ?_)
    have hP : va_P D vwCl (wP qp qr qh qm qw qu qf ql qo cI ms mn u_8.1 u_8.2.1 u_8.2.2.1 u_8.2.2.2.1 u_8.2.2.2.2.1 u_8.2.2.2.2.2.1 u_8.2.2.2.2.2.2.1 u_8.2.2.2.2.2.2.2) H := hP.sub [0, 1, 2, 3, 4, 5, 6, 7, 8] rfl
    have hD : va_D A (wP qp qr qh qm qw qu qf ql qo cI ms mn u_8.1 u_8.2.1 u_8.2.2.1 u_8.2.2.2.1 u_8.2.2.2.2.1 u_8.2.2.2.2.2.1 u_8.2.2.2.2.2.2.1 u_8.2.2.2.2.2.2.2) := hD.sub [0, 1, 2, 3, 4, 5, 6, 7, 8] (by decide) rfl
    exact W.iret (v := r_9) hx hb hr (fun t ht hW => ⟨⟨r_9, (u_8.1, u_8.2.1, u_8.2.2.1, u_8.2.2.2.1, u_8.2.2.2.2.1, u_8.2.2.2.2.2.1, u_8.2.2.2.2.2.2.1, u_8.2.2.2.2.2.2.2), rfl, h, by rw [ht]; exact hP, hD⟩, hS.F ht⟩) hS.2.2 d_Pr_immediate_76
  · have h := h.2 c_5
    by_cases c_10 : r_4 = (9 : Int32)
    · have h := h.1 c_10
      have h0 := c_10
      refine lv_tableIn (off := 58) (tgt := 77) hx hb d_Pr_immediate_19 (by rw [h0]; decide) (by rw [h0]; decide) (by rw [h0]; rfl) (by decide) ?_
      refine lv_aload_n hx hb d_Pr_immediate_77 rfl (lv_at hl 2 rfl) ?_
      refine lv_iload_n hx hb d_Pr_immediate_78 rfl (lv_at hl 3 rfl) ?_
      refine zz_Si (As := [.int a0]) (rest := [.ref qp]) X (c_Pr_rt l a0 _ h) ⟨rfl, rfl⟩ m_Pr_rt k_Pr_89 ⟨Nat.le_of_ble_eq_true rfl, Nat.le_of_ble_eq_true rfl⟩ rfl hl.1 rfl (Nat.le_of_ble_eq_true rfl) d_Pr_immediate_79 hf0 (fun r_11 h => ?_)
      refine lv_iload_n hx hb d_Pr_immediate_82 rfl (lv_at hl 1 rfl) ?_
      refine lv_iload_n hx hb d_Pr_immediate_83 rfl (lv_at hl 3 rfl) ?_
      refine zz_Si (As := [.int a0]) (rest := [.int x_2, .int r_11, .ref qp]) X (c_Pr_signed l a0 _ h) ⟨rfl, rfl⟩ m_Pr_signed k_Pr_221 ⟨Nat.le_of_ble_eq_true rfl, Nat.le_of_ble_eq_true rfl⟩ rfl hl.1 rfl (Nat.le_of_ble_eq_true rfl) d_Pr_immediate_84 hf0 (fun r_12 h => ?_)
      refine lv_iadd hx hb d_Pr_immediate_87 ?_
      refine zz_Wi (As := [.int r_11, .int (x_2 + r_12)]) (rest := []) (wc := wP qp qr qh qm qw qu qf ql qo cI ms mn g rg hq mf cd fg L O) (wr := []) X hK hP hD hS hA (c_Pr_result l D cI qp qr qh qm qw qu qf ql qo ms mn g rg hq mf cd fg L O r_11 (x_2 + r_12) _ h _) ⟨rfl, rfl⟩ m_Pr_result k_Pr_161 ⟨Nat.le_of_ble_eq_true rfl, Nat.le_of_ble_eq_true rfl⟩ [0, 1, 2, 3, 4, 5, 6, 7, 8] [] rfl rfl (by decide) (by decide) (by decide) 4 0 rfl rfl rfl rfl hl.1 rfl (Nat.le_of_ble_eq_true rfl) d_Pr_immediate_88 hf0 (fun r_14 u_13 H locs h hP hD hS => ?_)
      have hP : va_P D vwCl (wP qp qr qh qm qw qu qf ql qo cI ms mn u_13.1 u_13.2.1 u_13.2.2.1 u_13.2.2.2.1 u_13.2.2.2.2.1 u_13.2.2.2.2.2.1 u_13.2.2.2.2.2.2.1 u_13.2.2.2.2.2.2.2) H := hP.sub [0, 1, 2, 3, 4, 5, 6, 7, 8] rfl
      have hD : va_D A (wP qp qr qh qm qw qu qf ql qo cI ms mn u_13.1 u_13.2.1 u_13.2.2.1 u_13.2.2.2.1 u_13.2.2.2.2.1 u_13.2.2.2.2.2.1 u_13.2.2.2.2.2.2.1 u_13.2.2.2.2.2.2.2) := hD.sub [0, 1, 2, 3, 4, 5, 6, 7, 8] (by decide) rfl
      exact W.iret (v := r_14) hx hb hr (fun t ht hW => ⟨⟨r_14, (u_13.1, u_13.2.1, u_13.2.2.1, u_13.2.2.2.1, u_13.2.2.2.2.1, u_13.2.2.2.2.2.1, u_13.2.2.2.2.2.2.1, u_13.2.2.2.2.2.2.2), rfl, h, by rw [ht]; exact hP, hD⟩, hS.F ht⟩) hS.2.2 d_Pr_immediate_91
    · have h := h.2 c_10
      by_cases c_15 : r_4 = (10 : Int32)
      · have h := h.1 c_15
        have h0 := c_15
        refine lv_tableIn (off := 73) (tgt := 92) hx hb d_Pr_immediate_19 (by rw [h0]; decide) (by rw [h0]; decide) (by rw [h0]; rfl) (by decide) ?_
        refine lv_aload_n hx hb d_Pr_immediate_92 rfl (lv_at hl 2 rfl) ?_
        refine lv_iload_n hx hb d_Pr_immediate_93 rfl (lv_at hl 3 rfl) ?_
        refine zz_Si (As := [.int a0]) (rest := [.ref qp]) X (c_Pr_rt l a0 _ h) ⟨rfl, rfl⟩ m_Pr_rt k_Pr_89 ⟨Nat.le_of_ble_eq_true rfl, Nat.le_of_ble_eq_true rfl⟩ rfl hl.1 rfl (Nat.le_of_ble_eq_true rfl) d_Pr_immediate_94 hf0 (fun r_16 h => ?_)
        refine lv_iload_n hx hb d_Pr_immediate_97 rfl (lv_at hl 1 rfl) ?_
        refine lv_iload_n hx hb d_Pr_immediate_98 rfl (lv_at hl 3 rfl) ?_
        refine zz_Si (As := [.int a0]) (rest := [.int x_2, .int r_16, .ref qp]) X (c_Pr_signed l a0 _ h) ⟨rfl, rfl⟩ m_Pr_signed k_Pr_221 ⟨Nat.le_of_ble_eq_true rfl, Nat.le_of_ble_eq_true rfl⟩ rfl hl.1 rfl (Nat.le_of_ble_eq_true rfl) d_Pr_immediate_99 hf0 (fun r_17 h => ?_)
        refine lv_icmp_ge (tgt := 109) hx hb d_Pr_immediate_102 (by decide) (fun c_18 => ?_) (fun c_18 => ?_)
        · skip
          have h := h.1 c_18
          refine lv_iconst (v := 0) hx hb d_Pr_immediate_109 (by decide) ?_
          refine zz_Wi (As := [.int r_16, .int (0 : Int32)]) (rest := []) (wc := wP qp qr qh qm qw qu qf ql qo cI ms mn g rg hq mf cd fg L O) (wr := []) X hK hP hD hS hA (c_Pr_result l D cI qp qr qh qm qw qu qf ql qo ms mn g rg hq mf cd fg L O r_16 (0 : Int32) _ h _) ⟨rfl, rfl⟩ m_Pr_result k_Pr_161 ⟨Nat.le_of_ble_eq_true rfl, Nat.le_of_ble_eq_true rfl⟩ [0, 1, 2, 3, 4, 5, 6, 7, 8] [] rfl rfl (by decide) (by decide) (by decide) 4 0 rfl rfl rfl rfl hl.1 rfl (Nat.le_of_ble_eq_true rfl) d_Pr_immediate_110 hf0 (fun r_20 u_19 H locs h hP hD hS => ?_)
          have hP : va_P D vwCl (wP qp qr qh qm qw qu qf ql qo cI ms mn u_19.1 u_19.2.1 u_19.2.2.1 u_19.2.2.2.1 u_19.2.2.2.2.1 u_19.2.2.2.2.2.1 u_19.2.2.2.2.2.2.1 u_19.2.2.2.2.2.2.2) H := hP.sub [0, 1, 2, 3, 4, 5, 6, 7, 8] rfl
          have hD : va_D A (wP qp qr qh qm qw qu qf ql qo cI ms mn u_19.1 u_19.2.1 u_19.2.2.1 u_19.2.2.2.1 u_19.2.2.2.2.1 u_19.2.2.2.2.2.1 u_19.2.2.2.2.2.2.1 u_19.2.2.2.2.2.2.2) := hD.sub [0, 1, 2, 3, 4, 5, 6, 7, 8] (by decide) rfl
          exact W.iret (v := r_20) hx hb hr (fun t ht hW => ⟨⟨r_20, (u_19.1, u_19.2.1, u_19.2.2.1, u_19.2.2.2.1, u_19.2.2.2.2.1, u_19.2.2.2.2.2.1, u_19.2.2.2.2.2.2.1, u_19.2.2.2.2.2.2.2), rfl, h, by rw [ht]; exact hP, hD⟩, hS.F ht⟩) hS.2.2 d_Pr_immediate_113
        · skip
          have h := h.2 c_18
          refine lv_iconst (v := 1) hx hb d_Pr_immediate_105 (by decide) ?_
          refine lv_goto (tgt := 110) hx hb d_Pr_immediate_106 (by decide) ?_
          refine zz_Wi (As := [.int r_16, .int (1 : Int32)]) (rest := []) (wc := wP qp qr qh qm qw qu qf ql qo cI ms mn g rg hq mf cd fg L O) (wr := []) X hK hP hD hS hA (c_Pr_result l D cI qp qr qh qm qw qu qf ql qo ms mn g rg hq mf cd fg L O r_16 (1 : Int32) _ h _) ⟨rfl, rfl⟩ m_Pr_result k_Pr_161 ⟨Nat.le_of_ble_eq_true rfl, Nat.le_of_ble_eq_true rfl⟩ [0, 1, 2, 3, 4, 5, 6, 7, 8] [] rfl rfl (by decide) (by decide) (by decide) 4 0 rfl rfl rfl rfl hl.1 rfl (Nat.le_of_ble_eq_true rfl) d_Pr_immediate_110 hf0 (fun r_22 u_21 H locs h hP hD hS => ?_)
          have hP : va_P D vwCl (wP qp qr qh qm qw qu qf ql qo cI ms mn u_21.1 u_21.2.1 u_21.2.2.1 u_21.2.2.2.1 u_21.2.2.2.2.1 u_21.2.2.2.2.2.1 u_21.2.2.2.2.2.2.1 u_21.2.2.2.2.2.2.2) H := hP.sub [0, 1, 2, 3, 4, 5, 6, 7, 8] rfl
          have hD : va_D A (wP qp qr qh qm qw qu qf ql qo cI ms mn u_21.1 u_21.2.1 u_21.2.2.1 u_21.2.2.2.1 u_21.2.2.2.2.1 u_21.2.2.2.2.2.1 u_21.2.2.2.2.2.2.1 u_21.2.2.2.2.2.2.2) := hD.sub [0, 1, 2, 3, 4, 5, 6, 7, 8] (by decide) rfl
          exact W.iret (v := r_22) hx hb hr (fun t ht hW => ⟨⟨r_22, (u_21.1, u_21.2.1, u_21.2.2.1, u_21.2.2.2.1, u_21.2.2.2.2.1, u_21.2.2.2.2.2.1, u_21.2.2.2.2.2.2.1, u_21.2.2.2.2.2.2.2), rfl, h, by rw [ht]; exact hP, hD⟩, hS.F ht⟩) hS.2.2 d_Pr_immediate_113
      · have h := h.2 c_15
        by_cases c_23 : r_4 = (11 : Int32)
        · have h := h.1 c_23
          have h0 := c_23
          refine lv_tableIn (off := 95) (tgt := 114) hx hb d_Pr_immediate_19 (by rw [h0]; decide) (by rw [h0]; decide) (by rw [h0]; rfl) (by decide) ?_
          refine lv_aload_n hx hb d_Pr_immediate_114 rfl (lv_at hl 2 rfl) ?_
          refine lv_iload_n hx hb d_Pr_immediate_115 rfl (lv_at hl 3 rfl) ?_
          refine zz_Si (As := [.int a0]) (rest := [.ref qp]) X (c_Pr_rt l a0 _ h) ⟨rfl, rfl⟩ m_Pr_rt k_Pr_89 ⟨Nat.le_of_ble_eq_true rfl, Nat.le_of_ble_eq_true rfl⟩ rfl hl.1 rfl (Nat.le_of_ble_eq_true rfl) d_Pr_immediate_116 hf0 (fun r_24 h => ?_)
          refine lv_iload_n hx hb d_Pr_immediate_119 rfl (lv_at hl 1 rfl) ?_
          refine zz_Sl (As := [.int x_2]) (rest := [.int r_24, .ref qp]) X (c_Pr_unsigned l x_2 _ h) ⟨rfl, rfl⟩ m_Pr_unsigned k_Pr_208 ⟨Nat.le_of_ble_eq_true rfl, Nat.le_of_ble_eq_true rfl⟩ rfl hl.1 rfl (Nat.le_of_ble_eq_true rfl) d_Pr_immediate_120 hf0 (fun r_25 h => ?_)
          refine lv_iload_n hx hb d_Pr_immediate_123 rfl (lv_at hl 3 rfl) ?_
          refine zz_Si (As := [.int a0]) (rest := [.long r_25, .int r_24, .ref qp]) X (c_Pr_signed l a0 _ h) ⟨rfl, rfl⟩ m_Pr_signed k_Pr_221 ⟨Nat.le_of_ble_eq_true rfl, Nat.le_of_ble_eq_true rfl⟩ rfl hl.1 rfl (Nat.le_of_ble_eq_true rfl) d_Pr_immediate_124 hf0 (fun r_26 h => ?_)
          refine zz_Sl (As := [.int r_26]) (rest := [.long r_25, .int r_24, .ref qp]) X (c_Pr_unsigned l r_26 _ h) ⟨rfl, rfl⟩ m_Pr_unsigned k_Pr_208 ⟨Nat.le_of_ble_eq_true rfl, Nat.le_of_ble_eq_true rfl⟩ rfl hl.1 rfl (Nat.le_of_ble_eq_true rfl) d_Pr_immediate_127 hf0 (fun r_27 h => ?_)
          refine W.lcmp hx hb d_Pr_immediate_130 ?_
          refine lv_if_ge (tgt := 138) hx hb d_Pr_immediate_131 (by decide) (fun c_28 => ?_) (fun c_28 => ?_)
          · have kc_28 := ((lg_cmp_ge _ _).mp c_28)
            have h := h.1 kc_28
            refine lv_iconst (v := 0) hx hb d_Pr_immediate_138 (by decide) ?_
            refine zz_Wi (As := [.int r_24, .int (0 : Int32)]) (rest := []) (wc := wP qp qr qh qm qw qu qf ql qo cI ms mn g rg hq mf cd fg L O) (wr := []) X hK hP hD hS hA (c_Pr_result l D cI qp qr qh qm qw qu qf ql qo ms mn g rg hq mf cd fg L O r_24 (0 : Int32) _ h _) ⟨rfl, rfl⟩ m_Pr_result k_Pr_161 ⟨Nat.le_of_ble_eq_true rfl, Nat.le_of_ble_eq_true rfl⟩ [0, 1, 2, 3, 4, 5, 6, 7, 8] [] rfl rfl (by decide) (by decide) (by decide) 4 0 rfl rfl rfl rfl hl.1 rfl (Nat.le_of_ble_eq_true rfl) d_Pr_immediate_139 hf0 (fun r_30 u_29 H locs h hP hD hS => ?_)
            have hP : va_P D vwCl (wP qp qr qh qm qw qu qf ql qo cI ms mn u_29.1 u_29.2.1 u_29.2.2.1 u_29.2.2.2.1 u_29.2.2.2.2.1 u_29.2.2.2.2.2.1 u_29.2.2.2.2.2.2.1 u_29.2.2.2.2.2.2.2) H := hP.sub [0, 1, 2, 3, 4, 5, 6, 7, 8] rfl
            have hD : va_D A (wP qp qr qh qm qw qu qf ql qo cI ms mn u_29.1 u_29.2.1 u_29.2.2.1 u_29.2.2.2.1 u_29.2.2.2.2.1 u_29.2.2.2.2.2.1 u_29.2.2.2.2.2.2.1 u_29.2.2.2.2.2.2.2) := hD.sub [0, 1, 2, 3, 4, 5, 6, 7, 8] (by decide) rfl
            exact W.iret (v := r_30) hx hb hr (fun t ht hW => ⟨⟨r_30, (u_29.1, u_29.2.1, u_29.2.2.1, u_29.2.2.2.1, u_29.2.2.2.2.1, u_29.2.2.2.2.2.1, u_29.2.2.2.2.2.2.1, u_29.2.2.2.2.2.2.2), rfl, h, by rw [ht]; exact hP, hD⟩, hS.F ht⟩) hS.2.2 d_Pr_immediate_142
          · have kc_28 := (fun q => c_28 ((lg_cmp_ge _ _).mpr q))
            have h := h.2 kc_28
            refine lv_iconst (v := 1) hx hb d_Pr_immediate_134 (by decide) ?_
            refine lv_goto (tgt := 139) hx hb d_Pr_immediate_135 (by decide) ?_
            refine zz_Wi (As := [.int r_24, .int (1 : Int32)]) (rest := []) (wc := wP qp qr qh qm qw qu qf ql qo cI ms mn g rg hq mf cd fg L O) (wr := []) X hK hP hD hS hA (c_Pr_result l D cI qp qr qh qm qw qu qf ql qo ms mn g rg hq mf cd fg L O r_24 (1 : Int32) _ h _) ⟨rfl, rfl⟩ m_Pr_result k_Pr_161 ⟨Nat.le_of_ble_eq_true rfl, Nat.le_of_ble_eq_true rfl⟩ [0, 1, 2, 3, 4, 5, 6, 7, 8] [] rfl rfl (by decide) (by decide) (by decide) 4 0 rfl rfl rfl rfl hl.1 rfl (Nat.le_of_ble_eq_true rfl) d_Pr_immediate_139 hf0 (fun r_32 u_31 H locs h hP hD hS => ?_)
            have hP : va_P D vwCl (wP qp qr qh qm qw qu qf ql qo cI ms mn u_31.1 u_31.2.1 u_31.2.2.1 u_31.2.2.2.1 u_31.2.2.2.2.1 u_31.2.2.2.2.2.1 u_31.2.2.2.2.2.2.1 u_31.2.2.2.2.2.2.2) H := hP.sub [0, 1, 2, 3, 4, 5, 6, 7, 8] rfl
            have hD : va_D A (wP qp qr qh qm qw qu qf ql qo cI ms mn u_31.1 u_31.2.1 u_31.2.2.1 u_31.2.2.2.1 u_31.2.2.2.2.1 u_31.2.2.2.2.2.1 u_31.2.2.2.2.2.2.1 u_31.2.2.2.2.2.2.2) := hD.sub [0, 1, 2, 3, 4, 5, 6, 7, 8] (by decide) rfl
            exact W.iret (v := r_32) hx hb hr (fun t ht hW => ⟨⟨r_32, (u_31.1, u_31.2.1, u_31.2.2.1, u_31.2.2.2.1, u_31.2.2.2.2.1, u_31.2.2.2.2.2.1, u_31.2.2.2.2.2.2.1, u_31.2.2.2.2.2.2.2), rfl, h, by rw [ht]; exact hP, hD⟩, hS.F ht⟩) hS.2.2 d_Pr_immediate_142
        · have h := h.2 c_23
          by_cases c_33 : r_4 = (12 : Int32)
          · have h := h.1 c_33
            have h0 := c_33
            refine lv_tableIn (off := 124) (tgt := 143) hx hb d_Pr_immediate_19 (by rw [h0]; decide) (by rw [h0]; decide) (by rw [h0]; rfl) (by decide) ?_
            refine lv_aload_n hx hb d_Pr_immediate_143 rfl (lv_at hl 2 rfl) ?_
            refine lv_iload_n hx hb d_Pr_immediate_144 rfl (lv_at hl 3 rfl) ?_
            refine zz_Si (As := [.int a0]) (rest := [.ref qp]) X (c_Pr_rt l a0 _ h) ⟨rfl, rfl⟩ m_Pr_rt k_Pr_89 ⟨Nat.le_of_ble_eq_true rfl, Nat.le_of_ble_eq_true rfl⟩ rfl hl.1 rfl (Nat.le_of_ble_eq_true rfl) d_Pr_immediate_145 hf0 (fun r_34 h => ?_)
            refine lv_iload_n hx hb d_Pr_immediate_148 rfl (lv_at hl 1 rfl) ?_
            refine lv_iload_n hx hb d_Pr_immediate_149 rfl (lv_at hl 0 rfl) ?_
            refine lv_iand hx hb d_Pr_immediate_150 ?_
            refine zz_Wi (As := [.int r_34, .int (x_2 &&& x_3)]) (rest := []) (wc := wP qp qr qh qm qw qu qf ql qo cI ms mn g rg hq mf cd fg L O) (wr := []) X hK hP hD hS hA (c_Pr_result l D cI qp qr qh qm qw qu qf ql qo ms mn g rg hq mf cd fg L O r_34 (x_2 &&& x_3) _ h _) ⟨rfl, rfl⟩ m_Pr_result k_Pr_161 ⟨Nat.le_of_ble_eq_true rfl, Nat.le_of_ble_eq_true rfl⟩ [0, 1, 2, 3, 4, 5, 6, 7, 8] [] rfl rfl (by decide) (by decide) (by decide) 4 0 rfl rfl rfl rfl hl.1 rfl (Nat.le_of_ble_eq_true rfl) d_Pr_immediate_151 hf0 (fun r_36 u_35 H locs h hP hD hS => ?_)
            have hP : va_P D vwCl (wP qp qr qh qm qw qu qf ql qo cI ms mn u_35.1 u_35.2.1 u_35.2.2.1 u_35.2.2.2.1 u_35.2.2.2.2.1 u_35.2.2.2.2.2.1 u_35.2.2.2.2.2.2.1 u_35.2.2.2.2.2.2.2) H := hP.sub [0, 1, 2, 3, 4, 5, 6, 7, 8] rfl
            have hD : va_D A (wP qp qr qh qm qw qu qf ql qo cI ms mn u_35.1 u_35.2.1 u_35.2.2.1 u_35.2.2.2.1 u_35.2.2.2.2.1 u_35.2.2.2.2.2.1 u_35.2.2.2.2.2.2.1 u_35.2.2.2.2.2.2.2) := hD.sub [0, 1, 2, 3, 4, 5, 6, 7, 8] (by decide) rfl
            exact W.iret (v := r_36) hx hb hr (fun t ht hW => ⟨⟨r_36, (u_35.1, u_35.2.1, u_35.2.2.1, u_35.2.2.2.1, u_35.2.2.2.2.1, u_35.2.2.2.2.2.1, u_35.2.2.2.2.2.2.1, u_35.2.2.2.2.2.2.2), rfl, h, by rw [ht]; exact hP, hD⟩, hS.F ht⟩) hS.2.2 d_Pr_immediate_154
          · have h := h.2 c_33
            by_cases c_37 : r_4 = (13 : Int32)
            · have h := h.1 c_37
              have h0 := c_37
              refine lv_tableIn (off := 136) (tgt := 155) hx hb d_Pr_immediate_19 (by rw [h0]; decide) (by rw [h0]; decide) (by rw [h0]; rfl) (by decide) ?_
              refine lv_aload_n hx hb d_Pr_immediate_155 rfl (lv_at hl 2 rfl) ?_
              refine lv_iload_n hx hb d_Pr_immediate_156 rfl (lv_at hl 3 rfl) ?_
              refine zz_Si (As := [.int a0]) (rest := [.ref qp]) X (c_Pr_rt l a0 _ h) ⟨rfl, rfl⟩ m_Pr_rt k_Pr_89 ⟨Nat.le_of_ble_eq_true rfl, Nat.le_of_ble_eq_true rfl⟩ rfl hl.1 rfl (Nat.le_of_ble_eq_true rfl) d_Pr_immediate_157 hf0 (fun r_38 h => ?_)
              refine lv_iload_n hx hb d_Pr_immediate_160 rfl (lv_at hl 1 rfl) ?_
              refine lv_iload_n hx hb d_Pr_immediate_161 rfl (lv_at hl 0 rfl) ?_
              refine lv_ior hx hb d_Pr_immediate_162 ?_
              refine zz_Wi (As := [.int r_38, .int (x_2 ||| x_3)]) (rest := []) (wc := wP qp qr qh qm qw qu qf ql qo cI ms mn g rg hq mf cd fg L O) (wr := []) X hK hP hD hS hA (c_Pr_result l D cI qp qr qh qm qw qu qf ql qo ms mn g rg hq mf cd fg L O r_38 (x_2 ||| x_3) _ h _) ⟨rfl, rfl⟩ m_Pr_result k_Pr_161 ⟨Nat.le_of_ble_eq_true rfl, Nat.le_of_ble_eq_true rfl⟩ [0, 1, 2, 3, 4, 5, 6, 7, 8] [] rfl rfl (by decide) (by decide) (by decide) 4 0 rfl rfl rfl rfl hl.1 rfl (Nat.le_of_ble_eq_true rfl) d_Pr_immediate_163 hf0 (fun r_40 u_39 H locs h hP hD hS => ?_)
              have hP : va_P D vwCl (wP qp qr qh qm qw qu qf ql qo cI ms mn u_39.1 u_39.2.1 u_39.2.2.1 u_39.2.2.2.1 u_39.2.2.2.2.1 u_39.2.2.2.2.2.1 u_39.2.2.2.2.2.2.1 u_39.2.2.2.2.2.2.2) H := hP.sub [0, 1, 2, 3, 4, 5, 6, 7, 8] rfl
              have hD : va_D A (wP qp qr qh qm qw qu qf ql qo cI ms mn u_39.1 u_39.2.1 u_39.2.2.1 u_39.2.2.2.1 u_39.2.2.2.2.1 u_39.2.2.2.2.2.1 u_39.2.2.2.2.2.2.1 u_39.2.2.2.2.2.2.2) := hD.sub [0, 1, 2, 3, 4, 5, 6, 7, 8] (by decide) rfl
              exact W.iret (v := r_40) hx hb hr (fun t ht hW => ⟨⟨r_40, (u_39.1, u_39.2.1, u_39.2.2.1, u_39.2.2.2.1, u_39.2.2.2.2.1, u_39.2.2.2.2.2.1, u_39.2.2.2.2.2.2.1, u_39.2.2.2.2.2.2.2), rfl, h, by rw [ht]; exact hP, hD⟩, hS.F ht⟩) hS.2.2 d_Pr_immediate_166
            · have h := h.2 c_37
              by_cases c_41 : r_4 = (14 : Int32)
              · have h := h.1 c_41
                have h0 := c_41
                refine lv_tableIn (off := 148) (tgt := 167) hx hb d_Pr_immediate_19 (by rw [h0]; decide) (by rw [h0]; decide) (by rw [h0]; rfl) (by decide) ?_
                refine lv_aload_n hx hb d_Pr_immediate_167 rfl (lv_at hl 2 rfl) ?_
                refine lv_iload_n hx hb d_Pr_immediate_168 rfl (lv_at hl 3 rfl) ?_
                refine zz_Si (As := [.int a0]) (rest := [.ref qp]) X (c_Pr_rt l a0 _ h) ⟨rfl, rfl⟩ m_Pr_rt k_Pr_89 ⟨Nat.le_of_ble_eq_true rfl, Nat.le_of_ble_eq_true rfl⟩ rfl hl.1 rfl (Nat.le_of_ble_eq_true rfl) d_Pr_immediate_169 hf0 (fun r_42 h => ?_)
                refine lv_iload_n hx hb d_Pr_immediate_172 rfl (lv_at hl 1 rfl) ?_
                refine lv_iload_n hx hb d_Pr_immediate_173 rfl (lv_at hl 0 rfl) ?_
                refine lv_ixor hx hb d_Pr_immediate_174 ?_
                refine zz_Wi (As := [.int r_42, .int (x_2 ^^^ x_3)]) (rest := []) (wc := wP qp qr qh qm qw qu qf ql qo cI ms mn g rg hq mf cd fg L O) (wr := []) X hK hP hD hS hA (c_Pr_result l D cI qp qr qh qm qw qu qf ql qo ms mn g rg hq mf cd fg L O r_42 (x_2 ^^^ x_3) _ h _) ⟨rfl, rfl⟩ m_Pr_result k_Pr_161 ⟨Nat.le_of_ble_eq_true rfl, Nat.le_of_ble_eq_true rfl⟩ [0, 1, 2, 3, 4, 5, 6, 7, 8] [] rfl rfl (by decide) (by decide) (by decide) 4 0 rfl rfl rfl rfl hl.1 rfl (Nat.le_of_ble_eq_true rfl) d_Pr_immediate_175 hf0 (fun r_44 u_43 H locs h hP hD hS => ?_)
                have hP : va_P D vwCl (wP qp qr qh qm qw qu qf ql qo cI ms mn u_43.1 u_43.2.1 u_43.2.2.1 u_43.2.2.2.1 u_43.2.2.2.2.1 u_43.2.2.2.2.2.1 u_43.2.2.2.2.2.2.1 u_43.2.2.2.2.2.2.2) H := hP.sub [0, 1, 2, 3, 4, 5, 6, 7, 8] rfl
                have hD : va_D A (wP qp qr qh qm qw qu qf ql qo cI ms mn u_43.1 u_43.2.1 u_43.2.2.1 u_43.2.2.2.1 u_43.2.2.2.2.1 u_43.2.2.2.2.2.1 u_43.2.2.2.2.2.2.1 u_43.2.2.2.2.2.2.2) := hD.sub [0, 1, 2, 3, 4, 5, 6, 7, 8] (by decide) rfl
                exact W.iret (v := r_44) hx hb hr (fun t ht hW => ⟨⟨r_44, (u_43.1, u_43.2.1, u_43.2.2.1, u_43.2.2.2.1, u_43.2.2.2.2.1, u_43.2.2.2.2.2.1, u_43.2.2.2.2.2.2.1, u_43.2.2.2.2.2.2.2), rfl, h, by rw [ht]; exact hP, hD⟩, hS.F ht⟩) hS.2.2 d_Pr_immediate_178
              · have h := h.2 c_41
                refine zz_swD (tgt := 179) hx hb [8, 9, 10, 11, 12, 13, 14] d_Pr_immediate_19 (by decide +kernel) (by decide) (List.forall_mem_cons.mpr ⟨lv_neT (k := 8) c_5 (by decide), List.forall_mem_cons.mpr ⟨lv_neT (k := 9) c_10 (by decide), List.forall_mem_cons.mpr ⟨lv_neT (k := 10) c_15 (by decide), List.forall_mem_cons.mpr ⟨lv_neT (k := 11) c_23 (by decide), List.forall_mem_cons.mpr ⟨lv_neT (k := 12) c_33 (by decide), List.forall_mem_cons.mpr ⟨lv_neT (k := 13) c_37 (by decide), List.forall_mem_cons.mpr ⟨lv_neT (k := 14) c_41 (by decide), fun _ h9 => nomatch h9⟩⟩⟩⟩⟩⟩⟩) (by decide) ?_
                refine lv_aload_n hx hb d_Pr_immediate_179 rfl (lv_at hl 2 rfl) ?_
                refine lv_iload_n hx hb d_Pr_immediate_180 rfl (lv_at hl 3 rfl) ?_
                refine zz_Si (As := [.int a0]) (rest := [.ref qp]) X (c_Pr_rt l a0 _ h) ⟨rfl, rfl⟩ m_Pr_rt k_Pr_89 ⟨Nat.le_of_ble_eq_true rfl, Nat.le_of_ble_eq_true rfl⟩ rfl hl.1 rfl (Nat.le_of_ble_eq_true rfl) d_Pr_immediate_181 hf0 (fun r_45 h => ?_)
                refine lv_iload_n hx hb d_Pr_immediate_184 rfl (lv_at hl 0 rfl) ?_
                refine lv_bipush (v := 16) hx hb d_Pr_immediate_185 (by decide) ?_
                refine zz_ishl hx hb d_Pr_immediate_187 ?_
                refine zz_Wi (As := [.int r_45, .int (zz_shl x_3 (16 : Int32))]) (rest := []) (wc := wP qp qr qh qm qw qu qf ql qo cI ms mn g rg hq mf cd fg L O) (wr := []) X hK hP hD hS hA (c_Pr_result l D cI qp qr qh qm qw qu qf ql qo ms mn g rg hq mf cd fg L O r_45 (zz_shl x_3 (16 : Int32)) _ h _) ⟨rfl, rfl⟩ m_Pr_result k_Pr_161 ⟨Nat.le_of_ble_eq_true rfl, Nat.le_of_ble_eq_true rfl⟩ [0, 1, 2, 3, 4, 5, 6, 7, 8] [] rfl rfl (by decide) (by decide) (by decide) 4 0 rfl rfl rfl rfl hl.1 rfl (Nat.le_of_ble_eq_true rfl) d_Pr_immediate_188 hf0 (fun r_47 u_46 H locs h hP hD hS => ?_)
                have hP : va_P D vwCl (wP qp qr qh qm qw qu qf ql qo cI ms mn u_46.1 u_46.2.1 u_46.2.2.1 u_46.2.2.2.1 u_46.2.2.2.2.1 u_46.2.2.2.2.2.1 u_46.2.2.2.2.2.2.1 u_46.2.2.2.2.2.2.2) H := hP.sub [0, 1, 2, 3, 4, 5, 6, 7, 8] rfl
                have hD : va_D A (wP qp qr qh qm qw qu qf ql qo cI ms mn u_46.1 u_46.2.1 u_46.2.2.1 u_46.2.2.2.1 u_46.2.2.2.2.1 u_46.2.2.2.2.2.1 u_46.2.2.2.2.2.2.1 u_46.2.2.2.2.2.2.2) := hD.sub [0, 1, 2, 3, 4, 5, 6, 7, 8] (by decide) rfl
                exact W.iret (v := r_47) hx hb hr (fun t ht hW => ⟨⟨r_47, (u_46.1, u_46.2.1, u_46.2.2.1, u_46.2.2.2.1, u_46.2.2.2.2.1, u_46.2.2.2.2.2.1, u_46.2.2.2.2.2.2.1, u_46.2.2.2.2.2.2.2), rfl, h, by rw [ht]; exact hP, hD⟩, hS.F ht⟩) hS.2.2 d_Pr_immediate_191
