def wj_Md_times_74 (ms : Int32) (a0 : Int32) (dd : Nat → Int32) (Lwhole : Int64) (Lwhole2 : Int64) (bm : Nat → Int32) (rr : Nat → Int32) (kt : Nat → Int32) (P : Int64 → Prop) (j74_2 : Int32) : Prop := wp_Md_signed j74_2 a0 (0 : Int64) (fun r_1 => P r_1)
def wj_Md_times_47 (ms : Int32) (a0 : Int32) (dd : Nat → Int32) (Lwhole : Int64) (Lwhole2 : Int64) (bm : Nat → Int32) (rr : Nat → Int32) (kt : Nat → Int32) (P : Int64 → Prop)  : Prop := wp_Md_noNumber a0 (fun r_2 => P r_2)
def wj_Md_times_33 (ms : Int32) (a0 : Int32) (dd : Nat → Int32) (Lwhole : Int64) (Lwhole2 : Int64) (bm : Nat → Int32) (rr : Nat → Int32) (kt : Nat → Int32) (P : Int64 → Prop) (j33_2 : Int32) : Prop := (((dd 14) = (0 : Int32) → wj_Md_times_47 ms a0 dd Lwhole Lwhole2 bm rr kt P) ∧ (¬ (dd 14) = (0 : Int32) → (((dd 16) = (0 : Int32) → wj_Md_times_47 ms a0 dd Lwhole Lwhole2 bm rr kt P) ∧ (¬ (dd 16) = (0 : Int32) → wp_Md_endless j33_2 a0 (fun r_5 => P r_5)))))
def wj_Md_times_146 (ms : Int32) (a0 : Int32) (dd : Nat → Int32) (Lwhole : Int64) (Lwhole2 : Int64) (bm : Nat → Int32) (rr : Nat → Int32) (kt : Nat → Int32) (P : Int64 → Prop) (kk : Int32 → Int32 → Int64 → Int64 → Int32 → Prop) (j146_2 : Int32) (j146_3 : Int64) (j146_5 : Int64) (j146_8 : Int32) (s146_0 : Int32) : Prop := ∀ x_10 : Int64, x_10 = (zz_lshr j146_3 (1 : Int32)) → ∀ x_11 : Int32, x_11 = j146_8 + 1 → kk x_11 s146_0 j146_5 x_10 j146_2
def wj_Md_times_141 (ms : Int32) (a0 : Int32) (dd : Nat → Int32) (Lwhole : Int64) (Lwhole2 : Int64) (bm : Nat → Int32) (rr : Nat → Int32) (kt : Nat → Int32) (P : Int64 → Prop) (kk : Int32 → Int32 → Int64 → Int64 → Int32 → Prop) (j141_2 : Int32) (j141_3 : Int64) (j141_5 : Int64) (j141_8 : Int32) : Prop := wj_Md_times_146 ms a0 dd Lwhole Lwhole2 bm rr kt P kk j141_2 j141_3 j141_5 j141_8 (1 : Int32)
def wj_Md_times_121 (ms : Int32) (a0 : Int32) (dd : Nat → Int32) (Lwhole : Int64) (Lwhole2 : Int64) (bm : Nat → Int32) (rr : Nat → Int32) (kt : Nat → Int32) (P : Int64 → Prop) (kk : Int32 → Int32 → Int64 → Int64 → Int32 → Prop) (j121_2 : Int32) (j121_3 : Int64) (j121_5 : Int64) (j121_7 : Int32) (j121_8 : Int32) : Prop := (((44 : Int32) ≤ j121_8 → (((52 : Int32) ≤ j121_8 → ∀ x_14 : Int32, x_14 = j121_8 + 1 → kk x_14 j121_7 j121_5 j121_3 j121_2) ∧ (¬ (52 : Int32) ≤ j121_8 → ∀ x_15 : Int64, x_15 = (zz_lshl j121_5 (1 : Int32)) → ∀ x_16 : Int32, x_16 = j121_8 + 1 → kk x_16 j121_7 x_15 j121_3 j121_2))) ∧ (¬ (44 : Int32) ≤ j121_8 → ((j121_7 = (0 : Int32) → (((j121_3 &&& (1 : Int64)) = (1 : Int64) → wj_Md_times_141 ms a0 dd Lwhole Lwhole2 bm rr kt P kk j121_2 j121_3 j121_5 j121_8) ∧ (¬ (j121_3 &&& (1 : Int64)) = (1 : Int64) → wj_Md_times_146 ms a0 dd Lwhole Lwhole2 bm rr kt P kk j121_2 j121_3 j121_5 j121_8 (0 : Int32)))) ∧ (¬ j121_7 = (0 : Int32) → wj_Md_times_141 ms a0 dd Lwhole Lwhole2 bm rr kt P kk j121_2 j121_3 j121_5 j121_8))))
def wl_Md_times_95 (ms : Int32) (a0 : Int32) (dd : Nat → Int32) (Lwhole : Int64) (Lwhole2 : Int64) (bm : Nat → Int32) (rr : Nat → Int32) (kt : Nat → Int32) (P : Int64 → Prop) : Nat → Int32 → Int32 → Int64 → Int64 → Int32 → Prop
  | 0, _, _, _, _, _ => False
  | n + 1, v8, v7, v5, v3, v2 => (((53 : Int32) ≤ v8 → ∀ x_20 : Int32, x_20 = (((dd 15) + (dd 17)) + (44 : Int32)) → wp_Md_rounded v2 v3 x_20 v7 a0 (fun r_21 => P r_21)) ∧ (¬ (53 : Int32) ≤ v8 → ∀ x_22 : Int64, x_22 = ((zz_lshr Lwhole2 v8) &&& (1 : Int64)) → ((x_22 = (1 : Int64) → ∀ x_24 : Int64, x_24 = (v3 + v5) → wj_Md_times_121 ms a0 dd Lwhole Lwhole2 bm rr kt P (wl_Md_times_95 ms a0 dd Lwhole Lwhole2 bm rr kt P n) v2 x_24 v5 v7 v8) ∧ (¬ x_22 = (1 : Int64) → wj_Md_times_121 ms a0 dd Lwhole Lwhole2 bm rr kt P (wl_Md_times_95 ms a0 dd Lwhole Lwhole2 bm rr kt P n) v2 v3 v5 v7 v8))))
def wj_Md_times_16 (ms : Int32) (a0 : Int32) (dd : Nat → Int32) (Lwhole : Int64) (Lwhole2 : Int64) (bm : Nat → Int32) (rr : Nat → Int32) (kt : Nat → Int32) (P : Int64 → Prop) (s16_0 : Int32) : Prop := (((dd 14) = (2 : Int32) → wj_Md_times_33 ms a0 dd Lwhole Lwhole2 bm rr kt P s16_0) ∧ (¬ (dd 14) = (2 : Int32) → (((dd 16) = (2 : Int32) → wj_Md_times_33 ms a0 dd Lwhole Lwhole2 bm rr kt P s16_0) ∧ (¬ (dd 16) = (2 : Int32) → (((dd 14) = (0 : Int32) → wj_Md_times_74 ms a0 dd Lwhole Lwhole2 bm rr kt P s16_0) ∧ (¬ (dd 14) = (0 : Int32) → (((dd 16) = (0 : Int32) → wj_Md_times_74 ms a0 dd Lwhole Lwhole2 bm rr kt P s16_0) ∧ (¬ (dd 16) = (0 : Int32) → ∃ n, wl_Md_times_95 ms a0 dd Lwhole Lwhole2 bm rr kt P n (0 : Int32) (0 : Int32) Lwhole (0 : Int64) s16_0))))))))
def wp_Md_times (ms : Int32) (dd : Nat → Int32) (Lwhole : Int64) (Lwhole2 : Int64) (bm : Nat → Int32) (rr : Nat → Int32) (kt : Nat → Int32) (a0 : Int32) (P : Int64 → Prop) : Prop := (((dd 18) = (dd 19) → wj_Md_times_16 ms a0 dd Lwhole Lwhole2 bm rr kt P (0 : Int32)) ∧ (¬ (dd 18) = (dd 19) → wj_Md_times_16 ms a0 dd Lwhole Lwhole2 bm rr kt P (1 : Int32)))
abbrev rm_Md_times : Room := { frames := 3, cells := 0, slots := 0, locals := 84 }
set_option maxHeartbeats 4000000 in
set_option maxRecDepth 100000 in
theorem c_Md_times (l : Launch) (D : va_G) (cI : ClassId) (cB : ClassId) (qd : Nat) (qmemory : Nat) (qr : Nat) (qcounts : Nat) (ms : Int32) (dd : Nat → Int32) (Lwhole : Int64) (Lwhole2 : Int64) (bm : Nat → Int32) (rr : Nat → Int32) (kt : Nat → Int32) (a0 : Int32) (P : Int64 → Prop) (h : wp_Md_times ms dd Lwhole Lwhole2 bm rr kt a0 P) : Met l y_Md_times (zz_ws y_Md_times b_Md_times 9 (some .long)) rm_Md_times (va_Pc [.ref qd, .int a0] (zz_pr D [(cI, .int), (cB, .byte)] (wD qd qmemory qr qcounts cI cB ms dd Lwhole Lwhole2 bm rr kt))) (vp_Sl P) 0 0 (fun _ => False) := by
  refine Met.ofW (cc := b_Md_times) (maxL := 9) (ret := (some .long)) (by decide) rfl ?_
  intro p e s m args below meth c s₁ B hml hv
  obtain ⟨rfl, hP, hK⟩ := hv
  have hx := B.exec
  have hb := B.bytes
  have hr := B.returns
  have hts := atoms_spec (ws := (zz_ws y_Md_times b_Md_times 9 (some .long))) B.pre
  have hown : s.vm.findClass R_Md = some m.cls := findClass_of_methodNamed B.named
  have hlocks := B.notSynchronized
  have hT := zz_hts hts
  have X : CallFix p m c b_Md_times 9 s ([.ref qd, .int a0] : List Value).toArray (zz_ws y_Md_times b_Md_times 9 (some .long)) R_Md := ⟨hx, hb, hml, hown, hts⟩
  have hf0 : 0 + 0 ≤ (headSpec (zz_ws y_Md_times b_Md_times 9 (some .long)) rm_Md_times).room.cells ∧ 0 + 0 ≤ (headSpec (zz_ws y_Md_times b_Md_times 9 (some .long)) rm_Md_times).room.slots := ⟨Nat.le_of_ble_eq_true rfl, Nat.le_of_ble_eq_true rfl⟩
  have hl := lv_entry ([.ref qd, .int a0]) (n := 9) (Nat.le_of_ble_eq_true rfl)
  rw [lg_entry_eq]
  generalize (lg_sl ([.ref qd, .int a0]) ++ List.replicate (9 - (lg_sl ([.ref qd, .int a0])).length) Slot.unset).toArray = ls at hl ⊢
  have hl : lv_has ls 9 [(0, .ref qd), (1, .int a0)] := hl
  have jn_74 : ∀ (j74_2 : Int32), wj_Md_times_74 ms a0 dd Lwhole Lwhole2 bm rr kt P j74_2 → ∀ ls : Array Slot, lv_has ls 9 [(1, .int a0), (2, .int j74_2)] → W p l e (headSpec (zz_ws y_Md_times b_Md_times 9 (some .long)) rm_Md_times).room s m ([.ref qd, .int a0] : List Value).toArray below meth c s.heap [] 0 0 (MQ below (vp_Sl P) ([.ref qd, .int a0] : List Value).toArray s 0 0 (fun _ => False)) (F0 m 74 ls []) := by
    intro j74_2 h ls hl
    unfold wj_Md_times_74 at h
    refine lv_iload_n hx hb d_Md_times_74 rfl (lv_at hl 1 rfl) ?_
    refine lv_iload_n hx hb d_Md_times_75 rfl (lv_at hl 0 rfl) ?_
    refine lv_lconst (v := 0) hx hb d_Md_times_76 (by decide) ?_
    refine zz_Sl (As := [.int j74_2, .int a0, .long (0 : Int64)]) (rest := []) X (c_Md_signed l j74_2 a0 (0 : Int64) _ h) ⟨rfl, rfl⟩ m_Md_signed k_Md_229 ⟨Nat.le_of_ble_eq_true rfl, Nat.le_of_ble_eq_true rfl⟩ rfl hl.1 rfl (Nat.le_of_ble_eq_true rfl) d_Md_times_77 hf0 (fun r_1 h => ?_)
    exact W.lret (v := r_1) hx hb hr (fun t ht hW => ⟨r_1,  rfl, h, ht⟩) t_nil d_Md_times_80
  have jn_47 : wj_Md_times_47 ms a0 dd Lwhole Lwhole2 bm rr kt P  → ∀ ls : Array Slot, lv_has ls 9 [(1, .int a0)] → W p l e (headSpec (zz_ws y_Md_times b_Md_times 9 (some .long)) rm_Md_times).room s m ([.ref qd, .int a0] : List Value).toArray below meth c s.heap [] 0 0 (MQ below (vp_Sl P) ([.ref qd, .int a0] : List Value).toArray s 0 0 (fun _ => False)) (F0 m 47 ls []) := by
    intro  h ls hl
    unfold wj_Md_times_47 at h
    refine lv_iload_n hx hb d_Md_times_47 rfl (lv_at hl 0 rfl) ?_
    refine zz_Sl (As := [.int a0]) (rest := []) X (c_Md_noNumber l a0 _ h) ⟨rfl, rfl⟩ m_Md_noNumber k_Md_297 ⟨Nat.le_of_ble_eq_true rfl, Nat.le_of_ble_eq_true rfl⟩ rfl hl.1 rfl (Nat.le_of_ble_eq_true rfl) d_Md_times_48 hf0 (fun r_2 h => ?_)
    refine lv_goto (tgt := 59) hx hb d_Md_times_51 (by decide) ?_
    exact W.lret (v := r_2) hx hb hr (fun t ht hW => ⟨r_2,  rfl, h, ht⟩) t_nil d_Md_times_59
  have jn_33 : ∀ (j33_2 : Int32), wj_Md_times_33 ms a0 dd Lwhole Lwhole2 bm rr kt P j33_2 → ∀ ls : Array Slot, lv_has ls 9 [(0, .ref qd), (1, .int a0), (2, .int j33_2)] → W p l e (headSpec (zz_ws y_Md_times b_Md_times 9 (some .long)) rm_Md_times).room s m ([.ref qd, .int a0] : List Value).toArray below meth c s.heap [] 0 0 (MQ below (vp_Sl P) ([.ref qd, .int a0] : List Value).toArray s 0 0 (fun _ => False)) (F0 m 33 ls []) := by
    intro j33_2 h ls hl
    unfold wj_Md_times_33 at h
    refine lv_aload_n hx hb d_Md_times_33 rfl (lv_at hl 0 rfl) ?_
    refine g_Md_210 (v := .int (dd 14)) hx hb hT hown hK hP 0 rfl rfl d_Md_times_34 ?_
    refine lv_if_eq (tgt := 47) hx hb d_Md_times_37 (by decide) (fun c_3 => ?_) (fun c_3 => ?_)
    · skip
      have h := h.1 c_3
      exact jn_47  h ls (lv_sub hl [1] rfl)
    · skip
      have h := h.2 c_3
      refine lv_aload_n hx hb d_Md_times_40 rfl (lv_at hl 0 rfl) ?_
      refine g_Md_213 (v := .int (dd 16)) hx hb hT hown hK hP 0 rfl rfl d_Md_times_41 ?_
      refine lv_if_ne (tgt := 54) hx hb d_Md_times_44 (by decide) (fun c_4 => ?_) (fun c_4 => ?_)
      · skip
        have h := h.2 c_4
        refine lv_iload_n hx hb d_Md_times_54 rfl (lv_at hl 2 rfl) ?_
        refine lv_iload_n hx hb d_Md_times_55 rfl (lv_at hl 1 rfl) ?_
        refine zz_Sl (As := [.int j33_2, .int a0]) (rest := []) X (c_Md_endless l j33_2 a0 _ h) ⟨rfl, rfl⟩ m_Md_endless k_Md_235 ⟨Nat.le_of_ble_eq_true rfl, Nat.le_of_ble_eq_true rfl⟩ rfl hl.1 rfl (Nat.le_of_ble_eq_true rfl) d_Md_times_56 hf0 (fun r_5 h => ?_)
        exact W.lret (v := r_5) hx hb hr (fun t ht hW => ⟨r_5,  rfl, h, ht⟩) t_nil d_Md_times_59
      · skip
        have h := h.1 c_4
        exact jn_47  h ls (lv_sub hl [1] rfl)
  have jn_16 : ∀ (s16_0 : Int32), wj_Md_times_16 ms a0 dd Lwhole Lwhole2 bm rr kt P s16_0 → ∀ ls : Array Slot, lv_has ls 9 [(0, .ref qd), (1, .int a0)] → W p l e (headSpec (zz_ws y_Md_times b_Md_times 9 (some .long)) rm_Md_times).room s m ([.ref qd, .int a0] : List Value).toArray below meth c s.heap [] 0 0 (MQ below (vp_Sl P) ([.ref qd, .int a0] : List Value).toArray s 0 0 (fun _ => False)) (F0 m 16 ls [.int s16_0]) := by
    intro s16_0 h ls hl
    unfold wj_Md_times_16 at h
    refine lv_istore_n (lv' := [(2, .int s16_0), (0, .ref qd), (1, .int a0)]) hx hb d_Md_times_16 rfl hl (by decide) rfl (fun ls hl => ?_)
    refine lv_aload_n hx hb d_Md_times_17 rfl (lv_at hl 1 rfl) ?_
    refine g_Md_210 (v := .int (dd 14)) hx hb hT hown hK hP 0 rfl rfl d_Md_times_18 ?_
    refine lv_iconst (v := 2) hx hb d_Md_times_21 (by decide) ?_
    refine lv_icmp_eq (tgt := 33) hx hb d_Md_times_22 (by decide) (fun c_6 => ?_) (fun c_6 => ?_)
    · skip
      have h := h.1 c_6
      exact jn_33 s16_0 h ls (lv_sub hl [1, 2, 0] rfl)
    · skip
      have h := h.2 c_6
      refine lv_aload_n hx hb d_Md_times_25 rfl (lv_at hl 1 rfl) ?_
      refine g_Md_213 (v := .int (dd 16)) hx hb hT hown hK hP 0 rfl rfl d_Md_times_26 ?_
      refine lv_iconst (v := 2) hx hb d_Md_times_29 (by decide) ?_
      refine lv_icmp_ne (tgt := 60) hx hb d_Md_times_30 (by decide) (fun c_7 => ?_) (fun c_7 => ?_)
      · skip
        have h := h.2 c_7
        refine lv_aload_n hx hb d_Md_times_60 rfl (lv_at hl 1 rfl) ?_
        refine g_Md_210 (v := .int (dd 14)) hx hb hT hown hK hP 0 rfl rfl d_Md_times_61 ?_
        refine lv_if_eq (tgt := 74) hx hb d_Md_times_64 (by decide) (fun c_8 => ?_) (fun c_8 => ?_)
        · skip
          have h := h.1 c_8
          exact jn_74 s16_0 h ls (lv_sub hl [2, 0] rfl)
        · skip
          have h := h.2 c_8
          refine lv_aload_n hx hb d_Md_times_67 rfl (lv_at hl 1 rfl) ?_
          refine g_Md_213 (v := .int (dd 16)) hx hb hT hown hK hP 0 rfl rfl d_Md_times_68 ?_
          refine lv_if_ne (tgt := 81) hx hb d_Md_times_71 (by decide) (fun c_9 => ?_) (fun c_9 => ?_)
          · skip
            have h := h.2 c_9
            refine lv_lconst (v := 0) hx hb d_Md_times_81 (by decide) ?_
            refine lv_lstore_n (lv' := [(3, .long (0 : Int64)), (2, .int s16_0), (0, .ref qd), (1, .int a0)]) hx hb d_Md_times_82 rfl hl (by decide) rfl (fun ls hl => ?_)
            refine lv_aload_n hx hb d_Md_times_83 rfl (lv_at hl 2 rfl) ?_
            refine g_Md_200 (v := .long Lwhole) hx hb hT hown hK hP 0 rfl rfl d_Md_times_84 ?_
            refine lv_lstore (lv' := [(5, .long Lwhole), (3, .long (0 : Int64)), (2, .int s16_0), (0, .ref qd), (1, .int a0)]) hx hb d_Md_times_87 hl (by decide) rfl (fun ls hl => ?_)
            refine lv_iconst (v := 0) hx hb d_Md_times_89 (by decide) ?_
            refine lv_istore (lv' := [(7, .int (0 : Int32)), (5, .long Lwhole), (3, .long (0 : Int64)), (2, .int s16_0), (0, .ref qd), (1, .int a0)]) hx hb d_Md_times_90 hl (by decide) rfl (fun ls hl => ?_)
            refine lv_iconst (v := 0) hx hb d_Md_times_92 (by decide) ?_
            refine lv_istore (lv' := [(8, .int (0 : Int32)), (7, .int (0 : Int32)), (5, .long Lwhole), (3, .long (0 : Int64)), (2, .int s16_0), (0, .ref qd), (1, .int a0)]) hx hb d_Md_times_93 hl (by decide) rfl (fun ls hl => ?_)
            have lp : ∀ (n : Nat) (v8 : Int32) (v7 : Int32) (v5 : Int64) (v3 : Int64) (v2 : Int32), wl_Md_times_95 ms a0 dd Lwhole Lwhole2 bm rr kt P n v8 v7 v5 v3 v2 → ∀ ls : Array Slot, lv_has ls 9 [(8, .int v8), (7, .int v7), (5, .long v5), (3, .long v3), (2, .int v2), (0, .ref qd), (1, .int a0)] → W p l e (headSpec (zz_ws y_Md_times b_Md_times 9 (some .long)) rm_Md_times).room s m ([.ref qd, .int a0] : List Value).toArray below meth c s.heap [] 0 0 (MQ below (vp_Sl P) ([.ref qd, .int a0] : List Value).toArray s 0 0 (fun _ => False)) (F0 m 95 ls []) := by
              intro n
              induction n with
              | zero =>
                intro v8 v7 v5 v3 v2 h
                exact False.elim h
              | succ n ih =>
                intro v8 v7 v5 v3 v2 h ls hl
                rw [wl_Md_times_95] at h
                have jn_146 : ∀ (j146_2 : Int32) (j146_3 : Int64) (j146_5 : Int64) (j146_8 : Int32) (s146_0 : Int32), wj_Md_times_146 ms a0 dd Lwhole Lwhole2 bm rr kt P (wl_Md_times_95 ms a0 dd Lwhole Lwhole2 bm rr kt P n) j146_2 j146_3 j146_5 j146_8 s146_0 → ∀ ls : Array Slot, lv_has ls 9 [(0, .ref qd), (1, .int a0), (2, .int j146_2), (3, .long j146_3), (5, .long j146_5), (8, .int j146_8)] → W p l e (headSpec (zz_ws y_Md_times b_Md_times 9 (some .long)) rm_Md_times).room s m ([.ref qd, .int a0] : List Value).toArray below meth c s.heap [] 0 0 (MQ below (vp_Sl P) ([.ref qd, .int a0] : List Value).toArray s 0 0 (fun _ => False)) (F0 m 146 ls [.int s146_0]) := by
                  intro j146_2 j146_3 j146_5 j146_8 s146_0 h ls hl
                  unfold wj_Md_times_146 at h
                  refine lv_istore (lv' := [(7, .int s146_0), (0, .ref qd), (1, .int a0), (2, .int j146_2), (3, .long j146_3), (5, .long j146_5), (8, .int j146_8)]) hx hb d_Md_times_146 hl (by decide) rfl (fun ls hl => ?_)
                  refine lv_lload_n hx hb d_Md_times_148 rfl (lv_at hl 4 rfl) ?_
                  refine lv_iconst (v := 1) hx hb d_Md_times_149 (by decide) ?_
                  refine zz_llshr hx hb d_Md_times_150 ?_
                  refine lv_topl (fun x_10 ex_10 => ?_)
                  have h := h x_10 ex_10
                  refine lv_lstore_n (lv' := [(3, .long x_10), (7, .int s146_0), (0, .ref qd), (1, .int a0), (2, .int j146_2), (5, .long j146_5), (8, .int j146_8)]) hx hb d_Md_times_151 rfl hl (by decide) rfl (fun ls hl => ?_)
                  refine lv_goto (tgt := 168) hx hb d_Md_times_152 (by decide) ?_
                  obtain ⟨x_11, ex_11⟩ : ∃ y : Int32, y = j146_8 + 1 := ⟨_, rfl⟩
                  have h := h x_11 ex_11
                  refine lv_iinc (v := x_11) (lv' := [(8, .int x_11), (3, .long x_10), (7, .int s146_0), (0, .ref qd), (1, .int a0), (2, .int j146_2), (5, .long j146_5)]) hx hb d_Md_times_168 hl (k := 6) rfl (by rw [ex_11]; rfl) (by decide) rfl (fun ls hl => ?_)
                  refine lv_goto (tgt := 95) hx hb d_Md_times_171 (by decide) ?_
                  exact ih x_11 s146_0 j146_5 x_10 j146_2 h ls (lv_sub hl [0, 2, 6, 1, 5, 3, 4] rfl)
                have jn_141 : ∀ (j141_2 : Int32) (j141_3 : Int64) (j141_5 : Int64) (j141_8 : Int32), wj_Md_times_141 ms a0 dd Lwhole Lwhole2 bm rr kt P (wl_Md_times_95 ms a0 dd Lwhole Lwhole2 bm rr kt P n) j141_2 j141_3 j141_5 j141_8 → ∀ ls : Array Slot, lv_has ls 9 [(0, .ref qd), (1, .int a0), (2, .int j141_2), (3, .long j141_3), (5, .long j141_5), (8, .int j141_8)] → W p l e (headSpec (zz_ws y_Md_times b_Md_times 9 (some .long)) rm_Md_times).room s m ([.ref qd, .int a0] : List Value).toArray below meth c s.heap [] 0 0 (MQ below (vp_Sl P) ([.ref qd, .int a0] : List Value).toArray s 0 0 (fun _ => False)) (F0 m 141 ls []) := by
                  intro j141_2 j141_3 j141_5 j141_8 h ls hl
                  unfold wj_Md_times_141 at h
                  refine lv_iconst (v := 1) hx hb d_Md_times_141 (by decide) ?_
                  refine lv_goto (tgt := 146) hx hb d_Md_times_142 (by decide) ?_
                  exact jn_146 j141_2 j141_3 j141_5 j141_8 (1 : Int32) h ls (lv_sub hl [0, 1, 2, 3, 4, 5] rfl)
                have jn_121 : ∀ (j121_2 : Int32) (j121_3 : Int64) (j121_5 : Int64) (j121_7 : Int32) (j121_8 : Int32), wj_Md_times_121 ms a0 dd Lwhole Lwhole2 bm rr kt P (wl_Md_times_95 ms a0 dd Lwhole Lwhole2 bm rr kt P n) j121_2 j121_3 j121_5 j121_7 j121_8 → ∀ ls : Array Slot, lv_has ls 9 [(0, .ref qd), (1, .int a0), (2, .int j121_2), (3, .long j121_3), (5, .long j121_5), (7, .int j121_7), (8, .int j121_8)] → W p l e (headSpec (zz_ws y_Md_times b_Md_times 9 (some .long)) rm_Md_times).room s m ([.ref qd, .int a0] : List Value).toArray below meth c s.heap [] 0 0 (MQ below (vp_Sl P) ([.ref qd, .int a0] : List Value).toArray s 0 0 (fun _ => False)) (F0 m 121 ls []) := by
                  intro j121_2 j121_3 j121_5 j121_7 j121_8 h ls hl
                  unfold wj_Md_times_121 at h
                  refine lv_iload hx hb d_Md_times_121 (lv_at hl 6 rfl) ?_
                  refine lv_bipush (v := 44) hx hb d_Md_times_123 (by decide) ?_
                  refine lv_icmp_ge (tgt := 155) hx hb d_Md_times_125 (by decide) (fun c_12 => ?_) (fun c_12 => ?_)
                  · skip
                    have h := h.1 c_12
                    refine lv_iload hx hb d_Md_times_155 (lv_at hl 6 rfl) ?_
                    refine lv_bipush (v := 52) hx hb d_Md_times_157 (by decide) ?_
                    refine lv_icmp_ge (tgt := 168) hx hb d_Md_times_159 (by decide) (fun c_13 => ?_) (fun c_13 => ?_)
                    · skip
                      have h := h.1 c_13
                      obtain ⟨x_14, ex_14⟩ : ∃ y : Int32, y = j121_8 + 1 := ⟨_, rfl⟩
                      have h := h x_14 ex_14
                      refine lv_iinc (v := x_14) (lv' := [(8, .int x_14), (0, .ref qd), (1, .int a0), (2, .int j121_2), (3, .long j121_3), (5, .long j121_5), (7, .int j121_7)]) hx hb d_Md_times_168 hl (k := 6) rfl (by rw [ex_14]; rfl) (by decide) rfl (fun ls hl => ?_)
                      refine lv_goto (tgt := 95) hx hb d_Md_times_171 (by decide) ?_
                      exact ih x_14 j121_7 j121_5 j121_3 j121_2 h ls (lv_sub hl [0, 6, 5, 4, 3, 1, 2] rfl)
                    · skip
                      have h := h.2 c_13
                      refine lv_lload hx hb d_Md_times_162 (lv_at hl 4 rfl) ?_
                      refine lv_iconst (v := 1) hx hb d_Md_times_164 (by decide) ?_
                      refine zz_llshl hx hb d_Md_times_165 ?_
                      refine lv_topl (fun x_15 ex_15 => ?_)
                      have h := h x_15 ex_15
                      refine lv_lstore (lv' := [(5, .long x_15), (0, .ref qd), (1, .int a0), (2, .int j121_2), (3, .long j121_3), (7, .int j121_7), (8, .int j121_8)]) hx hb d_Md_times_166 hl (by decide) rfl (fun ls hl => ?_)
                      obtain ⟨x_16, ex_16⟩ : ∃ y : Int32, y = j121_8 + 1 := ⟨_, rfl⟩
                      have h := h x_16 ex_16
                      refine lv_iinc (v := x_16) (lv' := [(8, .int x_16), (5, .long x_15), (0, .ref qd), (1, .int a0), (2, .int j121_2), (3, .long j121_3), (7, .int j121_7)]) hx hb d_Md_times_168 hl (k := 6) rfl (by rw [ex_16]; rfl) (by decide) rfl (fun ls hl => ?_)
                      refine lv_goto (tgt := 95) hx hb d_Md_times_171 (by decide) ?_
                      exact ih x_16 j121_7 x_15 j121_3 j121_2 h ls (lv_sub hl [0, 6, 1, 5, 4, 2, 3] rfl)
                  · skip
                    have h := h.2 c_12
                    refine lv_iload hx hb d_Md_times_128 (lv_at hl 5 rfl) ?_
                    refine lv_if_ne (tgt := 141) hx hb d_Md_times_130 (by decide) (fun c_17 => ?_) (fun c_17 => ?_)
                    · skip
                      have h := h.2 c_17
                      exact jn_141 j121_2 j121_3 j121_5 j121_8 h ls (lv_sub hl [0, 1, 2, 3, 4, 6] rfl)
                    · skip
                      have h := h.1 c_17
                      refine lv_lload_n hx hb d_Md_times_133 rfl (lv_at hl 3 rfl) ?_
                      refine lv_lconst (v := 1) hx hb d_Md_times_134 (by decide) ?_
                      refine lv_land hx hb d_Md_times_135 ?_
                      refine lv_lconst (v := 1) hx hb d_Md_times_136 (by decide) ?_
                      refine W.lcmp hx hb d_Md_times_137 ?_
                      refine lv_if_ne (tgt := 145) hx hb d_Md_times_138 (by decide) (fun c_18 => ?_) (fun c_18 => ?_)
                      · have kc_18 := (fun q => c_18 ((lg_cmp_eq _ _).mpr q))
                        have h := h.2 kc_18
                        refine lv_iconst (v := 0) hx hb d_Md_times_145 (by decide) ?_
                        exact jn_146 j121_2 j121_3 j121_5 j121_8 (0 : Int32) h ls (lv_sub hl [0, 1, 2, 3, 4, 6] rfl)
                      · have kc_18 := ((lg_cmp_eq _ _).mp c_18)
                        have h := h.1 kc_18
                        exact jn_141 j121_2 j121_3 j121_5 j121_8 h ls (lv_sub hl [0, 1, 2, 3, 4, 6] rfl)
                refine lv_iload hx hb d_Md_times_95 (lv_at hl 0 rfl) ?_
                refine lv_bipush (v := 53) hx hb d_Md_times_97 (by decide) ?_
                refine lv_icmp_ge (tgt := 174) hx hb d_Md_times_99 (by decide) (fun c_19 => ?_) (fun c_19 => ?_)
                · skip
                  have h := h.1 c_19
                  refine lv_iload_n hx hb d_Md_times_174 rfl (lv_at hl 4 rfl) ?_
                  refine lv_lload_n hx hb d_Md_times_175 rfl (lv_at hl 3 rfl) ?_
                  refine lv_aload_n hx hb d_Md_times_176 rfl (lv_at hl 5 rfl) ?_
                  refine g_Md_207 (v := .int (dd 15)) hx hb hT hown hK hP 0 rfl rfl d_Md_times_177 ?_
                  refine lv_aload_n hx hb d_Md_times_180 rfl (lv_at hl 5 rfl) ?_
                  refine g_Md_222 (v := .int (dd 17)) hx hb hT hown hK hP 0 rfl rfl d_Md_times_181 ?_
                  refine lv_iadd hx hb d_Md_times_184 ?_
                  refine lv_bipush (v := 44) hx hb d_Md_times_185 (by decide) ?_
                  refine lv_iadd hx hb d_Md_times_187 ?_
                  refine lv_topi (fun x_20 ex_20 => ?_)
                  have h := h x_20 ex_20
                  refine lv_iload hx hb d_Md_times_188 (lv_at hl 1 rfl) ?_
                  refine lv_iload_n hx hb d_Md_times_190 rfl (lv_at hl 6 rfl) ?_
                  refine zz_Sl (As := [.int v2, .long v3, .int x_20, .int v7, .int a0]) (rest := []) X (c_Md_rounded l v2 v3 x_20 v7 a0 _ h) ⟨rfl, rfl⟩ m_Md_rounded k_Md_246 ⟨Nat.le_of_ble_eq_true rfl, Nat.le_of_ble_eq_true rfl⟩ rfl hl.1 rfl (Nat.le_of_ble_eq_true rfl) d_Md_times_191 hf0 (fun r_21 h => ?_)
                  exact W.lret (v := r_21) hx hb hr (fun t ht hW => ⟨r_21,  rfl, h, ht⟩) t_nil d_Md_times_194
                · skip
                  have h := h.2 c_19
                  refine lv_aload_n hx hb d_Md_times_102 rfl (lv_at hl 5 rfl) ?_
                  refine g_Md_219 (v := .long Lwhole2) hx hb hT hown hK hP 0 rfl rfl d_Md_times_103 ?_
                  refine lv_iload hx hb d_Md_times_106 (lv_at hl 0 rfl) ?_
                  refine zz_llshr hx hb d_Md_times_108 ?_
                  refine lv_lconst (v := 1) hx hb d_Md_times_109 (by decide) ?_
                  refine lv_land hx hb d_Md_times_110 ?_
                  refine lv_topl (fun x_22 ex_22 => ?_)
                  have h := h x_22 ex_22
                  refine lv_lconst (v := 1) hx hb d_Md_times_111 (by decide) ?_
                  refine W.lcmp hx hb d_Md_times_112 ?_
                  refine lv_if_ne (tgt := 121) hx hb d_Md_times_113 (by decide) (fun c_23 => ?_) (fun c_23 => ?_)
                  · have kc_23 := (fun q => c_23 ((lg_cmp_eq _ _).mpr q))
                    have h := h.2 kc_23
                    exact jn_121 v2 v3 v5 v7 v8 h ls (lv_sub hl [5, 6, 4, 3, 2, 1, 0] rfl)
                  · have kc_23 := ((lg_cmp_eq _ _).mp c_23)
                    have h := h.1 kc_23
                    refine lv_lload_n hx hb d_Md_times_116 rfl (lv_at hl 3 rfl) ?_
                    refine lv_lload hx hb d_Md_times_117 (lv_at hl 2 rfl) ?_
                    refine lv_ladd hx hb d_Md_times_119 ?_
                    refine lv_topl (fun x_24 ex_24 => ?_)
                    have h := h x_24 ex_24
                    refine lv_lstore_n (lv' := [(3, .long x_24), (8, .int v8), (7, .int v7), (5, .long v5), (2, .int v2), (0, .ref qd), (1, .int a0)]) hx hb d_Md_times_120 rfl hl (by decide) rfl (fun ls hl => ?_)
                    exact jn_121 v2 x_24 v5 v7 v8 h ls (lv_sub hl [5, 6, 4, 0, 3, 2, 1] rfl)
            obtain ⟨n, h⟩ := h
            exact lp n (0 : Int32) (0 : Int32) Lwhole (0 : Int64) s16_0 h ls hl
          · skip
            have h := h.1 c_9
            exact jn_74 s16_0 h ls (lv_sub hl [2, 0] rfl)
      · skip
        have h := h.1 c_7
        exact jn_33 s16_0 h ls (lv_sub hl [1, 2, 0] rfl)
  refine lv_aload_n hx hb d_Md_times_0 rfl (lv_at hl 0 rfl) ?_
  refine g_Md_197 (v := .int (dd 18)) hx hb hT hown hK hP 0 rfl rfl d_Md_times_1 ?_
  refine lv_aload_n hx hb d_Md_times_4 rfl (lv_at hl 0 rfl) ?_
  refine g_Md_216 (v := .int (dd 19)) hx hb hT hown hK hP 0 rfl rfl d_Md_times_5 ?_
  refine lv_icmp_eq (tgt := 15) hx hb d_Md_times_8 (by decide) (fun c_25 => ?_) (fun c_25 => ?_)
  · skip
    have h := h.1 c_25
    refine lv_iconst (v := 0) hx hb d_Md_times_15 (by decide) ?_
    exact jn_16 (0 : Int32) h ls (lv_sub hl [0, 1] rfl)
  · skip
    have h := h.2 c_25
    refine lv_iconst (v := 1) hx hb d_Md_times_11 (by decide) ?_
    refine lv_goto (tgt := 16) hx hb d_Md_times_12 (by decide) ?_
    exact jn_16 (1 : Int32) h ls (lv_sub hl [0, 1] rfl)
def wj_Md_by_147 (ms : Int32) (a0 : Int32) (dd : Nat → Int32) (Lwhole : Int64) (Lwhole2 : Int64) (bm : Nat → Int32) (rr : Nat → Int32) (kt : Nat → Int32) (P : Int64 → Prop) (kk : Int32 → Int64 → Int64 → Int32 → Prop) (j147_2 : Int32) (j147_3 : Int64) (j147_5 : Int64) (j147_7 : Int32) : Prop := ∀ x_5 : Int64, x_5 = (zz_lshl j147_5 (1 : Int32)) → ∀ x_6 : Int32, x_6 = j147_7 + 1 → kk x_6 x_5 j147_3 j147_2
def wl_Md_by_113 (ms : Int32) (a0 : Int32) (dd : Nat → Int32) (Lwhole : Int64) (Lwhole2 : Int64) (bm : Nat → Int32) (rr : Nat → Int32) (kt : Nat → Int32) (P : Int64 → Prop) : Nat → Int32 → Int64 → Int64 → Int32 → Prop
  | 0, _, _, _, _ => False
  | n + 1, v7, v5, v3, v2 => (((60 : Int32) ≤ v7 → ∀ x_8 : Int32, x_8 = (((dd 15) - (dd 17)) - (59 : Int32)) → ((v5 ≤ (0 : Int64) → wp_Md_rounded v2 v3 x_8 (0 : Int32) a0 (fun r_10 => P r_10)) ∧ (¬ v5 ≤ (0 : Int64) → wp_Md_rounded v2 v3 x_8 (1 : Int32) a0 (fun r_11 => P r_11)))) ∧ (¬ (60 : Int32) ≤ v7 → ∀ x_12 : Int64, x_12 = (zz_lshl v3 (1 : Int32)) → ((v5 < Lwhole2 → wj_Md_by_147 ms a0 dd Lwhole Lwhole2 bm rr kt P (wl_Md_by_113 ms a0 dd Lwhole Lwhole2 bm rr kt P n) v2 x_12 v5 v7) ∧ (¬ v5 < Lwhole2 → ∀ x_14 : Int64, x_14 = (v5 - Lwhole2) → ∀ x_15 : Int64, x_15 = (x_12 ||| (1 : Int64)) → wj_Md_by_147 ms a0 dd Lwhole Lwhole2 bm rr kt P (wl_Md_by_113 ms a0 dd Lwhole Lwhole2 bm rr kt P n) v2 x_15 x_14 v7))))
def wj_Md_by_16 (ms : Int32) (a0 : Int32) (dd : Nat → Int32) (Lwhole : Int64) (Lwhole2 : Int64) (bm : Nat → Int32) (rr : Nat → Int32) (kt : Nat → Int32) (P : Int64 → Prop) (s16_0 : Int32) : Prop := (((dd 14) = (2 : Int32) → (((dd 16) = (2 : Int32) → wp_Md_noNumber a0 (fun r_23 => P r_23)) ∧ (¬ (dd 16) = (2 : Int32) → wp_Md_endless s16_0 a0 (fun r_22 => P r_22)))) ∧ (¬ (dd 14) = (2 : Int32) → (((dd 16) = (2 : Int32) → wp_Md_signed s16_0 a0 (0 : Int64) (fun r_20 => P r_20)) ∧ (¬ (dd 16) = (2 : Int32) → (((dd 16) = (0 : Int32) → (((dd 14) = (0 : Int32) → wp_Md_noNumber a0 (fun r_19 => P r_19)) ∧ (¬ (dd 14) = (0 : Int32) → wp_Md_endless s16_0 a0 (fun r_18 => P r_18)))) ∧ (¬ (dd 16) = (0 : Int32) → (((dd 14) = (0 : Int32) → wp_Md_signed s16_0 a0 (0 : Int64) (fun r_16 => P r_16)) ∧ (¬ (dd 14) = (0 : Int32) → ∃ n, wl_Md_by_113 ms a0 dd Lwhole Lwhole2 bm rr kt P n (0 : Int32) Lwhole (0 : Int64) s16_0))))))))
def wp_Md_by (ms : Int32) (dd : Nat → Int32) (Lwhole : Int64) (Lwhole2 : Int64) (bm : Nat → Int32) (rr : Nat → Int32) (kt : Nat → Int32) (a0 : Int32) (P : Int64 → Prop) : Prop := (((dd 18) = (dd 19) → wj_Md_by_16 ms a0 dd Lwhole Lwhole2 bm rr kt P (0 : Int32)) ∧ (¬ (dd 18) = (dd 19) → wj_Md_by_16 ms a0 dd Lwhole Lwhole2 bm rr kt P (1 : Int32)))
abbrev rm_Md_by : Room := { frames := 3, cells := 0, slots := 0, locals := 84 }
set_option maxHeartbeats 4000000 in
set_option maxRecDepth 100000 in
theorem c_Md_by (l : Launch) (D : va_G) (cI : ClassId) (cB : ClassId) (qd : Nat) (qmemory : Nat) (qr : Nat) (qcounts : Nat) (ms : Int32) (dd : Nat → Int32) (Lwhole : Int64) (Lwhole2 : Int64) (bm : Nat → Int32) (rr : Nat → Int32) (kt : Nat → Int32) (a0 : Int32) (P : Int64 → Prop) (h : wp_Md_by ms dd Lwhole Lwhole2 bm rr kt a0 P) : Met l y_Md_by (zz_ws y_Md_by b_Md_by 8 (some .long)) rm_Md_by (va_Pc [.ref qd, .int a0] (zz_pr D [(cI, .int), (cB, .byte)] (wD qd qmemory qr qcounts cI cB ms dd Lwhole Lwhole2 bm rr kt))) (vp_Sl P) 0 0 (fun _ => False) := by
  refine Met.ofW (cc := b_Md_by) (maxL := 8) (ret := (some .long)) (by decide) rfl ?_
  intro p e s m args below meth c s₁ B hml hv
  obtain ⟨rfl, hP, hK⟩ := hv
  have hx := B.exec
  have hb := B.bytes
  have hr := B.returns
  have hts := atoms_spec (ws := (zz_ws y_Md_by b_Md_by 8 (some .long))) B.pre
  have hown : s.vm.findClass R_Md = some m.cls := findClass_of_methodNamed B.named
  have hlocks := B.notSynchronized
  have hT := zz_hts hts
  have X : CallFix p m c b_Md_by 8 s ([.ref qd, .int a0] : List Value).toArray (zz_ws y_Md_by b_Md_by 8 (some .long)) R_Md := ⟨hx, hb, hml, hown, hts⟩
  have hf0 : 0 + 0 ≤ (headSpec (zz_ws y_Md_by b_Md_by 8 (some .long)) rm_Md_by).room.cells ∧ 0 + 0 ≤ (headSpec (zz_ws y_Md_by b_Md_by 8 (some .long)) rm_Md_by).room.slots := ⟨Nat.le_of_ble_eq_true rfl, Nat.le_of_ble_eq_true rfl⟩
  have hl := lv_entry ([.ref qd, .int a0]) (n := 8) (Nat.le_of_ble_eq_true rfl)
  rw [lg_entry_eq]
  generalize (lg_sl ([.ref qd, .int a0]) ++ List.replicate (8 - (lg_sl ([.ref qd, .int a0])).length) Slot.unset).toArray = ls at hl ⊢
  have hl : lv_has ls 8 [(0, .ref qd), (1, .int a0)] := hl
  have jn_16 : ∀ (s16_0 : Int32), wj_Md_by_16 ms a0 dd Lwhole Lwhole2 bm rr kt P s16_0 → ∀ ls : Array Slot, lv_has ls 8 [(0, .ref qd), (1, .int a0)] → W p l e (headSpec (zz_ws y_Md_by b_Md_by 8 (some .long)) rm_Md_by).room s m ([.ref qd, .int a0] : List Value).toArray below meth c s.heap [] 0 0 (MQ below (vp_Sl P) ([.ref qd, .int a0] : List Value).toArray s 0 0 (fun _ => False)) (F0 m 16 ls [.int s16_0]) := by
    intro s16_0 h ls hl
    unfold wj_Md_by_16 at h
    refine lv_istore_n (lv' := [(2, .int s16_0), (0, .ref qd), (1, .int a0)]) hx hb d_Md_by_16 rfl hl (by decide) rfl (fun ls hl => ?_)
    refine lv_aload_n hx hb d_Md_by_17 rfl (lv_at hl 1 rfl) ?_
    refine g_Md_210 (v := .int (dd 14)) hx hb hT hown hK hP 0 rfl rfl d_Md_by_18 ?_
    refine lv_iconst (v := 2) hx hb d_Md_by_21 (by decide) ?_
    refine lv_icmp_ne (tgt := 46) hx hb d_Md_by_22 (by decide) (fun c_1 => ?_) (fun c_1 => ?_)
    · skip
      have h := h.2 c_1
      refine lv_aload_n hx hb d_Md_by_46 rfl (lv_at hl 1 rfl) ?_
      refine g_Md_213 (v := .int (dd 16)) hx hb hT hown hK hP 0 rfl rfl d_Md_by_47 ?_
      refine lv_iconst (v := 2) hx hb d_Md_by_50 (by decide) ?_
      refine lv_icmp_ne (tgt := 61) hx hb d_Md_by_51 (by decide) (fun c_2 => ?_) (fun c_2 => ?_)
      · skip
        have h := h.2 c_2
        refine lv_aload_n hx hb d_Md_by_61 rfl (lv_at hl 1 rfl) ?_
        refine g_Md_213 (v := .int (dd 16)) hx hb hT hown hK hP 0 rfl rfl d_Md_by_62 ?_
        refine lv_if_ne (tgt := 88) hx hb d_Md_by_65 (by decide) (fun c_3 => ?_) (fun c_3 => ?_)
        · skip
          have h := h.2 c_3
          refine lv_aload_n hx hb d_Md_by_88 rfl (lv_at hl 1 rfl) ?_
          refine g_Md_210 (v := .int (dd 14)) hx hb hT hown hK hP 0 rfl rfl d_Md_by_89 ?_
          refine lv_if_ne (tgt := 102) hx hb d_Md_by_92 (by decide) (fun c_4 => ?_) (fun c_4 => ?_)
          · skip
            have h := h.2 c_4
            refine lv_lconst (v := 0) hx hb d_Md_by_102 (by decide) ?_
            refine lv_lstore_n (lv' := [(3, .long (0 : Int64)), (2, .int s16_0), (0, .ref qd), (1, .int a0)]) hx hb d_Md_by_103 rfl hl (by decide) rfl (fun ls hl => ?_)
            refine lv_aload_n hx hb d_Md_by_104 rfl (lv_at hl 2 rfl) ?_
            refine g_Md_200 (v := .long Lwhole) hx hb hT hown hK hP 0 rfl rfl d_Md_by_105 ?_
            refine lv_lstore (lv' := [(5, .long Lwhole), (3, .long (0 : Int64)), (2, .int s16_0), (0, .ref qd), (1, .int a0)]) hx hb d_Md_by_108 hl (by decide) rfl (fun ls hl => ?_)
            refine lv_iconst (v := 0) hx hb d_Md_by_110 (by decide) ?_
            refine lv_istore (lv' := [(7, .int (0 : Int32)), (5, .long Lwhole), (3, .long (0 : Int64)), (2, .int s16_0), (0, .ref qd), (1, .int a0)]) hx hb d_Md_by_111 hl (by decide) rfl (fun ls hl => ?_)
            have lp : ∀ (n : Nat) (v7 : Int32) (v5 : Int64) (v3 : Int64) (v2 : Int32), wl_Md_by_113 ms a0 dd Lwhole Lwhole2 bm rr kt P n v7 v5 v3 v2 → ∀ ls : Array Slot, lv_has ls 8 [(7, .int v7), (5, .long v5), (3, .long v3), (2, .int v2), (0, .ref qd), (1, .int a0)] → W p l e (headSpec (zz_ws y_Md_by b_Md_by 8 (some .long)) rm_Md_by).room s m ([.ref qd, .int a0] : List Value).toArray below meth c s.heap [] 0 0 (MQ below (vp_Sl P) ([.ref qd, .int a0] : List Value).toArray s 0 0 (fun _ => False)) (F0 m 113 ls []) := by
              intro n
              induction n with
              | zero =>
                intro v7 v5 v3 v2 h
                exact False.elim h
              | succ n ih =>
                intro v7 v5 v3 v2 h ls hl
                rw [wl_Md_by_113] at h
                have jn_147 : ∀ (j147_2 : Int32) (j147_3 : Int64) (j147_5 : Int64) (j147_7 : Int32), wj_Md_by_147 ms a0 dd Lwhole Lwhole2 bm rr kt P (wl_Md_by_113 ms a0 dd Lwhole Lwhole2 bm rr kt P n) j147_2 j147_3 j147_5 j147_7 → ∀ ls : Array Slot, lv_has ls 8 [(0, .ref qd), (1, .int a0), (2, .int j147_2), (3, .long j147_3), (5, .long j147_5), (7, .int j147_7)] → W p l e (headSpec (zz_ws y_Md_by b_Md_by 8 (some .long)) rm_Md_by).room s m ([.ref qd, .int a0] : List Value).toArray below meth c s.heap [] 0 0 (MQ below (vp_Sl P) ([.ref qd, .int a0] : List Value).toArray s 0 0 (fun _ => False)) (F0 m 147 ls []) := by
                  intro j147_2 j147_3 j147_5 j147_7 h ls hl
                  unfold wj_Md_by_147 at h
                  refine lv_lload hx hb d_Md_by_147 (lv_at hl 4 rfl) ?_
                  refine lv_iconst (v := 1) hx hb d_Md_by_149 (by decide) ?_
                  refine zz_llshl hx hb d_Md_by_150 ?_
                  refine lv_topl (fun x_5 ex_5 => ?_)
                  have h := h x_5 ex_5
                  refine lv_lstore (lv' := [(5, .long x_5), (0, .ref qd), (1, .int a0), (2, .int j147_2), (3, .long j147_3), (7, .int j147_7)]) hx hb d_Md_by_151 hl (by decide) rfl (fun ls hl => ?_)
                  obtain ⟨x_6, ex_6⟩ : ∃ y : Int32, y = j147_7 + 1 := ⟨_, rfl⟩
                  have h := h x_6 ex_6
                  refine lv_iinc (v := x_6) (lv' := [(7, .int x_6), (5, .long x_5), (0, .ref qd), (1, .int a0), (2, .int j147_2), (3, .long j147_3)]) hx hb d_Md_by_153 hl (k := 5) rfl (by rw [ex_6]; rfl) (by decide) rfl (fun ls hl => ?_)
                  refine lv_goto (tgt := 113) hx hb d_Md_by_156 (by decide) ?_
                  exact ih x_6 x_5 j147_3 j147_2 h ls (lv_sub hl [0, 1, 5, 4, 2, 3] rfl)
                refine lv_iload hx hb d_Md_by_113 (lv_at hl 0 rfl) ?_
                refine lv_bipush (v := 60) hx hb d_Md_by_115 (by decide) ?_
                refine lv_icmp_ge (tgt := 159) hx hb d_Md_by_117 (by decide) (fun c_7 => ?_) (fun c_7 => ?_)
                · skip
                  have h := h.1 c_7
                  refine lv_iload_n hx hb d_Md_by_159 rfl (lv_at hl 3 rfl) ?_
                  refine lv_lload_n hx hb d_Md_by_160 rfl (lv_at hl 2 rfl) ?_
                  refine lv_aload_n hx hb d_Md_by_161 rfl (lv_at hl 4 rfl) ?_
                  refine g_Md_207 (v := .int (dd 15)) hx hb hT hown hK hP 0 rfl rfl d_Md_by_162 ?_
                  refine lv_aload_n hx hb d_Md_by_165 rfl (lv_at hl 4 rfl) ?_
                  refine g_Md_222 (v := .int (dd 17)) hx hb hT hown hK hP 0 rfl rfl d_Md_by_166 ?_
                  refine lv_isub hx hb d_Md_by_169 ?_
                  refine lv_bipush (v := 59) hx hb d_Md_by_170 (by decide) ?_
                  refine lv_isub hx hb d_Md_by_172 ?_
                  refine lv_topi (fun x_8 ex_8 => ?_)
                  have h := h x_8 ex_8
                  refine lv_lload hx hb d_Md_by_173 (lv_at hl 1 rfl) ?_
                  refine lv_lconst (v := 0) hx hb d_Md_by_175 (by decide) ?_
                  refine W.lcmp hx hb d_Md_by_176 ?_
                  refine lv_if_le (tgt := 184) hx hb d_Md_by_177 (by decide) (fun c_9 => ?_) (fun c_9 => ?_)
                  · have kc_9 := ((lg_cmp_le _ _).mp c_9)
                    have h := h.1 kc_9
                    refine lv_iconst (v := 0) hx hb d_Md_by_184 (by decide) ?_
                    refine lv_iload_n hx hb d_Md_by_185 rfl (lv_at hl 5 rfl) ?_
                    refine zz_Sl (As := [.int v2, .long v3, .int x_8, .int (0 : Int32), .int a0]) (rest := []) X (c_Md_rounded l v2 v3 x_8 (0 : Int32) a0 _ h) ⟨rfl, rfl⟩ m_Md_rounded k_Md_246 ⟨Nat.le_of_ble_eq_true rfl, Nat.le_of_ble_eq_true rfl⟩ rfl hl.1 rfl (Nat.le_of_ble_eq_true rfl) d_Md_by_186 hf0 (fun r_10 h => ?_)
                    exact W.lret (v := r_10) hx hb hr (fun t ht hW => ⟨r_10,  rfl, h, ht⟩) t_nil d_Md_by_189
                  · have kc_9 := (fun q => c_9 ((lg_cmp_le _ _).mpr q))
                    have h := h.2 kc_9
                    refine lv_iconst (v := 1) hx hb d_Md_by_180 (by decide) ?_
                    refine lv_goto (tgt := 185) hx hb d_Md_by_181 (by decide) ?_
                    refine lv_iload_n hx hb d_Md_by_185 rfl (lv_at hl 5 rfl) ?_
                    refine zz_Sl (As := [.int v2, .long v3, .int x_8, .int (1 : Int32), .int a0]) (rest := []) X (c_Md_rounded l v2 v3 x_8 (1 : Int32) a0 _ h) ⟨rfl, rfl⟩ m_Md_rounded k_Md_246 ⟨Nat.le_of_ble_eq_true rfl, Nat.le_of_ble_eq_true rfl⟩ rfl hl.1 rfl (Nat.le_of_ble_eq_true rfl) d_Md_by_186 hf0 (fun r_11 h => ?_)
                    exact W.lret (v := r_11) hx hb hr (fun t ht hW => ⟨r_11,  rfl, h, ht⟩) t_nil d_Md_by_189
                · skip
                  have h := h.2 c_7
                  refine lv_lload_n hx hb d_Md_by_120 rfl (lv_at hl 2 rfl) ?_
                  refine lv_iconst (v := 1) hx hb d_Md_by_121 (by decide) ?_
                  refine zz_llshl hx hb d_Md_by_122 ?_
                  refine lv_topl (fun x_12 ex_12 => ?_)
                  have h := h x_12 ex_12
                  refine lv_lstore_n (lv' := [(3, .long x_12), (7, .int v7), (5, .long v5), (2, .int v2), (0, .ref qd), (1, .int a0)]) hx hb d_Md_by_123 rfl hl (by decide) rfl (fun ls hl => ?_)
                  refine lv_lload hx hb d_Md_by_124 (lv_at hl 2 rfl) ?_
                  refine lv_aload_n hx hb d_Md_by_126 rfl (lv_at hl 4 rfl) ?_
                  refine g_Md_219 (v := .long Lwhole2) hx hb hT hown hK hP 0 rfl rfl d_Md_by_127 ?_
                  refine W.lcmp hx hb d_Md_by_130 ?_
                  refine lv_if_lt (tgt := 147) hx hb d_Md_by_131 (by decide) (fun c_13 => ?_) (fun c_13 => ?_)
                  · have kc_13 := ((lg_cmp_lt _ _).mp c_13)
                    have h := h.1 kc_13
                    exact jn_147 v2 x_12 v5 v7 h ls (lv_sub hl [4, 5, 3, 0, 2, 1] rfl)
                  · have kc_13 := (fun q => c_13 ((lg_cmp_lt _ _).mpr q))
                    have h := h.2 kc_13
                    refine lv_lload hx hb d_Md_by_134 (lv_at hl 2 rfl) ?_
                    refine lv_aload_n hx hb d_Md_by_136 rfl (lv_at hl 4 rfl) ?_
                    refine g_Md_219 (v := .long Lwhole2) hx hb hT hown hK hP 0 rfl rfl d_Md_by_137 ?_
                    refine lv_lsub hx hb d_Md_by_140 ?_
                    refine lv_topl (fun x_14 ex_14 => ?_)
                    have h := h x_14 ex_14
                    refine lv_lstore (lv' := [(5, .long x_14), (3, .long x_12), (7, .int v7), (2, .int v2), (0, .ref qd), (1, .int a0)]) hx hb d_Md_by_141 hl (by decide) rfl (fun ls hl => ?_)
                    refine lv_lload_n hx hb d_Md_by_143 rfl (lv_at hl 1 rfl) ?_
                    refine lv_lconst (v := 1) hx hb d_Md_by_144 (by decide) ?_
                    refine lv_lor hx hb d_Md_by_145 ?_
                    refine lv_topl (fun x_15 ex_15 => ?_)
                    have h := h x_15 ex_15
                    refine lv_lstore_n (lv' := [(3, .long x_15), (5, .long x_14), (7, .int v7), (2, .int v2), (0, .ref qd), (1, .int a0)]) hx hb d_Md_by_146 rfl hl (by decide) rfl (fun ls hl => ?_)
                    exact jn_147 v2 x_15 x_14 v7 h ls (lv_sub hl [4, 5, 3, 0, 1, 2] rfl)
            obtain ⟨n, h⟩ := h
            exact lp n (0 : Int32) Lwhole (0 : Int64) s16_0 h ls hl
          · skip
            have h := h.1 c_4
            refine lv_iload_n hx hb d_Md_by_95 rfl (lv_at hl 0 rfl) ?_
            refine lv_iload_n hx hb d_Md_by_96 rfl (lv_at hl 2 rfl) ?_
            refine lv_lconst (v := 0) hx hb d_Md_by_97 (by decide) ?_
            refine zz_Sl (As := [.int s16_0, .int a0, .long (0 : Int64)]) (rest := []) X (c_Md_signed l s16_0 a0 (0 : Int64) _ h) ⟨rfl, rfl⟩ m_Md_signed k_Md_229 ⟨Nat.le_of_ble_eq_true rfl, Nat.le_of_ble_eq_true rfl⟩ rfl hl.1 rfl (Nat.le_of_ble_eq_true rfl) d_Md_by_98 hf0 (fun r_16 h => ?_)
            exact W.lret (v := r_16) hx hb hr (fun t ht hW => ⟨r_16,  rfl, h, ht⟩) t_nil d_Md_by_101
        · skip
          have h := h.1 c_3
          refine lv_aload_n hx hb d_Md_by_68 rfl (lv_at hl 1 rfl) ?_
          refine g_Md_210 (v := .int (dd 14)) hx hb hT hown hK hP 0 rfl rfl d_Md_by_69 ?_
          refine lv_if_ne (tgt := 82) hx hb d_Md_by_72 (by decide) (fun c_17 => ?_) (fun c_17 => ?_)
          · skip
            have h := h.2 c_17
            refine lv_iload_n hx hb d_Md_by_82 rfl (lv_at hl 0 rfl) ?_
            refine lv_iload_n hx hb d_Md_by_83 rfl (lv_at hl 2 rfl) ?_
            refine zz_Sl (As := [.int s16_0, .int a0]) (rest := []) X (c_Md_endless l s16_0 a0 _ h) ⟨rfl, rfl⟩ m_Md_endless k_Md_235 ⟨Nat.le_of_ble_eq_true rfl, Nat.le_of_ble_eq_true rfl⟩ rfl hl.1 rfl (Nat.le_of_ble_eq_true rfl) d_Md_by_84 hf0 (fun r_18 h => ?_)
            exact W.lret (v := r_18) hx hb hr (fun t ht hW => ⟨r_18,  rfl, h, ht⟩) t_nil d_Md_by_87
          · skip
            have h := h.1 c_17
            refine lv_iload_n hx hb d_Md_by_75 rfl (lv_at hl 2 rfl) ?_
            refine zz_Sl (As := [.int a0]) (rest := []) X (c_Md_noNumber l a0 _ h) ⟨rfl, rfl⟩ m_Md_noNumber k_Md_297 ⟨Nat.le_of_ble_eq_true rfl, Nat.le_of_ble_eq_true rfl⟩ rfl hl.1 rfl (Nat.le_of_ble_eq_true rfl) d_Md_by_76 hf0 (fun r_19 h => ?_)
            refine lv_goto (tgt := 87) hx hb d_Md_by_79 (by decide) ?_
            exact W.lret (v := r_19) hx hb hr (fun t ht hW => ⟨r_19,  rfl, h, ht⟩) t_nil d_Md_by_87
      · skip
        have h := h.1 c_2
        refine lv_iload_n hx hb d_Md_by_54 rfl (lv_at hl 0 rfl) ?_
        refine lv_iload_n hx hb d_Md_by_55 rfl (lv_at hl 2 rfl) ?_
        refine lv_lconst (v := 0) hx hb d_Md_by_56 (by decide) ?_
        refine zz_Sl (As := [.int s16_0, .int a0, .long (0 : Int64)]) (rest := []) X (c_Md_signed l s16_0 a0 (0 : Int64) _ h) ⟨rfl, rfl⟩ m_Md_signed k_Md_229 ⟨Nat.le_of_ble_eq_true rfl, Nat.le_of_ble_eq_true rfl⟩ rfl hl.1 rfl (Nat.le_of_ble_eq_true rfl) d_Md_by_57 hf0 (fun r_20 h => ?_)
        exact W.lret (v := r_20) hx hb hr (fun t ht hW => ⟨r_20,  rfl, h, ht⟩) t_nil d_Md_by_60
    · skip
      have h := h.1 c_1
      refine lv_aload_n hx hb d_Md_by_25 rfl (lv_at hl 1 rfl) ?_
      refine g_Md_213 (v := .int (dd 16)) hx hb hT hown hK hP 0 rfl rfl d_Md_by_26 ?_
      refine lv_iconst (v := 2) hx hb d_Md_by_29 (by decide) ?_
      refine lv_icmp_ne (tgt := 40) hx hb d_Md_by_30 (by decide) (fun c_21 => ?_) (fun c_21 => ?_)
      · skip
        have h := h.2 c_21
        refine lv_iload_n hx hb d_Md_by_40 rfl (lv_at hl 0 rfl) ?_
        refine lv_iload_n hx hb d_Md_by_41 rfl (lv_at hl 2 rfl) ?_
        refine zz_Sl (As := [.int s16_0, .int a0]) (rest := []) X (c_Md_endless l s16_0 a0 _ h) ⟨rfl, rfl⟩ m_Md_endless k_Md_235 ⟨Nat.le_of_ble_eq_true rfl, Nat.le_of_ble_eq_true rfl⟩ rfl hl.1 rfl (Nat.le_of_ble_eq_true rfl) d_Md_by_42 hf0 (fun r_22 h => ?_)
        exact W.lret (v := r_22) hx hb hr (fun t ht hW => ⟨r_22,  rfl, h, ht⟩) t_nil d_Md_by_45
      · skip
        have h := h.1 c_21
        refine lv_iload_n hx hb d_Md_by_33 rfl (lv_at hl 2 rfl) ?_
        refine zz_Sl (As := [.int a0]) (rest := []) X (c_Md_noNumber l a0 _ h) ⟨rfl, rfl⟩ m_Md_noNumber k_Md_297 ⟨Nat.le_of_ble_eq_true rfl, Nat.le_of_ble_eq_true rfl⟩ rfl hl.1 rfl (Nat.le_of_ble_eq_true rfl) d_Md_by_34 hf0 (fun r_23 h => ?_)
        refine lv_goto (tgt := 45) hx hb d_Md_by_37 (by decide) ?_
        exact W.lret (v := r_23) hx hb hr (fun t ht hW => ⟨r_23,  rfl, h, ht⟩) t_nil d_Md_by_45
  refine lv_aload_n hx hb d_Md_by_0 rfl (lv_at hl 0 rfl) ?_
  refine g_Md_197 (v := .int (dd 18)) hx hb hT hown hK hP 0 rfl rfl d_Md_by_1 ?_
  refine lv_aload_n hx hb d_Md_by_4 rfl (lv_at hl 0 rfl) ?_
  refine g_Md_216 (v := .int (dd 19)) hx hb hT hown hK hP 0 rfl rfl d_Md_by_5 ?_
  refine lv_icmp_eq (tgt := 15) hx hb d_Md_by_8 (by decide) (fun c_24 => ?_) (fun c_24 => ?_)
  · skip
    have h := h.1 c_24
    refine lv_iconst (v := 0) hx hb d_Md_by_15 (by decide) ?_
    exact jn_16 (0 : Int32) h ls (lv_sub hl [0, 1] rfl)
  · skip
    have h := h.2 c_24
    refine lv_iconst (v := 1) hx hb d_Md_by_11 (by decide) ?_
    refine lv_goto (tgt := 16) hx hb d_Md_by_12 (by decide) ?_
    exact jn_16 (1 : Int32) h ls (lv_sub hl [0, 1] rfl)
def wp_Md_two (ms : Int32) (dd : Nat → Int32) (Lwhole : Int64) (Lwhole2 : Int64) (bm : Nat → Int32) (rr : Nat → Int32) (kt : Nat → Int32) (a0 : Int32) (a1 : Int64) (a2 : Int64) (a3 : Int32) (P : Int64 → ((Nat → Int32) × Int64 × Int64 × (Nat → Int32) × (Nat → Int32) × (Nat → Int32)) → Prop) : Prop := wp_Md_take ms dd Lwhole Lwhole2 bm rr kt a2 a3 (fun u_1 => wp_Md_aside ms u_1.1 u_1.2.1 u_1.2.2.1 u_1.2.2.2.1 u_1.2.2.2.2.1 u_1.2.2.2.2.2 (fun u_3 => wp_Md_take ms u_3.1 u_3.2.1 u_3.2.2.1 u_3.2.2.2.1 u_3.2.2.2.2.1 u_3.2.2.2.2.2 a1 a3 (fun u_5 => (((u_5.1 14) = (3 : Int32) → wp_Md_noNumber a3 (fun r_8 => P r_8 (u_5.1, u_5.2.1, u_5.2.2.1, u_5.2.2.2.1, u_5.2.2.2.2.1, u_5.2.2.2.2.2))) ∧ (¬ (u_5.1 14) = (3 : Int32) → (((u_5.1 16) = (3 : Int32) → wp_Md_noNumber a3 (fun r_27 => P r_27 (u_5.1, u_5.2.1, u_5.2.2.1, u_5.2.2.2.1, u_5.2.2.2.2.1, u_5.2.2.2.2.2))) ∧ (¬ (u_5.1 16) = (3 : Int32) → ((a0 = (1 : Int32) → (((u_5.1 19) = (0 : Int32) → (((2 : Int32) ≤ a0 → ((a0 = (2 : Int32) → wp_Md_times ms (upd u_5.1 19 (1 : Int32)) u_5.2.1 u_5.2.2.1 u_5.2.2.2.1 u_5.2.2.2.2.1 u_5.2.2.2.2.2 a3 (fun r_25 => P r_25 ((upd u_5.1 19 (1 : Int32)), u_5.2.1, u_5.2.2.1, u_5.2.2.2.1, u_5.2.2.2.2.1, u_5.2.2.2.2.2))) ∧ (¬ a0 = (2 : Int32) → wp_Md_by ms (upd u_5.1 19 (1 : Int32)) u_5.2.1 u_5.2.2.1 u_5.2.2.2.1 u_5.2.2.2.2.1 u_5.2.2.2.2.2 a3 (fun r_24 => P r_24 ((upd u_5.1 19 (1 : Int32)), u_5.2.1, u_5.2.2.1, u_5.2.2.2.1, u_5.2.2.2.2.1, u_5.2.2.2.2.2))))) ∧ (¬ (2 : Int32) ≤ a0 → wp_Md_sum_JZJ ms (upd u_5.1 19 (1 : Int32)) u_5.2.1 u_5.2.2.1 u_5.2.2.2.1 u_5.2.2.2.2.1 u_5.2.2.2.2.2 a1 a3 (fun r_26 => P r_26 ((upd u_5.1 19 (1 : Int32)), u_5.2.1, u_5.2.2.1, u_5.2.2.2.1, u_5.2.2.2.2.1, u_5.2.2.2.2.2))))) ∧ (¬ (u_5.1 19) = (0 : Int32) → (((2 : Int32) ≤ a0 → ((a0 = (2 : Int32) → wp_Md_times ms (upd u_5.1 19 (0 : Int32)) u_5.2.1 u_5.2.2.1 u_5.2.2.2.1 u_5.2.2.2.2.1 u_5.2.2.2.2.2 a3 (fun r_20 => P r_20 ((upd u_5.1 19 (0 : Int32)), u_5.2.1, u_5.2.2.1, u_5.2.2.2.1, u_5.2.2.2.2.1, u_5.2.2.2.2.2))) ∧ (¬ a0 = (2 : Int32) → wp_Md_by ms (upd u_5.1 19 (0 : Int32)) u_5.2.1 u_5.2.2.1 u_5.2.2.2.1 u_5.2.2.2.2.1 u_5.2.2.2.2.2 a3 (fun r_19 => P r_19 ((upd u_5.1 19 (0 : Int32)), u_5.2.1, u_5.2.2.1, u_5.2.2.2.1, u_5.2.2.2.2.1, u_5.2.2.2.2.2))))) ∧ (¬ (2 : Int32) ≤ a0 → wp_Md_sum_JZJ ms (upd u_5.1 19 (0 : Int32)) u_5.2.1 u_5.2.2.1 u_5.2.2.2.1 u_5.2.2.2.2.1 u_5.2.2.2.2.2 a1 a3 (fun r_21 => P r_21 ((upd u_5.1 19 (0 : Int32)), u_5.2.1, u_5.2.2.1, u_5.2.2.2.1, u_5.2.2.2.2.1, u_5.2.2.2.2.2))))))) ∧ (¬ a0 = (1 : Int32) → (((2 : Int32) ≤ a0 → ((a0 = (2 : Int32) → wp_Md_times ms u_5.1 u_5.2.1 u_5.2.2.1 u_5.2.2.2.1 u_5.2.2.2.2.1 u_5.2.2.2.2.2 a3 (fun r_14 => P r_14 (u_5.1, u_5.2.1, u_5.2.2.1, u_5.2.2.2.1, u_5.2.2.2.2.1, u_5.2.2.2.2.2))) ∧ (¬ a0 = (2 : Int32) → wp_Md_by ms u_5.1 u_5.2.1 u_5.2.2.1 u_5.2.2.2.1 u_5.2.2.2.2.1 u_5.2.2.2.2.2 a3 (fun r_13 => P r_13 (u_5.1, u_5.2.1, u_5.2.2.1, u_5.2.2.2.1, u_5.2.2.2.2.1, u_5.2.2.2.2.2))))) ∧ (¬ (2 : Int32) ≤ a0 → wp_Md_sum_JZJ ms u_5.1 u_5.2.1 u_5.2.2.1 u_5.2.2.2.1 u_5.2.2.2.2.1 u_5.2.2.2.2.2 a1 a3 (fun r_15 => P r_15 (u_5.1, u_5.2.1, u_5.2.2.1, u_5.2.2.2.1, u_5.2.2.2.2.1, u_5.2.2.2.2.2)))))))))))))
abbrev rm_Md_two : Room := { frames := 5, cells := 0, slots := 0, locals := 142 }
set_option maxHeartbeats 4000000 in
set_option maxRecDepth 100000 in
theorem c_Md_two (l : Launch) (D : va_G) (cI : ClassId) (cB : ClassId) (qd : Nat) (qmemory : Nat) (qr : Nat) (qcounts : Nat) (ms : Int32) (dd : Nat → Int32) (Lwhole : Int64) (Lwhole2 : Int64) (bm : Nat → Int32) (rr : Nat → Int32) (kt : Nat → Int32) (a0 : Int32) (a1 : Int64) (a2 : Int64) (a3 : Int32) (P : Int64 → ((Nat → Int32) × Int64 × Int64 × (Nat → Int32) × (Nat → Int32) × (Nat → Int32)) → Prop) (h : wp_Md_two ms dd Lwhole Lwhole2 bm rr kt a0 a1 a2 a3 P) (sz : Nat) : Met l y_Md_two (zz_ws y_Md_two b_Md_two 7 (some .long)) rm_Md_two (va_Pc [.ref qd, .int a0, .long a1, .long a2, .int a3] (zz_pw D [(cI, .int), (cB, .byte)] (wD qd qmemory qr qcounts cI cB ms dd Lwhole Lwhole2 bm rr kt) sz)) (va_Ql P (zz_qw D (fun u => wD qd qmemory qr qcounts cI cB ms u.1 u.2.1 u.2.2.1 u.2.2.2.1 u.2.2.2.2.1 u.2.2.2.2.2) (va_A (wD qd qmemory qr qcounts cI cB ms dd Lwhole Lwhole2 bm rr kt) sz)) (va_A (wD qd qmemory qr qcounts cI cB ms dd Lwhole Lwhole2 bm rr kt) sz)) 0 0 (va_A (wD qd qmemory qr qcounts cI cB ms dd Lwhole Lwhole2 bm rr kt) sz) := by
  refine Met.ofW (cc := b_Md_two) (maxL := 7) (ret := (some .long)) (by decide) rfl ?_
  intro p e s m args below meth c s₁ B hml hv
  obtain ⟨rfl, hsz, hP, hK, hD0⟩ := hv
  have hx := B.exec
  have hb := B.bytes
  have hr := B.returns
  have hts := atoms_spec (ws := (zz_ws y_Md_two b_Md_two 7 (some .long))) B.pre
  have hown : s.vm.findClass R_Md = some m.cls := findClass_of_methodNamed B.named
  have hlocks := B.notSynchronized
  have hT := zz_hts hts
  have X : CallFix p m c b_Md_two 7 s ([.ref qd, .int a0, .long a1, .long a2, .int a3] : List Value).toArray (zz_ws y_Md_two b_Md_two 7 (some .long)) R_Md := ⟨hx, hb, hml, hown, hts⟩
  have hf0 : 0 + 0 ≤ (headSpec (zz_ws y_Md_two b_Md_two 7 (some .long)) rm_Md_two).room.cells ∧ 0 + 0 ≤ (headSpec (zz_ws y_Md_two b_Md_two 7 (some .long)) rm_Md_two).room.slots := ⟨Nat.le_of_ble_eq_true rfl, Nat.le_of_ble_eq_true rfl⟩
  subst hsz
  have hD := hD0.self (sz := s.heap.size)
  generalize hAe : va_A (wD qd qmemory qr qcounts cI cB ms dd Lwhole Lwhole2 bm rr kt) s.heap.size = A at hD ⊢
  have hA : ∀ q : Nat, s.heap.size ≤ q → A q := fun q h => by rw [← hAe]; exact Or.inr h
  have hS : va_S A s.heap s.heap [] := va_S.rf
  have hl := lv_entry ([.ref qd, .int a0, .long a1, .long a2, .int a3]) (n := 7) (Nat.le_of_ble_eq_true rfl)
  rw [lg_entry_eq]
  generalize (lg_sl ([.ref qd, .int a0, .long a1, .long a2, .int a3]) ++ List.replicate (7 - (lg_sl ([.ref qd, .int a0, .long a1, .long a2, .int a3])).length) Slot.unset).toArray = ls at hl ⊢
  have hl : lv_has ls 7 [(0, .ref qd), (1, .int a0), (2, .long a1), (4, .long a2), (6, .int a3)] := hl
  refine lv_aload_n hx hb d_Md_two_0 rfl (lv_at hl 0 rfl) ?_
  refine lv_lload hx hb d_Md_two_1 (lv_at hl 3 rfl) ?_
  refine lv_iload hx hb d_Md_two_3 (lv_at hl 4 rfl) ?_
  refine zz_Wv (As := [.long a2, .int a3]) (rest := []) (wc := wD qd qmemory qr qcounts cI cB ms dd Lwhole Lwhole2 bm rr kt) (wr := []) X hK hP hD hS hA (c_Md_take l D cI cB qd qmemory qr qcounts ms dd Lwhole Lwhole2 bm rr kt a2 a3 _ h _) ⟨rfl, rfl⟩ m_Md_take k_Md_282 ⟨Nat.le_of_ble_eq_true rfl, Nat.le_of_ble_eq_true rfl⟩ [0, 1, 2, 3] [] rfl rfl (by decide) (by decide) (by decide) 6 0 rfl rfl rfl rfl hl.1 rfl (Nat.le_of_ble_eq_true rfl) d_Md_two_5 hf0 (fun u_1 H locs h hP hD hS => ?_)
  have hP : va_P D vwCl (wD qd qmemory qr qcounts cI cB ms u_1.1 u_1.2.1 u_1.2.2.1 u_1.2.2.2.1 u_1.2.2.2.2.1 u_1.2.2.2.2.2) H := hP.sub [0, 1, 2, 3] rfl
  have hD : va_D A (wD qd qmemory qr qcounts cI cB ms u_1.1 u_1.2.1 u_1.2.2.1 u_1.2.2.2.1 u_1.2.2.2.2.1 u_1.2.2.2.2.2) := hD.sub [0, 1, 2, 3] (by decide) rfl
  refine lv_aload_n hx hb d_Md_two_8 rfl (lv_at hl 0 rfl) ?_
  refine zz_Wv (As := []) (rest := []) (wc := wD qd qmemory qr qcounts cI cB ms u_1.1 u_1.2.1 u_1.2.2.1 u_1.2.2.2.1 u_1.2.2.2.2.1 u_1.2.2.2.2.2) (wr := []) X hK hP hD hS hA (c_Md_aside l D cI cB qd qmemory qr qcounts ms u_1.1 u_1.2.1 u_1.2.2.1 u_1.2.2.2.1 u_1.2.2.2.2.1 u_1.2.2.2.2.2 _ h _) ⟨rfl, rfl⟩ m_Md_aside k_Md_286 ⟨Nat.le_of_ble_eq_true rfl, Nat.le_of_ble_eq_true rfl⟩ [0, 1, 2, 3] [] rfl rfl (by decide) (by decide) (by decide) 6 0 rfl rfl rfl rfl hl.1 rfl (Nat.le_of_ble_eq_true rfl) d_Md_two_9 hf0 (fun u_3 H locs h hP hD hS => ?_)
  have hP : va_P D vwCl (wD qd qmemory qr qcounts cI cB ms u_3.1 u_3.2.1 u_3.2.2.1 u_3.2.2.2.1 u_3.2.2.2.2.1 u_3.2.2.2.2.2) H := hP.sub [0, 1, 2, 3] rfl
  have hD : va_D A (wD qd qmemory qr qcounts cI cB ms u_3.1 u_3.2.1 u_3.2.2.1 u_3.2.2.2.1 u_3.2.2.2.2.1 u_3.2.2.2.2.2) := hD.sub [0, 1, 2, 3] (by decide) rfl
  refine lv_aload_n hx hb d_Md_two_12 rfl (lv_at hl 0 rfl) ?_
  refine lv_lload_n hx hb d_Md_two_13 rfl (lv_at hl 2 rfl) ?_
  refine lv_iload hx hb d_Md_two_14 (lv_at hl 4 rfl) ?_
  refine zz_Wv (As := [.long a1, .int a3]) (rest := []) (wc := wD qd qmemory qr qcounts cI cB ms u_3.1 u_3.2.1 u_3.2.2.1 u_3.2.2.2.1 u_3.2.2.2.2.1 u_3.2.2.2.2.2) (wr := []) X hK hP hD hS hA (c_Md_take l D cI cB qd qmemory qr qcounts ms u_3.1 u_3.2.1 u_3.2.2.1 u_3.2.2.2.1 u_3.2.2.2.2.1 u_3.2.2.2.2.2 a1 a3 _ h _) ⟨rfl, rfl⟩ m_Md_take k_Md_282 ⟨Nat.le_of_ble_eq_true rfl, Nat.le_of_ble_eq_true rfl⟩ [0, 1, 2, 3] [] rfl rfl (by decide) (by decide) (by decide) 6 0 rfl rfl rfl rfl hl.1 rfl (Nat.le_of_ble_eq_true rfl) d_Md_two_16 hf0 (fun u_5 H locs h hP hD hS => ?_)
  have hP : va_P D vwCl (wD qd qmemory qr qcounts cI cB ms u_5.1 u_5.2.1 u_5.2.2.1 u_5.2.2.2.1 u_5.2.2.2.2.1 u_5.2.2.2.2.2) H := hP.sub [0, 1, 2, 3] rfl
  have hD : va_D A (wD qd qmemory qr qcounts cI cB ms u_5.1 u_5.2.1 u_5.2.2.1 u_5.2.2.2.1 u_5.2.2.2.2.1 u_5.2.2.2.2.2) := hD.sub [0, 1, 2, 3] (by decide) rfl
  refine lv_aload_n hx hb d_Md_two_19 rfl (lv_at hl 0 rfl) ?_
  refine g_Md_210 (v := .int (u_5.1 14)) hx hb hT hown hK hP 0 rfl rfl d_Md_two_20 ?_
  refine lv_iconst (v := 3) hx hb d_Md_two_23 (by decide) ?_
  refine lv_icmp_eq (tgt := 35) hx hb d_Md_two_24 (by decide) (fun c_7 => ?_) (fun c_7 => ?_)
  · skip
    have h := h.1 c_7
    refine lv_iload hx hb d_Md_two_35 (lv_at hl 4 rfl) ?_
    refine zz_Sl (As := [.int a3]) (rest := []) X (c_Md_noNumber l a3 _ h) ⟨rfl, rfl⟩ m_Md_noNumber k_Md_297 ⟨Nat.le_of_ble_eq_true rfl, Nat.le_of_ble_eq_true rfl⟩ rfl hl.1 rfl (Nat.le_of_ble_eq_true rfl) d_Md_two_37 hf0 (fun r_8 h => ?_)
    exact W.lret (v := r_8) hx hb hr (fun t ht hW => ⟨⟨r_8, (u_5.1, u_5.2.1, u_5.2.2.1, u_5.2.2.2.1, u_5.2.2.2.2.1, u_5.2.2.2.2.2), rfl, h, by rw [ht]; exact hP, hD⟩, hS.F ht⟩) hS.2.2 d_Md_two_40
  · skip
    have h := h.2 c_7
    refine lv_aload_n hx hb d_Md_two_27 rfl (lv_at hl 0 rfl) ?_
    refine g_Md_213 (v := .int (u_5.1 16)) hx hb hT hown hK hP 0 rfl rfl d_Md_two_28 ?_
    refine lv_iconst (v := 3) hx hb d_Md_two_31 (by decide) ?_
    refine lv_icmp_ne (tgt := 41) hx hb d_Md_two_32 (by decide) (fun c_9 => ?_) (fun c_9 => ?_)
    · skip
      have h := h.2 c_9
      refine lv_iload_n hx hb d_Md_two_41 rfl (lv_at hl 1 rfl) ?_
      refine lv_iconst (v := 1) hx hb d_Md_two_42 (by decide) ?_
      refine lv_icmp_ne (tgt := 62) hx hb d_Md_two_43 (by decide) (fun c_10 => ?_) (fun c_10 => ?_)
      · skip
        have h := h.2 c_10
        refine lv_iload_n hx hb d_Md_two_62 rfl (lv_at hl 1 rfl) ?_
        refine lv_iconst (v := 2) hx hb d_Md_two_63 (by decide) ?_
        refine lv_icmp_ge (tgt := 77) hx hb d_Md_two_64 (by decide) (fun c_11 => ?_) (fun c_11 => ?_)
        · skip
          have h := h.1 c_11
          refine lv_iload_n hx hb d_Md_two_77 rfl (lv_at hl 1 rfl) ?_
          refine lv_iconst (v := 2) hx hb d_Md_two_78 (by decide) ?_
          refine lv_icmp_ne (tgt := 91) hx hb d_Md_two_79 (by decide) (fun c_12 => ?_) (fun c_12 => ?_)
          · skip
            have h := h.2 c_12
            refine lv_aload_n hx hb d_Md_two_91 rfl (lv_at hl 0 rfl) ?_
            refine lv_iload hx hb d_Md_two_92 (lv_at hl 4 rfl) ?_
            refine zz_Rl (As := [.int a3]) (rest := []) (wc := wD qd qmemory qr qcounts cI cB ms u_5.1 u_5.2.1 u_5.2.2.1 u_5.2.2.2.1 u_5.2.2.2.2.1 u_5.2.2.2.2.2) X hK hP (c_Md_by l D cI cB qd qmemory qr qcounts ms u_5.1 u_5.2.1 u_5.2.2.1 u_5.2.2.2.1 u_5.2.2.2.2.1 u_5.2.2.2.2.2 a3 _ h) ⟨rfl, rfl⟩ m_Md_by k_Md_312 ⟨Nat.le_of_ble_eq_true rfl, Nat.le_of_ble_eq_true rfl⟩ [0, 1, 2, 3] rfl 6 0 rfl rfl rfl rfl hl.1 rfl (Nat.le_of_ble_eq_true rfl) d_Md_two_94 hf0 (fun r_13 h => ?_)
            exact W.lret (v := r_13) hx hb hr (fun t ht hW => ⟨⟨r_13, (u_5.1, u_5.2.1, u_5.2.2.1, u_5.2.2.2.1, u_5.2.2.2.2.1, u_5.2.2.2.2.2), rfl, h, by rw [ht]; exact hP, hD⟩, hS.F ht⟩) hS.2.2 d_Md_two_97
          · skip
            have h := h.1 c_12
            refine lv_aload_n hx hb d_Md_two_82 rfl (lv_at hl 0 rfl) ?_
            refine lv_iload hx hb d_Md_two_83 (lv_at hl 4 rfl) ?_
            refine zz_Rl (As := [.int a3]) (rest := []) (wc := wD qd qmemory qr qcounts cI cB ms u_5.1 u_5.2.1 u_5.2.2.1 u_5.2.2.2.1 u_5.2.2.2.2.1 u_5.2.2.2.2.2) X hK hP (c_Md_times l D cI cB qd qmemory qr qcounts ms u_5.1 u_5.2.1 u_5.2.2.1 u_5.2.2.2.1 u_5.2.2.2.2.1 u_5.2.2.2.2.2 a3 _ h) ⟨rfl, rfl⟩ m_Md_times k_Md_309 ⟨Nat.le_of_ble_eq_true rfl, Nat.le_of_ble_eq_true rfl⟩ [0, 1, 2, 3] rfl 6 0 rfl rfl rfl rfl hl.1 rfl (Nat.le_of_ble_eq_true rfl) d_Md_two_85 hf0 (fun r_14 h => ?_)
            refine lv_goto (tgt := 97) hx hb d_Md_two_88 (by decide) ?_
            exact W.lret (v := r_14) hx hb hr (fun t ht hW => ⟨⟨r_14, (u_5.1, u_5.2.1, u_5.2.2.1, u_5.2.2.2.1, u_5.2.2.2.2.1, u_5.2.2.2.2.2), rfl, h, by rw [ht]; exact hP, hD⟩, hS.F ht⟩) hS.2.2 d_Md_two_97
        · skip
          have h := h.2 c_11
          refine lv_aload_n hx hb d_Md_two_67 rfl (lv_at hl 0 rfl) ?_
          refine lv_lload_n hx hb d_Md_two_68 rfl (lv_at hl 2 rfl) ?_
          refine lv_iload hx hb d_Md_two_69 (lv_at hl 4 rfl) ?_
          refine zz_Rl (As := [.long a1, .int a3]) (rest := []) (wc := wD qd qmemory qr qcounts cI cB ms u_5.1 u_5.2.1 u_5.2.2.1 u_5.2.2.2.1 u_5.2.2.2.2.1 u_5.2.2.2.2.2) X hK hP (c_Md_sum_JZJ l D cI cB qd qmemory qr qcounts ms u_5.1 u_5.2.1 u_5.2.2.1 u_5.2.2.2.1 u_5.2.2.2.2.1 u_5.2.2.2.2.2 a1 a3 _ h) ⟨rfl, rfl⟩ m_Md_sum_JZJ k_Md_307 ⟨Nat.le_of_ble_eq_true rfl, Nat.le_of_ble_eq_true rfl⟩ [0, 1, 2, 3] rfl 6 0 rfl rfl rfl rfl hl.1 rfl (Nat.le_of_ble_eq_true rfl) d_Md_two_71 hf0 (fun r_15 h => ?_)
          refine lv_goto (tgt := 97) hx hb d_Md_two_74 (by decide) ?_
          exact W.lret (v := r_15) hx hb hr (fun t ht hW => ⟨⟨r_15, (u_5.1, u_5.2.1, u_5.2.2.1, u_5.2.2.2.1, u_5.2.2.2.2.1, u_5.2.2.2.2.2), rfl, h, by rw [ht]; exact hP, hD⟩, hS.F ht⟩) hS.2.2 d_Md_two_97
      · skip
        have h := h.1 c_10
        refine lv_aload_n hx hb d_Md_two_46 rfl (lv_at hl 0 rfl) ?_
        refine lv_aload_n hx hb d_Md_two_47 rfl (lv_at hl 0 rfl) ?_
        refine g_Md_216 (v := .int (u_5.1 19)) hx hb hT hown hK hP 0 rfl rfl d_Md_two_48 ?_
        refine lv_if_ne (tgt := 58) hx hb d_Md_two_51 (by decide) (fun c_16 => ?_) (fun c_16 => ?_)
        · skip
          have h := h.2 c_16
          refine lv_iconst (v := 0) hx hb d_Md_two_58 (by decide) ?_
          refine p_Md_216 hx hb hT hown hK hP hD hS 0 rfl rfl (Or.inl rfl) d_Md_two_59 (fun H locs (hP : va_P D vwCl (wD qd qmemory qr qcounts cI cB ms (upd u_5.1 19 (0 : Int32)) u_5.2.1 u_5.2.2.1 u_5.2.2.2.1 u_5.2.2.2.2.1 u_5.2.2.2.2.2) H) (hD : va_D A (wD qd qmemory qr qcounts cI cB ms (upd u_5.1 19 (0 : Int32)) u_5.2.1 u_5.2.2.1 u_5.2.2.2.1 u_5.2.2.2.2.1 u_5.2.2.2.2.2)) hS => ?_)
          refine lv_iload_n hx hb d_Md_two_62 rfl (lv_at hl 1 rfl) ?_
          refine lv_iconst (v := 2) hx hb d_Md_two_63 (by decide) ?_
          refine lv_icmp_ge (tgt := 77) hx hb d_Md_two_64 (by decide) (fun c_17 => ?_) (fun c_17 => ?_)
          · skip
            have h := h.1 c_17
            refine lv_iload_n hx hb d_Md_two_77 rfl (lv_at hl 1 rfl) ?_
            refine lv_iconst (v := 2) hx hb d_Md_two_78 (by decide) ?_
            refine lv_icmp_ne (tgt := 91) hx hb d_Md_two_79 (by decide) (fun c_18 => ?_) (fun c_18 => ?_)
            · skip
              have h := h.2 c_18
              refine lv_aload_n hx hb d_Md_two_91 rfl (lv_at hl 0 rfl) ?_
              refine lv_iload hx hb d_Md_two_92 (lv_at hl 4 rfl) ?_
              refine zz_Rl (As := [.int a3]) (rest := []) (wc := wD qd qmemory qr qcounts cI cB ms (upd u_5.1 19 (0 : Int32)) u_5.2.1 u_5.2.2.1 u_5.2.2.2.1 u_5.2.2.2.2.1 u_5.2.2.2.2.2) X hK hP (c_Md_by l D cI cB qd qmemory qr qcounts ms (upd u_5.1 19 (0 : Int32)) u_5.2.1 u_5.2.2.1 u_5.2.2.2.1 u_5.2.2.2.2.1 u_5.2.2.2.2.2 a3 _ h) ⟨rfl, rfl⟩ m_Md_by k_Md_312 ⟨Nat.le_of_ble_eq_true rfl, Nat.le_of_ble_eq_true rfl⟩ [0, 1, 2, 3] rfl 6 0 rfl rfl rfl rfl hl.1 rfl (Nat.le_of_ble_eq_true rfl) d_Md_two_94 hf0 (fun r_19 h => ?_)
              exact W.lret (v := r_19) hx hb hr (fun t ht hW => ⟨⟨r_19, ((upd u_5.1 19 (0 : Int32)), u_5.2.1, u_5.2.2.1, u_5.2.2.2.1, u_5.2.2.2.2.1, u_5.2.2.2.2.2), rfl, h, by rw [ht]; exact hP, hD⟩, hS.F ht⟩) hS.2.2 d_Md_two_97
            · skip
              have h := h.1 c_18
              refine lv_aload_n hx hb d_Md_two_82 rfl (lv_at hl 0 rfl) ?_
              refine lv_iload hx hb d_Md_two_83 (lv_at hl 4 rfl) ?_
              refine zz_Rl (As := [.int a3]) (rest := []) (wc := wD qd qmemory qr qcounts cI cB ms (upd u_5.1 19 (0 : Int32)) u_5.2.1 u_5.2.2.1 u_5.2.2.2.1 u_5.2.2.2.2.1 u_5.2.2.2.2.2) X hK hP (c_Md_times l D cI cB qd qmemory qr qcounts ms (upd u_5.1 19 (0 : Int32)) u_5.2.1 u_5.2.2.1 u_5.2.2.2.1 u_5.2.2.2.2.1 u_5.2.2.2.2.2 a3 _ h) ⟨rfl, rfl⟩ m_Md_times k_Md_309 ⟨Nat.le_of_ble_eq_true rfl, Nat.le_of_ble_eq_true rfl⟩ [0, 1, 2, 3] rfl 6 0 rfl rfl rfl rfl hl.1 rfl (Nat.le_of_ble_eq_true rfl) d_Md_two_85 hf0 (fun r_20 h => ?_)
              refine lv_goto (tgt := 97) hx hb d_Md_two_88 (by decide) ?_
              exact W.lret (v := r_20) hx hb hr (fun t ht hW => ⟨⟨r_20, ((upd u_5.1 19 (0 : Int32)), u_5.2.1, u_5.2.2.1, u_5.2.2.2.1, u_5.2.2.2.2.1, u_5.2.2.2.2.2), rfl, h, by rw [ht]; exact hP, hD⟩, hS.F ht⟩) hS.2.2 d_Md_two_97
          · skip
            have h := h.2 c_17
            refine lv_aload_n hx hb d_Md_two_67 rfl (lv_at hl 0 rfl) ?_
            refine lv_lload_n hx hb d_Md_two_68 rfl (lv_at hl 2 rfl) ?_
            refine lv_iload hx hb d_Md_two_69 (lv_at hl 4 rfl) ?_
            refine zz_Rl (As := [.long a1, .int a3]) (rest := []) (wc := wD qd qmemory qr qcounts cI cB ms (upd u_5.1 19 (0 : Int32)) u_5.2.1 u_5.2.2.1 u_5.2.2.2.1 u_5.2.2.2.2.1 u_5.2.2.2.2.2) X hK hP (c_Md_sum_JZJ l D cI cB qd qmemory qr qcounts ms (upd u_5.1 19 (0 : Int32)) u_5.2.1 u_5.2.2.1 u_5.2.2.2.1 u_5.2.2.2.2.1 u_5.2.2.2.2.2 a1 a3 _ h) ⟨rfl, rfl⟩ m_Md_sum_JZJ k_Md_307 ⟨Nat.le_of_ble_eq_true rfl, Nat.le_of_ble_eq_true rfl⟩ [0, 1, 2, 3] rfl 6 0 rfl rfl rfl rfl hl.1 rfl (Nat.le_of_ble_eq_true rfl) d_Md_two_71 hf0 (fun r_21 h => ?_)
            refine lv_goto (tgt := 97) hx hb d_Md_two_74 (by decide) ?_
            exact W.lret (v := r_21) hx hb hr (fun t ht hW => ⟨⟨r_21, ((upd u_5.1 19 (0 : Int32)), u_5.2.1, u_5.2.2.1, u_5.2.2.2.1, u_5.2.2.2.2.1, u_5.2.2.2.2.2), rfl, h, by rw [ht]; exact hP, hD⟩, hS.F ht⟩) hS.2.2 d_Md_two_97
        · skip
          have h := h.1 c_16
          refine lv_iconst (v := 1) hx hb d_Md_two_54 (by decide) ?_
          refine lv_goto (tgt := 59) hx hb d_Md_two_55 (by decide) ?_
          refine p_Md_216 hx hb hT hown hK hP hD hS 0 rfl rfl (Or.inr rfl) d_Md_two_59 (fun H locs (hP : va_P D vwCl (wD qd qmemory qr qcounts cI cB ms (upd u_5.1 19 (1 : Int32)) u_5.2.1 u_5.2.2.1 u_5.2.2.2.1 u_5.2.2.2.2.1 u_5.2.2.2.2.2) H) (hD : va_D A (wD qd qmemory qr qcounts cI cB ms (upd u_5.1 19 (1 : Int32)) u_5.2.1 u_5.2.2.1 u_5.2.2.2.1 u_5.2.2.2.2.1 u_5.2.2.2.2.2)) hS => ?_)
          refine lv_iload_n hx hb d_Md_two_62 rfl (lv_at hl 1 rfl) ?_
          refine lv_iconst (v := 2) hx hb d_Md_two_63 (by decide) ?_
          refine lv_icmp_ge (tgt := 77) hx hb d_Md_two_64 (by decide) (fun c_22 => ?_) (fun c_22 => ?_)
          · skip
            have h := h.1 c_22
            refine lv_iload_n hx hb d_Md_two_77 rfl (lv_at hl 1 rfl) ?_
            refine lv_iconst (v := 2) hx hb d_Md_two_78 (by decide) ?_
            refine lv_icmp_ne (tgt := 91) hx hb d_Md_two_79 (by decide) (fun c_23 => ?_) (fun c_23 => ?_)
            · skip
              have h := h.2 c_23
              refine lv_aload_n hx hb d_Md_two_91 rfl (lv_at hl 0 rfl) ?_
              refine lv_iload hx hb d_Md_two_92 (lv_at hl 4 rfl) ?_
              refine zz_Rl (As := [.int a3]) (rest := []) (wc := wD qd qmemory qr qcounts cI cB ms (upd u_5.1 19 (1 : Int32)) u_5.2.1 u_5.2.2.1 u_5.2.2.2.1 u_5.2.2.2.2.1 u_5.2.2.2.2.2) X hK hP (c_Md_by l D cI cB qd qmemory qr qcounts ms (upd u_5.1 19 (1 : Int32)) u_5.2.1 u_5.2.2.1 u_5.2.2.2.1 u_5.2.2.2.2.1 u_5.2.2.2.2.2 a3 _ h) ⟨rfl, rfl⟩ m_Md_by k_Md_312 ⟨Nat.le_of_ble_eq_true rfl, Nat.le_of_ble_eq_true rfl⟩ [0, 1, 2, 3] rfl 6 0 rfl rfl rfl rfl hl.1 rfl (Nat.le_of_ble_eq_true rfl) d_Md_two_94 hf0 (fun r_24 h => ?_)
              exact W.lret (v := r_24) hx hb hr (fun t ht hW => ⟨⟨r_24, ((upd u_5.1 19 (1 : Int32)), u_5.2.1, u_5.2.2.1, u_5.2.2.2.1, u_5.2.2.2.2.1, u_5.2.2.2.2.2), rfl, h, by rw [ht]; exact hP, hD⟩, hS.F ht⟩) hS.2.2 d_Md_two_97
            · skip
              have h := h.1 c_23
              refine lv_aload_n hx hb d_Md_two_82 rfl (lv_at hl 0 rfl) ?_
              refine lv_iload hx hb d_Md_two_83 (lv_at hl 4 rfl) ?_
              refine zz_Rl (As := [.int a3]) (rest := []) (wc := wD qd qmemory qr qcounts cI cB ms (upd u_5.1 19 (1 : Int32)) u_5.2.1 u_5.2.2.1 u_5.2.2.2.1 u_5.2.2.2.2.1 u_5.2.2.2.2.2) X hK hP (c_Md_times l D cI cB qd qmemory qr qcounts ms (upd u_5.1 19 (1 : Int32)) u_5.2.1 u_5.2.2.1 u_5.2.2.2.1 u_5.2.2.2.2.1 u_5.2.2.2.2.2 a3 _ h) ⟨rfl, rfl⟩ m_Md_times k_Md_309 ⟨Nat.le_of_ble_eq_true rfl, Nat.le_of_ble_eq_true rfl⟩ [0, 1, 2, 3] rfl 6 0 rfl rfl rfl rfl hl.1 rfl (Nat.le_of_ble_eq_true rfl) d_Md_two_85 hf0 (fun r_25 h => ?_)
              refine lv_goto (tgt := 97) hx hb d_Md_two_88 (by decide) ?_
              exact W.lret (v := r_25) hx hb hr (fun t ht hW => ⟨⟨r_25, ((upd u_5.1 19 (1 : Int32)), u_5.2.1, u_5.2.2.1, u_5.2.2.2.1, u_5.2.2.2.2.1, u_5.2.2.2.2.2), rfl, h, by rw [ht]; exact hP, hD⟩, hS.F ht⟩) hS.2.2 d_Md_two_97
          · skip
            have h := h.2 c_22
            refine lv_aload_n hx hb d_Md_two_67 rfl (lv_at hl 0 rfl) ?_
            refine lv_lload_n hx hb d_Md_two_68 rfl (lv_at hl 2 rfl) ?_
            refine lv_iload hx hb d_Md_two_69 (lv_at hl 4 rfl) ?_
            refine zz_Rl (As := [.long a1, .int a3]) (rest := []) (wc := wD qd qmemory qr qcounts cI cB ms (upd u_5.1 19 (1 : Int32)) u_5.2.1 u_5.2.2.1 u_5.2.2.2.1 u_5.2.2.2.2.1 u_5.2.2.2.2.2) X hK hP (c_Md_sum_JZJ l D cI cB qd qmemory qr qcounts ms (upd u_5.1 19 (1 : Int32)) u_5.2.1 u_5.2.2.1 u_5.2.2.2.1 u_5.2.2.2.2.1 u_5.2.2.2.2.2 a1 a3 _ h) ⟨rfl, rfl⟩ m_Md_sum_JZJ k_Md_307 ⟨Nat.le_of_ble_eq_true rfl, Nat.le_of_ble_eq_true rfl⟩ [0, 1, 2, 3] rfl 6 0 rfl rfl rfl rfl hl.1 rfl (Nat.le_of_ble_eq_true rfl) d_Md_two_71 hf0 (fun r_26 h => ?_)
            refine lv_goto (tgt := 97) hx hb d_Md_two_74 (by decide) ?_
            exact W.lret (v := r_26) hx hb hr (fun t ht hW => ⟨⟨r_26, ((upd u_5.1 19 (1 : Int32)), u_5.2.1, u_5.2.2.1, u_5.2.2.2.1, u_5.2.2.2.2.1, u_5.2.2.2.2.2), rfl, h, by rw [ht]; exact hP, hD⟩, hS.F ht⟩) hS.2.2 d_Md_two_97
    · skip
      have h := h.1 c_9
      refine lv_iload hx hb d_Md_two_35 (lv_at hl 4 rfl) ?_
      refine zz_Sl (As := [.int a3]) (rest := []) X (c_Md_noNumber l a3 _ h) ⟨rfl, rfl⟩ m_Md_noNumber k_Md_297 ⟨Nat.le_of_ble_eq_true rfl, Nat.le_of_ble_eq_true rfl⟩ rfl hl.1 rfl (Nat.le_of_ble_eq_true rfl) d_Md_two_37 hf0 (fun r_27 h => ?_)
      exact W.lret (v := r_27) hx hb hr (fun t ht hW => ⟨⟨r_27, (u_5.1, u_5.2.1, u_5.2.2.1, u_5.2.2.2.1, u_5.2.2.2.2.1, u_5.2.2.2.2.2), rfl, h, by rw [ht]; exact hP, hD⟩, hS.F ht⟩) hS.2.2 d_Md_two_40
def wp_Md_put_IZJV (ms : Int32) (dd : Nat → Int32) (Lwhole : Int64) (Lwhole2 : Int64) (bm : Nat → Int32) (rr : Nat → Int32) (kt : Nat → Int32) (a0 : Int32) (a1 : Int32) (a2 : Int64) (P : ((Nat → Int32) × Int64 × Int64 × (Nat → Int32) × (Nat → Int32) × (Nat → Int32)) → Prop) : Prop := (((dd 5) ≤ (0 : Int32) → vp_in ((34 : Int32) + a0) 67 ∧ ((a1 = (0 : Int32) → P (dd, Lwhole, Lwhole2, bm, (upd rr ((34 : Int32) + a0).toNatClampNeg a2.toInt32), kt)) ∧ (¬ a1 = (0 : Int32) → ∀ x_3 : Int32, x_3 = (zz_lshr a2 (32 : Int32)).toInt32 → vp_in ((35 : Int32) + a0) 67 ∧ P (dd, Lwhole, Lwhole2, bm, (upd (upd rr ((34 : Int32) + a0).toNatClampNeg a2.toInt32) ((35 : Int32) + a0).toNatClampNeg x_3), kt)))) ∧ (¬ (dd 5) ≤ (0 : Int32) → P (dd, Lwhole, Lwhole2, bm, rr, kt)))
abbrev rm_Md_put_IZJV : Room := { frames := 0, cells := 0, slots := 0, locals := 0 }
set_option maxHeartbeats 4000000 in
set_option maxRecDepth 100000 in
theorem c_Md_put_IZJV (l : Launch) (D : va_G) (cI : ClassId) (cB : ClassId) (qd : Nat) (qmemory : Nat) (qr : Nat) (qcounts : Nat) (ms : Int32) (dd : Nat → Int32) (Lwhole : Int64) (Lwhole2 : Int64) (bm : Nat → Int32) (rr : Nat → Int32) (kt : Nat → Int32) (a0 : Int32) (a1 : Int32) (a2 : Int64) (P : ((Nat → Int32) × Int64 × Int64 × (Nat → Int32) × (Nat → Int32) × (Nat → Int32)) → Prop) (h : wp_Md_put_IZJV ms dd Lwhole Lwhole2 bm rr kt a0 a1 a2 P) (sz : Nat) : Met l y_Md_put_IZJV (zz_ws y_Md_put_IZJV b_Md_put_IZJV 5 none) rm_Md_put_IZJV (va_Pc [.ref qd, .int a0, .int a1, .long a2] (zz_pw D [(cI, .int), (cB, .byte)] (wD qd qmemory qr qcounts cI cB ms dd Lwhole Lwhole2 bm rr kt) sz)) (va_Qv P (zz_qw D (fun u => wD qd qmemory qr qcounts cI cB ms u.1 u.2.1 u.2.2.1 u.2.2.2.1 u.2.2.2.2.1 u.2.2.2.2.2) (va_A (wD qd qmemory qr qcounts cI cB ms dd Lwhole Lwhole2 bm rr kt) sz)) (va_A (wD qd qmemory qr qcounts cI cB ms dd Lwhole Lwhole2 bm rr kt) sz)) 0 0 (va_A (wD qd qmemory qr qcounts cI cB ms dd Lwhole Lwhole2 bm rr kt) sz) := by
  refine Met.ofW (cc := b_Md_put_IZJV) (maxL := 5) (ret := none) (by decide) rfl ?_
  intro p e s m args below meth c s₁ B hml hv
  obtain ⟨rfl, hsz, hP, hK, hD0⟩ := hv
  have hx := B.exec
  have hb := B.bytes
  have hr := B.returns
  have hts := atoms_spec (ws := (zz_ws y_Md_put_IZJV b_Md_put_IZJV 5 none)) B.pre
  have hown : s.vm.findClass R_Md = some m.cls := findClass_of_methodNamed B.named
  have hlocks := B.notSynchronized
  have hT := zz_hts hts
  have X : CallFix p m c b_Md_put_IZJV 5 s ([.ref qd, .int a0, .int a1, .long a2] : List Value).toArray (zz_ws y_Md_put_IZJV b_Md_put_IZJV 5 none) R_Md := ⟨hx, hb, hml, hown, hts⟩
  have hf0 : 0 + 0 ≤ (headSpec (zz_ws y_Md_put_IZJV b_Md_put_IZJV 5 none) rm_Md_put_IZJV).room.cells ∧ 0 + 0 ≤ (headSpec (zz_ws y_Md_put_IZJV b_Md_put_IZJV 5 none) rm_Md_put_IZJV).room.slots := ⟨Nat.le_of_ble_eq_true rfl, Nat.le_of_ble_eq_true rfl⟩
  subst hsz
  have hD := hD0.self (sz := s.heap.size)
  generalize hAe : va_A (wD qd qmemory qr qcounts cI cB ms dd Lwhole Lwhole2 bm rr kt) s.heap.size = A at hD ⊢
  have hA : ∀ q : Nat, s.heap.size ≤ q → A q := fun q h => by rw [← hAe]; exact Or.inr h
  have hS : va_S A s.heap s.heap [] := va_S.rf
  have hl := lv_entry ([.ref qd, .int a0, .int a1, .long a2]) (n := 5) (Nat.le_of_ble_eq_true rfl)
  rw [lg_entry_eq]
  generalize (lg_sl ([.ref qd, .int a0, .int a1, .long a2]) ++ List.replicate (5 - (lg_sl ([.ref qd, .int a0, .int a1, .long a2])).length) Slot.unset).toArray = ls at hl ⊢
  have hl : lv_has ls 5 [(0, .ref qd), (1, .int a0), (2, .int a1), (3, .long a2)] := hl
  refine lv_aload_n hx hb d_Md_put_IZJV_0 rfl (lv_at hl 0 rfl) ?_
  refine g_Md_63 (v := .int (dd 5)) hx hb hT hown hK hP 0 rfl rfl d_Md_put_IZJV_1 ?_
  refine lv_if_le (tgt := 8) hx hb d_Md_put_IZJV_4 (by decide) (fun c_1 => ?_) (fun c_1 => ?_)
  · skip
    have h := h.1 c_1
    refine lv_aload_n hx hb d_Md_put_IZJV_8 rfl (lv_at hl 0 rfl) ?_
    refine g_Md_14 (v := .ref qr) hx hb hT hown hK hP 0 rfl rfl d_Md_put_IZJV_9 ?_
    refine lv_bipush (v := 34) hx hb d_Md_put_IZJV_12 (by decide) ?_
    refine lv_iload_n hx hb d_Md_put_IZJV_14 rfl (lv_at hl 1 rfl) ?_
    refine lv_iadd hx hb d_Md_put_IZJV_15 ?_
    refine lv_lload_n hx hb d_Md_put_IZJV_16 rfl (lv_at hl 3 rfl) ?_
    refine lv_l2i (v := a2.toInt32) hx hb d_Md_put_IZJV_17 rfl ?_
    refine va_iast (f := rr) hx hb hK hP hD hS 2 0 rfl rfl h.1 d_Md_put_IZJV_18 (fun H locs (hP : va_P D vwCl (wD qd qmemory qr qcounts cI cB ms dd Lwhole Lwhole2 bm (upd rr ((34 : Int32) + a0).toNatClampNeg a2.toInt32) kt) H) (hD : va_D A (wD qd qmemory qr qcounts cI cB ms dd Lwhole Lwhole2 bm (upd rr ((34 : Int32) + a0).toNatClampNeg a2.toInt32) kt)) hS => ?_)
    have h := h.2
    refine lv_iload_n hx hb d_Md_put_IZJV_19 rfl (lv_at hl 2 rfl) ?_
    refine lv_if_eq (tgt := 37) hx hb d_Md_put_IZJV_20 (by decide) (fun c_2 => ?_) (fun c_2 => ?_)
    · skip
      have h := h.1 c_2
      exact W.vret hx hb hr (fun t ht hW => ⟨⟨(dd, Lwhole, Lwhole2, bm, (upd rr ((34 : Int32) + a0).toNatClampNeg a2.toInt32), kt), rfl, h, by rw [ht]; exact hP, hD⟩, hS.F ht⟩) hS.2.2 d_Md_put_IZJV_37
    · skip
      have h := h.2 c_2
      refine lv_aload_n hx hb d_Md_put_IZJV_23 rfl (lv_at hl 0 rfl) ?_
      refine g_Md_14 (v := .ref qr) hx hb hT hown hK hP 0 rfl rfl d_Md_put_IZJV_24 ?_
      refine lv_bipush (v := 35) hx hb d_Md_put_IZJV_27 (by decide) ?_
      refine lv_iload_n hx hb d_Md_put_IZJV_29 rfl (lv_at hl 1 rfl) ?_
      refine lv_iadd hx hb d_Md_put_IZJV_30 ?_
      refine lv_lload_n hx hb d_Md_put_IZJV_31 rfl (lv_at hl 3 rfl) ?_
      refine lv_bipush (v := 32) hx hb d_Md_put_IZJV_32 (by decide) ?_
      refine zz_llshr hx hb d_Md_put_IZJV_34 ?_
      refine lv_l2i (v := (zz_lshr a2 (32 : Int32)).toInt32) hx hb d_Md_put_IZJV_35 rfl ?_
      refine lv_topi (fun x_3 ex_3 => ?_)
      have h := h x_3 ex_3
      refine va_iast (f := (upd rr ((34 : Int32) + a0).toNatClampNeg a2.toInt32)) hx hb hK hP hD hS 2 0 rfl rfl h.1 d_Md_put_IZJV_36 (fun H locs (hP : va_P D vwCl (wD qd qmemory qr qcounts cI cB ms dd Lwhole Lwhole2 bm (upd (upd rr ((34 : Int32) + a0).toNatClampNeg a2.toInt32) ((35 : Int32) + a0).toNatClampNeg x_3) kt) H) (hD : va_D A (wD qd qmemory qr qcounts cI cB ms dd Lwhole Lwhole2 bm (upd (upd rr ((34 : Int32) + a0).toNatClampNeg a2.toInt32) ((35 : Int32) + a0).toNatClampNeg x_3) kt)) hS => ?_)
      have h := h.2
      exact W.vret hx hb hr (fun t ht hW => ⟨⟨(dd, Lwhole, Lwhole2, bm, (upd (upd rr ((34 : Int32) + a0).toNatClampNeg a2.toInt32) ((35 : Int32) + a0).toNatClampNeg x_3), kt), rfl, h, by rw [ht]; exact hP, hD⟩, hS.F ht⟩) hS.2.2 d_Md_put_IZJV_37
  · skip
    have h := h.2 c_1
    exact W.vret hx hb hr (fun t ht hW => ⟨⟨(dd, Lwhole, Lwhole2, bm, rr, kt), rfl, h, by rw [ht]; exact hP, hD⟩, hS.F ht⟩) hS.2.2 d_Md_put_IZJV_7
def wj_Md_wordOf_264 (ms : Int32) (a0 : Int32) (a1 : Int64) (a2 : Int32) (P : Int32 → ((Nat → Int32) × Int64 × Int64 × (Nat → Int32) × (Nat → Int32) × (Nat → Int32)) → Prop) (s264_0 : Int64) (z264dd : Nat → Int32) (z264Lwhole : Int64) (z264Lwhole2 : Int64) (z264bm : Nat → Int32) (z264rr : Nat → Int32) (z264kt : Nat → Int32) : Prop := ((s264_0 = s264_0.toInt32.toInt64 → P s264_0.toInt32 (z264dd, z264Lwhole, z264Lwhole2, z264bm, z264rr, z264kt)) ∧ (¬ s264_0 = s264_0.toInt32.toInt64 → P (2147483647 : Int32) (z264dd, z264Lwhole, z264Lwhole2, z264bm, z264rr, z264kt)))
def wj_Md_wordOf_249 (ms : Int32) (a0 : Int32) (a1 : Int64) (a2 : Int32) (P : Int32 → ((Nat → Int32) × Int64 × Int64 × (Nat → Int32) × (Nat → Int32) × (Nat → Int32)) → Prop) (j249_6 : Int64) (z249dd : Nat → Int32) (z249Lwhole : Int64) (z249Lwhole2 : Int64) (z249bm : Nat → Int32) (z249rr : Nat → Int32) (z249kt : Nat → Int32) : Prop := (((z249dd 18) = (0 : Int32) → wj_Md_wordOf_264 ms a0 a1 a2 P j249_6 z249dd z249Lwhole z249Lwhole2 z249bm z249rr z249kt) ∧ (¬ (z249dd 18) = (0 : Int32) → wj_Md_wordOf_264 ms a0 a1 a2 P (-j249_6) z249dd z249Lwhole z249Lwhole2 z249bm z249rr z249kt))
def wj_Md_wordOf_236 (ms : Int32) (a0 : Int32) (a1 : Int64) (a2 : Int32) (P : Int32 → ((Nat → Int32) × Int64 × Int64 × (Nat → Int32) × (Nat → Int32) × (Nat → Int32)) → Prop) (j236_6 : Int64) (s236_0 : Int32) (z236dd : Nat → Int32) (z236Lwhole : Int64) (z236Lwhole2 : Int64) (z236bm : Nat → Int32) (z236rr : Nat → Int32) (z236kt : Nat → Int32) : Prop := ((s236_0 = (0 : Int32) → wj_Md_wordOf_249 ms a0 a1 a2 P j236_6 z236dd z236Lwhole z236Lwhole2 z236bm z236rr z236kt) ∧ (¬ s236_0 = (0 : Int32) → ∀ x_4 : Int64, x_4 = (j236_6 + (1 : Int64)) → wj_Md_wordOf_249 ms a0 a1 a2 P x_4 z236dd z236Lwhole z236Lwhole2 z236bm z236rr z236kt))
def wj_Md_wordOf_235 (ms : Int32) (a0 : Int32) (a1 : Int64) (a2 : Int32) (P : Int32 → ((Nat → Int32) × Int64 × Int64 × (Nat → Int32) × (Nat → Int32) × (Nat → Int32)) → Prop) (j235_6 : Int64) (z235dd : Nat → Int32) (z235Lwhole : Int64) (z235Lwhole2 : Int64) (z235bm : Nat → Int32) (z235rr : Nat → Int32) (z235kt : Nat → Int32) : Prop := wj_Md_wordOf_236 ms a0 a1 a2 P j235_6 (0 : Int32) z235dd z235Lwhole z235Lwhole2 z235bm z235rr z235kt
def wj_Md_wordOf_231 (ms : Int32) (a0 : Int32) (a1 : Int64) (a2 : Int32) (P : Int32 → ((Nat → Int32) × Int64 × Int64 × (Nat → Int32) × (Nat → Int32) × (Nat → Int32)) → Prop) (j231_6 : Int64) (z231dd : Nat → Int32) (z231Lwhole : Int64) (z231Lwhole2 : Int64) (z231bm : Nat → Int32) (z231rr : Nat → Int32) (z231kt : Nat → Int32) : Prop := wj_Md_wordOf_236 ms a0 a1 a2 P j231_6 (1 : Int32) z231dd z231Lwhole z231Lwhole2 z231bm z231rr z231kt
def wj_Md_wordOf_195 (ms : Int32) (a0 : Int32) (a1 : Int64) (a2 : Int32) (P : Int32 → ((Nat → Int32) × Int64 × Int64 × (Nat → Int32) × (Nat → Int32) × (Nat → Int32)) → Prop) (j195_6 : Int64) (z195dd : Nat → Int32) (z195Lwhole : Int64) (z195Lwhole2 : Int64) (z195bm : Nat → Int32) (z195rr : Nat → Int32) (z195kt : Nat → Int32) : Prop := wj_Md_wordOf_236 ms a0 a1 a2 P j195_6 (0 : Int32) z195dd z195Lwhole z195Lwhole2 z195bm z195rr z195kt
def wj_Md_wordOf_169 (ms : Int32) (a0 : Int32) (a1 : Int64) (a2 : Int32) (P : Int32 → ((Nat → Int32) × Int64 × Int64 × (Nat → Int32) × (Nat → Int32) × (Nat → Int32)) → Prop) (j169_6 : Int64) (z169dd : Nat → Int32) (z169Lwhole : Int64) (z169Lwhole2 : Int64) (z169bm : Nat → Int32) (z169rr : Nat → Int32) (z169kt : Nat → Int32) : Prop := wj_Md_wordOf_236 ms a0 a1 a2 P j169_6 (0 : Int32) z169dd z169Lwhole z169Lwhole2 z169bm z169rr z169kt
def wj_Md_wordOf_135 (ms : Int32) (a0 : Int32) (a1 : Int64) (a2 : Int32) (P : Int32 → ((Nat → Int32) × Int64 × Int64 × (Nat → Int32) × (Nat → Int32) × (Nat → Int32)) → Prop) (j135_5 : Int32) (j135_6 : Int64) (j135_8 : Int32) (j135_9 : Int64) (s135_0 : Int64) (z135dd : Nat → Int32) (z135Lwhole : Int64) (z135Lwhole2 : Int64) (z135bm : Nat → Int32) (z135rr : Nat → Int32) (z135kt : Nat → Int32) : Prop := ((a0 = (13 : Int32) → wj_Md_wordOf_236 ms a0 a1 a2 P j135_6 (0 : Int32) z135dd z135Lwhole z135Lwhole2 z135bm z135rr z135kt) ∧ (¬ a0 = (13 : Int32) → ((a0 = (14 : Int32) → ((j135_8 = (0 : Int32) → wj_Md_wordOf_169 ms a0 a1 a2 P j135_6 z135dd z135Lwhole z135Lwhole2 z135bm z135rr z135kt) ∧ (¬ j135_8 = (0 : Int32) → (((z135dd 18) = (0 : Int32) → wj_Md_wordOf_236 ms a0 a1 a2 P j135_6 (1 : Int32) z135dd z135Lwhole z135Lwhole2 z135bm z135rr z135kt) ∧ (¬ (z135dd 18) = (0 : Int32) → wj_Md_wordOf_169 ms a0 a1 a2 P j135_6 z135dd z135Lwhole z135Lwhole2 z135bm z135rr z135kt))))) ∧ (¬ a0 = (14 : Int32) → ((a0 = (15 : Int32) → ((j135_8 = (0 : Int32) → wj_Md_wordOf_195 ms a0 a1 a2 P j135_6 z135dd z135Lwhole z135Lwhole2 z135bm z135rr z135kt) ∧ (¬ j135_8 = (0 : Int32) → (((z135dd 18) = (0 : Int32) → wj_Md_wordOf_195 ms a0 a1 a2 P j135_6 z135dd z135Lwhole z135Lwhole2 z135bm z135rr z135kt) ∧ (¬ (z135dd 18) = (0 : Int32) → wj_Md_wordOf_236 ms a0 a1 a2 P j135_6 (1 : Int32) z135dd z135Lwhole z135Lwhole2 z135bm z135rr z135kt))))) ∧ (¬ a0 = (15 : Int32) → (((62 : Int32) < j135_5 → wj_Md_wordOf_235 ms a0 a1 a2 P j135_6 z135dd z135Lwhole z135Lwhole2 z135bm z135rr z135kt) ∧ (¬ (62 : Int32) < j135_5 → ((j135_9 < s135_0 → wj_Md_wordOf_231 ms a0 a1 a2 P j135_6 z135dd z135Lwhole z135Lwhole2 z135bm z135rr z135kt) ∧ (¬ j135_9 < s135_0 → ((s135_0 = j135_9 → (((j135_6 &&& (1 : Int64)) = (1 : Int64) → wj_Md_wordOf_231 ms a0 a1 a2 P j135_6 z135dd z135Lwhole z135Lwhole2 z135bm z135rr z135kt) ∧ (¬ (j135_6 &&& (1 : Int64)) = (1 : Int64) → wj_Md_wordOf_235 ms a0 a1 a2 P j135_6 z135dd z135Lwhole z135Lwhole2 z135bm z135rr z135kt))) ∧ (¬ s135_0 = j135_9 → wj_Md_wordOf_235 ms a0 a1 a2 P j135_6 z135dd z135Lwhole z135Lwhole2 z135bm z135rr z135kt))))))))))))
def wj_Md_wordOf_111 (ms : Int32) (a0 : Int32) (a1 : Int64) (a2 : Int32) (P : Int32 → ((Nat → Int32) × Int64 × Int64 × (Nat → Int32) × (Nat → Int32) × (Nat → Int32)) → Prop) (j111_5 : Int32) (j111_6 : Int64) (j111_8 : Int32) (s111_0 : Int64) (z111dd : Nat → Int32) (z111Lwhole : Int64) (z111Lwhole2 : Int64) (z111bm : Nat → Int32) (z111rr : Nat → Int32) (z111kt : Nat → Int32) : Prop := ((j111_5 ≤ (62 : Int32) → ∀ x_17 : Int64, x_17 = ((zz_lshl (1 : Int64) j111_5) - (1 : Int64)) → wj_Md_wordOf_135 ms a0 a1 a2 P j111_5 j111_6 j111_8 s111_0 (z111Lwhole &&& x_17) z111dd z111Lwhole z111Lwhole2 z111bm z111rr z111kt) ∧ (¬ j111_5 ≤ (62 : Int32) → wj_Md_wordOf_135 ms a0 a1 a2 P j111_5 j111_6 j111_8 s111_0 (0 : Int64) z111dd z111Lwhole z111Lwhole2 z111bm z111rr z111kt))
def wj_Md_wordOf_92 (ms : Int32) (a0 : Int32) (a1 : Int64) (a2 : Int32) (P : Int32 → ((Nat → Int32) × Int64 × Int64 × (Nat → Int32) × (Nat → Int32) × (Nat → Int32)) → Prop) (j92_5 : Int32) (j92_6 : Int64) (s92_0 : Int32) (z92dd : Nat → Int32) (z92Lwhole : Int64) (z92Lwhole2 : Int64) (z92bm : Nat → Int32) (z92rr : Nat → Int32) (z92kt : Nat → Int32) : Prop := ((j92_5 ≤ (62 : Int32) → ∀ x_19 : Int64, x_19 = (zz_lshl (1 : Int64) (j92_5 - (1 : Int32))) → wj_Md_wordOf_111 ms a0 a1 a2 P j92_5 j92_6 s92_0 x_19 z92dd z92Lwhole z92Lwhole2 z92bm z92rr z92kt) ∧ (¬ j92_5 ≤ (62 : Int32) → wj_Md_wordOf_111 ms a0 a1 a2 P j92_5 j92_6 s92_0 (0 : Int64) z92dd z92Lwhole z92Lwhole2 z92bm z92rr z92kt))
def wj_Md_wordOf_87 (ms : Int32) (a0 : Int32) (a1 : Int64) (a2 : Int32) (P : Int32 → ((Nat → Int32) × Int64 × Int64 × (Nat → Int32) × (Nat → Int32) × (Nat → Int32)) → Prop) (j87_5 : Int32) (j87_6 : Int64) (z87dd : Nat → Int32) (z87Lwhole : Int64) (z87Lwhole2 : Int64) (z87bm : Nat → Int32) (z87rr : Nat → Int32) (z87kt : Nat → Int32) : Prop := wj_Md_wordOf_92 ms a0 a1 a2 P j87_5 j87_6 (1 : Int32) z87dd z87Lwhole z87Lwhole2 z87bm z87rr z87kt
def wj_Md_wordOf_62 (ms : Int32) (a0 : Int32) (a1 : Int64) (a2 : Int32) (P : Int32 → ((Nat → Int32) × Int64 × Int64 × (Nat → Int32) × (Nat → Int32) × (Nat → Int32)) → Prop) (j62_5 : Int32) (s62_0 : Int64) (z62dd : Nat → Int32) (z62Lwhole : Int64) (z62Lwhole2 : Int64) (z62bm : Nat → Int32) (z62rr : Nat → Int32) (z62kt : Nat → Int32) : Prop := (((62 : Int32) < j62_5 → wj_Md_wordOf_87 ms a0 a1 a2 P j62_5 s62_0 z62dd z62Lwhole z62Lwhole2 z62bm z62rr z62kt) ∧ (¬ (62 : Int32) < j62_5 → ∀ x_21 : Int64, x_21 = ((zz_lshl (1 : Int64) j62_5) - (1 : Int64)) → (((z62Lwhole &&& x_21) = (0 : Int64) → wj_Md_wordOf_92 ms a0 a1 a2 P j62_5 s62_0 (0 : Int32) z62dd z62Lwhole z62Lwhole2 z62bm z62rr z62kt) ∧ (¬ (z62Lwhole &&& x_21) = (0 : Int64) → wj_Md_wordOf_87 ms a0 a1 a2 P j62_5 s62_0 z62dd z62Lwhole z62Lwhole2 z62bm z62rr z62kt))))
def wp_Md_wordOf (ms : Int32) (dd : Nat → Int32) (Lwhole : Int64) (Lwhole2 : Int64) (bm : Nat → Int32) (rr : Nat → Int32) (kt : Nat → Int32) (a0 : Int32) (a1 : Int64) (a2 : Int32) (P : Int32 → ((Nat → Int32) × Int64 × Int64 × (Nat → Int32) × (Nat → Int32) × (Nat → Int32)) → Prop) : Prop := wp_Md_take ms dd Lwhole Lwhole2 bm rr kt a1 a2 (fun u_23 => (((u_23.1 14) = (0 : Int32) → P (0 : Int32) (u_23.1, u_23.2.1, u_23.2.2.1, u_23.2.2.2.1, u_23.2.2.2.2.1, u_23.2.2.2.2.2)) ∧ (¬ (u_23.1 14) = (0 : Int32) → (((u_23.1 14) = (1 : Int32) → (((u_23.1 15) ≤ (-21 : Int32) → ∀ x_28 : Int32, x_28 = (-(u_23.1 15)) → ((x_28 ≤ (62 : Int32) → wj_Md_wordOf_62 ms a0 a1 a2 P x_28 (zz_lshr u_23.2.1 x_28) u_23.1 u_23.2.1 u_23.2.2.1 u_23.2.2.2.1 u_23.2.2.2.2.1 u_23.2.2.2.2.2) ∧ (¬ x_28 ≤ (62 : Int32) → wj_Md_wordOf_62 ms a0 a1 a2 P x_28 (0 : Int64) u_23.1 u_23.2.1 u_23.2.2.1 u_23.2.2.2.1 u_23.2.2.2.2.1 u_23.2.2.2.2.2))) ∧ (¬ (u_23.1 15) ≤ (-21 : Int32) → P (2147483647 : Int32) (u_23.1, u_23.2.1, u_23.2.2.1, u_23.2.2.2.1, u_23.2.2.2.2.1, u_23.2.2.2.2.2)))) ∧ (¬ (u_23.1 14) = (1 : Int32) → P (2147483647 : Int32) (u_23.1, u_23.2.1, u_23.2.2.1, u_23.2.2.2.1, u_23.2.2.2.2.1, u_23.2.2.2.2.2))))))
abbrev rm_Md_wordOf : Room := { frames := 2, cells := 0, slots := 0, locals := 47 }
set_option maxHeartbeats 4000000 in
set_option maxRecDepth 100000 in
theorem c_Md_wordOf (l : Launch) (D : va_G) (cI : ClassId) (cB : ClassId) (qd : Nat) (qmemory : Nat) (qr : Nat) (qcounts : Nat) (ms : Int32) (dd : Nat → Int32) (Lwhole : Int64) (Lwhole2 : Int64) (bm : Nat → Int32) (rr : Nat → Int32) (kt : Nat → Int32) (a0 : Int32) (a1 : Int64) (a2 : Int32) (P : Int32 → ((Nat → Int32) × Int64 × Int64 × (Nat → Int32) × (Nat → Int32) × (Nat → Int32)) → Prop) (h : wp_Md_wordOf ms dd Lwhole Lwhole2 bm rr kt a0 a1 a2 P) (sz : Nat) : Met l y_Md_wordOf (zz_ws y_Md_wordOf b_Md_wordOf 16 (some .int)) rm_Md_wordOf (va_Pc [.ref qd, .int a0, .long a1, .int a2] (zz_pw D [(cI, .int), (cB, .byte)] (wD qd qmemory qr qcounts cI cB ms dd Lwhole Lwhole2 bm rr kt) sz)) (va_Qi P (zz_qw D (fun u => wD qd qmemory qr qcounts cI cB ms u.1 u.2.1 u.2.2.1 u.2.2.2.1 u.2.2.2.2.1 u.2.2.2.2.2) (va_A (wD qd qmemory qr qcounts cI cB ms dd Lwhole Lwhole2 bm rr kt) sz)) (va_A (wD qd qmemory qr qcounts cI cB ms dd Lwhole Lwhole2 bm rr kt) sz)) 0 0 (va_A (wD qd qmemory qr qcounts cI cB ms dd Lwhole Lwhole2 bm rr kt) sz) := by
  refine Met.ofW (cc := b_Md_wordOf) (maxL := 16) (ret := (some .int)) (by decide) rfl ?_
  intro p e s m args below meth c s₁ B hml hv
  obtain ⟨rfl, hsz, hP, hK, hD0⟩ := hv
  have hx := B.exec
  have hb := B.bytes
  have hr := B.returns
  have hts := atoms_spec (ws := (zz_ws y_Md_wordOf b_Md_wordOf 16 (some .int))) B.pre
  have hown : s.vm.findClass R_Md = some m.cls := findClass_of_methodNamed B.named
  have hlocks := B.notSynchronized
  have hT := zz_hts hts
  have X : CallFix p m c b_Md_wordOf 16 s ([.ref qd, .int a0, .long a1, .int a2] : List Value).toArray (zz_ws y_Md_wordOf b_Md_wordOf 16 (some .int)) R_Md := ⟨hx, hb, hml, hown, hts⟩
  have hf0 : 0 + 0 ≤ (headSpec (zz_ws y_Md_wordOf b_Md_wordOf 16 (some .int)) rm_Md_wordOf).room.cells ∧ 0 + 0 ≤ (headSpec (zz_ws y_Md_wordOf b_Md_wordOf 16 (some .int)) rm_Md_wordOf).room.slots := ⟨Nat.le_of_ble_eq_true rfl, Nat.le_of_ble_eq_true rfl⟩
  subst hsz
  have hD := hD0.self (sz := s.heap.size)
  generalize hAe : va_A (wD qd qmemory qr qcounts cI cB ms dd Lwhole Lwhole2 bm rr kt) s.heap.size = A at hD ⊢
  have hA : ∀ q : Nat, s.heap.size ≤ q → A q := fun q h => by rw [← hAe]; exact Or.inr h
  have hS : va_S A s.heap s.heap [] := va_S.rf
  have hl := lv_entry ([.ref qd, .int a0, .long a1, .int a2]) (n := 16) (Nat.le_of_ble_eq_true rfl)
  rw [lg_entry_eq]
  generalize (lg_sl ([.ref qd, .int a0, .long a1, .int a2]) ++ List.replicate (16 - (lg_sl ([.ref qd, .int a0, .long a1, .int a2])).length) Slot.unset).toArray = ls at hl ⊢
  have hl : lv_has ls 16 [(0, .ref qd), (1, .int a0), (2, .long a1), (4, .int a2)] := hl
  have jn_264 : ∀ (s264_0 : Int64) (z264dd : Nat → Int32) (z264Lwhole : Int64) (z264Lwhole2 : Int64) (z264bm : Nat → Int32) (z264rr : Nat → Int32) (z264kt : Nat → Int32), wj_Md_wordOf_264 ms a0 a1 a2 P s264_0 z264dd z264Lwhole z264Lwhole2 z264bm z264rr z264kt → ∀ (H : Heap) (locs : List Loc), va_P D vwCl (wD qd qmemory qr qcounts cI cB ms z264dd z264Lwhole z264Lwhole2 z264bm z264rr z264kt) H → va_D A (wD qd qmemory qr qcounts cI cB ms z264dd z264Lwhole z264Lwhole2 z264bm z264rr z264kt) → va_S A s.heap H locs → ∀ ls : Array Slot, lv_has ls 16 [] → W p l e (headSpec (zz_ws y_Md_wordOf b_Md_wordOf 16 (some .int)) rm_Md_wordOf).room s m ([.ref qd, .int a0, .long a1, .int a2] : List Value).toArray below meth c H locs 0 0 (MQ below (va_Qi P (zz_qw D (fun u => wD qd qmemory qr qcounts cI cB ms u.1 u.2.1 u.2.2.1 u.2.2.2.1 u.2.2.2.2.1 u.2.2.2.2.2) A) A) ([.ref qd, .int a0, .long a1, .int a2] : List Value).toArray s 0 0 A) (F0 m 264 ls [.long s264_0]) := by
    intro s264_0 z264dd z264Lwhole z264Lwhole2 z264bm z264rr z264kt h H locs hP hD hS ls hl
    unfold wj_Md_wordOf_264 at h
    refine lv_lstore (lv' := [(14, .long s264_0)]) hx hb d_Md_wordOf_264 hl (by decide) rfl (fun ls hl => ?_)
    refine lv_lload hx hb d_Md_wordOf_266 (lv_at hl 0 rfl) ?_
    refine lv_lload hx hb d_Md_wordOf_268 (lv_at hl 0 rfl) ?_
    refine lv_l2i (v := s264_0.toInt32) hx hb d_Md_wordOf_270 rfl ?_
    refine lv_i2l (v := s264_0.toInt32.toInt64) hx hb d_Md_wordOf_271 rfl ?_
    refine W.lcmp hx hb d_Md_wordOf_272 ?_
    refine lv_if_ne (tgt := 282) hx hb d_Md_wordOf_273 (by decide) (fun c_1 => ?_) (fun c_1 => ?_)
    · have kc_1 := (fun q => c_1 ((lg_cmp_eq _ _).mpr q))
      have h := h.2 kc_1
      refine lv_ldcw (v := 2147483647) hx hb hown (hT _ n_Md_318) d_Md_wordOf_282 ?_
      exact W.iret (v := (2147483647 : Int32)) hx hb hr (fun t ht hW => ⟨⟨(2147483647 : Int32), (z264dd, z264Lwhole, z264Lwhole2, z264bm, z264rr, z264kt), rfl, h, by rw [ht]; exact hP, hD⟩, hS.F ht⟩) hS.2.2 d_Md_wordOf_285
    · have kc_1 := ((lg_cmp_eq _ _).mp c_1)
      have h := h.1 kc_1
      refine lv_lload hx hb d_Md_wordOf_276 (lv_at hl 0 rfl) ?_
      refine lv_l2i (v := s264_0.toInt32) hx hb d_Md_wordOf_278 rfl ?_
      refine lv_goto (tgt := 285) hx hb d_Md_wordOf_279 (by decide) ?_
      exact W.iret (v := s264_0.toInt32) hx hb hr (fun t ht hW => ⟨⟨s264_0.toInt32, (z264dd, z264Lwhole, z264Lwhole2, z264bm, z264rr, z264kt), rfl, h, by rw [ht]; exact hP, hD⟩, hS.F ht⟩) hS.2.2 d_Md_wordOf_285
  have jn_249 : ∀ (j249_6 : Int64) (z249dd : Nat → Int32) (z249Lwhole : Int64) (z249Lwhole2 : Int64) (z249bm : Nat → Int32) (z249rr : Nat → Int32) (z249kt : Nat → Int32), wj_Md_wordOf_249 ms a0 a1 a2 P j249_6 z249dd z249Lwhole z249Lwhole2 z249bm z249rr z249kt → ∀ (H : Heap) (locs : List Loc), va_P D vwCl (wD qd qmemory qr qcounts cI cB ms z249dd z249Lwhole z249Lwhole2 z249bm z249rr z249kt) H → va_D A (wD qd qmemory qr qcounts cI cB ms z249dd z249Lwhole z249Lwhole2 z249bm z249rr z249kt) → va_S A s.heap H locs → ∀ ls : Array Slot, lv_has ls 16 [(0, .ref qd), (6, .long j249_6)] → W p l e (headSpec (zz_ws y_Md_wordOf b_Md_wordOf 16 (some .int)) rm_Md_wordOf).room s m ([.ref qd, .int a0, .long a1, .int a2] : List Value).toArray below meth c H locs 0 0 (MQ below (va_Qi P (zz_qw D (fun u => wD qd qmemory qr qcounts cI cB ms u.1 u.2.1 u.2.2.1 u.2.2.2.1 u.2.2.2.2.1 u.2.2.2.2.2) A) A) ([.ref qd, .int a0, .long a1, .int a2] : List Value).toArray s 0 0 A) (F0 m 249 ls []) := by
    intro j249_6 z249dd z249Lwhole z249Lwhole2 z249bm z249rr z249kt h H locs hP hD hS ls hl
    unfold wj_Md_wordOf_249 at h
    refine lv_aload_n hx hb d_Md_wordOf_249 rfl (lv_at hl 0 rfl) ?_
    refine g_Md_197 (v := .int (z249dd 18)) hx hb hT hown hK hP 0 rfl rfl d_Md_wordOf_250 ?_
    refine lv_if_eq (tgt := 262) hx hb d_Md_wordOf_253 (by decide) (fun c_2 => ?_) (fun c_2 => ?_)
    · skip
      have h := h.1 c_2
      refine lv_lload hx hb d_Md_wordOf_262 (lv_at hl 1 rfl) ?_
      exact jn_264 j249_6 z249dd z249Lwhole z249Lwhole2 z249bm z249rr z249kt h _ _ hP hD hS ls (lv_sub hl [] rfl)
    · skip
      have h := h.2 c_2
      refine lv_lload hx hb d_Md_wordOf_256 (lv_at hl 1 rfl) ?_
      refine lv_lneg hx hb d_Md_wordOf_258 ?_
      refine lv_goto (tgt := 264) hx hb d_Md_wordOf_259 (by decide) ?_
      exact jn_264 (-j249_6) z249dd z249Lwhole z249Lwhole2 z249bm z249rr z249kt h _ _ hP hD hS ls (lv_sub hl [] rfl)
  have jn_236 : ∀ (j236_6 : Int64) (s236_0 : Int32) (z236dd : Nat → Int32) (z236Lwhole : Int64) (z236Lwhole2 : Int64) (z236bm : Nat → Int32) (z236rr : Nat → Int32) (z236kt : Nat → Int32), wj_Md_wordOf_236 ms a0 a1 a2 P j236_6 s236_0 z236dd z236Lwhole z236Lwhole2 z236bm z236rr z236kt → ∀ (H : Heap) (locs : List Loc), va_P D vwCl (wD qd qmemory qr qcounts cI cB ms z236dd z236Lwhole z236Lwhole2 z236bm z236rr z236kt) H → va_D A (wD qd qmemory qr qcounts cI cB ms z236dd z236Lwhole z236Lwhole2 z236bm z236rr z236kt) → va_S A s.heap H locs → ∀ ls : Array Slot, lv_has ls 16 [(0, .ref qd), (6, .long j236_6)] → W p l e (headSpec (zz_ws y_Md_wordOf b_Md_wordOf 16 (some .int)) rm_Md_wordOf).room s m ([.ref qd, .int a0, .long a1, .int a2] : List Value).toArray below meth c H locs 0 0 (MQ below (va_Qi P (zz_qw D (fun u => wD qd qmemory qr qcounts cI cB ms u.1 u.2.1 u.2.2.1 u.2.2.2.1 u.2.2.2.2.1 u.2.2.2.2.2) A) A) ([.ref qd, .int a0, .long a1, .int a2] : List Value).toArray s 0 0 A) (F0 m 236 ls [.int s236_0]) := by
    intro j236_6 s236_0 z236dd z236Lwhole z236Lwhole2 z236bm z236rr z236kt h H locs hP hD hS ls hl
    unfold wj_Md_wordOf_236 at h
    refine lv_istore (lv' := [(13, .int s236_0), (0, .ref qd), (6, .long j236_6)]) hx hb d_Md_wordOf_236 hl (by decide) rfl (fun ls hl => ?_)
    refine lv_iload hx hb d_Md_wordOf_238 (lv_at hl 0 rfl) ?_
    refine lv_if_eq (tgt := 249) hx hb d_Md_wordOf_240 (by decide) (fun c_3 => ?_) (fun c_3 => ?_)
    · skip
      have h := h.1 c_3
      exact jn_249 j236_6 z236dd z236Lwhole z236Lwhole2 z236bm z236rr z236kt h _ _ hP hD hS ls (lv_sub hl [1, 2] rfl)
    · skip
      have h := h.2 c_3
      refine lv_lload hx hb d_Md_wordOf_243 (lv_at hl 2 rfl) ?_
      refine lv_lconst (v := 1) hx hb d_Md_wordOf_245 (by decide) ?_
      refine lv_ladd hx hb d_Md_wordOf_246 ?_
      refine lv_topl (fun x_4 ex_4 => ?_)
      have h := h x_4 ex_4
      refine lv_lstore (lv' := [(6, .long x_4), (13, .int s236_0), (0, .ref qd)]) hx hb d_Md_wordOf_247 hl (by decide) rfl (fun ls hl => ?_)
      exact jn_249 x_4 z236dd z236Lwhole z236Lwhole2 z236bm z236rr z236kt h _ _ hP hD hS ls (lv_sub hl [2, 0] rfl)
  have jn_235 : ∀ (j235_6 : Int64) (z235dd : Nat → Int32) (z235Lwhole : Int64) (z235Lwhole2 : Int64) (z235bm : Nat → Int32) (z235rr : Nat → Int32) (z235kt : Nat → Int32), wj_Md_wordOf_235 ms a0 a1 a2 P j235_6 z235dd z235Lwhole z235Lwhole2 z235bm z235rr z235kt → ∀ (H : Heap) (locs : List Loc), va_P D vwCl (wD qd qmemory qr qcounts cI cB ms z235dd z235Lwhole z235Lwhole2 z235bm z235rr z235kt) H → va_D A (wD qd qmemory qr qcounts cI cB ms z235dd z235Lwhole z235Lwhole2 z235bm z235rr z235kt) → va_S A s.heap H locs → ∀ ls : Array Slot, lv_has ls 16 [(0, .ref qd), (6, .long j235_6)] → W p l e (headSpec (zz_ws y_Md_wordOf b_Md_wordOf 16 (some .int)) rm_Md_wordOf).room s m ([.ref qd, .int a0, .long a1, .int a2] : List Value).toArray below meth c H locs 0 0 (MQ below (va_Qi P (zz_qw D (fun u => wD qd qmemory qr qcounts cI cB ms u.1 u.2.1 u.2.2.1 u.2.2.2.1 u.2.2.2.2.1 u.2.2.2.2.2) A) A) ([.ref qd, .int a0, .long a1, .int a2] : List Value).toArray s 0 0 A) (F0 m 235 ls []) := by
    intro j235_6 z235dd z235Lwhole z235Lwhole2 z235bm z235rr z235kt h H locs hP hD hS ls hl
    unfold wj_Md_wordOf_235 at h
    refine lv_iconst (v := 0) hx hb d_Md_wordOf_235 (by decide) ?_
    exact jn_236 j235_6 (0 : Int32) z235dd z235Lwhole z235Lwhole2 z235bm z235rr z235kt h _ _ hP hD hS ls (lv_sub hl [0, 1] rfl)
  have jn_231 : ∀ (j231_6 : Int64) (z231dd : Nat → Int32) (z231Lwhole : Int64) (z231Lwhole2 : Int64) (z231bm : Nat → Int32) (z231rr : Nat → Int32) (z231kt : Nat → Int32), wj_Md_wordOf_231 ms a0 a1 a2 P j231_6 z231dd z231Lwhole z231Lwhole2 z231bm z231rr z231kt → ∀ (H : Heap) (locs : List Loc), va_P D vwCl (wD qd qmemory qr qcounts cI cB ms z231dd z231Lwhole z231Lwhole2 z231bm z231rr z231kt) H → va_D A (wD qd qmemory qr qcounts cI cB ms z231dd z231Lwhole z231Lwhole2 z231bm z231rr z231kt) → va_S A s.heap H locs → ∀ ls : Array Slot, lv_has ls 16 [(0, .ref qd), (6, .long j231_6)] → W p l e (headSpec (zz_ws y_Md_wordOf b_Md_wordOf 16 (some .int)) rm_Md_wordOf).room s m ([.ref qd, .int a0, .long a1, .int a2] : List Value).toArray below meth c H locs 0 0 (MQ below (va_Qi P (zz_qw D (fun u => wD qd qmemory qr qcounts cI cB ms u.1 u.2.1 u.2.2.1 u.2.2.2.1 u.2.2.2.2.1 u.2.2.2.2.2) A) A) ([.ref qd, .int a0, .long a1, .int a2] : List Value).toArray s 0 0 A) (F0 m 231 ls []) := by
    intro j231_6 z231dd z231Lwhole z231Lwhole2 z231bm z231rr z231kt h H locs hP hD hS ls hl
    unfold wj_Md_wordOf_231 at h
    refine lv_iconst (v := 1) hx hb d_Md_wordOf_231 (by decide) ?_
    refine lv_goto (tgt := 236) hx hb d_Md_wordOf_232 (by decide) ?_
    exact jn_236 j231_6 (1 : Int32) z231dd z231Lwhole z231Lwhole2 z231bm z231rr z231kt h _ _ hP hD hS ls (lv_sub hl [0, 1] rfl)
  have jn_195 : ∀ (j195_6 : Int64) (z195dd : Nat → Int32) (z195Lwhole : Int64) (z195Lwhole2 : Int64) (z195bm : Nat → Int32) (z195rr : Nat → Int32) (z195kt : Nat → Int32), wj_Md_wordOf_195 ms a0 a1 a2 P j195_6 z195dd z195Lwhole z195Lwhole2 z195bm z195rr z195kt → ∀ (H : Heap) (locs : List Loc), va_P D vwCl (wD qd qmemory qr qcounts cI cB ms z195dd z195Lwhole z195Lwhole2 z195bm z195rr z195kt) H → va_D A (wD qd qmemory qr qcounts cI cB ms z195dd z195Lwhole z195Lwhole2 z195bm z195rr z195kt) → va_S A s.heap H locs → ∀ ls : Array Slot, lv_has ls 16 [(0, .ref qd), (6, .long j195_6)] → W p l e (headSpec (zz_ws y_Md_wordOf b_Md_wordOf 16 (some .int)) rm_Md_wordOf).room s m ([.ref qd, .int a0, .long a1, .int a2] : List Value).toArray below meth c H locs 0 0 (MQ below (va_Qi P (zz_qw D (fun u => wD qd qmemory qr qcounts cI cB ms u.1 u.2.1 u.2.2.1 u.2.2.2.1 u.2.2.2.2.1 u.2.2.2.2.2) A) A) ([.ref qd, .int a0, .long a1, .int a2] : List Value).toArray s 0 0 A) (F0 m 195 ls []) := by
    intro j195_6 z195dd z195Lwhole z195Lwhole2 z195bm z195rr z195kt h H locs hP hD hS ls hl
    unfold wj_Md_wordOf_195 at h
    refine lv_iconst (v := 0) hx hb d_Md_wordOf_195 (by decide) ?_
    refine lv_goto (tgt := 236) hx hb d_Md_wordOf_196 (by decide) ?_
    exact jn_236 j195_6 (0 : Int32) z195dd z195Lwhole z195Lwhole2 z195bm z195rr z195kt h _ _ hP hD hS ls (lv_sub hl [0, 1] rfl)
  have jn_169 : ∀ (j169_6 : Int64) (z169dd : Nat → Int32) (z169Lwhole : Int64) (z169Lwhole2 : Int64) (z169bm : Nat → Int32) (z169rr : Nat → Int32) (z169kt : Nat → Int32), wj_Md_wordOf_169 ms a0 a1 a2 P j169_6 z169dd z169Lwhole z169Lwhole2 z169bm z169rr z169kt → ∀ (H : Heap) (locs : List Loc), va_P D vwCl (wD qd qmemory qr qcounts cI cB ms z169dd z169Lwhole z169Lwhole2 z169bm z169rr z169kt) H → va_D A (wD qd qmemory qr qcounts cI cB ms z169dd z169Lwhole z169Lwhole2 z169bm z169rr z169kt) → va_S A s.heap H locs → ∀ ls : Array Slot, lv_has ls 16 [(0, .ref qd), (6, .long j169_6)] → W p l e (headSpec (zz_ws y_Md_wordOf b_Md_wordOf 16 (some .int)) rm_Md_wordOf).room s m ([.ref qd, .int a0, .long a1, .int a2] : List Value).toArray below meth c H locs 0 0 (MQ below (va_Qi P (zz_qw D (fun u => wD qd qmemory qr qcounts cI cB ms u.1 u.2.1 u.2.2.1 u.2.2.2.1 u.2.2.2.2.1 u.2.2.2.2.2) A) A) ([.ref qd, .int a0, .long a1, .int a2] : List Value).toArray s 0 0 A) (F0 m 169 ls []) := by
    intro j169_6 z169dd z169Lwhole z169Lwhole2 z169bm z169rr z169kt h H locs hP hD hS ls hl
    unfold wj_Md_wordOf_169 at h
    refine lv_iconst (v := 0) hx hb d_Md_wordOf_169 (by decide) ?_
    refine lv_goto (tgt := 236) hx hb d_Md_wordOf_170 (by decide) ?_
    exact jn_236 j169_6 (0 : Int32) z169dd z169Lwhole z169Lwhole2 z169bm z169rr z169kt h _ _ hP hD hS ls (lv_sub hl [0, 1] rfl)
  have jn_135 : ∀ (j135_5 : Int32) (j135_6 : Int64) (j135_8 : Int32) (j135_9 : Int64) (s135_0 : Int64) (z135dd : Nat → Int32) (z135Lwhole : Int64) (z135Lwhole2 : Int64) (z135bm : Nat → Int32) (z135rr : Nat → Int32) (z135kt : Nat → Int32), wj_Md_wordOf_135 ms a0 a1 a2 P j135_5 j135_6 j135_8 j135_9 s135_0 z135dd z135Lwhole z135Lwhole2 z135bm z135rr z135kt → ∀ (H : Heap) (locs : List Loc), va_P D vwCl (wD qd qmemory qr qcounts cI cB ms z135dd z135Lwhole z135Lwhole2 z135bm z135rr z135kt) H → va_D A (wD qd qmemory qr qcounts cI cB ms z135dd z135Lwhole z135Lwhole2 z135bm z135rr z135kt) → va_S A s.heap H locs → ∀ ls : Array Slot, lv_has ls 16 [(0, .ref qd), (1, .int a0), (5, .int j135_5), (6, .long j135_6), (8, .int j135_8), (9, .long j135_9)] → W p l e (headSpec (zz_ws y_Md_wordOf b_Md_wordOf 16 (some .int)) rm_Md_wordOf).room s m ([.ref qd, .int a0, .long a1, .int a2] : List Value).toArray below meth c H locs 0 0 (MQ below (va_Qi P (zz_qw D (fun u => wD qd qmemory qr qcounts cI cB ms u.1 u.2.1 u.2.2.1 u.2.2.2.1 u.2.2.2.2.1 u.2.2.2.2.2) A) A) ([.ref qd, .int a0, .long a1, .int a2] : List Value).toArray s 0 0 A) (F0 m 135 ls [.long s135_0]) := by
    intro j135_5 j135_6 j135_8 j135_9 s135_0 z135dd z135Lwhole z135Lwhole2 z135bm z135rr z135kt h H locs hP hD hS ls hl
    unfold wj_Md_wordOf_135 at h
    refine lv_lstore (lv' := [(11, .long s135_0), (0, .ref qd), (1, .int a0), (5, .int j135_5), (6, .long j135_6), (8, .int j135_8), (9, .long j135_9)]) hx hb d_Md_wordOf_135 hl (by decide) rfl (fun ls hl => ?_)
    refine lv_iload_n hx hb d_Md_wordOf_137 rfl (lv_at hl 2 rfl) ?_
    refine lv_bipush (v := 13) hx hb d_Md_wordOf_138 (by decide) ?_
    refine lv_icmp_ne (tgt := 147) hx hb d_Md_wordOf_140 (by decide) (fun c_5 => ?_) (fun c_5 => ?_)
    · skip
      have h := h.2 c_5
      refine lv_iload_n hx hb d_Md_wordOf_147 rfl (lv_at hl 2 rfl) ?_
      refine lv_bipush (v := 14) hx hb d_Md_wordOf_148 (by decide) ?_
      refine lv_icmp_ne (tgt := 173) hx hb d_Md_wordOf_150 (by decide) (fun c_6 => ?_) (fun c_6 => ?_)
      · skip
        have h := h.2 c_6
        refine lv_iload_n hx hb d_Md_wordOf_173 rfl (lv_at hl 2 rfl) ?_
        refine lv_bipush (v := 15) hx hb d_Md_wordOf_174 (by decide) ?_
        refine lv_icmp_ne (tgt := 199) hx hb d_Md_wordOf_176 (by decide) (fun c_7 => ?_) (fun c_7 => ?_)
        · skip
          have h := h.2 c_7
          refine lv_iload hx hb d_Md_wordOf_199 (lv_at hl 3 rfl) ?_
          refine lv_bipush (v := 62) hx hb d_Md_wordOf_201 (by decide) ?_
          refine lv_icmp_gt (tgt := 235) hx hb d_Md_wordOf_203 (by decide) (fun c_8 => ?_) (fun c_8 => ?_)
          · skip
            have h := h.1 c_8
            exact jn_235 j135_6 z135dd z135Lwhole z135Lwhole2 z135bm z135rr z135kt h _ _ hP hD hS ls (lv_sub hl [1, 4] rfl)
          · skip
            have h := h.2 c_8
            refine lv_lload hx hb d_Md_wordOf_206 (lv_at hl 0 rfl) ?_
            refine lv_lload hx hb d_Md_wordOf_208 (lv_at hl 6 rfl) ?_
            refine W.lcmp hx hb d_Md_wordOf_210 ?_
            refine lv_if_gt (tgt := 231) hx hb d_Md_wordOf_211 (by decide) (fun c_9 => ?_) (fun c_9 => ?_)
            · have kc_9 := ((lg_cmp_gt _ _).mp c_9)
              have h := h.1 kc_9
              exact jn_231 j135_6 z135dd z135Lwhole z135Lwhole2 z135bm z135rr z135kt h _ _ hP hD hS ls (lv_sub hl [1, 4] rfl)
            · have kc_9 := (fun q => c_9 ((lg_cmp_gt _ _).mpr q))
              have h := h.2 kc_9
              refine lv_lload hx hb d_Md_wordOf_214 (lv_at hl 0 rfl) ?_
              refine lv_lload hx hb d_Md_wordOf_216 (lv_at hl 6 rfl) ?_
              refine W.lcmp hx hb d_Md_wordOf_218 ?_
              refine lv_if_ne (tgt := 235) hx hb d_Md_wordOf_219 (by decide) (fun c_10 => ?_) (fun c_10 => ?_)
              · have kc_10 := (fun q => c_10 ((lg_cmp_eq _ _).mpr q))
                have h := h.2 kc_10
                exact jn_235 j135_6 z135dd z135Lwhole z135Lwhole2 z135bm z135rr z135kt h _ _ hP hD hS ls (lv_sub hl [1, 4] rfl)
              · have kc_10 := ((lg_cmp_eq _ _).mp c_10)
                have h := h.1 kc_10
                refine lv_lload hx hb d_Md_wordOf_222 (lv_at hl 4 rfl) ?_
                refine lv_lconst (v := 1) hx hb d_Md_wordOf_224 (by decide) ?_
                refine lv_land hx hb d_Md_wordOf_225 ?_
                refine lv_lconst (v := 1) hx hb d_Md_wordOf_226 (by decide) ?_
                refine W.lcmp hx hb d_Md_wordOf_227 ?_
                refine lv_if_ne (tgt := 235) hx hb d_Md_wordOf_228 (by decide) (fun c_11 => ?_) (fun c_11 => ?_)
                · have kc_11 := (fun q => c_11 ((lg_cmp_eq _ _).mpr q))
                  have h := h.2 kc_11
                  exact jn_235 j135_6 z135dd z135Lwhole z135Lwhole2 z135bm z135rr z135kt h _ _ hP hD hS ls (lv_sub hl [1, 4] rfl)
                · have kc_11 := ((lg_cmp_eq _ _).mp c_11)
                  have h := h.1 kc_11
                  exact jn_231 j135_6 z135dd z135Lwhole z135Lwhole2 z135bm z135rr z135kt h _ _ hP hD hS ls (lv_sub hl [1, 4] rfl)
        · skip
          have h := h.1 c_7
          refine lv_iload hx hb d_Md_wordOf_179 (lv_at hl 5 rfl) ?_
          refine lv_if_eq (tgt := 195) hx hb d_Md_wordOf_181 (by decide) (fun c_12 => ?_) (fun c_12 => ?_)
          · skip
            have h := h.1 c_12
            exact jn_195 j135_6 z135dd z135Lwhole z135Lwhole2 z135bm z135rr z135kt h _ _ hP hD hS ls (lv_sub hl [1, 4] rfl)
          · skip
            have h := h.2 c_12
            refine lv_aload_n hx hb d_Md_wordOf_184 rfl (lv_at hl 1 rfl) ?_
            refine g_Md_197 (v := .int (z135dd 18)) hx hb hT hown hK hP 0 rfl rfl d_Md_wordOf_185 ?_
            refine lv_if_eq (tgt := 195) hx hb d_Md_wordOf_188 (by decide) (fun c_13 => ?_) (fun c_13 => ?_)
            · skip
              have h := h.1 c_13
              exact jn_195 j135_6 z135dd z135Lwhole z135Lwhole2 z135bm z135rr z135kt h _ _ hP hD hS ls (lv_sub hl [1, 4] rfl)
            · skip
              have h := h.2 c_13
              refine lv_iconst (v := 1) hx hb d_Md_wordOf_191 (by decide) ?_
              refine lv_goto (tgt := 236) hx hb d_Md_wordOf_192 (by decide) ?_
              exact jn_236 j135_6 (1 : Int32) z135dd z135Lwhole z135Lwhole2 z135bm z135rr z135kt h _ _ hP hD hS ls (lv_sub hl [1, 4] rfl)
      · skip
        have h := h.1 c_6
        refine lv_iload hx hb d_Md_wordOf_153 (lv_at hl 5 rfl) ?_
        refine lv_if_eq (tgt := 169) hx hb d_Md_wordOf_155 (by decide) (fun c_14 => ?_) (fun c_14 => ?_)
        · skip
          have h := h.1 c_14
          exact jn_169 j135_6 z135dd z135Lwhole z135Lwhole2 z135bm z135rr z135kt h _ _ hP hD hS ls (lv_sub hl [1, 4] rfl)
        · skip
          have h := h.2 c_14
          refine lv_aload_n hx hb d_Md_wordOf_158 rfl (lv_at hl 1 rfl) ?_
          refine g_Md_197 (v := .int (z135dd 18)) hx hb hT hown hK hP 0 rfl rfl d_Md_wordOf_159 ?_
          refine lv_if_ne (tgt := 169) hx hb d_Md_wordOf_162 (by decide) (fun c_15 => ?_) (fun c_15 => ?_)
          · skip
            have h := h.2 c_15
            exact jn_169 j135_6 z135dd z135Lwhole z135Lwhole2 z135bm z135rr z135kt h _ _ hP hD hS ls (lv_sub hl [1, 4] rfl)
          · skip
            have h := h.1 c_15
            refine lv_iconst (v := 1) hx hb d_Md_wordOf_165 (by decide) ?_
            refine lv_goto (tgt := 236) hx hb d_Md_wordOf_166 (by decide) ?_
            exact jn_236 j135_6 (1 : Int32) z135dd z135Lwhole z135Lwhole2 z135bm z135rr z135kt h _ _ hP hD hS ls (lv_sub hl [1, 4] rfl)
    · skip
      have h := h.1 c_5
      refine lv_iconst (v := 0) hx hb d_Md_wordOf_143 (by decide) ?_
      refine lv_goto (tgt := 236) hx hb d_Md_wordOf_144 (by decide) ?_
      exact jn_236 j135_6 (0 : Int32) z135dd z135Lwhole z135Lwhole2 z135bm z135rr z135kt h _ _ hP hD hS ls (lv_sub hl [1, 4] rfl)
  have jn_111 : ∀ (j111_5 : Int32) (j111_6 : Int64) (j111_8 : Int32) (s111_0 : Int64) (z111dd : Nat → Int32) (z111Lwhole : Int64) (z111Lwhole2 : Int64) (z111bm : Nat → Int32) (z111rr : Nat → Int32) (z111kt : Nat → Int32), wj_Md_wordOf_111 ms a0 a1 a2 P j111_5 j111_6 j111_8 s111_0 z111dd z111Lwhole z111Lwhole2 z111bm z111rr z111kt → ∀ (H : Heap) (locs : List Loc), va_P D vwCl (wD qd qmemory qr qcounts cI cB ms z111dd z111Lwhole z111Lwhole2 z111bm z111rr z111kt) H → va_D A (wD qd qmemory qr qcounts cI cB ms z111dd z111Lwhole z111Lwhole2 z111bm z111rr z111kt) → va_S A s.heap H locs → ∀ ls : Array Slot, lv_has ls 16 [(0, .ref qd), (1, .int a0), (5, .int j111_5), (6, .long j111_6), (8, .int j111_8)] → W p l e (headSpec (zz_ws y_Md_wordOf b_Md_wordOf 16 (some .int)) rm_Md_wordOf).room s m ([.ref qd, .int a0, .long a1, .int a2] : List Value).toArray below meth c H locs 0 0 (MQ below (va_Qi P (zz_qw D (fun u => wD qd qmemory qr qcounts cI cB ms u.1 u.2.1 u.2.2.1 u.2.2.2.1 u.2.2.2.2.1 u.2.2.2.2.2) A) A) ([.ref qd, .int a0, .long a1, .int a2] : List Value).toArray s 0 0 A) (F0 m 111 ls [.long s111_0]) := by
    intro j111_5 j111_6 j111_8 s111_0 z111dd z111Lwhole z111Lwhole2 z111bm z111rr z111kt h H locs hP hD hS ls hl
    unfold wj_Md_wordOf_111 at h
    refine lv_lstore (lv' := [(9, .long s111_0), (0, .ref qd), (1, .int a0), (5, .int j111_5), (6, .long j111_6), (8, .int j111_8)]) hx hb d_Md_wordOf_111 hl (by decide) rfl (fun ls hl => ?_)
    refine lv_iload hx hb d_Md_wordOf_113 (lv_at hl 3 rfl) ?_
    refine lv_bipush (v := 62) hx hb d_Md_wordOf_115 (by decide) ?_
    refine lv_icmp_le (tgt := 124) hx hb d_Md_wordOf_117 (by decide) (fun c_16 => ?_) (fun c_16 => ?_)
    · skip
      have h := h.1 c_16
      refine lv_aload_n hx hb d_Md_wordOf_124 rfl (lv_at hl 1 rfl) ?_
      refine g_Md_200 (v := .long z111Lwhole) hx hb hT hown hK hP 0 rfl rfl d_Md_wordOf_125 ?_
      refine lv_lconst (v := 1) hx hb d_Md_wordOf_128 (by decide) ?_
      refine lv_iload hx hb d_Md_wordOf_129 (lv_at hl 3 rfl) ?_
      refine zz_llshl hx hb d_Md_wordOf_131 ?_
      refine lv_lconst (v := 1) hx hb d_Md_wordOf_132 (by decide) ?_
      refine lv_lsub hx hb d_Md_wordOf_133 ?_
      refine lv_topl (fun x_17 ex_17 => ?_)
      have h := h x_17 ex_17
      refine lv_land hx hb d_Md_wordOf_134 ?_
      exact jn_135 j111_5 j111_6 j111_8 s111_0 (z111Lwhole &&& x_17) z111dd z111Lwhole z111Lwhole2 z111bm z111rr z111kt h _ _ hP hD hS ls (lv_sub hl [1, 2, 3, 4, 5, 0] rfl)
    · skip
      have h := h.2 c_16
      refine lv_lconst (v := 0) hx hb d_Md_wordOf_120 (by decide) ?_
      refine lv_goto (tgt := 135) hx hb d_Md_wordOf_121 (by decide) ?_
      exact jn_135 j111_5 j111_6 j111_8 s111_0 (0 : Int64) z111dd z111Lwhole z111Lwhole2 z111bm z111rr z111kt h _ _ hP hD hS ls (lv_sub hl [1, 2, 3, 4, 5, 0] rfl)
  have jn_92 : ∀ (j92_5 : Int32) (j92_6 : Int64) (s92_0 : Int32) (z92dd : Nat → Int32) (z92Lwhole : Int64) (z92Lwhole2 : Int64) (z92bm : Nat → Int32) (z92rr : Nat → Int32) (z92kt : Nat → Int32), wj_Md_wordOf_92 ms a0 a1 a2 P j92_5 j92_6 s92_0 z92dd z92Lwhole z92Lwhole2 z92bm z92rr z92kt → ∀ (H : Heap) (locs : List Loc), va_P D vwCl (wD qd qmemory qr qcounts cI cB ms z92dd z92Lwhole z92Lwhole2 z92bm z92rr z92kt) H → va_D A (wD qd qmemory qr qcounts cI cB ms z92dd z92Lwhole z92Lwhole2 z92bm z92rr z92kt) → va_S A s.heap H locs → ∀ ls : Array Slot, lv_has ls 16 [(0, .ref qd), (1, .int a0), (5, .int j92_5), (6, .long j92_6)] → W p l e (headSpec (zz_ws y_Md_wordOf b_Md_wordOf 16 (some .int)) rm_Md_wordOf).room s m ([.ref qd, .int a0, .long a1, .int a2] : List Value).toArray below meth c H locs 0 0 (MQ below (va_Qi P (zz_qw D (fun u => wD qd qmemory qr qcounts cI cB ms u.1 u.2.1 u.2.2.1 u.2.2.2.1 u.2.2.2.2.1 u.2.2.2.2.2) A) A) ([.ref qd, .int a0, .long a1, .int a2] : List Value).toArray s 0 0 A) (F0 m 92 ls [.int s92_0]) := by
    intro j92_5 j92_6 s92_0 z92dd z92Lwhole z92Lwhole2 z92bm z92rr z92kt h H locs hP hD hS ls hl
    unfold wj_Md_wordOf_92 at h
    refine lv_istore (lv' := [(8, .int s92_0), (0, .ref qd), (1, .int a0), (5, .int j92_5), (6, .long j92_6)]) hx hb d_Md_wordOf_92 hl (by decide) rfl (fun ls hl => ?_)
    refine lv_iload hx hb d_Md_wordOf_94 (lv_at hl 3 rfl) ?_
    refine lv_bipush (v := 62) hx hb d_Md_wordOf_96 (by decide) ?_
    refine lv_icmp_le (tgt := 105) hx hb d_Md_wordOf_98 (by decide) (fun c_18 => ?_) (fun c_18 => ?_)
    · skip
      have h := h.1 c_18
      refine lv_lconst (v := 1) hx hb d_Md_wordOf_105 (by decide) ?_
      refine lv_iload hx hb d_Md_wordOf_106 (lv_at hl 3 rfl) ?_
      refine lv_iconst (v := 1) hx hb d_Md_wordOf_108 (by decide) ?_
      refine lv_isub hx hb d_Md_wordOf_109 ?_
      refine zz_llshl hx hb d_Md_wordOf_110 ?_
      refine lv_topl (fun x_19 ex_19 => ?_)
      have h := h x_19 ex_19
      exact jn_111 j92_5 j92_6 s92_0 x_19 z92dd z92Lwhole z92Lwhole2 z92bm z92rr z92kt h _ _ hP hD hS ls (lv_sub hl [1, 2, 3, 4, 0] rfl)
    · skip
      have h := h.2 c_18
      refine lv_lconst (v := 0) hx hb d_Md_wordOf_101 (by decide) ?_
      refine lv_goto (tgt := 111) hx hb d_Md_wordOf_102 (by decide) ?_
      exact jn_111 j92_5 j92_6 s92_0 (0 : Int64) z92dd z92Lwhole z92Lwhole2 z92bm z92rr z92kt h _ _ hP hD hS ls (lv_sub hl [1, 2, 3, 4, 0] rfl)
  have jn_87 : ∀ (j87_5 : Int32) (j87_6 : Int64) (z87dd : Nat → Int32) (z87Lwhole : Int64) (z87Lwhole2 : Int64) (z87bm : Nat → Int32) (z87rr : Nat → Int32) (z87kt : Nat → Int32), wj_Md_wordOf_87 ms a0 a1 a2 P j87_5 j87_6 z87dd z87Lwhole z87Lwhole2 z87bm z87rr z87kt → ∀ (H : Heap) (locs : List Loc), va_P D vwCl (wD qd qmemory qr qcounts cI cB ms z87dd z87Lwhole z87Lwhole2 z87bm z87rr z87kt) H → va_D A (wD qd qmemory qr qcounts cI cB ms z87dd z87Lwhole z87Lwhole2 z87bm z87rr z87kt) → va_S A s.heap H locs → ∀ ls : Array Slot, lv_has ls 16 [(0, .ref qd), (1, .int a0), (5, .int j87_5), (6, .long j87_6)] → W p l e (headSpec (zz_ws y_Md_wordOf b_Md_wordOf 16 (some .int)) rm_Md_wordOf).room s m ([.ref qd, .int a0, .long a1, .int a2] : List Value).toArray below meth c H locs 0 0 (MQ below (va_Qi P (zz_qw D (fun u => wD qd qmemory qr qcounts cI cB ms u.1 u.2.1 u.2.2.1 u.2.2.2.1 u.2.2.2.2.1 u.2.2.2.2.2) A) A) ([.ref qd, .int a0, .long a1, .int a2] : List Value).toArray s 0 0 A) (F0 m 87 ls []) := by
    intro j87_5 j87_6 z87dd z87Lwhole z87Lwhole2 z87bm z87rr z87kt h H locs hP hD hS ls hl
    unfold wj_Md_wordOf_87 at h
    refine lv_iconst (v := 1) hx hb d_Md_wordOf_87 (by decide) ?_
    refine lv_goto (tgt := 92) hx hb d_Md_wordOf_88 (by decide) ?_
    exact jn_92 j87_5 j87_6 (1 : Int32) z87dd z87Lwhole z87Lwhole2 z87bm z87rr z87kt h _ _ hP hD hS ls (lv_sub hl [0, 1, 2, 3] rfl)
  have jn_62 : ∀ (j62_5 : Int32) (s62_0 : Int64) (z62dd : Nat → Int32) (z62Lwhole : Int64) (z62Lwhole2 : Int64) (z62bm : Nat → Int32) (z62rr : Nat → Int32) (z62kt : Nat → Int32), wj_Md_wordOf_62 ms a0 a1 a2 P j62_5 s62_0 z62dd z62Lwhole z62Lwhole2 z62bm z62rr z62kt → ∀ (H : Heap) (locs : List Loc), va_P D vwCl (wD qd qmemory qr qcounts cI cB ms z62dd z62Lwhole z62Lwhole2 z62bm z62rr z62kt) H → va_D A (wD qd qmemory qr qcounts cI cB ms z62dd z62Lwhole z62Lwhole2 z62bm z62rr z62kt) → va_S A s.heap H locs → ∀ ls : Array Slot, lv_has ls 16 [(0, .ref qd), (1, .int a0), (5, .int j62_5)] → W p l e (headSpec (zz_ws y_Md_wordOf b_Md_wordOf 16 (some .int)) rm_Md_wordOf).room s m ([.ref qd, .int a0, .long a1, .int a2] : List Value).toArray below meth c H locs 0 0 (MQ below (va_Qi P (zz_qw D (fun u => wD qd qmemory qr qcounts cI cB ms u.1 u.2.1 u.2.2.1 u.2.2.2.1 u.2.2.2.2.1 u.2.2.2.2.2) A) A) ([.ref qd, .int a0, .long a1, .int a2] : List Value).toArray s 0 0 A) (F0 m 62 ls [.long s62_0]) := by
    intro j62_5 s62_0 z62dd z62Lwhole z62Lwhole2 z62bm z62rr z62kt h H locs hP hD hS ls hl
    unfold wj_Md_wordOf_62 at h
    refine lv_lstore (lv' := [(6, .long s62_0), (0, .ref qd), (1, .int a0), (5, .int j62_5)]) hx hb d_Md_wordOf_62 hl (by decide) rfl (fun ls hl => ?_)
    refine lv_iload hx hb d_Md_wordOf_64 (lv_at hl 3 rfl) ?_
    refine lv_bipush (v := 62) hx hb d_Md_wordOf_66 (by decide) ?_
    refine lv_icmp_gt (tgt := 87) hx hb d_Md_wordOf_68 (by decide) (fun c_20 => ?_) (fun c_20 => ?_)
    · skip
      have h := h.1 c_20
      exact jn_87 j62_5 s62_0 z62dd z62Lwhole z62Lwhole2 z62bm z62rr z62kt h _ _ hP hD hS ls (lv_sub hl [1, 2, 3, 0] rfl)
    · skip
      have h := h.2 c_20
      refine lv_aload_n hx hb d_Md_wordOf_71 rfl (lv_at hl 1 rfl) ?_
      refine g_Md_200 (v := .long z62Lwhole) hx hb hT hown hK hP 0 rfl rfl d_Md_wordOf_72 ?_
      refine lv_lconst (v := 1) hx hb d_Md_wordOf_75 (by decide) ?_
      refine lv_iload hx hb d_Md_wordOf_76 (lv_at hl 3 rfl) ?_
      refine zz_llshl hx hb d_Md_wordOf_78 ?_
      refine lv_lconst (v := 1) hx hb d_Md_wordOf_79 (by decide) ?_
      refine lv_lsub hx hb d_Md_wordOf_80 ?_
      refine lv_topl (fun x_21 ex_21 => ?_)
      have h := h x_21 ex_21
      refine lv_land hx hb d_Md_wordOf_81 ?_
      refine lv_lconst (v := 0) hx hb d_Md_wordOf_82 (by decide) ?_
      refine W.lcmp hx hb d_Md_wordOf_83 ?_
      refine lv_if_eq (tgt := 91) hx hb d_Md_wordOf_84 (by decide) (fun c_22 => ?_) (fun c_22 => ?_)
      · have kc_22 := ((lg_cmp_eq _ _).mp c_22)
        have h := h.1 kc_22
        refine lv_iconst (v := 0) hx hb d_Md_wordOf_91 (by decide) ?_
        exact jn_92 j62_5 s62_0 (0 : Int32) z62dd z62Lwhole z62Lwhole2 z62bm z62rr z62kt h _ _ hP hD hS ls (lv_sub hl [1, 2, 3, 0] rfl)
      · have kc_22 := (fun q => c_22 ((lg_cmp_eq _ _).mpr q))
        have h := h.2 kc_22
        exact jn_87 j62_5 s62_0 z62dd z62Lwhole z62Lwhole2 z62bm z62rr z62kt h _ _ hP hD hS ls (lv_sub hl [1, 2, 3, 0] rfl)
  refine lv_aload_n hx hb d_Md_wordOf_0 rfl (lv_at hl 0 rfl) ?_
  refine lv_lload_n hx hb d_Md_wordOf_1 rfl (lv_at hl 2 rfl) ?_
  refine lv_iload hx hb d_Md_wordOf_2 (lv_at hl 3 rfl) ?_
  refine zz_Wv (As := [.long a1, .int a2]) (rest := []) (wc := wD qd qmemory qr qcounts cI cB ms dd Lwhole Lwhole2 bm rr kt) (wr := []) X hK hP hD hS hA (c_Md_take l D cI cB qd qmemory qr qcounts ms dd Lwhole Lwhole2 bm rr kt a1 a2 _ h _) ⟨rfl, rfl⟩ m_Md_take k_Md_282 ⟨Nat.le_of_ble_eq_true rfl, Nat.le_of_ble_eq_true rfl⟩ [0, 1, 2, 3] [] rfl rfl (by decide) (by decide) (by decide) 6 0 rfl rfl rfl rfl hl.1 rfl (Nat.le_of_ble_eq_true rfl) d_Md_wordOf_4 hf0 (fun u_23 H locs h hP hD hS => ?_)
  have hP : va_P D vwCl (wD qd qmemory qr qcounts cI cB ms u_23.1 u_23.2.1 u_23.2.2.1 u_23.2.2.2.1 u_23.2.2.2.2.1 u_23.2.2.2.2.2) H := hP.sub [0, 1, 2, 3] rfl
  have hD : va_D A (wD qd qmemory qr qcounts cI cB ms u_23.1 u_23.2.1 u_23.2.2.1 u_23.2.2.2.1 u_23.2.2.2.2.1 u_23.2.2.2.2.2) := hD.sub [0, 1, 2, 3] (by decide) rfl
  refine lv_aload_n hx hb d_Md_wordOf_7 rfl (lv_at hl 0 rfl) ?_
  refine g_Md_210 (v := .int (u_23.1 14)) hx hb hT hown hK hP 0 rfl rfl d_Md_wordOf_8 ?_
  refine lv_if_ne (tgt := 16) hx hb d_Md_wordOf_11 (by decide) (fun c_25 => ?_) (fun c_25 => ?_)
  · skip
    have h := h.2 c_25
    refine lv_aload_n hx hb d_Md_wordOf_16 rfl (lv_at hl 0 rfl) ?_
    refine g_Md_210 (v := .int (u_23.1 14)) hx hb hT hown hK hP 0 rfl rfl d_Md_wordOf_17 ?_
    refine lv_iconst (v := 1) hx hb d_Md_wordOf_20 (by decide) ?_
    refine lv_icmp_ne (tgt := 33) hx hb d_Md_wordOf_21 (by decide) (fun c_26 => ?_) (fun c_26 => ?_)
    · skip
      have h := h.2 c_26
      refine lv_ldcw (v := 2147483647) hx hb hown (hT _ n_Md_318) d_Md_wordOf_33 ?_
      exact W.iret (v := (2147483647 : Int32)) hx hb hr (fun t ht hW => ⟨⟨(2147483647 : Int32), (u_23.1, u_23.2.1, u_23.2.2.1, u_23.2.2.2.1, u_23.2.2.2.2.1, u_23.2.2.2.2.2), rfl, h, by rw [ht]; exact hP, hD⟩, hS.F ht⟩) hS.2.2 d_Md_wordOf_36
    · skip
      have h := h.1 c_26
      refine lv_aload_n hx hb d_Md_wordOf_24 rfl (lv_at hl 0 rfl) ?_
      refine g_Md_207 (v := .int (u_23.1 15)) hx hb hT hown hK hP 0 rfl rfl d_Md_wordOf_25 ?_
      refine lv_bipush (v := -21) hx hb d_Md_wordOf_28 (by decide) ?_
      refine lv_icmp_le (tgt := 37) hx hb d_Md_wordOf_30 (by decide) (fun c_27 => ?_) (fun c_27 => ?_)
      · skip
        have h := h.1 c_27
        refine lv_aload_n hx hb d_Md_wordOf_37 rfl (lv_at hl 0 rfl) ?_
        refine g_Md_207 (v := .int (u_23.1 15)) hx hb hT hown hK hP 0 rfl rfl d_Md_wordOf_38 ?_
        refine lv_ineg hx hb d_Md_wordOf_41 ?_
        refine lv_topi (fun x_28 ex_28 => ?_)
        have h := h x_28 ex_28
        refine lv_istore (lv' := [(5, .int x_28), (0, .ref qd), (1, .int a0), (2, .long a1), (4, .int a2)]) hx hb d_Md_wordOf_42 hl (by decide) rfl (fun ls hl => ?_)
        refine lv_iload hx hb d_Md_wordOf_44 (lv_at hl 0 rfl) ?_
        refine lv_bipush (v := 62) hx hb d_Md_wordOf_46 (by decide) ?_
        refine lv_icmp_le (tgt := 55) hx hb d_Md_wordOf_48 (by decide) (fun c_29 => ?_) (fun c_29 => ?_)
        · skip
          have h := h.1 c_29
          refine lv_aload_n hx hb d_Md_wordOf_55 rfl (lv_at hl 1 rfl) ?_
          refine g_Md_200 (v := .long u_23.2.1) hx hb hT hown hK hP 0 rfl rfl d_Md_wordOf_56 ?_
          refine lv_iload hx hb d_Md_wordOf_59 (lv_at hl 0 rfl) ?_
          refine zz_llshr hx hb d_Md_wordOf_61 ?_
          exact jn_62 x_28 (zz_lshr u_23.2.1 x_28) u_23.1 u_23.2.1 u_23.2.2.1 u_23.2.2.2.1 u_23.2.2.2.2.1 u_23.2.2.2.2.2 h _ _ hP hD hS ls (lv_sub hl [1, 2, 0] rfl)
        · skip
          have h := h.2 c_29
          refine lv_lconst (v := 0) hx hb d_Md_wordOf_51 (by decide) ?_
          refine lv_goto (tgt := 62) hx hb d_Md_wordOf_52 (by decide) ?_
          exact jn_62 x_28 (0 : Int64) u_23.1 u_23.2.1 u_23.2.2.1 u_23.2.2.2.1 u_23.2.2.2.2.1 u_23.2.2.2.2.2 h _ _ hP hD hS ls (lv_sub hl [1, 2, 0] rfl)
      · skip
        have h := h.2 c_27
        refine lv_ldcw (v := 2147483647) hx hb hown (hT _ n_Md_318) d_Md_wordOf_33 ?_
        exact W.iret (v := (2147483647 : Int32)) hx hb hr (fun t ht hW => ⟨⟨(2147483647 : Int32), (u_23.1, u_23.2.1, u_23.2.2.1, u_23.2.2.2.1, u_23.2.2.2.2.1, u_23.2.2.2.2.2), rfl, h, by rw [ht]; exact hP, hD⟩, hS.F ht⟩) hS.2.2 d_Md_wordOf_36
  · skip
    have h := h.1 c_25
    refine lv_iconst (v := 0) hx hb d_Md_wordOf_14 (by decide) ?_
    exact W.iret (v := (0 : Int32)) hx hb hr (fun t ht hW => ⟨⟨(0 : Int32), (u_23.1, u_23.2.1, u_23.2.2.1, u_23.2.2.2.1, u_23.2.2.2.2.1, u_23.2.2.2.2.2), rfl, h, by rw [ht]; exact hP, hD⟩, hS.F ht⟩) hS.2.2 d_Md_wordOf_15
