def wj_Md_fractions_323 (ms : Int32) (P : ((Nat → Int32) × Int64 × Int64 × (Nat → Int32) × (Nat → Int32) × (Nat → Int32)) → Prop) (z323dd : Nat → Int32) (z323Lwhole : Int64) (z323Lwhole2 : Int64) (z323bm : Nat → Int32) (z323rr : Nat → Int32) (z323kt : Nat → Int32) : Prop := wp_Md_ends ms z323dd z323Lwhole z323Lwhole2 z323bm z323rr z323kt (3 : Int32) (fun u_1 => P (u_1.1, u_1.2.1, u_1.2.2.1, u_1.2.2.2.1, u_1.2.2.2.2.1, u_1.2.2.2.2.2))
def wj_Md_fractions_310 (ms : Int32) (P : ((Nat → Int32) × Int64 × Int64 × (Nat → Int32) × (Nat → Int32) × (Nat → Int32)) → Prop) (j310_4 : Int32) (s310_1 : Int32) (s310_2 : Int32) (s310_3 : Int32) (s310_4 : Int64) (z310dd : Nat → Int32) (z310Lwhole : Int64) (z310Lwhole2 : Int64) (z310bm : Nat → Int32) (z310rr : Nat → Int32) (z310kt : Nat → Int32) : Prop := wp_Md_rounded s310_3 s310_4 (0 : Int32) (0 : Int32) j310_4 (fun r_3 => wp_Md_put_IZJV ms z310dd z310Lwhole z310Lwhole2 z310bm z310rr z310kt s310_1 s310_2 r_3 (fun u_4 => P (u_4.1, u_4.2.1, u_4.2.2.1, u_4.2.2.2.1, u_4.2.2.2.2.1, u_4.2.2.2.2.2)))
def wj_Md_fractions_295 (ms : Int32) (P : ((Nat → Int32) × Int64 × Int64 × (Nat → Int32) × (Nat → Int32) × (Nat → Int32)) → Prop) (j295_4 : Int32) (j295_5 : Int32) (s295_1 : Int32) (s295_2 : Int32) (s295_3 : Int32) (z295dd : Nat → Int32) (z295Lwhole : Int64) (z295Lwhole2 : Int64) (z295bm : Nat → Int32) (z295rr : Nat → Int32) (z295kt : Nat → Int32) : Prop := (((0 : Int32) ≤ j295_5 → wj_Md_fractions_310 ms P j295_4 s295_1 s295_2 s295_3 j295_5.toInt64 z295dd z295Lwhole z295Lwhole2 z295bm z295rr z295kt) ∧ (¬ (0 : Int32) ≤ j295_5 → wj_Md_fractions_310 ms P j295_4 s295_1 s295_2 s295_3 (-j295_5.toInt64) z295dd z295Lwhole z295Lwhole2 z295bm z295rr z295kt))
def wj_Md_fractions_267 (ms : Int32) (P : ((Nat → Int32) × Int64 × Int64 × (Nat → Int32) × (Nat → Int32) × (Nat → Int32)) → Prop) (j267_4 : Int32) (j267_5 : Int32) (z267dd : Nat → Int32) (z267Lwhole : Int64) (z267Lwhole2 : Int64) (z267bm : Nat → Int32) (z267rr : Nat → Int32) (z267kt : Nat → Int32) : Prop := wp_Md_field ms z267dd z267Lwhole z267Lwhole2 z267bm z267rr z267kt (6 : Int32) (fun r_7 => ((j267_5 = (0 : Int32) → wp_Md_put_IZJV ms z267dd z267Lwhole z267Lwhole2 z267bm z267rr z267kt r_7 j267_4 (0 : Int64) (fun u_10 => P (u_10.1, u_10.2.1, u_10.2.2.1, u_10.2.2.2.1, u_10.2.2.2.2.1, u_10.2.2.2.2.2))) ∧ (¬ j267_5 = (0 : Int32) → (((0 : Int32) ≤ j267_5 → wj_Md_fractions_295 ms P j267_4 j267_5 r_7 j267_4 (0 : Int32) z267dd z267Lwhole z267Lwhole2 z267bm z267rr z267kt) ∧ (¬ (0 : Int32) ≤ j267_5 → wj_Md_fractions_295 ms P j267_4 j267_5 r_7 j267_4 (1 : Int32) z267dd z267Lwhole z267Lwhole2 z267bm z267rr z267kt)))))
def wj_Md_fractions_231 (ms : Int32) (P : ((Nat → Int32) × Int64 × Int64 × (Nat → Int32) × (Nat → Int32) × (Nat → Int32)) → Prop) (j231_2 : Int32) (s231_0 : Int32) (z231dd : Nat → Int32) (z231Lwhole : Int64) (z231Lwhole2 : Int64) (z231bm : Nat → Int32) (z231rr : Nat → Int32) (z231kt : Nat → Int32) : Prop := vp_in ((34 : Int32) + j231_2) 67 ∧ ∀ x_12 : Int32, x_12 = (z231rr ((34 : Int32) + j231_2).toNatClampNeg) → ((s231_0 = (0 : Int32) → wj_Md_fractions_267 ms P s231_0 x_12 z231dd z231Lwhole z231Lwhole2 z231bm z231rr z231kt) ∧ (¬ s231_0 = (0 : Int32) → wp_Md_field ms z231dd z231Lwhole z231Lwhole2 z231bm z231rr z231kt (6 : Int32) (fun r_14 => (((r_14 &&& (1 : Int32)) = (1 : Int32) → wp_Md_ends ms z231dd z231Lwhole z231Lwhole2 z231bm z231rr z231kt (8 : Int32) (fun u_16 => wj_Md_fractions_267 ms P s231_0 x_12 u_16.1 u_16.2.1 u_16.2.2.1 u_16.2.2.2.1 u_16.2.2.2.2.1 u_16.2.2.2.2.2)) ∧ (¬ (r_14 &&& (1 : Int32)) = (1 : Int32) → wj_Md_fractions_267 ms P s231_0 x_12 z231dd z231Lwhole z231Lwhole2 z231bm z231rr z231kt)))))
def wj_Md_fractions_170 (ms : Int32) (P : ((Nat → Int32) × Int64 × Int64 × (Nat → Int32) × (Nat → Int32) × (Nat → Int32)) → Prop) (j170_2 : Int32) (j170_3 : Int32) (s170_1 : Int32) (s170_2 : Int32) (z170dd : Nat → Int32) (z170Lwhole : Int64) (z170Lwhole2 : Int64) (z170bm : Nat → Int32) (z170rr : Nat → Int32) (z170kt : Nat → Int32) : Prop := wp_Md_field ms z170dd z170Lwhole z170Lwhole2 z170bm z170rr z170kt (6 : Int32) (fun r_18 => wp_Md_reckons ms z170dd z170Lwhole z170Lwhole2 z170bm z170rr z170kt s170_1 s170_2 j170_2 j170_3 r_18 (fun u_19 => P (u_19.1, u_19.2.1, u_19.2.2.1, u_19.2.2.2.1, u_19.2.2.2.2.1, u_19.2.2.2.2.2)))
def wj_Md_fractions_151 (ms : Int32) (P : ((Nat → Int32) × Int64 × Int64 × (Nat → Int32) × (Nat → Int32) × (Nat → Int32)) → Prop) (j151_1 : Int32) (j151_2 : Int32) (j151_3 : Int32) (z151dd : Nat → Int32) (z151Lwhole : Int64) (z151Lwhole2 : Int64) (z151bm : Nat → Int32) (z151rr : Nat → Int32) (z151kt : Nat → Int32) : Prop := ∀ x_21 : Int32, x_21 = ((z151dd 9) &&& (63 : Int32)) → ((j151_1 = (17 : Int32) → wj_Md_fractions_170 ms P j151_2 j151_3 x_21 (1 : Int32) z151dd z151Lwhole z151Lwhole2 z151bm z151rr z151kt) ∧ (¬ j151_1 = (17 : Int32) → wj_Md_fractions_170 ms P j151_2 j151_3 x_21 (0 : Int32) z151dd z151Lwhole z151Lwhole2 z151bm z151rr z151kt))
def wj_Md_fractions_106 (ms : Int32) (P : ((Nat → Int32) × Int64 × Int64 × (Nat → Int32) × (Nat → Int32) × (Nat → Int32)) → Prop) (s106_0 : Int32) (z106dd : Nat → Int32) (z106Lwhole : Int64) (z106Lwhole2 : Int64) (z106bm : Nat → Int32) (z106rr : Nat → Int32) (z106kt : Nat → Int32) : Prop := wp_Md_near ms z106dd z106Lwhole z106Lwhole2 z106bm z106rr z106kt (fun r_23 => ∀ x_24 : Int32, x_24 = (zz_ushr (z106dd 9) (17 : Int32)) → (((x_24 &&& (1 : Int32)) = (1 : Int32) → wp_Md_jumps ms z106dd z106Lwhole z106Lwhole2 z106bm z106rr z106kt s106_0 r_23 (1 : Int32) (fun u_28 => P (u_28.1, u_28.2.1, u_28.2.2.1, u_28.2.2.2.1, u_28.2.2.2.2.1, u_28.2.2.2.2.2))) ∧ (¬ (x_24 &&& (1 : Int32)) = (1 : Int32) → wp_Md_jumps ms z106dd z106Lwhole z106Lwhole2 z106bm z106rr z106kt s106_0 r_23 (0 : Int32) (fun u_26 => P (u_26.1, u_26.2.1, u_26.2.2.1, u_26.2.2.2.1, u_26.2.2.2.2.1, u_26.2.2.2.2.2)))))
def wp_Md_fractions (ms : Int32) (dd : Nat → Int32) (Lwhole : Int64) (Lwhole2 : Int64) (bm : Nat → Int32) (rr : Nat → Int32) (kt : Nat → Int32) (P : ((Nat → Int32) × Int64 × Int64 × (Nat → Int32) × (Nat → Int32) × (Nat → Int32)) → Prop) : Prop := wp_Md_field ms dd Lwhole Lwhole2 bm rr kt (21 : Int32) (fun r_30 => wp_Md_field ms dd Lwhole Lwhole2 bm rr kt (11 : Int32) (fun r_31 => wp_Md_field ms dd Lwhole Lwhole2 bm rr kt (16 : Int32) (fun r_32 => ((r_30 = (0 : Int32) → vp_in ((34 : Int32) + r_31) 67 ∧ ∀ x_48 : Int32, x_48 = (rr ((34 : Int32) + r_31).toNatClampNeg) → wp_Md_into ms dd Lwhole Lwhole2 bm rr kt r_32 x_48 (fun u_49 => P (u_49.1, u_49.2.1, u_49.2.2.1, u_49.2.2.2.1, u_49.2.2.2.2.1, u_49.2.2.2.2.2))) ∧ (¬ r_30 = (0 : Int32) → ((r_30 = (4 : Int32) → wp_Md_rtNow ms dd Lwhole Lwhole2 bm rr kt (fun r_47 => vp_in ((34 : Int32) + r_31) 67 ∧ P (dd, Lwhole, Lwhole2, bm, (upd rr ((34 : Int32) + r_31).toNatClampNeg r_47), kt))) ∧ (¬ r_30 = (4 : Int32) → ((r_30 = (8 : Int32) → vp_in (66 : Int32) 67 ∧ ∀ x_42 : Int32, x_42 = (rr (66 : Int32).toNatClampNeg) → ∀ x_43 : Int32, x_43 = (zz_ushr (dd 9) (18 : Int32)) → ∀ x_44 : Int32, x_44 = (zz_shr x_42 (x_43 &&& (7 : Int32))) → ∀ x_45 : Int32, x_45 = (zz_ushr (dd 9) (16 : Int32)) → (((x_44 &&& (1 : Int32)) = (x_45 &&& (1 : Int32)) → wj_Md_fractions_106 ms P (1 : Int32) dd Lwhole Lwhole2 bm rr kt) ∧ (¬ (x_44 &&& (1 : Int32)) = (x_45 &&& (1 : Int32)) → wj_Md_fractions_106 ms P (0 : Int32) dd Lwhole Lwhole2 bm rr kt))) ∧ (¬ r_30 = (8 : Int32) → ((r_30 = (16 : Int32) → wj_Md_fractions_151 ms P r_30 r_31 r_32 dd Lwhole Lwhole2 bm rr kt) ∧ (¬ r_30 = (16 : Int32) → ((r_30 = (17 : Int32) → wj_Md_fractions_151 ms P r_30 r_31 r_32 dd Lwhole Lwhole2 bm rr kt) ∧ (¬ r_30 = (17 : Int32) → ((r_30 = (20 : Int32) → ((((dd 9) &&& (63 : Int32)) < (32 : Int32) → wj_Md_fractions_323 ms P dd Lwhole Lwhole2 bm rr kt) ∧ (¬ ((dd 9) &&& (63 : Int32)) < (32 : Int32) → (((33 : Int32) < ((dd 9) &&& (63 : Int32)) → wj_Md_fractions_323 ms P dd Lwhole Lwhole2 bm rr kt) ∧ (¬ (33 : Int32) < ((dd 9) &&& (63 : Int32)) → ((((dd 9) &&& (63 : Int32)) = (33 : Int32) → wj_Md_fractions_231 ms P r_31 (1 : Int32) dd Lwhole Lwhole2 bm rr kt) ∧ (¬ ((dd 9) &&& (63 : Int32)) = (33 : Int32) → wj_Md_fractions_231 ms P r_31 (0 : Int32) dd Lwhole Lwhole2 bm rr kt))))))) ∧ (¬ r_30 = (20 : Int32) → wj_Md_fractions_323 ms P dd Lwhole Lwhole2 bm rr kt)))))))))))))))
abbrev rm_Md_fractions : Room := { frames := 7, cells := 0, slots := 0, locals := 198 }
set_option maxHeartbeats 4000000 in
set_option maxRecDepth 100000 in
theorem c_Md_fractions (l : Launch) (D : va_G) (cI : ClassId) (cB : ClassId) (qd : Nat) (qmemory : Nat) (qr : Nat) (qcounts : Nat) (ms : Int32) (dd : Nat → Int32) (Lwhole : Int64) (Lwhole2 : Int64) (bm : Nat → Int32) (rr : Nat → Int32) (kt : Nat → Int32) (P : ((Nat → Int32) × Int64 × Int64 × (Nat → Int32) × (Nat → Int32) × (Nat → Int32)) → Prop) (h : wp_Md_fractions ms dd Lwhole Lwhole2 bm rr kt P) (sz : Nat) : Met l y_Md_fractions (zz_ws y_Md_fractions b_Md_fractions 6 none) rm_Md_fractions (va_Pc [.ref qd] (zz_pw D [(cI, .int), (cB, .byte)] (wD qd qmemory qr qcounts cI cB ms dd Lwhole Lwhole2 bm rr kt) sz)) (va_Qv P (zz_qw D (fun u => wD qd qmemory qr qcounts cI cB ms u.1 u.2.1 u.2.2.1 u.2.2.2.1 u.2.2.2.2.1 u.2.2.2.2.2) (va_A (wD qd qmemory qr qcounts cI cB ms dd Lwhole Lwhole2 bm rr kt) sz)) (va_A (wD qd qmemory qr qcounts cI cB ms dd Lwhole Lwhole2 bm rr kt) sz)) 0 0 (va_A (wD qd qmemory qr qcounts cI cB ms dd Lwhole Lwhole2 bm rr kt) sz) := by
  refine Met.ofW (cc := b_Md_fractions) (maxL := 6) (ret := none) (by decide) rfl ?_
  intro p e s m args below meth c s₁ B hml hv
  obtain ⟨rfl, hsz, hP, hK, hD0⟩ := hv
  have hx := B.exec
  have hb := B.bytes
  have hr := B.returns
  have hts := atoms_spec (ws := (zz_ws y_Md_fractions b_Md_fractions 6 none)) B.pre
  have hown : s.vm.findClass R_Md = some m.cls := findClass_of_methodNamed B.named
  have hlocks := B.notSynchronized
  have hT := zz_hts hts
  have X : CallFix p m c b_Md_fractions 6 s ([.ref qd] : List Value).toArray (zz_ws y_Md_fractions b_Md_fractions 6 none) R_Md := ⟨hx, hb, hml, hown, hts⟩
  have hf0 : 0 + 0 ≤ (headSpec (zz_ws y_Md_fractions b_Md_fractions 6 none) rm_Md_fractions).room.cells ∧ 0 + 0 ≤ (headSpec (zz_ws y_Md_fractions b_Md_fractions 6 none) rm_Md_fractions).room.slots := ⟨Nat.le_of_ble_eq_true rfl, Nat.le_of_ble_eq_true rfl⟩
  subst hsz
  have hD := hD0.self (sz := s.heap.size)
  generalize hAe : va_A (wD qd qmemory qr qcounts cI cB ms dd Lwhole Lwhole2 bm rr kt) s.heap.size = A at hD ⊢
  have hA : ∀ q : Nat, s.heap.size ≤ q → A q := fun q h => by rw [← hAe]; exact Or.inr h
  have hS : va_S A s.heap s.heap [] := va_S.rf
  have hl := lv_entry ([.ref qd]) (n := 6) (Nat.le_of_ble_eq_true rfl)
  rw [lg_entry_eq]
  generalize (lg_sl ([.ref qd]) ++ List.replicate (6 - (lg_sl ([.ref qd])).length) Slot.unset).toArray = ls at hl ⊢
  have hl : lv_has ls 6 [(0, .ref qd)] := hl
  have jn_323 : ∀ (z323dd : Nat → Int32) (z323Lwhole : Int64) (z323Lwhole2 : Int64) (z323bm : Nat → Int32) (z323rr : Nat → Int32) (z323kt : Nat → Int32), wj_Md_fractions_323 ms P z323dd z323Lwhole z323Lwhole2 z323bm z323rr z323kt → ∀ (H : Heap) (locs : List Loc), va_P D vwCl (wD qd qmemory qr qcounts cI cB ms z323dd z323Lwhole z323Lwhole2 z323bm z323rr z323kt) H → va_D A (wD qd qmemory qr qcounts cI cB ms z323dd z323Lwhole z323Lwhole2 z323bm z323rr z323kt) → va_S A s.heap H locs → ∀ ls : Array Slot, lv_has ls 6 [(0, .ref qd)] → W p l e (headSpec (zz_ws y_Md_fractions b_Md_fractions 6 none) rm_Md_fractions).room s m ([.ref qd] : List Value).toArray below meth c H locs 0 0 (MQ below (va_Qv P (zz_qw D (fun u => wD qd qmemory qr qcounts cI cB ms u.1 u.2.1 u.2.2.1 u.2.2.2.1 u.2.2.2.2.1 u.2.2.2.2.2) A) A) ([.ref qd] : List Value).toArray s 0 0 A) (F0 m 323 ls []) := by
    intro z323dd z323Lwhole z323Lwhole2 z323bm z323rr z323kt h H locs hP hD hS ls hl
    unfold wj_Md_fractions_323 at h
    refine lv_aload_n hx hb d_Md_fractions_323 rfl (lv_at hl 0 rfl) ?_
    refine lv_iconst (v := 3) hx hb d_Md_fractions_324 (by decide) ?_
    refine zz_Wv (As := [.int (3 : Int32)]) (rest := []) (wc := wD qd qmemory qr qcounts cI cB ms z323dd z323Lwhole z323Lwhole2 z323bm z323rr z323kt) (wr := []) X hK hP hD hS hA (c_Md_ends l D cI cB qd qmemory qr qcounts ms z323dd z323Lwhole z323Lwhole2 z323bm z323rr z323kt (3 : Int32) _ h _) ⟨rfl, rfl⟩ m_Md_ends k_Md_116 ⟨Nat.le_of_ble_eq_true rfl, Nat.le_of_ble_eq_true rfl⟩ [0, 1, 2, 3] [] rfl rfl (by decide) (by decide) (by decide) 6 0 rfl rfl rfl rfl hl.1 rfl (Nat.le_of_ble_eq_true rfl) d_Md_fractions_325 hf0 (fun u_1 H locs h hP hD hS => ?_)
    have hP : va_P D vwCl (wD qd qmemory qr qcounts cI cB ms u_1.1 u_1.2.1 u_1.2.2.1 u_1.2.2.2.1 u_1.2.2.2.2.1 u_1.2.2.2.2.2) H := hP.sub [0, 1, 2, 3] rfl
    have hD : va_D A (wD qd qmemory qr qcounts cI cB ms u_1.1 u_1.2.1 u_1.2.2.1 u_1.2.2.2.1 u_1.2.2.2.2.1 u_1.2.2.2.2.2) := hD.sub [0, 1, 2, 3] (by decide) rfl
    exact W.vret hx hb hr (fun t ht hW => ⟨⟨(u_1.1, u_1.2.1, u_1.2.2.1, u_1.2.2.2.1, u_1.2.2.2.2.1, u_1.2.2.2.2.2), rfl, h, by rw [ht]; exact hP, hD⟩, hS.F ht⟩) hS.2.2 d_Md_fractions_328
  have jn_310 : ∀ (j310_4 : Int32) (s310_1 : Int32) (s310_2 : Int32) (s310_3 : Int32) (s310_4 : Int64) (z310dd : Nat → Int32) (z310Lwhole : Int64) (z310Lwhole2 : Int64) (z310bm : Nat → Int32) (z310rr : Nat → Int32) (z310kt : Nat → Int32), wj_Md_fractions_310 ms P j310_4 s310_1 s310_2 s310_3 s310_4 z310dd z310Lwhole z310Lwhole2 z310bm z310rr z310kt → ∀ (H : Heap) (locs : List Loc), va_P D vwCl (wD qd qmemory qr qcounts cI cB ms z310dd z310Lwhole z310Lwhole2 z310bm z310rr z310kt) H → va_D A (wD qd qmemory qr qcounts cI cB ms z310dd z310Lwhole z310Lwhole2 z310bm z310rr z310kt) → va_S A s.heap H locs → ∀ ls : Array Slot, lv_has ls 6 [(4, .int j310_4)] → W p l e (headSpec (zz_ws y_Md_fractions b_Md_fractions 6 none) rm_Md_fractions).room s m ([.ref qd] : List Value).toArray below meth c H locs 0 0 (MQ below (va_Qv P (zz_qw D (fun u => wD qd qmemory qr qcounts cI cB ms u.1 u.2.1 u.2.2.1 u.2.2.2.1 u.2.2.2.2.1 u.2.2.2.2.2) A) A) ([.ref qd] : List Value).toArray s 0 0 A) (F0 m 310 ls [.long s310_4, .int s310_3, .int s310_2, .int s310_1, .ref qd]) := by
    intro j310_4 s310_1 s310_2 s310_3 s310_4 z310dd z310Lwhole z310Lwhole2 z310bm z310rr z310kt h H locs hP hD hS ls hl
    unfold wj_Md_fractions_310 at h
    refine lv_iconst (v := 0) hx hb d_Md_fractions_310 (by decide) ?_
    refine lv_iconst (v := 0) hx hb d_Md_fractions_311 (by decide) ?_
    refine lv_iload hx hb d_Md_fractions_312 (lv_at hl 0 rfl) ?_
    refine zz_Sl (As := [.int s310_3, .long s310_4, .int (0 : Int32), .int (0 : Int32), .int j310_4]) (rest := [.int s310_2, .int s310_1, .ref qd]) X (c_Md_rounded l s310_3 s310_4 (0 : Int32) (0 : Int32) j310_4 _ h) ⟨rfl, rfl⟩ m_Md_rounded k_Md_246 ⟨Nat.le_of_ble_eq_true rfl, Nat.le_of_ble_eq_true rfl⟩ rfl hl.1 rfl (Nat.le_of_ble_eq_true rfl) d_Md_fractions_314 hf0 (fun r_3 h => ?_)
    refine zz_Wv (As := [.int s310_1, .int s310_2, .long r_3]) (rest := []) (wc := wD qd qmemory qr qcounts cI cB ms z310dd z310Lwhole z310Lwhole2 z310bm z310rr z310kt) (wr := []) X hK hP hD hS hA (c_Md_put_IZJV l D cI cB qd qmemory qr qcounts ms z310dd z310Lwhole z310Lwhole2 z310bm z310rr z310kt s310_1 s310_2 r_3 _ h _) ⟨rfl, rfl⟩ m_Md_put_IZJV k_Md_250 ⟨Nat.le_of_ble_eq_true rfl, Nat.le_of_ble_eq_true rfl⟩ [0, 1, 2, 3] [] rfl rfl (by decide) (by decide) (by decide) 6 0 rfl rfl rfl rfl hl.1 rfl (Nat.le_of_ble_eq_true rfl) d_Md_fractions_317 hf0 (fun u_4 H locs h hP hD hS => ?_)
    have hP : va_P D vwCl (wD qd qmemory qr qcounts cI cB ms u_4.1 u_4.2.1 u_4.2.2.1 u_4.2.2.2.1 u_4.2.2.2.2.1 u_4.2.2.2.2.2) H := hP.sub [0, 1, 2, 3] rfl
    have hD : va_D A (wD qd qmemory qr qcounts cI cB ms u_4.1 u_4.2.1 u_4.2.2.1 u_4.2.2.2.1 u_4.2.2.2.2.1 u_4.2.2.2.2.2) := hD.sub [0, 1, 2, 3] (by decide) rfl
    refine lv_goto (tgt := 328) hx hb d_Md_fractions_320 (by decide) ?_
    exact W.vret hx hb hr (fun t ht hW => ⟨⟨(u_4.1, u_4.2.1, u_4.2.2.1, u_4.2.2.2.1, u_4.2.2.2.2.1, u_4.2.2.2.2.2), rfl, h, by rw [ht]; exact hP, hD⟩, hS.F ht⟩) hS.2.2 d_Md_fractions_328
  have jn_295 : ∀ (j295_4 : Int32) (j295_5 : Int32) (s295_1 : Int32) (s295_2 : Int32) (s295_3 : Int32) (z295dd : Nat → Int32) (z295Lwhole : Int64) (z295Lwhole2 : Int64) (z295bm : Nat → Int32) (z295rr : Nat → Int32) (z295kt : Nat → Int32), wj_Md_fractions_295 ms P j295_4 j295_5 s295_1 s295_2 s295_3 z295dd z295Lwhole z295Lwhole2 z295bm z295rr z295kt → ∀ (H : Heap) (locs : List Loc), va_P D vwCl (wD qd qmemory qr qcounts cI cB ms z295dd z295Lwhole z295Lwhole2 z295bm z295rr z295kt) H → va_D A (wD qd qmemory qr qcounts cI cB ms z295dd z295Lwhole z295Lwhole2 z295bm z295rr z295kt) → va_S A s.heap H locs → ∀ ls : Array Slot, lv_has ls 6 [(4, .int j295_4), (5, .int j295_5)] → W p l e (headSpec (zz_ws y_Md_fractions b_Md_fractions 6 none) rm_Md_fractions).room s m ([.ref qd] : List Value).toArray below meth c H locs 0 0 (MQ below (va_Qv P (zz_qw D (fun u => wD qd qmemory qr qcounts cI cB ms u.1 u.2.1 u.2.2.1 u.2.2.2.1 u.2.2.2.2.1 u.2.2.2.2.2) A) A) ([.ref qd] : List Value).toArray s 0 0 A) (F0 m 295 ls [.int s295_3, .int s295_2, .int s295_1, .ref qd]) := by
    intro j295_4 j295_5 s295_1 s295_2 s295_3 z295dd z295Lwhole z295Lwhole2 z295bm z295rr z295kt h H locs hP hD hS ls hl
    unfold wj_Md_fractions_295 at h
    refine lv_iload hx hb d_Md_fractions_295 (lv_at hl 1 rfl) ?_
    refine lv_if_ge (tgt := 307) hx hb d_Md_fractions_297 (by decide) (fun c_6 => ?_) (fun c_6 => ?_)
    · skip
      have h := h.1 c_6
      refine lv_iload hx hb d_Md_fractions_307 (lv_at hl 1 rfl) ?_
      refine lv_i2l (v := j295_5.toInt64) hx hb d_Md_fractions_309 rfl ?_
      exact jn_310 j295_4 s295_1 s295_2 s295_3 j295_5.toInt64 z295dd z295Lwhole z295Lwhole2 z295bm z295rr z295kt h _ _ hP hD hS ls (lv_sub hl [0] rfl)
    · skip
      have h := h.2 c_6
      refine lv_iload hx hb d_Md_fractions_300 (lv_at hl 1 rfl) ?_
      refine lv_i2l (v := j295_5.toInt64) hx hb d_Md_fractions_302 rfl ?_
      refine lv_lneg hx hb d_Md_fractions_303 ?_
      refine lv_goto (tgt := 310) hx hb d_Md_fractions_304 (by decide) ?_
      exact jn_310 j295_4 s295_1 s295_2 s295_3 (-j295_5.toInt64) z295dd z295Lwhole z295Lwhole2 z295bm z295rr z295kt h _ _ hP hD hS ls (lv_sub hl [0] rfl)
  have jn_267 : ∀ (j267_4 : Int32) (j267_5 : Int32) (z267dd : Nat → Int32) (z267Lwhole : Int64) (z267Lwhole2 : Int64) (z267bm : Nat → Int32) (z267rr : Nat → Int32) (z267kt : Nat → Int32), wj_Md_fractions_267 ms P j267_4 j267_5 z267dd z267Lwhole z267Lwhole2 z267bm z267rr z267kt → ∀ (H : Heap) (locs : List Loc), va_P D vwCl (wD qd qmemory qr qcounts cI cB ms z267dd z267Lwhole z267Lwhole2 z267bm z267rr z267kt) H → va_D A (wD qd qmemory qr qcounts cI cB ms z267dd z267Lwhole z267Lwhole2 z267bm z267rr z267kt) → va_S A s.heap H locs → ∀ ls : Array Slot, lv_has ls 6 [(0, .ref qd), (4, .int j267_4), (5, .int j267_5)] → W p l e (headSpec (zz_ws y_Md_fractions b_Md_fractions 6 none) rm_Md_fractions).room s m ([.ref qd] : List Value).toArray below meth c H locs 0 0 (MQ below (va_Qv P (zz_qw D (fun u => wD qd qmemory qr qcounts cI cB ms u.1 u.2.1 u.2.2.1 u.2.2.2.1 u.2.2.2.2.1 u.2.2.2.2.2) A) A) ([.ref qd] : List Value).toArray s 0 0 A) (F0 m 267 ls []) := by
    intro j267_4 j267_5 z267dd z267Lwhole z267Lwhole2 z267bm z267rr z267kt h H locs hP hD hS ls hl
    unfold wj_Md_fractions_267 at h
    refine lv_aload_n hx hb d_Md_fractions_267 rfl (lv_at hl 0 rfl) ?_
    refine lv_aload_n hx hb d_Md_fractions_268 rfl (lv_at hl 0 rfl) ?_
    refine lv_bipush (v := 6) hx hb d_Md_fractions_269 (by decide) ?_
    refine zz_Ri (As := [.int (6 : Int32)]) (rest := [.ref qd]) (wc := wD qd qmemory qr qcounts cI cB ms z267dd z267Lwhole z267Lwhole2 z267bm z267rr z267kt) X hK hP (c_Md_field l D cI cB qd qmemory qr qcounts ms z267dd z267Lwhole z267Lwhole2 z267bm z267rr z267kt (6 : Int32) _ h) ⟨rfl, rfl⟩ m_Md_field k_Md_85 ⟨Nat.le_of_ble_eq_true rfl, Nat.le_of_ble_eq_true rfl⟩ [0, 1, 2, 3] rfl 6 0 rfl rfl rfl rfl hl.1 rfl (Nat.le_of_ble_eq_true rfl) d_Md_fractions_271 hf0 (fun r_7 h => ?_)
    refine lv_iload hx hb d_Md_fractions_274 (lv_at hl 1 rfl) ?_
    refine lv_iload hx hb d_Md_fractions_276 (lv_at hl 2 rfl) ?_
    refine lv_if_ne (tgt := 285) hx hb d_Md_fractions_278 (by decide) (fun c_8 => ?_) (fun c_8 => ?_)
    · skip
      have h := h.2 c_8
      refine lv_iload hx hb d_Md_fractions_285 (lv_at hl 2 rfl) ?_
      refine lv_if_ge (tgt := 294) hx hb d_Md_fractions_287 (by decide) (fun c_9 => ?_) (fun c_9 => ?_)
      · skip
        have h := h.1 c_9
        refine lv_iconst (v := 0) hx hb d_Md_fractions_294 (by decide) ?_
        exact jn_295 j267_4 j267_5 r_7 j267_4 (0 : Int32) z267dd z267Lwhole z267Lwhole2 z267bm z267rr z267kt h _ _ hP hD hS ls (lv_sub hl [1, 2] rfl)
      · skip
        have h := h.2 c_9
        refine lv_iconst (v := 1) hx hb d_Md_fractions_290 (by decide) ?_
        refine lv_goto (tgt := 295) hx hb d_Md_fractions_291 (by decide) ?_
        exact jn_295 j267_4 j267_5 r_7 j267_4 (1 : Int32) z267dd z267Lwhole z267Lwhole2 z267bm z267rr z267kt h _ _ hP hD hS ls (lv_sub hl [1, 2] rfl)
    · skip
      have h := h.1 c_8
      refine lv_lconst (v := 0) hx hb d_Md_fractions_281 (by decide) ?_
      refine lv_goto (tgt := 317) hx hb d_Md_fractions_282 (by decide) ?_
      refine zz_Wv (As := [.int r_7, .int j267_4, .long (0 : Int64)]) (rest := []) (wc := wD qd qmemory qr qcounts cI cB ms z267dd z267Lwhole z267Lwhole2 z267bm z267rr z267kt) (wr := []) X hK hP hD hS hA (c_Md_put_IZJV l D cI cB qd qmemory qr qcounts ms z267dd z267Lwhole z267Lwhole2 z267bm z267rr z267kt r_7 j267_4 (0 : Int64) _ h _) ⟨rfl, rfl⟩ m_Md_put_IZJV k_Md_250 ⟨Nat.le_of_ble_eq_true rfl, Nat.le_of_ble_eq_true rfl⟩ [0, 1, 2, 3] [] rfl rfl (by decide) (by decide) (by decide) 6 0 rfl rfl rfl rfl hl.1 rfl (Nat.le_of_ble_eq_true rfl) d_Md_fractions_317 hf0 (fun u_10 H locs h hP hD hS => ?_)
      have hP : va_P D vwCl (wD qd qmemory qr qcounts cI cB ms u_10.1 u_10.2.1 u_10.2.2.1 u_10.2.2.2.1 u_10.2.2.2.2.1 u_10.2.2.2.2.2) H := hP.sub [0, 1, 2, 3] rfl
      have hD : va_D A (wD qd qmemory qr qcounts cI cB ms u_10.1 u_10.2.1 u_10.2.2.1 u_10.2.2.2.1 u_10.2.2.2.2.1 u_10.2.2.2.2.2) := hD.sub [0, 1, 2, 3] (by decide) rfl
      refine lv_goto (tgt := 328) hx hb d_Md_fractions_320 (by decide) ?_
      exact W.vret hx hb hr (fun t ht hW => ⟨⟨(u_10.1, u_10.2.1, u_10.2.2.1, u_10.2.2.2.1, u_10.2.2.2.2.1, u_10.2.2.2.2.2), rfl, h, by rw [ht]; exact hP, hD⟩, hS.F ht⟩) hS.2.2 d_Md_fractions_328
  have jn_231 : ∀ (j231_2 : Int32) (s231_0 : Int32) (z231dd : Nat → Int32) (z231Lwhole : Int64) (z231Lwhole2 : Int64) (z231bm : Nat → Int32) (z231rr : Nat → Int32) (z231kt : Nat → Int32), wj_Md_fractions_231 ms P j231_2 s231_0 z231dd z231Lwhole z231Lwhole2 z231bm z231rr z231kt → ∀ (H : Heap) (locs : List Loc), va_P D vwCl (wD qd qmemory qr qcounts cI cB ms z231dd z231Lwhole z231Lwhole2 z231bm z231rr z231kt) H → va_D A (wD qd qmemory qr qcounts cI cB ms z231dd z231Lwhole z231Lwhole2 z231bm z231rr z231kt) → va_S A s.heap H locs → ∀ ls : Array Slot, lv_has ls 6 [(0, .ref qd), (2, .int j231_2)] → W p l e (headSpec (zz_ws y_Md_fractions b_Md_fractions 6 none) rm_Md_fractions).room s m ([.ref qd] : List Value).toArray below meth c H locs 0 0 (MQ below (va_Qv P (zz_qw D (fun u => wD qd qmemory qr qcounts cI cB ms u.1 u.2.1 u.2.2.1 u.2.2.2.1 u.2.2.2.2.1 u.2.2.2.2.2) A) A) ([.ref qd] : List Value).toArray s 0 0 A) (F0 m 231 ls [.int s231_0]) := by
    intro j231_2 s231_0 z231dd z231Lwhole z231Lwhole2 z231bm z231rr z231kt h H locs hP hD hS ls hl
    unfold wj_Md_fractions_231 at h
    refine lv_istore (lv' := [(4, .int s231_0), (0, .ref qd), (2, .int j231_2)]) hx hb d_Md_fractions_231 hl (by decide) rfl (fun ls hl => ?_)
    refine lv_aload_n hx hb d_Md_fractions_233 rfl (lv_at hl 1 rfl) ?_
    refine g_Md_14 (v := .ref qr) hx hb hT hown hK hP 0 rfl rfl d_Md_fractions_234 ?_
    refine lv_bipush (v := 34) hx hb d_Md_fractions_237 (by decide) ?_
    refine lv_iload_n hx hb d_Md_fractions_239 rfl (lv_at hl 2 rfl) ?_
    refine lv_iadd hx hb d_Md_fractions_240 ?_
    refine va_iald (f := z231rr) hx hb hK hP 2 0 rfl rfl h.1 d_Md_fractions_241 ?_
    have h := h.2
    refine lv_topi (fun x_12 ex_12 => ?_)
    have h := h x_12 ex_12
    refine lv_istore (lv' := [(5, .int x_12), (4, .int s231_0), (0, .ref qd), (2, .int j231_2)]) hx hb d_Md_fractions_242 hl (by decide) rfl (fun ls hl => ?_)
    refine lv_iload hx hb d_Md_fractions_244 (lv_at hl 1 rfl) ?_
    refine lv_if_eq (tgt := 267) hx hb d_Md_fractions_246 (by decide) (fun c_13 => ?_) (fun c_13 => ?_)
    · skip
      have h := h.1 c_13
      exact jn_267 s231_0 x_12 z231dd z231Lwhole z231Lwhole2 z231bm z231rr z231kt h _ _ hP hD hS ls (lv_sub hl [2, 1, 0] rfl)
    · skip
      have h := h.2 c_13
      refine lv_aload_n hx hb d_Md_fractions_249 rfl (lv_at hl 2 rfl) ?_
      refine lv_bipush (v := 6) hx hb d_Md_fractions_250 (by decide) ?_
      refine zz_Ri (As := [.int (6 : Int32)]) (rest := []) (wc := wD qd qmemory qr qcounts cI cB ms z231dd z231Lwhole z231Lwhole2 z231bm z231rr z231kt) X hK hP (c_Md_field l D cI cB qd qmemory qr qcounts ms z231dd z231Lwhole z231Lwhole2 z231bm z231rr z231kt (6 : Int32) _ h) ⟨rfl, rfl⟩ m_Md_field k_Md_85 ⟨Nat.le_of_ble_eq_true rfl, Nat.le_of_ble_eq_true rfl⟩ [0, 1, 2, 3] rfl 6 0 rfl rfl rfl rfl hl.1 rfl (Nat.le_of_ble_eq_true rfl) d_Md_fractions_252 hf0 (fun r_14 h => ?_)
      refine lv_iconst (v := 1) hx hb d_Md_fractions_255 (by decide) ?_
      refine lv_iand hx hb d_Md_fractions_256 ?_
      refine lv_iconst (v := 1) hx hb d_Md_fractions_257 (by decide) ?_
      refine lv_icmp_ne (tgt := 267) hx hb d_Md_fractions_258 (by decide) (fun c_15 => ?_) (fun c_15 => ?_)
      · skip
        have h := h.2 c_15
        exact jn_267 s231_0 x_12 z231dd z231Lwhole z231Lwhole2 z231bm z231rr z231kt h _ _ hP hD hS ls (lv_sub hl [2, 1, 0] rfl)
      · skip
        have h := h.1 c_15
        refine lv_aload_n hx hb d_Md_fractions_261 rfl (lv_at hl 2 rfl) ?_
        refine lv_bipush (v := 8) hx hb d_Md_fractions_262 (by decide) ?_
        refine zz_Wv (As := [.int (8 : Int32)]) (rest := []) (wc := wD qd qmemory qr qcounts cI cB ms z231dd z231Lwhole z231Lwhole2 z231bm z231rr z231kt) (wr := []) X hK hP hD hS hA (c_Md_ends l D cI cB qd qmemory qr qcounts ms z231dd z231Lwhole z231Lwhole2 z231bm z231rr z231kt (8 : Int32) _ h _) ⟨rfl, rfl⟩ m_Md_ends k_Md_116 ⟨Nat.le_of_ble_eq_true rfl, Nat.le_of_ble_eq_true rfl⟩ [0, 1, 2, 3] [] rfl rfl (by decide) (by decide) (by decide) 6 0 rfl rfl rfl rfl hl.1 rfl (Nat.le_of_ble_eq_true rfl) d_Md_fractions_264 hf0 (fun u_16 H locs h hP hD hS => ?_)
        have hP : va_P D vwCl (wD qd qmemory qr qcounts cI cB ms u_16.1 u_16.2.1 u_16.2.2.1 u_16.2.2.2.1 u_16.2.2.2.2.1 u_16.2.2.2.2.2) H := hP.sub [0, 1, 2, 3] rfl
        have hD : va_D A (wD qd qmemory qr qcounts cI cB ms u_16.1 u_16.2.1 u_16.2.2.1 u_16.2.2.2.1 u_16.2.2.2.2.1 u_16.2.2.2.2.2) := hD.sub [0, 1, 2, 3] (by decide) rfl
        exact jn_267 s231_0 x_12 u_16.1 u_16.2.1 u_16.2.2.1 u_16.2.2.2.1 u_16.2.2.2.2.1 u_16.2.2.2.2.2 h _ _ hP hD hS ls (lv_sub hl [2, 1, 0] rfl)
  have jn_170 : ∀ (j170_2 : Int32) (j170_3 : Int32) (s170_1 : Int32) (s170_2 : Int32) (z170dd : Nat → Int32) (z170Lwhole : Int64) (z170Lwhole2 : Int64) (z170bm : Nat → Int32) (z170rr : Nat → Int32) (z170kt : Nat → Int32), wj_Md_fractions_170 ms P j170_2 j170_3 s170_1 s170_2 z170dd z170Lwhole z170Lwhole2 z170bm z170rr z170kt → ∀ (H : Heap) (locs : List Loc), va_P D vwCl (wD qd qmemory qr qcounts cI cB ms z170dd z170Lwhole z170Lwhole2 z170bm z170rr z170kt) H → va_D A (wD qd qmemory qr qcounts cI cB ms z170dd z170Lwhole z170Lwhole2 z170bm z170rr z170kt) → va_S A s.heap H locs → ∀ ls : Array Slot, lv_has ls 6 [(0, .ref qd), (2, .int j170_2), (3, .int j170_3)] → W p l e (headSpec (zz_ws y_Md_fractions b_Md_fractions 6 none) rm_Md_fractions).room s m ([.ref qd] : List Value).toArray below meth c H locs 0 0 (MQ below (va_Qv P (zz_qw D (fun u => wD qd qmemory qr qcounts cI cB ms u.1 u.2.1 u.2.2.1 u.2.2.2.1 u.2.2.2.2.1 u.2.2.2.2.2) A) A) ([.ref qd] : List Value).toArray s 0 0 A) (F0 m 170 ls [.int s170_2, .int s170_1, .ref qd]) := by
    intro j170_2 j170_3 s170_1 s170_2 z170dd z170Lwhole z170Lwhole2 z170bm z170rr z170kt h H locs hP hD hS ls hl
    unfold wj_Md_fractions_170 at h
    refine lv_iload_n hx hb d_Md_fractions_170 rfl (lv_at hl 1 rfl) ?_
    refine lv_iload_n hx hb d_Md_fractions_171 rfl (lv_at hl 2 rfl) ?_
    refine lv_aload_n hx hb d_Md_fractions_172 rfl (lv_at hl 0 rfl) ?_
    refine lv_bipush (v := 6) hx hb d_Md_fractions_173 (by decide) ?_
    refine zz_Ri (As := [.int (6 : Int32)]) (rest := [.int j170_3, .int j170_2, .int s170_2, .int s170_1, .ref qd]) (wc := wD qd qmemory qr qcounts cI cB ms z170dd z170Lwhole z170Lwhole2 z170bm z170rr z170kt) X hK hP (c_Md_field l D cI cB qd qmemory qr qcounts ms z170dd z170Lwhole z170Lwhole2 z170bm z170rr z170kt (6 : Int32) _ h) ⟨rfl, rfl⟩ m_Md_field k_Md_85 ⟨Nat.le_of_ble_eq_true rfl, Nat.le_of_ble_eq_true rfl⟩ [0, 1, 2, 3] rfl 6 0 rfl rfl rfl rfl hl.1 rfl (Nat.le_of_ble_eq_true rfl) d_Md_fractions_175 hf0 (fun r_18 h => ?_)
    refine zz_Wv (As := [.int s170_1, .int s170_2, .int j170_2, .int j170_3, .int r_18]) (rest := []) (wc := wD qd qmemory qr qcounts cI cB ms z170dd z170Lwhole z170Lwhole2 z170bm z170rr z170kt) (wr := []) X hK hP hD hS hA (c_Md_reckons l D cI cB qd qmemory qr qcounts ms z170dd z170Lwhole z170Lwhole2 z170bm z170rr z170kt s170_1 s170_2 j170_2 j170_3 r_18 _ h _) ⟨rfl, rfl⟩ m_Md_reckons k_Md_242 ⟨Nat.le_of_ble_eq_true rfl, Nat.le_of_ble_eq_true rfl⟩ [0, 1, 2, 3] [] rfl rfl (by decide) (by decide) (by decide) 6 0 rfl rfl rfl rfl hl.1 rfl (Nat.le_of_ble_eq_true rfl) d_Md_fractions_178 hf0 (fun u_19 H locs h hP hD hS => ?_)
    have hP : va_P D vwCl (wD qd qmemory qr qcounts cI cB ms u_19.1 u_19.2.1 u_19.2.2.1 u_19.2.2.2.1 u_19.2.2.2.2.1 u_19.2.2.2.2.2) H := hP.sub [0, 1, 2, 3] rfl
    have hD : va_D A (wD qd qmemory qr qcounts cI cB ms u_19.1 u_19.2.1 u_19.2.2.1 u_19.2.2.2.1 u_19.2.2.2.2.1 u_19.2.2.2.2.2) := hD.sub [0, 1, 2, 3] (by decide) rfl
    refine lv_goto (tgt := 328) hx hb d_Md_fractions_181 (by decide) ?_
    exact W.vret hx hb hr (fun t ht hW => ⟨⟨(u_19.1, u_19.2.1, u_19.2.2.1, u_19.2.2.2.1, u_19.2.2.2.2.1, u_19.2.2.2.2.2), rfl, h, by rw [ht]; exact hP, hD⟩, hS.F ht⟩) hS.2.2 d_Md_fractions_328
  have jn_151 : ∀ (j151_1 : Int32) (j151_2 : Int32) (j151_3 : Int32) (z151dd : Nat → Int32) (z151Lwhole : Int64) (z151Lwhole2 : Int64) (z151bm : Nat → Int32) (z151rr : Nat → Int32) (z151kt : Nat → Int32), wj_Md_fractions_151 ms P j151_1 j151_2 j151_3 z151dd z151Lwhole z151Lwhole2 z151bm z151rr z151kt → ∀ (H : Heap) (locs : List Loc), va_P D vwCl (wD qd qmemory qr qcounts cI cB ms z151dd z151Lwhole z151Lwhole2 z151bm z151rr z151kt) H → va_D A (wD qd qmemory qr qcounts cI cB ms z151dd z151Lwhole z151Lwhole2 z151bm z151rr z151kt) → va_S A s.heap H locs → ∀ ls : Array Slot, lv_has ls 6 [(0, .ref qd), (1, .int j151_1), (2, .int j151_2), (3, .int j151_3)] → W p l e (headSpec (zz_ws y_Md_fractions b_Md_fractions 6 none) rm_Md_fractions).room s m ([.ref qd] : List Value).toArray below meth c H locs 0 0 (MQ below (va_Qv P (zz_qw D (fun u => wD qd qmemory qr qcounts cI cB ms u.1 u.2.1 u.2.2.1 u.2.2.2.1 u.2.2.2.2.1 u.2.2.2.2.2) A) A) ([.ref qd] : List Value).toArray s 0 0 A) (F0 m 151 ls []) := by
    intro j151_1 j151_2 j151_3 z151dd z151Lwhole z151Lwhole2 z151bm z151rr z151kt h H locs hP hD hS ls hl
    unfold wj_Md_fractions_151 at h
    refine lv_aload_n hx hb d_Md_fractions_151 rfl (lv_at hl 0 rfl) ?_
    refine lv_aload_n hx hb d_Md_fractions_152 rfl (lv_at hl 0 rfl) ?_
    refine g_Md_82 (v := .int (z151dd 9)) hx hb hT hown hK hP 0 rfl rfl d_Md_fractions_153 ?_
    refine lv_bipush (v := 63) hx hb d_Md_fractions_156 (by decide) ?_
    refine lv_iand hx hb d_Md_fractions_158 ?_
    refine lv_topi (fun x_21 ex_21 => ?_)
    have h := h x_21 ex_21
    refine lv_iload_n hx hb d_Md_fractions_159 rfl (lv_at hl 1 rfl) ?_
    refine lv_bipush (v := 17) hx hb d_Md_fractions_160 (by decide) ?_
    refine lv_icmp_ne (tgt := 169) hx hb d_Md_fractions_162 (by decide) (fun c_22 => ?_) (fun c_22 => ?_)
    · skip
      have h := h.2 c_22
      refine lv_iconst (v := 0) hx hb d_Md_fractions_169 (by decide) ?_
      exact jn_170 j151_2 j151_3 x_21 (0 : Int32) z151dd z151Lwhole z151Lwhole2 z151bm z151rr z151kt h _ _ hP hD hS ls (lv_sub hl [0, 2, 3] rfl)
    · skip
      have h := h.1 c_22
      refine lv_iconst (v := 1) hx hb d_Md_fractions_165 (by decide) ?_
      refine lv_goto (tgt := 170) hx hb d_Md_fractions_166 (by decide) ?_
      exact jn_170 j151_2 j151_3 x_21 (1 : Int32) z151dd z151Lwhole z151Lwhole2 z151bm z151rr z151kt h _ _ hP hD hS ls (lv_sub hl [0, 2, 3] rfl)
  have jn_106 : ∀ (s106_0 : Int32) (z106dd : Nat → Int32) (z106Lwhole : Int64) (z106Lwhole2 : Int64) (z106bm : Nat → Int32) (z106rr : Nat → Int32) (z106kt : Nat → Int32), wj_Md_fractions_106 ms P s106_0 z106dd z106Lwhole z106Lwhole2 z106bm z106rr z106kt → ∀ (H : Heap) (locs : List Loc), va_P D vwCl (wD qd qmemory qr qcounts cI cB ms z106dd z106Lwhole z106Lwhole2 z106bm z106rr z106kt) H → va_D A (wD qd qmemory qr qcounts cI cB ms z106dd z106Lwhole z106Lwhole2 z106bm z106rr z106kt) → va_S A s.heap H locs → ∀ ls : Array Slot, lv_has ls 6 [(0, .ref qd)] → W p l e (headSpec (zz_ws y_Md_fractions b_Md_fractions 6 none) rm_Md_fractions).room s m ([.ref qd] : List Value).toArray below meth c H locs 0 0 (MQ below (va_Qv P (zz_qw D (fun u => wD qd qmemory qr qcounts cI cB ms u.1 u.2.1 u.2.2.1 u.2.2.2.1 u.2.2.2.2.1 u.2.2.2.2.2) A) A) ([.ref qd] : List Value).toArray s 0 0 A) (F0 m 106 ls [.int s106_0]) := by
    intro s106_0 z106dd z106Lwhole z106Lwhole2 z106bm z106rr z106kt h H locs hP hD hS ls hl
    unfold wj_Md_fractions_106 at h
    refine lv_istore (lv' := [(4, .int s106_0), (0, .ref qd)]) hx hb d_Md_fractions_106 hl (by decide) rfl (fun ls hl => ?_)
    refine lv_aload_n hx hb d_Md_fractions_108 rfl (lv_at hl 1 rfl) ?_
    refine lv_iload hx hb d_Md_fractions_109 (lv_at hl 0 rfl) ?_
    refine lv_aload_n hx hb d_Md_fractions_111 rfl (lv_at hl 1 rfl) ?_
    refine zz_Ri (As := []) (rest := [.int s106_0, .ref qd]) (wc := wD qd qmemory qr qcounts cI cB ms z106dd z106Lwhole z106Lwhole2 z106bm z106rr z106kt) X hK hP (c_Md_near l D cI cB qd qmemory qr qcounts ms z106dd z106Lwhole z106Lwhole2 z106bm z106rr z106kt _ h) ⟨rfl, rfl⟩ m_Md_near k_Md_138 ⟨Nat.le_of_ble_eq_true rfl, Nat.le_of_ble_eq_true rfl⟩ [0, 1, 2, 3] rfl 6 0 rfl rfl rfl rfl hl.1 rfl (Nat.le_of_ble_eq_true rfl) d_Md_fractions_112 hf0 (fun r_23 h => ?_)
    refine lv_aload_n hx hb d_Md_fractions_115 rfl (lv_at hl 1 rfl) ?_
    refine g_Md_82 (v := .int (z106dd 9)) hx hb hT hown hK hP 0 rfl rfl d_Md_fractions_116 ?_
    refine lv_bipush (v := 17) hx hb d_Md_fractions_119 (by decide) ?_
    refine zz_iushr hx hb d_Md_fractions_121 ?_
    refine lv_topi (fun x_24 ex_24 => ?_)
    have h := h x_24 ex_24
    refine lv_iconst (v := 1) hx hb d_Md_fractions_122 (by decide) ?_
    refine lv_iand hx hb d_Md_fractions_123 ?_
    refine lv_iconst (v := 1) hx hb d_Md_fractions_124 (by decide) ?_
    refine lv_icmp_ne (tgt := 132) hx hb d_Md_fractions_125 (by decide) (fun c_25 => ?_) (fun c_25 => ?_)
    · skip
      have h := h.2 c_25
      refine lv_iconst (v := 0) hx hb d_Md_fractions_132 (by decide) ?_
      refine zz_Wv (As := [.int s106_0, .int r_23, .int (0 : Int32)]) (rest := []) (wc := wD qd qmemory qr qcounts cI cB ms z106dd z106Lwhole z106Lwhole2 z106bm z106rr z106kt) (wr := []) X hK hP hD hS hA (c_Md_jumps l D cI cB qd qmemory qr qcounts ms z106dd z106Lwhole z106Lwhole2 z106bm z106rr z106kt s106_0 r_23 (0 : Int32) _ h _) ⟨rfl, rfl⟩ m_Md_jumps k_Md_124 ⟨Nat.le_of_ble_eq_true rfl, Nat.le_of_ble_eq_true rfl⟩ [0, 1, 2, 3] [] rfl rfl (by decide) (by decide) (by decide) 6 0 rfl rfl rfl rfl hl.1 rfl (Nat.le_of_ble_eq_true rfl) d_Md_fractions_133 hf0 (fun u_26 H locs h hP hD hS => ?_)
      have hP : va_P D vwCl (wD qd qmemory qr qcounts cI cB ms u_26.1 u_26.2.1 u_26.2.2.1 u_26.2.2.2.1 u_26.2.2.2.2.1 u_26.2.2.2.2.2) H := hP.sub [0, 1, 2, 3] rfl
      have hD : va_D A (wD qd qmemory qr qcounts cI cB ms u_26.1 u_26.2.1 u_26.2.2.1 u_26.2.2.2.1 u_26.2.2.2.2.1 u_26.2.2.2.2.2) := hD.sub [0, 1, 2, 3] (by decide) rfl
      refine lv_goto (tgt := 328) hx hb d_Md_fractions_136 (by decide) ?_
      exact W.vret hx hb hr (fun t ht hW => ⟨⟨(u_26.1, u_26.2.1, u_26.2.2.1, u_26.2.2.2.1, u_26.2.2.2.2.1, u_26.2.2.2.2.2), rfl, h, by rw [ht]; exact hP, hD⟩, hS.F ht⟩) hS.2.2 d_Md_fractions_328
    · skip
      have h := h.1 c_25
      refine lv_iconst (v := 1) hx hb d_Md_fractions_128 (by decide) ?_
      refine lv_goto (tgt := 133) hx hb d_Md_fractions_129 (by decide) ?_
      refine zz_Wv (As := [.int s106_0, .int r_23, .int (1 : Int32)]) (rest := []) (wc := wD qd qmemory qr qcounts cI cB ms z106dd z106Lwhole z106Lwhole2 z106bm z106rr z106kt) (wr := []) X hK hP hD hS hA (c_Md_jumps l D cI cB qd qmemory qr qcounts ms z106dd z106Lwhole z106Lwhole2 z106bm z106rr z106kt s106_0 r_23 (1 : Int32) _ h _) ⟨rfl, rfl⟩ m_Md_jumps k_Md_124 ⟨Nat.le_of_ble_eq_true rfl, Nat.le_of_ble_eq_true rfl⟩ [0, 1, 2, 3] [] rfl rfl (by decide) (by decide) (by decide) 6 0 rfl rfl rfl rfl hl.1 rfl (Nat.le_of_ble_eq_true rfl) d_Md_fractions_133 hf0 (fun u_28 H locs h hP hD hS => ?_)
      have hP : va_P D vwCl (wD qd qmemory qr qcounts cI cB ms u_28.1 u_28.2.1 u_28.2.2.1 u_28.2.2.2.1 u_28.2.2.2.2.1 u_28.2.2.2.2.2) H := hP.sub [0, 1, 2, 3] rfl
      have hD : va_D A (wD qd qmemory qr qcounts cI cB ms u_28.1 u_28.2.1 u_28.2.2.1 u_28.2.2.2.1 u_28.2.2.2.2.1 u_28.2.2.2.2.2) := hD.sub [0, 1, 2, 3] (by decide) rfl
      refine lv_goto (tgt := 328) hx hb d_Md_fractions_136 (by decide) ?_
      exact W.vret hx hb hr (fun t ht hW => ⟨⟨(u_28.1, u_28.2.1, u_28.2.2.1, u_28.2.2.2.1, u_28.2.2.2.2.1, u_28.2.2.2.2.2), rfl, h, by rw [ht]; exact hP, hD⟩, hS.F ht⟩) hS.2.2 d_Md_fractions_328
  refine lv_aload_n hx hb d_Md_fractions_0 rfl (lv_at hl 0 rfl) ?_
  refine lv_bipush (v := 21) hx hb d_Md_fractions_1 (by decide) ?_
  refine zz_Ri (As := [.int (21 : Int32)]) (rest := []) (wc := wD qd qmemory qr qcounts cI cB ms dd Lwhole Lwhole2 bm rr kt) X hK hP (c_Md_field l D cI cB qd qmemory qr qcounts ms dd Lwhole Lwhole2 bm rr kt (21 : Int32) _ h) ⟨rfl, rfl⟩ m_Md_field k_Md_85 ⟨Nat.le_of_ble_eq_true rfl, Nat.le_of_ble_eq_true rfl⟩ [0, 1, 2, 3] rfl 6 0 rfl rfl rfl rfl hl.1 rfl (Nat.le_of_ble_eq_true rfl) d_Md_fractions_3 hf0 (fun r_30 h => ?_)
  refine lv_istore_n (lv' := [(1, .int r_30), (0, .ref qd)]) hx hb d_Md_fractions_6 rfl hl (by decide) rfl (fun ls hl => ?_)
  refine lv_aload_n hx hb d_Md_fractions_7 rfl (lv_at hl 1 rfl) ?_
  refine lv_bipush (v := 11) hx hb d_Md_fractions_8 (by decide) ?_
  refine zz_Ri (As := [.int (11 : Int32)]) (rest := []) (wc := wD qd qmemory qr qcounts cI cB ms dd Lwhole Lwhole2 bm rr kt) X hK hP (c_Md_field l D cI cB qd qmemory qr qcounts ms dd Lwhole Lwhole2 bm rr kt (11 : Int32) _ h) ⟨rfl, rfl⟩ m_Md_field k_Md_85 ⟨Nat.le_of_ble_eq_true rfl, Nat.le_of_ble_eq_true rfl⟩ [0, 1, 2, 3] rfl 6 0 rfl rfl rfl rfl hl.1 rfl (Nat.le_of_ble_eq_true rfl) d_Md_fractions_10 hf0 (fun r_31 h => ?_)
  refine lv_istore_n (lv' := [(2, .int r_31), (1, .int r_30), (0, .ref qd)]) hx hb d_Md_fractions_13 rfl hl (by decide) rfl (fun ls hl => ?_)
  refine lv_aload_n hx hb d_Md_fractions_14 rfl (lv_at hl 2 rfl) ?_
  refine lv_bipush (v := 16) hx hb d_Md_fractions_15 (by decide) ?_
  refine zz_Ri (As := [.int (16 : Int32)]) (rest := []) (wc := wD qd qmemory qr qcounts cI cB ms dd Lwhole Lwhole2 bm rr kt) X hK hP (c_Md_field l D cI cB qd qmemory qr qcounts ms dd Lwhole Lwhole2 bm rr kt (16 : Int32) _ h) ⟨rfl, rfl⟩ m_Md_field k_Md_85 ⟨Nat.le_of_ble_eq_true rfl, Nat.le_of_ble_eq_true rfl⟩ [0, 1, 2, 3] rfl 6 0 rfl rfl rfl rfl hl.1 rfl (Nat.le_of_ble_eq_true rfl) d_Md_fractions_17 hf0 (fun r_32 h => ?_)
  refine lv_istore_n (lv' := [(3, .int r_32), (2, .int r_31), (1, .int r_30), (0, .ref qd)]) hx hb d_Md_fractions_20 rfl hl (by decide) rfl (fun ls hl => ?_)
  refine lv_iload_n hx hb d_Md_fractions_21 rfl (lv_at hl 2 rfl) ?_
  refine lv_if_ne (tgt := 42) hx hb d_Md_fractions_22 (by decide) (fun c_33 => ?_) (fun c_33 => ?_)
  · skip
    have h := h.2 c_33
    refine lv_iload_n hx hb d_Md_fractions_42 rfl (lv_at hl 2 rfl) ?_
    refine lv_iconst (v := 4) hx hb d_Md_fractions_43 (by decide) ?_
    refine lv_icmp_ne (tgt := 63) hx hb d_Md_fractions_44 (by decide) (fun c_34 => ?_) (fun c_34 => ?_)
    · skip
      have h := h.2 c_34
      refine lv_iload_n hx hb d_Md_fractions_63 rfl (lv_at hl 2 rfl) ?_
      refine lv_bipush (v := 8) hx hb d_Md_fractions_64 (by decide) ?_
      refine lv_icmp_ne (tgt := 139) hx hb d_Md_fractions_66 (by decide) (fun c_35 => ?_) (fun c_35 => ?_)
      · skip
        have h := h.2 c_35
        refine lv_iload_n hx hb d_Md_fractions_139 rfl (lv_at hl 2 rfl) ?_
        refine lv_bipush (v := 16) hx hb d_Md_fractions_140 (by decide) ?_
        refine lv_icmp_eq (tgt := 151) hx hb d_Md_fractions_142 (by decide) (fun c_36 => ?_) (fun c_36 => ?_)
        · skip
          have h := h.1 c_36
          exact jn_151 r_30 r_31 r_32 dd Lwhole Lwhole2 bm rr kt h _ _ hP hD hS ls (lv_sub hl [3, 2, 1, 0] rfl)
        · skip
          have h := h.2 c_36
          refine lv_iload_n hx hb d_Md_fractions_145 rfl (lv_at hl 2 rfl) ?_
          refine lv_bipush (v := 17) hx hb d_Md_fractions_146 (by decide) ?_
          refine lv_icmp_ne (tgt := 184) hx hb d_Md_fractions_148 (by decide) (fun c_37 => ?_) (fun c_37 => ?_)
          · skip
            have h := h.2 c_37
            refine lv_iload_n hx hb d_Md_fractions_184 rfl (lv_at hl 2 rfl) ?_
            refine lv_bipush (v := 20) hx hb d_Md_fractions_185 (by decide) ?_
            refine lv_icmp_ne (tgt := 323) hx hb d_Md_fractions_187 (by decide) (fun c_38 => ?_) (fun c_38 => ?_)
            · skip
              have h := h.2 c_38
              exact jn_323 dd Lwhole Lwhole2 bm rr kt h _ _ hP hD hS ls (lv_sub hl [3] rfl)
            · skip
              have h := h.1 c_38
              refine lv_aload_n hx hb d_Md_fractions_190 rfl (lv_at hl 3 rfl) ?_
              refine g_Md_82 (v := .int (dd 9)) hx hb hT hown hK hP 0 rfl rfl d_Md_fractions_191 ?_
              refine lv_bipush (v := 63) hx hb d_Md_fractions_194 (by decide) ?_
              refine lv_iand hx hb d_Md_fractions_196 ?_
              refine lv_bipush (v := 32) hx hb d_Md_fractions_197 (by decide) ?_
              refine lv_icmp_lt (tgt := 323) hx hb d_Md_fractions_199 (by decide) (fun c_39 => ?_) (fun c_39 => ?_)
              · skip
                have h := h.1 c_39
                exact jn_323 dd Lwhole Lwhole2 bm rr kt h _ _ hP hD hS ls (lv_sub hl [3] rfl)
              · skip
                have h := h.2 c_39
                refine lv_aload_n hx hb d_Md_fractions_202 rfl (lv_at hl 3 rfl) ?_
                refine g_Md_82 (v := .int (dd 9)) hx hb hT hown hK hP 0 rfl rfl d_Md_fractions_203 ?_
                refine lv_bipush (v := 63) hx hb d_Md_fractions_206 (by decide) ?_
                refine lv_iand hx hb d_Md_fractions_208 ?_
                refine lv_bipush (v := 33) hx hb d_Md_fractions_209 (by decide) ?_
                refine lv_icmp_gt (tgt := 323) hx hb d_Md_fractions_211 (by decide) (fun c_40 => ?_) (fun c_40 => ?_)
                · skip
                  have h := h.1 c_40
                  exact jn_323 dd Lwhole Lwhole2 bm rr kt h _ _ hP hD hS ls (lv_sub hl [3] rfl)
                · skip
                  have h := h.2 c_40
                  refine lv_aload_n hx hb d_Md_fractions_214 rfl (lv_at hl 3 rfl) ?_
                  refine g_Md_82 (v := .int (dd 9)) hx hb hT hown hK hP 0 rfl rfl d_Md_fractions_215 ?_
                  refine lv_bipush (v := 63) hx hb d_Md_fractions_218 (by decide) ?_
                  refine lv_iand hx hb d_Md_fractions_220 ?_
                  refine lv_bipush (v := 33) hx hb d_Md_fractions_221 (by decide) ?_
                  refine lv_icmp_ne (tgt := 230) hx hb d_Md_fractions_223 (by decide) (fun c_41 => ?_) (fun c_41 => ?_)
                  · skip
                    have h := h.2 c_41
                    refine lv_iconst (v := 0) hx hb d_Md_fractions_230 (by decide) ?_
                    exact jn_231 r_31 (0 : Int32) dd Lwhole Lwhole2 bm rr kt h _ _ hP hD hS ls (lv_sub hl [3, 1] rfl)
                  · skip
                    have h := h.1 c_41
                    refine lv_iconst (v := 1) hx hb d_Md_fractions_226 (by decide) ?_
                    refine lv_goto (tgt := 231) hx hb d_Md_fractions_227 (by decide) ?_
                    exact jn_231 r_31 (1 : Int32) dd Lwhole Lwhole2 bm rr kt h _ _ hP hD hS ls (lv_sub hl [3, 1] rfl)
          · skip
            have h := h.1 c_37
            exact jn_151 r_30 r_31 r_32 dd Lwhole Lwhole2 bm rr kt h _ _ hP hD hS ls (lv_sub hl [3, 2, 1, 0] rfl)
      · skip
        have h := h.1 c_35
        refine lv_aload_n hx hb d_Md_fractions_69 rfl (lv_at hl 3 rfl) ?_
        refine g_Md_14 (v := .ref qr) hx hb hT hown hK hP 0 rfl rfl d_Md_fractions_70 ?_
        refine lv_bipush (v := 66) hx hb d_Md_fractions_73 (by decide) ?_
        refine va_iald (f := rr) hx hb hK hP 2 0 rfl rfl h.1 d_Md_fractions_75 ?_
        have h := h.2
        refine lv_topi (fun x_42 ex_42 => ?_)
        have h := h x_42 ex_42
        refine lv_aload_n hx hb d_Md_fractions_76 rfl (lv_at hl 3 rfl) ?_
        refine g_Md_82 (v := .int (dd 9)) hx hb hT hown hK hP 0 rfl rfl d_Md_fractions_77 ?_
        refine lv_bipush (v := 18) hx hb d_Md_fractions_80 (by decide) ?_
        refine zz_iushr hx hb d_Md_fractions_82 ?_
        refine lv_topi (fun x_43 ex_43 => ?_)
        have h := h x_43 ex_43
        refine lv_bipush (v := 7) hx hb d_Md_fractions_83 (by decide) ?_
        refine lv_iand hx hb d_Md_fractions_85 ?_
        refine zz_ishr hx hb d_Md_fractions_86 ?_
        refine lv_topi (fun x_44 ex_44 => ?_)
        have h := h x_44 ex_44
        refine lv_iconst (v := 1) hx hb d_Md_fractions_87 (by decide) ?_
        refine lv_iand hx hb d_Md_fractions_88 ?_
        refine lv_aload_n hx hb d_Md_fractions_89 rfl (lv_at hl 3 rfl) ?_
        refine g_Md_82 (v := .int (dd 9)) hx hb hT hown hK hP 0 rfl rfl d_Md_fractions_90 ?_
        refine lv_bipush (v := 16) hx hb d_Md_fractions_93 (by decide) ?_
        refine zz_iushr hx hb d_Md_fractions_95 ?_
        refine lv_topi (fun x_45 ex_45 => ?_)
        have h := h x_45 ex_45
        refine lv_iconst (v := 1) hx hb d_Md_fractions_96 (by decide) ?_
        refine lv_iand hx hb d_Md_fractions_97 ?_
        refine lv_icmp_ne (tgt := 105) hx hb d_Md_fractions_98 (by decide) (fun c_46 => ?_) (fun c_46 => ?_)
        · skip
          have h := h.2 c_46
          refine lv_iconst (v := 0) hx hb d_Md_fractions_105 (by decide) ?_
          exact jn_106 (0 : Int32) dd Lwhole Lwhole2 bm rr kt h _ _ hP hD hS ls (lv_sub hl [3] rfl)
        · skip
          have h := h.1 c_46
          refine lv_iconst (v := 1) hx hb d_Md_fractions_101 (by decide) ?_
          refine lv_goto (tgt := 106) hx hb d_Md_fractions_102 (by decide) ?_
          exact jn_106 (1 : Int32) dd Lwhole Lwhole2 bm rr kt h _ _ hP hD hS ls (lv_sub hl [3] rfl)
    · skip
      have h := h.1 c_34
      refine lv_aload_n hx hb d_Md_fractions_47 rfl (lv_at hl 3 rfl) ?_
      refine g_Md_14 (v := .ref qr) hx hb hT hown hK hP 0 rfl rfl d_Md_fractions_48 ?_
      refine lv_bipush (v := 34) hx hb d_Md_fractions_51 (by decide) ?_
      refine lv_iload_n hx hb d_Md_fractions_53 rfl (lv_at hl 1 rfl) ?_
      refine lv_iadd hx hb d_Md_fractions_54 ?_
      refine lv_aload_n hx hb d_Md_fractions_55 rfl (lv_at hl 3 rfl) ?_
      refine zz_Ri (As := []) (rest := [.int ((34 : Int32) + r_31), .ref qr]) (wc := wD qd qmemory qr qcounts cI cB ms dd Lwhole Lwhole2 bm rr kt) X hK hP (c_Md_rtNow l D cI cB qd qmemory qr qcounts ms dd Lwhole Lwhole2 bm rr kt _ h) ⟨rfl, rfl⟩ m_Md_rtNow k_Md_239 ⟨Nat.le_of_ble_eq_true rfl, Nat.le_of_ble_eq_true rfl⟩ [0, 1, 2, 3] rfl 6 0 rfl rfl rfl rfl hl.1 rfl (Nat.le_of_ble_eq_true rfl) d_Md_fractions_56 hf0 (fun r_47 h => ?_)
      refine va_iast (f := rr) hx hb hK hP hD hS 2 0 rfl rfl h.1 d_Md_fractions_59 (fun H locs (hP : va_P D vwCl (wD qd qmemory qr qcounts cI cB ms dd Lwhole Lwhole2 bm (upd rr ((34 : Int32) + r_31).toNatClampNeg r_47) kt) H) (hD : va_D A (wD qd qmemory qr qcounts cI cB ms dd Lwhole Lwhole2 bm (upd rr ((34 : Int32) + r_31).toNatClampNeg r_47) kt)) hS => ?_)
      have h := h.2
      refine lv_goto (tgt := 328) hx hb d_Md_fractions_60 (by decide) ?_
      exact W.vret hx hb hr (fun t ht hW => ⟨⟨(dd, Lwhole, Lwhole2, bm, (upd rr ((34 : Int32) + r_31).toNatClampNeg r_47), kt), rfl, h, by rw [ht]; exact hP, hD⟩, hS.F ht⟩) hS.2.2 d_Md_fractions_328
  · skip
    have h := h.1 c_33
    refine lv_aload_n hx hb d_Md_fractions_25 rfl (lv_at hl 3 rfl) ?_
    refine lv_iload_n hx hb d_Md_fractions_26 rfl (lv_at hl 0 rfl) ?_
    refine lv_aload_n hx hb d_Md_fractions_27 rfl (lv_at hl 3 rfl) ?_
    refine g_Md_14 (v := .ref qr) hx hb hT hown hK hP 0 rfl rfl d_Md_fractions_28 ?_
    refine lv_bipush (v := 34) hx hb d_Md_fractions_31 (by decide) ?_
    refine lv_iload_n hx hb d_Md_fractions_33 rfl (lv_at hl 1 rfl) ?_
    refine lv_iadd hx hb d_Md_fractions_34 ?_
    refine va_iald (f := rr) hx hb hK hP 2 0 rfl rfl h.1 d_Md_fractions_35 ?_
    have h := h.2
    refine lv_topi (fun x_48 ex_48 => ?_)
    have h := h x_48 ex_48
    refine zz_Wv (As := [.int r_32, .int x_48]) (rest := []) (wc := wD qd qmemory qr qcounts cI cB ms dd Lwhole Lwhole2 bm rr kt) (wr := []) X hK hP hD hS hA (c_Md_into l D cI cB qd qmemory qr qcounts ms dd Lwhole Lwhole2 bm rr kt r_32 x_48 _ h _) ⟨rfl, rfl⟩ m_Md_into k_Md_128 ⟨Nat.le_of_ble_eq_true rfl, Nat.le_of_ble_eq_true rfl⟩ [0, 1, 2, 3] [] rfl rfl (by decide) (by decide) (by decide) 6 0 rfl rfl rfl rfl hl.1 rfl (Nat.le_of_ble_eq_true rfl) d_Md_fractions_36 hf0 (fun u_49 H locs h hP hD hS => ?_)
    have hP : va_P D vwCl (wD qd qmemory qr qcounts cI cB ms u_49.1 u_49.2.1 u_49.2.2.1 u_49.2.2.2.1 u_49.2.2.2.2.1 u_49.2.2.2.2.2) H := hP.sub [0, 1, 2, 3] rfl
    have hD : va_D A (wD qd qmemory qr qcounts cI cB ms u_49.1 u_49.2.1 u_49.2.2.1 u_49.2.2.2.1 u_49.2.2.2.2.1 u_49.2.2.2.2.2) := hD.sub [0, 1, 2, 3] (by decide) rfl
    refine lv_goto (tgt := 328) hx hb d_Md_fractions_39 (by decide) ?_
    exact W.vret hx hb hr (fun t ht hW => ⟨⟨(u_49.1, u_49.2.1, u_49.2.2.1, u_49.2.2.2.1, u_49.2.2.2.2.1, u_49.2.2.2.2.2), rfl, h, by rw [ht]; exact hP, hD⟩, hS.F ht⟩) hS.2.2 d_Md_fractions_328
def wj_Md_second_190 (ms : Int32) (a0 : Int32) (P : ((Nat → Int32) × Int64 × Int64 × (Nat → Int32) × (Nat → Int32) × (Nat → Int32)) → Prop) (j190_3 : Int32) (z190dd : Nat → Int32) (z190Lwhole : Int64) (z190Lwhole2 : Int64) (z190bm : Nat → Int32) (z190rr : Nat → Int32) (z190kt : Nat → Int32) : Prop := wp_Md_field ms z190dd z190Lwhole z190Lwhole2 z190bm z190rr z190kt (11 : Int32) (fun r_1 => wp_Md_into ms z190dd z190Lwhole z190Lwhole2 z190bm z190rr z190kt r_1 j190_3 (fun u_2 => P (u_2.1, u_2.2.1, u_2.2.2.1, u_2.2.2.2.1, u_2.2.2.2.2.1, u_2.2.2.2.2.2)))
def wl_Md_second_172 (ms : Int32) (a0 : Int32) (P : ((Nat → Int32) × Int64 × Int64 × (Nat → Int32) × (Nat → Int32) × (Nat → Int32)) → Prop) : Nat → Int32 → Int32 → (Nat → Int32) → Int64 → Int64 → (Nat → Int32) → (Nat → Int32) → (Nat → Int32) → Prop
  | 0, _, _, _, _, _, _, _, _ => False
  | n + 1, v3, v2, wdd, wLwhole, wLwhole2, wbm, wrr, wkt => (((32 : Int32) ≤ v3 → wj_Md_second_190 ms a0 P v3 wdd wLwhole wLwhole2 wbm wrr wkt) ∧ (¬ (32 : Int32) ≤ v3 → (((zz_shl v2 v3) < (0 : Int32) → wj_Md_second_190 ms a0 P v3 wdd wLwhole wLwhole2 wbm wrr wkt) ∧ (¬ (zz_shl v2 v3) < (0 : Int32) → ∀ x_6 : Int32, x_6 = v3 + 1 → wl_Md_second_172 ms a0 P n x_6 v2 wdd wLwhole wLwhole2 wbm wrr wkt))))
def wj_Md_second_169 (ms : Int32) (a0 : Int32) (P : ((Nat → Int32) × Int64 × Int64 × (Nat → Int32) × (Nat → Int32) × (Nat → Int32)) → Prop) (s169_0 : Int32) (z169dd : Nat → Int32) (z169Lwhole : Int64) (z169Lwhole2 : Int64) (z169bm : Nat → Int32) (z169rr : Nat → Int32) (z169kt : Nat → Int32) : Prop := ∃ n, wl_Md_second_172 ms a0 P n (0 : Int32) s169_0 z169dd z169Lwhole z169Lwhole2 z169bm z169rr z169kt
def wj_Md_second_150 (ms : Int32) (a0 : Int32) (P : ((Nat → Int32) × Int64 × Int64 × (Nat → Int32) × (Nat → Int32) × (Nat → Int32)) → Prop) (z150dd : Nat → Int32) (z150Lwhole : Int64) (z150Lwhole2 : Int64) (z150bm : Nat → Int32) (z150rr : Nat → Int32) (z150kt : Nat → Int32) : Prop := ((a0 = (32 : Int32) → wp_Md_rs ms z150dd z150Lwhole z150Lwhole2 z150bm z150rr z150kt (fun r_9 => wj_Md_second_169 ms a0 P r_9 z150dd z150Lwhole z150Lwhole2 z150bm z150rr z150kt)) ∧ (¬ a0 = (32 : Int32) → wp_Md_rs ms z150dd z150Lwhole z150Lwhole2 z150bm z150rr z150kt (fun r_8 => wj_Md_second_169 ms a0 P (r_8 ^^^ (-1 : Int32)) z150dd z150Lwhole z150Lwhole2 z150bm z150rr z150kt)))
def wj_Md_second_110 (ms : Int32) (a0 : Int32) (P : ((Nat → Int32) × Int64 × Int64 × (Nat → Int32) × (Nat → Int32) × (Nat → Int32)) → Prop) (j110_2 : Int64) (s110_1 : Int32) (z110dd : Nat → Int32) (z110Lwhole : Int64) (z110Lwhole2 : Int64) (z110bm : Nat → Int32) (z110rr : Nat → Int32) (z110kt : Nat → Int32) : Prop := wp_Md_product ms z110dd z110Lwhole z110Lwhole2 z110bm z110rr z110kt s110_1 (fun r_10 => (((2 : Int32) ≤ a0 → wp_Md_both ms z110dd z110Lwhole z110Lwhole2 z110bm z110rr z110kt (j110_2 - r_10) (fun u_12 => P (u_12.1, u_12.2.1, u_12.2.2.1, u_12.2.2.2.1, u_12.2.2.2.2.1, u_12.2.2.2.2.2))) ∧ (¬ (2 : Int32) ≤ a0 → wp_Md_both ms z110dd z110Lwhole z110Lwhole2 z110bm z110rr z110kt (j110_2 + r_10) (fun u_14 => P (u_14.1, u_14.2.1, u_14.2.2.1, u_14.2.2.2.1, u_14.2.2.2.2.1, u_14.2.2.2.2.2)))))
def wj_Md_second_66 (ms : Int32) (a0 : Int32) (P : ((Nat → Int32) × Int64 × Int64 × (Nat → Int32) × (Nat → Int32) × (Nat → Int32)) → Prop) (z66dd : Nat → Int32) (z66Lwhole : Int64) (z66Lwhole2 : Int64) (z66bm : Nat → Int32) (z66rr : Nat → Int32) (z66kt : Nat → Int32) : Prop := wp_Md_ends ms z66dd z66Lwhole z66Lwhole2 z66bm z66rr z66kt (8 : Int32) (fun u_16 => P (u_16.1, u_16.2.1, u_16.2.2.1, u_16.2.2.2.1, u_16.2.2.2.2.1, u_16.2.2.2.2.2))
def wj_Md_second_52 (ms : Int32) (a0 : Int32) (P : ((Nat → Int32) × Int64 × Int64 × (Nat → Int32) × (Nat → Int32) × (Nat → Int32)) → Prop) (z52dd : Nat → Int32) (z52Lwhole : Int64) (z52Lwhole2 : Int64) (z52bm : Nat → Int32) (z52rr : Nat → Int32) (z52kt : Nat → Int32) : Prop := (((z52dd 1) = (0 : Int32) → wj_Md_second_66 ms a0 P z52dd z52Lwhole z52Lwhole2 z52bm z52rr z52kt) ∧ (¬ (z52dd 1) = (0 : Int32) → (((z52dd 2) = (0 : Int32) → wj_Md_second_66 ms a0 P z52dd z52Lwhole z52Lwhole2 z52bm z52rr z52kt) ∧ (¬ (z52dd 2) = (0 : Int32) → vp_in (32 : Int32) 67 ∧ ∀ x_20 : Int32, x_20 = (z52rr (32 : Int32).toNatClampNeg) → ∀ x_21 : Int64, x_21 = (zz_lshl x_20.toInt64 (32 : Int32)) → vp_in (33 : Int32) 67 ∧ ∀ x_22 : Int32, x_22 = (z52rr (33 : Int32).toNatClampNeg) → ∀ x_23 : Int64, x_23 = (x_22.toInt64 &&& (4294967295 : Int64)) → ∀ x_24 : Int64, x_24 = (x_21 ||| x_23) → (((a0 &&& (1 : Int32)) = (0 : Int32) → wj_Md_second_110 ms a0 P x_24 (1 : Int32) z52dd z52Lwhole z52Lwhole2 z52bm z52rr z52kt) ∧ (¬ (a0 &&& (1 : Int32)) = (0 : Int32) → wj_Md_second_110 ms a0 P x_24 (0 : Int32) z52dd z52Lwhole z52Lwhole2 z52bm z52rr z52kt))))))
def wp_Md_second (ms : Int32) (dd : Nat → Int32) (Lwhole : Int64) (Lwhole2 : Int64) (bm : Nat → Int32) (rr : Nat → Int32) (kt : Nat → Int32) (a0 : Int32) (P : ((Nat → Int32) × Int64 × Int64 × (Nat → Int32) × (Nat → Int32) × (Nat → Int32)) → Prop) : Prop := ((a0 = (2 : Int32) → wp_Md_field ms dd Lwhole Lwhole2 bm rr kt (11 : Int32) (fun r_34 => wp_Md_rs ms dd Lwhole Lwhole2 bm rr kt (fun r_35 => wp_Md_rt ms dd Lwhole Lwhole2 bm rr kt (fun r_36 => wp_Md_into ms dd Lwhole Lwhole2 bm rr kt r_34 (r_35 * r_36) (fun u_37 => P ((upd (upd u_37.1 1 (0 : Int32)) 2 (0 : Int32)), u_37.2.1, u_37.2.2.1, u_37.2.2.2.1, u_37.2.2.2.2.1, u_37.2.2.2.2.2)))))) ∧ (¬ a0 = (2 : Int32) → ((a0 < (2 : Int32) → wj_Md_second_52 ms a0 P dd Lwhole Lwhole2 bm rr kt) ∧ (¬ a0 < (2 : Int32) → ((a0 = (4 : Int32) → wj_Md_second_52 ms a0 P dd Lwhole Lwhole2 bm rr kt) ∧ (¬ a0 = (4 : Int32) → ((a0 = (5 : Int32) → wj_Md_second_52 ms a0 P dd Lwhole Lwhole2 bm rr kt) ∧ (¬ a0 = (5 : Int32) → ((a0 = (32 : Int32) → wj_Md_second_150 ms a0 P dd Lwhole Lwhole2 bm rr kt) ∧ (¬ a0 = (32 : Int32) → ((a0 = (33 : Int32) → wj_Md_second_150 ms a0 P dd Lwhole Lwhole2 bm rr kt) ∧ (¬ a0 = (33 : Int32) → wp_Md_ends ms dd Lwhole Lwhole2 bm rr kt (3 : Int32) (fun u_32 => P (u_32.1, u_32.2.1, u_32.2.2.1, u_32.2.2.2.1, u_32.2.2.2.2.1, u_32.2.2.2.2.2))))))))))))))
abbrev rm_Md_second : Room := { frames := 3, cells := 0, slots := 0, locals := 62 }
set_option maxHeartbeats 4000000 in
set_option maxRecDepth 100000 in
theorem c_Md_second (l : Launch) (D : va_G) (cI : ClassId) (cB : ClassId) (qd : Nat) (qmemory : Nat) (qr : Nat) (qcounts : Nat) (ms : Int32) (dd : Nat → Int32) (Lwhole : Int64) (Lwhole2 : Int64) (bm : Nat → Int32) (rr : Nat → Int32) (kt : Nat → Int32) (a0 : Int32) (P : ((Nat → Int32) × Int64 × Int64 × (Nat → Int32) × (Nat → Int32) × (Nat → Int32)) → Prop) (h : wp_Md_second ms dd Lwhole Lwhole2 bm rr kt a0 P) (sz : Nat) : Met l y_Md_second (zz_ws y_Md_second b_Md_second 6 none) rm_Md_second (va_Pc [.ref qd, .int a0] (zz_pw D [(cI, .int), (cB, .byte)] (wD qd qmemory qr qcounts cI cB ms dd Lwhole Lwhole2 bm rr kt) sz)) (va_Qv P (zz_qw D (fun u => wD qd qmemory qr qcounts cI cB ms u.1 u.2.1 u.2.2.1 u.2.2.2.1 u.2.2.2.2.1 u.2.2.2.2.2) (va_A (wD qd qmemory qr qcounts cI cB ms dd Lwhole Lwhole2 bm rr kt) sz)) (va_A (wD qd qmemory qr qcounts cI cB ms dd Lwhole Lwhole2 bm rr kt) sz)) 0 0 (va_A (wD qd qmemory qr qcounts cI cB ms dd Lwhole Lwhole2 bm rr kt) sz) := by
  refine Met.ofW (cc := b_Md_second) (maxL := 6) (ret := none) (by decide) rfl ?_
  intro p e s m args below meth c s₁ B hml hv
  obtain ⟨rfl, hsz, hP, hK, hD0⟩ := hv
  have hx := B.exec
  have hb := B.bytes
  have hr := B.returns
  have hts := atoms_spec (ws := (zz_ws y_Md_second b_Md_second 6 none)) B.pre
  have hown : s.vm.findClass R_Md = some m.cls := findClass_of_methodNamed B.named
  have hlocks := B.notSynchronized
  have hT := zz_hts hts
  have X : CallFix p m c b_Md_second 6 s ([.ref qd, .int a0] : List Value).toArray (zz_ws y_Md_second b_Md_second 6 none) R_Md := ⟨hx, hb, hml, hown, hts⟩
  have hf0 : 0 + 0 ≤ (headSpec (zz_ws y_Md_second b_Md_second 6 none) rm_Md_second).room.cells ∧ 0 + 0 ≤ (headSpec (zz_ws y_Md_second b_Md_second 6 none) rm_Md_second).room.slots := ⟨Nat.le_of_ble_eq_true rfl, Nat.le_of_ble_eq_true rfl⟩
  subst hsz
  have hD := hD0.self (sz := s.heap.size)
  generalize hAe : va_A (wD qd qmemory qr qcounts cI cB ms dd Lwhole Lwhole2 bm rr kt) s.heap.size = A at hD ⊢
  have hA : ∀ q : Nat, s.heap.size ≤ q → A q := fun q h => by rw [← hAe]; exact Or.inr h
  have hS : va_S A s.heap s.heap [] := va_S.rf
  have hl := lv_entry ([.ref qd, .int a0]) (n := 6) (Nat.le_of_ble_eq_true rfl)
  rw [lg_entry_eq]
  generalize (lg_sl ([.ref qd, .int a0]) ++ List.replicate (6 - (lg_sl ([.ref qd, .int a0])).length) Slot.unset).toArray = ls at hl ⊢
  have hl : lv_has ls 6 [(0, .ref qd), (1, .int a0)] := hl
  have jn_190 : ∀ (j190_3 : Int32) (z190dd : Nat → Int32) (z190Lwhole : Int64) (z190Lwhole2 : Int64) (z190bm : Nat → Int32) (z190rr : Nat → Int32) (z190kt : Nat → Int32), wj_Md_second_190 ms a0 P j190_3 z190dd z190Lwhole z190Lwhole2 z190bm z190rr z190kt → ∀ (H : Heap) (locs : List Loc), va_P D vwCl (wD qd qmemory qr qcounts cI cB ms z190dd z190Lwhole z190Lwhole2 z190bm z190rr z190kt) H → va_D A (wD qd qmemory qr qcounts cI cB ms z190dd z190Lwhole z190Lwhole2 z190bm z190rr z190kt) → va_S A s.heap H locs → ∀ ls : Array Slot, lv_has ls 6 [(0, .ref qd), (3, .int j190_3)] → W p l e (headSpec (zz_ws y_Md_second b_Md_second 6 none) rm_Md_second).room s m ([.ref qd, .int a0] : List Value).toArray below meth c H locs 0 0 (MQ below (va_Qv P (zz_qw D (fun u => wD qd qmemory qr qcounts cI cB ms u.1 u.2.1 u.2.2.1 u.2.2.2.1 u.2.2.2.2.1 u.2.2.2.2.2) A) A) ([.ref qd, .int a0] : List Value).toArray s 0 0 A) (F0 m 190 ls []) := by
    intro j190_3 z190dd z190Lwhole z190Lwhole2 z190bm z190rr z190kt h H locs hP hD hS ls hl
    unfold wj_Md_second_190 at h
    refine lv_aload_n hx hb d_Md_second_190 rfl (lv_at hl 0 rfl) ?_
    refine lv_aload_n hx hb d_Md_second_191 rfl (lv_at hl 0 rfl) ?_
    refine lv_bipush (v := 11) hx hb d_Md_second_192 (by decide) ?_
    refine zz_Ri (As := [.int (11 : Int32)]) (rest := [.ref qd]) (wc := wD qd qmemory qr qcounts cI cB ms z190dd z190Lwhole z190Lwhole2 z190bm z190rr z190kt) X hK hP (c_Md_field l D cI cB qd qmemory qr qcounts ms z190dd z190Lwhole z190Lwhole2 z190bm z190rr z190kt (11 : Int32) _ h) ⟨rfl, rfl⟩ m_Md_field k_Md_85 ⟨Nat.le_of_ble_eq_true rfl, Nat.le_of_ble_eq_true rfl⟩ [0, 1, 2, 3] rfl 6 0 rfl rfl rfl rfl hl.1 rfl (Nat.le_of_ble_eq_true rfl) d_Md_second_194 hf0 (fun r_1 h => ?_)
    refine lv_iload_n hx hb d_Md_second_197 rfl (lv_at hl 1 rfl) ?_
    refine zz_Wv (As := [.int r_1, .int j190_3]) (rest := []) (wc := wD qd qmemory qr qcounts cI cB ms z190dd z190Lwhole z190Lwhole2 z190bm z190rr z190kt) (wr := []) X hK hP hD hS hA (c_Md_into l D cI cB qd qmemory qr qcounts ms z190dd z190Lwhole z190Lwhole2 z190bm z190rr z190kt r_1 j190_3 _ h _) ⟨rfl, rfl⟩ m_Md_into k_Md_128 ⟨Nat.le_of_ble_eq_true rfl, Nat.le_of_ble_eq_true rfl⟩ [0, 1, 2, 3] [] rfl rfl (by decide) (by decide) (by decide) 6 0 rfl rfl rfl rfl hl.1 rfl (Nat.le_of_ble_eq_true rfl) d_Md_second_198 hf0 (fun u_2 H locs h hP hD hS => ?_)
    have hP : va_P D vwCl (wD qd qmemory qr qcounts cI cB ms u_2.1 u_2.2.1 u_2.2.2.1 u_2.2.2.2.1 u_2.2.2.2.2.1 u_2.2.2.2.2.2) H := hP.sub [0, 1, 2, 3] rfl
    have hD : va_D A (wD qd qmemory qr qcounts cI cB ms u_2.1 u_2.2.1 u_2.2.2.1 u_2.2.2.2.1 u_2.2.2.2.2.1 u_2.2.2.2.2.2) := hD.sub [0, 1, 2, 3] (by decide) rfl
    refine lv_goto (tgt := 209) hx hb d_Md_second_201 (by decide) ?_
    exact W.vret hx hb hr (fun t ht hW => ⟨⟨(u_2.1, u_2.2.1, u_2.2.2.1, u_2.2.2.2.1, u_2.2.2.2.2.1, u_2.2.2.2.2.2), rfl, h, by rw [ht]; exact hP, hD⟩, hS.F ht⟩) hS.2.2 d_Md_second_209
  have jn_169 : ∀ (s169_0 : Int32) (z169dd : Nat → Int32) (z169Lwhole : Int64) (z169Lwhole2 : Int64) (z169bm : Nat → Int32) (z169rr : Nat → Int32) (z169kt : Nat → Int32), wj_Md_second_169 ms a0 P s169_0 z169dd z169Lwhole z169Lwhole2 z169bm z169rr z169kt → ∀ (H : Heap) (locs : List Loc), va_P D vwCl (wD qd qmemory qr qcounts cI cB ms z169dd z169Lwhole z169Lwhole2 z169bm z169rr z169kt) H → va_D A (wD qd qmemory qr qcounts cI cB ms z169dd z169Lwhole z169Lwhole2 z169bm z169rr z169kt) → va_S A s.heap H locs → ∀ ls : Array Slot, lv_has ls 6 [(0, .ref qd)] → W p l e (headSpec (zz_ws y_Md_second b_Md_second 6 none) rm_Md_second).room s m ([.ref qd, .int a0] : List Value).toArray below meth c H locs 0 0 (MQ below (va_Qv P (zz_qw D (fun u => wD qd qmemory qr qcounts cI cB ms u.1 u.2.1 u.2.2.1 u.2.2.2.1 u.2.2.2.2.1 u.2.2.2.2.2) A) A) ([.ref qd, .int a0] : List Value).toArray s 0 0 A) (F0 m 169 ls [.int s169_0]) := by
    intro s169_0 z169dd z169Lwhole z169Lwhole2 z169bm z169rr z169kt h H locs hP hD hS ls hl
    unfold wj_Md_second_169 at h
    refine lv_istore_n (lv' := [(2, .int s169_0), (0, .ref qd)]) hx hb d_Md_second_169 rfl hl (by decide) rfl (fun ls hl => ?_)
    refine lv_iconst (v := 0) hx hb d_Md_second_170 (by decide) ?_
    refine lv_istore_n (lv' := [(3, .int (0 : Int32)), (2, .int s169_0), (0, .ref qd)]) hx hb d_Md_second_171 rfl hl (by decide) rfl (fun ls hl => ?_)
    have lp : ∀ (n : Nat) (v3 : Int32) (v2 : Int32) (wdd : Nat → Int32) (wLwhole : Int64) (wLwhole2 : Int64) (wbm : Nat → Int32) (wrr : Nat → Int32) (wkt : Nat → Int32), wl_Md_second_172 ms a0 P n v3 v2 wdd wLwhole wLwhole2 wbm wrr wkt → ∀ (H : Heap) (locs : List Loc), va_P D vwCl (wD qd qmemory qr qcounts cI cB ms wdd wLwhole wLwhole2 wbm wrr wkt) H → va_D A (wD qd qmemory qr qcounts cI cB ms wdd wLwhole wLwhole2 wbm wrr wkt) → va_S A s.heap H locs → ∀ ls : Array Slot, lv_has ls 6 [(3, .int v3), (2, .int v2), (0, .ref qd)] → W p l e (headSpec (zz_ws y_Md_second b_Md_second 6 none) rm_Md_second).room s m ([.ref qd, .int a0] : List Value).toArray below meth c H locs 0 0 (MQ below (va_Qv P (zz_qw D (fun u => wD qd qmemory qr qcounts cI cB ms u.1 u.2.1 u.2.2.1 u.2.2.2.1 u.2.2.2.2.1 u.2.2.2.2.2) A) A) ([.ref qd, .int a0] : List Value).toArray s 0 0 A) (F0 m 172 ls []) := by
      intro n
      induction n with
      | zero =>
        intro v3 v2 wdd wLwhole wLwhole2 wbm wrr wkt h
        exact False.elim h
      | succ n ih =>
        intro v3 v2 wdd wLwhole wLwhole2 wbm wrr wkt h H locs hP hD hS ls hl
        rw [wl_Md_second_172] at h
        refine lv_iload_n hx hb d_Md_second_172 rfl (lv_at hl 0 rfl) ?_
        refine lv_bipush (v := 32) hx hb d_Md_second_173 (by decide) ?_
        refine lv_icmp_ge (tgt := 190) hx hb d_Md_second_175 (by decide) (fun c_4 => ?_) (fun c_4 => ?_)
        · skip
          have h := h.1 c_4
          exact jn_190 v3 wdd wLwhole wLwhole2 wbm wrr wkt h _ _ hP hD hS ls (lv_sub hl [2, 0] rfl)
        · skip
          have h := h.2 c_4
          refine lv_iload_n hx hb d_Md_second_178 rfl (lv_at hl 1 rfl) ?_
          refine lv_iload_n hx hb d_Md_second_179 rfl (lv_at hl 0 rfl) ?_
          refine zz_ishl hx hb d_Md_second_180 ?_
          refine lv_if_lt (tgt := 190) hx hb d_Md_second_181 (by decide) (fun c_5 => ?_) (fun c_5 => ?_)
          · skip
            have h := h.1 c_5
            exact jn_190 v3 wdd wLwhole wLwhole2 wbm wrr wkt h _ _ hP hD hS ls (lv_sub hl [2, 0] rfl)
          · skip
            have h := h.2 c_5
            obtain ⟨x_6, ex_6⟩ : ∃ y : Int32, y = v3 + 1 := ⟨_, rfl⟩
            have h := h x_6 ex_6
            refine lv_iinc (v := x_6) (lv' := [(3, .int x_6), (2, .int v2), (0, .ref qd)]) hx hb d_Md_second_184 hl (k := 0) rfl (by rw [ex_6]; rfl) (by decide) rfl (fun ls hl => ?_)
            refine lv_goto (tgt := 172) hx hb d_Md_second_187 (by decide) ?_
            exact ih x_6 v2 wdd wLwhole wLwhole2 wbm wrr wkt h H locs hP hD hS ls (lv_sub hl [0, 1, 2] rfl)
    obtain ⟨n, h⟩ := h
    exact lp n (0 : Int32) s169_0 z169dd z169Lwhole z169Lwhole2 z169bm z169rr z169kt h _ _ hP hD hS ls hl
  have jn_150 : ∀ (z150dd : Nat → Int32) (z150Lwhole : Int64) (z150Lwhole2 : Int64) (z150bm : Nat → Int32) (z150rr : Nat → Int32) (z150kt : Nat → Int32), wj_Md_second_150 ms a0 P z150dd z150Lwhole z150Lwhole2 z150bm z150rr z150kt → ∀ (H : Heap) (locs : List Loc), va_P D vwCl (wD qd qmemory qr qcounts cI cB ms z150dd z150Lwhole z150Lwhole2 z150bm z150rr z150kt) H → va_D A (wD qd qmemory qr qcounts cI cB ms z150dd z150Lwhole z150Lwhole2 z150bm z150rr z150kt) → va_S A s.heap H locs → ∀ ls : Array Slot, lv_has ls 6 [(0, .ref qd), (1, .int a0)] → W p l e (headSpec (zz_ws y_Md_second b_Md_second 6 none) rm_Md_second).room s m ([.ref qd, .int a0] : List Value).toArray below meth c H locs 0 0 (MQ below (va_Qv P (zz_qw D (fun u => wD qd qmemory qr qcounts cI cB ms u.1 u.2.1 u.2.2.1 u.2.2.2.1 u.2.2.2.2.1 u.2.2.2.2.2) A) A) ([.ref qd, .int a0] : List Value).toArray s 0 0 A) (F0 m 150 ls []) := by
    intro z150dd z150Lwhole z150Lwhole2 z150bm z150rr z150kt h H locs hP hD hS ls hl
    unfold wj_Md_second_150 at h
    refine lv_iload_n hx hb d_Md_second_150 rfl (lv_at hl 1 rfl) ?_
    refine lv_bipush (v := 32) hx hb d_Md_second_151 (by decide) ?_
    refine lv_icmp_ne (tgt := 163) hx hb d_Md_second_153 (by decide) (fun c_7 => ?_) (fun c_7 => ?_)
    · skip
      have h := h.2 c_7
      refine lv_aload_n hx hb d_Md_second_163 rfl (lv_at hl 0 rfl) ?_
      refine zz_Ri (As := []) (rest := []) (wc := wD qd qmemory qr qcounts cI cB ms z150dd z150Lwhole z150Lwhole2 z150bm z150rr z150kt) X hK hP (c_Md_rs l D cI cB qd qmemory qr qcounts ms z150dd z150Lwhole z150Lwhole2 z150bm z150rr z150kt _ h) ⟨rfl, rfl⟩ m_Md_rs k_Md_132 ⟨Nat.le_of_ble_eq_true rfl, Nat.le_of_ble_eq_true rfl⟩ [0, 1, 2, 3] rfl 6 0 rfl rfl rfl rfl hl.1 rfl (Nat.le_of_ble_eq_true rfl) d_Md_second_164 hf0 (fun r_8 h => ?_)
      refine lv_iconst (v := -1) hx hb d_Md_second_167 (by decide) ?_
      refine lv_ixor hx hb d_Md_second_168 ?_
      exact jn_169 (r_8 ^^^ (-1 : Int32)) z150dd z150Lwhole z150Lwhole2 z150bm z150rr z150kt h _ _ hP hD hS ls (lv_sub hl [0] rfl)
    · skip
      have h := h.1 c_7
      refine lv_aload_n hx hb d_Md_second_156 rfl (lv_at hl 0 rfl) ?_
      refine zz_Ri (As := []) (rest := []) (wc := wD qd qmemory qr qcounts cI cB ms z150dd z150Lwhole z150Lwhole2 z150bm z150rr z150kt) X hK hP (c_Md_rs l D cI cB qd qmemory qr qcounts ms z150dd z150Lwhole z150Lwhole2 z150bm z150rr z150kt _ h) ⟨rfl, rfl⟩ m_Md_rs k_Md_132 ⟨Nat.le_of_ble_eq_true rfl, Nat.le_of_ble_eq_true rfl⟩ [0, 1, 2, 3] rfl 6 0 rfl rfl rfl rfl hl.1 rfl (Nat.le_of_ble_eq_true rfl) d_Md_second_157 hf0 (fun r_9 h => ?_)
      refine lv_goto (tgt := 169) hx hb d_Md_second_160 (by decide) ?_
      exact jn_169 r_9 z150dd z150Lwhole z150Lwhole2 z150bm z150rr z150kt h _ _ hP hD hS ls (lv_sub hl [0] rfl)
  have jn_110 : ∀ (j110_2 : Int64) (s110_1 : Int32) (z110dd : Nat → Int32) (z110Lwhole : Int64) (z110Lwhole2 : Int64) (z110bm : Nat → Int32) (z110rr : Nat → Int32) (z110kt : Nat → Int32), wj_Md_second_110 ms a0 P j110_2 s110_1 z110dd z110Lwhole z110Lwhole2 z110bm z110rr z110kt → ∀ (H : Heap) (locs : List Loc), va_P D vwCl (wD qd qmemory qr qcounts cI cB ms z110dd z110Lwhole z110Lwhole2 z110bm z110rr z110kt) H → va_D A (wD qd qmemory qr qcounts cI cB ms z110dd z110Lwhole z110Lwhole2 z110bm z110rr z110kt) → va_S A s.heap H locs → ∀ ls : Array Slot, lv_has ls 6 [(0, .ref qd), (1, .int a0), (2, .long j110_2)] → W p l e (headSpec (zz_ws y_Md_second b_Md_second 6 none) rm_Md_second).room s m ([.ref qd, .int a0] : List Value).toArray below meth c H locs 0 0 (MQ below (va_Qv P (zz_qw D (fun u => wD qd qmemory qr qcounts cI cB ms u.1 u.2.1 u.2.2.1 u.2.2.2.1 u.2.2.2.2.1 u.2.2.2.2.2) A) A) ([.ref qd, .int a0] : List Value).toArray s 0 0 A) (F0 m 110 ls [.int s110_1, .ref qd]) := by
    intro j110_2 s110_1 z110dd z110Lwhole z110Lwhole2 z110bm z110rr z110kt h H locs hP hD hS ls hl
    unfold wj_Md_second_110 at h
    refine zz_Rl (As := [.int s110_1]) (rest := []) (wc := wD qd qmemory qr qcounts cI cB ms z110dd z110Lwhole z110Lwhole2 z110bm z110rr z110kt) X hK hP (c_Md_product l D cI cB qd qmemory qr qcounts ms z110dd z110Lwhole z110Lwhole2 z110bm z110rr z110kt s110_1 _ h) ⟨rfl, rfl⟩ m_Md_product k_Md_165 ⟨Nat.le_of_ble_eq_true rfl, Nat.le_of_ble_eq_true rfl⟩ [0, 1, 2, 3] rfl 6 0 rfl rfl rfl rfl hl.1 rfl (Nat.le_of_ble_eq_true rfl) d_Md_second_110 hf0 (fun r_10 h => ?_)
    refine lv_lstore (lv' := [(4, .long r_10), (0, .ref qd), (1, .int a0), (2, .long j110_2)]) hx hb d_Md_second_113 hl (by decide) rfl (fun ls hl => ?_)
    refine lv_aload_n hx hb d_Md_second_115 rfl (lv_at hl 1 rfl) ?_
    refine lv_iload_n hx hb d_Md_second_116 rfl (lv_at hl 2 rfl) ?_
    refine lv_iconst (v := 2) hx hb d_Md_second_117 (by decide) ?_
    refine lv_icmp_ge (tgt := 128) hx hb d_Md_second_118 (by decide) (fun c_11 => ?_) (fun c_11 => ?_)
    · skip
      have h := h.1 c_11
      refine lv_lload_n hx hb d_Md_second_128 rfl (lv_at hl 3 rfl) ?_
      refine lv_lload hx hb d_Md_second_129 (lv_at hl 0 rfl) ?_
      refine lv_lsub hx hb d_Md_second_131 ?_
      refine zz_Wv (As := [.long (j110_2 - r_10)]) (rest := []) (wc := wD qd qmemory qr qcounts cI cB ms z110dd z110Lwhole z110Lwhole2 z110bm z110rr z110kt) (wr := []) X hK hP hD hS hA (c_Md_both l D cI cB qd qmemory qr qcounts ms z110dd z110Lwhole z110Lwhole2 z110bm z110rr z110kt (j110_2 - r_10) _ h _) ⟨rfl, rfl⟩ m_Md_both k_Md_169 ⟨Nat.le_of_ble_eq_true rfl, Nat.le_of_ble_eq_true rfl⟩ [0, 1, 2, 3] [] rfl rfl (by decide) (by decide) (by decide) 6 0 rfl rfl rfl rfl hl.1 rfl (Nat.le_of_ble_eq_true rfl) d_Md_second_132 hf0 (fun u_12 H locs h hP hD hS => ?_)
      have hP : va_P D vwCl (wD qd qmemory qr qcounts cI cB ms u_12.1 u_12.2.1 u_12.2.2.1 u_12.2.2.2.1 u_12.2.2.2.2.1 u_12.2.2.2.2.2) H := hP.sub [0, 1, 2, 3] rfl
      have hD : va_D A (wD qd qmemory qr qcounts cI cB ms u_12.1 u_12.2.1 u_12.2.2.1 u_12.2.2.2.1 u_12.2.2.2.2.1 u_12.2.2.2.2.2) := hD.sub [0, 1, 2, 3] (by decide) rfl
      refine lv_goto (tgt := 209) hx hb d_Md_second_135 (by decide) ?_
      exact W.vret hx hb hr (fun t ht hW => ⟨⟨(u_12.1, u_12.2.1, u_12.2.2.1, u_12.2.2.2.1, u_12.2.2.2.2.1, u_12.2.2.2.2.2), rfl, h, by rw [ht]; exact hP, hD⟩, hS.F ht⟩) hS.2.2 d_Md_second_209
    · skip
      have h := h.2 c_11
      refine lv_lload_n hx hb d_Md_second_121 rfl (lv_at hl 3 rfl) ?_
      refine lv_lload hx hb d_Md_second_122 (lv_at hl 0 rfl) ?_
      refine lv_ladd hx hb d_Md_second_124 ?_
      refine lv_goto (tgt := 132) hx hb d_Md_second_125 (by decide) ?_
      refine zz_Wv (As := [.long (j110_2 + r_10)]) (rest := []) (wc := wD qd qmemory qr qcounts cI cB ms z110dd z110Lwhole z110Lwhole2 z110bm z110rr z110kt) (wr := []) X hK hP hD hS hA (c_Md_both l D cI cB qd qmemory qr qcounts ms z110dd z110Lwhole z110Lwhole2 z110bm z110rr z110kt (j110_2 + r_10) _ h _) ⟨rfl, rfl⟩ m_Md_both k_Md_169 ⟨Nat.le_of_ble_eq_true rfl, Nat.le_of_ble_eq_true rfl⟩ [0, 1, 2, 3] [] rfl rfl (by decide) (by decide) (by decide) 6 0 rfl rfl rfl rfl hl.1 rfl (Nat.le_of_ble_eq_true rfl) d_Md_second_132 hf0 (fun u_14 H locs h hP hD hS => ?_)
      have hP : va_P D vwCl (wD qd qmemory qr qcounts cI cB ms u_14.1 u_14.2.1 u_14.2.2.1 u_14.2.2.2.1 u_14.2.2.2.2.1 u_14.2.2.2.2.2) H := hP.sub [0, 1, 2, 3] rfl
      have hD : va_D A (wD qd qmemory qr qcounts cI cB ms u_14.1 u_14.2.1 u_14.2.2.1 u_14.2.2.2.1 u_14.2.2.2.2.1 u_14.2.2.2.2.2) := hD.sub [0, 1, 2, 3] (by decide) rfl
      refine lv_goto (tgt := 209) hx hb d_Md_second_135 (by decide) ?_
      exact W.vret hx hb hr (fun t ht hW => ⟨⟨(u_14.1, u_14.2.1, u_14.2.2.1, u_14.2.2.2.1, u_14.2.2.2.2.1, u_14.2.2.2.2.2), rfl, h, by rw [ht]; exact hP, hD⟩, hS.F ht⟩) hS.2.2 d_Md_second_209
  have jn_66 : ∀ (z66dd : Nat → Int32) (z66Lwhole : Int64) (z66Lwhole2 : Int64) (z66bm : Nat → Int32) (z66rr : Nat → Int32) (z66kt : Nat → Int32), wj_Md_second_66 ms a0 P z66dd z66Lwhole z66Lwhole2 z66bm z66rr z66kt → ∀ (H : Heap) (locs : List Loc), va_P D vwCl (wD qd qmemory qr qcounts cI cB ms z66dd z66Lwhole z66Lwhole2 z66bm z66rr z66kt) H → va_D A (wD qd qmemory qr qcounts cI cB ms z66dd z66Lwhole z66Lwhole2 z66bm z66rr z66kt) → va_S A s.heap H locs → ∀ ls : Array Slot, lv_has ls 6 [(0, .ref qd)] → W p l e (headSpec (zz_ws y_Md_second b_Md_second 6 none) rm_Md_second).room s m ([.ref qd, .int a0] : List Value).toArray below meth c H locs 0 0 (MQ below (va_Qv P (zz_qw D (fun u => wD qd qmemory qr qcounts cI cB ms u.1 u.2.1 u.2.2.1 u.2.2.2.1 u.2.2.2.2.1 u.2.2.2.2.2) A) A) ([.ref qd, .int a0] : List Value).toArray s 0 0 A) (F0 m 66 ls []) := by
    intro z66dd z66Lwhole z66Lwhole2 z66bm z66rr z66kt h H locs hP hD hS ls hl
    unfold wj_Md_second_66 at h
    refine lv_aload_n hx hb d_Md_second_66 rfl (lv_at hl 0 rfl) ?_
    refine lv_bipush (v := 8) hx hb d_Md_second_67 (by decide) ?_
    refine zz_Wv (As := [.int (8 : Int32)]) (rest := []) (wc := wD qd qmemory qr qcounts cI cB ms z66dd z66Lwhole z66Lwhole2 z66bm z66rr z66kt) (wr := []) X hK hP hD hS hA (c_Md_ends l D cI cB qd qmemory qr qcounts ms z66dd z66Lwhole z66Lwhole2 z66bm z66rr z66kt (8 : Int32) _ h _) ⟨rfl, rfl⟩ m_Md_ends k_Md_116 ⟨Nat.le_of_ble_eq_true rfl, Nat.le_of_ble_eq_true rfl⟩ [0, 1, 2, 3] [] rfl rfl (by decide) (by decide) (by decide) 6 0 rfl rfl rfl rfl hl.1 rfl (Nat.le_of_ble_eq_true rfl) d_Md_second_69 hf0 (fun u_16 H locs h hP hD hS => ?_)
    have hP : va_P D vwCl (wD qd qmemory qr qcounts cI cB ms u_16.1 u_16.2.1 u_16.2.2.1 u_16.2.2.2.1 u_16.2.2.2.2.1 u_16.2.2.2.2.2) H := hP.sub [0, 1, 2, 3] rfl
    have hD : va_D A (wD qd qmemory qr qcounts cI cB ms u_16.1 u_16.2.1 u_16.2.2.1 u_16.2.2.2.1 u_16.2.2.2.2.1 u_16.2.2.2.2.2) := hD.sub [0, 1, 2, 3] (by decide) rfl
    exact W.vret hx hb hr (fun t ht hW => ⟨⟨(u_16.1, u_16.2.1, u_16.2.2.1, u_16.2.2.2.1, u_16.2.2.2.2.1, u_16.2.2.2.2.2), rfl, h, by rw [ht]; exact hP, hD⟩, hS.F ht⟩) hS.2.2 d_Md_second_72
  have jn_52 : ∀ (z52dd : Nat → Int32) (z52Lwhole : Int64) (z52Lwhole2 : Int64) (z52bm : Nat → Int32) (z52rr : Nat → Int32) (z52kt : Nat → Int32), wj_Md_second_52 ms a0 P z52dd z52Lwhole z52Lwhole2 z52bm z52rr z52kt → ∀ (H : Heap) (locs : List Loc), va_P D vwCl (wD qd qmemory qr qcounts cI cB ms z52dd z52Lwhole z52Lwhole2 z52bm z52rr z52kt) H → va_D A (wD qd qmemory qr qcounts cI cB ms z52dd z52Lwhole z52Lwhole2 z52bm z52rr z52kt) → va_S A s.heap H locs → ∀ ls : Array Slot, lv_has ls 6 [(0, .ref qd), (1, .int a0)] → W p l e (headSpec (zz_ws y_Md_second b_Md_second 6 none) rm_Md_second).room s m ([.ref qd, .int a0] : List Value).toArray below meth c H locs 0 0 (MQ below (va_Qv P (zz_qw D (fun u => wD qd qmemory qr qcounts cI cB ms u.1 u.2.1 u.2.2.1 u.2.2.2.1 u.2.2.2.2.1 u.2.2.2.2.2) A) A) ([.ref qd, .int a0] : List Value).toArray s 0 0 A) (F0 m 52 ls []) := by
    intro z52dd z52Lwhole z52Lwhole2 z52bm z52rr z52kt h H locs hP hD hS ls hl
    unfold wj_Md_second_52 at h
    refine lv_aload_n hx hb d_Md_second_52 rfl (lv_at hl 0 rfl) ?_
    refine g_Md_18 (v := .int (z52dd 1)) hx hb hT hown hK hP 0 rfl rfl d_Md_second_53 ?_
    refine lv_if_eq (tgt := 66) hx hb d_Md_second_56 (by decide) (fun c_18 => ?_) (fun c_18 => ?_)
    · skip
      have h := h.1 c_18
      exact jn_66 z52dd z52Lwhole z52Lwhole2 z52bm z52rr z52kt h _ _ hP hD hS ls (lv_sub hl [0] rfl)
    · skip
      have h := h.2 c_18
      refine lv_aload_n hx hb d_Md_second_59 rfl (lv_at hl 0 rfl) ?_
      refine g_Md_22 (v := .int (z52dd 2)) hx hb hT hown hK hP 0 rfl rfl d_Md_second_60 ?_
      refine lv_if_ne (tgt := 73) hx hb d_Md_second_63 (by decide) (fun c_19 => ?_) (fun c_19 => ?_)
      · skip
        have h := h.2 c_19
        refine lv_aload_n hx hb d_Md_second_73 rfl (lv_at hl 0 rfl) ?_
        refine g_Md_14 (v := .ref qr) hx hb hT hown hK hP 0 rfl rfl d_Md_second_74 ?_
        refine lv_bipush (v := 32) hx hb d_Md_second_77 (by decide) ?_
        refine va_iald (f := z52rr) hx hb hK hP 2 0 rfl rfl h.1 d_Md_second_79 ?_
        have h := h.2
        refine lv_topi (fun x_20 ex_20 => ?_)
        have h := h x_20 ex_20
        refine lv_i2l (v := x_20.toInt64) hx hb d_Md_second_80 rfl ?_
        refine lv_bipush (v := 32) hx hb d_Md_second_81 (by decide) ?_
        refine zz_llshl hx hb d_Md_second_83 ?_
        refine lv_topl (fun x_21 ex_21 => ?_)
        have h := h x_21 ex_21
        refine lv_aload_n hx hb d_Md_second_84 rfl (lv_at hl 0 rfl) ?_
        refine g_Md_14 (v := .ref qr) hx hb hT hown hK hP 0 rfl rfl d_Md_second_85 ?_
        refine lv_bipush (v := 33) hx hb d_Md_second_88 (by decide) ?_
        refine va_iald (f := z52rr) hx hb hK hP 2 0 rfl rfl h.1 d_Md_second_90 ?_
        have h := h.2
        refine lv_topi (fun x_22 ex_22 => ?_)
        have h := h x_22 ex_22
        refine lv_i2l (v := x_22.toInt64) hx hb d_Md_second_91 rfl ?_
        refine lv_ldc2 (v := 4294967295) hx hb hown (hT _ n_Md_163) d_Md_second_92 ?_
        refine lv_land hx hb d_Md_second_95 ?_
        refine lv_topl (fun x_23 ex_23 => ?_)
        have h := h x_23 ex_23
        refine lv_lor hx hb d_Md_second_96 ?_
        refine lv_topl (fun x_24 ex_24 => ?_)
        have h := h x_24 ex_24
        refine lv_lstore_n (lv' := [(2, .long x_24), (0, .ref qd), (1, .int a0)]) hx hb d_Md_second_97 rfl hl (by decide) rfl (fun ls hl => ?_)
        refine lv_aload_n hx hb d_Md_second_98 rfl (lv_at hl 1 rfl) ?_
        refine lv_iload_n hx hb d_Md_second_99 rfl (lv_at hl 2 rfl) ?_
        refine lv_iconst (v := 1) hx hb d_Md_second_100 (by decide) ?_
        refine lv_iand hx hb d_Md_second_101 ?_
        refine lv_if_ne (tgt := 109) hx hb d_Md_second_102 (by decide) (fun c_25 => ?_) (fun c_25 => ?_)
        · skip
          have h := h.2 c_25
          refine lv_iconst (v := 0) hx hb d_Md_second_109 (by decide) ?_
          exact jn_110 x_24 (0 : Int32) z52dd z52Lwhole z52Lwhole2 z52bm z52rr z52kt h _ _ hP hD hS ls (lv_sub hl [1, 2, 0] rfl)
        · skip
          have h := h.1 c_25
          refine lv_iconst (v := 1) hx hb d_Md_second_105 (by decide) ?_
          refine lv_goto (tgt := 110) hx hb d_Md_second_106 (by decide) ?_
          exact jn_110 x_24 (1 : Int32) z52dd z52Lwhole z52Lwhole2 z52bm z52rr z52kt h _ _ hP hD hS ls (lv_sub hl [1, 2, 0] rfl)
      · skip
        have h := h.1 c_19
        exact jn_66 z52dd z52Lwhole z52Lwhole2 z52bm z52rr z52kt h _ _ hP hD hS ls (lv_sub hl [0] rfl)
  refine lv_iload_n hx hb d_Md_second_0 rfl (lv_at hl 1 rfl) ?_
  refine lv_iconst (v := 2) hx hb d_Md_second_1 (by decide) ?_
  refine lv_icmp_ne (tgt := 37) hx hb d_Md_second_2 (by decide) (fun c_26 => ?_) (fun c_26 => ?_)
  · skip
    have h := h.2 c_26
    refine lv_iload_n hx hb d_Md_second_37 rfl (lv_at hl 1 rfl) ?_
    refine lv_iconst (v := 2) hx hb d_Md_second_38 (by decide) ?_
    refine lv_icmp_lt (tgt := 52) hx hb d_Md_second_39 (by decide) (fun c_27 => ?_) (fun c_27 => ?_)
    · skip
      have h := h.1 c_27
      exact jn_52 dd Lwhole Lwhole2 bm rr kt h _ _ hP hD hS ls (lv_sub hl [0, 1] rfl)
    · skip
      have h := h.2 c_27
      refine lv_iload_n hx hb d_Md_second_42 rfl (lv_at hl 1 rfl) ?_
      refine lv_iconst (v := 4) hx hb d_Md_second_43 (by decide) ?_
      refine lv_icmp_eq (tgt := 52) hx hb d_Md_second_44 (by decide) (fun c_28 => ?_) (fun c_28 => ?_)
      · skip
        have h := h.1 c_28
        exact jn_52 dd Lwhole Lwhole2 bm rr kt h _ _ hP hD hS ls (lv_sub hl [0, 1] rfl)
      · skip
        have h := h.2 c_28
        refine lv_iload_n hx hb d_Md_second_47 rfl (lv_at hl 1 rfl) ?_
        refine lv_iconst (v := 5) hx hb d_Md_second_48 (by decide) ?_
        refine lv_icmp_ne (tgt := 138) hx hb d_Md_second_49 (by decide) (fun c_29 => ?_) (fun c_29 => ?_)
        · skip
          have h := h.2 c_29
          refine lv_iload_n hx hb d_Md_second_138 rfl (lv_at hl 1 rfl) ?_
          refine lv_bipush (v := 32) hx hb d_Md_second_139 (by decide) ?_
          refine lv_icmp_eq (tgt := 150) hx hb d_Md_second_141 (by decide) (fun c_30 => ?_) (fun c_30 => ?_)
          · skip
            have h := h.1 c_30
            exact jn_150 dd Lwhole Lwhole2 bm rr kt h _ _ hP hD hS ls (lv_sub hl [0, 1] rfl)
          · skip
            have h := h.2 c_30
            refine lv_iload_n hx hb d_Md_second_144 rfl (lv_at hl 1 rfl) ?_
            refine lv_bipush (v := 33) hx hb d_Md_second_145 (by decide) ?_
            refine lv_icmp_ne (tgt := 204) hx hb d_Md_second_147 (by decide) (fun c_31 => ?_) (fun c_31 => ?_)
            · skip
              have h := h.2 c_31
              refine lv_aload_n hx hb d_Md_second_204 rfl (lv_at hl 0 rfl) ?_
              refine lv_iconst (v := 3) hx hb d_Md_second_205 (by decide) ?_
              refine zz_Wv (As := [.int (3 : Int32)]) (rest := []) (wc := wD qd qmemory qr qcounts cI cB ms dd Lwhole Lwhole2 bm rr kt) (wr := []) X hK hP hD hS hA (c_Md_ends l D cI cB qd qmemory qr qcounts ms dd Lwhole Lwhole2 bm rr kt (3 : Int32) _ h _) ⟨rfl, rfl⟩ m_Md_ends k_Md_116 ⟨Nat.le_of_ble_eq_true rfl, Nat.le_of_ble_eq_true rfl⟩ [0, 1, 2, 3] [] rfl rfl (by decide) (by decide) (by decide) 6 0 rfl rfl rfl rfl hl.1 rfl (Nat.le_of_ble_eq_true rfl) d_Md_second_206 hf0 (fun u_32 H locs h hP hD hS => ?_)
              have hP : va_P D vwCl (wD qd qmemory qr qcounts cI cB ms u_32.1 u_32.2.1 u_32.2.2.1 u_32.2.2.2.1 u_32.2.2.2.2.1 u_32.2.2.2.2.2) H := hP.sub [0, 1, 2, 3] rfl
              have hD : va_D A (wD qd qmemory qr qcounts cI cB ms u_32.1 u_32.2.1 u_32.2.2.1 u_32.2.2.2.1 u_32.2.2.2.2.1 u_32.2.2.2.2.2) := hD.sub [0, 1, 2, 3] (by decide) rfl
              exact W.vret hx hb hr (fun t ht hW => ⟨⟨(u_32.1, u_32.2.1, u_32.2.2.1, u_32.2.2.2.1, u_32.2.2.2.2.1, u_32.2.2.2.2.2), rfl, h, by rw [ht]; exact hP, hD⟩, hS.F ht⟩) hS.2.2 d_Md_second_209
            · skip
              have h := h.1 c_31
              exact jn_150 dd Lwhole Lwhole2 bm rr kt h _ _ hP hD hS ls (lv_sub hl [0, 1] rfl)
        · skip
          have h := h.1 c_29
          exact jn_52 dd Lwhole Lwhole2 bm rr kt h _ _ hP hD hS ls (lv_sub hl [0, 1] rfl)
  · skip
    have h := h.1 c_26
    refine lv_aload_n hx hb d_Md_second_5 rfl (lv_at hl 0 rfl) ?_
    refine lv_aload_n hx hb d_Md_second_6 rfl (lv_at hl 0 rfl) ?_
    refine lv_bipush (v := 11) hx hb d_Md_second_7 (by decide) ?_
    refine zz_Ri (As := [.int (11 : Int32)]) (rest := [.ref qd]) (wc := wD qd qmemory qr qcounts cI cB ms dd Lwhole Lwhole2 bm rr kt) X hK hP (c_Md_field l D cI cB qd qmemory qr qcounts ms dd Lwhole Lwhole2 bm rr kt (11 : Int32) _ h) ⟨rfl, rfl⟩ m_Md_field k_Md_85 ⟨Nat.le_of_ble_eq_true rfl, Nat.le_of_ble_eq_true rfl⟩ [0, 1, 2, 3] rfl 6 0 rfl rfl rfl rfl hl.1 rfl (Nat.le_of_ble_eq_true rfl) d_Md_second_9 hf0 (fun r_34 h => ?_)
    refine lv_aload_n hx hb d_Md_second_12 rfl (lv_at hl 0 rfl) ?_
    refine zz_Ri (As := []) (rest := [.int r_34, .ref qd]) (wc := wD qd qmemory qr qcounts cI cB ms dd Lwhole Lwhole2 bm rr kt) X hK hP (c_Md_rs l D cI cB qd qmemory qr qcounts ms dd Lwhole Lwhole2 bm rr kt _ h) ⟨rfl, rfl⟩ m_Md_rs k_Md_132 ⟨Nat.le_of_ble_eq_true rfl, Nat.le_of_ble_eq_true rfl⟩ [0, 1, 2, 3] rfl 6 0 rfl rfl rfl rfl hl.1 rfl (Nat.le_of_ble_eq_true rfl) d_Md_second_13 hf0 (fun r_35 h => ?_)
    refine lv_aload_n hx hb d_Md_second_16 rfl (lv_at hl 0 rfl) ?_
    refine zz_Ri (As := []) (rest := [.int r_35, .int r_34, .ref qd]) (wc := wD qd qmemory qr qcounts cI cB ms dd Lwhole Lwhole2 bm rr kt) X hK hP (c_Md_rt l D cI cB qd qmemory qr qcounts ms dd Lwhole Lwhole2 bm rr kt _ h) ⟨rfl, rfl⟩ m_Md_rt k_Md_135 ⟨Nat.le_of_ble_eq_true rfl, Nat.le_of_ble_eq_true rfl⟩ [0, 1, 2, 3] rfl 6 0 rfl rfl rfl rfl hl.1 rfl (Nat.le_of_ble_eq_true rfl) d_Md_second_17 hf0 (fun r_36 h => ?_)
    refine lv_imul hx hb d_Md_second_20 ?_
    refine zz_Wv (As := [.int r_34, .int (r_35 * r_36)]) (rest := []) (wc := wD qd qmemory qr qcounts cI cB ms dd Lwhole Lwhole2 bm rr kt) (wr := []) X hK hP hD hS hA (c_Md_into l D cI cB qd qmemory qr qcounts ms dd Lwhole Lwhole2 bm rr kt r_34 (r_35 * r_36) _ h _) ⟨rfl, rfl⟩ m_Md_into k_Md_128 ⟨Nat.le_of_ble_eq_true rfl, Nat.le_of_ble_eq_true rfl⟩ [0, 1, 2, 3] [] rfl rfl (by decide) (by decide) (by decide) 6 0 rfl rfl rfl rfl hl.1 rfl (Nat.le_of_ble_eq_true rfl) d_Md_second_21 hf0 (fun u_37 H locs h hP hD hS => ?_)
    have hP : va_P D vwCl (wD qd qmemory qr qcounts cI cB ms u_37.1 u_37.2.1 u_37.2.2.1 u_37.2.2.2.1 u_37.2.2.2.2.1 u_37.2.2.2.2.2) H := hP.sub [0, 1, 2, 3] rfl
    have hD : va_D A (wD qd qmemory qr qcounts cI cB ms u_37.1 u_37.2.1 u_37.2.2.1 u_37.2.2.2.1 u_37.2.2.2.2.1 u_37.2.2.2.2.2) := hD.sub [0, 1, 2, 3] (by decide) rfl
    refine lv_aload_n hx hb d_Md_second_24 rfl (lv_at hl 0 rfl) ?_
    refine lv_iconst (v := 0) hx hb d_Md_second_25 (by decide) ?_
    refine p_Md_18 hx hb hT hown hK hP hD hS 0 rfl rfl (Or.inl rfl) d_Md_second_26 (fun H locs (hP : va_P D vwCl (wD qd qmemory qr qcounts cI cB ms (upd u_37.1 1 (0 : Int32)) u_37.2.1 u_37.2.2.1 u_37.2.2.2.1 u_37.2.2.2.2.1 u_37.2.2.2.2.2) H) (hD : va_D A (wD qd qmemory qr qcounts cI cB ms (upd u_37.1 1 (0 : Int32)) u_37.2.1 u_37.2.2.1 u_37.2.2.2.1 u_37.2.2.2.2.1 u_37.2.2.2.2.2)) hS => ?_)
    refine lv_aload_n hx hb d_Md_second_29 rfl (lv_at hl 0 rfl) ?_
    refine lv_iconst (v := 0) hx hb d_Md_second_30 (by decide) ?_
    refine p_Md_22 hx hb hT hown hK hP hD hS 0 rfl rfl (Or.inl rfl) d_Md_second_31 (fun H locs (hP : va_P D vwCl (wD qd qmemory qr qcounts cI cB ms (upd (upd u_37.1 1 (0 : Int32)) 2 (0 : Int32)) u_37.2.1 u_37.2.2.1 u_37.2.2.2.1 u_37.2.2.2.2.1 u_37.2.2.2.2.2) H) (hD : va_D A (wD qd qmemory qr qcounts cI cB ms (upd (upd u_37.1 1 (0 : Int32)) 2 (0 : Int32)) u_37.2.1 u_37.2.2.1 u_37.2.2.2.1 u_37.2.2.2.2.1 u_37.2.2.2.2.2)) hS => ?_)
    refine lv_goto (tgt := 209) hx hb d_Md_second_34 (by decide) ?_
    exact W.vret hx hb hr (fun t ht hW => ⟨⟨((upd (upd u_37.1 1 (0 : Int32)) 2 (0 : Int32)), u_37.2.1, u_37.2.2.1, u_37.2.2.2.1, u_37.2.2.2.2.1, u_37.2.2.2.2.2), rfl, h, by rw [ht]; exact hP, hD⟩, hS.F ht⟩) hS.2.2 d_Md_second_209
def wj_Md_branches_139 (ms : Int32) (a0 : Int32) (P : ((Nat → Int32) × Int64 × Int64 × (Nat → Int32) × (Nat → Int32) × (Nat → Int32)) → Prop) (s139_0 : Int32) (z139dd : Nat → Int32) (z139Lwhole : Int64) (z139Lwhole2 : Int64) (z139bm : Nat → Int32) (z139rr : Nat → Int32) (z139kt : Nat → Int32) : Prop := wp_Md_near ms z139dd z139Lwhole z139Lwhole2 z139bm z139rr z139kt (fun r_1 => ((a0 ≤ (7 : Int32) → wp_Md_jumps ms z139dd z139Lwhole z139Lwhole2 z139bm z139rr z139kt s139_0 r_1 (0 : Int32) (fun u_3 => P (u_3.1, u_3.2.1, u_3.2.2.1, u_3.2.2.2.1, u_3.2.2.2.2.1, u_3.2.2.2.2.2))) ∧ (¬ a0 ≤ (7 : Int32) → wp_Md_jumps ms z139dd z139Lwhole z139Lwhole2 z139bm z139rr z139kt s139_0 r_1 (1 : Int32) (fun u_5 => P (u_5.1, u_5.2.1, u_5.2.2.1, u_5.2.2.2.1, u_5.2.2.2.2.1, u_5.2.2.2.2.2)))))
def wp_Md_branches (ms : Int32) (dd : Nat → Int32) (Lwhole : Int64) (Lwhole2 : Int64) (bm : Nat → Int32) (rr : Nat → Int32) (kt : Nat → Int32) (a0 : Int32) (P : ((Nat → Int32) × Int64 × Int64 × (Nat → Int32) × (Nat → Int32) × (Nat → Int32)) → Prop) : Prop := (((4 : Int32) ≤ a0 → ∀ x_8 : Int32, x_8 = (a0 &&& (3 : Int32)) → ((x_8 = (0 : Int32) → wp_Md_rs ms dd Lwhole Lwhole2 bm rr kt (fun r_19 => wp_Md_rt ms dd Lwhole Lwhole2 bm rr kt (fun r_20 => ((r_19 = r_20 → wj_Md_branches_139 ms a0 P (1 : Int32) dd Lwhole Lwhole2 bm rr kt) ∧ (¬ r_19 = r_20 → wj_Md_branches_139 ms a0 P (0 : Int32) dd Lwhole Lwhole2 bm rr kt))))) ∧ (¬ x_8 = (0 : Int32) → ((x_8 = (1 : Int32) → wp_Md_rs ms dd Lwhole Lwhole2 bm rr kt (fun r_16 => wp_Md_rt ms dd Lwhole Lwhole2 bm rr kt (fun r_17 => ((r_16 = r_17 → wj_Md_branches_139 ms a0 P (0 : Int32) dd Lwhole Lwhole2 bm rr kt) ∧ (¬ r_16 = r_17 → wj_Md_branches_139 ms a0 P (1 : Int32) dd Lwhole Lwhole2 bm rr kt))))) ∧ (¬ x_8 = (1 : Int32) → ((x_8 = (2 : Int32) → wp_Md_rs ms dd Lwhole Lwhole2 bm rr kt (fun r_14 => (((0 : Int32) < r_14 → wj_Md_branches_139 ms a0 P (0 : Int32) dd Lwhole Lwhole2 bm rr kt) ∧ (¬ (0 : Int32) < r_14 → wj_Md_branches_139 ms a0 P (1 : Int32) dd Lwhole Lwhole2 bm rr kt)))) ∧ (¬ x_8 = (2 : Int32) → wp_Md_rs ms dd Lwhole Lwhole2 bm rr kt (fun r_12 => ((r_12 ≤ (0 : Int32) → wj_Md_branches_139 ms a0 P (0 : Int32) dd Lwhole Lwhole2 bm rr kt) ∧ (¬ r_12 ≤ (0 : Int32) → wj_Md_branches_139 ms a0 P (1 : Int32) dd Lwhole Lwhole2 bm rr kt)))))))))) ∧ (¬ (4 : Int32) ≤ a0 → ∀ x_22 : Int32, x_22 = (((dd 3) + (4 : Int32)) &&& (-268435456 : Int32)) → ∀ x_23 : Int32, x_23 = (zz_ushr (zz_shl (dd 9) (6 : Int32)) (4 : Int32)) → wp_Md_jumps ms dd Lwhole Lwhole2 bm rr kt (1 : Int32) (x_22 ||| x_23) (0 : Int32) (fun u_24 => ((a0 = (3 : Int32) → (((u_24.1 5) = (0 : Int32) → wp_Md_into ms u_24.1 u_24.2.1 u_24.2.2.1 u_24.2.2.2.1 u_24.2.2.2.2.1 u_24.2.2.2.2.2 (31 : Int32) ((u_24.1 3) + (8 : Int32)) (fun u_28 => P (u_28.1, u_28.2.1, u_28.2.2.1, u_28.2.2.2.1, u_28.2.2.2.2.1, u_28.2.2.2.2.2))) ∧ (¬ (u_24.1 5) = (0 : Int32) → P (u_24.1, u_24.2.1, u_24.2.2.1, u_24.2.2.2.1, u_24.2.2.2.2.1, u_24.2.2.2.2.2)))) ∧ (¬ a0 = (3 : Int32) → P (u_24.1, u_24.2.1, u_24.2.2.1, u_24.2.2.2.1, u_24.2.2.2.2.1, u_24.2.2.2.2.2))))))
abbrev rm_Md_branches : Room := { frames := 2, cells := 0, slots := 0, locals := 44 }
set_option maxHeartbeats 4000000 in
set_option maxRecDepth 100000 in
theorem c_Md_branches (l : Launch) (D : va_G) (cI : ClassId) (cB : ClassId) (qd : Nat) (qmemory : Nat) (qr : Nat) (qcounts : Nat) (ms : Int32) (dd : Nat → Int32) (Lwhole : Int64) (Lwhole2 : Int64) (bm : Nat → Int32) (rr : Nat → Int32) (kt : Nat → Int32) (a0 : Int32) (P : ((Nat → Int32) × Int64 × Int64 × (Nat → Int32) × (Nat → Int32) × (Nat → Int32)) → Prop) (h : wp_Md_branches ms dd Lwhole Lwhole2 bm rr kt a0 P) (sz : Nat) : Met l y_Md_branches (zz_ws y_Md_branches b_Md_branches 4 none) rm_Md_branches (va_Pc [.ref qd, .int a0] (zz_pw D [(cI, .int), (cB, .byte)] (wD qd qmemory qr qcounts cI cB ms dd Lwhole Lwhole2 bm rr kt) sz)) (va_Qv P (zz_qw D (fun u => wD qd qmemory qr qcounts cI cB ms u.1 u.2.1 u.2.2.1 u.2.2.2.1 u.2.2.2.2.1 u.2.2.2.2.2) (va_A (wD qd qmemory qr qcounts cI cB ms dd Lwhole Lwhole2 bm rr kt) sz)) (va_A (wD qd qmemory qr qcounts cI cB ms dd Lwhole Lwhole2 bm rr kt) sz)) 0 0 (va_A (wD qd qmemory qr qcounts cI cB ms dd Lwhole Lwhole2 bm rr kt) sz) := by
  refine Met.ofW (cc := b_Md_branches) (maxL := 4) (ret := none) (by decide) rfl ?_
  intro p e s m args below meth c s₁ B hml hv
  obtain ⟨rfl, hsz, hP, hK, hD0⟩ := hv
  have hx := B.exec
  have hb := B.bytes
  have hr := B.returns
  have hts := atoms_spec (ws := (zz_ws y_Md_branches b_Md_branches 4 none)) B.pre
  have hown : s.vm.findClass R_Md = some m.cls := findClass_of_methodNamed B.named
  have hlocks := B.notSynchronized
  have hT := zz_hts hts
  have X : CallFix p m c b_Md_branches 4 s ([.ref qd, .int a0] : List Value).toArray (zz_ws y_Md_branches b_Md_branches 4 none) R_Md := ⟨hx, hb, hml, hown, hts⟩
  have hf0 : 0 + 0 ≤ (headSpec (zz_ws y_Md_branches b_Md_branches 4 none) rm_Md_branches).room.cells ∧ 0 + 0 ≤ (headSpec (zz_ws y_Md_branches b_Md_branches 4 none) rm_Md_branches).room.slots := ⟨Nat.le_of_ble_eq_true rfl, Nat.le_of_ble_eq_true rfl⟩
  subst hsz
  have hD := hD0.self (sz := s.heap.size)
  generalize hAe : va_A (wD qd qmemory qr qcounts cI cB ms dd Lwhole Lwhole2 bm rr kt) s.heap.size = A at hD ⊢
  have hA : ∀ q : Nat, s.heap.size ≤ q → A q := fun q h => by rw [← hAe]; exact Or.inr h
  have hS : va_S A s.heap s.heap [] := va_S.rf
  have hl := lv_entry ([.ref qd, .int a0]) (n := 4) (Nat.le_of_ble_eq_true rfl)
  rw [lg_entry_eq]
  generalize (lg_sl ([.ref qd, .int a0]) ++ List.replicate (4 - (lg_sl ([.ref qd, .int a0])).length) Slot.unset).toArray = ls at hl ⊢
  have hl : lv_has ls 4 [(0, .ref qd), (1, .int a0)] := hl
  have jn_139 : ∀ (s139_0 : Int32) (z139dd : Nat → Int32) (z139Lwhole : Int64) (z139Lwhole2 : Int64) (z139bm : Nat → Int32) (z139rr : Nat → Int32) (z139kt : Nat → Int32), wj_Md_branches_139 ms a0 P s139_0 z139dd z139Lwhole z139Lwhole2 z139bm z139rr z139kt → ∀ (H : Heap) (locs : List Loc), va_P D vwCl (wD qd qmemory qr qcounts cI cB ms z139dd z139Lwhole z139Lwhole2 z139bm z139rr z139kt) H → va_D A (wD qd qmemory qr qcounts cI cB ms z139dd z139Lwhole z139Lwhole2 z139bm z139rr z139kt) → va_S A s.heap H locs → ∀ ls : Array Slot, lv_has ls 4 [(0, .ref qd), (1, .int a0)] → W p l e (headSpec (zz_ws y_Md_branches b_Md_branches 4 none) rm_Md_branches).room s m ([.ref qd, .int a0] : List Value).toArray below meth c H locs 0 0 (MQ below (va_Qv P (zz_qw D (fun u => wD qd qmemory qr qcounts cI cB ms u.1 u.2.1 u.2.2.1 u.2.2.2.1 u.2.2.2.2.1 u.2.2.2.2.2) A) A) ([.ref qd, .int a0] : List Value).toArray s 0 0 A) (F0 m 139 ls [.int s139_0]) := by
    intro s139_0 z139dd z139Lwhole z139Lwhole2 z139bm z139rr z139kt h H locs hP hD hS ls hl
    unfold wj_Md_branches_139 at h
    refine lv_istore_n (lv' := [(3, .int s139_0), (0, .ref qd), (1, .int a0)]) hx hb d_Md_branches_139 rfl hl (by decide) rfl (fun ls hl => ?_)
    refine lv_aload_n hx hb d_Md_branches_140 rfl (lv_at hl 1 rfl) ?_
    refine lv_iload_n hx hb d_Md_branches_141 rfl (lv_at hl 0 rfl) ?_
    refine lv_aload_n hx hb d_Md_branches_142 rfl (lv_at hl 1 rfl) ?_
    refine zz_Ri (As := []) (rest := [.int s139_0, .ref qd]) (wc := wD qd qmemory qr qcounts cI cB ms z139dd z139Lwhole z139Lwhole2 z139bm z139rr z139kt) X hK hP (c_Md_near l D cI cB qd qmemory qr qcounts ms z139dd z139Lwhole z139Lwhole2 z139bm z139rr z139kt _ h) ⟨rfl, rfl⟩ m_Md_near k_Md_138 ⟨Nat.le_of_ble_eq_true rfl, Nat.le_of_ble_eq_true rfl⟩ [0, 1, 2, 3] rfl 6 0 rfl rfl rfl rfl hl.1 rfl (Nat.le_of_ble_eq_true rfl) d_Md_branches_143 hf0 (fun r_1 h => ?_)
    refine lv_iload_n hx hb d_Md_branches_146 rfl (lv_at hl 2 rfl) ?_
    refine lv_bipush (v := 7) hx hb d_Md_branches_147 (by decide) ?_
    refine lv_icmp_le (tgt := 156) hx hb d_Md_branches_149 (by decide) (fun c_2 => ?_) (fun c_2 => ?_)
    · skip
      have h := h.1 c_2
      refine lv_iconst (v := 0) hx hb d_Md_branches_156 (by decide) ?_
      refine zz_Wv (As := [.int s139_0, .int r_1, .int (0 : Int32)]) (rest := []) (wc := wD qd qmemory qr qcounts cI cB ms z139dd z139Lwhole z139Lwhole2 z139bm z139rr z139kt) (wr := []) X hK hP hD hS hA (c_Md_jumps l D cI cB qd qmemory qr qcounts ms z139dd z139Lwhole z139Lwhole2 z139bm z139rr z139kt s139_0 r_1 (0 : Int32) _ h _) ⟨rfl, rfl⟩ m_Md_jumps k_Md_124 ⟨Nat.le_of_ble_eq_true rfl, Nat.le_of_ble_eq_true rfl⟩ [0, 1, 2, 3] [] rfl rfl (by decide) (by decide) (by decide) 6 0 rfl rfl rfl rfl hl.1 rfl (Nat.le_of_ble_eq_true rfl) d_Md_branches_157 hf0 (fun u_3 H locs h hP hD hS => ?_)
      have hP : va_P D vwCl (wD qd qmemory qr qcounts cI cB ms u_3.1 u_3.2.1 u_3.2.2.1 u_3.2.2.2.1 u_3.2.2.2.2.1 u_3.2.2.2.2.2) H := hP.sub [0, 1, 2, 3] rfl
      have hD : va_D A (wD qd qmemory qr qcounts cI cB ms u_3.1 u_3.2.1 u_3.2.2.1 u_3.2.2.2.1 u_3.2.2.2.2.1 u_3.2.2.2.2.2) := hD.sub [0, 1, 2, 3] (by decide) rfl
      exact W.vret hx hb hr (fun t ht hW => ⟨⟨(u_3.1, u_3.2.1, u_3.2.2.1, u_3.2.2.2.1, u_3.2.2.2.2.1, u_3.2.2.2.2.2), rfl, h, by rw [ht]; exact hP, hD⟩, hS.F ht⟩) hS.2.2 d_Md_branches_160
    · skip
      have h := h.2 c_2
      refine lv_iconst (v := 1) hx hb d_Md_branches_152 (by decide) ?_
      refine lv_goto (tgt := 157) hx hb d_Md_branches_153 (by decide) ?_
      refine zz_Wv (As := [.int s139_0, .int r_1, .int (1 : Int32)]) (rest := []) (wc := wD qd qmemory qr qcounts cI cB ms z139dd z139Lwhole z139Lwhole2 z139bm z139rr z139kt) (wr := []) X hK hP hD hS hA (c_Md_jumps l D cI cB qd qmemory qr qcounts ms z139dd z139Lwhole z139Lwhole2 z139bm z139rr z139kt s139_0 r_1 (1 : Int32) _ h _) ⟨rfl, rfl⟩ m_Md_jumps k_Md_124 ⟨Nat.le_of_ble_eq_true rfl, Nat.le_of_ble_eq_true rfl⟩ [0, 1, 2, 3] [] rfl rfl (by decide) (by decide) (by decide) 6 0 rfl rfl rfl rfl hl.1 rfl (Nat.le_of_ble_eq_true rfl) d_Md_branches_157 hf0 (fun u_5 H locs h hP hD hS => ?_)
      have hP : va_P D vwCl (wD qd qmemory qr qcounts cI cB ms u_5.1 u_5.2.1 u_5.2.2.1 u_5.2.2.2.1 u_5.2.2.2.2.1 u_5.2.2.2.2.2) H := hP.sub [0, 1, 2, 3] rfl
      have hD : va_D A (wD qd qmemory qr qcounts cI cB ms u_5.1 u_5.2.1 u_5.2.2.1 u_5.2.2.2.1 u_5.2.2.2.2.1 u_5.2.2.2.2.2) := hD.sub [0, 1, 2, 3] (by decide) rfl
      exact W.vret hx hb hr (fun t ht hW => ⟨⟨(u_5.1, u_5.2.1, u_5.2.2.1, u_5.2.2.2.1, u_5.2.2.2.2.1, u_5.2.2.2.2.2), rfl, h, by rw [ht]; exact hP, hD⟩, hS.F ht⟩) hS.2.2 d_Md_branches_160
  refine lv_iload_n hx hb d_Md_branches_0 rfl (lv_at hl 1 rfl) ?_
  refine lv_iconst (v := 4) hx hb d_Md_branches_1 (by decide) ?_
  refine lv_icmp_ge (tgt := 56) hx hb d_Md_branches_2 (by decide) (fun c_7 => ?_) (fun c_7 => ?_)
  · skip
    have h := h.1 c_7
    refine lv_iload_n hx hb d_Md_branches_56 rfl (lv_at hl 1 rfl) ?_
    refine lv_iconst (v := 3) hx hb d_Md_branches_57 (by decide) ?_
    refine lv_iand hx hb d_Md_branches_58 ?_
    refine lv_topi (fun x_8 ex_8 => ?_)
    have h := h x_8 ex_8
    refine lv_istore_n (lv' := [(2, .int x_8), (0, .ref qd), (1, .int a0)]) hx hb d_Md_branches_59 rfl hl (by decide) rfl (fun ls hl => ?_)
    refine lv_iload_n hx hb d_Md_branches_60 rfl (lv_at hl 0 rfl) ?_
    refine lv_if_ne (tgt := 83) hx hb d_Md_branches_61 (by decide) (fun c_9 => ?_) (fun c_9 => ?_)
    · skip
      have h := h.2 c_9
      refine lv_iload_n hx hb d_Md_branches_83 rfl (lv_at hl 0 rfl) ?_
      refine lv_iconst (v := 1) hx hb d_Md_branches_84 (by decide) ?_
      refine lv_icmp_ne (tgt := 107) hx hb d_Md_branches_85 (by decide) (fun c_10 => ?_) (fun c_10 => ?_)
      · skip
        have h := h.2 c_10
        refine lv_iload_n hx hb d_Md_branches_107 rfl (lv_at hl 0 rfl) ?_
        refine lv_iconst (v := 2) hx hb d_Md_branches_108 (by decide) ?_
        refine lv_icmp_ne (tgt := 127) hx hb d_Md_branches_109 (by decide) (fun c_11 => ?_) (fun c_11 => ?_)
        · skip
          have h := h.2 c_11
          refine lv_aload_n hx hb d_Md_branches_127 rfl (lv_at hl 1 rfl) ?_
          refine zz_Ri (As := []) (rest := []) (wc := wD qd qmemory qr qcounts cI cB ms dd Lwhole Lwhole2 bm rr kt) X hK hP (c_Md_rs l D cI cB qd qmemory qr qcounts ms dd Lwhole Lwhole2 bm rr kt _ h) ⟨rfl, rfl⟩ m_Md_rs k_Md_132 ⟨Nat.le_of_ble_eq_true rfl, Nat.le_of_ble_eq_true rfl⟩ [0, 1, 2, 3] rfl 6 0 rfl rfl rfl rfl hl.1 rfl (Nat.le_of_ble_eq_true rfl) d_Md_branches_128 hf0 (fun r_12 h => ?_)
          refine lv_if_le (tgt := 138) hx hb d_Md_branches_131 (by decide) (fun c_13 => ?_) (fun c_13 => ?_)
          · skip
            have h := h.1 c_13
            refine lv_iconst (v := 0) hx hb d_Md_branches_138 (by decide) ?_
            exact jn_139 (0 : Int32) dd Lwhole Lwhole2 bm rr kt h _ _ hP hD hS ls (lv_sub hl [1, 2] rfl)
          · skip
            have h := h.2 c_13
            refine lv_iconst (v := 1) hx hb d_Md_branches_134 (by decide) ?_
            refine lv_goto (tgt := 139) hx hb d_Md_branches_135 (by decide) ?_
            exact jn_139 (1 : Int32) dd Lwhole Lwhole2 bm rr kt h _ _ hP hD hS ls (lv_sub hl [1, 2] rfl)
        · skip
          have h := h.1 c_11
          refine lv_aload_n hx hb d_Md_branches_112 rfl (lv_at hl 1 rfl) ?_
          refine zz_Ri (As := []) (rest := []) (wc := wD qd qmemory qr qcounts cI cB ms dd Lwhole Lwhole2 bm rr kt) X hK hP (c_Md_rs l D cI cB qd qmemory qr qcounts ms dd Lwhole Lwhole2 bm rr kt _ h) ⟨rfl, rfl⟩ m_Md_rs k_Md_132 ⟨Nat.le_of_ble_eq_true rfl, Nat.le_of_ble_eq_true rfl⟩ [0, 1, 2, 3] rfl 6 0 rfl rfl rfl rfl hl.1 rfl (Nat.le_of_ble_eq_true rfl) d_Md_branches_113 hf0 (fun r_14 h => ?_)
          refine lv_if_gt (tgt := 123) hx hb d_Md_branches_116 (by decide) (fun c_15 => ?_) (fun c_15 => ?_)
          · skip
            have h := h.1 c_15
            refine lv_iconst (v := 0) hx hb d_Md_branches_123 (by decide) ?_
            refine lv_goto (tgt := 139) hx hb d_Md_branches_124 (by decide) ?_
            exact jn_139 (0 : Int32) dd Lwhole Lwhole2 bm rr kt h _ _ hP hD hS ls (lv_sub hl [1, 2] rfl)
          · skip
            have h := h.2 c_15
            refine lv_iconst (v := 1) hx hb d_Md_branches_119 (by decide) ?_
            refine lv_goto (tgt := 139) hx hb d_Md_branches_120 (by decide) ?_
            exact jn_139 (1 : Int32) dd Lwhole Lwhole2 bm rr kt h _ _ hP hD hS ls (lv_sub hl [1, 2] rfl)
      · skip
        have h := h.1 c_10
        refine lv_aload_n hx hb d_Md_branches_88 rfl (lv_at hl 1 rfl) ?_
        refine zz_Ri (As := []) (rest := []) (wc := wD qd qmemory qr qcounts cI cB ms dd Lwhole Lwhole2 bm rr kt) X hK hP (c_Md_rs l D cI cB qd qmemory qr qcounts ms dd Lwhole Lwhole2 bm rr kt _ h) ⟨rfl, rfl⟩ m_Md_rs k_Md_132 ⟨Nat.le_of_ble_eq_true rfl, Nat.le_of_ble_eq_true rfl⟩ [0, 1, 2, 3] rfl 6 0 rfl rfl rfl rfl hl.1 rfl (Nat.le_of_ble_eq_true rfl) d_Md_branches_89 hf0 (fun r_16 h => ?_)
        refine lv_aload_n hx hb d_Md_branches_92 rfl (lv_at hl 1 rfl) ?_
        refine zz_Ri (As := []) (rest := [.int r_16]) (wc := wD qd qmemory qr qcounts cI cB ms dd Lwhole Lwhole2 bm rr kt) X hK hP (c_Md_rt l D cI cB qd qmemory qr qcounts ms dd Lwhole Lwhole2 bm rr kt _ h) ⟨rfl, rfl⟩ m_Md_rt k_Md_135 ⟨Nat.le_of_ble_eq_true rfl, Nat.le_of_ble_eq_true rfl⟩ [0, 1, 2, 3] rfl 6 0 rfl rfl rfl rfl hl.1 rfl (Nat.le_of_ble_eq_true rfl) d_Md_branches_93 hf0 (fun r_17 h => ?_)
        refine lv_icmp_eq (tgt := 103) hx hb d_Md_branches_96 (by decide) (fun c_18 => ?_) (fun c_18 => ?_)
        · skip
          have h := h.1 c_18
          refine lv_iconst (v := 0) hx hb d_Md_branches_103 (by decide) ?_
          refine lv_goto (tgt := 139) hx hb d_Md_branches_104 (by decide) ?_
          exact jn_139 (0 : Int32) dd Lwhole Lwhole2 bm rr kt h _ _ hP hD hS ls (lv_sub hl [1, 2] rfl)
        · skip
          have h := h.2 c_18
          refine lv_iconst (v := 1) hx hb d_Md_branches_99 (by decide) ?_
          refine lv_goto (tgt := 139) hx hb d_Md_branches_100 (by decide) ?_
          exact jn_139 (1 : Int32) dd Lwhole Lwhole2 bm rr kt h _ _ hP hD hS ls (lv_sub hl [1, 2] rfl)
    · skip
      have h := h.1 c_9
      refine lv_aload_n hx hb d_Md_branches_64 rfl (lv_at hl 1 rfl) ?_
      refine zz_Ri (As := []) (rest := []) (wc := wD qd qmemory qr qcounts cI cB ms dd Lwhole Lwhole2 bm rr kt) X hK hP (c_Md_rs l D cI cB qd qmemory qr qcounts ms dd Lwhole Lwhole2 bm rr kt _ h) ⟨rfl, rfl⟩ m_Md_rs k_Md_132 ⟨Nat.le_of_ble_eq_true rfl, Nat.le_of_ble_eq_true rfl⟩ [0, 1, 2, 3] rfl 6 0 rfl rfl rfl rfl hl.1 rfl (Nat.le_of_ble_eq_true rfl) d_Md_branches_65 hf0 (fun r_19 h => ?_)
      refine lv_aload_n hx hb d_Md_branches_68 rfl (lv_at hl 1 rfl) ?_
      refine zz_Ri (As := []) (rest := [.int r_19]) (wc := wD qd qmemory qr qcounts cI cB ms dd Lwhole Lwhole2 bm rr kt) X hK hP (c_Md_rt l D cI cB qd qmemory qr qcounts ms dd Lwhole Lwhole2 bm rr kt _ h) ⟨rfl, rfl⟩ m_Md_rt k_Md_135 ⟨Nat.le_of_ble_eq_true rfl, Nat.le_of_ble_eq_true rfl⟩ [0, 1, 2, 3] rfl 6 0 rfl rfl rfl rfl hl.1 rfl (Nat.le_of_ble_eq_true rfl) d_Md_branches_69 hf0 (fun r_20 h => ?_)
      refine lv_icmp_ne (tgt := 79) hx hb d_Md_branches_72 (by decide) (fun c_21 => ?_) (fun c_21 => ?_)
      · skip
        have h := h.2 c_21
        refine lv_iconst (v := 0) hx hb d_Md_branches_79 (by decide) ?_
        refine lv_goto (tgt := 139) hx hb d_Md_branches_80 (by decide) ?_
        exact jn_139 (0 : Int32) dd Lwhole Lwhole2 bm rr kt h _ _ hP hD hS ls (lv_sub hl [1, 2] rfl)
      · skip
        have h := h.1 c_21
        refine lv_iconst (v := 1) hx hb d_Md_branches_75 (by decide) ?_
        refine lv_goto (tgt := 139) hx hb d_Md_branches_76 (by decide) ?_
        exact jn_139 (1 : Int32) dd Lwhole Lwhole2 bm rr kt h _ _ hP hD hS ls (lv_sub hl [1, 2] rfl)
  · skip
    have h := h.2 c_7
    refine lv_aload_n hx hb d_Md_branches_5 rfl (lv_at hl 0 rfl) ?_
    refine lv_iconst (v := 1) hx hb d_Md_branches_6 (by decide) ?_
    refine lv_aload_n hx hb d_Md_branches_7 rfl (lv_at hl 0 rfl) ?_
    refine g_Md_54 (v := .int (dd 3)) hx hb hT hown hK hP 0 rfl rfl d_Md_branches_8 ?_
    refine lv_iconst (v := 4) hx hb d_Md_branches_11 (by decide) ?_
    refine lv_iadd hx hb d_Md_branches_12 ?_
    refine lv_ldc (v := -268435456) hx hb hown (hT _ n_Md_123) d_Md_branches_13 ?_
    refine lv_iand hx hb d_Md_branches_15 ?_
    refine lv_topi (fun x_22 ex_22 => ?_)
    have h := h x_22 ex_22
    refine lv_aload_n hx hb d_Md_branches_16 rfl (lv_at hl 0 rfl) ?_
    refine g_Md_82 (v := .int (dd 9)) hx hb hT hown hK hP 0 rfl rfl d_Md_branches_17 ?_
    refine lv_bipush (v := 6) hx hb d_Md_branches_20 (by decide) ?_
    refine zz_ishl hx hb d_Md_branches_22 ?_
    refine lv_iconst (v := 4) hx hb d_Md_branches_23 (by decide) ?_
    refine zz_iushr hx hb d_Md_branches_24 ?_
    refine lv_topi (fun x_23 ex_23 => ?_)
    have h := h x_23 ex_23
    refine lv_ior hx hb d_Md_branches_25 ?_
    refine lv_iconst (v := 0) hx hb d_Md_branches_26 (by decide) ?_
    refine zz_Wv (As := [.int (1 : Int32), .int (x_22 ||| x_23), .int (0 : Int32)]) (rest := []) (wc := wD qd qmemory qr qcounts cI cB ms dd Lwhole Lwhole2 bm rr kt) (wr := []) X hK hP hD hS hA (c_Md_jumps l D cI cB qd qmemory qr qcounts ms dd Lwhole Lwhole2 bm rr kt (1 : Int32) (x_22 ||| x_23) (0 : Int32) _ h _) ⟨rfl, rfl⟩ m_Md_jumps k_Md_124 ⟨Nat.le_of_ble_eq_true rfl, Nat.le_of_ble_eq_true rfl⟩ [0, 1, 2, 3] [] rfl rfl (by decide) (by decide) (by decide) 6 0 rfl rfl rfl rfl hl.1 rfl (Nat.le_of_ble_eq_true rfl) d_Md_branches_27 hf0 (fun u_24 H locs h hP hD hS => ?_)
    have hP : va_P D vwCl (wD qd qmemory qr qcounts cI cB ms u_24.1 u_24.2.1 u_24.2.2.1 u_24.2.2.2.1 u_24.2.2.2.2.1 u_24.2.2.2.2.2) H := hP.sub [0, 1, 2, 3] rfl
    have hD : va_D A (wD qd qmemory qr qcounts cI cB ms u_24.1 u_24.2.1 u_24.2.2.1 u_24.2.2.2.1 u_24.2.2.2.2.1 u_24.2.2.2.2.2) := hD.sub [0, 1, 2, 3] (by decide) rfl
    refine lv_iload_n hx hb d_Md_branches_30 rfl (lv_at hl 1 rfl) ?_
    refine lv_iconst (v := 3) hx hb d_Md_branches_31 (by decide) ?_
    refine lv_icmp_ne (tgt := 55) hx hb d_Md_branches_32 (by decide) (fun c_26 => ?_) (fun c_26 => ?_)
    · skip
      have h := h.2 c_26
      exact W.vret hx hb hr (fun t ht hW => ⟨⟨(u_24.1, u_24.2.1, u_24.2.2.1, u_24.2.2.2.1, u_24.2.2.2.2.1, u_24.2.2.2.2.2), rfl, h, by rw [ht]; exact hP, hD⟩, hS.F ht⟩) hS.2.2 d_Md_branches_55
    · skip
      have h := h.1 c_26
      refine lv_aload_n hx hb d_Md_branches_35 rfl (lv_at hl 0 rfl) ?_
      refine g_Md_63 (v := .int (u_24.1 5)) hx hb hT hown hK hP 0 rfl rfl d_Md_branches_36 ?_
      refine lv_if_ne (tgt := 55) hx hb d_Md_branches_39 (by decide) (fun c_27 => ?_) (fun c_27 => ?_)
      · skip
        have h := h.2 c_27
        exact W.vret hx hb hr (fun t ht hW => ⟨⟨(u_24.1, u_24.2.1, u_24.2.2.1, u_24.2.2.2.1, u_24.2.2.2.2.1, u_24.2.2.2.2.2), rfl, h, by rw [ht]; exact hP, hD⟩, hS.F ht⟩) hS.2.2 d_Md_branches_55
      · skip
        have h := h.1 c_27
        refine lv_aload_n hx hb d_Md_branches_42 rfl (lv_at hl 0 rfl) ?_
        refine lv_bipush (v := 31) hx hb d_Md_branches_43 (by decide) ?_
        refine lv_aload_n hx hb d_Md_branches_45 rfl (lv_at hl 0 rfl) ?_
        refine g_Md_54 (v := .int (u_24.1 3)) hx hb hT hown hK hP 0 rfl rfl d_Md_branches_46 ?_
        refine lv_bipush (v := 8) hx hb d_Md_branches_49 (by decide) ?_
        refine lv_iadd hx hb d_Md_branches_51 ?_
        refine zz_Wv (As := [.int (31 : Int32), .int ((u_24.1 3) + (8 : Int32))]) (rest := []) (wc := wD qd qmemory qr qcounts cI cB ms u_24.1 u_24.2.1 u_24.2.2.1 u_24.2.2.2.1 u_24.2.2.2.2.1 u_24.2.2.2.2.2) (wr := []) X hK hP hD hS hA (c_Md_into l D cI cB qd qmemory qr qcounts ms u_24.1 u_24.2.1 u_24.2.2.1 u_24.2.2.2.1 u_24.2.2.2.2.1 u_24.2.2.2.2.2 (31 : Int32) ((u_24.1 3) + (8 : Int32)) _ h _) ⟨rfl, rfl⟩ m_Md_into k_Md_128 ⟨Nat.le_of_ble_eq_true rfl, Nat.le_of_ble_eq_true rfl⟩ [0, 1, 2, 3] [] rfl rfl (by decide) (by decide) (by decide) 6 0 rfl rfl rfl rfl hl.1 rfl (Nat.le_of_ble_eq_true rfl) d_Md_branches_52 hf0 (fun u_28 H locs h hP hD hS => ?_)
        have hP : va_P D vwCl (wD qd qmemory qr qcounts cI cB ms u_28.1 u_28.2.1 u_28.2.2.1 u_28.2.2.2.1 u_28.2.2.2.2.1 u_28.2.2.2.2.2) H := hP.sub [0, 1, 2, 3] rfl
        have hD : va_D A (wD qd qmemory qr qcounts cI cB ms u_28.1 u_28.2.1 u_28.2.2.1 u_28.2.2.2.1 u_28.2.2.2.2.1 u_28.2.2.2.2.2) := hD.sub [0, 1, 2, 3] (by decide) rfl
        exact W.vret hx hb hr (fun t ht hW => ⟨⟨(u_28.1, u_28.2.1, u_28.2.2.1, u_28.2.2.2.1, u_28.2.2.2.2.1, u_28.2.2.2.2.2), rfl, h, by rw [ht]; exact hP, hD⟩, hS.F ht⟩) hS.2.2 d_Md_branches_55
def wp_Md_numbers (ms : Int32) (dd : Nat → Int32) (Lwhole : Int64) (Lwhole2 : Int64) (bm : Nat → Int32) (rr : Nat → Int32) (kt : Nat → Int32) (a0 : Int32) (P : ((Nat → Int32) × Int64 × Int64 × (Nat → Int32) × (Nat → Int32) × (Nat → Int32)) → Prop) : Prop := wp_Md_rs ms dd Lwhole Lwhole2 bm rr kt (fun r_1 => wp_Md_field ms dd Lwhole Lwhole2 bm rr kt (16 : Int32) (fun r_2 => ∀ x_3 : Int32, x_3 = ((dd 9) &&& (65535 : Int32)) → (((a0 = (8 : Int32) ∨ a0 = (9 : Int32)) → wp_Md_offset ms dd Lwhole Lwhole2 bm rr kt (fun r_5 => ((a0 = (8 : Int32) → wp_Md_sum_IJZV ms dd Lwhole Lwhole2 bm rr kt r_2 (r_1.toInt64 + r_5.toInt64) (1 : Int32) (fun u_9 => P (u_9.1, u_9.2.1, u_9.2.2.1, u_9.2.2.2.1, u_9.2.2.2.2.1, u_9.2.2.2.2.2))) ∧ (¬ a0 = (8 : Int32) → wp_Md_sum_IJZV ms dd Lwhole Lwhole2 bm rr kt r_2 (r_1.toInt64 + r_5.toInt64) (0 : Int32) (fun u_7 => P (u_7.1, u_7.2.1, u_7.2.2.1, u_7.2.2.2.1, u_7.2.2.2.2.1, u_7.2.2.2.2.2)))))) ∧ (¬ (a0 = (8 : Int32) ∨ a0 = (9 : Int32)) → (((a0 = (10 : Int32)) → wp_Md_offset ms dd Lwhole Lwhole2 bm rr kt (fun r_12 => ((r_12 ≤ r_1 → wp_Md_into ms dd Lwhole Lwhole2 bm rr kt r_2 (0 : Int32) (fun u_14 => P (u_14.1, u_14.2.1, u_14.2.2.1, u_14.2.2.2.1, u_14.2.2.2.2.1, u_14.2.2.2.2.2))) ∧ (¬ r_12 ≤ r_1 → wp_Md_into ms dd Lwhole Lwhole2 bm rr kt r_2 (1 : Int32) (fun u_16 => P (u_16.1, u_16.2.1, u_16.2.2.1, u_16.2.2.2.1, u_16.2.2.2.2.1, u_16.2.2.2.2.2)))))) ∧ (¬ (a0 = (10 : Int32)) → (((a0 = (11 : Int32)) → wp_Md_offset ms dd Lwhole Lwhole2 bm rr kt (fun r_19 => wp_Md_below r_1 r_19 (fun r_20 => ((r_20 = (0 : Int32) → wp_Md_into ms dd Lwhole Lwhole2 bm rr kt r_2 (0 : Int32) (fun u_22 => P (u_22.1, u_22.2.1, u_22.2.2.1, u_22.2.2.2.1, u_22.2.2.2.2.1, u_22.2.2.2.2.2))) ∧ (¬ r_20 = (0 : Int32) → wp_Md_into ms dd Lwhole Lwhole2 bm rr kt r_2 (1 : Int32) (fun u_24 => P (u_24.1, u_24.2.1, u_24.2.2.1, u_24.2.2.2.1, u_24.2.2.2.2.1, u_24.2.2.2.2.2))))))) ∧ (¬ (a0 = (11 : Int32)) → (((a0 = (12 : Int32)) → wp_Md_into ms dd Lwhole Lwhole2 bm rr kt r_2 (r_1 &&& x_3) (fun u_27 => P (u_27.1, u_27.2.1, u_27.2.2.1, u_27.2.2.2.1, u_27.2.2.2.2.1, u_27.2.2.2.2.2))) ∧ (¬ (a0 = (12 : Int32)) → (((a0 = (13 : Int32)) → wp_Md_into ms dd Lwhole Lwhole2 bm rr kt r_2 (r_1 ||| x_3) (fun u_30 => P (u_30.1, u_30.2.1, u_30.2.2.1, u_30.2.2.2.1, u_30.2.2.2.2.1, u_30.2.2.2.2.2))) ∧ (¬ (a0 = (13 : Int32)) → (((a0 = (14 : Int32)) → wp_Md_into ms dd Lwhole Lwhole2 bm rr kt r_2 (r_1 ^^^ x_3) (fun u_33 => P (u_33.1, u_33.2.1, u_33.2.2.1, u_33.2.2.2.1, u_33.2.2.2.2.1, u_33.2.2.2.2.2))) ∧ (¬ (a0 = (14 : Int32)) → wp_Md_into ms dd Lwhole Lwhole2 bm rr kt r_2 (zz_shl x_3 (16 : Int32)) (fun u_35 => P (u_35.1, u_35.2.1, u_35.2.2.1, u_35.2.2.2.1, u_35.2.2.2.2.1, u_35.2.2.2.2.2))))))))))))))))
abbrev rm_Md_numbers : Room := { frames := 2, cells := 0, slots := 0, locals := 46 }
set_option maxHeartbeats 4000000 in
set_option maxRecDepth 100000 in
theorem c_Md_numbers (l : Launch) (D : va_G) (cI : ClassId) (cB : ClassId) (qd : Nat) (qmemory : Nat) (qr : Nat) (qcounts : Nat) (ms : Int32) (dd : Nat → Int32) (Lwhole : Int64) (Lwhole2 : Int64) (bm : Nat → Int32) (rr : Nat → Int32) (kt : Nat → Int32) (a0 : Int32) (P : ((Nat → Int32) × Int64 × Int64 × (Nat → Int32) × (Nat → Int32) × (Nat → Int32)) → Prop) (h : wp_Md_numbers ms dd Lwhole Lwhole2 bm rr kt a0 P) (sz : Nat) : Met l y_Md_numbers (zz_ws y_Md_numbers b_Md_numbers 5 none) rm_Md_numbers (va_Pc [.ref qd, .int a0] (zz_pw D [(cI, .int), (cB, .byte)] (wD qd qmemory qr qcounts cI cB ms dd Lwhole Lwhole2 bm rr kt) sz)) (va_Qv P (zz_qw D (fun u => wD qd qmemory qr qcounts cI cB ms u.1 u.2.1 u.2.2.1 u.2.2.2.1 u.2.2.2.2.1 u.2.2.2.2.2) (va_A (wD qd qmemory qr qcounts cI cB ms dd Lwhole Lwhole2 bm rr kt) sz)) (va_A (wD qd qmemory qr qcounts cI cB ms dd Lwhole Lwhole2 bm rr kt) sz)) 0 0 (va_A (wD qd qmemory qr qcounts cI cB ms dd Lwhole Lwhole2 bm rr kt) sz) := by
  refine Met.ofW (cc := b_Md_numbers) (maxL := 5) (ret := none) (by decide) rfl ?_
  intro p e s m args below meth c s₁ B hml hv
  obtain ⟨rfl, hsz, hP, hK, hD0⟩ := hv
  have hx := B.exec
  have hb := B.bytes
  have hr := B.returns
  have hts := atoms_spec (ws := (zz_ws y_Md_numbers b_Md_numbers 5 none)) B.pre
  have hown : s.vm.findClass R_Md = some m.cls := findClass_of_methodNamed B.named
  have hlocks := B.notSynchronized
  have hT := zz_hts hts
  have X : CallFix p m c b_Md_numbers 5 s ([.ref qd, .int a0] : List Value).toArray (zz_ws y_Md_numbers b_Md_numbers 5 none) R_Md := ⟨hx, hb, hml, hown, hts⟩
  have hf0 : 0 + 0 ≤ (headSpec (zz_ws y_Md_numbers b_Md_numbers 5 none) rm_Md_numbers).room.cells ∧ 0 + 0 ≤ (headSpec (zz_ws y_Md_numbers b_Md_numbers 5 none) rm_Md_numbers).room.slots := ⟨Nat.le_of_ble_eq_true rfl, Nat.le_of_ble_eq_true rfl⟩
  subst hsz
  have hD := hD0.self (sz := s.heap.size)
  generalize hAe : va_A (wD qd qmemory qr qcounts cI cB ms dd Lwhole Lwhole2 bm rr kt) s.heap.size = A at hD ⊢
  have hA : ∀ q : Nat, s.heap.size ≤ q → A q := fun q h => by rw [← hAe]; exact Or.inr h
  have hS : va_S A s.heap s.heap [] := va_S.rf
  have hl := lv_entry ([.ref qd, .int a0]) (n := 5) (Nat.le_of_ble_eq_true rfl)
  rw [lg_entry_eq]
  generalize (lg_sl ([.ref qd, .int a0]) ++ List.replicate (5 - (lg_sl ([.ref qd, .int a0])).length) Slot.unset).toArray = ls at hl ⊢
  have hl : lv_has ls 5 [(0, .ref qd), (1, .int a0)] := hl
  refine lv_aload_n hx hb d_Md_numbers_0 rfl (lv_at hl 0 rfl) ?_
  refine zz_Ri (As := []) (rest := []) (wc := wD qd qmemory qr qcounts cI cB ms dd Lwhole Lwhole2 bm rr kt) X hK hP (c_Md_rs l D cI cB qd qmemory qr qcounts ms dd Lwhole Lwhole2 bm rr kt _ h) ⟨rfl, rfl⟩ m_Md_rs k_Md_132 ⟨Nat.le_of_ble_eq_true rfl, Nat.le_of_ble_eq_true rfl⟩ [0, 1, 2, 3] rfl 6 0 rfl rfl rfl rfl hl.1 rfl (Nat.le_of_ble_eq_true rfl) d_Md_numbers_1 hf0 (fun r_1 h => ?_)
  refine lv_istore_n (lv' := [(2, .int r_1), (0, .ref qd), (1, .int a0)]) hx hb d_Md_numbers_4 rfl hl (by decide) rfl (fun ls hl => ?_)
  refine lv_aload_n hx hb d_Md_numbers_5 rfl (lv_at hl 1 rfl) ?_
  refine lv_bipush (v := 16) hx hb d_Md_numbers_6 (by decide) ?_
  refine zz_Ri (As := [.int (16 : Int32)]) (rest := []) (wc := wD qd qmemory qr qcounts cI cB ms dd Lwhole Lwhole2 bm rr kt) X hK hP (c_Md_field l D cI cB qd qmemory qr qcounts ms dd Lwhole Lwhole2 bm rr kt (16 : Int32) _ h) ⟨rfl, rfl⟩ m_Md_field k_Md_85 ⟨Nat.le_of_ble_eq_true rfl, Nat.le_of_ble_eq_true rfl⟩ [0, 1, 2, 3] rfl 6 0 rfl rfl rfl rfl hl.1 rfl (Nat.le_of_ble_eq_true rfl) d_Md_numbers_8 hf0 (fun r_2 h => ?_)
  refine lv_istore_n (lv' := [(3, .int r_2), (2, .int r_1), (0, .ref qd), (1, .int a0)]) hx hb d_Md_numbers_11 rfl hl (by decide) rfl (fun ls hl => ?_)
  refine lv_aload_n hx hb d_Md_numbers_12 rfl (lv_at hl 2 rfl) ?_
  refine g_Md_82 (v := .int (dd 9)) hx hb hT hown hK hP 0 rfl rfl d_Md_numbers_13 ?_
  refine lv_ldc (v := 65535) hx hb hown (hT _ n_Md_177) d_Md_numbers_16 ?_
  refine lv_iand hx hb d_Md_numbers_18 ?_
  refine lv_topi (fun x_3 ex_3 => ?_)
  have h := h x_3 ex_3
  refine lv_istore (lv' := [(4, .int x_3), (3, .int r_2), (2, .int r_1), (0, .ref qd), (1, .int a0)]) hx hb d_Md_numbers_19 hl (by decide) rfl (fun ls hl => ?_)
  refine lv_iload_n hx hb d_Md_numbers_21 rfl (lv_at hl 4 rfl) ?_
  by_cases c_4 : a0 = (8 : Int32) ∨ a0 = (9 : Int32)
  · have h := h.1 c_4
    have h0 := c_4
    refine lv_tableIn (off := 42) (tgt := 64) hx hb d_Md_numbers_22 (by rcases h0 with h0 | h0 <;> (rw [h0]; decide)) (by rcases h0 with h0 | h0 <;> (rw [h0]; decide)) (by rcases h0 with h0 | h0 <;> (rw [h0]; rfl)) (by decide) ?_
    refine lv_aload_n hx hb d_Md_numbers_64 rfl (lv_at hl 3 rfl) ?_
    refine lv_iload_n hx hb d_Md_numbers_65 rfl (lv_at hl 1 rfl) ?_
    refine lv_iload_n hx hb d_Md_numbers_66 rfl (lv_at hl 2 rfl) ?_
    refine lv_i2l (v := r_1.toInt64) hx hb d_Md_numbers_67 rfl ?_
    refine lv_aload_n hx hb d_Md_numbers_68 rfl (lv_at hl 3 rfl) ?_
    refine zz_Ri (As := []) (rest := [.long r_1.toInt64, .int r_2, .ref qd]) (wc := wD qd qmemory qr qcounts cI cB ms dd Lwhole Lwhole2 bm rr kt) X hK hP (c_Md_offset l D cI cB qd qmemory qr qcounts ms dd Lwhole Lwhole2 bm rr kt _ h) ⟨rfl, rfl⟩ m_Md_offset k_Md_119 ⟨Nat.le_of_ble_eq_true rfl, Nat.le_of_ble_eq_true rfl⟩ [0, 1, 2, 3] rfl 6 0 rfl rfl rfl rfl hl.1 rfl (Nat.le_of_ble_eq_true rfl) d_Md_numbers_69 hf0 (fun r_5 h => ?_)
    refine lv_i2l (v := r_5.toInt64) hx hb d_Md_numbers_72 rfl ?_
    refine lv_ladd hx hb d_Md_numbers_73 ?_
    refine lv_iload_n hx hb d_Md_numbers_74 rfl (lv_at hl 4 rfl) ?_
    refine lv_bipush (v := 8) hx hb d_Md_numbers_75 (by decide) ?_
    refine lv_icmp_ne (tgt := 84) hx hb d_Md_numbers_77 (by decide) (fun c_6 => ?_) (fun c_6 => ?_)
    · skip
      have h := h.2 c_6
      refine lv_iconst (v := 0) hx hb d_Md_numbers_84 (by decide) ?_
      refine zz_Wv (As := [.int r_2, .long (r_1.toInt64 + r_5.toInt64), .int (0 : Int32)]) (rest := []) (wc := wD qd qmemory qr qcounts cI cB ms dd Lwhole Lwhole2 bm rr kt) (wr := []) X hK hP hD hS hA (c_Md_sum_IJZV l D cI cB qd qmemory qr qcounts ms dd Lwhole Lwhole2 bm rr kt r_2 (r_1.toInt64 + r_5.toInt64) (0 : Int32) _ h _) ⟨rfl, rfl⟩ m_Md_sum_IJZV k_Md_173 ⟨Nat.le_of_ble_eq_true rfl, Nat.le_of_ble_eq_true rfl⟩ [0, 1, 2, 3] [] rfl rfl (by decide) (by decide) (by decide) 6 0 rfl rfl rfl rfl hl.1 rfl (Nat.le_of_ble_eq_true rfl) d_Md_numbers_85 hf0 (fun u_7 H locs h hP hD hS => ?_)
      have hP : va_P D vwCl (wD qd qmemory qr qcounts cI cB ms u_7.1 u_7.2.1 u_7.2.2.1 u_7.2.2.2.1 u_7.2.2.2.2.1 u_7.2.2.2.2.2) H := hP.sub [0, 1, 2, 3] rfl
      have hD : va_D A (wD qd qmemory qr qcounts cI cB ms u_7.1 u_7.2.1 u_7.2.2.1 u_7.2.2.2.1 u_7.2.2.2.2.1 u_7.2.2.2.2.2) := hD.sub [0, 1, 2, 3] (by decide) rfl
      refine lv_goto (tgt := 182) hx hb d_Md_numbers_88 (by decide) ?_
      exact W.vret hx hb hr (fun t ht hW => ⟨⟨(u_7.1, u_7.2.1, u_7.2.2.1, u_7.2.2.2.1, u_7.2.2.2.2.1, u_7.2.2.2.2.2), rfl, h, by rw [ht]; exact hP, hD⟩, hS.F ht⟩) hS.2.2 d_Md_numbers_182
    · skip
      have h := h.1 c_6
      refine lv_iconst (v := 1) hx hb d_Md_numbers_80 (by decide) ?_
      refine lv_goto (tgt := 85) hx hb d_Md_numbers_81 (by decide) ?_
      refine zz_Wv (As := [.int r_2, .long (r_1.toInt64 + r_5.toInt64), .int (1 : Int32)]) (rest := []) (wc := wD qd qmemory qr qcounts cI cB ms dd Lwhole Lwhole2 bm rr kt) (wr := []) X hK hP hD hS hA (c_Md_sum_IJZV l D cI cB qd qmemory qr qcounts ms dd Lwhole Lwhole2 bm rr kt r_2 (r_1.toInt64 + r_5.toInt64) (1 : Int32) _ h _) ⟨rfl, rfl⟩ m_Md_sum_IJZV k_Md_173 ⟨Nat.le_of_ble_eq_true rfl, Nat.le_of_ble_eq_true rfl⟩ [0, 1, 2, 3] [] rfl rfl (by decide) (by decide) (by decide) 6 0 rfl rfl rfl rfl hl.1 rfl (Nat.le_of_ble_eq_true rfl) d_Md_numbers_85 hf0 (fun u_9 H locs h hP hD hS => ?_)
      have hP : va_P D vwCl (wD qd qmemory qr qcounts cI cB ms u_9.1 u_9.2.1 u_9.2.2.1 u_9.2.2.2.1 u_9.2.2.2.2.1 u_9.2.2.2.2.2) H := hP.sub [0, 1, 2, 3] rfl
      have hD : va_D A (wD qd qmemory qr qcounts cI cB ms u_9.1 u_9.2.1 u_9.2.2.1 u_9.2.2.2.1 u_9.2.2.2.2.1 u_9.2.2.2.2.2) := hD.sub [0, 1, 2, 3] (by decide) rfl
      refine lv_goto (tgt := 182) hx hb d_Md_numbers_88 (by decide) ?_
      exact W.vret hx hb hr (fun t ht hW => ⟨⟨(u_9.1, u_9.2.1, u_9.2.2.1, u_9.2.2.2.1, u_9.2.2.2.2.1, u_9.2.2.2.2.2), rfl, h, by rw [ht]; exact hP, hD⟩, hS.F ht⟩) hS.2.2 d_Md_numbers_182
  · have h := h.2 c_4
    by_cases c_11 : a0 = (10 : Int32)
    · have h := h.1 c_11
      have h0 := c_11
      refine lv_tableIn (off := 69) (tgt := 91) hx hb d_Md_numbers_22 (by rw [h0]; decide) (by rw [h0]; decide) (by rw [h0]; rfl) (by decide) ?_
      refine lv_aload_n hx hb d_Md_numbers_91 rfl (lv_at hl 3 rfl) ?_
      refine lv_iload_n hx hb d_Md_numbers_92 rfl (lv_at hl 1 rfl) ?_
      refine lv_iload_n hx hb d_Md_numbers_93 rfl (lv_at hl 2 rfl) ?_
      refine lv_aload_n hx hb d_Md_numbers_94 rfl (lv_at hl 3 rfl) ?_
      refine zz_Ri (As := []) (rest := [.int r_1, .int r_2, .ref qd]) (wc := wD qd qmemory qr qcounts cI cB ms dd Lwhole Lwhole2 bm rr kt) X hK hP (c_Md_offset l D cI cB qd qmemory qr qcounts ms dd Lwhole Lwhole2 bm rr kt _ h) ⟨rfl, rfl⟩ m_Md_offset k_Md_119 ⟨Nat.le_of_ble_eq_true rfl, Nat.le_of_ble_eq_true rfl⟩ [0, 1, 2, 3] rfl 6 0 rfl rfl rfl rfl hl.1 rfl (Nat.le_of_ble_eq_true rfl) d_Md_numbers_95 hf0 (fun r_12 h => ?_)
      refine lv_icmp_ge (tgt := 105) hx hb d_Md_numbers_98 (by decide) (fun c_13 => ?_) (fun c_13 => ?_)
      · skip
        have h := h.1 c_13
        refine lv_iconst (v := 0) hx hb d_Md_numbers_105 (by decide) ?_
        refine zz_Wv (As := [.int r_2, .int (0 : Int32)]) (rest := []) (wc := wD qd qmemory qr qcounts cI cB ms dd Lwhole Lwhole2 bm rr kt) (wr := []) X hK hP hD hS hA (c_Md_into l D cI cB qd qmemory qr qcounts ms dd Lwhole Lwhole2 bm rr kt r_2 (0 : Int32) _ h _) ⟨rfl, rfl⟩ m_Md_into k_Md_128 ⟨Nat.le_of_ble_eq_true rfl, Nat.le_of_ble_eq_true rfl⟩ [0, 1, 2, 3] [] rfl rfl (by decide) (by decide) (by decide) 6 0 rfl rfl rfl rfl hl.1 rfl (Nat.le_of_ble_eq_true rfl) d_Md_numbers_106 hf0 (fun u_14 H locs h hP hD hS => ?_)
        have hP : va_P D vwCl (wD qd qmemory qr qcounts cI cB ms u_14.1 u_14.2.1 u_14.2.2.1 u_14.2.2.2.1 u_14.2.2.2.2.1 u_14.2.2.2.2.2) H := hP.sub [0, 1, 2, 3] rfl
        have hD : va_D A (wD qd qmemory qr qcounts cI cB ms u_14.1 u_14.2.1 u_14.2.2.1 u_14.2.2.2.1 u_14.2.2.2.2.1 u_14.2.2.2.2.2) := hD.sub [0, 1, 2, 3] (by decide) rfl
        refine lv_goto (tgt := 182) hx hb d_Md_numbers_109 (by decide) ?_
        exact W.vret hx hb hr (fun t ht hW => ⟨⟨(u_14.1, u_14.2.1, u_14.2.2.1, u_14.2.2.2.1, u_14.2.2.2.2.1, u_14.2.2.2.2.2), rfl, h, by rw [ht]; exact hP, hD⟩, hS.F ht⟩) hS.2.2 d_Md_numbers_182
      · skip
        have h := h.2 c_13
        refine lv_iconst (v := 1) hx hb d_Md_numbers_101 (by decide) ?_
        refine lv_goto (tgt := 106) hx hb d_Md_numbers_102 (by decide) ?_
        refine zz_Wv (As := [.int r_2, .int (1 : Int32)]) (rest := []) (wc := wD qd qmemory qr qcounts cI cB ms dd Lwhole Lwhole2 bm rr kt) (wr := []) X hK hP hD hS hA (c_Md_into l D cI cB qd qmemory qr qcounts ms dd Lwhole Lwhole2 bm rr kt r_2 (1 : Int32) _ h _) ⟨rfl, rfl⟩ m_Md_into k_Md_128 ⟨Nat.le_of_ble_eq_true rfl, Nat.le_of_ble_eq_true rfl⟩ [0, 1, 2, 3] [] rfl rfl (by decide) (by decide) (by decide) 6 0 rfl rfl rfl rfl hl.1 rfl (Nat.le_of_ble_eq_true rfl) d_Md_numbers_106 hf0 (fun u_16 H locs h hP hD hS => ?_)
        have hP : va_P D vwCl (wD qd qmemory qr qcounts cI cB ms u_16.1 u_16.2.1 u_16.2.2.1 u_16.2.2.2.1 u_16.2.2.2.2.1 u_16.2.2.2.2.2) H := hP.sub [0, 1, 2, 3] rfl
        have hD : va_D A (wD qd qmemory qr qcounts cI cB ms u_16.1 u_16.2.1 u_16.2.2.1 u_16.2.2.2.1 u_16.2.2.2.2.1 u_16.2.2.2.2.2) := hD.sub [0, 1, 2, 3] (by decide) rfl
        refine lv_goto (tgt := 182) hx hb d_Md_numbers_109 (by decide) ?_
        exact W.vret hx hb hr (fun t ht hW => ⟨⟨(u_16.1, u_16.2.1, u_16.2.2.1, u_16.2.2.2.1, u_16.2.2.2.2.1, u_16.2.2.2.2.2), rfl, h, by rw [ht]; exact hP, hD⟩, hS.F ht⟩) hS.2.2 d_Md_numbers_182
    · have h := h.2 c_11
      by_cases c_18 : a0 = (11 : Int32)
      · have h := h.1 c_18
        have h0 := c_18
        refine lv_tableIn (off := 90) (tgt := 112) hx hb d_Md_numbers_22 (by rw [h0]; decide) (by rw [h0]; decide) (by rw [h0]; rfl) (by decide) ?_
        refine lv_aload_n hx hb d_Md_numbers_112 rfl (lv_at hl 3 rfl) ?_
        refine lv_iload_n hx hb d_Md_numbers_113 rfl (lv_at hl 1 rfl) ?_
        refine lv_iload_n hx hb d_Md_numbers_114 rfl (lv_at hl 2 rfl) ?_
        refine lv_aload_n hx hb d_Md_numbers_115 rfl (lv_at hl 3 rfl) ?_
        refine zz_Ri (As := []) (rest := [.int r_1, .int r_2, .ref qd]) (wc := wD qd qmemory qr qcounts cI cB ms dd Lwhole Lwhole2 bm rr kt) X hK hP (c_Md_offset l D cI cB qd qmemory qr qcounts ms dd Lwhole Lwhole2 bm rr kt _ h) ⟨rfl, rfl⟩ m_Md_offset k_Md_119 ⟨Nat.le_of_ble_eq_true rfl, Nat.le_of_ble_eq_true rfl⟩ [0, 1, 2, 3] rfl 6 0 rfl rfl rfl rfl hl.1 rfl (Nat.le_of_ble_eq_true rfl) d_Md_numbers_116 hf0 (fun r_19 h => ?_)
        refine zz_Si (As := [.int r_1, .int r_19]) (rest := [.int r_2, .ref qd]) X (c_Md_below l r_1 r_19 _ h) ⟨rfl, rfl⟩ m_Md_below k_Md_145 ⟨Nat.le_of_ble_eq_true rfl, Nat.le_of_ble_eq_true rfl⟩ rfl hl.1 rfl (Nat.le_of_ble_eq_true rfl) d_Md_numbers_119 hf0 (fun r_20 h => ?_)
        refine lv_if_eq (tgt := 129) hx hb d_Md_numbers_122 (by decide) (fun c_21 => ?_) (fun c_21 => ?_)
        · skip
          have h := h.1 c_21
          refine lv_iconst (v := 0) hx hb d_Md_numbers_129 (by decide) ?_
          refine zz_Wv (As := [.int r_2, .int (0 : Int32)]) (rest := []) (wc := wD qd qmemory qr qcounts cI cB ms dd Lwhole Lwhole2 bm rr kt) (wr := []) X hK hP hD hS hA (c_Md_into l D cI cB qd qmemory qr qcounts ms dd Lwhole Lwhole2 bm rr kt r_2 (0 : Int32) _ h _) ⟨rfl, rfl⟩ m_Md_into k_Md_128 ⟨Nat.le_of_ble_eq_true rfl, Nat.le_of_ble_eq_true rfl⟩ [0, 1, 2, 3] [] rfl rfl (by decide) (by decide) (by decide) 6 0 rfl rfl rfl rfl hl.1 rfl (Nat.le_of_ble_eq_true rfl) d_Md_numbers_130 hf0 (fun u_22 H locs h hP hD hS => ?_)
          have hP : va_P D vwCl (wD qd qmemory qr qcounts cI cB ms u_22.1 u_22.2.1 u_22.2.2.1 u_22.2.2.2.1 u_22.2.2.2.2.1 u_22.2.2.2.2.2) H := hP.sub [0, 1, 2, 3] rfl
          have hD : va_D A (wD qd qmemory qr qcounts cI cB ms u_22.1 u_22.2.1 u_22.2.2.1 u_22.2.2.2.1 u_22.2.2.2.2.1 u_22.2.2.2.2.2) := hD.sub [0, 1, 2, 3] (by decide) rfl
          refine lv_goto (tgt := 182) hx hb d_Md_numbers_133 (by decide) ?_
          exact W.vret hx hb hr (fun t ht hW => ⟨⟨(u_22.1, u_22.2.1, u_22.2.2.1, u_22.2.2.2.1, u_22.2.2.2.2.1, u_22.2.2.2.2.2), rfl, h, by rw [ht]; exact hP, hD⟩, hS.F ht⟩) hS.2.2 d_Md_numbers_182
        · skip
          have h := h.2 c_21
          refine lv_iconst (v := 1) hx hb d_Md_numbers_125 (by decide) ?_
          refine lv_goto (tgt := 130) hx hb d_Md_numbers_126 (by decide) ?_
          refine zz_Wv (As := [.int r_2, .int (1 : Int32)]) (rest := []) (wc := wD qd qmemory qr qcounts cI cB ms dd Lwhole Lwhole2 bm rr kt) (wr := []) X hK hP hD hS hA (c_Md_into l D cI cB qd qmemory qr qcounts ms dd Lwhole Lwhole2 bm rr kt r_2 (1 : Int32) _ h _) ⟨rfl, rfl⟩ m_Md_into k_Md_128 ⟨Nat.le_of_ble_eq_true rfl, Nat.le_of_ble_eq_true rfl⟩ [0, 1, 2, 3] [] rfl rfl (by decide) (by decide) (by decide) 6 0 rfl rfl rfl rfl hl.1 rfl (Nat.le_of_ble_eq_true rfl) d_Md_numbers_130 hf0 (fun u_24 H locs h hP hD hS => ?_)
          have hP : va_P D vwCl (wD qd qmemory qr qcounts cI cB ms u_24.1 u_24.2.1 u_24.2.2.1 u_24.2.2.2.1 u_24.2.2.2.2.1 u_24.2.2.2.2.2) H := hP.sub [0, 1, 2, 3] rfl
          have hD : va_D A (wD qd qmemory qr qcounts cI cB ms u_24.1 u_24.2.1 u_24.2.2.1 u_24.2.2.2.1 u_24.2.2.2.2.1 u_24.2.2.2.2.2) := hD.sub [0, 1, 2, 3] (by decide) rfl
          refine lv_goto (tgt := 182) hx hb d_Md_numbers_133 (by decide) ?_
          exact W.vret hx hb hr (fun t ht hW => ⟨⟨(u_24.1, u_24.2.1, u_24.2.2.1, u_24.2.2.2.1, u_24.2.2.2.2.1, u_24.2.2.2.2.2), rfl, h, by rw [ht]; exact hP, hD⟩, hS.F ht⟩) hS.2.2 d_Md_numbers_182
      · have h := h.2 c_18
        by_cases c_26 : a0 = (12 : Int32)
        · have h := h.1 c_26
          have h0 := c_26
          refine lv_tableIn (off := 114) (tgt := 136) hx hb d_Md_numbers_22 (by rw [h0]; decide) (by rw [h0]; decide) (by rw [h0]; rfl) (by decide) ?_
          refine lv_aload_n hx hb d_Md_numbers_136 rfl (lv_at hl 3 rfl) ?_
          refine lv_iload_n hx hb d_Md_numbers_137 rfl (lv_at hl 1 rfl) ?_
          refine lv_iload_n hx hb d_Md_numbers_138 rfl (lv_at hl 2 rfl) ?_
          refine lv_iload hx hb d_Md_numbers_139 (lv_at hl 0 rfl) ?_
          refine lv_iand hx hb d_Md_numbers_141 ?_
          refine zz_Wv (As := [.int r_2, .int (r_1 &&& x_3)]) (rest := []) (wc := wD qd qmemory qr qcounts cI cB ms dd Lwhole Lwhole2 bm rr kt) (wr := []) X hK hP hD hS hA (c_Md_into l D cI cB qd qmemory qr qcounts ms dd Lwhole Lwhole2 bm rr kt r_2 (r_1 &&& x_3) _ h _) ⟨rfl, rfl⟩ m_Md_into k_Md_128 ⟨Nat.le_of_ble_eq_true rfl, Nat.le_of_ble_eq_true rfl⟩ [0, 1, 2, 3] [] rfl rfl (by decide) (by decide) (by decide) 6 0 rfl rfl rfl rfl hl.1 rfl (Nat.le_of_ble_eq_true rfl) d_Md_numbers_142 hf0 (fun u_27 H locs h hP hD hS => ?_)
          have hP : va_P D vwCl (wD qd qmemory qr qcounts cI cB ms u_27.1 u_27.2.1 u_27.2.2.1 u_27.2.2.2.1 u_27.2.2.2.2.1 u_27.2.2.2.2.2) H := hP.sub [0, 1, 2, 3] rfl
          have hD : va_D A (wD qd qmemory qr qcounts cI cB ms u_27.1 u_27.2.1 u_27.2.2.1 u_27.2.2.2.1 u_27.2.2.2.2.1 u_27.2.2.2.2.2) := hD.sub [0, 1, 2, 3] (by decide) rfl
          refine lv_goto (tgt := 182) hx hb d_Md_numbers_145 (by decide) ?_
          exact W.vret hx hb hr (fun t ht hW => ⟨⟨(u_27.1, u_27.2.1, u_27.2.2.1, u_27.2.2.2.1, u_27.2.2.2.2.1, u_27.2.2.2.2.2), rfl, h, by rw [ht]; exact hP, hD⟩, hS.F ht⟩) hS.2.2 d_Md_numbers_182
        · have h := h.2 c_26
          by_cases c_29 : a0 = (13 : Int32)
          · have h := h.1 c_29
            have h0 := c_29
            refine lv_tableIn (off := 126) (tgt := 148) hx hb d_Md_numbers_22 (by rw [h0]; decide) (by rw [h0]; decide) (by rw [h0]; rfl) (by decide) ?_
            refine lv_aload_n hx hb d_Md_numbers_148 rfl (lv_at hl 3 rfl) ?_
            refine lv_iload_n hx hb d_Md_numbers_149 rfl (lv_at hl 1 rfl) ?_
            refine lv_iload_n hx hb d_Md_numbers_150 rfl (lv_at hl 2 rfl) ?_
            refine lv_iload hx hb d_Md_numbers_151 (lv_at hl 0 rfl) ?_
            refine lv_ior hx hb d_Md_numbers_153 ?_
            refine zz_Wv (As := [.int r_2, .int (r_1 ||| x_3)]) (rest := []) (wc := wD qd qmemory qr qcounts cI cB ms dd Lwhole Lwhole2 bm rr kt) (wr := []) X hK hP hD hS hA (c_Md_into l D cI cB qd qmemory qr qcounts ms dd Lwhole Lwhole2 bm rr kt r_2 (r_1 ||| x_3) _ h _) ⟨rfl, rfl⟩ m_Md_into k_Md_128 ⟨Nat.le_of_ble_eq_true rfl, Nat.le_of_ble_eq_true rfl⟩ [0, 1, 2, 3] [] rfl rfl (by decide) (by decide) (by decide) 6 0 rfl rfl rfl rfl hl.1 rfl (Nat.le_of_ble_eq_true rfl) d_Md_numbers_154 hf0 (fun u_30 H locs h hP hD hS => ?_)
            have hP : va_P D vwCl (wD qd qmemory qr qcounts cI cB ms u_30.1 u_30.2.1 u_30.2.2.1 u_30.2.2.2.1 u_30.2.2.2.2.1 u_30.2.2.2.2.2) H := hP.sub [0, 1, 2, 3] rfl
            have hD : va_D A (wD qd qmemory qr qcounts cI cB ms u_30.1 u_30.2.1 u_30.2.2.1 u_30.2.2.2.1 u_30.2.2.2.2.1 u_30.2.2.2.2.2) := hD.sub [0, 1, 2, 3] (by decide) rfl
            refine lv_goto (tgt := 182) hx hb d_Md_numbers_157 (by decide) ?_
            exact W.vret hx hb hr (fun t ht hW => ⟨⟨(u_30.1, u_30.2.1, u_30.2.2.1, u_30.2.2.2.1, u_30.2.2.2.2.1, u_30.2.2.2.2.2), rfl, h, by rw [ht]; exact hP, hD⟩, hS.F ht⟩) hS.2.2 d_Md_numbers_182
          · have h := h.2 c_29
            by_cases c_32 : a0 = (14 : Int32)
            · have h := h.1 c_32
              have h0 := c_32
              refine lv_tableIn (off := 138) (tgt := 160) hx hb d_Md_numbers_22 (by rw [h0]; decide) (by rw [h0]; decide) (by rw [h0]; rfl) (by decide) ?_
              refine lv_aload_n hx hb d_Md_numbers_160 rfl (lv_at hl 3 rfl) ?_
              refine lv_iload_n hx hb d_Md_numbers_161 rfl (lv_at hl 1 rfl) ?_
              refine lv_iload_n hx hb d_Md_numbers_162 rfl (lv_at hl 2 rfl) ?_
              refine lv_iload hx hb d_Md_numbers_163 (lv_at hl 0 rfl) ?_
              refine lv_ixor hx hb d_Md_numbers_165 ?_
              refine zz_Wv (As := [.int r_2, .int (r_1 ^^^ x_3)]) (rest := []) (wc := wD qd qmemory qr qcounts cI cB ms dd Lwhole Lwhole2 bm rr kt) (wr := []) X hK hP hD hS hA (c_Md_into l D cI cB qd qmemory qr qcounts ms dd Lwhole Lwhole2 bm rr kt r_2 (r_1 ^^^ x_3) _ h _) ⟨rfl, rfl⟩ m_Md_into k_Md_128 ⟨Nat.le_of_ble_eq_true rfl, Nat.le_of_ble_eq_true rfl⟩ [0, 1, 2, 3] [] rfl rfl (by decide) (by decide) (by decide) 6 0 rfl rfl rfl rfl hl.1 rfl (Nat.le_of_ble_eq_true rfl) d_Md_numbers_166 hf0 (fun u_33 H locs h hP hD hS => ?_)
              have hP : va_P D vwCl (wD qd qmemory qr qcounts cI cB ms u_33.1 u_33.2.1 u_33.2.2.1 u_33.2.2.2.1 u_33.2.2.2.2.1 u_33.2.2.2.2.2) H := hP.sub [0, 1, 2, 3] rfl
              have hD : va_D A (wD qd qmemory qr qcounts cI cB ms u_33.1 u_33.2.1 u_33.2.2.1 u_33.2.2.2.1 u_33.2.2.2.2.1 u_33.2.2.2.2.2) := hD.sub [0, 1, 2, 3] (by decide) rfl
              refine lv_goto (tgt := 182) hx hb d_Md_numbers_169 (by decide) ?_
              exact W.vret hx hb hr (fun t ht hW => ⟨⟨(u_33.1, u_33.2.1, u_33.2.2.1, u_33.2.2.2.1, u_33.2.2.2.2.1, u_33.2.2.2.2.2), rfl, h, by rw [ht]; exact hP, hD⟩, hS.F ht⟩) hS.2.2 d_Md_numbers_182
            · have h := h.2 c_32
              refine zz_swD (tgt := 172) hx hb [8, 9, 10, 11, 12, 13, 14] d_Md_numbers_22 (by decide +kernel) (by decide) (List.forall_mem_cons.mpr ⟨lv_neT (k := 8) (fun q => c_4 (Or.inl q)) (by decide), List.forall_mem_cons.mpr ⟨lv_neT (k := 9) (fun q => c_4 (Or.inr (q))) (by decide), List.forall_mem_cons.mpr ⟨lv_neT (k := 10) c_11 (by decide), List.forall_mem_cons.mpr ⟨lv_neT (k := 11) c_18 (by decide), List.forall_mem_cons.mpr ⟨lv_neT (k := 12) c_26 (by decide), List.forall_mem_cons.mpr ⟨lv_neT (k := 13) c_29 (by decide), List.forall_mem_cons.mpr ⟨lv_neT (k := 14) c_32 (by decide), fun _ h9 => nomatch h9⟩⟩⟩⟩⟩⟩⟩) (by decide) ?_
              refine lv_aload_n hx hb d_Md_numbers_172 rfl (lv_at hl 3 rfl) ?_
              refine lv_iload_n hx hb d_Md_numbers_173 rfl (lv_at hl 1 rfl) ?_
              refine lv_iload hx hb d_Md_numbers_174 (lv_at hl 0 rfl) ?_
              refine lv_bipush (v := 16) hx hb d_Md_numbers_176 (by decide) ?_
              refine zz_ishl hx hb d_Md_numbers_178 ?_
              refine zz_Wv (As := [.int r_2, .int (zz_shl x_3 (16 : Int32))]) (rest := []) (wc := wD qd qmemory qr qcounts cI cB ms dd Lwhole Lwhole2 bm rr kt) (wr := []) X hK hP hD hS hA (c_Md_into l D cI cB qd qmemory qr qcounts ms dd Lwhole Lwhole2 bm rr kt r_2 (zz_shl x_3 (16 : Int32)) _ h _) ⟨rfl, rfl⟩ m_Md_into k_Md_128 ⟨Nat.le_of_ble_eq_true rfl, Nat.le_of_ble_eq_true rfl⟩ [0, 1, 2, 3] [] rfl rfl (by decide) (by decide) (by decide) 6 0 rfl rfl rfl rfl hl.1 rfl (Nat.le_of_ble_eq_true rfl) d_Md_numbers_179 hf0 (fun u_35 H locs h hP hD hS => ?_)
              have hP : va_P D vwCl (wD qd qmemory qr qcounts cI cB ms u_35.1 u_35.2.1 u_35.2.2.1 u_35.2.2.2.1 u_35.2.2.2.2.1 u_35.2.2.2.2.2) H := hP.sub [0, 1, 2, 3] rfl
              have hD : va_D A (wD qd qmemory qr qcounts cI cB ms u_35.1 u_35.2.1 u_35.2.2.1 u_35.2.2.2.1 u_35.2.2.2.2.1 u_35.2.2.2.2.2) := hD.sub [0, 1, 2, 3] (by decide) rfl
              exact W.vret hx hb hr (fun t ht hW => ⟨⟨(u_35.1, u_35.2.1, u_35.2.2.1, u_35.2.2.2.1, u_35.2.2.2.2.1, u_35.2.2.2.2.2), rfl, h, by rw [ht]; exact hP, hD⟩, hS.F ht⟩) hS.2.2 d_Md_numbers_182
