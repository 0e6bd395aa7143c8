def wj_Md_fractionMemory_190 (ms : Int32) (a0 : Int32) (a1 : Int32) (a2 : Int32) (P : ((Nat → Int32) × Int64 × Int64 × (Nat → Int32) × (Nat → Int32) × (Nat → Int32)) → Prop) (j190_4 : Int32) (j190_6 : Int32) (s190_1 : Int32) (s190_2 : Int32) (s190_4 : Int32) (z190dd : Nat → Int32) (z190Lwhole : Int64) (z190Lwhole2 : Int64) (z190bm : Nat → Int32) (z190rr : Nat → Int32) (z190kt : Nat → Int32) : Prop := vp_in s190_4 67 ∧ ∀ x_1 : Int32, x_1 = (z190rr s190_4.toNatClampNeg) → wp_Md_store ms z190dd z190Lwhole z190Lwhole2 z190bm z190rr z190kt s190_1 s190_2 x_1 (fun u_2 => ((j190_4 = (0 : Int32) → P (u_2.1, u_2.2.1, u_2.2.2.1, u_2.2.2.2.1, u_2.2.2.2.2.1, u_2.2.2.2.2.2)) ∧ (¬ j190_4 = (0 : Int32) → vp_in j190_6 67 ∧ ∀ x_5 : Int32, x_5 = (u_2.2.2.2.2.1 j190_6.toNatClampNeg) → wp_Md_store ms u_2.1 u_2.2.1 u_2.2.2.1 u_2.2.2.2.1 u_2.2.2.2.2.1 u_2.2.2.2.2.2 (a1 + (4 : Int32)) (4 : Int32) x_5 (fun u_6 => P (u_6.1, u_6.2.1, u_6.2.2.1, u_6.2.2.2.1, u_6.2.2.2.2.1, u_6.2.2.2.2.2)))))
def wj_Md_fractionMemory_139 (ms : Int32) (a0 : Int32) (a1 : Int32) (a2 : Int32) (P : ((Nat → Int32) × Int64 × Int64 × (Nat → Int32) × (Nat → Int32) × (Nat → Int32)) → Prop) (j139_4 : Int32) (j139_6 : Int32) (s139_1 : Int32) (z139dd : Nat → Int32) (z139Lwhole : Int64) (z139Lwhole2 : Int64) (z139bm : Nat → Int32) (z139rr : Nat → Int32) (z139kt : Nat → Int32) : Prop := wp_Md_part ms z139dd z139Lwhole z139Lwhole2 z139bm z139rr z139kt a1 (4 : Int32) (fun r_8 => vp_in s139_1 67 ∧ ((j139_4 = (0 : Int32) → P (z139dd, z139Lwhole, z139Lwhole2, z139bm, (upd z139rr s139_1.toNatClampNeg r_8), z139kt)) ∧ (¬ j139_4 = (0 : Int32) → wp_Md_part ms z139dd z139Lwhole z139Lwhole2 z139bm (upd z139rr s139_1.toNatClampNeg r_8) z139kt (a1 + (4 : Int32)) (4 : Int32) (fun r_10 => vp_in j139_6 67 ∧ P (z139dd, z139Lwhole, z139Lwhole2, z139bm, (upd (upd z139rr s139_1.toNatClampNeg r_8) j139_6.toNatClampNeg r_10), z139kt)))))
def wj_Md_fractionMemory_105 (ms : Int32) (a0 : Int32) (a1 : Int32) (a2 : Int32) (P : ((Nat → Int32) × Int64 × Int64 × (Nat → Int32) × (Nat → Int32) × (Nat → Int32)) → Prop) (j105_4 : Int32) (j105_5 : Int32) (s105_1 : Int32) (z105dd : Nat → Int32) (z105Lwhole : Int64) (z105Lwhole2 : Int64) (z105bm : Nat → Int32) (z105rr : Nat → Int32) (z105kt : Nat → Int32) : Prop := vp_in s105_1 5 ∧ ∀ x_11 : Int32, x_11 = (z105kt s105_1.toNatClampNeg) → vp_in s105_1 5 ∧ ∀ x_12 : Int32, x_12 = ((34 : Int32) + a2) → ((j105_5 = (0 : Int32) → ((j105_4 = (0 : Int32) → wj_Md_fractionMemory_190 ms a0 a1 a2 P j105_4 x_12 a1 (4 : Int32) x_12 z105dd z105Lwhole z105Lwhole2 z105bm z105rr (upd z105kt s105_1.toNatClampNeg (x_11 + (1 : Int32)))) ∧ (¬ j105_4 = (0 : Int32) → wj_Md_fractionMemory_190 ms a0 a1 a2 P j105_4 x_12 a1 (4 : Int32) (x_12 + (1 : Int32)) z105dd z105Lwhole z105Lwhole2 z105bm z105rr (upd z105kt s105_1.toNatClampNeg (x_11 + (1 : Int32)))))) ∧ (¬ j105_5 = (0 : Int32) → ((j105_4 = (0 : Int32) → wj_Md_fractionMemory_139 ms a0 a1 a2 P j105_4 x_12 x_12 z105dd z105Lwhole z105Lwhole2 z105bm z105rr (upd z105kt s105_1.toNatClampNeg (x_11 + (1 : Int32)))) ∧ (¬ j105_4 = (0 : Int32) → wj_Md_fractionMemory_139 ms a0 a1 a2 P j105_4 x_12 (x_12 + (1 : Int32)) z105dd z105Lwhole z105Lwhole2 z105bm z105rr (upd z105kt s105_1.toNatClampNeg (x_11 + (1 : Int32)))))))
def wj_Md_fractionMemory_83 (ms : Int32) (a0 : Int32) (a1 : Int32) (a2 : Int32) (P : ((Nat → Int32) × Int64 × Int64 × (Nat → Int32) × (Nat → Int32) × (Nat → Int32)) → Prop) (j83_4 : Int32) (j83_5 : Int32) (z83dd : Nat → Int32) (z83Lwhole : Int64) (z83Lwhole2 : Int64) (z83bm : Nat → Int32) (z83rr : Nat → Int32) (z83kt : Nat → Int32) : Prop := (((z83dd 5) ≤ (0 : Int32) → ((j83_5 = (0 : Int32) → wj_Md_fractionMemory_105 ms a0 a1 a2 P j83_4 j83_5 (2 : Int32) z83dd z83Lwhole z83Lwhole2 z83bm z83rr z83kt) ∧ (¬ j83_5 = (0 : Int32) → wj_Md_fractionMemory_105 ms a0 a1 a2 P j83_4 j83_5 (1 : Int32) z83dd z83Lwhole z83Lwhole2 z83bm z83rr z83kt))) ∧ (¬ (z83dd 5) ≤ (0 : Int32) → P (z83dd, z83Lwhole, z83Lwhole2, z83bm, z83rr, z83kt)))
def wj_Md_fractionMemory_80 (ms : Int32) (a0 : Int32) (a1 : Int32) (a2 : Int32) (P : ((Nat → Int32) × Int64 × Int64 × (Nat → Int32) × (Nat → Int32) × (Nat → Int32)) → Prop) (j80_4 : Int32) (j80_5 : Int32) (s80_1 : Int32) (z80dd : Nat → Int32) (z80Lwhole : Int64) (z80Lwhole2 : Int64) (z80bm : Nat → Int32) (z80rr : Nat → Int32) (z80kt : Nat → Int32) : Prop := wp_Md_ends ms z80dd z80Lwhole z80Lwhole2 z80bm z80rr z80kt s80_1 (fun u_18 => wj_Md_fractionMemory_83 ms a0 a1 a2 P j80_4 j80_5 u_18.1 u_18.2.1 u_18.2.2.1 u_18.2.2.2.1 u_18.2.2.2.2.1 u_18.2.2.2.2.2)
def wj_Md_fractionMemory_63 (ms : Int32) (a0 : Int32) (a1 : Int32) (a2 : Int32) (P : ((Nat → Int32) × Int64 × Int64 × (Nat → Int32) × (Nat → Int32) × (Nat → Int32)) → Prop) (j63_4 : Int32) (j63_5 : Int32) (s63_1 : Int32) (s63_2 : Int32) (z63dd : Nat → Int32) (z63Lwhole : Int64) (z63Lwhole2 : Int64) (z63bm : Nat → Int32) (z63rr : Nat → Int32) (z63kt : Nat → Int32) : Prop := wp_Md_good ms z63dd z63Lwhole z63Lwhole2 z63bm z63rr z63kt s63_1 s63_2 (fun r_20 => ((r_20 = (0 : Int32) → ((j63_5 = (0 : Int32) → wj_Md_fractionMemory_80 ms a0 a1 a2 P j63_4 j63_5 (2 : Int32) z63dd z63Lwhole z63Lwhole2 z63bm z63rr z63kt) ∧ (¬ j63_5 = (0 : Int32) → wj_Md_fractionMemory_80 ms a0 a1 a2 P j63_4 j63_5 (1 : Int32) z63dd z63Lwhole z63Lwhole2 z63bm z63rr z63kt))) ∧ (¬ r_20 = (0 : Int32) → wj_Md_fractionMemory_83 ms a0 a1 a2 P j63_4 j63_5 z63dd z63Lwhole z63Lwhole2 z63bm z63rr z63kt)))
def wj_Md_fractionMemory_50 (ms : Int32) (a0 : Int32) (a1 : Int32) (a2 : Int32) (P : ((Nat → Int32) × Int64 × Int64 × (Nat → Int32) × (Nat → Int32) × (Nat → Int32)) → Prop) (j50_4 : Int32) (j50_5 : Int32) (z50dd : Nat → Int32) (z50Lwhole : Int64) (z50Lwhole2 : Int64) (z50bm : Nat → Int32) (z50rr : Nat → Int32) (z50kt : Nat → Int32) : Prop := ((j50_4 = (0 : Int32) → wj_Md_fractionMemory_63 ms a0 a1 a2 P j50_4 j50_5 a1 (4 : Int32) z50dd z50Lwhole z50Lwhole2 z50bm z50rr z50kt) ∧ (¬ j50_4 = (0 : Int32) → wj_Md_fractionMemory_63 ms a0 a1 a2 P j50_4 j50_5 a1 (8 : Int32) z50dd z50Lwhole z50Lwhole2 z50bm z50rr z50kt))
def wj_Md_fractionMemory_30 (ms : Int32) (a0 : Int32) (a1 : Int32) (a2 : Int32) (P : ((Nat → Int32) × Int64 × Int64 × (Nat → Int32) × (Nat → Int32) × (Nat → Int32)) → Prop) (j30_4 : Int32) (s30_0 : Int32) (z30dd : Nat → Int32) (z30Lwhole : Int64) (z30Lwhole2 : Int64) (z30bm : Nat → Int32) (z30rr : Nat → Int32) (z30kt : Nat → Int32) : Prop := ((j30_4 = (0 : Int32) → wj_Md_fractionMemory_50 ms a0 a1 a2 P j30_4 s30_0 z30dd z30Lwhole z30Lwhole2 z30bm z30rr z30kt) ∧ (¬ j30_4 = (0 : Int32) → (((a2 &&& (1 : Int32)) = (1 : Int32) → wp_Md_ends ms z30dd z30Lwhole z30Lwhole2 z30bm z30rr z30kt (8 : Int32) (fun u_26 => wj_Md_fractionMemory_50 ms a0 a1 a2 P j30_4 s30_0 u_26.1 u_26.2.1 u_26.2.2.1 u_26.2.2.2.1 u_26.2.2.2.2.1 u_26.2.2.2.2.2)) ∧ (¬ (a2 &&& (1 : Int32)) = (1 : Int32) → wj_Md_fractionMemory_50 ms a0 a1 a2 P j30_4 s30_0 z30dd z30Lwhole z30Lwhole2 z30bm z30rr z30kt))))
def wj_Md_fractionMemory_17 (ms : Int32) (a0 : Int32) (a1 : Int32) (a2 : Int32) (P : ((Nat → Int32) × Int64 × Int64 × (Nat → Int32) × (Nat → Int32) × (Nat → Int32)) → Prop) (s17_0 : Int32) (z17dd : Nat → Int32) (z17Lwhole : Int64) (z17Lwhole2 : Int64) (z17bm : Nat → Int32) (z17rr : Nat → Int32) (z17kt : Nat → Int32) : Prop := (((56 : Int32) ≤ a0 → wj_Md_fractionMemory_30 ms a0 a1 a2 P s17_0 (0 : Int32) z17dd z17Lwhole z17Lwhole2 z17bm z17rr z17kt) ∧ (¬ (56 : Int32) ≤ a0 → wj_Md_fractionMemory_30 ms a0 a1 a2 P s17_0 (1 : Int32) z17dd z17Lwhole z17Lwhole2 z17bm z17rr z17kt))
def wj_Md_fractionMemory_12 (ms : Int32) (a0 : Int32) (a1 : Int32) (a2 : Int32) (P : ((Nat → Int32) × Int64 × Int64 × (Nat → Int32) × (Nat → Int32) × (Nat → Int32)) → Prop) (z12dd : Nat → Int32) (z12Lwhole : Int64) (z12Lwhole2 : Int64) (z12bm : Nat → Int32) (z12rr : Nat → Int32) (z12kt : Nat → Int32) : Prop := wj_Md_fractionMemory_17 ms a0 a1 a2 P (1 : Int32) z12dd z12Lwhole z12Lwhole2 z12bm z12rr z12kt
def wp_Md_fractionMemory (ms : Int32) (dd : Nat → Int32) (Lwhole : Int64) (Lwhole2 : Int64) (bm : Nat → Int32) (rr : Nat → Int32) (kt : Nat → Int32) (a0 : Int32) (a1 : Int32) (a2 : Int32) (P : ((Nat → Int32) × Int64 × Int64 × (Nat → Int32) × (Nat → Int32) × (Nat → Int32)) → Prop) : Prop := ((a0 = (53 : Int32) → wj_Md_fractionMemory_12 ms a0 a1 a2 P dd Lwhole Lwhole2 bm rr kt) ∧ (¬ a0 = (53 : Int32) → ((a0 = (61 : Int32) → wj_Md_fractionMemory_12 ms a0 a1 a2 P dd Lwhole Lwhole2 bm rr kt) ∧ (¬ a0 = (61 : Int32) → wj_Md_fractionMemory_17 ms a0 a1 a2 P (0 : Int32) dd Lwhole Lwhole2 bm rr kt))))
abbrev rm_Md_fractionMemory : Room := { frames := 1, cells := 0, slots := 0, locals := 24 }
set_option maxHeartbeats 4000000 in
set_option maxRecDepth 100000 in
theorem c_Md_fractionMemory (l : Launch) (D : va_G) (cI : ClassId) (cB : ClassId) (qd : Nat) (qmemory : Nat) (qr : Nat) (qcounts : Nat) (ms : Int32) (dd : Nat → Int32) (Lwhole : Int64) (Lwhole2 : Int64) (bm : Nat → Int32) (rr : Nat → Int32) (kt : Nat → Int32) (a0 : Int32) (a1 : Int32) (a2 : Int32) (P : ((Nat → Int32) × Int64 × Int64 × (Nat → Int32) × (Nat → Int32) × (Nat → Int32)) → Prop) (h : wp_Md_fractionMemory ms dd Lwhole Lwhole2 bm rr kt a0 a1 a2 P) (sz : Nat) : Met l y_Md_fractionMemory (zz_ws y_Md_fractionMemory b_Md_fractionMemory 7 none) rm_Md_fractionMemory (va_Pc [.ref qd, .int a0, .int a1, .int a2] (zz_pw D [(cI, .int), (cB, .byte)] (wD qd qmemory qr qcounts cI cB ms dd Lwhole Lwhole2 bm rr kt) sz)) (va_Qv P (zz_qw D (fun u => wD qd qmemory qr qcounts cI cB ms u.1 u.2.1 u.2.2.1 u.2.2.2.1 u.2.2.2.2.1 u.2.2.2.2.2) (va_A (wD qd qmemory qr qcounts cI cB ms dd Lwhole Lwhole2 bm rr kt) sz)) (va_A (wD qd qmemory qr qcounts cI cB ms dd Lwhole Lwhole2 bm rr kt) sz)) 0 0 (va_A (wD qd qmemory qr qcounts cI cB ms dd Lwhole Lwhole2 bm rr kt) sz) := by
  refine Met.ofW (cc := b_Md_fractionMemory) (maxL := 7) (ret := none) (by decide) rfl ?_
  intro p e s m args below meth c s₁ B hml hv
  obtain ⟨rfl, hsz, hP, hK, hD0⟩ := hv
  have hx := B.exec
  have hb := B.bytes
  have hr := B.returns
  have hts := atoms_spec (ws := (zz_ws y_Md_fractionMemory b_Md_fractionMemory 7 none)) B.pre
  have hown : s.vm.findClass R_Md = some m.cls := findClass_of_methodNamed B.named
  have hlocks := B.notSynchronized
  have hT := zz_hts hts
  have X : CallFix p m c b_Md_fractionMemory 7 s ([.ref qd, .int a0, .int a1, .int a2] : List Value).toArray (zz_ws y_Md_fractionMemory b_Md_fractionMemory 7 none) R_Md := ⟨hx, hb, hml, hown, hts⟩
  have hf0 : 0 + 0 ≤ (headSpec (zz_ws y_Md_fractionMemory b_Md_fractionMemory 7 none) rm_Md_fractionMemory).room.cells ∧ 0 + 0 ≤ (headSpec (zz_ws y_Md_fractionMemory b_Md_fractionMemory 7 none) rm_Md_fractionMemory).room.slots := ⟨Nat.le_of_ble_eq_true rfl, Nat.le_of_ble_eq_true rfl⟩
  subst hsz
  have hD := hD0.self (sz := s.heap.size)
  generalize hAe : va_A (wD qd qmemory qr qcounts cI cB ms dd Lwhole Lwhole2 bm rr kt) s.heap.size = A at hD ⊢
  have hA : ∀ q : Nat, s.heap.size ≤ q → A q := fun q h => by rw [← hAe]; exact Or.inr h
  have hS : va_S A s.heap s.heap [] := va_S.rf
  have hl := lv_entry ([.ref qd, .int a0, .int a1, .int a2]) (n := 7) (Nat.le_of_ble_eq_true rfl)
  rw [lg_entry_eq]
  generalize (lg_sl ([.ref qd, .int a0, .int a1, .int a2]) ++ List.replicate (7 - (lg_sl ([.ref qd, .int a0, .int a1, .int a2])).length) Slot.unset).toArray = ls at hl ⊢
  have hl : lv_has ls 7 [(0, .ref qd), (1, .int a0), (2, .int a1), (3, .int a2)] := hl
  have jn_190 : ∀ (j190_4 : Int32) (j190_6 : Int32) (s190_1 : Int32) (s190_2 : Int32) (s190_4 : Int32) (z190dd : Nat → Int32) (z190Lwhole : Int64) (z190Lwhole2 : Int64) (z190bm : Nat → Int32) (z190rr : Nat → Int32) (z190kt : Nat → Int32), wj_Md_fractionMemory_190 ms a0 a1 a2 P j190_4 j190_6 s190_1 s190_2 s190_4 z190dd z190Lwhole z190Lwhole2 z190bm z190rr z190kt → ∀ (H : Heap) (locs : List Loc), va_P D vwCl (wD qd qmemory qr qcounts cI cB ms z190dd z190Lwhole z190Lwhole2 z190bm z190rr z190kt) H → va_D A (wD qd qmemory qr qcounts cI cB ms z190dd z190Lwhole z190Lwhole2 z190bm z190rr z190kt) → va_S A s.heap H locs → ∀ ls : Array Slot, lv_has ls 7 [(0, .ref qd), (2, .int a1), (4, .int j190_4), (6, .int j190_6)] → W p l e (headSpec (zz_ws y_Md_fractionMemory b_Md_fractionMemory 7 none) rm_Md_fractionMemory).room s m ([.ref qd, .int a0, .int a1, .int a2] : List Value).toArray below meth c H locs 0 0 (MQ below (va_Qv P (zz_qw D (fun u => wD qd qmemory qr qcounts cI cB ms u.1 u.2.1 u.2.2.1 u.2.2.2.1 u.2.2.2.2.1 u.2.2.2.2.2) A) A) ([.ref qd, .int a0, .int a1, .int a2] : List Value).toArray s 0 0 A) (F0 m 190 ls [.int s190_4, .ref qr, .int s190_2, .int s190_1, .ref qd]) := by
    intro j190_4 j190_6 s190_1 s190_2 s190_4 z190dd z190Lwhole z190Lwhole2 z190bm z190rr z190kt h H locs hP hD hS ls hl
    unfold wj_Md_fractionMemory_190 at h
    refine va_iald (f := z190rr) hx hb hK hP 2 0 rfl rfl h.1 d_Md_fractionMemory_190 ?_
    have h := h.2
    refine lv_topi (fun x_1 ex_1 => ?_)
    have h := h x_1 ex_1
    refine zz_Wv (As := [.int s190_1, .int s190_2, .int x_1]) (rest := []) (wc := wD qd qmemory qr qcounts cI cB ms z190dd z190Lwhole z190Lwhole2 z190bm z190rr z190kt) (wr := []) X hK hP hD hS hA (c_Md_store l D cI cB qd qmemory qr qcounts ms z190dd z190Lwhole z190Lwhole2 z190bm z190rr z190kt s190_1 s190_2 x_1 _ h _) ⟨rfl, rfl⟩ m_Md_store k_Md_50 ⟨Nat.le_of_ble_eq_true rfl, Nat.le_of_ble_eq_true rfl⟩ [0, 1, 2, 3] [] rfl rfl (by decide) (by decide) (by decide) 6 0 rfl rfl rfl rfl hl.1 rfl (Nat.le_of_ble_eq_true rfl) d_Md_fractionMemory_191 hf0 (fun u_2 H locs h hP hD hS => ?_)
    have hP : va_P D vwCl (wD qd qmemory qr qcounts cI cB ms u_2.1 u_2.2.1 u_2.2.2.1 u_2.2.2.2.1 u_2.2.2.2.2.1 u_2.2.2.2.2.2) H := hP.sub [0, 1, 2, 3] rfl
    have hD : va_D A (wD qd qmemory qr qcounts cI cB ms u_2.1 u_2.2.1 u_2.2.2.1 u_2.2.2.2.1 u_2.2.2.2.2.1 u_2.2.2.2.2.2) := hD.sub [0, 1, 2, 3] (by decide) rfl
    refine lv_iload hx hb d_Md_fractionMemory_194 (lv_at hl 2 rfl) ?_
    refine lv_if_eq (tgt := 214) hx hb d_Md_fractionMemory_196 (by decide) (fun c_4 => ?_) (fun c_4 => ?_)
    · skip
      have h := h.1 c_4
      exact W.vret hx hb hr (fun t ht hW => ⟨⟨(u_2.1, u_2.2.1, u_2.2.2.1, u_2.2.2.2.1, u_2.2.2.2.2.1, u_2.2.2.2.2.2), rfl, h, by rw [ht]; exact hP, hD⟩, hS.F ht⟩) hS.2.2 d_Md_fractionMemory_214
    · skip
      have h := h.2 c_4
      refine lv_aload_n hx hb d_Md_fractionMemory_199 rfl (lv_at hl 0 rfl) ?_
      refine lv_iload_n hx hb d_Md_fractionMemory_200 rfl (lv_at hl 1 rfl) ?_
      refine lv_iconst (v := 4) hx hb d_Md_fractionMemory_201 (by decide) ?_
      refine lv_iadd hx hb d_Md_fractionMemory_202 ?_
      refine lv_iconst (v := 4) hx hb d_Md_fractionMemory_203 (by decide) ?_
      refine lv_aload_n hx hb d_Md_fractionMemory_204 rfl (lv_at hl 0 rfl) ?_
      refine g_Md_14 (v := .ref qr) hx hb hT hown hK hP 0 rfl rfl d_Md_fractionMemory_205 ?_
      refine lv_iload hx hb d_Md_fractionMemory_208 (lv_at hl 3 rfl) ?_
      refine va_iald (f := u_2.2.2.2.2.1) hx hb hK hP 2 0 rfl rfl h.1 d_Md_fractionMemory_210 ?_
      have h := h.2
      refine lv_topi (fun x_5 ex_5 => ?_)
      have h := h x_5 ex_5
      refine zz_Wv (As := [.int (a1 + (4 : Int32)), .int (4 : Int32), .int x_5]) (rest := []) (wc := wD qd qmemory qr qcounts cI cB ms u_2.1 u_2.2.1 u_2.2.2.1 u_2.2.2.2.1 u_2.2.2.2.2.1 u_2.2.2.2.2.2) (wr := []) X hK hP hD hS hA (c_Md_store l D cI cB qd qmemory qr qcounts ms u_2.1 u_2.2.1 u_2.2.2.1 u_2.2.2.2.1 u_2.2.2.2.2.1 u_2.2.2.2.2.2 (a1 + (4 : Int32)) (4 : Int32) x_5 _ h _) ⟨rfl, rfl⟩ m_Md_store k_Md_50 ⟨Nat.le_of_ble_eq_true rfl, Nat.le_of_ble_eq_true rfl⟩ [0, 1, 2, 3] [] rfl rfl (by decide) (by decide) (by decide) 6 0 rfl rfl rfl rfl hl.1 rfl (Nat.le_of_ble_eq_true rfl) d_Md_fractionMemory_211 hf0 (fun u_6 H locs h hP hD hS => ?_)
      have hP : va_P D vwCl (wD qd qmemory qr qcounts cI cB ms u_6.1 u_6.2.1 u_6.2.2.1 u_6.2.2.2.1 u_6.2.2.2.2.1 u_6.2.2.2.2.2) H := hP.sub [0, 1, 2, 3] rfl
      have hD : va_D A (wD qd qmemory qr qcounts cI cB ms u_6.1 u_6.2.1 u_6.2.2.1 u_6.2.2.2.1 u_6.2.2.2.2.1 u_6.2.2.2.2.2) := hD.sub [0, 1, 2, 3] (by decide) rfl
      exact W.vret hx hb hr (fun t ht hW => ⟨⟨(u_6.1, u_6.2.1, u_6.2.2.1, u_6.2.2.2.1, u_6.2.2.2.2.1, u_6.2.2.2.2.2), rfl, h, by rw [ht]; exact hP, hD⟩, hS.F ht⟩) hS.2.2 d_Md_fractionMemory_214
  have jn_139 : ∀ (j139_4 : Int32) (j139_6 : Int32) (s139_1 : Int32) (z139dd : Nat → Int32) (z139Lwhole : Int64) (z139Lwhole2 : Int64) (z139bm : Nat → Int32) (z139rr : Nat → Int32) (z139kt : Nat → Int32), wj_Md_fractionMemory_139 ms a0 a1 a2 P j139_4 j139_6 s139_1 z139dd z139Lwhole z139Lwhole2 z139bm z139rr z139kt → ∀ (H : Heap) (locs : List Loc), va_P D vwCl (wD qd qmemory qr qcounts cI cB ms z139dd z139Lwhole z139Lwhole2 z139bm z139rr z139kt) H → va_D A (wD qd qmemory qr qcounts cI cB ms z139dd z139Lwhole z139Lwhole2 z139bm z139rr z139kt) → va_S A s.heap H locs → ∀ ls : Array Slot, lv_has ls 7 [(0, .ref qd), (2, .int a1), (4, .int j139_4), (6, .int j139_6)] → W p l e (headSpec (zz_ws y_Md_fractionMemory b_Md_fractionMemory 7 none) rm_Md_fractionMemory).room s m ([.ref qd, .int a0, .int a1, .int a2] : List Value).toArray below meth c H locs 0 0 (MQ below (va_Qv P (zz_qw D (fun u => wD qd qmemory qr qcounts cI cB ms u.1 u.2.1 u.2.2.1 u.2.2.2.1 u.2.2.2.2.1 u.2.2.2.2.2) A) A) ([.ref qd, .int a0, .int a1, .int a2] : List Value).toArray s 0 0 A) (F0 m 139 ls [.int s139_1, .ref qr]) := by
    intro j139_4 j139_6 s139_1 z139dd z139Lwhole z139Lwhole2 z139bm z139rr z139kt h H locs hP hD hS ls hl
    unfold wj_Md_fractionMemory_139 at h
    refine lv_aload_n hx hb d_Md_fractionMemory_139 rfl (lv_at hl 0 rfl) ?_
    refine lv_iload_n hx hb d_Md_fractionMemory_140 rfl (lv_at hl 1 rfl) ?_
    refine lv_iconst (v := 4) hx hb d_Md_fractionMemory_141 (by decide) ?_
    refine zz_Ri (As := [.int a1, .int (4 : Int32)]) (rest := [.int s139_1, .ref qr]) (wc := wD qd qmemory qr qcounts cI cB ms z139dd z139Lwhole z139Lwhole2 z139bm z139rr z139kt) X hK hP (c_Md_part l D cI cB qd qmemory qr qcounts ms z139dd z139Lwhole z139Lwhole2 z139bm z139rr z139kt a1 (4 : Int32) _ h) ⟨rfl, rfl⟩ m_Md_part k_Md_46 ⟨Nat.le_of_ble_eq_true rfl, Nat.le_of_ble_eq_true rfl⟩ [0, 1, 2, 3] rfl 6 0 rfl rfl rfl rfl hl.1 rfl (Nat.le_of_ble_eq_true rfl) d_Md_fractionMemory_142 hf0 (fun r_8 h => ?_)
    refine va_iast (f := z139rr) hx hb hK hP hD hS 2 0 rfl rfl h.1 d_Md_fractionMemory_145 (fun H locs (hP : va_P D vwCl (wD qd qmemory qr qcounts cI cB ms z139dd z139Lwhole z139Lwhole2 z139bm (upd z139rr s139_1.toNatClampNeg r_8) z139kt) H) (hD : va_D A (wD qd qmemory qr qcounts cI cB ms z139dd z139Lwhole z139Lwhole2 z139bm (upd z139rr s139_1.toNatClampNeg r_8) z139kt)) hS => ?_)
    have h := h.2
    refine lv_iload hx hb d_Md_fractionMemory_146 (lv_at hl 2 rfl) ?_
    refine lv_if_eq (tgt := 214) hx hb d_Md_fractionMemory_148 (by decide) (fun c_9 => ?_) (fun c_9 => ?_)
    · skip
      have h := h.1 c_9
      exact W.vret hx hb hr (fun t ht hW => ⟨⟨(z139dd, z139Lwhole, z139Lwhole2, z139bm, (upd z139rr s139_1.toNatClampNeg r_8), z139kt), rfl, h, by rw [ht]; exact hP, hD⟩, hS.F ht⟩) hS.2.2 d_Md_fractionMemory_214
    · skip
      have h := h.2 c_9
      refine lv_aload_n hx hb d_Md_fractionMemory_151 rfl (lv_at hl 0 rfl) ?_
      refine g_Md_14 (v := .ref qr) hx hb hT hown hK hP 0 rfl rfl d_Md_fractionMemory_152 ?_
      refine lv_iload hx hb d_Md_fractionMemory_155 (lv_at hl 3 rfl) ?_
      refine lv_aload_n hx hb d_Md_fractionMemory_157 rfl (lv_at hl 0 rfl) ?_
      refine lv_iload_n hx hb d_Md_fractionMemory_158 rfl (lv_at hl 1 rfl) ?_
      refine lv_iconst (v := 4) hx hb d_Md_fractionMemory_159 (by decide) ?_
      refine lv_iadd hx hb d_Md_fractionMemory_160 ?_
      refine lv_iconst (v := 4) hx hb d_Md_fractionMemory_161 (by decide) ?_
      refine zz_Ri (As := [.int (a1 + (4 : Int32)), .int (4 : Int32)]) (rest := [.int j139_6, .ref qr]) (wc := wD qd qmemory qr qcounts cI cB ms z139dd z139Lwhole z139Lwhole2 z139bm (upd z139rr s139_1.toNatClampNeg r_8) z139kt) X hK hP (c_Md_part l D cI cB qd qmemory qr qcounts ms z139dd z139Lwhole z139Lwhole2 z139bm (upd z139rr s139_1.toNatClampNeg r_8) z139kt (a1 + (4 : Int32)) (4 : Int32) _ h) ⟨rfl, rfl⟩ m_Md_part k_Md_46 ⟨Nat.le_of_ble_eq_true rfl, Nat.le_of_ble_eq_true rfl⟩ [0, 1, 2, 3] rfl 6 0 rfl rfl rfl rfl hl.1 rfl (Nat.le_of_ble_eq_true rfl) d_Md_fractionMemory_162 hf0 (fun r_10 h => ?_)
      refine va_iast (f := (upd z139rr s139_1.toNatClampNeg r_8)) hx hb hK hP hD hS 2 0 rfl rfl h.1 d_Md_fractionMemory_165 (fun H locs (hP : va_P D vwCl (wD qd qmemory qr qcounts cI cB ms z139dd z139Lwhole z139Lwhole2 z139bm (upd (upd z139rr s139_1.toNatClampNeg r_8) j139_6.toNatClampNeg r_10) z139kt) H) (hD : va_D A (wD qd qmemory qr qcounts cI cB ms z139dd z139Lwhole z139Lwhole2 z139bm (upd (upd z139rr s139_1.toNatClampNeg r_8) j139_6.toNatClampNeg r_10) z139kt)) hS => ?_)
      have h := h.2
      refine lv_goto (tgt := 214) hx hb d_Md_fractionMemory_166 (by decide) ?_
      exact W.vret hx hb hr (fun t ht hW => ⟨⟨(z139dd, z139Lwhole, z139Lwhole2, z139bm, (upd (upd z139rr s139_1.toNatClampNeg r_8) j139_6.toNatClampNeg r_10), z139kt), rfl, h, by rw [ht]; exact hP, hD⟩, hS.F ht⟩) hS.2.2 d_Md_fractionMemory_214
  have jn_105 : ∀ (j105_4 : Int32) (j105_5 : Int32) (s105_1 : Int32) (z105dd : Nat → Int32) (z105Lwhole : Int64) (z105Lwhole2 : Int64) (z105bm : Nat → Int32) (z105rr : Nat → Int32) (z105kt : Nat → Int32), wj_Md_fractionMemory_105 ms a0 a1 a2 P j105_4 j105_5 s105_1 z105dd z105Lwhole z105Lwhole2 z105bm z105rr z105kt → ∀ (H : Heap) (locs : List Loc), va_P D vwCl (wD qd qmemory qr qcounts cI cB ms z105dd z105Lwhole z105Lwhole2 z105bm z105rr z105kt) H → va_D A (wD qd qmemory qr qcounts cI cB ms z105dd z105Lwhole z105Lwhole2 z105bm z105rr z105kt) → va_S A s.heap H locs → ∀ ls : Array Slot, lv_has ls 7 [(0, .ref qd), (2, .int a1), (3, .int a2), (4, .int j105_4), (5, .int j105_5)] → W p l e (headSpec (zz_ws y_Md_fractionMemory b_Md_fractionMemory 7 none) rm_Md_fractionMemory).room s m ([.ref qd, .int a0, .int a1, .int a2] : List Value).toArray below meth c H locs 0 0 (MQ below (va_Qv P (zz_qw D (fun u => wD qd qmemory qr qcounts cI cB ms u.1 u.2.1 u.2.2.1 u.2.2.2.1 u.2.2.2.2.1 u.2.2.2.2.2) A) A) ([.ref qd, .int a0, .int a1, .int a2] : List Value).toArray s 0 0 A) (F0 m 105 ls [.int s105_1, .ref qcounts]) := by
    intro j105_4 j105_5 s105_1 z105dd z105Lwhole z105Lwhole2 z105bm z105rr z105kt h H locs hP hD hS ls hl
    unfold wj_Md_fractionMemory_105 at h
    refine lv_dup2_11 hx hb d_Md_fractionMemory_105 rfl rfl ?_
    refine va_iald (f := z105kt) hx hb hK hP 3 0 rfl rfl h.1 d_Md_fractionMemory_106 ?_
    have h := h.2
    refine lv_topi (fun x_11 ex_11 => ?_)
    have h := h x_11 ex_11
    refine lv_iconst (v := 1) hx hb d_Md_fractionMemory_107 (by decide) ?_
    refine lv_iadd hx hb d_Md_fractionMemory_108 ?_
    refine va_iast (f := z105kt) hx hb hK hP hD hS 3 0 rfl rfl h.1 d_Md_fractionMemory_109 (fun H locs (hP : va_P D vwCl (wD qd qmemory qr qcounts cI cB ms z105dd z105Lwhole z105Lwhole2 z105bm z105rr (upd z105kt s105_1.toNatClampNeg (x_11 + (1 : Int32)))) H) (hD : va_D A (wD qd qmemory qr qcounts cI cB ms z105dd z105Lwhole z105Lwhole2 z105bm z105rr (upd z105kt s105_1.toNatClampNeg (x_11 + (1 : Int32))))) hS => ?_)
    have h := h.2
    refine lv_bipush (v := 34) hx hb d_Md_fractionMemory_110 (by decide) ?_
    refine lv_iload_n hx hb d_Md_fractionMemory_112 rfl (lv_at hl 2 rfl) ?_
    refine lv_iadd hx hb d_Md_fractionMemory_113 ?_
    refine lv_topi (fun x_12 ex_12 => ?_)
    have h := h x_12 ex_12
    refine lv_istore (lv' := [(6, .int x_12), (0, .ref qd), (2, .int a1), (3, .int a2), (4, .int j105_4), (5, .int j105_5)]) hx hb d_Md_fractionMemory_114 hl (by decide) rfl (fun ls hl => ?_)
    refine lv_iload hx hb d_Md_fractionMemory_116 (lv_at hl 5 rfl) ?_
    refine lv_if_eq (tgt := 169) hx hb d_Md_fractionMemory_118 (by decide) (fun c_13 => ?_) (fun c_13 => ?_)
    · skip
      have h := h.1 c_13
      refine lv_aload_n hx hb d_Md_fractionMemory_169 rfl (lv_at hl 1 rfl) ?_
      refine lv_iload_n hx hb d_Md_fractionMemory_170 rfl (lv_at hl 2 rfl) ?_
      refine lv_iconst (v := 4) hx hb d_Md_fractionMemory_171 (by decide) ?_
      refine lv_aload_n hx hb d_Md_fractionMemory_172 rfl (lv_at hl 1 rfl) ?_
      refine g_Md_14 (v := .ref qr) hx hb hT hown hK hP 0 rfl rfl d_Md_fractionMemory_173 ?_
      refine lv_iload hx hb d_Md_fractionMemory_176 (lv_at hl 4 rfl) ?_
      refine lv_if_eq (tgt := 188) hx hb d_Md_fractionMemory_178 (by decide) (fun c_14 => ?_) (fun c_14 => ?_)
      · skip
        have h := h.1 c_14
        refine lv_iload hx hb d_Md_fractionMemory_188 (lv_at hl 0 rfl) ?_
        exact jn_190 j105_4 x_12 a1 (4 : Int32) x_12 z105dd z105Lwhole z105Lwhole2 z105bm z105rr (upd z105kt s105_1.toNatClampNeg (x_11 + (1 : Int32))) h _ _ hP hD hS ls (lv_sub hl [1, 2, 4, 0] rfl)
      · skip
        have h := h.2 c_14
        refine lv_iload hx hb d_Md_fractionMemory_181 (lv_at hl 0 rfl) ?_
        refine lv_iconst (v := 1) hx hb d_Md_fractionMemory_183 (by decide) ?_
        refine lv_iadd hx hb d_Md_fractionMemory_184 ?_
        refine lv_goto (tgt := 190) hx hb d_Md_fractionMemory_185 (by decide) ?_
        exact jn_190 j105_4 x_12 a1 (4 : Int32) (x_12 + (1 : Int32)) z105dd z105Lwhole z105Lwhole2 z105bm z105rr (upd z105kt s105_1.toNatClampNeg (x_11 + (1 : Int32))) h _ _ hP hD hS ls (lv_sub hl [1, 2, 4, 0] rfl)
    · skip
      have h := h.2 c_13
      refine lv_aload_n hx hb d_Md_fractionMemory_121 rfl (lv_at hl 1 rfl) ?_
      refine g_Md_14 (v := .ref qr) hx hb hT hown hK hP 0 rfl rfl d_Md_fractionMemory_122 ?_
      refine lv_iload hx hb d_Md_fractionMemory_125 (lv_at hl 4 rfl) ?_
      refine lv_if_eq (tgt := 137) hx hb d_Md_fractionMemory_127 (by decide) (fun c_15 => ?_) (fun c_15 => ?_)
      · skip
        have h := h.1 c_15
        refine lv_iload hx hb d_Md_fractionMemory_137 (lv_at hl 0 rfl) ?_
        exact jn_139 j105_4 x_12 x_12 z105dd z105Lwhole z105Lwhole2 z105bm z105rr (upd z105kt s105_1.toNatClampNeg (x_11 + (1 : Int32))) h _ _ hP hD hS ls (lv_sub hl [1, 2, 4, 0] rfl)
      · skip
        have h := h.2 c_15
        refine lv_iload hx hb d_Md_fractionMemory_130 (lv_at hl 0 rfl) ?_
        refine lv_iconst (v := 1) hx hb d_Md_fractionMemory_132 (by decide) ?_
        refine lv_iadd hx hb d_Md_fractionMemory_133 ?_
        refine lv_goto (tgt := 139) hx hb d_Md_fractionMemory_134 (by decide) ?_
        exact jn_139 j105_4 x_12 (x_12 + (1 : Int32)) z105dd z105Lwhole z105Lwhole2 z105bm z105rr (upd z105kt s105_1.toNatClampNeg (x_11 + (1 : Int32))) h _ _ hP hD hS ls (lv_sub hl [1, 2, 4, 0] rfl)
  have jn_83 : ∀ (j83_4 : Int32) (j83_5 : Int32) (z83dd : Nat → Int32) (z83Lwhole : Int64) (z83Lwhole2 : Int64) (z83bm : Nat → Int32) (z83rr : Nat → Int32) (z83kt : Nat → Int32), wj_Md_fractionMemory_83 ms a0 a1 a2 P j83_4 j83_5 z83dd z83Lwhole z83Lwhole2 z83bm z83rr z83kt → ∀ (H : Heap) (locs : List Loc), va_P D vwCl (wD qd qmemory qr qcounts cI cB ms z83dd z83Lwhole z83Lwhole2 z83bm z83rr z83kt) H → va_D A (wD qd qmemory qr qcounts cI cB ms z83dd z83Lwhole z83Lwhole2 z83bm z83rr z83kt) → va_S A s.heap H locs → ∀ ls : Array Slot, lv_has ls 7 [(0, .ref qd), (2, .int a1), (3, .int a2), (4, .int j83_4), (5, .int j83_5)] → W p l e (headSpec (zz_ws y_Md_fractionMemory b_Md_fractionMemory 7 none) rm_Md_fractionMemory).room s m ([.ref qd, .int a0, .int a1, .int a2] : List Value).toArray below meth c H locs 0 0 (MQ below (va_Qv P (zz_qw D (fun u => wD qd qmemory qr qcounts cI cB ms u.1 u.2.1 u.2.2.1 u.2.2.2.1 u.2.2.2.2.1 u.2.2.2.2.2) A) A) ([.ref qd, .int a0, .int a1, .int a2] : List Value).toArray s 0 0 A) (F0 m 83 ls []) := by
    intro j83_4 j83_5 z83dd z83Lwhole z83Lwhole2 z83bm z83rr z83kt h H locs hP hD hS ls hl
    unfold wj_Md_fractionMemory_83 at h
    refine lv_aload_n hx hb d_Md_fractionMemory_83 rfl (lv_at hl 0 rfl) ?_
    refine g_Md_63 (v := .int (z83dd 5)) hx hb hT hown hK hP 0 rfl rfl d_Md_fractionMemory_84 ?_
    refine lv_if_le (tgt := 91) hx hb d_Md_fractionMemory_87 (by decide) (fun c_16 => ?_) (fun c_16 => ?_)
    · skip
      have h := h.1 c_16
      refine lv_aload_n hx hb d_Md_fractionMemory_91 rfl (lv_at hl 0 rfl) ?_
      refine g_Md_29 (v := .ref qcounts) hx hb hT hown hK hP 0 rfl rfl d_Md_fractionMemory_92 ?_
      refine lv_iload hx hb d_Md_fractionMemory_95 (lv_at hl 4 rfl) ?_
      refine lv_if_eq (tgt := 104) hx hb d_Md_fractionMemory_97 (by decide) (fun c_17 => ?_) (fun c_17 => ?_)
      · skip
        have h := h.1 c_17
        refine lv_iconst (v := 2) hx hb d_Md_fractionMemory_104 (by decide) ?_
        exact jn_105 j83_4 j83_5 (2 : Int32) z83dd z83Lwhole z83Lwhole2 z83bm z83rr z83kt h _ _ hP hD hS ls (lv_sub hl [0, 1, 2, 3, 4] rfl)
      · skip
        have h := h.2 c_17
        refine lv_iconst (v := 1) hx hb d_Md_fractionMemory_100 (by decide) ?_
        refine lv_goto (tgt := 105) hx hb d_Md_fractionMemory_101 (by decide) ?_
        exact jn_105 j83_4 j83_5 (1 : Int32) z83dd z83Lwhole z83Lwhole2 z83bm z83rr z83kt h _ _ hP hD hS ls (lv_sub hl [0, 1, 2, 3, 4] rfl)
    · skip
      have h := h.2 c_16
      exact W.vret hx hb hr (fun t ht hW => ⟨⟨(z83dd, z83Lwhole, z83Lwhole2, z83bm, z83rr, z83kt), rfl, h, by rw [ht]; exact hP, hD⟩, hS.F ht⟩) hS.2.2 d_Md_fractionMemory_90
  have jn_80 : ∀ (j80_4 : Int32) (j80_5 : Int32) (s80_1 : Int32) (z80dd : Nat → Int32) (z80Lwhole : Int64) (z80Lwhole2 : Int64) (z80bm : Nat → Int32) (z80rr : Nat → Int32) (z80kt : Nat → Int32), wj_Md_fractionMemory_80 ms a0 a1 a2 P j80_4 j80_5 s80_1 z80dd z80Lwhole z80Lwhole2 z80bm z80rr z80kt → ∀ (H : Heap) (locs : List Loc), va_P D vwCl (wD qd qmemory qr qcounts cI cB ms z80dd z80Lwhole z80Lwhole2 z80bm z80rr z80kt) H → va_D A (wD qd qmemory qr qcounts cI cB ms z80dd z80Lwhole z80Lwhole2 z80bm z80rr z80kt) → va_S A s.heap H locs → ∀ ls : Array Slot, lv_has ls 7 [(0, .ref qd), (2, .int a1), (3, .int a2), (4, .int j80_4), (5, .int j80_5)] → W p l e (headSpec (zz_ws y_Md_fractionMemory b_Md_fractionMemory 7 none) rm_Md_fractionMemory).room s m ([.ref qd, .int a0, .int a1, .int a2] : List Value).toArray below meth c H locs 0 0 (MQ below (va_Qv P (zz_qw D (fun u => wD qd qmemory qr qcounts cI cB ms u.1 u.2.1 u.2.2.1 u.2.2.2.1 u.2.2.2.2.1 u.2.2.2.2.2) A) A) ([.ref qd, .int a0, .int a1, .int a2] : List Value).toArray s 0 0 A) (F0 m 80 ls [.int s80_1, .ref qd]) := by
    intro j80_4 j80_5 s80_1 z80dd z80Lwhole z80Lwhole2 z80bm z80rr z80kt h H locs hP hD hS ls hl
    unfold wj_Md_fractionMemory_80 at h
    refine zz_Wv (As := [.int s80_1]) (rest := []) (wc := wD qd qmemory qr qcounts cI cB ms z80dd z80Lwhole z80Lwhole2 z80bm z80rr z80kt) (wr := []) X hK hP hD hS hA (c_Md_ends l D cI cB qd qmemory qr qcounts ms z80dd z80Lwhole z80Lwhole2 z80bm z80rr z80kt s80_1 _ h _) ⟨rfl, rfl⟩ m_Md_ends k_Md_116 ⟨Nat.le_of_ble_eq_true rfl, Nat.le_of_ble_eq_true rfl⟩ [0, 1, 2, 3] [] rfl rfl (by decide) (by decide) (by decide) 6 0 rfl rfl rfl rfl hl.1 rfl (Nat.le_of_ble_eq_true rfl) d_Md_fractionMemory_80 hf0 (fun u_18 H locs h hP hD hS => ?_)
    have hP : va_P D vwCl (wD qd qmemory qr qcounts cI cB ms u_18.1 u_18.2.1 u_18.2.2.1 u_18.2.2.2.1 u_18.2.2.2.2.1 u_18.2.2.2.2.2) H := hP.sub [0, 1, 2, 3] rfl
    have hD : va_D A (wD qd qmemory qr qcounts cI cB ms u_18.1 u_18.2.1 u_18.2.2.1 u_18.2.2.2.1 u_18.2.2.2.2.1 u_18.2.2.2.2.2) := hD.sub [0, 1, 2, 3] (by decide) rfl
    exact jn_83 j80_4 j80_5 u_18.1 u_18.2.1 u_18.2.2.1 u_18.2.2.2.1 u_18.2.2.2.2.1 u_18.2.2.2.2.2 h _ _ hP hD hS ls (lv_sub hl [0, 1, 2, 3, 4] rfl)
  have jn_63 : ∀ (j63_4 : Int32) (j63_5 : Int32) (s63_1 : Int32) (s63_2 : Int32) (z63dd : Nat → Int32) (z63Lwhole : Int64) (z63Lwhole2 : Int64) (z63bm : Nat → Int32) (z63rr : Nat → Int32) (z63kt : Nat → Int32), wj_Md_fractionMemory_63 ms a0 a1 a2 P j63_4 j63_5 s63_1 s63_2 z63dd z63Lwhole z63Lwhole2 z63bm z63rr z63kt → ∀ (H : Heap) (locs : List Loc), va_P D vwCl (wD qd qmemory qr qcounts cI cB ms z63dd z63Lwhole z63Lwhole2 z63bm z63rr z63kt) H → va_D A (wD qd qmemory qr qcounts cI cB ms z63dd z63Lwhole z63Lwhole2 z63bm z63rr z63kt) → va_S A s.heap H locs → ∀ ls : Array Slot, lv_has ls 7 [(0, .ref qd), (2, .int a1), (3, .int a2), (4, .int j63_4), (5, .int j63_5)] → W p l e (headSpec (zz_ws y_Md_fractionMemory b_Md_fractionMemory 7 none) rm_Md_fractionMemory).room s m ([.ref qd, .int a0, .int a1, .int a2] : List Value).toArray below meth c H locs 0 0 (MQ below (va_Qv P (zz_qw D (fun u => wD qd qmemory qr qcounts cI cB ms u.1 u.2.1 u.2.2.1 u.2.2.2.1 u.2.2.2.2.1 u.2.2.2.2.2) A) A) ([.ref qd, .int a0, .int a1, .int a2] : List Value).toArray s 0 0 A) (F0 m 63 ls [.int s63_2, .int s63_1, .ref qd]) := by
    intro j63_4 j63_5 s63_1 s63_2 z63dd z63Lwhole z63Lwhole2 z63bm z63rr z63kt h H locs hP hD hS ls hl
    unfold wj_Md_fractionMemory_63 at h
    refine zz_Ri (As := [.int s63_1, .int s63_2]) (rest := []) (wc := wD qd qmemory qr qcounts cI cB ms z63dd z63Lwhole z63Lwhole2 z63bm z63rr z63kt) X hK hP (c_Md_good l D cI cB qd qmemory qr qcounts ms z63dd z63Lwhole z63Lwhole2 z63bm z63rr z63kt s63_1 s63_2 _ h) ⟨rfl, rfl⟩ m_Md_good k_Md_38 ⟨Nat.le_of_ble_eq_true rfl, Nat.le_of_ble_eq_true rfl⟩ [0, 1, 2, 3] rfl 6 0 rfl rfl rfl rfl hl.1 rfl (Nat.le_of_ble_eq_true rfl) d_Md_fractionMemory_63 hf0 (fun r_20 h => ?_)
    refine lv_if_ne (tgt := 83) hx hb d_Md_fractionMemory_66 (by decide) (fun c_21 => ?_) (fun c_21 => ?_)
    · skip
      have h := h.2 c_21
      exact jn_83 j63_4 j63_5 z63dd z63Lwhole z63Lwhole2 z63bm z63rr z63kt h _ _ hP hD hS ls (lv_sub hl [0, 1, 2, 3, 4] rfl)
    · skip
      have h := h.1 c_21
      refine lv_aload_n hx hb d_Md_fractionMemory_69 rfl (lv_at hl 0 rfl) ?_
      refine lv_iload hx hb d_Md_fractionMemory_70 (lv_at hl 4 rfl) ?_
      refine lv_if_eq (tgt := 79) hx hb d_Md_fractionMemory_72 (by decide) (fun c_22 => ?_) (fun c_22 => ?_)
      · skip
        have h := h.1 c_22
        refine lv_iconst (v := 2) hx hb d_Md_fractionMemory_79 (by decide) ?_
        exact jn_80 j63_4 j63_5 (2 : Int32) z63dd z63Lwhole z63Lwhole2 z63bm z63rr z63kt h _ _ hP hD hS ls (lv_sub hl [0, 1, 2, 3, 4] rfl)
      · skip
        have h := h.2 c_22
        refine lv_iconst (v := 1) hx hb d_Md_fractionMemory_75 (by decide) ?_
        refine lv_goto (tgt := 80) hx hb d_Md_fractionMemory_76 (by decide) ?_
        exact jn_80 j63_4 j63_5 (1 : Int32) z63dd z63Lwhole z63Lwhole2 z63bm z63rr z63kt h _ _ hP hD hS ls (lv_sub hl [0, 1, 2, 3, 4] rfl)
  have jn_50 : ∀ (j50_4 : Int32) (j50_5 : Int32) (z50dd : Nat → Int32) (z50Lwhole : Int64) (z50Lwhole2 : Int64) (z50bm : Nat → Int32) (z50rr : Nat → Int32) (z50kt : Nat → Int32), wj_Md_fractionMemory_50 ms a0 a1 a2 P j50_4 j50_5 z50dd z50Lwhole z50Lwhole2 z50bm z50rr z50kt → ∀ (H : Heap) (locs : List Loc), va_P D vwCl (wD qd qmemory qr qcounts cI cB ms z50dd z50Lwhole z50Lwhole2 z50bm z50rr z50kt) H → va_D A (wD qd qmemory qr qcounts cI cB ms z50dd z50Lwhole z50Lwhole2 z50bm z50rr z50kt) → va_S A s.heap H locs → ∀ ls : Array Slot, lv_has ls 7 [(0, .ref qd), (2, .int a1), (3, .int a2), (4, .int j50_4), (5, .int j50_5)] → W p l e (headSpec (zz_ws y_Md_fractionMemory b_Md_fractionMemory 7 none) rm_Md_fractionMemory).room s m ([.ref qd, .int a0, .int a1, .int a2] : List Value).toArray below meth c H locs 0 0 (MQ below (va_Qv P (zz_qw D (fun u => wD qd qmemory qr qcounts cI cB ms u.1 u.2.1 u.2.2.1 u.2.2.2.1 u.2.2.2.2.1 u.2.2.2.2.2) A) A) ([.ref qd, .int a0, .int a1, .int a2] : List Value).toArray s 0 0 A) (F0 m 50 ls []) := by
    intro j50_4 j50_5 z50dd z50Lwhole z50Lwhole2 z50bm z50rr z50kt h H locs hP hD hS ls hl
    unfold wj_Md_fractionMemory_50 at h
    refine lv_aload_n hx hb d_Md_fractionMemory_50 rfl (lv_at hl 0 rfl) ?_
    refine lv_iload_n hx hb d_Md_fractionMemory_51 rfl (lv_at hl 1 rfl) ?_
    refine lv_iload hx hb d_Md_fractionMemory_52 (lv_at hl 3 rfl) ?_
    refine lv_if_eq (tgt := 62) hx hb d_Md_fractionMemory_54 (by decide) (fun c_23 => ?_) (fun c_23 => ?_)
    · skip
      have h := h.1 c_23
      refine lv_iconst (v := 4) hx hb d_Md_fractionMemory_62 (by decide) ?_
      exact jn_63 j50_4 j50_5 a1 (4 : Int32) z50dd z50Lwhole z50Lwhole2 z50bm z50rr z50kt h _ _ hP hD hS ls (lv_sub hl [0, 1, 2, 3, 4] rfl)
    · skip
      have h := h.2 c_23
      refine lv_bipush (v := 8) hx hb d_Md_fractionMemory_57 (by decide) ?_
      refine lv_goto (tgt := 63) hx hb d_Md_fractionMemory_59 (by decide) ?_
      exact jn_63 j50_4 j50_5 a1 (8 : Int32) z50dd z50Lwhole z50Lwhole2 z50bm z50rr z50kt h _ _ hP hD hS ls (lv_sub hl [0, 1, 2, 3, 4] rfl)
  have jn_30 : ∀ (j30_4 : Int32) (s30_0 : Int32) (z30dd : Nat → Int32) (z30Lwhole : Int64) (z30Lwhole2 : Int64) (z30bm : Nat → Int32) (z30rr : Nat → Int32) (z30kt : Nat → Int32), wj_Md_fractionMemory_30 ms a0 a1 a2 P j30_4 s30_0 z30dd z30Lwhole z30Lwhole2 z30bm z30rr z30kt → ∀ (H : Heap) (locs : List Loc), va_P D vwCl (wD qd qmemory qr qcounts cI cB ms z30dd z30Lwhole z30Lwhole2 z30bm z30rr z30kt) H → va_D A (wD qd qmemory qr qcounts cI cB ms z30dd z30Lwhole z30Lwhole2 z30bm z30rr z30kt) → va_S A s.heap H locs → ∀ ls : Array Slot, lv_has ls 7 [(0, .ref qd), (2, .int a1), (3, .int a2), (4, .int j30_4)] → W p l e (headSpec (zz_ws y_Md_fractionMemory b_Md_fractionMemory 7 none) rm_Md_fractionMemory).room s m ([.ref qd, .int a0, .int a1, .int a2] : List Value).toArray below meth c H locs 0 0 (MQ below (va_Qv P (zz_qw D (fun u => wD qd qmemory qr qcounts cI cB ms u.1 u.2.1 u.2.2.1 u.2.2.2.1 u.2.2.2.2.1 u.2.2.2.2.2) A) A) ([.ref qd, .int a0, .int a1, .int a2] : List Value).toArray s 0 0 A) (F0 m 30 ls [.int s30_0]) := by
    intro j30_4 s30_0 z30dd z30Lwhole z30Lwhole2 z30bm z30rr z30kt h H locs hP hD hS ls hl
    unfold wj_Md_fractionMemory_30 at h
    refine lv_istore (lv' := [(5, .int s30_0), (0, .ref qd), (2, .int a1), (3, .int a2), (4, .int j30_4)]) hx hb d_Md_fractionMemory_30 hl (by decide) rfl (fun ls hl => ?_)
    refine lv_iload hx hb d_Md_fractionMemory_32 (lv_at hl 4 rfl) ?_
    refine lv_if_eq (tgt := 50) hx hb d_Md_fractionMemory_34 (by decide) (fun c_24 => ?_) (fun c_24 => ?_)
    · skip
      have h := h.1 c_24
      exact jn_50 j30_4 s30_0 z30dd z30Lwhole z30Lwhole2 z30bm z30rr z30kt h _ _ hP hD hS ls (lv_sub hl [1, 2, 3, 4, 0] rfl)
    · skip
      have h := h.2 c_24
      refine lv_iload_n hx hb d_Md_fractionMemory_37 rfl (lv_at hl 3 rfl) ?_
      refine lv_iconst (v := 1) hx hb d_Md_fractionMemory_38 (by decide) ?_
      refine lv_iand hx hb d_Md_fractionMemory_39 ?_
      refine lv_iconst (v := 1) hx hb d_Md_fractionMemory_40 (by decide) ?_
      refine lv_icmp_ne (tgt := 50) hx hb d_Md_fractionMemory_41 (by decide) (fun c_25 => ?_) (fun c_25 => ?_)
      · skip
        have h := h.2 c_25
        exact jn_50 j30_4 s30_0 z30dd z30Lwhole z30Lwhole2 z30bm z30rr z30kt h _ _ hP hD hS ls (lv_sub hl [1, 2, 3, 4, 0] rfl)
      · skip
        have h := h.1 c_25
        refine lv_aload_n hx hb d_Md_fractionMemory_44 rfl (lv_at hl 1 rfl) ?_
        refine lv_bipush (v := 8) hx hb d_Md_fractionMemory_45 (by decide) ?_
        refine zz_Wv (As := [.int (8 : Int32)]) (rest := []) (wc := wD qd qmemory qr qcounts cI cB ms z30dd z30Lwhole z30Lwhole2 z30bm z30rr z30kt) (wr := []) X hK hP hD hS hA (c_Md_ends l D cI cB qd qmemory qr qcounts ms z30dd z30Lwhole z30Lwhole2 z30bm z30rr z30kt (8 : Int32) _ h _) ⟨rfl, rfl⟩ m_Md_ends k_Md_116 ⟨Nat.le_of_ble_eq_true rfl, Nat.le_of_ble_eq_true rfl⟩ [0, 1, 2, 3] [] rfl rfl (by decide) (by decide) (by decide) 6 0 rfl rfl rfl rfl hl.1 rfl (Nat.le_of_ble_eq_true rfl) d_Md_fractionMemory_47 hf0 (fun u_26 H locs h hP hD hS => ?_)
        have hP : va_P D vwCl (wD qd qmemory qr qcounts cI cB ms u_26.1 u_26.2.1 u_26.2.2.1 u_26.2.2.2.1 u_26.2.2.2.2.1 u_26.2.2.2.2.2) H := hP.sub [0, 1, 2, 3] rfl
        have hD : va_D A (wD qd qmemory qr qcounts cI cB ms u_26.1 u_26.2.1 u_26.2.2.1 u_26.2.2.2.1 u_26.2.2.2.2.1 u_26.2.2.2.2.2) := hD.sub [0, 1, 2, 3] (by decide) rfl
        exact jn_50 j30_4 s30_0 u_26.1 u_26.2.1 u_26.2.2.1 u_26.2.2.2.1 u_26.2.2.2.2.1 u_26.2.2.2.2.2 h _ _ hP hD hS ls (lv_sub hl [1, 2, 3, 4, 0] rfl)
  have jn_17 : ∀ (s17_0 : Int32) (z17dd : Nat → Int32) (z17Lwhole : Int64) (z17Lwhole2 : Int64) (z17bm : Nat → Int32) (z17rr : Nat → Int32) (z17kt : Nat → Int32), wj_Md_fractionMemory_17 ms a0 a1 a2 P s17_0 z17dd z17Lwhole z17Lwhole2 z17bm z17rr z17kt → ∀ (H : Heap) (locs : List Loc), va_P D vwCl (wD qd qmemory qr qcounts cI cB ms z17dd z17Lwhole z17Lwhole2 z17bm z17rr z17kt) H → va_D A (wD qd qmemory qr qcounts cI cB ms z17dd z17Lwhole z17Lwhole2 z17bm z17rr z17kt) → va_S A s.heap H locs → ∀ ls : Array Slot, lv_has ls 7 [(0, .ref qd), (1, .int a0), (2, .int a1), (3, .int a2)] → W p l e (headSpec (zz_ws y_Md_fractionMemory b_Md_fractionMemory 7 none) rm_Md_fractionMemory).room s m ([.ref qd, .int a0, .int a1, .int a2] : List Value).toArray below meth c H locs 0 0 (MQ below (va_Qv P (zz_qw D (fun u => wD qd qmemory qr qcounts cI cB ms u.1 u.2.1 u.2.2.1 u.2.2.2.1 u.2.2.2.2.1 u.2.2.2.2.2) A) A) ([.ref qd, .int a0, .int a1, .int a2] : List Value).toArray s 0 0 A) (F0 m 17 ls [.int s17_0]) := by
    intro s17_0 z17dd z17Lwhole z17Lwhole2 z17bm z17rr z17kt h H locs hP hD hS ls hl
    unfold wj_Md_fractionMemory_17 at h
    refine lv_istore (lv' := [(4, .int s17_0), (0, .ref qd), (1, .int a0), (2, .int a1), (3, .int a2)]) hx hb d_Md_fractionMemory_17 hl (by decide) rfl (fun ls hl => ?_)
    refine lv_iload_n hx hb d_Md_fractionMemory_19 rfl (lv_at hl 2 rfl) ?_
    refine lv_bipush (v := 56) hx hb d_Md_fractionMemory_20 (by decide) ?_
    refine lv_icmp_ge (tgt := 29) hx hb d_Md_fractionMemory_22 (by decide) (fun c_28 => ?_) (fun c_28 => ?_)
    · skip
      have h := h.1 c_28
      refine lv_iconst (v := 0) hx hb d_Md_fractionMemory_29 (by decide) ?_
      exact jn_30 s17_0 (0 : Int32) z17dd z17Lwhole z17Lwhole2 z17bm z17rr z17kt h _ _ hP hD hS ls (lv_sub hl [1, 3, 4, 0] rfl)
    · skip
      have h := h.2 c_28
      refine lv_iconst (v := 1) hx hb d_Md_fractionMemory_25 (by decide) ?_
      refine lv_goto (tgt := 30) hx hb d_Md_fractionMemory_26 (by decide) ?_
      exact jn_30 s17_0 (1 : Int32) z17dd z17Lwhole z17Lwhole2 z17bm z17rr z17kt h _ _ hP hD hS ls (lv_sub hl [1, 3, 4, 0] rfl)
  have jn_12 : ∀ (z12dd : Nat → Int32) (z12Lwhole : Int64) (z12Lwhole2 : Int64) (z12bm : Nat → Int32) (z12rr : Nat → Int32) (z12kt : Nat → Int32), wj_Md_fractionMemory_12 ms a0 a1 a2 P z12dd z12Lwhole z12Lwhole2 z12bm z12rr z12kt → ∀ (H : Heap) (locs : List Loc), va_P D vwCl (wD qd qmemory qr qcounts cI cB ms z12dd z12Lwhole z12Lwhole2 z12bm z12rr z12kt) H → va_D A (wD qd qmemory qr qcounts cI cB ms z12dd z12Lwhole z12Lwhole2 z12bm z12rr z12kt) → va_S A s.heap H locs → ∀ ls : Array Slot, lv_has ls 7 [(0, .ref qd), (1, .int a0), (2, .int a1), (3, .int a2)] → W p l e (headSpec (zz_ws y_Md_fractionMemory b_Md_fractionMemory 7 none) rm_Md_fractionMemory).room s m ([.ref qd, .int a0, .int a1, .int a2] : List Value).toArray below meth c H locs 0 0 (MQ below (va_Qv P (zz_qw D (fun u => wD qd qmemory qr qcounts cI cB ms u.1 u.2.1 u.2.2.1 u.2.2.2.1 u.2.2.2.2.1 u.2.2.2.2.2) A) A) ([.ref qd, .int a0, .int a1, .int a2] : List Value).toArray s 0 0 A) (F0 m 12 ls []) := by
    intro z12dd z12Lwhole z12Lwhole2 z12bm z12rr z12kt h H locs hP hD hS ls hl
    unfold wj_Md_fractionMemory_12 at h
    refine lv_iconst (v := 1) hx hb d_Md_fractionMemory_12 (by decide) ?_
    refine lv_goto (tgt := 17) hx hb d_Md_fractionMemory_13 (by decide) ?_
    exact jn_17 (1 : Int32) z12dd z12Lwhole z12Lwhole2 z12bm z12rr z12kt h _ _ hP hD hS ls (lv_sub hl [0, 1, 2, 3] rfl)
  refine lv_iload_n hx hb d_Md_fractionMemory_0 rfl (lv_at hl 1 rfl) ?_
  refine lv_bipush (v := 53) hx hb d_Md_fractionMemory_1 (by decide) ?_
  refine lv_icmp_eq (tgt := 12) hx hb d_Md_fractionMemory_3 (by decide) (fun c_29 => ?_) (fun c_29 => ?_)
  · skip
    have h := h.1 c_29
    exact jn_12 dd Lwhole Lwhole2 bm rr kt h _ _ hP hD hS ls (lv_sub hl [0, 1, 2, 3] rfl)
  · skip
    have h := h.2 c_29
    refine lv_iload_n hx hb d_Md_fractionMemory_6 rfl (lv_at hl 1 rfl) ?_
    refine lv_bipush (v := 61) hx hb d_Md_fractionMemory_7 (by decide) ?_
    refine lv_icmp_ne (tgt := 16) hx hb d_Md_fractionMemory_9 (by decide) (fun c_30 => ?_) (fun c_30 => ?_)
    · skip
      have h := h.2 c_30
      refine lv_iconst (v := 0) hx hb d_Md_fractionMemory_16 (by decide) ?_
      exact jn_17 (0 : Int32) dd Lwhole Lwhole2 bm rr kt h _ _ hP hD hS ls (lv_sub hl [0, 1, 2, 3] rfl)
    · skip
      have h := h.1 c_30
      exact jn_12 dd Lwhole Lwhole2 bm rr kt h _ _ hP hD hS ls (lv_sub hl [0, 1, 2, 3] rfl)
def wj_Md_loads_56 (ms : Int32) (a0 : Int32) (a1 : Int32) (a2 : Int32) (P : ((Nat → Int32) × Int64 × Int64 × (Nat → Int32) × (Nat → Int32) × (Nat → Int32)) → Prop) (j56_4 : Int32) (z56dd : Nat → Int32) (z56Lwhole : Int64) (z56Lwhole2 : Int64) (z56bm : Nat → Int32) (z56rr : Nat → Int32) (z56kt : Nat → Int32) : Prop := (((z56dd 5) ≤ (0 : Int32) → vp_in (1 : Int32) 5 ∧ ∀ x_2 : Int32, x_2 = (z56kt (1 : Int32).toNatClampNeg) → vp_in (1 : Int32) 5 ∧ ∀ x_3 : Int32, x_3 = ((8 : Int32) * (a1 &&& (3 : Int32))) → wp_Md_part ms z56dd z56Lwhole z56Lwhole2 z56bm z56rr (upd z56kt (1 : Int32).toNatClampNeg (x_2 + (1 : Int32))) (a1 &&& (-4 : Int32)) (4 : Int32) (fun r_4 => vp_in a2 67 ∧ ∀ x_5 : Int32, x_5 = (z56rr a2.toNatClampNeg) → (((a0 = (32 : Int32)) → wp_Md_part ms z56dd z56Lwhole z56Lwhole2 z56bm z56rr (upd z56kt (1 : Int32).toNatClampNeg (x_2 + (1 : Int32))) a1 (1 : Int32) (fun r_7 => ∀ x_8 : Int32, x_8 = (zz_shr (zz_shl r_7 (24 : Int32)) (24 : Int32)) → wp_Md_into ms z56dd z56Lwhole z56Lwhole2 z56bm z56rr (upd z56kt (1 : Int32).toNatClampNeg (x_2 + (1 : Int32))) a2 x_8 (fun u_9 => P (u_9.1, u_9.2.1, u_9.2.2.1, u_9.2.2.2.1, u_9.2.2.2.2.1, u_9.2.2.2.2.2)))) ∧ (¬ (a0 = (32 : Int32)) → (((a0 = (33 : Int32)) → wp_Md_part ms z56dd z56Lwhole z56Lwhole2 z56bm z56rr (upd z56kt (1 : Int32).toNatClampNeg (x_2 + (1 : Int32))) a1 (2 : Int32) (fun r_12 => ∀ x_13 : Int32, x_13 = (zz_shr (zz_shl r_12 (16 : Int32)) (16 : Int32)) → wp_Md_into ms z56dd z56Lwhole z56Lwhole2 z56bm z56rr (upd z56kt (1 : Int32).toNatClampNeg (x_2 + (1 : Int32))) a2 x_13 (fun u_14 => P (u_14.1, u_14.2.1, u_14.2.2.1, u_14.2.2.2.1, u_14.2.2.2.2.1, u_14.2.2.2.2.2)))) ∧ (¬ (a0 = (33 : Int32)) → (((a0 = (34 : Int32)) → ((x_3 = (0 : Int32) → wp_Md_into ms z56dd z56Lwhole z56Lwhole2 z56bm z56rr (upd z56kt (1 : Int32).toNatClampNeg (x_2 + (1 : Int32))) a2 r_4 (fun u_22 => P (u_22.1, u_22.2.1, u_22.2.2.1, u_22.2.2.2.1, u_22.2.2.2.2.1, u_22.2.2.2.2.2))) ∧ (¬ x_3 = (0 : Int32) → ∀ x_18 : Int32, x_18 = ((zz_shl (1 : Int32) x_3) - (1 : Int32)) → ∀ x_19 : Int32, x_19 = ((zz_shl r_4 x_3) ||| (x_5 &&& x_18)) → wp_Md_into ms z56dd z56Lwhole z56Lwhole2 z56bm z56rr (upd z56kt (1 : Int32).toNatClampNeg (x_2 + (1 : Int32))) a2 x_19 (fun u_20 => P (u_20.1, u_20.2.1, u_20.2.2.1, u_20.2.2.2.1, u_20.2.2.2.2.1, u_20.2.2.2.2.2))))) ∧ (¬ (a0 = (34 : Int32)) → (((a0 = (38 : Int32)) → ((x_3 = (24 : Int32) → wp_Md_into ms z56dd z56Lwhole z56Lwhole2 z56bm z56rr (upd z56kt (1 : Int32).toNatClampNeg (x_2 + (1 : Int32))) a2 r_4 (fun u_30 => P (u_30.1, u_30.2.1, u_30.2.2.1, u_30.2.2.2.1, u_30.2.2.2.2.1, u_30.2.2.2.2.2))) ∧ (¬ x_3 = (24 : Int32) → ∀ x_26 : Int32, x_26 = (zz_shl (-1 : Int32) (x_3 + (8 : Int32))) → ∀ x_27 : Int32, x_27 = (zz_ushr r_4 ((24 : Int32) - x_3)) → wp_Md_into ms z56dd z56Lwhole z56Lwhole2 z56bm z56rr (upd z56kt (1 : Int32).toNatClampNeg (x_2 + (1 : Int32))) a2 ((x_5 &&& x_26) ||| x_27) (fun u_28 => P (u_28.1, u_28.2.1, u_28.2.2.1, u_28.2.2.2.1, u_28.2.2.2.2.1, u_28.2.2.2.2.2))))) ∧ (¬ (a0 = (38 : Int32)) → wp_Md_part ms z56dd z56Lwhole z56Lwhole2 z56bm z56rr (upd z56kt (1 : Int32).toNatClampNeg (x_2 + (1 : Int32))) a1 j56_4 (fun r_32 => wp_Md_into ms z56dd z56Lwhole z56Lwhole2 z56bm z56rr (upd z56kt (1 : Int32).toNatClampNeg (x_2 + (1 : Int32))) a2 r_32 (fun u_33 => P (u_33.1, u_33.2.1, u_33.2.2.1, u_33.2.2.2.1, u_33.2.2.2.2.1, u_33.2.2.2.2.2))))))))))))) ∧ (¬ (z56dd 5) ≤ (0 : Int32) → P (z56dd, z56Lwhole, z56Lwhole2, z56bm, z56rr, z56kt)))
def wj_Md_loads_39 (ms : Int32) (a0 : Int32) (a1 : Int32) (a2 : Int32) (P : ((Nat → Int32) × Int64 × Int64 × (Nat → Int32) × (Nat → Int32) × (Nat → Int32)) → Prop) (s39_0 : Int32) (z39dd : Nat → Int32) (z39Lwhole : Int64) (z39Lwhole2 : Int64) (z39bm : Nat → Int32) (z39rr : Nat → Int32) (z39kt : Nat → Int32) : Prop := wp_Md_good ms z39dd z39Lwhole z39Lwhole2 z39bm z39rr z39kt a1 s39_0 (fun r_35 => ((r_35 = (0 : Int32) → wp_Md_ends ms z39dd z39Lwhole z39Lwhole2 z39bm z39rr z39kt (1 : Int32) (fun u_37 => wj_Md_loads_56 ms a0 a1 a2 P s39_0 u_37.1 u_37.2.1 u_37.2.2.1 u_37.2.2.2.1 u_37.2.2.2.2.1 u_37.2.2.2.2.2)) ∧ (¬ r_35 = (0 : Int32) → wj_Md_loads_56 ms a0 a1 a2 P s39_0 z39dd z39Lwhole z39Lwhole2 z39bm z39rr z39kt)))
def wj_Md_loads_24 (ms : Int32) (a0 : Int32) (a1 : Int32) (a2 : Int32) (P : ((Nat → Int32) × Int64 × Int64 × (Nat → Int32) × (Nat → Int32) × (Nat → Int32)) → Prop) (z24dd : Nat → Int32) (z24Lwhole : Int64) (z24Lwhole2 : Int64) (z24bm : Nat → Int32) (z24rr : Nat → Int32) (z24kt : Nat → Int32) : Prop := wj_Md_loads_39 ms a0 a1 a2 P (1 : Int32) z24dd z24Lwhole z24Lwhole2 z24bm z24rr z24kt
def wp_Md_loads (ms : Int32) (dd : Nat → Int32) (Lwhole : Int64) (Lwhole2 : Int64) (bm : Nat → Int32) (rr : Nat → Int32) (kt : Nat → Int32) (a0 : Int32) (a1 : Int32) (a2 : Int32) (P : ((Nat → Int32) × Int64 × Int64 × (Nat → Int32) × (Nat → Int32) × (Nat → Int32)) → Prop) : Prop := ((a0 = (32 : Int32) → wj_Md_loads_24 ms a0 a1 a2 P dd Lwhole Lwhole2 bm rr kt) ∧ (¬ a0 = (32 : Int32) → ((a0 = (36 : Int32) → wj_Md_loads_24 ms a0 a1 a2 P dd Lwhole Lwhole2 bm rr kt) ∧ (¬ a0 = (36 : Int32) → ((a0 = (34 : Int32) → wj_Md_loads_24 ms a0 a1 a2 P dd Lwhole Lwhole2 bm rr kt) ∧ (¬ a0 = (34 : Int32) → ((a0 = (38 : Int32) → wj_Md_loads_24 ms a0 a1 a2 P dd Lwhole Lwhole2 bm rr kt) ∧ (¬ a0 = (38 : Int32) → ((a0 = (35 : Int32) → wj_Md_loads_39 ms a0 a1 a2 P (4 : Int32) dd Lwhole Lwhole2 bm rr kt) ∧ (¬ a0 = (35 : Int32) → wj_Md_loads_39 ms a0 a1 a2 P (2 : Int32) dd Lwhole Lwhole2 bm rr kt))))))))))
abbrev rm_Md_loads : Room := { frames := 1, cells := 0, slots := 0, locals := 24 }
set_option maxHeartbeats 4000000 in
set_option maxRecDepth 100000 in
theorem c_Md_loads (l : Launch) (D : va_G) (cI : ClassId) (cB : ClassId) (qd : Nat) (qmemory : Nat) (qr : Nat) (qcounts : Nat) (ms : Int32) (dd : Nat → Int32) (Lwhole : Int64) (Lwhole2 : Int64) (bm : Nat → Int32) (rr : Nat → Int32) (kt : Nat → Int32) (a0 : Int32) (a1 : Int32) (a2 : Int32) (P : ((Nat → Int32) × Int64 × Int64 × (Nat → Int32) × (Nat → Int32) × (Nat → Int32)) → Prop) (h : wp_Md_loads ms dd Lwhole Lwhole2 bm rr kt a0 a1 a2 P) (sz : Nat) : Met l y_Md_loads (zz_ws y_Md_loads b_Md_loads 8 none) rm_Md_loads (va_Pc [.ref qd, .int a0, .int a1, .int a2] (zz_pw D [(cI, .int), (cB, .byte)] (wD qd qmemory qr qcounts cI cB ms dd Lwhole Lwhole2 bm rr kt) sz)) (va_Qv P (zz_qw D (fun u => wD qd qmemory qr qcounts cI cB ms u.1 u.2.1 u.2.2.1 u.2.2.2.1 u.2.2.2.2.1 u.2.2.2.2.2) (va_A (wD qd qmemory qr qcounts cI cB ms dd Lwhole Lwhole2 bm rr kt) sz)) (va_A (wD qd qmemory qr qcounts cI cB ms dd Lwhole Lwhole2 bm rr kt) sz)) 0 0 (va_A (wD qd qmemory qr qcounts cI cB ms dd Lwhole Lwhole2 bm rr kt) sz) := by
  refine Met.ofW (cc := b_Md_loads) (maxL := 8) (ret := none) (by decide) rfl ?_
  intro p e s m args below meth c s₁ B hml hv
  obtain ⟨rfl, hsz, hP, hK, hD0⟩ := hv
  have hx := B.exec
  have hb := B.bytes
  have hr := B.returns
  have hts := atoms_spec (ws := (zz_ws y_Md_loads b_Md_loads 8 none)) B.pre
  have hown : s.vm.findClass R_Md = some m.cls := findClass_of_methodNamed B.named
  have hlocks := B.notSynchronized
  have hT := zz_hts hts
  have X : CallFix p m c b_Md_loads 8 s ([.ref qd, .int a0, .int a1, .int a2] : List Value).toArray (zz_ws y_Md_loads b_Md_loads 8 none) R_Md := ⟨hx, hb, hml, hown, hts⟩
  have hf0 : 0 + 0 ≤ (headSpec (zz_ws y_Md_loads b_Md_loads 8 none) rm_Md_loads).room.cells ∧ 0 + 0 ≤ (headSpec (zz_ws y_Md_loads b_Md_loads 8 none) rm_Md_loads).room.slots := ⟨Nat.le_of_ble_eq_true rfl, Nat.le_of_ble_eq_true rfl⟩
  subst hsz
  have hD := hD0.self (sz := s.heap.size)
  generalize hAe : va_A (wD qd qmemory qr qcounts cI cB ms dd Lwhole Lwhole2 bm rr kt) s.heap.size = A at hD ⊢
  have hA : ∀ q : Nat, s.heap.size ≤ q → A q := fun q h => by rw [← hAe]; exact Or.inr h
  have hS : va_S A s.heap s.heap [] := va_S.rf
  have hl := lv_entry ([.ref qd, .int a0, .int a1, .int a2]) (n := 8) (Nat.le_of_ble_eq_true rfl)
  rw [lg_entry_eq]
  generalize (lg_sl ([.ref qd, .int a0, .int a1, .int a2]) ++ List.replicate (8 - (lg_sl ([.ref qd, .int a0, .int a1, .int a2])).length) Slot.unset).toArray = ls at hl ⊢
  have hl : lv_has ls 8 [(0, .ref qd), (1, .int a0), (2, .int a1), (3, .int a2)] := hl
  have jn_56 : ∀ (j56_4 : Int32) (z56dd : Nat → Int32) (z56Lwhole : Int64) (z56Lwhole2 : Int64) (z56bm : Nat → Int32) (z56rr : Nat → Int32) (z56kt : Nat → Int32), wj_Md_loads_56 ms a0 a1 a2 P j56_4 z56dd z56Lwhole z56Lwhole2 z56bm z56rr z56kt → ∀ (H : Heap) (locs : List Loc), va_P D vwCl (wD qd qmemory qr qcounts cI cB ms z56dd z56Lwhole z56Lwhole2 z56bm z56rr z56kt) H → va_D A (wD qd qmemory qr qcounts cI cB ms z56dd z56Lwhole z56Lwhole2 z56bm z56rr z56kt) → va_S A s.heap H locs → ∀ ls : Array Slot, lv_has ls 8 [(0, .ref qd), (1, .int a0), (2, .int a1), (3, .int a2), (4, .int j56_4)] → W p l e (headSpec (zz_ws y_Md_loads b_Md_loads 8 none) rm_Md_loads).room s m ([.ref qd, .int a0, .int a1, .int a2] : List Value).toArray below meth c H locs 0 0 (MQ below (va_Qv P (zz_qw D (fun u => wD qd qmemory qr qcounts cI cB ms u.1 u.2.1 u.2.2.1 u.2.2.2.1 u.2.2.2.2.1 u.2.2.2.2.2) A) A) ([.ref qd, .int a0, .int a1, .int a2] : List Value).toArray s 0 0 A) (F0 m 56 ls []) := by
    intro j56_4 z56dd z56Lwhole z56Lwhole2 z56bm z56rr z56kt h H locs hP hD hS ls hl
    unfold wj_Md_loads_56 at h
    refine lv_aload_n hx hb d_Md_loads_56 rfl (lv_at hl 0 rfl) ?_
    refine g_Md_63 (v := .int (z56dd 5)) hx hb hT hown hK hP 0 rfl rfl d_Md_loads_57 ?_
    refine lv_if_le (tgt := 64) hx hb d_Md_loads_60 (by decide) (fun c_1 => ?_) (fun c_1 => ?_)
    · skip
      have h := h.1 c_1
      refine lv_aload_n hx hb d_Md_loads_64 rfl (lv_at hl 0 rfl) ?_
      refine g_Md_29 (v := .ref qcounts) hx hb hT hown hK hP 0 rfl rfl d_Md_loads_65 ?_
      refine lv_iconst (v := 1) hx hb d_Md_loads_68 (by decide) ?_
      refine lv_dup2_11 hx hb d_Md_loads_69 rfl rfl ?_
      refine va_iald (f := z56kt) hx hb hK hP 3 0 rfl rfl h.1 d_Md_loads_70 ?_
      have h := h.2
      refine lv_topi (fun x_2 ex_2 => ?_)
      have h := h x_2 ex_2
      refine lv_iconst (v := 1) hx hb d_Md_loads_71 (by decide) ?_
      refine lv_iadd hx hb d_Md_loads_72 ?_
      refine va_iast (f := z56kt) hx hb hK hP hD hS 3 0 rfl rfl h.1 d_Md_loads_73 (fun H locs (hP : va_P D vwCl (wD qd qmemory qr qcounts cI cB ms z56dd z56Lwhole z56Lwhole2 z56bm z56rr (upd z56kt (1 : Int32).toNatClampNeg (x_2 + (1 : Int32)))) H) (hD : va_D A (wD qd qmemory qr qcounts cI cB ms z56dd z56Lwhole z56Lwhole2 z56bm z56rr (upd z56kt (1 : Int32).toNatClampNeg (x_2 + (1 : Int32))))) hS => ?_)
      have h := h.2
      refine lv_bipush (v := 8) hx hb d_Md_loads_74 (by decide) ?_
      refine lv_iload_n hx hb d_Md_loads_76 rfl (lv_at hl 2 rfl) ?_
      refine lv_iconst (v := 3) hx hb d_Md_loads_77 (by decide) ?_
      refine lv_iand hx hb d_Md_loads_78 ?_
      refine lv_imul hx hb d_Md_loads_79 ?_
      refine lv_topi (fun x_3 ex_3 => ?_)
      have h := h x_3 ex_3
      refine lv_istore (lv' := [(5, .int x_3), (0, .ref qd), (1, .int a0), (2, .int a1), (3, .int a2), (4, .int j56_4)]) hx hb d_Md_loads_80 hl (by decide) rfl (fun ls hl => ?_)
      refine lv_aload_n hx hb d_Md_loads_82 rfl (lv_at hl 1 rfl) ?_
      refine lv_iload_n hx hb d_Md_loads_83 rfl (lv_at hl 3 rfl) ?_
      refine lv_bipush (v := -4) hx hb d_Md_loads_84 (by decide) ?_
      refine lv_iand hx hb d_Md_loads_86 ?_
      refine lv_iconst (v := 4) hx hb d_Md_loads_87 (by decide) ?_
      refine zz_Ri (As := [.int (a1 &&& (-4 : Int32)), .int (4 : Int32)]) (rest := []) (wc := wD qd qmemory qr qcounts cI cB ms z56dd z56Lwhole z56Lwhole2 z56bm z56rr (upd z56kt (1 : Int32).toNatClampNeg (x_2 + (1 : Int32)))) X hK hP (c_Md_part l D cI cB qd qmemory qr qcounts ms z56dd z56Lwhole z56Lwhole2 z56bm z56rr (upd z56kt (1 : Int32).toNatClampNeg (x_2 + (1 : Int32))) (a1 &&& (-4 : Int32)) (4 : Int32) _ h) ⟨rfl, rfl⟩ m_Md_part k_Md_46 ⟨Nat.le_of_ble_eq_true rfl, Nat.le_of_ble_eq_true rfl⟩ [0, 1, 2, 3] rfl 6 0 rfl rfl rfl rfl hl.1 rfl (Nat.le_of_ble_eq_true rfl) d_Md_loads_88 hf0 (fun r_4 h => ?_)
      refine lv_istore (lv' := [(6, .int r_4), (5, .int x_3), (0, .ref qd), (1, .int a0), (2, .int a1), (3, .int a2), (4, .int j56_4)]) hx hb d_Md_loads_91 hl (by decide) rfl (fun ls hl => ?_)
      refine lv_aload_n hx hb d_Md_loads_93 rfl (lv_at hl 2 rfl) ?_
      refine g_Md_14 (v := .ref qr) hx hb hT hown hK hP 0 rfl rfl d_Md_loads_94 ?_
      refine lv_iload_n hx hb d_Md_loads_97 rfl (lv_at hl 5 rfl) ?_
      refine va_iald (f := z56rr) hx hb hK hP 2 0 rfl rfl h.1 d_Md_loads_98 ?_
      have h := h.2
      refine lv_topi (fun x_5 ex_5 => ?_)
      have h := h x_5 ex_5
      refine lv_istore (lv' := [(7, .int x_5), (6, .int r_4), (5, .int x_3), (0, .ref qd), (1, .int a0), (2, .int a1), (3, .int a2), (4, .int j56_4)]) hx hb d_Md_loads_99 hl (by decide) rfl (fun ls hl => ?_)
      refine lv_iload_n hx hb d_Md_loads_101 rfl (lv_at hl 4 rfl) ?_
      by_cases c_6 : a0 = (32 : Int32)
      · have h := h.1 c_6
        have h0 := c_6
        refine lv_tableIn (off := 42) (tgt := 144) hx hb d_Md_loads_102 (by rw [h0]; decide) (by rw [h0]; decide) (by rw [h0]; rfl) (by decide) ?_
        refine lv_aload_n hx hb d_Md_loads_144 rfl (lv_at hl 3 rfl) ?_
        refine lv_iload_n hx hb d_Md_loads_145 rfl (lv_at hl 6 rfl) ?_
        refine lv_aload_n hx hb d_Md_loads_146 rfl (lv_at hl 3 rfl) ?_
        refine lv_iload_n hx hb d_Md_loads_147 rfl (lv_at hl 5 rfl) ?_
        refine lv_iconst (v := 1) hx hb d_Md_loads_148 (by decide) ?_
        refine zz_Ri (As := [.int a1, .int (1 : Int32)]) (rest := [.int a2, .ref qd]) (wc := wD qd qmemory qr qcounts cI cB ms z56dd z56Lwhole z56Lwhole2 z56bm z56rr (upd z56kt (1 : Int32).toNatClampNeg (x_2 + (1 : Int32)))) X hK hP (c_Md_part l D cI cB qd qmemory qr qcounts ms z56dd z56Lwhole z56Lwhole2 z56bm z56rr (upd z56kt (1 : Int32).toNatClampNeg (x_2 + (1 : Int32))) a1 (1 : Int32) _ h) ⟨rfl, rfl⟩ m_Md_part k_Md_46 ⟨Nat.le_of_ble_eq_true rfl, Nat.le_of_ble_eq_true rfl⟩ [0, 1, 2, 3] rfl 6 0 rfl rfl rfl rfl hl.1 rfl (Nat.le_of_ble_eq_true rfl) d_Md_loads_149 hf0 (fun r_7 h => ?_)
        refine lv_bipush (v := 24) hx hb d_Md_loads_152 (by decide) ?_
        refine zz_ishl hx hb d_Md_loads_154 ?_
        refine lv_bipush (v := 24) hx hb d_Md_loads_155 (by decide) ?_
        refine zz_ishr hx hb d_Md_loads_157 ?_
        refine lv_topi (fun x_8 ex_8 => ?_)
        have h := h x_8 ex_8
        refine zz_Wv (As := [.int a2, .int x_8]) (rest := []) (wc := wD qd qmemory qr qcounts cI cB ms z56dd z56Lwhole z56Lwhole2 z56bm z56rr (upd z56kt (1 : Int32).toNatClampNeg (x_2 + (1 : Int32)))) (wr := []) X hK hP hD hS hA (c_Md_into l D cI cB qd qmemory qr qcounts ms z56dd z56Lwhole z56Lwhole2 z56bm z56rr (upd z56kt (1 : Int32).toNatClampNeg (x_2 + (1 : Int32))) a2 x_8 _ h _) ⟨rfl, rfl⟩ m_Md_into k_Md_128 ⟨Nat.le_of_ble_eq_true rfl, Nat.le_of_ble_eq_true rfl⟩ [0, 1, 2, 3] [] rfl rfl (by decide) (by decide) (by decide) 6 0 rfl rfl rfl rfl hl.1 rfl (Nat.le_of_ble_eq_true rfl) d_Md_loads_158 hf0 (fun u_9 H locs h hP hD hS => ?_)
        have hP : va_P D vwCl (wD qd qmemory qr qcounts cI cB ms u_9.1 u_9.2.1 u_9.2.2.1 u_9.2.2.2.1 u_9.2.2.2.2.1 u_9.2.2.2.2.2) H := hP.sub [0, 1, 2, 3] rfl
        have hD : va_D A (wD qd qmemory qr qcounts cI cB ms u_9.1 u_9.2.1 u_9.2.2.1 u_9.2.2.2.1 u_9.2.2.2.2.1 u_9.2.2.2.2.2) := hD.sub [0, 1, 2, 3] (by decide) rfl
        refine lv_goto (tgt := 268) hx hb d_Md_loads_161 (by decide) ?_
        exact W.vret hx hb hr (fun t ht hW => ⟨⟨(u_9.1, u_9.2.1, u_9.2.2.1, u_9.2.2.2.1, u_9.2.2.2.2.1, u_9.2.2.2.2.2), rfl, h, by rw [ht]; exact hP, hD⟩, hS.F ht⟩) hS.2.2 d_Md_loads_268
      · have h := h.2 c_6
        by_cases c_11 : a0 = (33 : Int32)
        · have h := h.1 c_11
          have h0 := c_11
          refine lv_tableIn (off := 62) (tgt := 164) hx hb d_Md_loads_102 (by rw [h0]; decide) (by rw [h0]; decide) (by rw [h0]; rfl) (by decide) ?_
          refine lv_aload_n hx hb d_Md_loads_164 rfl (lv_at hl 3 rfl) ?_
          refine lv_iload_n hx hb d_Md_loads_165 rfl (lv_at hl 6 rfl) ?_
          refine lv_aload_n hx hb d_Md_loads_166 rfl (lv_at hl 3 rfl) ?_
          refine lv_iload_n hx hb d_Md_loads_167 rfl (lv_at hl 5 rfl) ?_
          refine lv_iconst (v := 2) hx hb d_Md_loads_168 (by decide) ?_
          refine zz_Ri (As := [.int a1, .int (2 : Int32)]) (rest := [.int a2, .ref qd]) (wc := wD qd qmemory qr qcounts cI cB ms z56dd z56Lwhole z56Lwhole2 z56bm z56rr (upd z56kt (1 : Int32).toNatClampNeg (x_2 + (1 : Int32)))) X hK hP (c_Md_part l D cI cB qd qmemory qr qcounts ms z56dd z56Lwhole z56Lwhole2 z56bm z56rr (upd z56kt (1 : Int32).toNatClampNeg (x_2 + (1 : Int32))) a1 (2 : Int32) _ h) ⟨rfl, rfl⟩ m_Md_part k_Md_46 ⟨Nat.le_of_ble_eq_true rfl, Nat.le_of_ble_eq_true rfl⟩ [0, 1, 2, 3] rfl 6 0 rfl rfl rfl rfl hl.1 rfl (Nat.le_of_ble_eq_true rfl) d_Md_loads_169 hf0 (fun r_12 h => ?_)
          refine lv_bipush (v := 16) hx hb d_Md_loads_172 (by decide) ?_
          refine zz_ishl hx hb d_Md_loads_174 ?_
          refine lv_bipush (v := 16) hx hb d_Md_loads_175 (by decide) ?_
          refine zz_ishr hx hb d_Md_loads_177 ?_
          refine lv_topi (fun x_13 ex_13 => ?_)
          have h := h x_13 ex_13
          refine zz_Wv (As := [.int a2, .int x_13]) (rest := []) (wc := wD qd qmemory qr qcounts cI cB ms z56dd z56Lwhole z56Lwhole2 z56bm z56rr (upd z56kt (1 : Int32).toNatClampNeg (x_2 + (1 : Int32)))) (wr := []) X hK hP hD hS hA (c_Md_into l D cI cB qd qmemory qr qcounts ms z56dd z56Lwhole z56Lwhole2 z56bm z56rr (upd z56kt (1 : Int32).toNatClampNeg (x_2 + (1 : Int32))) a2 x_13 _ h _) ⟨rfl, rfl⟩ m_Md_into k_Md_128 ⟨Nat.le_of_ble_eq_true rfl, Nat.le_of_ble_eq_true rfl⟩ [0, 1, 2, 3] [] rfl rfl (by decide) (by decide) (by decide) 6 0 rfl rfl rfl rfl hl.1 rfl (Nat.le_of_ble_eq_true rfl) d_Md_loads_178 hf0 (fun u_14 H locs h hP hD hS => ?_)
          have hP : va_P D vwCl (wD qd qmemory qr qcounts cI cB ms u_14.1 u_14.2.1 u_14.2.2.1 u_14.2.2.2.1 u_14.2.2.2.2.1 u_14.2.2.2.2.2) H := hP.sub [0, 1, 2, 3] rfl
          have hD : va_D A (wD qd qmemory qr qcounts cI cB ms u_14.1 u_14.2.1 u_14.2.2.1 u_14.2.2.2.1 u_14.2.2.2.2.1 u_14.2.2.2.2.2) := hD.sub [0, 1, 2, 3] (by decide) rfl
          refine lv_goto (tgt := 268) hx hb d_Md_loads_181 (by decide) ?_
          exact W.vret hx hb hr (fun t ht hW => ⟨⟨(u_14.1, u_14.2.1, u_14.2.2.1, u_14.2.2.2.1, u_14.2.2.2.2.1, u_14.2.2.2.2.2), rfl, h, by rw [ht]; exact hP, hD⟩, hS.F ht⟩) hS.2.2 d_Md_loads_268
        · have h := h.2 c_11
          by_cases c_16 : a0 = (34 : Int32)
          · have h := h.1 c_16
            have h0 := c_16
            refine lv_tableIn (off := 82) (tgt := 184) hx hb d_Md_loads_102 (by rw [h0]; decide) (by rw [h0]; decide) (by rw [h0]; rfl) (by decide) ?_
            refine lv_aload_n hx hb d_Md_loads_184 rfl (lv_at hl 3 rfl) ?_
            refine lv_iload_n hx hb d_Md_loads_185 rfl (lv_at hl 6 rfl) ?_
            refine lv_iload hx hb d_Md_loads_186 (lv_at hl 2 rfl) ?_
            refine lv_if_ne (tgt := 196) hx hb d_Md_loads_188 (by decide) (fun c_17 => ?_) (fun c_17 => ?_)
            · skip
              have h := h.2 c_17
              refine lv_iload hx hb d_Md_loads_196 (lv_at hl 1 rfl) ?_
              refine lv_iload hx hb d_Md_loads_198 (lv_at hl 2 rfl) ?_
              refine zz_ishl hx hb d_Md_loads_200 ?_
              refine lv_iload hx hb d_Md_loads_201 (lv_at hl 0 rfl) ?_
              refine lv_iconst (v := 1) hx hb d_Md_loads_203 (by decide) ?_
              refine lv_iload hx hb d_Md_loads_204 (lv_at hl 2 rfl) ?_
              refine zz_ishl hx hb d_Md_loads_206 ?_
              refine lv_iconst (v := 1) hx hb d_Md_loads_207 (by decide) ?_
              refine lv_isub hx hb d_Md_loads_208 ?_
              refine lv_topi (fun x_18 ex_18 => ?_)
              have h := h x_18 ex_18
              refine lv_iand hx hb d_Md_loads_209 ?_
              refine lv_ior hx hb d_Md_loads_210 ?_
              refine lv_topi (fun x_19 ex_19 => ?_)
              have h := h x_19 ex_19
              refine zz_Wv (As := [.int a2, .int x_19]) (rest := []) (wc := wD qd qmemory qr qcounts cI cB ms z56dd z56Lwhole z56Lwhole2 z56bm z56rr (upd z56kt (1 : Int32).toNatClampNeg (x_2 + (1 : Int32)))) (wr := []) X hK hP hD hS hA (c_Md_into l D cI cB qd qmemory qr qcounts ms z56dd z56Lwhole z56Lwhole2 z56bm z56rr (upd z56kt (1 : Int32).toNatClampNeg (x_2 + (1 : Int32))) a2 x_19 _ h _) ⟨rfl, rfl⟩ m_Md_into k_Md_128 ⟨Nat.le_of_ble_eq_true rfl, Nat.le_of_ble_eq_true rfl⟩ [0, 1, 2, 3] [] rfl rfl (by decide) (by decide) (by decide) 6 0 rfl rfl rfl rfl hl.1 rfl (Nat.le_of_ble_eq_true rfl) d_Md_loads_211 hf0 (fun u_20 H locs h hP hD hS => ?_)
              have hP : va_P D vwCl (wD qd qmemory qr qcounts cI cB ms u_20.1 u_20.2.1 u_20.2.2.1 u_20.2.2.2.1 u_20.2.2.2.2.1 u_20.2.2.2.2.2) H := hP.sub [0, 1, 2, 3] rfl
              have hD : va_D A (wD qd qmemory qr qcounts cI cB ms u_20.1 u_20.2.1 u_20.2.2.1 u_20.2.2.2.1 u_20.2.2.2.2.1 u_20.2.2.2.2.2) := hD.sub [0, 1, 2, 3] (by decide) rfl
              refine lv_goto (tgt := 268) hx hb d_Md_loads_214 (by decide) ?_
              exact W.vret hx hb hr (fun t ht hW => ⟨⟨(u_20.1, u_20.2.1, u_20.2.2.1, u_20.2.2.2.1, u_20.2.2.2.2.1, u_20.2.2.2.2.2), rfl, h, by rw [ht]; exact hP, hD⟩, hS.F ht⟩) hS.2.2 d_Md_loads_268
            · skip
              have h := h.1 c_17
              refine lv_iload hx hb d_Md_loads_191 (lv_at hl 1 rfl) ?_
              refine lv_goto (tgt := 211) hx hb d_Md_loads_193 (by decide) ?_
              refine zz_Wv (As := [.int a2, .int r_4]) (rest := []) (wc := wD qd qmemory qr qcounts cI cB ms z56dd z56Lwhole z56Lwhole2 z56bm z56rr (upd z56kt (1 : Int32).toNatClampNeg (x_2 + (1 : Int32)))) (wr := []) X hK hP hD hS hA (c_Md_into l D cI cB qd qmemory qr qcounts ms z56dd z56Lwhole z56Lwhole2 z56bm z56rr (upd z56kt (1 : Int32).toNatClampNeg (x_2 + (1 : Int32))) a2 r_4 _ h _) ⟨rfl, rfl⟩ m_Md_into k_Md_128 ⟨Nat.le_of_ble_eq_true rfl, Nat.le_of_ble_eq_true rfl⟩ [0, 1, 2, 3] [] rfl rfl (by decide) (by decide) (by decide) 6 0 rfl rfl rfl rfl hl.1 rfl (Nat.le_of_ble_eq_true rfl) d_Md_loads_211 hf0 (fun u_22 H locs h hP hD hS => ?_)
              have hP : va_P D vwCl (wD qd qmemory qr qcounts cI cB ms u_22.1 u_22.2.1 u_22.2.2.1 u_22.2.2.2.1 u_22.2.2.2.2.1 u_22.2.2.2.2.2) H := hP.sub [0, 1, 2, 3] rfl
              have hD : va_D A (wD qd qmemory qr qcounts cI cB ms u_22.1 u_22.2.1 u_22.2.2.1 u_22.2.2.2.1 u_22.2.2.2.2.1 u_22.2.2.2.2.2) := hD.sub [0, 1, 2, 3] (by decide) rfl
              refine lv_goto (tgt := 268) hx hb d_Md_loads_214 (by decide) ?_
              exact W.vret hx hb hr (fun t ht hW => ⟨⟨(u_22.1, u_22.2.1, u_22.2.2.1, u_22.2.2.2.1, u_22.2.2.2.2.1, u_22.2.2.2.2.2), rfl, h, by rw [ht]; exact hP, hD⟩, hS.F ht⟩) hS.2.2 d_Md_loads_268
          · have h := h.2 c_16
            by_cases c_24 : a0 = (38 : Int32)
            · have h := h.1 c_24
              have h0 := c_24
              refine lv_tableIn (off := 115) (tgt := 217) hx hb d_Md_loads_102 (by rw [h0]; decide) (by rw [h0]; decide) (by rw [h0]; rfl) (by decide) ?_
              refine lv_aload_n hx hb d_Md_loads_217 rfl (lv_at hl 3 rfl) ?_
              refine lv_iload_n hx hb d_Md_loads_218 rfl (lv_at hl 6 rfl) ?_
              refine lv_iload hx hb d_Md_loads_219 (lv_at hl 2 rfl) ?_
              refine lv_bipush (v := 24) hx hb d_Md_loads_221 (by decide) ?_
              refine lv_icmp_ne (tgt := 231) hx hb d_Md_loads_223 (by decide) (fun c_25 => ?_) (fun c_25 => ?_)
              · skip
                have h := h.2 c_25
                refine lv_iload hx hb d_Md_loads_231 (lv_at hl 0 rfl) ?_
                refine lv_iconst (v := -1) hx hb d_Md_loads_233 (by decide) ?_
                refine lv_iload hx hb d_Md_loads_234 (lv_at hl 2 rfl) ?_
                refine lv_bipush (v := 8) hx hb d_Md_loads_236 (by decide) ?_
                refine lv_iadd hx hb d_Md_loads_238 ?_
                refine zz_ishl hx hb d_Md_loads_239 ?_
                refine lv_topi (fun x_26 ex_26 => ?_)
                have h := h x_26 ex_26
                refine lv_iand hx hb d_Md_loads_240 ?_
                refine lv_iload hx hb d_Md_loads_241 (lv_at hl 1 rfl) ?_
                refine lv_bipush (v := 24) hx hb d_Md_loads_243 (by decide) ?_
                refine lv_iload hx hb d_Md_loads_245 (lv_at hl 2 rfl) ?_
                refine lv_isub hx hb d_Md_loads_247 ?_
                refine zz_iushr hx hb d_Md_loads_248 ?_
                refine lv_topi (fun x_27 ex_27 => ?_)
                have h := h x_27 ex_27
                refine lv_ior hx hb d_Md_loads_249 ?_
                refine zz_Wv (As := [.int a2, .int ((x_5 &&& x_26) ||| x_27)]) (rest := []) (wc := wD qd qmemory qr qcounts cI cB ms z56dd z56Lwhole z56Lwhole2 z56bm z56rr (upd z56kt (1 : Int32).toNatClampNeg (x_2 + (1 : Int32)))) (wr := []) X hK hP hD hS hA (c_Md_into l D cI cB qd qmemory qr qcounts ms z56dd z56Lwhole z56Lwhole2 z56bm z56rr (upd z56kt (1 : Int32).toNatClampNeg (x_2 + (1 : Int32))) a2 ((x_5 &&& x_26) ||| x_27) _ h _) ⟨rfl, rfl⟩ m_Md_into k_Md_128 ⟨Nat.le_of_ble_eq_true rfl, Nat.le_of_ble_eq_true rfl⟩ [0, 1, 2, 3] [] rfl rfl (by decide) (by decide) (by decide) 6 0 rfl rfl rfl rfl hl.1 rfl (Nat.le_of_ble_eq_true rfl) d_Md_loads_250 hf0 (fun u_28 H locs h hP hD hS => ?_)
                have hP : va_P D vwCl (wD qd qmemory qr qcounts cI cB ms u_28.1 u_28.2.1 u_28.2.2.1 u_28.2.2.2.1 u_28.2.2.2.2.1 u_28.2.2.2.2.2) H := hP.sub [0, 1, 2, 3] rfl
                have hD : va_D A (wD qd qmemory qr qcounts cI cB ms u_28.1 u_28.2.1 u_28.2.2.1 u_28.2.2.2.1 u_28.2.2.2.2.1 u_28.2.2.2.2.2) := hD.sub [0, 1, 2, 3] (by decide) rfl
                refine lv_goto (tgt := 268) hx hb d_Md_loads_253 (by decide) ?_
                exact W.vret hx hb hr (fun t ht hW => ⟨⟨(u_28.1, u_28.2.1, u_28.2.2.1, u_28.2.2.2.1, u_28.2.2.2.2.1, u_28.2.2.2.2.2), rfl, h, by rw [ht]; exact hP, hD⟩, hS.F ht⟩) hS.2.2 d_Md_loads_268
              · skip
                have h := h.1 c_25
                refine lv_iload hx hb d_Md_loads_226 (lv_at hl 1 rfl) ?_
                refine lv_goto (tgt := 250) hx hb d_Md_loads_228 (by decide) ?_
                refine zz_Wv (As := [.int a2, .int r_4]) (rest := []) (wc := wD qd qmemory qr qcounts cI cB ms z56dd z56Lwhole z56Lwhole2 z56bm z56rr (upd z56kt (1 : Int32).toNatClampNeg (x_2 + (1 : Int32)))) (wr := []) X hK hP hD hS hA (c_Md_into l D cI cB qd qmemory qr qcounts ms z56dd z56Lwhole z56Lwhole2 z56bm z56rr (upd z56kt (1 : Int32).toNatClampNeg (x_2 + (1 : Int32))) a2 r_4 _ h _) ⟨rfl, rfl⟩ m_Md_into k_Md_128 ⟨Nat.le_of_ble_eq_true rfl, Nat.le_of_ble_eq_true rfl⟩ [0, 1, 2, 3] [] rfl rfl (by decide) (by decide) (by decide) 6 0 rfl rfl rfl rfl hl.1 rfl (Nat.le_of_ble_eq_true rfl) d_Md_loads_250 hf0 (fun u_30 H locs h hP hD hS => ?_)
                have hP : va_P D vwCl (wD qd qmemory qr qcounts cI cB ms u_30.1 u_30.2.1 u_30.2.2.1 u_30.2.2.2.1 u_30.2.2.2.2.1 u_30.2.2.2.2.2) H := hP.sub [0, 1, 2, 3] rfl
                have hD : va_D A (wD qd qmemory qr qcounts cI cB ms u_30.1 u_30.2.1 u_30.2.2.1 u_30.2.2.2.1 u_30.2.2.2.2.1 u_30.2.2.2.2.2) := hD.sub [0, 1, 2, 3] (by decide) rfl
                refine lv_goto (tgt := 268) hx hb d_Md_loads_253 (by decide) ?_
                exact W.vret hx hb hr (fun t ht hW => ⟨⟨(u_30.1, u_30.2.1, u_30.2.2.1, u_30.2.2.2.1, u_30.2.2.2.2.1, u_30.2.2.2.2.2), rfl, h, by rw [ht]; exact hP, hD⟩, hS.F ht⟩) hS.2.2 d_Md_loads_268
            · have h := h.2 c_24
              refine zz_swD (tgt := 256) hx hb [32, 33, 34, 38] d_Md_loads_102 (by decide +kernel) (by decide) (List.forall_mem_cons.mpr ⟨lv_neT (k := 32) c_6 (by decide), List.forall_mem_cons.mpr ⟨lv_neT (k := 33) c_11 (by decide), List.forall_mem_cons.mpr ⟨lv_neT (k := 34) c_16 (by decide), List.forall_mem_cons.mpr ⟨lv_neT (k := 38) c_24 (by decide), fun _ h9 => nomatch h9⟩⟩⟩⟩) (by decide) ?_
              refine lv_aload_n hx hb d_Md_loads_256 rfl (lv_at hl 3 rfl) ?_
              refine lv_iload_n hx hb d_Md_loads_257 rfl (lv_at hl 6 rfl) ?_
              refine lv_aload_n hx hb d_Md_loads_258 rfl (lv_at hl 3 rfl) ?_
              refine lv_iload_n hx hb d_Md_loads_259 rfl (lv_at hl 5 rfl) ?_
              refine lv_iload hx hb d_Md_loads_260 (lv_at hl 7 rfl) ?_
              refine zz_Ri (As := [.int a1, .int j56_4]) (rest := [.int a2, .ref qd]) (wc := wD qd qmemory qr qcounts cI cB ms z56dd z56Lwhole z56Lwhole2 z56bm z56rr (upd z56kt (1 : Int32).toNatClampNeg (x_2 + (1 : Int32)))) X hK hP (c_Md_part l D cI cB qd qmemory qr qcounts ms z56dd z56Lwhole z56Lwhole2 z56bm z56rr (upd z56kt (1 : Int32).toNatClampNeg (x_2 + (1 : Int32))) a1 j56_4 _ h) ⟨rfl, rfl⟩ m_Md_part k_Md_46 ⟨Nat.le_of_ble_eq_true rfl, Nat.le_of_ble_eq_true rfl⟩ [0, 1, 2, 3] rfl 6 0 rfl rfl rfl rfl hl.1 rfl (Nat.le_of_ble_eq_true rfl) d_Md_loads_262 hf0 (fun r_32 h => ?_)
              refine zz_Wv (As := [.int a2, .int r_32]) (rest := []) (wc := wD qd qmemory qr qcounts cI cB ms z56dd z56Lwhole z56Lwhole2 z56bm z56rr (upd z56kt (1 : Int32).toNatClampNeg (x_2 + (1 : Int32)))) (wr := []) X hK hP hD hS hA (c_Md_into l D cI cB qd qmemory qr qcounts ms z56dd z56Lwhole z56Lwhole2 z56bm z56rr (upd z56kt (1 : Int32).toNatClampNeg (x_2 + (1 : Int32))) a2 r_32 _ h _) ⟨rfl, rfl⟩ m_Md_into k_Md_128 ⟨Nat.le_of_ble_eq_true rfl, Nat.le_of_ble_eq_true rfl⟩ [0, 1, 2, 3] [] rfl rfl (by decide) (by decide) (by decide) 6 0 rfl rfl rfl rfl hl.1 rfl (Nat.le_of_ble_eq_true rfl) d_Md_loads_265 hf0 (fun u_33 H locs h hP hD hS => ?_)
              have hP : va_P D vwCl (wD qd qmemory qr qcounts cI cB ms u_33.1 u_33.2.1 u_33.2.2.1 u_33.2.2.2.1 u_33.2.2.2.2.1 u_33.2.2.2.2.2) H := hP.sub [0, 1, 2, 3] rfl
              have hD : va_D A (wD qd qmemory qr qcounts cI cB ms u_33.1 u_33.2.1 u_33.2.2.1 u_33.2.2.2.1 u_33.2.2.2.2.1 u_33.2.2.2.2.2) := hD.sub [0, 1, 2, 3] (by decide) rfl
              exact W.vret hx hb hr (fun t ht hW => ⟨⟨(u_33.1, u_33.2.1, u_33.2.2.1, u_33.2.2.2.1, u_33.2.2.2.2.1, u_33.2.2.2.2.2), rfl, h, by rw [ht]; exact hP, hD⟩, hS.F ht⟩) hS.2.2 d_Md_loads_268
    · skip
      have h := h.2 c_1
      exact W.vret hx hb hr (fun t ht hW => ⟨⟨(z56dd, z56Lwhole, z56Lwhole2, z56bm, z56rr, z56kt), rfl, h, by rw [ht]; exact hP, hD⟩, hS.F ht⟩) hS.2.2 d_Md_loads_63
  have jn_39 : ∀ (s39_0 : Int32) (z39dd : Nat → Int32) (z39Lwhole : Int64) (z39Lwhole2 : Int64) (z39bm : Nat → Int32) (z39rr : Nat → Int32) (z39kt : Nat → Int32), wj_Md_loads_39 ms a0 a1 a2 P s39_0 z39dd z39Lwhole z39Lwhole2 z39bm z39rr z39kt → ∀ (H : Heap) (locs : List Loc), va_P D vwCl (wD qd qmemory qr qcounts cI cB ms z39dd z39Lwhole z39Lwhole2 z39bm z39rr z39kt) H → va_D A (wD qd qmemory qr qcounts cI cB ms z39dd z39Lwhole z39Lwhole2 z39bm z39rr z39kt) → va_S A s.heap H locs → ∀ ls : Array Slot, lv_has ls 8 [(0, .ref qd), (1, .int a0), (2, .int a1), (3, .int a2)] → W p l e (headSpec (zz_ws y_Md_loads b_Md_loads 8 none) rm_Md_loads).room s m ([.ref qd, .int a0, .int a1, .int a2] : List Value).toArray below meth c H locs 0 0 (MQ below (va_Qv P (zz_qw D (fun u => wD qd qmemory qr qcounts cI cB ms u.1 u.2.1 u.2.2.1 u.2.2.2.1 u.2.2.2.2.1 u.2.2.2.2.2) A) A) ([.ref qd, .int a0, .int a1, .int a2] : List Value).toArray s 0 0 A) (F0 m 39 ls [.int s39_0]) := by
    intro s39_0 z39dd z39Lwhole z39Lwhole2 z39bm z39rr z39kt h H locs hP hD hS ls hl
    unfold wj_Md_loads_39 at h
    refine lv_istore (lv' := [(4, .int s39_0), (0, .ref qd), (1, .int a0), (2, .int a1), (3, .int a2)]) hx hb d_Md_loads_39 hl (by decide) rfl (fun ls hl => ?_)
    refine lv_aload_n hx hb d_Md_loads_41 rfl (lv_at hl 1 rfl) ?_
    refine lv_iload_n hx hb d_Md_loads_42 rfl (lv_at hl 3 rfl) ?_
    refine lv_iload hx hb d_Md_loads_43 (lv_at hl 0 rfl) ?_
    refine zz_Ri (As := [.int a1, .int s39_0]) (rest := []) (wc := wD qd qmemory qr qcounts cI cB ms z39dd z39Lwhole z39Lwhole2 z39bm z39rr z39kt) X hK hP (c_Md_good l D cI cB qd qmemory qr qcounts ms z39dd z39Lwhole z39Lwhole2 z39bm z39rr z39kt a1 s39_0 _ h) ⟨rfl, rfl⟩ m_Md_good k_Md_38 ⟨Nat.le_of_ble_eq_true rfl, Nat.le_of_ble_eq_true rfl⟩ [0, 1, 2, 3] rfl 6 0 rfl rfl rfl rfl hl.1 rfl (Nat.le_of_ble_eq_true rfl) d_Md_loads_45 hf0 (fun r_35 h => ?_)
    refine lv_if_ne (tgt := 56) hx hb d_Md_loads_48 (by decide) (fun c_36 => ?_) (fun c_36 => ?_)
    · skip
      have h := h.2 c_36
      exact jn_56 s39_0 z39dd z39Lwhole z39Lwhole2 z39bm z39rr z39kt h _ _ hP hD hS ls (lv_sub hl [1, 2, 3, 4, 0] rfl)
    · skip
      have h := h.1 c_36
      refine lv_aload_n hx hb d_Md_loads_51 rfl (lv_at hl 1 rfl) ?_
      refine lv_iconst (v := 1) hx hb d_Md_loads_52 (by decide) ?_
      refine zz_Wv (As := [.int (1 : Int32)]) (rest := []) (wc := wD qd qmemory qr qcounts cI cB ms z39dd z39Lwhole z39Lwhole2 z39bm z39rr z39kt) (wr := []) X hK hP hD hS hA (c_Md_ends l D cI cB qd qmemory qr qcounts ms z39dd z39Lwhole z39Lwhole2 z39bm z39rr z39kt (1 : Int32) _ h _) ⟨rfl, rfl⟩ m_Md_ends k_Md_116 ⟨Nat.le_of_ble_eq_true rfl, Nat.le_of_ble_eq_true rfl⟩ [0, 1, 2, 3] [] rfl rfl (by decide) (by decide) (by decide) 6 0 rfl rfl rfl rfl hl.1 rfl (Nat.le_of_ble_eq_true rfl) d_Md_loads_53 hf0 (fun u_37 H locs h hP hD hS => ?_)
      have hP : va_P D vwCl (wD qd qmemory qr qcounts cI cB ms u_37.1 u_37.2.1 u_37.2.2.1 u_37.2.2.2.1 u_37.2.2.2.2.1 u_37.2.2.2.2.2) H := hP.sub [0, 1, 2, 3] rfl
      have hD : va_D A (wD qd qmemory qr qcounts cI cB ms u_37.1 u_37.2.1 u_37.2.2.1 u_37.2.2.2.1 u_37.2.2.2.2.1 u_37.2.2.2.2.2) := hD.sub [0, 1, 2, 3] (by decide) rfl
      exact jn_56 s39_0 u_37.1 u_37.2.1 u_37.2.2.1 u_37.2.2.2.1 u_37.2.2.2.2.1 u_37.2.2.2.2.2 h _ _ hP hD hS ls (lv_sub hl [1, 2, 3, 4, 0] rfl)
  have jn_24 : ∀ (z24dd : Nat → Int32) (z24Lwhole : Int64) (z24Lwhole2 : Int64) (z24bm : Nat → Int32) (z24rr : Nat → Int32) (z24kt : Nat → Int32), wj_Md_loads_24 ms a0 a1 a2 P z24dd z24Lwhole z24Lwhole2 z24bm z24rr z24kt → ∀ (H : Heap) (locs : List Loc), va_P D vwCl (wD qd qmemory qr qcounts cI cB ms z24dd z24Lwhole z24Lwhole2 z24bm z24rr z24kt) H → va_D A (wD qd qmemory qr qcounts cI cB ms z24dd z24Lwhole z24Lwhole2 z24bm z24rr z24kt) → va_S A s.heap H locs → ∀ ls : Array Slot, lv_has ls 8 [(0, .ref qd), (1, .int a0), (2, .int a1), (3, .int a2)] → W p l e (headSpec (zz_ws y_Md_loads b_Md_loads 8 none) rm_Md_loads).room s m ([.ref qd, .int a0, .int a1, .int a2] : List Value).toArray below meth c H locs 0 0 (MQ below (va_Qv P (zz_qw D (fun u => wD qd qmemory qr qcounts cI cB ms u.1 u.2.1 u.2.2.1 u.2.2.2.1 u.2.2.2.2.1 u.2.2.2.2.2) A) A) ([.ref qd, .int a0, .int a1, .int a2] : List Value).toArray s 0 0 A) (F0 m 24 ls []) := by
    intro z24dd z24Lwhole z24Lwhole2 z24bm z24rr z24kt h H locs hP hD hS ls hl
    unfold wj_Md_loads_24 at h
    refine lv_iconst (v := 1) hx hb d_Md_loads_24 (by decide) ?_
    refine lv_goto (tgt := 39) hx hb d_Md_loads_25 (by decide) ?_
    exact jn_39 (1 : Int32) z24dd z24Lwhole z24Lwhole2 z24bm z24rr z24kt h _ _ hP hD hS ls (lv_sub hl [0, 1, 2, 3] rfl)
  refine lv_iload_n hx hb d_Md_loads_0 rfl (lv_at hl 1 rfl) ?_
  refine lv_bipush (v := 32) hx hb d_Md_loads_1 (by decide) ?_
  refine lv_icmp_eq (tgt := 24) hx hb d_Md_loads_3 (by decide) (fun c_39 => ?_) (fun c_39 => ?_)
  · skip
    have h := h.1 c_39
    exact jn_24 dd Lwhole Lwhole2 bm rr kt h _ _ hP hD hS ls (lv_sub hl [0, 1, 2, 3] rfl)
  · skip
    have h := h.2 c_39
    refine lv_iload_n hx hb d_Md_loads_6 rfl (lv_at hl 1 rfl) ?_
    refine lv_bipush (v := 36) hx hb d_Md_loads_7 (by decide) ?_
    refine lv_icmp_eq (tgt := 24) hx hb d_Md_loads_9 (by decide) (fun c_40 => ?_) (fun c_40 => ?_)
    · skip
      have h := h.1 c_40
      exact jn_24 dd Lwhole Lwhole2 bm rr kt h _ _ hP hD hS ls (lv_sub hl [0, 1, 2, 3] rfl)
    · skip
      have h := h.2 c_40
      refine lv_iload_n hx hb d_Md_loads_12 rfl (lv_at hl 1 rfl) ?_
      refine lv_bipush (v := 34) hx hb d_Md_loads_13 (by decide) ?_
      refine lv_icmp_eq (tgt := 24) hx hb d_Md_loads_15 (by decide) (fun c_41 => ?_) (fun c_41 => ?_)
      · skip
        have h := h.1 c_41
        exact jn_24 dd Lwhole Lwhole2 bm rr kt h _ _ hP hD hS ls (lv_sub hl [0, 1, 2, 3] rfl)
      · skip
        have h := h.2 c_41
        refine lv_iload_n hx hb d_Md_loads_18 rfl (lv_at hl 1 rfl) ?_
        refine lv_bipush (v := 38) hx hb d_Md_loads_19 (by decide) ?_
        refine lv_icmp_ne (tgt := 28) hx hb d_Md_loads_21 (by decide) (fun c_42 => ?_) (fun c_42 => ?_)
        · skip
          have h := h.2 c_42
          refine lv_iload_n hx hb d_Md_loads_28 rfl (lv_at hl 1 rfl) ?_
          refine lv_bipush (v := 35) hx hb d_Md_loads_29 (by decide) ?_
          refine lv_icmp_ne (tgt := 38) hx hb d_Md_loads_31 (by decide) (fun c_43 => ?_) (fun c_43 => ?_)
          · skip
            have h := h.2 c_43
            refine lv_iconst (v := 2) hx hb d_Md_loads_38 (by decide) ?_
            exact jn_39 (2 : Int32) dd Lwhole Lwhole2 bm rr kt h _ _ hP hD hS ls (lv_sub hl [0, 1, 2, 3] rfl)
          · skip
            have h := h.1 c_43
            refine lv_iconst (v := 4) hx hb d_Md_loads_34 (by decide) ?_
            refine lv_goto (tgt := 39) hx hb d_Md_loads_35 (by decide) ?_
            exact jn_39 (4 : Int32) dd Lwhole Lwhole2 bm rr kt h _ _ hP hD hS ls (lv_sub hl [0, 1, 2, 3] rfl)
        · skip
          have h := h.1 c_42
          exact jn_24 dd Lwhole Lwhole2 bm rr kt h _ _ hP hD hS ls (lv_sub hl [0, 1, 2, 3] rfl)
def wl_Md_stores_120 (ms : Int32) (a0 : Int32) (a1 : Int32) (a2 : Int32) (P : ((Nat → Int32) × Int64 × Int64 × (Nat → Int32) × (Nat → Int32) × (Nat → Int32)) → Prop) : Nat → Int32 → Int32 → Int32 → (Nat → Int32) → Int64 → Int64 → (Nat → Int32) → (Nat → Int32) → (Nat → Int32) → Prop
  | 0, _, _, _, _, _, _, _, _, _ => False
  | n + 1, v6, v5, v4, wdd, wLwhole, wLwhole2, wbm, wrr, wkt => ((v5 < v6 → P (wdd, wLwhole, wLwhole2, wbm, wrr, wkt)) ∧ (¬ v5 < v6 → ∀ x_9 : Int32, x_9 = (zz_ushr a2 ((8 : Int32) * (v5 - v6))) → wp_Md_store ms wdd wLwhole wLwhole2 wbm wrr wkt ((a1 &&& (-4 : Int32)) + v6) (1 : Int32) x_9 (fun u_10 => ∀ x_12 : Int32, x_12 = v6 + 1 → wl_Md_stores_120 ms a0 a1 a2 P n x_12 v5 v4 u_10.1 u_10.2.1 u_10.2.2.1 u_10.2.2.2.1 u_10.2.2.2.2.1 u_10.2.2.2.2.2)))
def wl_Md_stores_71 (ms : Int32) (a0 : Int32) (a1 : Int32) (a2 : Int32) (P : ((Nat → Int32) × Int64 × Int64 × (Nat → Int32) × (Nat → Int32) × (Nat → Int32)) → Prop) : Nat → Int32 → Int32 → Int32 → (Nat → Int32) → Int64 → Int64 → (Nat → Int32) → (Nat → Int32) → (Nat → Int32) → Prop
  | 0, _, _, _, _, _, _, _, _, _ => False
  | n + 1, v6, v5, v4, wdd, wLwhole, wLwhole2, wbm, wrr, wkt => (((4 : Int32) ≤ v6 → P (wdd, wLwhole, wLwhole2, wbm, wrr, wkt)) ∧ (¬ (4 : Int32) ≤ v6 → ∀ x_14 : Int32, x_14 = ((24 : Int32) - ((8 : Int32) * (v6 - v5))) → wp_Md_store ms wdd wLwhole wLwhole2 wbm wrr wkt ((a1 &&& (-4 : Int32)) + v6) (1 : Int32) (zz_ushr a2 x_14) (fun u_15 => ∀ x_17 : Int32, x_17 = v6 + 1 → wl_Md_stores_71 ms a0 a1 a2 P n x_17 v5 v4 u_15.1 u_15.2.1 u_15.2.2.1 u_15.2.2.2.1 u_15.2.2.2.2.1 u_15.2.2.2.2.2)))
def wj_Md_stores_38 (ms : Int32) (a0 : Int32) (a1 : Int32) (a2 : Int32) (P : ((Nat → Int32) × Int64 × Int64 × (Nat → Int32) × (Nat → Int32) × (Nat → Int32)) → Prop) (j38_4 : Int32) (z38dd : Nat → Int32) (z38Lwhole : Int64) (z38Lwhole2 : Int64) (z38bm : Nat → Int32) (z38rr : Nat → Int32) (z38kt : Nat → Int32) : Prop := (((z38dd 5) ≤ (0 : Int32) → vp_in (2 : Int32) 5 ∧ ∀ x_2 : Int32, x_2 = (z38kt (2 : Int32).toNatClampNeg) → vp_in (2 : Int32) 5 ∧ ∀ x_3 : Int32, x_3 = (a1 &&& (3 : Int32)) → ((a0 = (42 : Int32) → ∃ n, wl_Md_stores_71 ms a0 a1 a2 P n x_3 x_3 j38_4 z38dd z38Lwhole z38Lwhole2 z38bm z38rr (upd z38kt (2 : Int32).toNatClampNeg (x_2 + (1 : Int32)))) ∧ (¬ a0 = (42 : Int32) → ((a0 = (46 : Int32) → ∃ n, wl_Md_stores_120 ms a0 a1 a2 P n (0 : Int32) x_3 j38_4 z38dd z38Lwhole z38Lwhole2 z38bm z38rr (upd z38kt (2 : Int32).toNatClampNeg (x_2 + (1 : Int32)))) ∧ (¬ a0 = (46 : Int32) → wp_Md_store ms z38dd z38Lwhole z38Lwhole2 z38bm z38rr (upd z38kt (2 : Int32).toNatClampNeg (x_2 + (1 : Int32))) a1 j38_4 a2 (fun u_6 => P (u_6.1, u_6.2.1, u_6.2.2.1, u_6.2.2.2.1, u_6.2.2.2.2.1, u_6.2.2.2.2.2))))))) ∧ (¬ (z38dd 5) ≤ (0 : Int32) → P (z38dd, z38Lwhole, z38Lwhole2, z38bm, z38rr, z38kt)))
def wj_Md_stores_21 (ms : Int32) (a0 : Int32) (a1 : Int32) (a2 : Int32) (P : ((Nat → Int32) × Int64 × Int64 × (Nat → Int32) × (Nat → Int32) × (Nat → Int32)) → Prop) (s21_0 : Int32) (z21dd : Nat → Int32) (z21Lwhole : Int64) (z21Lwhole2 : Int64) (z21bm : Nat → Int32) (z21rr : Nat → Int32) (z21kt : Nat → Int32) : Prop := wp_Md_good ms z21dd z21Lwhole z21Lwhole2 z21bm z21rr z21kt a1 s21_0 (fun r_18 => ((r_18 = (0 : Int32) → wp_Md_ends ms z21dd z21Lwhole z21Lwhole2 z21bm z21rr z21kt (2 : Int32) (fun u_20 => wj_Md_stores_38 ms a0 a1 a2 P s21_0 u_20.1 u_20.2.1 u_20.2.2.1 u_20.2.2.2.1 u_20.2.2.2.2.1 u_20.2.2.2.2.2)) ∧ (¬ r_18 = (0 : Int32) → wj_Md_stores_38 ms a0 a1 a2 P s21_0 z21dd z21Lwhole z21Lwhole2 z21bm z21rr z21kt)))
def wp_Md_stores (ms : Int32) (dd : Nat → Int32) (Lwhole : Int64) (Lwhole2 : Int64) (bm : Nat → Int32) (rr : Nat → Int32) (kt : Nat → Int32) (a0 : Int32) (a1 : Int32) (a2 : Int32) (P : ((Nat → Int32) × Int64 × Int64 × (Nat → Int32) × (Nat → Int32) × (Nat → Int32)) → Prop) : Prop := ((a0 = (41 : Int32) → wj_Md_stores_21 ms a0 a1 a2 P (2 : Int32) dd Lwhole Lwhole2 bm rr kt) ∧ (¬ a0 = (41 : Int32) → ((a0 = (43 : Int32) → wj_Md_stores_21 ms a0 a1 a2 P (4 : Int32) dd Lwhole Lwhole2 bm rr kt) ∧ (¬ a0 = (43 : Int32) → wj_Md_stores_21 ms a0 a1 a2 P (1 : Int32) dd Lwhole Lwhole2 bm rr kt))))
abbrev rm_Md_stores : Room := { frames := 1, cells := 0, slots := 0, locals := 24 }
set_option maxHeartbeats 4000000 in
set_option maxRecDepth 100000 in
theorem c_Md_stores (l : Launch) (D : va_G) (cI : ClassId) (cB : ClassId) (qd : Nat) (qmemory : Nat) (qr : Nat) (qcounts : Nat) (ms : Int32) (dd : Nat → Int32) (Lwhole : Int64) (Lwhole2 : Int64) (bm : Nat → Int32) (rr : Nat → Int32) (kt : Nat → Int32) (a0 : Int32) (a1 : Int32) (a2 : Int32) (P : ((Nat → Int32) × Int64 × Int64 × (Nat → Int32) × (Nat → Int32) × (Nat → Int32)) → Prop) (h : wp_Md_stores ms dd Lwhole Lwhole2 bm rr kt a0 a1 a2 P) (sz : Nat) : Met l y_Md_stores (zz_ws y_Md_stores b_Md_stores 7 none) rm_Md_stores (va_Pc [.ref qd, .int a0, .int a1, .int a2] (zz_pw D [(cI, .int), (cB, .byte)] (wD qd qmemory qr qcounts cI cB ms dd Lwhole Lwhole2 bm rr kt) sz)) (va_Qv P (zz_qw D (fun u => wD qd qmemory qr qcounts cI cB ms u.1 u.2.1 u.2.2.1 u.2.2.2.1 u.2.2.2.2.1 u.2.2.2.2.2) (va_A (wD qd qmemory qr qcounts cI cB ms dd Lwhole Lwhole2 bm rr kt) sz)) (va_A (wD qd qmemory qr qcounts cI cB ms dd Lwhole Lwhole2 bm rr kt) sz)) 0 0 (va_A (wD qd qmemory qr qcounts cI cB ms dd Lwhole Lwhole2 bm rr kt) sz) := by
  refine Met.ofW (cc := b_Md_stores) (maxL := 7) (ret := none) (by decide) rfl ?_
  intro p e s m args below meth c s₁ B hml hv
  obtain ⟨rfl, hsz, hP, hK, hD0⟩ := hv
  have hx := B.exec
  have hb := B.bytes
  have hr := B.returns
  have hts := atoms_spec (ws := (zz_ws y_Md_stores b_Md_stores 7 none)) B.pre
  have hown : s.vm.findClass R_Md = some m.cls := findClass_of_methodNamed B.named
  have hlocks := B.notSynchronized
  have hT := zz_hts hts
  have X : CallFix p m c b_Md_stores 7 s ([.ref qd, .int a0, .int a1, .int a2] : List Value).toArray (zz_ws y_Md_stores b_Md_stores 7 none) R_Md := ⟨hx, hb, hml, hown, hts⟩
  have hf0 : 0 + 0 ≤ (headSpec (zz_ws y_Md_stores b_Md_stores 7 none) rm_Md_stores).room.cells ∧ 0 + 0 ≤ (headSpec (zz_ws y_Md_stores b_Md_stores 7 none) rm_Md_stores).room.slots := ⟨Nat.le_of_ble_eq_true rfl, Nat.le_of_ble_eq_true rfl⟩
  subst hsz
  have hD := hD0.self (sz := s.heap.size)
  generalize hAe : va_A (wD qd qmemory qr qcounts cI cB ms dd Lwhole Lwhole2 bm rr kt) s.heap.size = A at hD ⊢
  have hA : ∀ q : Nat, s.heap.size ≤ q → A q := fun q h => by rw [← hAe]; exact Or.inr h
  have hS : va_S A s.heap s.heap [] := va_S.rf
  have hl := lv_entry ([.ref qd, .int a0, .int a1, .int a2]) (n := 7) (Nat.le_of_ble_eq_true rfl)
  rw [lg_entry_eq]
  generalize (lg_sl ([.ref qd, .int a0, .int a1, .int a2]) ++ List.replicate (7 - (lg_sl ([.ref qd, .int a0, .int a1, .int a2])).length) Slot.unset).toArray = ls at hl ⊢
  have hl : lv_has ls 7 [(0, .ref qd), (1, .int a0), (2, .int a1), (3, .int a2)] := hl
  have jn_38 : ∀ (j38_4 : Int32) (z38dd : Nat → Int32) (z38Lwhole : Int64) (z38Lwhole2 : Int64) (z38bm : Nat → Int32) (z38rr : Nat → Int32) (z38kt : Nat → Int32), wj_Md_stores_38 ms a0 a1 a2 P j38_4 z38dd z38Lwhole z38Lwhole2 z38bm z38rr z38kt → ∀ (H : Heap) (locs : List Loc), va_P D vwCl (wD qd qmemory qr qcounts cI cB ms z38dd z38Lwhole z38Lwhole2 z38bm z38rr z38kt) H → va_D A (wD qd qmemory qr qcounts cI cB ms z38dd z38Lwhole z38Lwhole2 z38bm z38rr z38kt) → va_S A s.heap H locs → ∀ ls : Array Slot, lv_has ls 7 [(0, .ref qd), (1, .int a0), (2, .int a1), (3, .int a2), (4, .int j38_4)] → W p l e (headSpec (zz_ws y_Md_stores b_Md_stores 7 none) rm_Md_stores).room s m ([.ref qd, .int a0, .int a1, .int a2] : List Value).toArray below meth c H locs 0 0 (MQ below (va_Qv P (zz_qw D (fun u => wD qd qmemory qr qcounts cI cB ms u.1 u.2.1 u.2.2.1 u.2.2.2.1 u.2.2.2.2.1 u.2.2.2.2.2) A) A) ([.ref qd, .int a0, .int a1, .int a2] : List Value).toArray s 0 0 A) (F0 m 38 ls []) := by
    intro j38_4 z38dd z38Lwhole z38Lwhole2 z38bm z38rr z38kt h H locs hP hD hS ls hl
    unfold wj_Md_stores_38 at h
    refine lv_aload_n hx hb d_Md_stores_38 rfl (lv_at hl 0 rfl) ?_
    refine g_Md_63 (v := .int (z38dd 5)) hx hb hT hown hK hP 0 rfl rfl d_Md_stores_39 ?_
    refine lv_if_le (tgt := 46) hx hb d_Md_stores_42 (by decide) (fun c_1 => ?_) (fun c_1 => ?_)
    · skip
      have h := h.1 c_1
      refine lv_aload_n hx hb d_Md_stores_46 rfl (lv_at hl 0 rfl) ?_
      refine g_Md_29 (v := .ref qcounts) hx hb hT hown hK hP 0 rfl rfl d_Md_stores_47 ?_
      refine lv_iconst (v := 2) hx hb d_Md_stores_50 (by decide) ?_
      refine lv_dup2_11 hx hb d_Md_stores_51 rfl rfl ?_
      refine va_iald (f := z38kt) hx hb hK hP 3 0 rfl rfl h.1 d_Md_stores_52 ?_
      have h := h.2
      refine lv_topi (fun x_2 ex_2 => ?_)
      have h := h x_2 ex_2
      refine lv_iconst (v := 1) hx hb d_Md_stores_53 (by decide) ?_
      refine lv_iadd hx hb d_Md_stores_54 ?_
      refine va_iast (f := z38kt) hx hb hK hP hD hS 3 0 rfl rfl h.1 d_Md_stores_55 (fun H locs (hP : va_P D vwCl (wD qd qmemory qr qcounts cI cB ms z38dd z38Lwhole z38Lwhole2 z38bm z38rr (upd z38kt (2 : Int32).toNatClampNeg (x_2 + (1 : Int32)))) H) (hD : va_D A (wD qd qmemory qr qcounts cI cB ms z38dd z38Lwhole z38Lwhole2 z38bm z38rr (upd z38kt (2 : Int32).toNatClampNeg (x_2 + (1 : Int32))))) hS => ?_)
      have h := h.2
      refine lv_iload_n hx hb d_Md_stores_56 rfl (lv_at hl 2 rfl) ?_
      refine lv_iconst (v := 3) hx hb d_Md_stores_57 (by decide) ?_
      refine lv_iand hx hb d_Md_stores_58 ?_
      refine lv_topi (fun x_3 ex_3 => ?_)
      have h := h x_3 ex_3
      refine lv_istore (lv' := [(5, .int x_3), (0, .ref qd), (1, .int a0), (2, .int a1), (3, .int a2), (4, .int j38_4)]) hx hb d_Md_stores_59 hl (by decide) rfl (fun ls hl => ?_)
      refine lv_iload_n hx hb d_Md_stores_61 rfl (lv_at hl 2 rfl) ?_
      refine lv_bipush (v := 42) hx hb d_Md_stores_62 (by decide) ?_
      refine lv_icmp_ne (tgt := 111) hx hb d_Md_stores_64 (by decide) (fun c_4 => ?_) (fun c_4 => ?_)
      · skip
        have h := h.2 c_4
        refine lv_iload_n hx hb d_Md_stores_111 rfl (lv_at hl 2 rfl) ?_
        refine lv_bipush (v := 46) hx hb d_Md_stores_112 (by decide) ?_
        refine lv_icmp_ne (tgt := 158) hx hb d_Md_stores_114 (by decide) (fun c_5 => ?_) (fun c_5 => ?_)
        · skip
          have h := h.2 c_5
          refine lv_aload_n hx hb d_Md_stores_158 rfl (lv_at hl 1 rfl) ?_
          refine lv_iload_n hx hb d_Md_stores_159 rfl (lv_at hl 3 rfl) ?_
          refine lv_iload hx hb d_Md_stores_160 (lv_at hl 5 rfl) ?_
          refine lv_iload_n hx hb d_Md_stores_162 rfl (lv_at hl 4 rfl) ?_
          refine zz_Wv (As := [.int a1, .int j38_4, .int a2]) (rest := []) (wc := wD qd qmemory qr qcounts cI cB ms z38dd z38Lwhole z38Lwhole2 z38bm z38rr (upd z38kt (2 : Int32).toNatClampNeg (x_2 + (1 : Int32)))) (wr := []) X hK hP hD hS hA (c_Md_store l D cI cB qd qmemory qr qcounts ms z38dd z38Lwhole z38Lwhole2 z38bm z38rr (upd z38kt (2 : Int32).toNatClampNeg (x_2 + (1 : Int32))) a1 j38_4 a2 _ h _) ⟨rfl, rfl⟩ m_Md_store k_Md_50 ⟨Nat.le_of_ble_eq_true rfl, Nat.le_of_ble_eq_true rfl⟩ [0, 1, 2, 3] [] rfl rfl (by decide) (by decide) (by decide) 6 0 rfl rfl rfl rfl hl.1 rfl (Nat.le_of_ble_eq_true rfl) d_Md_stores_163 hf0 (fun u_6 H locs h hP hD hS => ?_)
          have hP : va_P D vwCl (wD qd qmemory qr qcounts cI cB ms u_6.1 u_6.2.1 u_6.2.2.1 u_6.2.2.2.1 u_6.2.2.2.2.1 u_6.2.2.2.2.2) H := hP.sub [0, 1, 2, 3] rfl
          have hD : va_D A (wD qd qmemory qr qcounts cI cB ms u_6.1 u_6.2.1 u_6.2.2.1 u_6.2.2.2.1 u_6.2.2.2.2.1 u_6.2.2.2.2.2) := hD.sub [0, 1, 2, 3] (by decide) rfl
          exact W.vret hx hb hr (fun t ht hW => ⟨⟨(u_6.1, u_6.2.1, u_6.2.2.1, u_6.2.2.2.1, u_6.2.2.2.2.1, u_6.2.2.2.2.2), rfl, h, by rw [ht]; exact hP, hD⟩, hS.F ht⟩) hS.2.2 d_Md_stores_166
        · skip
          have h := h.1 c_5
          refine lv_iconst (v := 0) hx hb d_Md_stores_117 (by decide) ?_
          refine lv_istore (lv' := [(6, .int (0 : Int32)), (5, .int x_3), (0, .ref qd), (1, .int a0), (2, .int a1), (3, .int a2), (4, .int j38_4)]) hx hb d_Md_stores_118 hl (by decide) rfl (fun ls hl => ?_)
          have lp : ∀ (n : Nat) (v6 : Int32) (v5 : Int32) (v4 : Int32) (wdd : Nat → Int32) (wLwhole : Int64) (wLwhole2 : Int64) (wbm : Nat → Int32) (wrr : Nat → Int32) (wkt : Nat → Int32), wl_Md_stores_120 ms a0 a1 a2 P n v6 v5 v4 wdd wLwhole wLwhole2 wbm wrr wkt → ∀ (H : Heap) (locs : List Loc), va_P D vwCl (wD qd qmemory qr qcounts cI cB ms wdd wLwhole wLwhole2 wbm wrr wkt) H → va_D A (wD qd qmemory qr qcounts cI cB ms wdd wLwhole wLwhole2 wbm wrr wkt) → va_S A s.heap H locs → ∀ ls : Array Slot, lv_has ls 7 [(6, .int v6), (5, .int v5), (0, .ref qd), (1, .int a0), (2, .int a1), (3, .int a2), (4, .int v4)] → W p l e (headSpec (zz_ws y_Md_stores b_Md_stores 7 none) rm_Md_stores).room s m ([.ref qd, .int a0, .int a1, .int a2] : List Value).toArray below meth c H locs 0 0 (MQ below (va_Qv P (zz_qw D (fun u => wD qd qmemory qr qcounts cI cB ms u.1 u.2.1 u.2.2.1 u.2.2.2.1 u.2.2.2.2.1 u.2.2.2.2.2) A) A) ([.ref qd, .int a0, .int a1, .int a2] : List Value).toArray s 0 0 A) (F0 m 120 ls []) := by
            intro n
            induction n with
            | zero =>
              intro v6 v5 v4 wdd wLwhole wLwhole2 wbm wrr wkt h
              exact False.elim h
            | succ n ih =>
              intro v6 v5 v4 wdd wLwhole wLwhole2 wbm wrr wkt h H locs hP hD hS ls hl
              rw [wl_Md_stores_120] at h
              refine lv_iload hx hb d_Md_stores_120 (lv_at hl 0 rfl) ?_
              refine lv_iload hx hb d_Md_stores_122 (lv_at hl 1 rfl) ?_
              refine lv_icmp_gt (tgt := 155) hx hb d_Md_stores_124 (by decide) (fun c_8 => ?_) (fun c_8 => ?_)
              · skip
                have h := h.1 c_8
                refine lv_goto (tgt := 166) hx hb d_Md_stores_155 (by decide) ?_
                exact W.vret hx hb hr (fun t ht hW => ⟨⟨(wdd, wLwhole, wLwhole2, wbm, wrr, wkt), rfl, h, by rw [ht]; exact hP, hD⟩, hS.F ht⟩) hS.2.2 d_Md_stores_166
              · skip
                have h := h.2 c_8
                refine lv_aload_n hx hb d_Md_stores_127 rfl (lv_at hl 2 rfl) ?_
                refine lv_iload_n hx hb d_Md_stores_128 rfl (lv_at hl 4 rfl) ?_
                refine lv_bipush (v := -4) hx hb d_Md_stores_129 (by decide) ?_
                refine lv_iand hx hb d_Md_stores_131 ?_
                refine lv_iload hx hb d_Md_stores_132 (lv_at hl 0 rfl) ?_
                refine lv_iadd hx hb d_Md_stores_134 ?_
                refine lv_iconst (v := 1) hx hb d_Md_stores_135 (by decide) ?_
                refine lv_iload_n hx hb d_Md_stores_136 rfl (lv_at hl 5 rfl) ?_
                refine lv_bipush (v := 8) hx hb d_Md_stores_137 (by decide) ?_
                refine lv_iload hx hb d_Md_stores_139 (lv_at hl 1 rfl) ?_
                refine lv_iload hx hb d_Md_stores_141 (lv_at hl 0 rfl) ?_
                refine lv_isub hx hb d_Md_stores_143 ?_
                refine lv_imul hx hb d_Md_stores_144 ?_
                refine zz_iushr hx hb d_Md_stores_145 ?_
                refine lv_topi (fun x_9 ex_9 => ?_)
                have h := h x_9 ex_9
                refine zz_Wv (As := [.int ((a1 &&& (-4 : Int32)) + v6), .int (1 : Int32), .int x_9]) (rest := []) (wc := wD qd qmemory qr qcounts cI cB ms wdd wLwhole wLwhole2 wbm wrr wkt) (wr := []) X hK hP hD hS hA (c_Md_store l D cI cB qd qmemory qr qcounts ms wdd wLwhole wLwhole2 wbm wrr wkt ((a1 &&& (-4 : Int32)) + v6) (1 : Int32) x_9 _ h _) ⟨rfl, rfl⟩ m_Md_store k_Md_50 ⟨Nat.le_of_ble_eq_true rfl, Nat.le_of_ble_eq_true rfl⟩ [0, 1, 2, 3] [] rfl rfl (by decide) (by decide) (by decide) 6 0 rfl rfl rfl rfl hl.1 rfl (Nat.le_of_ble_eq_true rfl) d_Md_stores_146 hf0 (fun u_10 H locs h hP hD hS => ?_)
                have hP : va_P D vwCl (wD qd qmemory qr qcounts cI cB ms u_10.1 u_10.2.1 u_10.2.2.1 u_10.2.2.2.1 u_10.2.2.2.2.1 u_10.2.2.2.2.2) H := hP.sub [0, 1, 2, 3] rfl
                have hD : va_D A (wD qd qmemory qr qcounts cI cB ms u_10.1 u_10.2.1 u_10.2.2.1 u_10.2.2.2.1 u_10.2.2.2.2.1 u_10.2.2.2.2.2) := hD.sub [0, 1, 2, 3] (by decide) rfl
                obtain ⟨x_12, ex_12⟩ : ∃ y : Int32, y = v6 + 1 := ⟨_, rfl⟩
                have h := h x_12 ex_12
                refine lv_iinc (v := x_12) (lv' := [(6, .int x_12), (5, .int v5), (0, .ref qd), (1, .int a0), (2, .int a1), (3, .int a2), (4, .int v4)]) hx hb d_Md_stores_149 hl (k := 0) rfl (by rw [ex_12]; rfl) (by decide) rfl (fun ls hl => ?_)
                refine lv_goto (tgt := 120) hx hb d_Md_stores_152 (by decide) ?_
                exact ih x_12 v5 v4 u_10.1 u_10.2.1 u_10.2.2.1 u_10.2.2.2.1 u_10.2.2.2.2.1 u_10.2.2.2.2.2 h H locs hP hD hS ls (lv_sub hl [0, 1, 2, 3, 4, 5, 6] rfl)
          obtain ⟨n, h⟩ := h
          exact lp n (0 : Int32) x_3 j38_4 z38dd z38Lwhole z38Lwhole2 z38bm z38rr (upd z38kt (2 : Int32).toNatClampNeg (x_2 + (1 : Int32))) h _ _ hP hD hS ls hl
      · skip
        have h := h.1 c_4
        refine lv_iload hx hb d_Md_stores_67 (lv_at hl 0 rfl) ?_
        refine lv_istore (lv' := [(6, .int x_3), (5, .int x_3), (0, .ref qd), (1, .int a0), (2, .int a1), (3, .int a2), (4, .int j38_4)]) hx hb d_Md_stores_69 hl (by decide) rfl (fun ls hl => ?_)
        have lp : ∀ (n : Nat) (v6 : Int32) (v5 : Int32) (v4 : Int32) (wdd : Nat → Int32) (wLwhole : Int64) (wLwhole2 : Int64) (wbm : Nat → Int32) (wrr : Nat → Int32) (wkt : Nat → Int32), wl_Md_stores_71 ms a0 a1 a2 P n v6 v5 v4 wdd wLwhole wLwhole2 wbm wrr wkt → ∀ (H : Heap) (locs : List Loc), va_P D vwCl (wD qd qmemory qr qcounts cI cB ms wdd wLwhole wLwhole2 wbm wrr wkt) H → va_D A (wD qd qmemory qr qcounts cI cB ms wdd wLwhole wLwhole2 wbm wrr wkt) → va_S A s.heap H locs → ∀ ls : Array Slot, lv_has ls 7 [(6, .int v6), (5, .int v5), (0, .ref qd), (1, .int a0), (2, .int a1), (3, .int a2), (4, .int v4)] → W p l e (headSpec (zz_ws y_Md_stores b_Md_stores 7 none) rm_Md_stores).room s m ([.ref qd, .int a0, .int a1, .int a2] : List Value).toArray below meth c H locs 0 0 (MQ below (va_Qv P (zz_qw D (fun u => wD qd qmemory qr qcounts cI cB ms u.1 u.2.1 u.2.2.1 u.2.2.2.1 u.2.2.2.2.1 u.2.2.2.2.2) A) A) ([.ref qd, .int a0, .int a1, .int a2] : List Value).toArray s 0 0 A) (F0 m 71 ls []) := by
          intro n
          induction n with
          | zero =>
            intro v6 v5 v4 wdd wLwhole wLwhole2 wbm wrr wkt h
            exact False.elim h
          | succ n ih =>
            intro v6 v5 v4 wdd wLwhole wLwhole2 wbm wrr wkt h H locs hP hD hS ls hl
            rw [wl_Md_stores_71] at h
            refine lv_iload hx hb d_Md_stores_71 (lv_at hl 0 rfl) ?_
            refine lv_iconst (v := 4) hx hb d_Md_stores_73 (by decide) ?_
            refine lv_icmp_ge (tgt := 108) hx hb d_Md_stores_74 (by decide) (fun c_13 => ?_) (fun c_13 => ?_)
            · skip
              have h := h.1 c_13
              refine lv_goto (tgt := 166) hx hb d_Md_stores_108 (by decide) ?_
              exact W.vret hx hb hr (fun t ht hW => ⟨⟨(wdd, wLwhole, wLwhole2, wbm, wrr, wkt), rfl, h, by rw [ht]; exact hP, hD⟩, hS.F ht⟩) hS.2.2 d_Md_stores_166
            · skip
              have h := h.2 c_13
              refine lv_aload_n hx hb d_Md_stores_77 rfl (lv_at hl 2 rfl) ?_
              refine lv_iload_n hx hb d_Md_stores_78 rfl (lv_at hl 4 rfl) ?_
              refine lv_bipush (v := -4) hx hb d_Md_stores_79 (by decide) ?_
              refine lv_iand hx hb d_Md_stores_81 ?_
              refine lv_iload hx hb d_Md_stores_82 (lv_at hl 0 rfl) ?_
              refine lv_iadd hx hb d_Md_stores_84 ?_
              refine lv_iconst (v := 1) hx hb d_Md_stores_85 (by decide) ?_
              refine lv_iload_n hx hb d_Md_stores_86 rfl (lv_at hl 5 rfl) ?_
              refine lv_bipush (v := 24) hx hb d_Md_stores_87 (by decide) ?_
              refine lv_bipush (v := 8) hx hb d_Md_stores_89 (by decide) ?_
              refine lv_iload hx hb d_Md_stores_91 (lv_at hl 0 rfl) ?_
              refine lv_iload hx hb d_Md_stores_93 (lv_at hl 1 rfl) ?_
              refine lv_isub hx hb d_Md_stores_95 ?_
              refine lv_imul hx hb d_Md_stores_96 ?_
              refine lv_isub hx hb d_Md_stores_97 ?_
              refine lv_topi (fun x_14 ex_14 => ?_)
              have h := h x_14 ex_14
              refine zz_iushr hx hb d_Md_stores_98 ?_
              refine zz_Wv (As := [.int ((a1 &&& (-4 : Int32)) + v6), .int (1 : Int32), .int (zz_ushr a2 x_14)]) (rest := []) (wc := wD qd qmemory qr qcounts cI cB ms wdd wLwhole wLwhole2 wbm wrr wkt) (wr := []) X hK hP hD hS hA (c_Md_store l D cI cB qd qmemory qr qcounts ms wdd wLwhole wLwhole2 wbm wrr wkt ((a1 &&& (-4 : Int32)) + v6) (1 : Int32) (zz_ushr a2 x_14) _ h _) ⟨rfl, rfl⟩ m_Md_store k_Md_50 ⟨Nat.le_of_ble_eq_true rfl, Nat.le_of_ble_eq_true rfl⟩ [0, 1, 2, 3] [] rfl rfl (by decide) (by decide) (by decide) 6 0 rfl rfl rfl rfl hl.1 rfl (Nat.le_of_ble_eq_true rfl) d_Md_stores_99 hf0 (fun u_15 H locs h hP hD hS => ?_)
              have hP : va_P D vwCl (wD qd qmemory qr qcounts cI cB ms u_15.1 u_15.2.1 u_15.2.2.1 u_15.2.2.2.1 u_15.2.2.2.2.1 u_15.2.2.2.2.2) H := hP.sub [0, 1, 2, 3] rfl
              have hD : va_D A (wD qd qmemory qr qcounts cI cB ms u_15.1 u_15.2.1 u_15.2.2.1 u_15.2.2.2.1 u_15.2.2.2.2.1 u_15.2.2.2.2.2) := hD.sub [0, 1, 2, 3] (by decide) rfl
              obtain ⟨x_17, ex_17⟩ : ∃ y : Int32, y = v6 + 1 := ⟨_, rfl⟩
              have h := h x_17 ex_17
              refine lv_iinc (v := x_17) (lv' := [(6, .int x_17), (5, .int v5), (0, .ref qd), (1, .int a0), (2, .int a1), (3, .int a2), (4, .int v4)]) hx hb d_Md_stores_102 hl (k := 0) rfl (by rw [ex_17]; rfl) (by decide) rfl (fun ls hl => ?_)
              refine lv_goto (tgt := 71) hx hb d_Md_stores_105 (by decide) ?_
              exact ih x_17 v5 v4 u_15.1 u_15.2.1 u_15.2.2.1 u_15.2.2.2.1 u_15.2.2.2.2.1 u_15.2.2.2.2.2 h H locs hP hD hS ls (lv_sub hl [0, 1, 2, 3, 4, 5, 6] rfl)
        obtain ⟨n, h⟩ := h
        exact lp n x_3 x_3 j38_4 z38dd z38Lwhole z38Lwhole2 z38bm z38rr (upd z38kt (2 : Int32).toNatClampNeg (x_2 + (1 : Int32))) h _ _ hP hD hS ls hl
    · skip
      have h := h.2 c_1
      exact W.vret hx hb hr (fun t ht hW => ⟨⟨(z38dd, z38Lwhole, z38Lwhole2, z38bm, z38rr, z38kt), rfl, h, by rw [ht]; exact hP, hD⟩, hS.F ht⟩) hS.2.2 d_Md_stores_45
  have jn_21 : ∀ (s21_0 : Int32) (z21dd : Nat → Int32) (z21Lwhole : Int64) (z21Lwhole2 : Int64) (z21bm : Nat → Int32) (z21rr : Nat → Int32) (z21kt : Nat → Int32), wj_Md_stores_21 ms a0 a1 a2 P s21_0 z21dd z21Lwhole z21Lwhole2 z21bm z21rr z21kt → ∀ (H : Heap) (locs : List Loc), va_P D vwCl (wD qd qmemory qr qcounts cI cB ms z21dd z21Lwhole z21Lwhole2 z21bm z21rr z21kt) H → va_D A (wD qd qmemory qr qcounts cI cB ms z21dd z21Lwhole z21Lwhole2 z21bm z21rr z21kt) → va_S A s.heap H locs → ∀ ls : Array Slot, lv_has ls 7 [(0, .ref qd), (1, .int a0), (2, .int a1), (3, .int a2)] → W p l e (headSpec (zz_ws y_Md_stores b_Md_stores 7 none) rm_Md_stores).room s m ([.ref qd, .int a0, .int a1, .int a2] : List Value).toArray below meth c H locs 0 0 (MQ below (va_Qv P (zz_qw D (fun u => wD qd qmemory qr qcounts cI cB ms u.1 u.2.1 u.2.2.1 u.2.2.2.1 u.2.2.2.2.1 u.2.2.2.2.2) A) A) ([.ref qd, .int a0, .int a1, .int a2] : List Value).toArray s 0 0 A) (F0 m 21 ls [.int s21_0]) := by
    intro s21_0 z21dd z21Lwhole z21Lwhole2 z21bm z21rr z21kt h H locs hP hD hS ls hl
    unfold wj_Md_stores_21 at h
    refine lv_istore (lv' := [(4, .int s21_0), (0, .ref qd), (1, .int a0), (2, .int a1), (3, .int a2)]) hx hb d_Md_stores_21 hl (by decide) rfl (fun ls hl => ?_)
    refine lv_aload_n hx hb d_Md_stores_23 rfl (lv_at hl 1 rfl) ?_
    refine lv_iload_n hx hb d_Md_stores_24 rfl (lv_at hl 3 rfl) ?_
    refine lv_iload hx hb d_Md_stores_25 (lv_at hl 0 rfl) ?_
    refine zz_Ri (As := [.int a1, .int s21_0]) (rest := []) (wc := wD qd qmemory qr qcounts cI cB ms z21dd z21Lwhole z21Lwhole2 z21bm z21rr z21kt) X hK hP (c_Md_good l D cI cB qd qmemory qr qcounts ms z21dd z21Lwhole z21Lwhole2 z21bm z21rr z21kt a1 s21_0 _ h) ⟨rfl, rfl⟩ m_Md_good k_Md_38 ⟨Nat.le_of_ble_eq_true rfl, Nat.le_of_ble_eq_true rfl⟩ [0, 1, 2, 3] rfl 6 0 rfl rfl rfl rfl hl.1 rfl (Nat.le_of_ble_eq_true rfl) d_Md_stores_27 hf0 (fun r_18 h => ?_)
    refine lv_if_ne (tgt := 38) hx hb d_Md_stores_30 (by decide) (fun c_19 => ?_) (fun c_19 => ?_)
    · skip
      have h := h.2 c_19
      exact jn_38 s21_0 z21dd z21Lwhole z21Lwhole2 z21bm z21rr z21kt h _ _ hP hD hS ls (lv_sub hl [1, 2, 3, 4, 0] rfl)
    · skip
      have h := h.1 c_19
      refine lv_aload_n hx hb d_Md_stores_33 rfl (lv_at hl 1 rfl) ?_
      refine lv_iconst (v := 2) hx hb d_Md_stores_34 (by decide) ?_
      refine zz_Wv (As := [.int (2 : Int32)]) (rest := []) (wc := wD qd qmemory qr qcounts cI cB ms z21dd z21Lwhole z21Lwhole2 z21bm z21rr z21kt) (wr := []) X hK hP hD hS hA (c_Md_ends l D cI cB qd qmemory qr qcounts ms z21dd z21Lwhole z21Lwhole2 z21bm z21rr z21kt (2 : Int32) _ h _) ⟨rfl, rfl⟩ m_Md_ends k_Md_116 ⟨Nat.le_of_ble_eq_true rfl, Nat.le_of_ble_eq_true rfl⟩ [0, 1, 2, 3] [] rfl rfl (by decide) (by decide) (by decide) 6 0 rfl rfl rfl rfl hl.1 rfl (Nat.le_of_ble_eq_true rfl) d_Md_stores_35 hf0 (fun u_20 H locs h hP hD hS => ?_)
      have hP : va_P D vwCl (wD qd qmemory qr qcounts cI cB ms u_20.1 u_20.2.1 u_20.2.2.1 u_20.2.2.2.1 u_20.2.2.2.2.1 u_20.2.2.2.2.2) H := hP.sub [0, 1, 2, 3] rfl
      have hD : va_D A (wD qd qmemory qr qcounts cI cB ms u_20.1 u_20.2.1 u_20.2.2.1 u_20.2.2.2.1 u_20.2.2.2.2.1 u_20.2.2.2.2.2) := hD.sub [0, 1, 2, 3] (by decide) rfl
      exact jn_38 s21_0 u_20.1 u_20.2.1 u_20.2.2.1 u_20.2.2.2.1 u_20.2.2.2.2.1 u_20.2.2.2.2.2 h _ _ hP hD hS ls (lv_sub hl [1, 2, 3, 4, 0] rfl)
  refine lv_iload_n hx hb d_Md_stores_0 rfl (lv_at hl 1 rfl) ?_
  refine lv_bipush (v := 41) hx hb d_Md_stores_1 (by decide) ?_
  refine lv_icmp_ne (tgt := 10) hx hb d_Md_stores_3 (by decide) (fun c_22 => ?_) (fun c_22 => ?_)
  · skip
    have h := h.2 c_22
    refine lv_iload_n hx hb d_Md_stores_10 rfl (lv_at hl 1 rfl) ?_
    refine lv_bipush (v := 43) hx hb d_Md_stores_11 (by decide) ?_
    refine lv_icmp_ne (tgt := 20) hx hb d_Md_stores_13 (by decide) (fun c_23 => ?_) (fun c_23 => ?_)
    · skip
      have h := h.2 c_23
      refine lv_iconst (v := 1) hx hb d_Md_stores_20 (by decide) ?_
      exact jn_21 (1 : Int32) dd Lwhole Lwhole2 bm rr kt h _ _ hP hD hS ls (lv_sub hl [0, 1, 2, 3] rfl)
    · skip
      have h := h.1 c_23
      refine lv_iconst (v := 4) hx hb d_Md_stores_16 (by decide) ?_
      refine lv_goto (tgt := 21) hx hb d_Md_stores_17 (by decide) ?_
      exact jn_21 (4 : Int32) dd Lwhole Lwhole2 bm rr kt h _ _ hP hD hS ls (lv_sub hl [0, 1, 2, 3] rfl)
  · skip
    have h := h.1 c_22
    refine lv_iconst (v := 2) hx hb d_Md_stores_6 (by decide) ?_
    refine lv_goto (tgt := 21) hx hb d_Md_stores_7 (by decide) ?_
    exact jn_21 (2 : Int32) dd Lwhole Lwhole2 bm rr kt h _ _ hP hD hS ls (lv_sub hl [0, 1, 2, 3] rfl)
def wj_Md_memories_222 (ms : Int32) (a0 : Int32) (P : ((Nat → Int32) × Int64 × Int64 × (Nat → Int32) × (Nat → Int32) × (Nat → Int32)) → Prop) (j222_2 : Int32) (j222_3 : Int32) (z222dd : Nat → Int32) (z222Lwhole : Int64) (z222Lwhole2 : Int64) (z222bm : Nat → Int32) (z222rr : Nat → Int32) (z222kt : Nat → Int32) : Prop := (((z222dd 5) ≤ (0 : Int32) → vp_in j222_3 67 ∧ ∀ x_2 : Int32, x_2 = (z222rr j222_3.toNatClampNeg) → wp_Md_store ms z222dd z222Lwhole z222Lwhole2 z222bm z222rr z222kt j222_2 (4 : Int32) x_2 (fun u_3 => wp_Md_into ms u_3.1 u_3.2.1 u_3.2.2.1 u_3.2.2.2.1 u_3.2.2.2.2.1 u_3.2.2.2.2.2 j222_3 (1 : Int32) (fun u_5 => vp_in (2 : Int32) 5 ∧ ∀ x_7 : Int32, x_7 = (u_5.2.2.2.2.2 (2 : Int32).toNatClampNeg) → vp_in (2 : Int32) 5 ∧ P ((upd u_5.1 7 (0 : Int32)), u_5.2.1, u_5.2.2.1, u_5.2.2.2.1, u_5.2.2.2.2.1, (upd u_5.2.2.2.2.2 (2 : Int32).toNatClampNeg (x_7 + (1 : Int32))))))) ∧ (¬ (z222dd 5) ≤ (0 : Int32) → P (z222dd, z222Lwhole, z222Lwhole2, z222bm, z222rr, z222kt)))
def wj_Md_memories_208 (ms : Int32) (a0 : Int32) (P : ((Nat → Int32) × Int64 × Int64 × (Nat → Int32) × (Nat → Int32) × (Nat → Int32)) → Prop) (j208_2 : Int32) (j208_3 : Int32) (z208dd : Nat → Int32) (z208Lwhole : Int64) (z208Lwhole2 : Int64) (z208bm : Nat → Int32) (z208rr : Nat → Int32) (z208kt : Nat → Int32) : Prop := wp_Md_good ms z208dd z208Lwhole z208Lwhole2 z208bm z208rr z208kt j208_2 (4 : Int32) (fun r_8 => ((r_8 = (0 : Int32) → wp_Md_ends ms z208dd z208Lwhole z208Lwhole2 z208bm z208rr z208kt (2 : Int32) (fun u_10 => wj_Md_memories_222 ms a0 P j208_2 j208_3 u_10.1 u_10.2.1 u_10.2.2.1 u_10.2.2.2.1 u_10.2.2.2.2.1 u_10.2.2.2.2.2)) ∧ (¬ r_8 = (0 : Int32) → wj_Md_memories_222 ms a0 P j208_2 j208_3 z208dd z208Lwhole z208Lwhole2 z208bm z208rr z208kt)))
def wj_Md_memories_202 (ms : Int32) (a0 : Int32) (P : ((Nat → Int32) × Int64 × Int64 × (Nat → Int32) × (Nat → Int32) × (Nat → Int32)) → Prop) (j202_2 : Int32) (j202_3 : Int32) (z202dd : Nat → Int32) (z202Lwhole : Int64) (z202Lwhole2 : Int64) (z202bm : Nat → Int32) (z202rr : Nat → Int32) (z202kt : Nat → Int32) : Prop := wp_Md_ends ms z202dd z202Lwhole z202Lwhole2 z202bm z202rr z202kt (8 : Int32) (fun u_12 => wj_Md_memories_208 ms a0 P j202_2 j202_3 u_12.1 u_12.2.1 u_12.2.2.1 u_12.2.2.2.1 u_12.2.2.2.2.1 u_12.2.2.2.2.2)
def wj_Md_memories_166 (ms : Int32) (a0 : Int32) (P : ((Nat → Int32) × Int64 × Int64 × (Nat → Int32) × (Nat → Int32) × (Nat → Int32)) → Prop) (j166_2 : Int32) (j166_3 : Int32) (z166dd : Nat → Int32) (z166Lwhole : Int64) (z166Lwhole2 : Int64) (z166bm : Nat → Int32) (z166rr : Nat → Int32) (z166kt : Nat → Int32) : Prop := vp_in j166_3 67 ∧ ∀ x_14 : Int32, x_14 = (z166rr j166_3.toNatClampNeg) → wp_Md_stores ms z166dd z166Lwhole z166Lwhole2 z166bm z166rr z166kt a0 j166_2 x_14 (fun u_15 => P (u_15.1, u_15.2.1, u_15.2.2.1, u_15.2.2.2.1, u_15.2.2.2.2.1, u_15.2.2.2.2.2))
def wj_Md_memories_94 (ms : Int32) (a0 : Int32) (P : ((Nat → Int32) × Int64 × Int64 × (Nat → Int32) × (Nat → Int32) × (Nat → Int32)) → Prop) (j94_2 : Int32) (j94_3 : Int32) (z94dd : Nat → Int32) (z94Lwhole : Int64) (z94Lwhole2 : Int64) (z94bm : Nat → Int32) (z94rr : Nat → Int32) (z94kt : Nat → Int32) : Prop := (((z94dd 5) ≤ (0 : Int32) → wp_Md_part ms z94dd z94Lwhole z94Lwhole2 z94bm z94rr z94kt j94_2 (4 : Int32) (fun r_18 => wp_Md_into ms z94dd z94Lwhole z94Lwhole2 z94bm z94rr z94kt j94_3 r_18 (fun u_19 => vp_in (1 : Int32) 5 ∧ ∀ x_21 : Int32, x_21 = (u_19.2.2.2.2.2 (1 : Int32).toNatClampNeg) → vp_in (1 : Int32) 5 ∧ P ((upd (upd u_19.1 7 (1 : Int32)) 8 j94_2), u_19.2.1, u_19.2.2.1, u_19.2.2.2.1, u_19.2.2.2.2.1, (upd u_19.2.2.2.2.2 (1 : Int32).toNatClampNeg (x_21 + (1 : Int32))))))) ∧ (¬ (z94dd 5) ≤ (0 : Int32) → P (z94dd, z94Lwhole, z94Lwhole2, z94bm, z94rr, z94kt)))
def wj_Md_memories_48 (ms : Int32) (a0 : Int32) (P : ((Nat → Int32) × Int64 × Int64 × (Nat → Int32) × (Nat → Int32) × (Nat → Int32)) → Prop) (j48_2 : Int32) (j48_3 : Int32) (z48dd : Nat → Int32) (z48Lwhole : Int64) (z48Lwhole2 : Int64) (z48bm : Nat → Int32) (z48rr : Nat → Int32) (z48kt : Nat → Int32) : Prop := wp_Md_fractionMemory ms z48dd z48Lwhole z48Lwhole2 z48bm z48rr z48kt a0 j48_2 j48_3 (fun u_22 => P (u_22.1, u_22.2.1, u_22.2.2.1, u_22.2.2.2.1, u_22.2.2.2.2.1, u_22.2.2.2.2.2))
def wp_Md_memories (ms : Int32) (dd : Nat → Int32) (Lwhole : Int64) (Lwhole2 : Int64) (bm : Nat → Int32) (rr : Nat → Int32) (kt : Nat → Int32) (a0 : Int32) (P : ((Nat → Int32) × Int64 × Int64 × (Nat → Int32) × (Nat → Int32) × (Nat → Int32)) → Prop) : Prop := wp_Md_rs ms dd Lwhole Lwhole2 bm rr kt (fun r_24 => wp_Md_offset ms dd Lwhole Lwhole2 bm rr kt (fun r_25 => ∀ x_26 : Int32, x_26 = (r_24 + r_25) → wp_Md_field ms dd Lwhole Lwhole2 bm rr kt (16 : Int32) (fun r_27 => ((a0 = (51 : Int32) → P (dd, Lwhole, Lwhole2, bm, rr, kt)) ∧ (¬ a0 = (51 : Int32) → ((a0 = (49 : Int32) → wj_Md_memories_48 ms a0 P x_26 r_27 dd Lwhole Lwhole2 bm rr kt) ∧ (¬ a0 = (49 : Int32) → ((a0 = (53 : Int32) → wj_Md_memories_48 ms a0 P x_26 r_27 dd Lwhole Lwhole2 bm rr kt) ∧ (¬ a0 = (53 : Int32) → ((a0 = (57 : Int32) → wj_Md_memories_48 ms a0 P x_26 r_27 dd Lwhole Lwhole2 bm rr kt) ∧ (¬ a0 = (57 : Int32) → ((a0 = (61 : Int32) → wj_Md_memories_48 ms a0 P x_26 r_27 dd Lwhole Lwhole2 bm rr kt) ∧ (¬ a0 = (61 : Int32) → (((39 : Int32) ≤ a0 → ((a0 = (48 : Int32) → wp_Md_good ms dd Lwhole Lwhole2 bm rr kt x_26 (4 : Int32) (fun r_45 => ((r_45 = (0 : Int32) → wp_Md_ends ms dd Lwhole Lwhole2 bm rr kt (1 : Int32) (fun u_47 => wj_Md_memories_94 ms a0 P x_26 r_27 u_47.1 u_47.2.1 u_47.2.2.1 u_47.2.2.2.1 u_47.2.2.2.2.1 u_47.2.2.2.2.2)) ∧ (¬ r_45 = (0 : Int32) → wj_Md_memories_94 ms a0 P x_26 r_27 dd Lwhole Lwhole2 bm rr kt)))) ∧ (¬ a0 = (48 : Int32) → ((a0 = (40 : Int32) → wj_Md_memories_166 ms a0 P x_26 r_27 dd Lwhole Lwhole2 bm rr kt) ∧ (¬ a0 = (40 : Int32) → ((a0 = (41 : Int32) → wj_Md_memories_166 ms a0 P x_26 r_27 dd Lwhole Lwhole2 bm rr kt) ∧ (¬ a0 = (41 : Int32) → ((a0 = (42 : Int32) → wj_Md_memories_166 ms a0 P x_26 r_27 dd Lwhole Lwhole2 bm rr kt) ∧ (¬ a0 = (42 : Int32) → ((a0 = (43 : Int32) → wj_Md_memories_166 ms a0 P x_26 r_27 dd Lwhole Lwhole2 bm rr kt) ∧ (¬ a0 = (43 : Int32) → ((a0 = (46 : Int32) → wj_Md_memories_166 ms a0 P x_26 r_27 dd Lwhole Lwhole2 bm rr kt) ∧ (¬ a0 = (46 : Int32) → ((a0 = (56 : Int32) → (((dd 7) = (0 : Int32) → wj_Md_memories_202 ms a0 P x_26 r_27 dd Lwhole Lwhole2 bm rr kt) ∧ (¬ (dd 7) = (0 : Int32) → (((dd 8) = x_26 → wj_Md_memories_208 ms a0 P x_26 r_27 dd Lwhole Lwhole2 bm rr kt) ∧ (¬ (dd 8) = x_26 → wj_Md_memories_202 ms a0 P x_26 r_27 dd Lwhole Lwhole2 bm rr kt))))) ∧ (¬ a0 = (56 : Int32) → wp_Md_ends ms dd Lwhole Lwhole2 bm rr kt (3 : Int32) (fun u_41 => P (u_41.1, u_41.2.1, u_41.2.2.1, u_41.2.2.2.1, u_41.2.2.2.2.1, u_41.2.2.2.2.2))))))))))))))))) ∧ (¬ (39 : Int32) ≤ a0 → wp_Md_loads ms dd Lwhole Lwhole2 bm rr kt a0 x_26 r_27 (fun u_49 => P (u_49.1, u_49.2.1, u_49.2.2.1, u_49.2.2.2.1, u_49.2.2.2.2.1, u_49.2.2.2.2.2)))))))))))))))))
abbrev rm_Md_memories : Room := { frames := 2, cells := 0, slots := 0, locals := 51 }
set_option maxHeartbeats 4000000 in
set_option maxRecDepth 100000 in
theorem c_Md_memories (l : Launch) (D : va_G) (cI : ClassId) (cB : ClassId) (qd : Nat) (qmemory : Nat) (qr : Nat) (qcounts : Nat) (ms : Int32) (dd : Nat → Int32) (Lwhole : Int64) (Lwhole2 : Int64) (bm : Nat → Int32) (rr : Nat → Int32) (kt : Nat → Int32) (a0 : Int32) (P : ((Nat → Int32) × Int64 × Int64 × (Nat → Int32) × (Nat → Int32) × (Nat → Int32)) → Prop) (h : wp_Md_memories ms dd Lwhole Lwhole2 bm rr kt a0 P) (sz : Nat) : Met l y_Md_memories (zz_ws y_Md_memories b_Md_memories 4 none) rm_Md_memories (va_Pc [.ref qd, .int a0] (zz_pw D [(cI, .int), (cB, .byte)] (wD qd qmemory qr qcounts cI cB ms dd Lwhole Lwhole2 bm rr kt) sz)) (va_Qv P (zz_qw D (fun u => wD qd qmemory qr qcounts cI cB ms u.1 u.2.1 u.2.2.1 u.2.2.2.1 u.2.2.2.2.1 u.2.2.2.2.2) (va_A (wD qd qmemory qr qcounts cI cB ms dd Lwhole Lwhole2 bm rr kt) sz)) (va_A (wD qd qmemory qr qcounts cI cB ms dd Lwhole Lwhole2 bm rr kt) sz)) 0 0 (va_A (wD qd qmemory qr qcounts cI cB ms dd Lwhole Lwhole2 bm rr kt) sz) := by
  refine Met.ofW (cc := b_Md_memories) (maxL := 4) (ret := none) (by decide) rfl ?_
  intro p e s m args below meth c s₁ B hml hv
  obtain ⟨rfl, hsz, hP, hK, hD0⟩ := hv
  have hx := B.exec
  have hb := B.bytes
  have hr := B.returns
  have hts := atoms_spec (ws := (zz_ws y_Md_memories b_Md_memories 4 none)) B.pre
  have hown : s.vm.findClass R_Md = some m.cls := findClass_of_methodNamed B.named
  have hlocks := B.notSynchronized
  have hT := zz_hts hts
  have X : CallFix p m c b_Md_memories 4 s ([.ref qd, .int a0] : List Value).toArray (zz_ws y_Md_memories b_Md_memories 4 none) R_Md := ⟨hx, hb, hml, hown, hts⟩
  have hf0 : 0 + 0 ≤ (headSpec (zz_ws y_Md_memories b_Md_memories 4 none) rm_Md_memories).room.cells ∧ 0 + 0 ≤ (headSpec (zz_ws y_Md_memories b_Md_memories 4 none) rm_Md_memories).room.slots := ⟨Nat.le_of_ble_eq_true rfl, Nat.le_of_ble_eq_true rfl⟩
  subst hsz
  have hD := hD0.self (sz := s.heap.size)
  generalize hAe : va_A (wD qd qmemory qr qcounts cI cB ms dd Lwhole Lwhole2 bm rr kt) s.heap.size = A at hD ⊢
  have hA : ∀ q : Nat, s.heap.size ≤ q → A q := fun q h => by rw [← hAe]; exact Or.inr h
  have hS : va_S A s.heap s.heap [] := va_S.rf
  have hl := lv_entry ([.ref qd, .int a0]) (n := 4) (Nat.le_of_ble_eq_true rfl)
  rw [lg_entry_eq]
  generalize (lg_sl ([.ref qd, .int a0]) ++ List.replicate (4 - (lg_sl ([.ref qd, .int a0])).length) Slot.unset).toArray = ls at hl ⊢
  have hl : lv_has ls 4 [(0, .ref qd), (1, .int a0)] := hl
  have jn_222 : ∀ (j222_2 : Int32) (j222_3 : Int32) (z222dd : Nat → Int32) (z222Lwhole : Int64) (z222Lwhole2 : Int64) (z222bm : Nat → Int32) (z222rr : Nat → Int32) (z222kt : Nat → Int32), wj_Md_memories_222 ms a0 P j222_2 j222_3 z222dd z222Lwhole z222Lwhole2 z222bm z222rr z222kt → ∀ (H : Heap) (locs : List Loc), va_P D vwCl (wD qd qmemory qr qcounts cI cB ms z222dd z222Lwhole z222Lwhole2 z222bm z222rr z222kt) H → va_D A (wD qd qmemory qr qcounts cI cB ms z222dd z222Lwhole z222Lwhole2 z222bm z222rr z222kt) → va_S A s.heap H locs → ∀ ls : Array Slot, lv_has ls 4 [(0, .ref qd), (2, .int j222_2), (3, .int j222_3)] → W p l e (headSpec (zz_ws y_Md_memories b_Md_memories 4 none) rm_Md_memories).room s m ([.ref qd, .int a0] : List Value).toArray below meth c H locs 0 0 (MQ below (va_Qv P (zz_qw D (fun u => wD qd qmemory qr qcounts cI cB ms u.1 u.2.1 u.2.2.1 u.2.2.2.1 u.2.2.2.2.1 u.2.2.2.2.2) A) A) ([.ref qd, .int a0] : List Value).toArray s 0 0 A) (F0 m 222 ls []) := by
    intro j222_2 j222_3 z222dd z222Lwhole z222Lwhole2 z222bm z222rr z222kt h H locs hP hD hS ls hl
    unfold wj_Md_memories_222 at h
    refine lv_aload_n hx hb d_Md_memories_222 rfl (lv_at hl 0 rfl) ?_
    refine g_Md_63 (v := .int (z222dd 5)) hx hb hT hown hK hP 0 rfl rfl d_Md_memories_223 ?_
    refine lv_if_le (tgt := 230) hx hb d_Md_memories_226 (by decide) (fun c_1 => ?_) (fun c_1 => ?_)
    · skip
      have h := h.1 c_1
      refine lv_aload_n hx hb d_Md_memories_230 rfl (lv_at hl 0 rfl) ?_
      refine lv_iload_n hx hb d_Md_memories_231 rfl (lv_at hl 1 rfl) ?_
      refine lv_iconst (v := 4) hx hb d_Md_memories_232 (by decide) ?_
      refine lv_aload_n hx hb d_Md_memories_233 rfl (lv_at hl 0 rfl) ?_
      refine g_Md_14 (v := .ref qr) hx hb hT hown hK hP 0 rfl rfl d_Md_memories_234 ?_
      refine lv_iload_n hx hb d_Md_memories_237 rfl (lv_at hl 2 rfl) ?_
      refine va_iald (f := z222rr) hx hb hK hP 2 0 rfl rfl h.1 d_Md_memories_238 ?_
      have h := h.2
      refine lv_topi (fun x_2 ex_2 => ?_)
      have h := h x_2 ex_2
      refine zz_Wv (As := [.int j222_2, .int (4 : Int32), .int x_2]) (rest := []) (wc := wD qd qmemory qr qcounts cI cB ms z222dd z222Lwhole z222Lwhole2 z222bm z222rr z222kt) (wr := []) X hK hP hD hS hA (c_Md_store l D cI cB qd qmemory qr qcounts ms z222dd z222Lwhole z222Lwhole2 z222bm z222rr z222kt j222_2 (4 : Int32) x_2 _ h _) ⟨rfl, rfl⟩ m_Md_store k_Md_50 ⟨Nat.le_of_ble_eq_true rfl, Nat.le_of_ble_eq_true rfl⟩ [0, 1, 2, 3] [] rfl rfl (by decide) (by decide) (by decide) 6 0 rfl rfl rfl rfl hl.1 rfl (Nat.le_of_ble_eq_true rfl) d_Md_memories_239 hf0 (fun u_3 H locs h hP hD hS => ?_)
      have hP : va_P D vwCl (wD qd qmemory qr qcounts cI cB ms u_3.1 u_3.2.1 u_3.2.2.1 u_3.2.2.2.1 u_3.2.2.2.2.1 u_3.2.2.2.2.2) H := hP.sub [0, 1, 2, 3] rfl
      have hD : va_D A (wD qd qmemory qr qcounts cI cB ms u_3.1 u_3.2.1 u_3.2.2.1 u_3.2.2.2.1 u_3.2.2.2.2.1 u_3.2.2.2.2.2) := hD.sub [0, 1, 2, 3] (by decide) rfl
      refine lv_aload_n hx hb d_Md_memories_242 rfl (lv_at hl 0 rfl) ?_
      refine lv_iload_n hx hb d_Md_memories_243 rfl (lv_at hl 2 rfl) ?_
      refine lv_iconst (v := 1) hx hb d_Md_memories_244 (by decide) ?_
      refine zz_Wv (As := [.int j222_3, .int (1 : Int32)]) (rest := []) (wc := wD qd qmemory qr qcounts cI cB ms u_3.1 u_3.2.1 u_3.2.2.1 u_3.2.2.2.1 u_3.2.2.2.2.1 u_3.2.2.2.2.2) (wr := []) X hK hP hD hS hA (c_Md_into l D cI cB qd qmemory qr qcounts ms u_3.1 u_3.2.1 u_3.2.2.1 u_3.2.2.2.1 u_3.2.2.2.2.1 u_3.2.2.2.2.2 j222_3 (1 : Int32) _ h _) ⟨rfl, rfl⟩ m_Md_into k_Md_128 ⟨Nat.le_of_ble_eq_true rfl, Nat.le_of_ble_eq_true rfl⟩ [0, 1, 2, 3] [] rfl rfl (by decide) (by decide) (by decide) 6 0 rfl rfl rfl rfl hl.1 rfl (Nat.le_of_ble_eq_true rfl) d_Md_memories_245 hf0 (fun u_5 H locs h hP hD hS => ?_)
      have hP : va_P D vwCl (wD qd qmemory qr qcounts cI cB ms u_5.1 u_5.2.1 u_5.2.2.1 u_5.2.2.2.1 u_5.2.2.2.2.1 u_5.2.2.2.2.2) H := hP.sub [0, 1, 2, 3] rfl
      have hD : va_D A (wD qd qmemory qr qcounts cI cB ms u_5.1 u_5.2.1 u_5.2.2.1 u_5.2.2.2.1 u_5.2.2.2.2.1 u_5.2.2.2.2.2) := hD.sub [0, 1, 2, 3] (by decide) rfl
      refine lv_aload_n hx hb d_Md_memories_248 rfl (lv_at hl 0 rfl) ?_
      refine lv_iconst (v := 0) hx hb d_Md_memories_249 (by decide) ?_
      refine p_Md_60 hx hb hT hown hK hP hD hS 0 rfl rfl (Or.inl rfl) d_Md_memories_250 (fun H locs (hP : va_P D vwCl (wD qd qmemory qr qcounts cI cB ms (upd u_5.1 7 (0 : Int32)) u_5.2.1 u_5.2.2.1 u_5.2.2.2.1 u_5.2.2.2.2.1 u_5.2.2.2.2.2) H) (hD : va_D A (wD qd qmemory qr qcounts cI cB ms (upd u_5.1 7 (0 : Int32)) u_5.2.1 u_5.2.2.1 u_5.2.2.2.1 u_5.2.2.2.2.1 u_5.2.2.2.2.2)) hS => ?_)
      refine lv_aload_n hx hb d_Md_memories_253 rfl (lv_at hl 0 rfl) ?_
      refine g_Md_29 (v := .ref qcounts) hx hb hT hown hK hP 0 rfl rfl d_Md_memories_254 ?_
      refine lv_iconst (v := 2) hx hb d_Md_memories_257 (by decide) ?_
      refine lv_dup2_11 hx hb d_Md_memories_258 rfl rfl ?_
      refine va_iald (f := u_5.2.2.2.2.2) hx hb hK hP 3 0 rfl rfl h.1 d_Md_memories_259 ?_
      have h := h.2
      refine lv_topi (fun x_7 ex_7 => ?_)
      have h := h x_7 ex_7
      refine lv_iconst (v := 1) hx hb d_Md_memories_260 (by decide) ?_
      refine lv_iadd hx hb d_Md_memories_261 ?_
      refine va_iast (f := u_5.2.2.2.2.2) hx hb hK hP hD hS 3 0 rfl rfl h.1 d_Md_memories_262 (fun H locs (hP : va_P D vwCl (wD qd qmemory qr qcounts cI cB ms (upd u_5.1 7 (0 : Int32)) u_5.2.1 u_5.2.2.1 u_5.2.2.2.1 u_5.2.2.2.2.1 (upd u_5.2.2.2.2.2 (2 : Int32).toNatClampNeg (x_7 + (1 : Int32)))) H) (hD : va_D A (wD qd qmemory qr qcounts cI cB ms (upd u_5.1 7 (0 : Int32)) u_5.2.1 u_5.2.2.1 u_5.2.2.2.1 u_5.2.2.2.2.1 (upd u_5.2.2.2.2.2 (2 : Int32).toNatClampNeg (x_7 + (1 : Int32))))) hS => ?_)
      have h := h.2
      refine lv_goto (tgt := 271) hx hb d_Md_memories_263 (by decide) ?_
      exact W.vret hx hb hr (fun t ht hW => ⟨⟨((upd u_5.1 7 (0 : Int32)), u_5.2.1, u_5.2.2.1, u_5.2.2.2.1, u_5.2.2.2.2.1, (upd u_5.2.2.2.2.2 (2 : Int32).toNatClampNeg (x_7 + (1 : Int32)))), rfl, h, by rw [ht]; exact hP, hD⟩, hS.F ht⟩) hS.2.2 d_Md_memories_271
    · skip
      have h := h.2 c_1
      exact W.vret hx hb hr (fun t ht hW => ⟨⟨(z222dd, z222Lwhole, z222Lwhole2, z222bm, z222rr, z222kt), rfl, h, by rw [ht]; exact hP, hD⟩, hS.F ht⟩) hS.2.2 d_Md_memories_229
  have jn_208 : ∀ (j208_2 : Int32) (j208_3 : Int32) (z208dd : Nat → Int32) (z208Lwhole : Int64) (z208Lwhole2 : Int64) (z208bm : Nat → Int32) (z208rr : Nat → Int32) (z208kt : Nat → Int32), wj_Md_memories_208 ms a0 P j208_2 j208_3 z208dd z208Lwhole z208Lwhole2 z208bm z208rr z208kt → ∀ (H : Heap) (locs : List Loc), va_P D vwCl (wD qd qmemory qr qcounts cI cB ms z208dd z208Lwhole z208Lwhole2 z208bm z208rr z208kt) H → va_D A (wD qd qmemory qr qcounts cI cB ms z208dd z208Lwhole z208Lwhole2 z208bm z208rr z208kt) → va_S A s.heap H locs → ∀ ls : Array Slot, lv_has ls 4 [(0, .ref qd), (2, .int j208_2), (3, .int j208_3)] → W p l e (headSpec (zz_ws y_Md_memories b_Md_memories 4 none) rm_Md_memories).room s m ([.ref qd, .int a0] : List Value).toArray below meth c H locs 0 0 (MQ below (va_Qv P (zz_qw D (fun u => wD qd qmemory qr qcounts cI cB ms u.1 u.2.1 u.2.2.1 u.2.2.2.1 u.2.2.2.2.1 u.2.2.2.2.2) A) A) ([.ref qd, .int a0] : List Value).toArray s 0 0 A) (F0 m 208 ls []) := by
    intro j208_2 j208_3 z208dd z208Lwhole z208Lwhole2 z208bm z208rr z208kt h H locs hP hD hS ls hl
    unfold wj_Md_memories_208 at h
    refine lv_aload_n hx hb d_Md_memories_208 rfl (lv_at hl 0 rfl) ?_
    refine lv_iload_n hx hb d_Md_memories_209 rfl (lv_at hl 1 rfl) ?_
    refine lv_iconst (v := 4) hx hb d_Md_memories_210 (by decide) ?_
    refine zz_Ri (As := [.int j208_2, .int (4 : Int32)]) (rest := []) (wc := wD qd qmemory qr qcounts cI cB ms z208dd z208Lwhole z208Lwhole2 z208bm z208rr z208kt) X hK hP (c_Md_good l D cI cB qd qmemory qr qcounts ms z208dd z208Lwhole z208Lwhole2 z208bm z208rr z208kt j208_2 (4 : Int32) _ h) ⟨rfl, rfl⟩ m_Md_good k_Md_38 ⟨Nat.le_of_ble_eq_true rfl, Nat.le_of_ble_eq_true rfl⟩ [0, 1, 2, 3] rfl 6 0 rfl rfl rfl rfl hl.1 rfl (Nat.le_of_ble_eq_true rfl) d_Md_memories_211 hf0 (fun r_8 h => ?_)
    refine lv_if_ne (tgt := 222) hx hb d_Md_memories_214 (by decide) (fun c_9 => ?_) (fun c_9 => ?_)
    · skip
      have h := h.2 c_9
      exact jn_222 j208_2 j208_3 z208dd z208Lwhole z208Lwhole2 z208bm z208rr z208kt h _ _ hP hD hS ls (lv_sub hl [0, 1, 2] rfl)
    · skip
      have h := h.1 c_9
      refine lv_aload_n hx hb d_Md_memories_217 rfl (lv_at hl 0 rfl) ?_
      refine lv_iconst (v := 2) hx hb d_Md_memories_218 (by decide) ?_
      refine zz_Wv (As := [.int (2 : Int32)]) (rest := []) (wc := wD qd qmemory qr qcounts cI cB ms z208dd z208Lwhole z208Lwhole2 z208bm z208rr z208kt) (wr := []) X hK hP hD hS hA (c_Md_ends l D cI cB qd qmemory qr qcounts ms z208dd z208Lwhole z208Lwhole2 z208bm z208rr z208kt (2 : Int32) _ h _) ⟨rfl, rfl⟩ m_Md_ends k_Md_116 ⟨Nat.le_of_ble_eq_true rfl, Nat.le_of_ble_eq_true rfl⟩ [0, 1, 2, 3] [] rfl rfl (by decide) (by decide) (by decide) 6 0 rfl rfl rfl rfl hl.1 rfl (Nat.le_of_ble_eq_true rfl) d_Md_memories_219 hf0 (fun u_10 H locs h hP hD hS => ?_)
      have hP : va_P D vwCl (wD qd qmemory qr qcounts cI cB ms u_10.1 u_10.2.1 u_10.2.2.1 u_10.2.2.2.1 u_10.2.2.2.2.1 u_10.2.2.2.2.2) H := hP.sub [0, 1, 2, 3] rfl
      have hD : va_D A (wD qd qmemory qr qcounts cI cB ms u_10.1 u_10.2.1 u_10.2.2.1 u_10.2.2.2.1 u_10.2.2.2.2.1 u_10.2.2.2.2.2) := hD.sub [0, 1, 2, 3] (by decide) rfl
      exact jn_222 j208_2 j208_3 u_10.1 u_10.2.1 u_10.2.2.1 u_10.2.2.2.1 u_10.2.2.2.2.1 u_10.2.2.2.2.2 h _ _ hP hD hS ls (lv_sub hl [0, 1, 2] rfl)
  have jn_202 : ∀ (j202_2 : Int32) (j202_3 : Int32) (z202dd : Nat → Int32) (z202Lwhole : Int64) (z202Lwhole2 : Int64) (z202bm : Nat → Int32) (z202rr : Nat → Int32) (z202kt : Nat → Int32), wj_Md_memories_202 ms a0 P j202_2 j202_3 z202dd z202Lwhole z202Lwhole2 z202bm z202rr z202kt → ∀ (H : Heap) (locs : List Loc), va_P D vwCl (wD qd qmemory qr qcounts cI cB ms z202dd z202Lwhole z202Lwhole2 z202bm z202rr z202kt) H → va_D A (wD qd qmemory qr qcounts cI cB ms z202dd z202Lwhole z202Lwhole2 z202bm z202rr z202kt) → va_S A s.heap H locs → ∀ ls : Array Slot, lv_has ls 4 [(0, .ref qd), (2, .int j202_2), (3, .int j202_3)] → W p l e (headSpec (zz_ws y_Md_memories b_Md_memories 4 none) rm_Md_memories).room s m ([.ref qd, .int a0] : List Value).toArray below meth c H locs 0 0 (MQ below (va_Qv P (zz_qw D (fun u => wD qd qmemory qr qcounts cI cB ms u.1 u.2.1 u.2.2.1 u.2.2.2.1 u.2.2.2.2.1 u.2.2.2.2.2) A) A) ([.ref qd, .int a0] : List Value).toArray s 0 0 A) (F0 m 202 ls []) := by
    intro j202_2 j202_3 z202dd z202Lwhole z202Lwhole2 z202bm z202rr z202kt h H locs hP hD hS ls hl
    unfold wj_Md_memories_202 at h
    refine lv_aload_n hx hb d_Md_memories_202 rfl (lv_at hl 0 rfl) ?_
    refine lv_bipush (v := 8) hx hb d_Md_memories_203 (by decide) ?_
    refine zz_Wv (As := [.int (8 : Int32)]) (rest := []) (wc := wD qd qmemory qr qcounts cI cB ms z202dd z202Lwhole z202Lwhole2 z202bm z202rr z202kt) (wr := []) X hK hP hD hS hA (c_Md_ends l D cI cB qd qmemory qr qcounts ms z202dd z202Lwhole z202Lwhole2 z202bm z202rr z202kt (8 : Int32) _ h _) ⟨rfl, rfl⟩ m_Md_ends k_Md_116 ⟨Nat.le_of_ble_eq_true rfl, Nat.le_of_ble_eq_true rfl⟩ [0, 1, 2, 3] [] rfl rfl (by decide) (by decide) (by decide) 6 0 rfl rfl rfl rfl hl.1 rfl (Nat.le_of_ble_eq_true rfl) d_Md_memories_205 hf0 (fun u_12 H locs h hP hD hS => ?_)
    have hP : va_P D vwCl (wD qd qmemory qr qcounts cI cB ms u_12.1 u_12.2.1 u_12.2.2.1 u_12.2.2.2.1 u_12.2.2.2.2.1 u_12.2.2.2.2.2) H := hP.sub [0, 1, 2, 3] rfl
    have hD : va_D A (wD qd qmemory qr qcounts cI cB ms u_12.1 u_12.2.1 u_12.2.2.1 u_12.2.2.2.1 u_12.2.2.2.2.1 u_12.2.2.2.2.2) := hD.sub [0, 1, 2, 3] (by decide) rfl
    exact jn_208 j202_2 j202_3 u_12.1 u_12.2.1 u_12.2.2.1 u_12.2.2.2.1 u_12.2.2.2.2.1 u_12.2.2.2.2.2 h _ _ hP hD hS ls (lv_sub hl [0, 1, 2] rfl)
  have jn_166 : ∀ (j166_2 : Int32) (j166_3 : Int32) (z166dd : Nat → Int32) (z166Lwhole : Int64) (z166Lwhole2 : Int64) (z166bm : Nat → Int32) (z166rr : Nat → Int32) (z166kt : Nat → Int32), wj_Md_memories_166 ms a0 P j166_2 j166_3 z166dd z166Lwhole z166Lwhole2 z166bm z166rr z166kt → ∀ (H : Heap) (locs : List Loc), va_P D vwCl (wD qd qmemory qr qcounts cI cB ms z166dd z166Lwhole z166Lwhole2 z166bm z166rr z166kt) H → va_D A (wD qd qmemory qr qcounts cI cB ms z166dd z166Lwhole z166Lwhole2 z166bm z166rr z166kt) → va_S A s.heap H locs → ∀ ls : Array Slot, lv_has ls 4 [(0, .ref qd), (1, .int a0), (2, .int j166_2), (3, .int j166_3)] → W p l e (headSpec (zz_ws y_Md_memories b_Md_memories 4 none) rm_Md_memories).room s m ([.ref qd, .int a0] : List Value).toArray below meth c H locs 0 0 (MQ below (va_Qv P (zz_qw D (fun u => wD qd qmemory qr qcounts cI cB ms u.1 u.2.1 u.2.2.1 u.2.2.2.1 u.2.2.2.2.1 u.2.2.2.2.2) A) A) ([.ref qd, .int a0] : List Value).toArray s 0 0 A) (F0 m 166 ls []) := by
    intro j166_2 j166_3 z166dd z166Lwhole z166Lwhole2 z166bm z166rr z166kt h H locs hP hD hS ls hl
    unfold wj_Md_memories_166 at h
    refine lv_aload_n hx hb d_Md_memories_166 rfl (lv_at hl 0 rfl) ?_
    refine lv_iload_n hx hb d_Md_memories_167 rfl (lv_at hl 1 rfl) ?_
    refine lv_iload_n hx hb d_Md_memories_168 rfl (lv_at hl 2 rfl) ?_
    refine lv_aload_n hx hb d_Md_memories_169 rfl (lv_at hl 0 rfl) ?_
    refine g_Md_14 (v := .ref qr) hx hb hT hown hK hP 0 rfl rfl d_Md_memories_170 ?_
    refine lv_iload_n hx hb d_Md_memories_173 rfl (lv_at hl 3 rfl) ?_
    refine va_iald (f := z166rr) hx hb hK hP 2 0 rfl rfl h.1 d_Md_memories_174 ?_
    have h := h.2
    refine lv_topi (fun x_14 ex_14 => ?_)
    have h := h x_14 ex_14
    refine zz_Wv (As := [.int a0, .int j166_2, .int x_14]) (rest := []) (wc := wD qd qmemory qr qcounts cI cB ms z166dd z166Lwhole z166Lwhole2 z166bm z166rr z166kt) (wr := []) X hK hP hD hS hA (c_Md_stores l D cI cB qd qmemory qr qcounts ms z166dd z166Lwhole z166Lwhole2 z166bm z166rr z166kt a0 j166_2 x_14 _ h _) ⟨rfl, rfl⟩ m_Md_stores k_Md_187 ⟨Nat.le_of_ble_eq_true rfl, Nat.le_of_ble_eq_true rfl⟩ [0, 1, 2, 3] [] rfl rfl (by decide) (by decide) (by decide) 6 0 rfl rfl rfl rfl hl.1 rfl (Nat.le_of_ble_eq_true rfl) d_Md_memories_175 hf0 (fun u_15 H locs h hP hD hS => ?_)
    have hP : va_P D vwCl (wD qd qmemory qr qcounts cI cB ms u_15.1 u_15.2.1 u_15.2.2.1 u_15.2.2.2.1 u_15.2.2.2.2.1 u_15.2.2.2.2.2) H := hP.sub [0, 1, 2, 3] rfl
    have hD : va_D A (wD qd qmemory qr qcounts cI cB ms u_15.1 u_15.2.1 u_15.2.2.1 u_15.2.2.2.1 u_15.2.2.2.2.1 u_15.2.2.2.2.2) := hD.sub [0, 1, 2, 3] (by decide) rfl
    refine lv_goto (tgt := 271) hx hb d_Md_memories_178 (by decide) ?_
    exact W.vret hx hb hr (fun t ht hW => ⟨⟨(u_15.1, u_15.2.1, u_15.2.2.1, u_15.2.2.2.1, u_15.2.2.2.2.1, u_15.2.2.2.2.2), rfl, h, by rw [ht]; exact hP, hD⟩, hS.F ht⟩) hS.2.2 d_Md_memories_271
  have jn_94 : ∀ (j94_2 : Int32) (j94_3 : Int32) (z94dd : Nat → Int32) (z94Lwhole : Int64) (z94Lwhole2 : Int64) (z94bm : Nat → Int32) (z94rr : Nat → Int32) (z94kt : Nat → Int32), wj_Md_memories_94 ms a0 P j94_2 j94_3 z94dd z94Lwhole z94Lwhole2 z94bm z94rr z94kt → ∀ (H : Heap) (locs : List Loc), va_P D vwCl (wD qd qmemory qr qcounts cI cB ms z94dd z94Lwhole z94Lwhole2 z94bm z94rr z94kt) H → va_D A (wD qd qmemory qr qcounts cI cB ms z94dd z94Lwhole z94Lwhole2 z94bm z94rr z94kt) → va_S A s.heap H locs → ∀ ls : Array Slot, lv_has ls 4 [(0, .ref qd), (2, .int j94_2), (3, .int j94_3)] → W p l e (headSpec (zz_ws y_Md_memories b_Md_memories 4 none) rm_Md_memories).room s m ([.ref qd, .int a0] : List Value).toArray below meth c H locs 0 0 (MQ below (va_Qv P (zz_qw D (fun u => wD qd qmemory qr qcounts cI cB ms u.1 u.2.1 u.2.2.1 u.2.2.2.1 u.2.2.2.2.1 u.2.2.2.2.2) A) A) ([.ref qd, .int a0] : List Value).toArray s 0 0 A) (F0 m 94 ls []) := by
    intro j94_2 j94_3 z94dd z94Lwhole z94Lwhole2 z94bm z94rr z94kt h H locs hP hD hS ls hl
    unfold wj_Md_memories_94 at h
    refine lv_aload_n hx hb d_Md_memories_94 rfl (lv_at hl 0 rfl) ?_
    refine g_Md_63 (v := .int (z94dd 5)) hx hb hT hown hK hP 0 rfl rfl d_Md_memories_95 ?_
    refine lv_if_le (tgt := 102) hx hb d_Md_memories_98 (by decide) (fun c_17 => ?_) (fun c_17 => ?_)
    · skip
      have h := h.1 c_17
      refine lv_aload_n hx hb d_Md_memories_102 rfl (lv_at hl 0 rfl) ?_
      refine lv_iload_n hx hb d_Md_memories_103 rfl (lv_at hl 2 rfl) ?_
      refine lv_aload_n hx hb d_Md_memories_104 rfl (lv_at hl 0 rfl) ?_
      refine lv_iload_n hx hb d_Md_memories_105 rfl (lv_at hl 1 rfl) ?_
      refine lv_iconst (v := 4) hx hb d_Md_memories_106 (by decide) ?_
      refine zz_Ri (As := [.int j94_2, .int (4 : Int32)]) (rest := [.int j94_3, .ref qd]) (wc := wD qd qmemory qr qcounts cI cB ms z94dd z94Lwhole z94Lwhole2 z94bm z94rr z94kt) X hK hP (c_Md_part l D cI cB qd qmemory qr qcounts ms z94dd z94Lwhole z94Lwhole2 z94bm z94rr z94kt j94_2 (4 : Int32) _ h) ⟨rfl, rfl⟩ m_Md_part k_Md_46 ⟨Nat.le_of_ble_eq_true rfl, Nat.le_of_ble_eq_true rfl⟩ [0, 1, 2, 3] rfl 6 0 rfl rfl rfl rfl hl.1 rfl (Nat.le_of_ble_eq_true rfl) d_Md_memories_107 hf0 (fun r_18 h => ?_)
      refine zz_Wv (As := [.int j94_3, .int r_18]) (rest := []) (wc := wD qd qmemory qr qcounts cI cB ms z94dd z94Lwhole z94Lwhole2 z94bm z94rr z94kt) (wr := []) X hK hP hD hS hA (c_Md_into l D cI cB qd qmemory qr qcounts ms z94dd z94Lwhole z94Lwhole2 z94bm z94rr z94kt j94_3 r_18 _ h _) ⟨rfl, rfl⟩ m_Md_into k_Md_128 ⟨Nat.le_of_ble_eq_true rfl, Nat.le_of_ble_eq_true rfl⟩ [0, 1, 2, 3] [] rfl rfl (by decide) (by decide) (by decide) 6 0 rfl rfl rfl rfl hl.1 rfl (Nat.le_of_ble_eq_true rfl) d_Md_memories_110 hf0 (fun u_19 H locs h hP hD hS => ?_)
      have hP : va_P D vwCl (wD qd qmemory qr qcounts cI cB ms u_19.1 u_19.2.1 u_19.2.2.1 u_19.2.2.2.1 u_19.2.2.2.2.1 u_19.2.2.2.2.2) H := hP.sub [0, 1, 2, 3] rfl
      have hD : va_D A (wD qd qmemory qr qcounts cI cB ms u_19.1 u_19.2.1 u_19.2.2.1 u_19.2.2.2.1 u_19.2.2.2.2.1 u_19.2.2.2.2.2) := hD.sub [0, 1, 2, 3] (by decide) rfl
      refine lv_aload_n hx hb d_Md_memories_113 rfl (lv_at hl 0 rfl) ?_
      refine lv_iconst (v := 1) hx hb d_Md_memories_114 (by decide) ?_
      refine p_Md_60 hx hb hT hown hK hP hD hS 0 rfl rfl (Or.inr rfl) d_Md_memories_115 (fun H locs (hP : va_P D vwCl (wD qd qmemory qr qcounts cI cB ms (upd u_19.1 7 (1 : Int32)) u_19.2.1 u_19.2.2.1 u_19.2.2.2.1 u_19.2.2.2.2.1 u_19.2.2.2.2.2) H) (hD : va_D A (wD qd qmemory qr qcounts cI cB ms (upd u_19.1 7 (1 : Int32)) u_19.2.1 u_19.2.2.1 u_19.2.2.2.1 u_19.2.2.2.2.1 u_19.2.2.2.2.2)) hS => ?_)
      refine lv_aload_n hx hb d_Md_memories_118 rfl (lv_at hl 0 rfl) ?_
      refine lv_iload_n hx hb d_Md_memories_119 rfl (lv_at hl 1 rfl) ?_
      refine p_Md_184 hx hb hT hown hK hP hD hS 0 rfl rfl d_Md_memories_120 (fun H locs (hP : va_P D vwCl (wD qd qmemory qr qcounts cI cB ms (upd (upd u_19.1 7 (1 : Int32)) 8 j94_2) u_19.2.1 u_19.2.2.1 u_19.2.2.2.1 u_19.2.2.2.2.1 u_19.2.2.2.2.2) H) (hD : va_D A (wD qd qmemory qr qcounts cI cB ms (upd (upd u_19.1 7 (1 : Int32)) 8 j94_2) u_19.2.1 u_19.2.2.1 u_19.2.2.2.1 u_19.2.2.2.2.1 u_19.2.2.2.2.2)) hS => ?_)
      refine lv_aload_n hx hb d_Md_memories_123 rfl (lv_at hl 0 rfl) ?_
      refine g_Md_29 (v := .ref qcounts) hx hb hT hown hK hP 0 rfl rfl d_Md_memories_124 ?_
      refine lv_iconst (v := 1) hx hb d_Md_memories_127 (by decide) ?_
      refine lv_dup2_11 hx hb d_Md_memories_128 rfl rfl ?_
      refine va_iald (f := u_19.2.2.2.2.2) hx hb hK hP 3 0 rfl rfl h.1 d_Md_memories_129 ?_
      have h := h.2
      refine lv_topi (fun x_21 ex_21 => ?_)
      have h := h x_21 ex_21
      refine lv_iconst (v := 1) hx hb d_Md_memories_130 (by decide) ?_
      refine lv_iadd hx hb d_Md_memories_131 ?_
      refine va_iast (f := u_19.2.2.2.2.2) hx hb hK hP hD hS 3 0 rfl rfl h.1 d_Md_memories_132 (fun H locs (hP : va_P D vwCl (wD qd qmemory qr qcounts cI cB ms (upd (upd u_19.1 7 (1 : Int32)) 8 j94_2) u_19.2.1 u_19.2.2.1 u_19.2.2.2.1 u_19.2.2.2.2.1 (upd u_19.2.2.2.2.2 (1 : Int32).toNatClampNeg (x_21 + (1 : Int32)))) H) (hD : va_D A (wD qd qmemory qr qcounts cI cB ms (upd (upd u_19.1 7 (1 : Int32)) 8 j94_2) u_19.2.1 u_19.2.2.1 u_19.2.2.2.1 u_19.2.2.2.2.1 (upd u_19.2.2.2.2.2 (1 : Int32).toNatClampNeg (x_21 + (1 : Int32))))) hS => ?_)
      have h := h.2
      refine lv_goto (tgt := 271) hx hb d_Md_memories_133 (by decide) ?_
      exact W.vret hx hb hr (fun t ht hW => ⟨⟨((upd (upd u_19.1 7 (1 : Int32)) 8 j94_2), u_19.2.1, u_19.2.2.1, u_19.2.2.2.1, u_19.2.2.2.2.1, (upd u_19.2.2.2.2.2 (1 : Int32).toNatClampNeg (x_21 + (1 : Int32)))), rfl, h, by rw [ht]; exact hP, hD⟩, hS.F ht⟩) hS.2.2 d_Md_memories_271
    · skip
      have h := h.2 c_17
      exact W.vret hx hb hr (fun t ht hW => ⟨⟨(z94dd, z94Lwhole, z94Lwhole2, z94bm, z94rr, z94kt), rfl, h, by rw [ht]; exact hP, hD⟩, hS.F ht⟩) hS.2.2 d_Md_memories_101
  have jn_48 : ∀ (j48_2 : Int32) (j48_3 : Int32) (z48dd : Nat → Int32) (z48Lwhole : Int64) (z48Lwhole2 : Int64) (z48bm : Nat → Int32) (z48rr : Nat → Int32) (z48kt : Nat → Int32), wj_Md_memories_48 ms a0 P j48_2 j48_3 z48dd z48Lwhole z48Lwhole2 z48bm z48rr z48kt → ∀ (H : Heap) (locs : List Loc), va_P D vwCl (wD qd qmemory qr qcounts cI cB ms z48dd z48Lwhole z48Lwhole2 z48bm z48rr z48kt) H → va_D A (wD qd qmemory qr qcounts cI cB ms z48dd z48Lwhole z48Lwhole2 z48bm z48rr z48kt) → va_S A s.heap H locs → ∀ ls : Array Slot, lv_has ls 4 [(0, .ref qd), (1, .int a0), (2, .int j48_2), (3, .int j48_3)] → W p l e (headSpec (zz_ws y_Md_memories b_Md_memories 4 none) rm_Md_memories).room s m ([.ref qd, .int a0] : List Value).toArray below meth c H locs 0 0 (MQ below (va_Qv P (zz_qw D (fun u => wD qd qmemory qr qcounts cI cB ms u.1 u.2.1 u.2.2.1 u.2.2.2.1 u.2.2.2.2.1 u.2.2.2.2.2) A) A) ([.ref qd, .int a0] : List Value).toArray s 0 0 A) (F0 m 48 ls []) := by
    intro j48_2 j48_3 z48dd z48Lwhole z48Lwhole2 z48bm z48rr z48kt h H locs hP hD hS ls hl
    unfold wj_Md_memories_48 at h
    refine lv_aload_n hx hb d_Md_memories_48 rfl (lv_at hl 0 rfl) ?_
    refine lv_iload_n hx hb d_Md_memories_49 rfl (lv_at hl 1 rfl) ?_
    refine lv_iload_n hx hb d_Md_memories_50 rfl (lv_at hl 2 rfl) ?_
    refine lv_iload_n hx hb d_Md_memories_51 rfl (lv_at hl 3 rfl) ?_
    refine zz_Wv (As := [.int a0, .int j48_2, .int j48_3]) (rest := []) (wc := wD qd qmemory qr qcounts cI cB ms z48dd z48Lwhole z48Lwhole2 z48bm z48rr z48kt) (wr := []) X hK hP hD hS hA (c_Md_fractionMemory l D cI cB qd qmemory qr qcounts ms z48dd z48Lwhole z48Lwhole2 z48bm z48rr z48kt a0 j48_2 j48_3 _ h _) ⟨rfl, rfl⟩ m_Md_fractionMemory k_Md_178 ⟨Nat.le_of_ble_eq_true rfl, Nat.le_of_ble_eq_true rfl⟩ [0, 1, 2, 3] [] rfl rfl (by decide) (by decide) (by decide) 6 0 rfl rfl rfl rfl hl.1 rfl (Nat.le_of_ble_eq_true rfl) d_Md_memories_52 hf0 (fun u_22 H locs h hP hD hS => ?_)
    have hP : va_P D vwCl (wD qd qmemory qr qcounts cI cB ms u_22.1 u_22.2.1 u_22.2.2.1 u_22.2.2.2.1 u_22.2.2.2.2.1 u_22.2.2.2.2.2) H := hP.sub [0, 1, 2, 3] rfl
    have hD : va_D A (wD qd qmemory qr qcounts cI cB ms u_22.1 u_22.2.1 u_22.2.2.1 u_22.2.2.2.1 u_22.2.2.2.2.1 u_22.2.2.2.2.2) := hD.sub [0, 1, 2, 3] (by decide) rfl
    refine lv_goto (tgt := 271) hx hb d_Md_memories_55 (by decide) ?_
    exact W.vret hx hb hr (fun t ht hW => ⟨⟨(u_22.1, u_22.2.1, u_22.2.2.1, u_22.2.2.2.1, u_22.2.2.2.2.1, u_22.2.2.2.2.2), rfl, h, by rw [ht]; exact hP, hD⟩, hS.F ht⟩) hS.2.2 d_Md_memories_271
  refine lv_aload_n hx hb d_Md_memories_0 rfl (lv_at hl 0 rfl) ?_
  refine zz_Ri (As := []) (rest := []) (wc := wD qd qmemory qr qcounts cI cB ms dd Lwhole Lwhole2 bm rr kt) X hK hP (c_Md_rs l D cI cB qd qmemory qr qcounts ms dd Lwhole Lwhole2 bm rr kt _ h) ⟨rfl, rfl⟩ m_Md_rs k_Md_132 ⟨Nat.le_of_ble_eq_true rfl, Nat.le_of_ble_eq_true rfl⟩ [0, 1, 2, 3] rfl 6 0 rfl rfl rfl rfl hl.1 rfl (Nat.le_of_ble_eq_true rfl) d_Md_memories_1 hf0 (fun r_24 h => ?_)
  refine lv_aload_n hx hb d_Md_memories_4 rfl (lv_at hl 0 rfl) ?_
  refine zz_Ri (As := []) (rest := [.int r_24]) (wc := wD qd qmemory qr qcounts cI cB ms dd Lwhole Lwhole2 bm rr kt) X hK hP (c_Md_offset l D cI cB qd qmemory qr qcounts ms dd Lwhole Lwhole2 bm rr kt _ h) ⟨rfl, rfl⟩ m_Md_offset k_Md_119 ⟨Nat.le_of_ble_eq_true rfl, Nat.le_of_ble_eq_true rfl⟩ [0, 1, 2, 3] rfl 6 0 rfl rfl rfl rfl hl.1 rfl (Nat.le_of_ble_eq_true rfl) d_Md_memories_5 hf0 (fun r_25 h => ?_)
  refine lv_iadd hx hb d_Md_memories_8 ?_
  refine lv_topi (fun x_26 ex_26 => ?_)
  have h := h x_26 ex_26
  refine lv_istore_n (lv' := [(2, .int x_26), (0, .ref qd), (1, .int a0)]) hx hb d_Md_memories_9 rfl hl (by decide) rfl (fun ls hl => ?_)
  refine lv_aload_n hx hb d_Md_memories_10 rfl (lv_at hl 1 rfl) ?_
  refine lv_bipush (v := 16) hx hb d_Md_memories_11 (by decide) ?_
  refine zz_Ri (As := [.int (16 : Int32)]) (rest := []) (wc := wD qd qmemory qr qcounts cI cB ms dd Lwhole Lwhole2 bm rr kt) X hK hP (c_Md_field l D cI cB qd qmemory qr qcounts ms dd Lwhole Lwhole2 bm rr kt (16 : Int32) _ h) ⟨rfl, rfl⟩ m_Md_field k_Md_85 ⟨Nat.le_of_ble_eq_true rfl, Nat.le_of_ble_eq_true rfl⟩ [0, 1, 2, 3] rfl 6 0 rfl rfl rfl rfl hl.1 rfl (Nat.le_of_ble_eq_true rfl) d_Md_memories_13 hf0 (fun r_27 h => ?_)
  refine lv_istore_n (lv' := [(3, .int r_27), (2, .int x_26), (0, .ref qd), (1, .int a0)]) hx hb d_Md_memories_16 rfl hl (by decide) rfl (fun ls hl => ?_)
  refine lv_iload_n hx hb d_Md_memories_17 rfl (lv_at hl 3 rfl) ?_
  refine lv_bipush (v := 51) hx hb d_Md_memories_18 (by decide) ?_
  refine lv_icmp_ne (tgt := 24) hx hb d_Md_memories_20 (by decide) (fun c_28 => ?_) (fun c_28 => ?_)
  · skip
    have h := h.2 c_28
    refine lv_iload_n hx hb d_Md_memories_24 rfl (lv_at hl 3 rfl) ?_
    refine lv_bipush (v := 49) hx hb d_Md_memories_25 (by decide) ?_
    refine lv_icmp_eq (tgt := 48) hx hb d_Md_memories_27 (by decide) (fun c_29 => ?_) (fun c_29 => ?_)
    · skip
      have h := h.1 c_29
      exact jn_48 x_26 r_27 dd Lwhole Lwhole2 bm rr kt h _ _ hP hD hS ls (lv_sub hl [2, 3, 1, 0] rfl)
    · skip
      have h := h.2 c_29
      refine lv_iload_n hx hb d_Md_memories_30 rfl (lv_at hl 3 rfl) ?_
      refine lv_bipush (v := 53) hx hb d_Md_memories_31 (by decide) ?_
      refine lv_icmp_eq (tgt := 48) hx hb d_Md_memories_33 (by decide) (fun c_30 => ?_) (fun c_30 => ?_)
      · skip
        have h := h.1 c_30
        exact jn_48 x_26 r_27 dd Lwhole Lwhole2 bm rr kt h _ _ hP hD hS ls (lv_sub hl [2, 3, 1, 0] rfl)
      · skip
        have h := h.2 c_30
        refine lv_iload_n hx hb d_Md_memories_36 rfl (lv_at hl 3 rfl) ?_
        refine lv_bipush (v := 57) hx hb d_Md_memories_37 (by decide) ?_
        refine lv_icmp_eq (tgt := 48) hx hb d_Md_memories_39 (by decide) (fun c_31 => ?_) (fun c_31 => ?_)
        · skip
          have h := h.1 c_31
          exact jn_48 x_26 r_27 dd Lwhole Lwhole2 bm rr kt h _ _ hP hD hS ls (lv_sub hl [2, 3, 1, 0] rfl)
        · skip
          have h := h.2 c_31
          refine lv_iload_n hx hb d_Md_memories_42 rfl (lv_at hl 3 rfl) ?_
          refine lv_bipush (v := 61) hx hb d_Md_memories_43 (by decide) ?_
          refine lv_icmp_ne (tgt := 58) hx hb d_Md_memories_45 (by decide) (fun c_32 => ?_) (fun c_32 => ?_)
          · skip
            have h := h.2 c_32
            refine lv_iload_n hx hb d_Md_memories_58 rfl (lv_at hl 3 rfl) ?_
            refine lv_bipush (v := 39) hx hb d_Md_memories_59 (by decide) ?_
            refine lv_icmp_ge (tgt := 74) hx hb d_Md_memories_61 (by decide) (fun c_33 => ?_) (fun c_33 => ?_)
            · skip
              have h := h.1 c_33
              refine lv_iload_n hx hb d_Md_memories_74 rfl (lv_at hl 3 rfl) ?_
              refine lv_bipush (v := 48) hx hb d_Md_memories_75 (by decide) ?_
              refine lv_icmp_ne (tgt := 136) hx hb d_Md_memories_77 (by decide) (fun c_34 => ?_) (fun c_34 => ?_)
              · skip
                have h := h.2 c_34
                refine lv_iload_n hx hb d_Md_memories_136 rfl (lv_at hl 3 rfl) ?_
                refine lv_bipush (v := 40) hx hb d_Md_memories_137 (by decide) ?_
                refine lv_icmp_eq (tgt := 166) hx hb d_Md_memories_139 (by decide) (fun c_35 => ?_) (fun c_35 => ?_)
                · skip
                  have h := h.1 c_35
                  exact jn_166 x_26 r_27 dd Lwhole Lwhole2 bm rr kt h _ _ hP hD hS ls (lv_sub hl [2, 3, 1, 0] rfl)
                · skip
                  have h := h.2 c_35
                  refine lv_iload_n hx hb d_Md_memories_142 rfl (lv_at hl 3 rfl) ?_
                  refine lv_bipush (v := 41) hx hb d_Md_memories_143 (by decide) ?_
                  refine lv_icmp_eq (tgt := 166) hx hb d_Md_memories_145 (by decide) (fun c_36 => ?_) (fun c_36 => ?_)
                  · skip
                    have h := h.1 c_36
                    exact jn_166 x_26 r_27 dd Lwhole Lwhole2 bm rr kt h _ _ hP hD hS ls (lv_sub hl [2, 3, 1, 0] rfl)
                  · skip
                    have h := h.2 c_36
                    refine lv_iload_n hx hb d_Md_memories_148 rfl (lv_at hl 3 rfl) ?_
                    refine lv_bipush (v := 42) hx hb d_Md_memories_149 (by decide) ?_
                    refine lv_icmp_eq (tgt := 166) hx hb d_Md_memories_151 (by decide) (fun c_37 => ?_) (fun c_37 => ?_)
                    · skip
                      have h := h.1 c_37
                      exact jn_166 x_26 r_27 dd Lwhole Lwhole2 bm rr kt h _ _ hP hD hS ls (lv_sub hl [2, 3, 1, 0] rfl)
                    · skip
                      have h := h.2 c_37
                      refine lv_iload_n hx hb d_Md_memories_154 rfl (lv_at hl 3 rfl) ?_
                      refine lv_bipush (v := 43) hx hb d_Md_memories_155 (by decide) ?_
                      refine lv_icmp_eq (tgt := 166) hx hb d_Md_memories_157 (by decide) (fun c_38 => ?_) (fun c_38 => ?_)
                      · skip
                        have h := h.1 c_38
                        exact jn_166 x_26 r_27 dd Lwhole Lwhole2 bm rr kt h _ _ hP hD hS ls (lv_sub hl [2, 3, 1, 0] rfl)
                      · skip
                        have h := h.2 c_38
                        refine lv_iload_n hx hb d_Md_memories_160 rfl (lv_at hl 3 rfl) ?_
                        refine lv_bipush (v := 46) hx hb d_Md_memories_161 (by decide) ?_
                        refine lv_icmp_ne (tgt := 181) hx hb d_Md_memories_163 (by decide) (fun c_39 => ?_) (fun c_39 => ?_)
                        · skip
                          have h := h.2 c_39
                          refine lv_iload_n hx hb d_Md_memories_181 rfl (lv_at hl 3 rfl) ?_
                          refine lv_bipush (v := 56) hx hb d_Md_memories_182 (by decide) ?_
                          refine lv_icmp_ne (tgt := 266) hx hb d_Md_memories_184 (by decide) (fun c_40 => ?_) (fun c_40 => ?_)
                          · skip
                            have h := h.2 c_40
                            refine lv_aload_n hx hb d_Md_memories_266 rfl (lv_at hl 2 rfl) ?_
                            refine lv_iconst (v := 3) hx hb d_Md_memories_267 (by decide) ?_
                            refine zz_Wv (As := [.int (3 : Int32)]) (rest := []) (wc := wD qd qmemory qr qcounts cI cB ms dd Lwhole Lwhole2 bm rr kt) (wr := []) X hK hP hD hS hA (c_Md_ends l D cI cB qd qmemory qr qcounts ms dd Lwhole Lwhole2 bm rr kt (3 : Int32) _ h _) ⟨rfl, rfl⟩ m_Md_ends k_Md_116 ⟨Nat.le_of_ble_eq_true rfl, Nat.le_of_ble_eq_true rfl⟩ [0, 1, 2, 3] [] rfl rfl (by decide) (by decide) (by decide) 6 0 rfl rfl rfl rfl hl.1 rfl (Nat.le_of_ble_eq_true rfl) d_Md_memories_268 hf0 (fun u_41 H locs h hP hD hS => ?_)
                            have hP : va_P D vwCl (wD qd qmemory qr qcounts cI cB ms u_41.1 u_41.2.1 u_41.2.2.1 u_41.2.2.2.1 u_41.2.2.2.2.1 u_41.2.2.2.2.2) H := hP.sub [0, 1, 2, 3] rfl
                            have hD : va_D A (wD qd qmemory qr qcounts cI cB ms u_41.1 u_41.2.1 u_41.2.2.1 u_41.2.2.2.1 u_41.2.2.2.2.1 u_41.2.2.2.2.2) := hD.sub [0, 1, 2, 3] (by decide) rfl
                            exact W.vret hx hb hr (fun t ht hW => ⟨⟨(u_41.1, u_41.2.1, u_41.2.2.1, u_41.2.2.2.1, u_41.2.2.2.2.1, u_41.2.2.2.2.2), rfl, h, by rw [ht]; exact hP, hD⟩, hS.F ht⟩) hS.2.2 d_Md_memories_271
                          · skip
                            have h := h.1 c_40
                            refine lv_aload_n hx hb d_Md_memories_187 rfl (lv_at hl 2 rfl) ?_
                            refine g_Md_60 (v := .int (dd 7)) hx hb hT hown hK hP 0 rfl rfl d_Md_memories_188 ?_
                            refine lv_if_eq (tgt := 202) hx hb d_Md_memories_191 (by decide) (fun c_43 => ?_) (fun c_43 => ?_)
                            · skip
                              have h := h.1 c_43
                              exact jn_202 x_26 r_27 dd Lwhole Lwhole2 bm rr kt h _ _ hP hD hS ls (lv_sub hl [2, 1, 0] rfl)
                            · skip
                              have h := h.2 c_43
                              refine lv_aload_n hx hb d_Md_memories_194 rfl (lv_at hl 2 rfl) ?_
                              refine g_Md_184 (v := .int (dd 8)) hx hb hT hown hK hP 0 rfl rfl d_Md_memories_195 ?_
                              refine lv_iload_n hx hb d_Md_memories_198 rfl (lv_at hl 1 rfl) ?_
                              refine lv_icmp_eq (tgt := 208) hx hb d_Md_memories_199 (by decide) (fun c_44 => ?_) (fun c_44 => ?_)
                              · skip
                                have h := h.1 c_44
                                exact jn_208 x_26 r_27 dd Lwhole Lwhole2 bm rr kt h _ _ hP hD hS ls (lv_sub hl [2, 1, 0] rfl)
                              · skip
                                have h := h.2 c_44
                                exact jn_202 x_26 r_27 dd Lwhole Lwhole2 bm rr kt h _ _ hP hD hS ls (lv_sub hl [2, 1, 0] rfl)
                        · skip
                          have h := h.1 c_39
                          exact jn_166 x_26 r_27 dd Lwhole Lwhole2 bm rr kt h _ _ hP hD hS ls (lv_sub hl [2, 3, 1, 0] rfl)
              · skip
                have h := h.1 c_34
                refine lv_aload_n hx hb d_Md_memories_80 rfl (lv_at hl 2 rfl) ?_
                refine lv_iload_n hx hb d_Md_memories_81 rfl (lv_at hl 1 rfl) ?_
                refine lv_iconst (v := 4) hx hb d_Md_memories_82 (by decide) ?_
                refine zz_Ri (As := [.int x_26, .int (4 : Int32)]) (rest := []) (wc := wD qd qmemory qr qcounts cI cB ms dd Lwhole Lwhole2 bm rr kt) X hK hP (c_Md_good l D cI cB qd qmemory qr qcounts ms dd Lwhole Lwhole2 bm rr kt x_26 (4 : Int32) _ h) ⟨rfl, rfl⟩ m_Md_good k_Md_38 ⟨Nat.le_of_ble_eq_true rfl, Nat.le_of_ble_eq_true rfl⟩ [0, 1, 2, 3] rfl 6 0 rfl rfl rfl rfl hl.1 rfl (Nat.le_of_ble_eq_true rfl) d_Md_memories_83 hf0 (fun r_45 h => ?_)
                refine lv_if_ne (tgt := 94) hx hb d_Md_memories_86 (by decide) (fun c_46 => ?_) (fun c_46 => ?_)
                · skip
                  have h := h.2 c_46
                  exact jn_94 x_26 r_27 dd Lwhole Lwhole2 bm rr kt h _ _ hP hD hS ls (lv_sub hl [2, 1, 0] rfl)
                · skip
                  have h := h.1 c_46
                  refine lv_aload_n hx hb d_Md_memories_89 rfl (lv_at hl 2 rfl) ?_
                  refine lv_iconst (v := 1) hx hb d_Md_memories_90 (by decide) ?_
                  refine zz_Wv (As := [.int (1 : Int32)]) (rest := []) (wc := wD qd qmemory qr qcounts cI cB ms dd Lwhole Lwhole2 bm rr kt) (wr := []) X hK hP hD hS hA (c_Md_ends l D cI cB qd qmemory qr qcounts ms dd Lwhole Lwhole2 bm rr kt (1 : Int32) _ h _) ⟨rfl, rfl⟩ m_Md_ends k_Md_116 ⟨Nat.le_of_ble_eq_true rfl, Nat.le_of_ble_eq_true rfl⟩ [0, 1, 2, 3] [] rfl rfl (by decide) (by decide) (by decide) 6 0 rfl rfl rfl rfl hl.1 rfl (Nat.le_of_ble_eq_true rfl) d_Md_memories_91 hf0 (fun u_47 H locs h hP hD hS => ?_)
                  have hP : va_P D vwCl (wD qd qmemory qr qcounts cI cB ms u_47.1 u_47.2.1 u_47.2.2.1 u_47.2.2.2.1 u_47.2.2.2.2.1 u_47.2.2.2.2.2) H := hP.sub [0, 1, 2, 3] rfl
                  have hD : va_D A (wD qd qmemory qr qcounts cI cB ms u_47.1 u_47.2.1 u_47.2.2.1 u_47.2.2.2.1 u_47.2.2.2.2.1 u_47.2.2.2.2.2) := hD.sub [0, 1, 2, 3] (by decide) rfl
                  exact jn_94 x_26 r_27 u_47.1 u_47.2.1 u_47.2.2.1 u_47.2.2.2.1 u_47.2.2.2.2.1 u_47.2.2.2.2.2 h _ _ hP hD hS ls (lv_sub hl [2, 1, 0] rfl)
            · skip
              have h := h.2 c_33
              refine lv_aload_n hx hb d_Md_memories_64 rfl (lv_at hl 2 rfl) ?_
              refine lv_iload_n hx hb d_Md_memories_65 rfl (lv_at hl 3 rfl) ?_
              refine lv_iload_n hx hb d_Md_memories_66 rfl (lv_at hl 1 rfl) ?_
              refine lv_iload_n hx hb d_Md_memories_67 rfl (lv_at hl 0 rfl) ?_
              refine zz_Wv (As := [.int a0, .int x_26, .int r_27]) (rest := []) (wc := wD qd qmemory qr qcounts cI cB ms dd Lwhole Lwhole2 bm rr kt) (wr := []) X hK hP hD hS hA (c_Md_loads l D cI cB qd qmemory qr qcounts ms dd Lwhole Lwhole2 bm rr kt a0 x_26 r_27 _ h _) ⟨rfl, rfl⟩ m_Md_loads k_Md_181 ⟨Nat.le_of_ble_eq_true rfl, Nat.le_of_ble_eq_true rfl⟩ [0, 1, 2, 3] [] rfl rfl (by decide) (by decide) (by decide) 6 0 rfl rfl rfl rfl hl.1 rfl (Nat.le_of_ble_eq_true rfl) d_Md_memories_68 hf0 (fun u_49 H locs h hP hD hS => ?_)
              have hP : va_P D vwCl (wD qd qmemory qr qcounts cI cB ms u_49.1 u_49.2.1 u_49.2.2.1 u_49.2.2.2.1 u_49.2.2.2.2.1 u_49.2.2.2.2.2) H := hP.sub [0, 1, 2, 3] rfl
              have hD : va_D A (wD qd qmemory qr qcounts cI cB ms u_49.1 u_49.2.1 u_49.2.2.1 u_49.2.2.2.1 u_49.2.2.2.2.1 u_49.2.2.2.2.2) := hD.sub [0, 1, 2, 3] (by decide) rfl
              refine lv_goto (tgt := 271) hx hb d_Md_memories_71 (by decide) ?_
              exact W.vret hx hb hr (fun t ht hW => ⟨⟨(u_49.1, u_49.2.1, u_49.2.2.1, u_49.2.2.2.1, u_49.2.2.2.2.1, u_49.2.2.2.2.2), rfl, h, by rw [ht]; exact hP, hD⟩, hS.F ht⟩) hS.2.2 d_Md_memories_271
          · skip
            have h := h.1 c_32
            exact jn_48 x_26 r_27 dd Lwhole Lwhole2 bm rr kt h _ _ hP hD hS ls (lv_sub hl [2, 3, 1, 0] rfl)
  · skip
    have h := h.1 c_28
    exact W.vret hx hb hr (fun t ht hW => ⟨⟨(dd, Lwhole, Lwhole2, bm, rr, kt), rfl, h, by rw [ht]; exact hP, hD⟩, hS.F ht⟩) hS.2.2 d_Md_memories_23
