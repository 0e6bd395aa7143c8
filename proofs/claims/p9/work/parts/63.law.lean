/-! ===== calls of methods that throw ===== -/
theorem zz_tx.same {U V : State} (e : U.vm = V.vm) (h : zz_tx U) : zz_tx V := by
  refine zz_tx.warm (s := U) (U := V) ?_ h
  rw [← e]; exact State.WarmedH.refl U
theorem zz_dc.same {U V : State} (e : U.vm = V.vm) (h : zz_dc U) : zz_dc V := by
  refine zz_dc.warm (s := U) (U := V) ?_ h
  rw [← e]; exact State.WarmedH.refl U
theorem zz_ex.same {A : Nat → Prop} {U V : State} {H : Heap} (e : U.vm = V.vm) (h : zz_ex A U H) : zz_ex A V H := by
  refine zz_ex.warm (s := U) (U := V) ?_ h
  rw [← e]; exact State.WarmedH.refl U
section ZX
variable {p : Program} {l : Launch} {e : Env} {R : Room} {s : State} {m : MethodId} {args : Array Value} {below : List Frame} {meth : Method} {c : Code} {H : Heap} {locs : List Loc} {cells slots : Nat} {Q : State → Prop}
variable {cc bytes : ByteArray} {pc nL maxL n index : Nat} {ls : Array Slot} {rest st0 As : List Value} {D : va_G} {A : Nat → Prop} {a b : Nat} {tys : List (ClassId × FieldType)} {ws wc wr : va_W} {H0 : Heap} {own : String} {cd : Cond} {y : MethodName} {ret : Option FieldType} {rm : Room}
theorem zz_px_blind {av : List Value} {sz : Nat} : FrameBlind (va_Pc av (zz_px D tys ws sz)) := fun a U g mk q => by
  obtain ⟨q0, q1, q2⟩ := q
  obtain ⟨q3, q4⟩ := zz_pw_blind (av := av) (D := D) (tys := tys) (ws := ws) (sz := sz) a U g mk ⟨q0, q1⟩
  exact ⟨q0, q4, zz_ex.same rfl q2⟩
theorem zz_Xi {S : Type} {post : Int32 → S → Prop} {wn : S → va_W} {PX : String → S → Prop} (X : CallFix p m c cc nL s args (cd :: zz_all) own) (hK : va_K D vwCl tys s) (hP : va_P D vwCl ws H) (hD : va_D A ws) (hS : va_S A s.heap H locs) (hA : ∀ q, s.heap.size ≤ q → A q) (hE : zz_ex A s s.heap)
    (hM : vx_Met l y (zz_ws y bytes maxL ret) rm (va_Pc (.ref b :: As) (zz_px D tys wc H.size)) (va_Qi post (zz_qw D wn (va_A wc H.size)) (va_A wc H.size)) (vx_X (fun _ : S => True) (zz_xw D wn (va_A wc H.size) PX) (va_A wc H.size)) 1 6 (va_A wc H.size)) (hrm : rm.cells = 1 ∧ rm.slots = 6)
    (hm : zz_Mi y bytes maxL ret n) (hl : Cond.methodLink own index y ∈ zz_all) (hR : rm.frames + 1 ≤ R.frames ∧ 8 + (maxL + 11) + rm.locals ≤ R.locals)
    (isC isR : List Nat) (hC : isC.map (fun i => ws[i]?) = wc.map some) (hRr : isR.map (fun i => ws[i]?) = wr.map some) (hnC : va_nd isC = true) (hnR : va_nd isR = true) (hdis : ∀ i ∈ isR, i ∉ isC)
    (ci q0 : Nat) {fs : List Value} {q : vw_C} (hc : vwCl[ci]? = some q) (hq : q.1 = y.cls) (he : ws[q0]? = some (b, .inr (ci, fs)))
    (hn : As.length = n) (hsize : ls.size = nL) (hst : st0 = As.reverse ++ .ref b :: rest) (hW : (rest.map fun v => v.category).sum ≤ 8) (hdg : decode cc pc = .ok (.invokevirtual index, 3)) (hf : cells + 1 ≤ R.cells ∧ slots + 6 ≤ R.slots)
    (kx : ∀ (E : String) (ce : Cell) (q9 : Addr) (u : S) (H1 : Heap) (locs1 : List Loc), PX E u → va_P D vwCl (wr ++ wn u) H1 → va_D A (wr ++ wn u) → va_S A s.heap H1 locs1 → H1[q9]? = some ce → ce.vm = .none → s.vm.findClass E = some ce.cls → vx_W p l e R s m args below meth c H1 locs1 (cells + 1) (slots + 6) Q (F0 m pc ls rest) q9)
    (kk : ∀ (r : Int32) (u : S) (H1 : Heap) (locs1 : List Loc), post r u → va_P D vwCl (wr ++ wn u) H1 → va_D A (wr ++ wn u) → va_S A s.heap H1 locs1 → W p l e R s m args below meth c H1 locs1 (cells + 1) (slots + 6) Q (F0 m (pc + 3) ls (.int r :: rest))) : W p l e R s m args below meth c H locs cells slots Q (F0 m pc ls st0) := by
  have cw := zz_cV (R := R) X.2.2.2.2 hm hl hR
  rw [hrm.1, hrm.2] at cw
  have hr := va_recv hK hP hc he
  rw [hq] at hr
  have hF := va_free (wc := wc) hD hS hA isC hC
  have hE1 : zz_ex (va_A wc H.size) s H := (hE.kept (fun q h1 h2 => hS.2.1 q h1 h2)).narrow hF
  have hpre : ∀ U : State, U.heap = H → s.WarmedH U.vm → va_Pc (.ref b :: As) (zz_px D tys wc H.size) (Value.ref b :: As).toArray U := fun U hU hW1 => by
    obtain ⟨g1, g2⟩ := zz_pw_at hK (hP.sub isC (zz_filt isC hC)) (hD.sub isC hnC hC) (.ref b :: As) U hU hW1
    exact ⟨g1, g2, by rw [hU]; exact hE1.warm hW1⟩
  refine vx_calli (vx_runV X hM cw ⟨zz_px_blind, hr, hpre⟩ rfl hn hsize hst (lv_room hW) hdg hf) hS (fun q _ h => hF q h) hF (fun q _ h => hF q h) (fun E ce q9 u t H1 locs1 ht hvm _ hB hz1 hk1 hS1 hce hcv hcl => ?_) (fun r u t H1 locs1 ht hvm hw hB hz1 hk1 hS1 => ?_)
  · obtain ⟨hpx, hP1, hD1⟩ := hB
    rw [ht] at hP1
    obtain ⟨hP2, hD2⟩ := va_join (wr := wr) (w1 := wn u) hP hD isC isR hC hRr hnR hdis hk1 hF hP1 hD1
    exact kx E ce q9 u H1 locs1 hpx hP2 hD2 hS1 hce hcv hcl
  · obtain ⟨hP1, hD1⟩ := hB
    rw [ht] at hP1
    obtain ⟨hP2, hD2⟩ := va_join (wr := wr) (w1 := wn u) hP hD isC isR hC hRr hnR hdis hk1 hF hP1 hD1
    exact kk r u H1 locs1 hw hP2 hD2 hS1
end ZX
def R_La : String := "DelayCoreLaw"
def wL (qx : Nat) (qc : Nat) (qp : Nat) (qr : Nat) (qh : Nat) (qm : Nat) (qw : Nat) (qu : Nat) (qf : Nat) (ql : Nat) (qo : Nat) (cI cJ : ClassId) (ms : Int32) (mn : Nat) (g : Nat → Int32) (rg : Nat → Int32) (hq : Nat → Int32) (mf : Nat → Int32) (cd : Int32) (fg : Nat → Int32) (L : Int32 × Int32 × Int32 × Int64) (O : Int32 × Int32 × Int32 × Int64) (ov : Nat → Int64) : va_W := (qx, .inl (cJ, 1, .inr (.inl ov))) :: wC qc qp qr qh qm qw qu qf ql qo cI ms mn g rg hq mf cd fg L O
def zz_nc (U : State) : Prop := va_Nc "java/lang/IllegalStateException" "java/lang/IndexOutOfBoundsException" U ∧ va_Nc "java/lang/IllegalStateException" "java/lang/IllegalArgumentException" U
def zz_pl (D : va_G) (tys : List (ClassId × FieldType)) (ws : va_W) (sz : Nat) : State → Prop := fun U => zz_px D tys ws sz U ∧ zz_nc U
abbrev b_La_cell : ByteArray := method_2_code
def y_La_cell : MethodName := ⟨R_La, "cell", "([II)I"⟩
theorem d_La_cell_0 : decode b_La_cell 0 = .ok (.iload_n 1, 1) := by decide +kernel
theorem d_La_cell_1 : decode b_La_cell 1 = .ok (.aload_n 0, 1) := by decide +kernel
theorem d_La_cell_2 : decode b_La_cell 2 = .ok (.arraylength, 1) := by decide +kernel
theorem d_La_cell_3 : decode b_La_cell 3 = .ok (.if_icmp .ge 9, 3) := by decide +kernel
theorem d_La_cell_6 : decode b_La_cell 6 = .ok (.aload_n 0, 1) := by decide +kernel
theorem d_La_cell_7 : decode b_La_cell 7 = .ok (.iload_n 1, 1) := by decide +kernel
theorem d_La_cell_8 : decode b_La_cell 8 = .ok (.iaload, 1) := by decide +kernel
theorem d_La_cell_9 : decode b_La_cell 9 = .ok (.goto 4, 3) := by decide +kernel
theorem d_La_cell_12 : decode b_La_cell 12 = .ok (.iconst 0, 1) := by decide +kernel
theorem d_La_cell_13 : decode b_La_cell 13 = .ok (.ireturn, 1) := by decide +kernel
abbrev b_La_put : ByteArray := method_3_code
def y_La_put : MethodName := ⟨R_La, "put", "(LDelayCore;II[J)I"⟩
theorem d_La_put_0 : decode b_La_put 0 = .ok (.aload_n 3, 1) := by decide +kernel
theorem d_La_put_1 : decode b_La_put 1 = .ok (.iconst 0, 1) := by decide +kernel
theorem d_La_put_2 : decode b_La_put 2 = .ok (.aload_n 0, 1) := by decide +kernel
theorem d_La_put_3 : decode b_La_put 3 = .ok (.iload_n 1, 1) := by decide +kernel
theorem d_La_put_4 : decode b_La_put 4 = .ok (.iload_n 2, 1) := by decide +kernel
theorem d_La_put_5 : decode b_La_put 5 = .ok (.invokevirtual 7, 3) := by decide +kernel
theorem d_La_put_8 : decode b_La_put 8 = .ok (.i2l, 1) := by decide +kernel
theorem d_La_put_9 : decode b_La_put 9 = .ok (.lastore, 1) := by decide +kernel
theorem d_La_put_10 : decode b_La_put 10 = .ok (.goto 7, 3) := by decide +kernel
theorem d_La_put_13 : decode b_La_put 13 = .ok (.astore 4, 2) := by decide +kernel
theorem d_La_put_15 : decode b_La_put 15 = .ok (.iconst 1, 1) := by decide +kernel
theorem d_La_put_16 : decode b_La_put 16 = .ok (.ireturn, 1) := by decide +kernel
theorem d_La_put_17 : decode b_La_put 17 = .ok (.iconst 0, 1) := by decide +kernel
theorem d_La_put_18 : decode b_La_put 18 = .ok (.ireturn, 1) := by decide +kernel
def wp_La_put (ms : Int32) (mn : Nat) (g : Nat → Int32) (rg : Nat → Int32) (hq : Nat → Int32) (mf : Nat → Int32) (cd : Int32) (fg : Nat → Int32) (L : Int32 × Int32 × Int32 × Int64) (O : Int32 × Int32 × Int32 × Int64) (ov : Nat → Int64) (a0 : Int32) (a1 : Int32) (P : Int32 → (((Nat → Int32) × (Nat → Int32) × (Nat → Int32) × (Nat → Int32) × Int32 × (Nat → Int32) × (Int32 × Int32 × Int32 × Int64) × (Int32 × Int32 × Int32 × Int64)) × (Nat → Int64)) → Prop) : Prop := wp_Co_put ms mn g rg hq mf cd fg L O a0 a1 (fun r u => P 0 (u, vp_updL ov (0 : Int32).toNatClampNeg r.toInt64)) (fun E u => (E = "java/lang/IllegalArgumentException" ∧ P 1 (u, ov)))
abbrev rm_La_put : Room := { frames := 7, cells := 1, slots := 6, locals := 113 }
theorem k_La_7 : Cond.methodLink R_La 7 y_Co_put ∈ zz_all := zz_mem (List.mem_of_getElem? (i := 310) (by decide +kernel)) (by decide +kernel)
theorem l_La_13 : Cond.classLink R_La 13 "java/lang/IllegalArgumentException" ∈ zz_all := zz_mem (List.mem_of_getElem? (i := 309) (by decide +kernel)) (by decide +kernel)
set_option maxHeartbeats 4000000 in
set_option maxRecDepth 100000 in
theorem c_La_put (l : Launch) (hl0 : l.stackTraces = false) (D : va_G) (cI cJ : ClassId) (qx : Nat) (qc : Nat) (qp : Nat) (qr : Nat) (qh : Nat) (qm : Nat) (qw : Nat) (qu : Nat) (qf : Nat) (ql : Nat) (qo : Nat) (ms : Int32) (mn : Nat) (g : Nat → Int32) (rg : Nat → Int32) (hq : Nat → Int32) (mf : Nat → Int32) (cd : Int32) (fg : Nat → Int32) (L : Int32 × Int32 × Int32 × Int64) (O : Int32 × Int32 × Int32 × Int64) (ov : Nat → Int64) (a0 : Int32) (a1 : Int32) (P : Int32 → (((Nat → Int32) × (Nat → Int32) × (Nat → Int32) × (Nat → Int32) × Int32 × (Nat → Int32) × (Int32 × Int32 × Int32 × Int64) × (Int32 × Int32 × Int32 × Int64)) × (Nat → Int64)) → Prop) (h : wp_La_put ms mn g rg hq mf cd fg L O ov a0 a1 P) (sz : Nat) : Met l y_La_put (Cond.codeWith y_La_put b_La_put 5 (some .int) [(0, 10, 13, 13)] :: zz_all) rm_La_put (va_Pc [.ref qc, .int a0, .int a1, .ref qx] (zz_pl D [(cI, .int), (cJ, .long)] (wL qx qc qp qr qh qm qw qu qf ql qo cI cJ ms mn g rg hq mf cd fg L O ov) sz)) (va_Qi P (zz_qw D (fun u => wL qx qc qp qr qh qm qw qu qf ql qo cI cJ ms mn u.1.1 u.1.2.1 u.1.2.2.1 u.1.2.2.2.1 u.1.2.2.2.2.1 u.1.2.2.2.2.2.1 u.1.2.2.2.2.2.2.1 u.1.2.2.2.2.2.2.2 u.2) (va_A (wL qx qc qp qr qh qm qw qu qf ql qo cI cJ ms mn g rg hq mf cd fg L O ov) sz)) (va_A (wL qx qc qp qr qh qm qw qu qf ql qo cI cJ ms mn g rg hq mf cd fg L O ov) sz)) 1 6 (va_A (wL qx qc qp qr qh qm qw qu qf ql qo cI cJ ms mn g rg hq mf cd fg L O ov) sz) := by
  refine va_MetW (cc := b_La_put) (maxL := 5) (ret := (some .int)) (hh := [(0, 10, 13, 13)]) (by decide) rfl ?_
  intro p e s m args below meth c s₁ B hml hv
  obtain ⟨rfl, ⟨⟨hsz, hP, hK, hD0⟩, hE⟩, hNc⟩ := hv
  have hx := B.exec
  have hb := B.bytes
  have hr := B.returns
  have hts := atoms_spec (ws := (Cond.codeWith y_La_put b_La_put 5 (some .int) [(0, 10, 13, 13)] :: zz_all)) B.pre
  have hown : s.vm.findClass R_La = some m.cls := findClass_of_methodNamed B.named
  have hlocks := B.notSynchronized
  have hT := zz_hts hts
  have htab : c.exceptionTable.toList = tableOf [(0, 10, 13, 13)] := vx_table (x := y_La_put) B (hts _ List.mem_cons_self)
  have X : CallFix p m c b_La_put 5 s ([.ref qc, .int a0, .int a1, .ref qx] : List Value).toArray (Cond.codeWith y_La_put b_La_put 5 (some .int) [(0, 10, 13, 13)] :: zz_all) R_La := ⟨hx, hb, hml, hown, hts⟩
  subst hsz
  have hD := hD0.self (sz := s.heap.size)
  generalize hAe : va_A (wL qx qc qp qr qh qm qw qu qf ql qo cI cJ ms mn g rg hq mf cd fg L O ov) s.heap.size = A at hD hE ⊢
  have hA : ∀ q : Nat, s.heap.size ≤ q → A q := fun q h => by rw [← hAe]; exact Or.inr h
  have hS : va_S A s.heap s.heap [] := va_S.rf
  have hl := lv_entry ([.ref qc, .int a0, .int a1, .ref qx]) (n := 5) (Nat.le_of_ble_eq_true rfl)
  rw [lg_entry_eq]
  generalize (lg_sl ([.ref qc, .int a0, .int a1, .ref qx]) ++ List.replicate (5 - (lg_sl ([.ref qc, .int a0, .int a1, .ref qx])).length) Slot.unset).toArray = ls at hl ⊢
  have hl : lv_has ls 5 [(0, .ref qc), (1, .int a0), (2, .int a1), (3, .ref qx)] := hl
  refine lv_aload_n hx hb d_La_put_0 rfl (lv_at hl 3 rfl) ?_
  refine lv_iconst (v := 0) hx hb d_La_put_1 (by decide) ?_
  refine lv_aload_n hx hb d_La_put_2 rfl (lv_at hl 0 rfl) ?_
  refine lv_iload_n hx hb d_La_put_3 rfl (lv_at hl 1 rfl) ?_
  refine lv_iload_n hx hb d_La_put_4 rfl (lv_at hl 2 rfl) ?_
  have hK1 : va_K D vwCl [(cI, .int)] s := hK.sub [0] rfl
  refine zz_Xi (As := [.int a0, .int a1]) (rest := [.int 0, .ref qx]) (wc := wC qc qp qr qh qm qw qu qf ql qo cI ms mn g rg hq mf cd fg L O) (wr := [(qx, .inl (cJ, 1, .inr (.inl ov)))]) X hK1 hP hD hS hA hE (c_Co_put l hl0 D cI qc qp qr qh qm qw qu qf ql qo ms mn g rg hq mf cd fg L O a0 a1 _ _ h _) ⟨rfl, rfl⟩ m_Co_put k_La_7 ⟨Nat.le_of_ble_eq_true rfl, Nat.le_of_ble_eq_true rfl⟩ [1, 2, 3, 4, 5, 6, 7, 8, 9, 10] [0] rfl rfl (by decide) (by decide) (by decide) 5 1 rfl rfl rfl rfl hl.1 rfl (Nat.le_of_ble_eq_true rfl) d_La_put_5 ⟨Nat.le_of_ble_eq_true rfl, Nat.le_of_ble_eq_true rfl⟩ (fun E ce q9 u H locs hpx hP hD hS hce hcv hcl => ?_) (fun r u H locs h hP hD hS => ?_)
  · skip
    have hP : va_P D vwCl (wL qx qc qp qr qh qm qw qu qf ql qo cI cJ ms mn u.1 u.2.1 u.2.2.1 u.2.2.2.1 u.2.2.2.2.1 u.2.2.2.2.2.1 u.2.2.2.2.2.2.1 u.2.2.2.2.2.2.2 ov) H := hP
    have hD : va_D A (wL qx qc qp qr qh qm qw qu qf ql qo cI cJ ms mn u.1 u.2.1 u.2.2.1 u.2.2.2.1 u.2.2.2.2.1 u.2.2.2.2.2.1 u.2.2.2.2.2.2.1 u.2.2.2.2.2.2.2 ov) := hD
    obtain ⟨rfl, h⟩ := hpx
    refine vx_catch (name := "java/lang/IllegalArgumentException") hown [] ⟨0, 10, 13, 13⟩ [] htab (fun z hz => nomatch hz) (by decide) (by decide) (hT _ l_La_13) (va_Nw.use rfl hE.2.2.1.1) hce hcv hcl ?_
    refine lv_astore (lv' := [(4, .ref q9), (0, .ref qc), (1, .int a0), (2, .int a1), (3, .ref qx)]) hx hb d_La_put_13 hl (by decide) rfl (fun ls hl => ?_)
    refine lv_iconst (v := 1) hx hb d_La_put_15 (by decide) ?_
    exact W.iret (v := 1) hx hb hr (fun t ht hW => ⟨⟨1, (u, ov), rfl, h, by rw [ht]; exact hP, hD⟩, hS.F ht⟩) hS.2.2 d_La_put_16
  · skip
    have hP : va_P D vwCl (wL qx qc qp qr qh qm qw qu qf ql qo cI cJ ms mn u.1 u.2.1 u.2.2.1 u.2.2.2.1 u.2.2.2.2.1 u.2.2.2.2.2.1 u.2.2.2.2.2.2.1 u.2.2.2.2.2.2.2 ov) H := hP
    have hD : va_D A (wL qx qc qp qr qh qm qw qu qf ql qo cI cJ ms mn u.1 u.2.1 u.2.2.1 u.2.2.2.1 u.2.2.2.2.1 u.2.2.2.2.2.1 u.2.2.2.2.2.2.1 u.2.2.2.2.2.2.2 ov) := hD
    refine lv_i2l (v := r.toInt64) hx hb d_La_put_8 rfl ?_
    refine va_last (f := ov) hx hb hK hP hD hS 0 1 rfl rfl (by unfold vp_in; decide) d_La_put_9 (fun H locs hP hD hS => ?_)
    have hP : va_P D vwCl (wL qx qc qp qr qh qm qw qu qf ql qo cI cJ ms mn u.1 u.2.1 u.2.2.1 u.2.2.2.1 u.2.2.2.2.1 u.2.2.2.2.2.1 u.2.2.2.2.2.2.1 u.2.2.2.2.2.2.2 (vp_updL ov (0 : Int32).toNatClampNeg r.toInt64)) H := hP
    have hD : va_D A (wL qx qc qp qr qh qm qw qu qf ql qo cI cJ ms mn u.1 u.2.1 u.2.2.1 u.2.2.2.1 u.2.2.2.2.1 u.2.2.2.2.2.1 u.2.2.2.2.2.2.1 u.2.2.2.2.2.2.2 (vp_updL ov (0 : Int32).toNatClampNeg r.toInt64)) := hD
    refine lv_goto (tgt := 17) hx hb d_La_put_10 (by decide) ?_
    refine lv_iconst (v := 0) hx hb d_La_put_17 (by decide) ?_
    exact W.iret (v := 0) hx hb hr (fun t ht hW => ⟨⟨0, (u, vp_updL ov (0 : Int32).toNatClampNeg r.toInt64), rfl, h, by rw [ht]; exact hP, hD⟩, hS.F ht⟩) hS.2.2 d_La_put_18
abbrev b_La_word : ByteArray := method_4_code
def y_La_word : MethodName := ⟨R_La, "word", "(LDelayCore;I[J)I"⟩
theorem d_La_word_0 : decode b_La_word 0 = .ok (.aload_n 2, 1) := by decide +kernel
theorem d_La_word_1 : decode b_La_word 1 = .ok (.iconst 0, 1) := by decide +kernel
theorem d_La_word_2 : decode b_La_word 2 = .ok (.aload_n 0, 1) := by decide +kernel
theorem d_La_word_3 : decode b_La_word 3 = .ok (.iload_n 1, 1) := by decide +kernel
theorem d_La_word_4 : decode b_La_word 4 = .ok (.invokevirtual 15, 3) := by decide +kernel
theorem d_La_word_7 : decode b_La_word 7 = .ok (.i2l, 1) := by decide +kernel
theorem d_La_word_8 : decode b_La_word 8 = .ok (.lastore, 1) := by decide +kernel
theorem d_La_word_9 : decode b_La_word 9 = .ok (.goto 6, 3) := by decide +kernel
theorem d_La_word_12 : decode b_La_word 12 = .ok (.astore_n 3, 1) := by decide +kernel
theorem d_La_word_13 : decode b_La_word 13 = .ok (.iconst 1, 1) := by decide +kernel
theorem d_La_word_14 : decode b_La_word 14 = .ok (.ireturn, 1) := by decide +kernel
theorem d_La_word_15 : decode b_La_word 15 = .ok (.iconst 0, 1) := by decide +kernel
theorem d_La_word_16 : decode b_La_word 16 = .ok (.ireturn, 1) := by decide +kernel
def wp_La_word (ms : Int32) (mn : Nat) (g : Nat → Int32) (rg : Nat → Int32) (hq : Nat → Int32) (mf : Nat → Int32) (cd : Int32) (fg : Nat → Int32) (L : Int32 × Int32 × Int32 × Int64) (O : Int32 × Int32 × Int32 × Int64) (ov : Nat → Int64) (a0 : Int32) (P : Int32 → (((Nat → Int32) × (Nat → Int32) × (Nat → Int32) × (Nat → Int32) × Int32 × (Nat → Int32) × (Int32 × Int32 × Int32 × Int64) × (Int32 × Int32 × Int32 × Int64)) × (Nat → Int64)) → Prop) : Prop := wp_Co_word ms mn g rg hq mf cd fg L O a0 (fun r u => P 0 (u, vp_updL ov (0 : Int32).toNatClampNeg r.toInt64)) (fun E u => (E = "java/lang/IllegalArgumentException" ∧ P 1 (u, ov)))
abbrev rm_La_word : Room := { frames := 7, cells := 1, slots := 6, locals := 111 }
theorem k_La_15 : Cond.methodLink R_La 15 y_Co_word ∈ zz_all := zz_mem (List.mem_of_getElem? (i := 403) (by decide +kernel)) (by decide +kernel)
set_option maxHeartbeats 4000000 in
set_option maxRecDepth 100000 in
theorem c_La_word (l : Launch) (hl0 : l.stackTraces = false) (D : va_G) (cI cJ : ClassId) (qx : Nat) (qc : Nat) (qp : Nat) (qr : Nat) (qh : Nat) (qm : Nat) (qw : Nat) (qu : Nat) (qf : Nat) (ql : Nat) (qo : Nat) (ms : Int32) (mn : Nat) (g : Nat → Int32) (rg : Nat → Int32) (hq : Nat → Int32) (mf : Nat → Int32) (cd : Int32) (fg : Nat → Int32) (L : Int32 × Int32 × Int32 × Int64) (O : Int32 × Int32 × Int32 × Int64) (ov : Nat → Int64) (a0 : Int32) (P : Int32 → (((Nat → Int32) × (Nat → Int32) × (Nat → Int32) × (Nat → Int32) × Int32 × (Nat → Int32) × (Int32 × Int32 × Int32 × Int64) × (Int32 × Int32 × Int32 × Int64)) × (Nat → Int64)) → Prop) (h : wp_La_word ms mn g rg hq mf cd fg L O ov a0 P) (sz : Nat) : Met l y_La_word (Cond.codeWith y_La_word b_La_word 4 (some .int) [(0, 9, 12, 13)] :: zz_all) rm_La_word (va_Pc [.ref qc, .int a0, .ref qx] (zz_pl D [(cI, .int), (cJ, .long)] (wL qx qc qp qr qh qm qw qu qf ql qo cI cJ ms mn g rg hq mf cd fg L O ov) sz)) (va_Qi P (zz_qw D (fun u => wL qx qc qp qr qh qm qw qu qf ql qo cI cJ ms mn u.1.1 u.1.2.1 u.1.2.2.1 u.1.2.2.2.1 u.1.2.2.2.2.1 u.1.2.2.2.2.2.1 u.1.2.2.2.2.2.2.1 u.1.2.2.2.2.2.2.2 u.2) (va_A (wL qx qc qp qr qh qm qw qu qf ql qo cI cJ ms mn g rg hq mf cd fg L O ov) sz)) (va_A (wL qx qc qp qr qh qm qw qu qf ql qo cI cJ ms mn g rg hq mf cd fg L O ov) sz)) 1 6 (va_A (wL qx qc qp qr qh qm qw qu qf ql qo cI cJ ms mn g rg hq mf cd fg L O ov) sz) := by
  refine va_MetW (cc := b_La_word) (maxL := 4) (ret := (some .int)) (hh := [(0, 9, 12, 13)]) (by decide) rfl ?_
  intro p e s m args below meth c s₁ B hml hv
  obtain ⟨rfl, ⟨⟨hsz, hP, hK, hD0⟩, hE⟩, hNc⟩ := hv
  have hx := B.exec
  have hb := B.bytes
  have hr := B.returns
  have hts := atoms_spec (ws := (Cond.codeWith y_La_word b_La_word 4 (some .int) [(0, 9, 12, 13)] :: zz_all)) B.pre
  have hown : s.vm.findClass R_La = some m.cls := findClass_of_methodNamed B.named
  have hlocks := B.notSynchronized
  have hT := zz_hts hts
  have htab : c.exceptionTable.toList = tableOf [(0, 9, 12, 13)] := vx_table (x := y_La_word) B (hts _ List.mem_cons_self)
  have X : CallFix p m c b_La_word 4 s ([.ref qc, .int a0, .ref qx] : List Value).toArray (Cond.codeWith y_La_word b_La_word 4 (some .int) [(0, 9, 12, 13)] :: zz_all) R_La := ⟨hx, hb, hml, hown, hts⟩
  subst hsz
  have hD := hD0.self (sz := s.heap.size)
  generalize hAe : va_A (wL qx qc qp qr qh qm qw qu qf ql qo cI cJ ms mn g rg hq mf cd fg L O ov) s.heap.size = A at hD hE ⊢
  have hA : ∀ q : Nat, s.heap.size ≤ q → A q := fun q h => by rw [← hAe]; exact Or.inr h
  have hS : va_S A s.heap s.heap [] := va_S.rf
  have hl := lv_entry ([.ref qc, .int a0, .ref qx]) (n := 4) (Nat.le_of_ble_eq_true rfl)
  rw [lg_entry_eq]
  generalize (lg_sl ([.ref qc, .int a0, .ref qx]) ++ List.replicate (4 - (lg_sl ([.ref qc, .int a0, .ref qx])).length) Slot.unset).toArray = ls at hl ⊢
  have hl : lv_has ls 4 [(0, .ref qc), (1, .int a0), (2, .ref qx)] := hl
  refine lv_aload_n hx hb d_La_word_0 rfl (lv_at hl 2 rfl) ?_
  refine lv_iconst (v := 0) hx hb d_La_word_1 (by decide) ?_
  refine lv_aload_n hx hb d_La_word_2 rfl (lv_at hl 0 rfl) ?_
  refine lv_iload_n hx hb d_La_word_3 rfl (lv_at hl 1 rfl) ?_
  have hK1 : va_K D vwCl [(cI, .int)] s := hK.sub [0] rfl
  refine zz_Xi (As := [.int a0]) (rest := [.int 0, .ref qx]) (wc := wC qc qp qr qh qm qw qu qf ql qo cI ms mn g rg hq mf cd fg L O) (wr := [(qx, .inl (cJ, 1, .inr (.inl ov)))]) X hK1 hP hD hS hA hE (c_Co_word l hl0 D cI qc qp qr qh qm qw qu qf ql qo ms mn g rg hq mf cd fg L O a0 _ _ h _) ⟨rfl, rfl⟩ m_Co_word k_La_15 ⟨Nat.le_of_ble_eq_true rfl, Nat.le_of_ble_eq_true rfl⟩ [1, 2, 3, 4, 5, 6, 7, 8, 9, 10] [0] rfl rfl (by decide) (by decide) (by decide) 5 1 rfl rfl rfl rfl hl.1 rfl (Nat.le_of_ble_eq_true rfl) d_La_word_4 ⟨Nat.le_of_ble_eq_true rfl, Nat.le_of_ble_eq_true rfl⟩ (fun E ce q9 u H locs hpx hP hD hS hce hcv hcl => ?_) (fun r u H locs h hP hD hS => ?_)
  · skip
    have hP : va_P D vwCl (wL qx qc qp qr qh qm qw qu qf ql qo cI cJ ms mn u.1 u.2.1 u.2.2.1 u.2.2.2.1 u.2.2.2.2.1 u.2.2.2.2.2.1 u.2.2.2.2.2.2.1 u.2.2.2.2.2.2.2 ov) H := hP
    have hD : va_D A (wL qx qc qp qr qh qm qw qu qf ql qo cI cJ ms mn u.1 u.2.1 u.2.2.1 u.2.2.2.1 u.2.2.2.2.1 u.2.2.2.2.2.1 u.2.2.2.2.2.2.1 u.2.2.2.2.2.2.2 ov) := hD
    obtain ⟨rfl, h⟩ := hpx
    refine vx_catch (name := "java/lang/IllegalArgumentException") hown [] ⟨0, 9, 12, 13⟩ [] htab (fun z hz => nomatch hz) (by decide) (by decide) (hT _ l_La_13) (va_Nw.use rfl hE.2.2.1.1) hce hcv hcl ?_
    refine lv_astore_n (lv' := [(3, .ref q9), (0, .ref qc), (1, .int a0), (2, .ref qx)]) hx hb d_La_word_12 rfl hl (by decide) rfl (fun ls hl => ?_)
    refine lv_iconst (v := 1) hx hb d_La_word_13 (by decide) ?_
    exact W.iret (v := 1) hx hb hr (fun t ht hW => ⟨⟨1, (u, ov), rfl, h, by rw [ht]; exact hP, hD⟩, hS.F ht⟩) hS.2.2 d_La_word_14
  · skip
    have hP : va_P D vwCl (wL qx qc qp qr qh qm qw qu qf ql qo cI cJ ms mn u.1 u.2.1 u.2.2.1 u.2.2.2.1 u.2.2.2.2.1 u.2.2.2.2.2.1 u.2.2.2.2.2.2.1 u.2.2.2.2.2.2.2 ov) H := hP
    have hD : va_D A (wL qx qc qp qr qh qm qw qu qf ql qo cI cJ ms mn u.1 u.2.1 u.2.2.1 u.2.2.2.1 u.2.2.2.2.1 u.2.2.2.2.2.1 u.2.2.2.2.2.2.1 u.2.2.2.2.2.2.2 ov) := hD
    refine lv_i2l (v := r.toInt64) hx hb d_La_word_7 rfl ?_
    refine va_last (f := ov) hx hb hK hP hD hS 0 1 rfl rfl (by unfold vp_in; decide) d_La_word_8 (fun H locs hP hD hS => ?_)
    have hP : va_P D vwCl (wL qx qc qp qr qh qm qw qu qf ql qo cI cJ ms mn u.1 u.2.1 u.2.2.1 u.2.2.2.1 u.2.2.2.2.1 u.2.2.2.2.2.1 u.2.2.2.2.2.2.1 u.2.2.2.2.2.2.2 (vp_updL ov (0 : Int32).toNatClampNeg r.toInt64)) H := hP
    have hD : va_D A (wL qx qc qp qr qh qm qw qu qf ql qo cI cJ ms mn u.1 u.2.1 u.2.2.1 u.2.2.2.1 u.2.2.2.2.1 u.2.2.2.2.2.1 u.2.2.2.2.2.2.1 u.2.2.2.2.2.2.2 (vp_updL ov (0 : Int32).toNatClampNeg r.toInt64)) := hD
    refine lv_goto (tgt := 15) hx hb d_La_word_9 (by decide) ?_
    refine lv_iconst (v := 0) hx hb d_La_word_15 (by decide) ?_
    exact W.iret (v := 0) hx hb hr (fun t ht hW => ⟨⟨0, (u, vp_updL ov (0 : Int32).toNatClampNeg r.toInt64), rfl, h, by rw [ht]; exact hP, hD⟩, hS.F ht⟩) hS.2.2 d_La_word_16
abbrev b_La_go : ByteArray := method_5_code
def y_La_go : MethodName := ⟨R_La, "go", "(LDelayCore;I[J)I"⟩
theorem d_La_go_0 : decode b_La_go 0 = .ok (.aload_n 2, 1) := by decide +kernel
theorem d_La_go_1 : decode b_La_go 1 = .ok (.iconst 0, 1) := by decide +kernel
theorem d_La_go_2 : decode b_La_go 2 = .ok (.aload_n 0, 1) := by decide +kernel
theorem d_La_go_3 : decode b_La_go 3 = .ok (.iload_n 1, 1) := by decide +kernel
theorem d_La_go_4 : decode b_La_go 4 = .ok (.invokevirtual 19, 3) := by decide +kernel
theorem d_La_go_7 : decode b_La_go 7 = .ok (.i2l, 1) := by decide +kernel
theorem d_La_go_8 : decode b_La_go 8 = .ok (.lastore, 1) := by decide +kernel
theorem d_La_go_9 : decode b_La_go 9 = .ok (.goto 6, 3) := by decide +kernel
theorem d_La_go_12 : decode b_La_go 12 = .ok (.astore_n 3, 1) := by decide +kernel
theorem d_La_go_13 : decode b_La_go 13 = .ok (.iconst 1, 1) := by decide +kernel
theorem d_La_go_14 : decode b_La_go 14 = .ok (.ireturn, 1) := by decide +kernel
theorem d_La_go_15 : decode b_La_go 15 = .ok (.iconst 0, 1) := by decide +kernel
theorem d_La_go_16 : decode b_La_go 16 = .ok (.ireturn, 1) := by decide +kernel
def wp_La_go (ms : Int32) (mn : Nat) (g : Nat → Int32) (rg : Nat → Int32) (hq : Nat → Int32) (mf : Nat → Int32) (cd : Int32) (fg : Nat → Int32) (L : Int32 × Int32 × Int32 × Int64) (O : Int32 × Int32 × Int32 × Int64) (ov : Nat → Int64) (a0 : Int32) (P : Int32 → (((Nat → Int32) × (Nat → Int32) × (Nat → Int32) × (Nat → Int32) × Int32 × (Nat → Int32) × (Int32 × Int32 × Int32 × Int64) × (Int32 × Int32 × Int32 × Int64)) × (Nat → Int64)) → Prop) : Prop := wp_Co_go ms mn g rg hq mf cd fg L O a0 (fun r u => P 0 (u, vp_updL ov (0 : Int32).toNatClampNeg r.toInt64)) (fun E u => (E = "java/lang/IllegalArgumentException" ∧ P 1 (u, ov)))
abbrev rm_La_go : Room := { frames := 7, cells := 1, slots := 6, locals := 112 }
theorem k_La_19 : Cond.methodLink R_La 19 y_Co_go ∈ zz_all := zz_mem (List.mem_of_getElem? (i := 410) (by decide +kernel)) (by decide +kernel)
set_option maxHeartbeats 4000000 in
set_option maxRecDepth 100000 in
theorem c_La_go (l : Launch) (hl0 : l.stackTraces = false) (D : va_G) (cI cJ : ClassId) (qx : Nat) (qc : Nat) (qp : Nat) (qr : Nat) (qh : Nat) (qm : Nat) (qw : Nat) (qu : Nat) (qf : Nat) (ql : Nat) (qo : Nat) (ms : Int32) (mn : Nat) (g : Nat → Int32) (rg : Nat → Int32) (hq : Nat → Int32) (mf : Nat → Int32) (cd : Int32) (fg : Nat → Int32) (L : Int32 × Int32 × Int32 × Int64) (O : Int32 × Int32 × Int32 × Int64) (ov : Nat → Int64) (a0 : Int32) (P : Int32 → (((Nat → Int32) × (Nat → Int32) × (Nat → Int32) × (Nat → Int32) × Int32 × (Nat → Int32) × (Int32 × Int32 × Int32 × Int64) × (Int32 × Int32 × Int32 × Int64)) × (Nat → Int64)) → Prop) (h : wp_La_go ms mn g rg hq mf cd fg L O ov a0 P) (sz : Nat) : Met l y_La_go (Cond.codeWith y_La_go b_La_go 4 (some .int) [(0, 9, 12, 13)] :: zz_all) rm_La_go (va_Pc [.ref qc, .int a0, .ref qx] (zz_pl D [(cI, .int), (cJ, .long)] (wL qx qc qp qr qh qm qw qu qf ql qo cI cJ ms mn g rg hq mf cd fg L O ov) sz)) (va_Qi P (zz_qw D (fun u => wL qx qc qp qr qh qm qw qu qf ql qo cI cJ ms mn u.1.1 u.1.2.1 u.1.2.2.1 u.1.2.2.2.1 u.1.2.2.2.2.1 u.1.2.2.2.2.2.1 u.1.2.2.2.2.2.2.1 u.1.2.2.2.2.2.2.2 u.2) (va_A (wL qx qc qp qr qh qm qw qu qf ql qo cI cJ ms mn g rg hq mf cd fg L O ov) sz)) (va_A (wL qx qc qp qr qh qm qw qu qf ql qo cI cJ ms mn g rg hq mf cd fg L O ov) sz)) 1 6 (va_A (wL qx qc qp qr qh qm qw qu qf ql qo cI cJ ms mn g rg hq mf cd fg L O ov) sz) := by
  refine va_MetW (cc := b_La_go) (maxL := 4) (ret := (some .int)) (hh := [(0, 9, 12, 13)]) (by decide) rfl ?_
  intro p e s m args below meth c s₁ B hml hv
  obtain ⟨rfl, ⟨⟨hsz, hP, hK, hD0⟩, hE⟩, hNc⟩ := hv
  have hx := B.exec
  have hb := B.bytes
  have hr := B.returns
  have hts := atoms_spec (ws := (Cond.codeWith y_La_go b_La_go 4 (some .int) [(0, 9, 12, 13)] :: zz_all)) B.pre
  have hown : s.vm.findClass R_La = some m.cls := findClass_of_methodNamed B.named
  have hlocks := B.notSynchronized
  have hT := zz_hts hts
  have htab : c.exceptionTable.toList = tableOf [(0, 9, 12, 13)] := vx_table (x := y_La_go) B (hts _ List.mem_cons_self)
  have X : CallFix p m c b_La_go 4 s ([.ref qc, .int a0, .ref qx] : List Value).toArray (Cond.codeWith y_La_go b_La_go 4 (some .int) [(0, 9, 12, 13)] :: zz_all) R_La := ⟨hx, hb, hml, hown, hts⟩
  subst hsz
  have hD := hD0.self (sz := s.heap.size)
  generalize hAe : va_A (wL qx qc qp qr qh qm qw qu qf ql qo cI cJ ms mn g rg hq mf cd fg L O ov) s.heap.size = A at hD hE ⊢
  have hA : ∀ q : Nat, s.heap.size ≤ q → A q := fun q h => by rw [← hAe]; exact Or.inr h
  have hS : va_S A s.heap s.heap [] := va_S.rf
  have hl := lv_entry ([.ref qc, .int a0, .ref qx]) (n := 4) (Nat.le_of_ble_eq_true rfl)
  rw [lg_entry_eq]
  generalize (lg_sl ([.ref qc, .int a0, .ref qx]) ++ List.replicate (4 - (lg_sl ([.ref qc, .int a0, .ref qx])).length) Slot.unset).toArray = ls at hl ⊢
  have hl : lv_has ls 4 [(0, .ref qc), (1, .int a0), (2, .ref qx)] := hl
  refine lv_aload_n hx hb d_La_go_0 rfl (lv_at hl 2 rfl) ?_
  refine lv_iconst (v := 0) hx hb d_La_go_1 (by decide) ?_
  refine lv_aload_n hx hb d_La_go_2 rfl (lv_at hl 0 rfl) ?_
  refine lv_iload_n hx hb d_La_go_3 rfl (lv_at hl 1 rfl) ?_
  have hK1 : va_K D vwCl [(cI, .int)] s := hK.sub [0] rfl
  refine zz_Xi (As := [.int a0]) (rest := [.int 0, .ref qx]) (wc := wC qc qp qr qh qm qw qu qf ql qo cI ms mn g rg hq mf cd fg L O) (wr := [(qx, .inl (cJ, 1, .inr (.inl ov)))]) X hK1 hP hD hS hA hE (c_Co_go l hl0 D cI qc qp qr qh qm qw qu qf ql qo ms mn g rg hq mf cd fg L O a0 _ _ h _) ⟨rfl, rfl⟩ m_Co_go k_La_19 ⟨Nat.le_of_ble_eq_true rfl, Nat.le_of_ble_eq_true rfl⟩ [1, 2, 3, 4, 5, 6, 7, 8, 9, 10] [0] rfl rfl (by decide) (by decide) (by decide) 5 1 rfl rfl rfl rfl hl.1 rfl (Nat.le_of_ble_eq_true rfl) d_La_go_4 ⟨Nat.le_of_ble_eq_true rfl, Nat.le_of_ble_eq_true rfl⟩ (fun E ce q9 u H locs hpx hP hD hS hce hcv hcl => ?_) (fun r u H locs h hP hD hS => ?_)
  · skip
    have hP : va_P D vwCl (wL qx qc qp qr qh qm qw qu qf ql qo cI cJ ms mn u.1 u.2.1 u.2.2.1 u.2.2.2.1 u.2.2.2.2.1 u.2.2.2.2.2.1 u.2.2.2.2.2.2.1 u.2.2.2.2.2.2.2 ov) H := hP
    have hD : va_D A (wL qx qc qp qr qh qm qw qu qf ql qo cI cJ ms mn u.1 u.2.1 u.2.2.1 u.2.2.2.1 u.2.2.2.2.1 u.2.2.2.2.2.1 u.2.2.2.2.2.2.1 u.2.2.2.2.2.2.2 ov) := hD
    obtain ⟨rfl, h⟩ := hpx
    refine vx_catch (name := "java/lang/IllegalArgumentException") hown [] ⟨0, 9, 12, 13⟩ [] htab (fun z hz => nomatch hz) (by decide) (by decide) (hT _ l_La_13) (va_Nw.use rfl hE.2.2.1.1) hce hcv hcl ?_
    refine lv_astore_n (lv' := [(3, .ref q9), (0, .ref qc), (1, .int a0), (2, .ref qx)]) hx hb d_La_go_12 rfl hl (by decide) rfl (fun ls hl => ?_)
    refine lv_iconst (v := 1) hx hb d_La_go_13 (by decide) ?_
    exact W.iret (v := 1) hx hb hr (fun t ht hW => ⟨⟨1, (u, ov), rfl, h, by rw [ht]; exact hP, hD⟩, hS.F ht⟩) hS.2.2 d_La_go_14
  · skip
    have hP : va_P D vwCl (wL qx qc qp qr qh qm qw qu qf ql qo cI cJ ms mn u.1 u.2.1 u.2.2.1 u.2.2.2.1 u.2.2.2.2.1 u.2.2.2.2.2.1 u.2.2.2.2.2.2.1 u.2.2.2.2.2.2.2 ov) H := hP
    have hD : va_D A (wL qx qc qp qr qh qm qw qu qf ql qo cI cJ ms mn u.1 u.2.1 u.2.2.1 u.2.2.2.1 u.2.2.2.2.1 u.2.2.2.2.2.1 u.2.2.2.2.2.2.1 u.2.2.2.2.2.2.2 ov) := hD
    refine lv_i2l (v := r.toInt64) hx hb d_La_go_7 rfl ?_
    refine va_last (f := ov) hx hb hK hP hD hS 0 1 rfl rfl (by unfold vp_in; decide) d_La_go_8 (fun H locs hP hD hS => ?_)
    have hP : va_P D vwCl (wL qx qc qp qr qh qm qw qu qf ql qo cI cJ ms mn u.1 u.2.1 u.2.2.1 u.2.2.2.1 u.2.2.2.2.1 u.2.2.2.2.2.1 u.2.2.2.2.2.2.1 u.2.2.2.2.2.2.2 (vp_updL ov (0 : Int32).toNatClampNeg r.toInt64)) H := hP
    have hD : va_D A (wL qx qc qp qr qh qm qw qu qf ql qo cI cJ ms mn u.1 u.2.1 u.2.2.1 u.2.2.2.1 u.2.2.2.2.1 u.2.2.2.2.2.1 u.2.2.2.2.2.2.1 u.2.2.2.2.2.2.2 (vp_updL ov (0 : Int32).toNatClampNeg r.toInt64)) := hD
    refine lv_goto (tgt := 15) hx hb d_La_go_9 (by decide) ?_
    refine lv_iconst (v := 0) hx hb d_La_go_15 (by decide) ?_
    exact W.iret (v := 0) hx hb hr (fun t ht hW => ⟨⟨0, (u, vp_updL ov (0 : Int32).toNatClampNeg r.toInt64), rfl, h, by rw [ht]; exact hP, hD⟩, hS.F ht⟩) hS.2.2 d_La_go_16
abbrev b_La_set : ByteArray := method_6_code
def y_La_set : MethodName := ⟨R_La, "set", "(LDelayCore;II[J)I"⟩
theorem d_La_set_0 : decode b_La_set 0 = .ok (.aload_n 3, 1) := by decide +kernel
theorem d_La_set_1 : decode b_La_set 1 = .ok (.iconst 0, 1) := by decide +kernel
theorem d_La_set_2 : decode b_La_set 2 = .ok (.aload_n 0, 1) := by decide +kernel
theorem d_La_set_3 : decode b_La_set 3 = .ok (.iload_n 1, 1) := by decide +kernel
theorem d_La_set_4 : decode b_La_set 4 = .ok (.iload_n 2, 1) := by decide +kernel
theorem d_La_set_5 : decode b_La_set 5 = .ok (.invokevirtual 22, 3) := by decide +kernel
theorem d_La_set_8 : decode b_La_set 8 = .ok (.i2l, 1) := by decide +kernel
theorem d_La_set_9 : decode b_La_set 9 = .ok (.lastore, 1) := by decide +kernel
theorem d_La_set_10 : decode b_La_set 10 = .ok (.goto 7, 3) := by decide +kernel
theorem d_La_set_13 : decode b_La_set 13 = .ok (.astore 4, 2) := by decide +kernel
theorem d_La_set_15 : decode b_La_set 15 = .ok (.iconst 1, 1) := by decide +kernel
theorem d_La_set_16 : decode b_La_set 16 = .ok (.ireturn, 1) := by decide +kernel
theorem d_La_set_17 : decode b_La_set 17 = .ok (.iconst 0, 1) := by decide +kernel
theorem d_La_set_18 : decode b_La_set 18 = .ok (.ireturn, 1) := by decide +kernel
def wp_La_set (ms : Int32) (mn : Nat) (g : Nat → Int32) (rg : Nat → Int32) (hq : Nat → Int32) (mf : Nat → Int32) (cd : Int32) (fg : Nat → Int32) (L : Int32 × Int32 × Int32 × Int64) (O : Int32 × Int32 × Int32 × Int64) (ov : Nat → Int64) (a0 : Int32) (a1 : Int32) (P : Int32 → (((Nat → Int32) × (Nat → Int32) × (Nat → Int32) × (Nat → Int32) × Int32 × (Nat → Int32) × (Int32 × Int32 × Int32 × Int64) × (Int32 × Int32 × Int32 × Int64)) × (Nat → Int64)) → Prop) : Prop := wp_Co_set ms mn g rg hq mf cd fg L O a0 a1 (fun r u => P 0 (u, vp_updL ov (0 : Int32).toNatClampNeg r.toInt64)) (fun E u => (E = "java/lang/IndexOutOfBoundsException" ∧ P 1 (u, ov)))
abbrev rm_La_set : Room := { frames := 7, cells := 1, slots := 6, locals := 113 }
theorem k_La_22 : Cond.methodLink R_La 22 y_Co_set ∈ zz_all := zz_mem (List.mem_of_getElem? (i := 427) (by decide +kernel)) (by decide +kernel)
theorem l_La_25 : Cond.classLink R_La 25 "java/lang/IndexOutOfBoundsException" ∈ zz_all := zz_mem (List.mem_of_getElem? (i := 426) (by decide +kernel)) (by decide +kernel)
set_option maxHeartbeats 4000000 in
set_option maxRecDepth 100000 in
theorem c_La_set (l : Launch) (hl0 : l.stackTraces = false) (D : va_G) (cI cJ : ClassId) (qx : Nat) (qc : Nat) (qp : Nat) (qr : Nat) (qh : Nat) (qm : Nat) (qw : Nat) (qu : Nat) (qf : Nat) (ql : Nat) (qo : Nat) (ms : Int32) (mn : Nat) (g : Nat → Int32) (rg : Nat → Int32) (hq : Nat → Int32) (mf : Nat → Int32) (cd : Int32) (fg : Nat → Int32) (L : Int32 × Int32 × Int32 × Int64) (O : Int32 × Int32 × Int32 × Int64) (ov : Nat → Int64) (a0 : Int32) (a1 : Int32) (P : Int32 → (((Nat → Int32) × (Nat → Int32) × (Nat → Int32) × (Nat → Int32) × Int32 × (Nat → Int32) × (Int32 × Int32 × Int32 × Int64) × (Int32 × Int32 × Int32 × Int64)) × (Nat → Int64)) → Prop) (h : wp_La_set ms mn g rg hq mf cd fg L O ov a0 a1 P) (sz : Nat) : Met l y_La_set (Cond.codeWith y_La_set b_La_set 5 (some .int) [(0, 10, 13, 25)] :: zz_all) rm_La_set (va_Pc [.ref qc, .int a0, .int a1, .ref qx] (zz_pl D [(cI, .int), (cJ, .long)] (wL qx qc qp qr qh qm qw qu qf ql qo cI cJ ms mn g rg hq mf cd fg L O ov) sz)) (va_Qi P (zz_qw D (fun u => wL qx qc qp qr qh qm qw qu qf ql qo cI cJ ms mn u.1.1 u.1.2.1 u.1.2.2.1 u.1.2.2.2.1 u.1.2.2.2.2.1 u.1.2.2.2.2.2.1 u.1.2.2.2.2.2.2.1 u.1.2.2.2.2.2.2.2 u.2) (va_A (wL qx qc qp qr qh qm qw qu qf ql qo cI cJ ms mn g rg hq mf cd fg L O ov) sz)) (va_A (wL qx qc qp qr qh qm qw qu qf ql qo cI cJ ms mn g rg hq mf cd fg L O ov) sz)) 1 6 (va_A (wL qx qc qp qr qh qm qw qu qf ql qo cI cJ ms mn g rg hq mf cd fg L O ov) sz) := by
  refine va_MetW (cc := b_La_set) (maxL := 5) (ret := (some .int)) (hh := [(0, 10, 13, 25)]) (by decide) rfl ?_
  intro p e s m args below meth c s₁ B hml hv
  obtain ⟨rfl, ⟨⟨hsz, hP, hK, hD0⟩, hE⟩, hNc⟩ := hv
  have hx := B.exec
  have hb := B.bytes
  have hr := B.returns
  have hts := atoms_spec (ws := (Cond.codeWith y_La_set b_La_set 5 (some .int) [(0, 10, 13, 25)] :: zz_all)) B.pre
  have hown : s.vm.findClass R_La = some m.cls := findClass_of_methodNamed B.named
  have hlocks := B.notSynchronized
  have hT := zz_hts hts
  have htab : c.exceptionTable.toList = tableOf [(0, 10, 13, 25)] := vx_table (x := y_La_set) B (hts _ List.mem_cons_self)
  have X : CallFix p m c b_La_set 5 s ([.ref qc, .int a0, .int a1, .ref qx] : List Value).toArray (Cond.codeWith y_La_set b_La_set 5 (some .int) [(0, 10, 13, 25)] :: zz_all) R_La := ⟨hx, hb, hml, hown, hts⟩
  subst hsz
  have hD := hD0.self (sz := s.heap.size)
  generalize hAe : va_A (wL qx qc qp qr qh qm qw qu qf ql qo cI cJ ms mn g rg hq mf cd fg L O ov) s.heap.size = A at hD hE ⊢
  have hA : ∀ q : Nat, s.heap.size ≤ q → A q := fun q h => by rw [← hAe]; exact Or.inr h
  have hS : va_S A s.heap s.heap [] := va_S.rf
  have hl := lv_entry ([.ref qc, .int a0, .int a1, .ref qx]) (n := 5) (Nat.le_of_ble_eq_true rfl)
  rw [lg_entry_eq]
  generalize (lg_sl ([.ref qc, .int a0, .int a1, .ref qx]) ++ List.replicate (5 - (lg_sl ([.ref qc, .int a0, .int a1, .ref qx])).length) Slot.unset).toArray = ls at hl ⊢
  have hl : lv_has ls 5 [(0, .ref qc), (1, .int a0), (2, .int a1), (3, .ref qx)] := hl
  refine lv_aload_n hx hb d_La_set_0 rfl (lv_at hl 3 rfl) ?_
  refine lv_iconst (v := 0) hx hb d_La_set_1 (by decide) ?_
  refine lv_aload_n hx hb d_La_set_2 rfl (lv_at hl 0 rfl) ?_
  refine lv_iload_n hx hb d_La_set_3 rfl (lv_at hl 1 rfl) ?_
  refine lv_iload_n hx hb d_La_set_4 rfl (lv_at hl 2 rfl) ?_
  have hK1 : va_K D vwCl [(cI, .int)] s := hK.sub [0] rfl
  refine zz_Xi (As := [.int a0, .int a1]) (rest := [.int 0, .ref qx]) (wc := wC qc qp qr qh qm qw qu qf ql qo cI ms mn g rg hq mf cd fg L O) (wr := [(qx, .inl (cJ, 1, .inr (.inl ov)))]) X hK1 hP hD hS hA hE (c_Co_set l hl0 D cI qc qp qr qh qm qw qu qf ql qo ms mn g rg hq mf cd fg L O a0 a1 _ _ h _) ⟨rfl, rfl⟩ m_Co_set k_La_22 ⟨Nat.le_of_ble_eq_true rfl, Nat.le_of_ble_eq_true rfl⟩ [1, 2, 3, 4, 5, 6, 7, 8, 9, 10] [0] rfl rfl (by decide) (by decide) (by decide) 5 1 rfl rfl rfl rfl hl.1 rfl (Nat.le_of_ble_eq_true rfl) d_La_set_5 ⟨Nat.le_of_ble_eq_true rfl, Nat.le_of_ble_eq_true rfl⟩ (fun E ce q9 u H locs hpx hP hD hS hce hcv hcl => ?_) (fun r u H locs h hP hD hS => ?_)
  · skip
    have hP : va_P D vwCl (wL qx qc qp qr qh qm qw qu qf ql qo cI cJ ms mn u.1 u.2.1 u.2.2.1 u.2.2.2.1 u.2.2.2.2.1 u.2.2.2.2.2.1 u.2.2.2.2.2.2.1 u.2.2.2.2.2.2.2 ov) H := hP
    have hD : va_D A (wL qx qc qp qr qh qm qw qu qf ql qo cI cJ ms mn u.1 u.2.1 u.2.2.1 u.2.2.2.1 u.2.2.2.2.1 u.2.2.2.2.2.1 u.2.2.2.2.2.2.1 u.2.2.2.2.2.2.2 ov) := hD
    obtain ⟨rfl, h⟩ := hpx
    refine vx_catch (name := "java/lang/IndexOutOfBoundsException") hown [] ⟨0, 10, 13, 25⟩ [] htab (fun z hz => nomatch hz) (by decide) (by decide) (hT _ l_La_25) (va_Nw.use rfl hE.2.2.1.2.1) hce hcv hcl ?_
    refine lv_astore (lv' := [(4, .ref q9), (0, .ref qc), (1, .int a0), (2, .int a1), (3, .ref qx)]) hx hb d_La_set_13 hl (by decide) rfl (fun ls hl => ?_)
    refine lv_iconst (v := 1) hx hb d_La_set_15 (by decide) ?_
    exact W.iret (v := 1) hx hb hr (fun t ht hW => ⟨⟨1, (u, ov), rfl, h, by rw [ht]; exact hP, hD⟩, hS.F ht⟩) hS.2.2 d_La_set_16
  · skip
    have hP : va_P D vwCl (wL qx qc qp qr qh qm qw qu qf ql qo cI cJ ms mn u.1 u.2.1 u.2.2.1 u.2.2.2.1 u.2.2.2.2.1 u.2.2.2.2.2.1 u.2.2.2.2.2.2.1 u.2.2.2.2.2.2.2 ov) H := hP
    have hD : va_D A (wL qx qc qp qr qh qm qw qu qf ql qo cI cJ ms mn u.1 u.2.1 u.2.2.1 u.2.2.2.1 u.2.2.2.2.1 u.2.2.2.2.2.1 u.2.2.2.2.2.2.1 u.2.2.2.2.2.2.2 ov) := hD
    refine lv_i2l (v := r.toInt64) hx hb d_La_set_8 rfl ?_
    refine va_last (f := ov) hx hb hK hP hD hS 0 1 rfl rfl (by unfold vp_in; decide) d_La_set_9 (fun H locs hP hD hS => ?_)
    have hP : va_P D vwCl (wL qx qc qp qr qh qm qw qu qf ql qo cI cJ ms mn u.1 u.2.1 u.2.2.1 u.2.2.2.1 u.2.2.2.2.1 u.2.2.2.2.2.1 u.2.2.2.2.2.2.1 u.2.2.2.2.2.2.2 (vp_updL ov (0 : Int32).toNatClampNeg r.toInt64)) H := hP
    have hD : va_D A (wL qx qc qp qr qh qm qw qu qf ql qo cI cJ ms mn u.1 u.2.1 u.2.2.1 u.2.2.2.1 u.2.2.2.2.1 u.2.2.2.2.2.1 u.2.2.2.2.2.2.1 u.2.2.2.2.2.2.2 (vp_updL ov (0 : Int32).toNatClampNeg r.toInt64)) := hD
    refine lv_goto (tgt := 17) hx hb d_La_set_10 (by decide) ?_
    refine lv_iconst (v := 0) hx hb d_La_set_17 (by decide) ?_
    exact W.iret (v := 0) hx hb hr (fun t ht hW => ⟨⟨0, (u, vp_updL ov (0 : Int32).toNatClampNeg r.toInt64), rfl, h, by rw [ht]; exact hP, hD⟩, hS.F ht⟩) hS.2.2 d_La_set_18
abbrev b_La_get : ByteArray := method_7_code
def y_La_get : MethodName := ⟨R_La, "get", "(LDelayCore;I[J)I"⟩
theorem d_La_get_0 : decode b_La_get 0 = .ok (.aload_n 2, 1) := by decide +kernel
theorem d_La_get_1 : decode b_La_get 1 = .ok (.iconst 0, 1) := by decide +kernel
theorem d_La_get_2 : decode b_La_get 2 = .ok (.aload_n 0, 1) := by decide +kernel
theorem d_La_get_3 : decode b_La_get 3 = .ok (.iload_n 1, 1) := by decide +kernel
theorem d_La_get_4 : decode b_La_get 4 = .ok (.invokevirtual 27, 3) := by decide +kernel
theorem d_La_get_7 : decode b_La_get 7 = .ok (.i2l, 1) := by decide +kernel
theorem d_La_get_8 : decode b_La_get 8 = .ok (.lastore, 1) := by decide +kernel
theorem d_La_get_9 : decode b_La_get 9 = .ok (.goto 9, 3) := by decide +kernel
theorem d_La_get_12 : decode b_La_get 12 = .ok (.astore_n 3, 1) := by decide +kernel
theorem d_La_get_13 : decode b_La_get 13 = .ok (.iconst 1, 1) := by decide +kernel
theorem d_La_get_14 : decode b_La_get 14 = .ok (.ireturn, 1) := by decide +kernel
theorem d_La_get_15 : decode b_La_get 15 = .ok (.astore_n 3, 1) := by decide +kernel
theorem d_La_get_16 : decode b_La_get 16 = .ok (.iconst 2, 1) := by decide +kernel
theorem d_La_get_17 : decode b_La_get 17 = .ok (.ireturn, 1) := by decide +kernel
theorem d_La_get_18 : decode b_La_get 18 = .ok (.iconst 0, 1) := by decide +kernel
theorem d_La_get_19 : decode b_La_get 19 = .ok (.ireturn, 1) := by decide +kernel
def wp_La_get (ms : Int32) (mn : Nat) (g : Nat → Int32) (rg : Nat → Int32) (hq : Nat → Int32) (mf : Nat → Int32) (cd : Int32) (fg : Nat → Int32) (L : Int32 × Int32 × Int32 × Int64) (O : Int32 × Int32 × Int32 × Int64) (ov : Nat → Int64) (a0 : Int32) (P : Int32 → (((Nat → Int32) × (Nat → Int32) × (Nat → Int32) × (Nat → Int32) × Int32 × (Nat → Int32) × (Int32 × Int32 × Int32 × Int64) × (Int32 × Int32 × Int32 × Int64)) × (Nat → Int64)) → Prop) : Prop := wp_Co_get ms mn g rg hq mf cd fg L O a0 (fun r u => P 0 (u, vp_updL ov (0 : Int32).toNatClampNeg r.toInt64)) (fun E u => (E = "java/lang/IndexOutOfBoundsException" ∧ P 1 (u, ov)) ∨ (E = "java/lang/IllegalStateException" ∧ P 2 (u, ov)))
abbrev rm_La_get : Room := { frames := 7, cells := 1, slots := 6, locals := 111 }
theorem k_La_27 : Cond.methodLink R_La 27 y_Co_get ∈ zz_all := zz_mem (List.mem_of_getElem? (i := 471) (by decide +kernel)) (by decide +kernel)
theorem l_La_30 : Cond.classLink R_La 30 "java/lang/IllegalStateException" ∈ zz_all := zz_mem (List.mem_of_getElem? (i := 470) (by decide +kernel)) (by decide +kernel)
set_option maxHeartbeats 4000000 in
set_option maxRecDepth 100000 in
theorem c_La_get (l : Launch) (hl0 : l.stackTraces = false) (D : va_G) (cI cJ : ClassId) (qx : Nat) (qc : Nat) (qp : Nat) (qr : Nat) (qh : Nat) (qm : Nat) (qw : Nat) (qu : Nat) (qf : Nat) (ql : Nat) (qo : Nat) (ms : Int32) (mn : Nat) (g : Nat → Int32) (rg : Nat → Int32) (hq : Nat → Int32) (mf : Nat → Int32) (cd : Int32) (fg : Nat → Int32) (L : Int32 × Int32 × Int32 × Int64) (O : Int32 × Int32 × Int32 × Int64) (ov : Nat → Int64) (a0 : Int32) (P : Int32 → (((Nat → Int32) × (Nat → Int32) × (Nat → Int32) × (Nat → Int32) × Int32 × (Nat → Int32) × (Int32 × Int32 × Int32 × Int64) × (Int32 × Int32 × Int32 × Int64)) × (Nat → Int64)) → Prop) (h : wp_La_get ms mn g rg hq mf cd fg L O ov a0 P) (sz : Nat) : Met l y_La_get (Cond.codeWith y_La_get b_La_get 4 (some .int) [(0, 9, 12, 25), (0, 9, 15, 30)] :: zz_all) rm_La_get (va_Pc [.ref qc, .int a0, .ref qx] (zz_pl D [(cI, .int), (cJ, .long)] (wL qx qc qp qr qh qm qw qu qf ql qo cI cJ ms mn g rg hq mf cd fg L O ov) sz)) (va_Qi P (zz_qw D (fun u => wL qx qc qp qr qh qm qw qu qf ql qo cI cJ ms mn u.1.1 u.1.2.1 u.1.2.2.1 u.1.2.2.2.1 u.1.2.2.2.2.1 u.1.2.2.2.2.2.1 u.1.2.2.2.2.2.2.1 u.1.2.2.2.2.2.2.2 u.2) (va_A (wL qx qc qp qr qh qm qw qu qf ql qo cI cJ ms mn g rg hq mf cd fg L O ov) sz)) (va_A (wL qx qc qp qr qh qm qw qu qf ql qo cI cJ ms mn g rg hq mf cd fg L O ov) sz)) 1 6 (va_A (wL qx qc qp qr qh qm qw qu qf ql qo cI cJ ms mn g rg hq mf cd fg L O ov) sz) := by
  refine va_MetW (cc := b_La_get) (maxL := 4) (ret := (some .int)) (hh := [(0, 9, 12, 25), (0, 9, 15, 30)]) (by decide) rfl ?_
  intro p e s m args below meth c s₁ B hml hv
  obtain ⟨rfl, ⟨⟨hsz, hP, hK, hD0⟩, hE⟩, hNc⟩ := hv
  have hx := B.exec
  have hb := B.bytes
  have hr := B.returns
  have hts := atoms_spec (ws := (Cond.codeWith y_La_get b_La_get 4 (some .int) [(0, 9, 12, 25), (0, 9, 15, 30)] :: zz_all)) B.pre
  have hown : s.vm.findClass R_La = some m.cls := findClass_of_methodNamed B.named
  have hlocks := B.notSynchronized
  have hT := zz_hts hts
  have htab : c.exceptionTable.toList = tableOf [(0, 9, 12, 25), (0, 9, 15, 30)] := vx_table (x := y_La_get) B (hts _ List.mem_cons_self)
  have X : CallFix p m c b_La_get 4 s ([.ref qc, .int a0, .ref qx] : List Value).toArray (Cond.codeWith y_La_get b_La_get 4 (some .int) [(0, 9, 12, 25), (0, 9, 15, 30)] :: zz_all) R_La := ⟨hx, hb, hml, hown, hts⟩
  subst hsz
  have hD := hD0.self (sz := s.heap.size)
  generalize hAe : va_A (wL qx qc qp qr qh qm qw qu qf ql qo cI cJ ms mn g rg hq mf cd fg L O ov) s.heap.size = A at hD hE ⊢
  have hA : ∀ q : Nat, s.heap.size ≤ q → A q := fun q h => by rw [← hAe]; exact Or.inr h
  have hS : va_S A s.heap s.heap [] := va_S.rf
  have hl := lv_entry ([.ref qc, .int a0, .ref qx]) (n := 4) (Nat.le_of_ble_eq_true rfl)
  rw [lg_entry_eq]
  generalize (lg_sl ([.ref qc, .int a0, .ref qx]) ++ List.replicate (4 - (lg_sl ([.ref qc, .int a0, .ref qx])).length) Slot.unset).toArray = ls at hl ⊢
  have hl : lv_has ls 4 [(0, .ref qc), (1, .int a0), (2, .ref qx)] := hl
  refine lv_aload_n hx hb d_La_get_0 rfl (lv_at hl 2 rfl) ?_
  refine lv_iconst (v := 0) hx hb d_La_get_1 (by decide) ?_
  refine lv_aload_n hx hb d_La_get_2 rfl (lv_at hl 0 rfl) ?_
  refine lv_iload_n hx hb d_La_get_3 rfl (lv_at hl 1 rfl) ?_
  have hK1 : va_K D vwCl [(cI, .int)] s := hK.sub [0] rfl
  refine zz_Xi (As := [.int a0]) (rest := [.int 0, .ref qx]) (wc := wC qc qp qr qh qm qw qu qf ql qo cI ms mn g rg hq mf cd fg L O) (wr := [(qx, .inl (cJ, 1, .inr (.inl ov)))]) X hK1 hP hD hS hA hE (c_Co_get l hl0 D cI qc qp qr qh qm qw qu qf ql qo ms mn g rg hq mf cd fg L O a0 _ _ h _) ⟨rfl, rfl⟩ m_Co_get k_La_27 ⟨Nat.le_of_ble_eq_true rfl, Nat.le_of_ble_eq_true rfl⟩ [1, 2, 3, 4, 5, 6, 7, 8, 9, 10] [0] rfl rfl (by decide) (by decide) (by decide) 5 1 rfl rfl rfl rfl hl.1 rfl (Nat.le_of_ble_eq_true rfl) d_La_get_4 ⟨Nat.le_of_ble_eq_true rfl, Nat.le_of_ble_eq_true rfl⟩ (fun E ce q9 u H locs hpx hP hD hS hce hcv hcl => ?_) (fun r u H locs h hP hD hS => ?_)
  · skip
    have hP : va_P D vwCl (wL qx qc qp qr qh qm qw qu qf ql qo cI cJ ms mn u.1 u.2.1 u.2.2.1 u.2.2.2.1 u.2.2.2.2.1 u.2.2.2.2.2.1 u.2.2.2.2.2.2.1 u.2.2.2.2.2.2.2 ov) H := hP
    have hD : va_D A (wL qx qc qp qr qh qm qw qu qf ql qo cI cJ ms mn u.1 u.2.1 u.2.2.1 u.2.2.2.1 u.2.2.2.2.1 u.2.2.2.2.2.1 u.2.2.2.2.2.2.1 u.2.2.2.2.2.2.2 ov) := hD
    rcases hpx with hpx | hpx
    · skip
      obtain ⟨rfl, h⟩ := hpx
      refine vx_catch (name := "java/lang/IndexOutOfBoundsException") hown [] ⟨0, 9, 12, 25⟩ [⟨0, 9, 15, 30⟩] htab (fun z hz => nomatch hz) (by decide) (by decide) (hT _ l_La_25) (va_Nw.use rfl hE.2.2.1.2.1) hce hcv hcl ?_
      refine lv_astore_n (lv' := [(3, .ref q9), (0, .ref qc), (1, .int a0), (2, .ref qx)]) hx hb d_La_get_12 rfl hl (by decide) rfl (fun ls hl => ?_)
      refine lv_iconst (v := 1) hx hb d_La_get_13 (by decide) ?_
      exact W.iret (v := 1) hx hb hr (fun t ht hW => ⟨⟨1, (u, ov), rfl, h, by rw [ht]; exact hP, hD⟩, hS.F ht⟩) hS.2.2 d_La_get_14
    · skip
      obtain ⟨rfl, h⟩ := hpx
      refine vx_catch (name := "java/lang/IllegalStateException") hown [⟨0, 9, 12, 25⟩] ⟨0, 9, 15, 30⟩ [] htab (fun z hz => by rw [List.mem_singleton] at hz; subst hz; exact Or.inr ⟨by decide, "java/lang/IndexOutOfBoundsException", hT _ l_La_25, hNc.1⟩) (by decide) (by decide) (hT _ l_La_30) (va_Nw.use rfl hE.2.2.1.2.2.1) hce hcv hcl ?_
      refine lv_astore_n (lv' := [(3, .ref q9), (0, .ref qc), (1, .int a0), (2, .ref qx)]) hx hb d_La_get_15 rfl hl (by decide) rfl (fun ls hl => ?_)
      refine lv_iconst (v := 2) hx hb d_La_get_16 (by decide) ?_
      exact W.iret (v := 2) hx hb hr (fun t ht hW => ⟨⟨2, (u, ov), rfl, h, by rw [ht]; exact hP, hD⟩, hS.F ht⟩) hS.2.2 d_La_get_17
  · skip
    have hP : va_P D vwCl (wL qx qc qp qr qh qm qw qu qf ql qo cI cJ ms mn u.1 u.2.1 u.2.2.1 u.2.2.2.1 u.2.2.2.2.1 u.2.2.2.2.2.1 u.2.2.2.2.2.2.1 u.2.2.2.2.2.2.2 ov) H := hP
    have hD : va_D A (wL qx qc qp qr qh qm qw qu qf ql qo cI cJ ms mn u.1 u.2.1 u.2.2.1 u.2.2.2.1 u.2.2.2.2.1 u.2.2.2.2.2.1 u.2.2.2.2.2.2.1 u.2.2.2.2.2.2.2 ov) := hD
    refine lv_i2l (v := r.toInt64) hx hb d_La_get_7 rfl ?_
    refine va_last (f := ov) hx hb hK hP hD hS 0 1 rfl rfl (by unfold vp_in; decide) d_La_get_8 (fun H locs hP hD hS => ?_)
    have hP : va_P D vwCl (wL qx qc qp qr qh qm qw qu qf ql qo cI cJ ms mn u.1 u.2.1 u.2.2.1 u.2.2.2.1 u.2.2.2.2.1 u.2.2.2.2.2.1 u.2.2.2.2.2.2.1 u.2.2.2.2.2.2.2 (vp_updL ov (0 : Int32).toNatClampNeg r.toInt64)) H := hP
    have hD : va_D A (wL qx qc qp qr qh qm qw qu qf ql qo cI cJ ms mn u.1 u.2.1 u.2.2.1 u.2.2.2.1 u.2.2.2.2.1 u.2.2.2.2.2.1 u.2.2.2.2.2.2.1 u.2.2.2.2.2.2.2 (vp_updL ov (0 : Int32).toNatClampNeg r.toInt64)) := hD
    refine lv_goto (tgt := 18) hx hb d_La_get_9 (by decide) ?_
    refine lv_iconst (v := 0) hx hb d_La_get_18 (by decide) ?_
    exact W.iret (v := 0) hx hb hr (fun t ht hW => ⟨⟨0, (u, vp_updL ov (0 : Int32).toNatClampNeg r.toInt64), rfl, h, by rw [ht]; exact hP, hD⟩, hS.F ht⟩) hS.2.2 d_La_get_19
abbrev b_La_run : ByteArray := method_8_code
def y_La_run : MethodName := ⟨R_La, "run", "(LDelayCore;I[J)I"⟩
theorem d_La_run_0 : decode b_La_run 0 = .ok (.aload_n 2, 1) := by decide +kernel
theorem d_La_run_1 : decode b_La_run 1 = .ok (.iconst 0, 1) := by decide +kernel
theorem d_La_run_2 : decode b_La_run 2 = .ok (.aload_n 0, 1) := by decide +kernel
theorem d_La_run_3 : decode b_La_run 3 = .ok (.iload_n 1, 1) := by decide +kernel
theorem d_La_run_4 : decode b_La_run 4 = .ok (.invokevirtual 32, 3) := by decide +kernel
theorem d_La_run_7 : decode b_La_run 7 = .ok (.i2l, 1) := by decide +kernel
theorem d_La_run_8 : decode b_La_run 8 = .ok (.lastore, 1) := by decide +kernel
theorem d_La_run_9 : decode b_La_run 9 = .ok (.goto 9, 3) := by decide +kernel
theorem d_La_run_12 : decode b_La_run 12 = .ok (.astore_n 3, 1) := by decide +kernel
theorem d_La_run_13 : decode b_La_run 13 = .ok (.iconst 1, 1) := by decide +kernel
theorem d_La_run_14 : decode b_La_run 14 = .ok (.ireturn, 1) := by decide +kernel
theorem d_La_run_15 : decode b_La_run 15 = .ok (.astore_n 3, 1) := by decide +kernel
theorem d_La_run_16 : decode b_La_run 16 = .ok (.iconst 2, 1) := by decide +kernel
theorem d_La_run_17 : decode b_La_run 17 = .ok (.ireturn, 1) := by decide +kernel
theorem d_La_run_18 : decode b_La_run 18 = .ok (.iconst 0, 1) := by decide +kernel
theorem d_La_run_19 : decode b_La_run 19 = .ok (.ireturn, 1) := by decide +kernel
def wp_La_run (ms : Int32) (mn : Nat) (g : Nat → Int32) (rg : Nat → Int32) (hq : Nat → Int32) (mf : Nat → Int32) (cd : Int32) (fg : Nat → Int32) (L : Int32 × Int32 × Int32 × Int64) (O : Int32 × Int32 × Int32 × Int64) (ov : Nat → Int64) (a0 : Int32) (P : Int32 → (((Nat → Int32) × (Nat → Int32) × (Nat → Int32) × (Nat → Int32) × Int32 × (Nat → Int32) × (Int32 × Int32 × Int32 × Int64) × (Int32 × Int32 × Int32 × Int64)) × (Nat → Int64)) → Prop) : Prop := wp_Co_run ms mn g rg hq mf cd fg L O a0 (fun r u => P 0 (u, vp_updL ov (0 : Int32).toNatClampNeg r.toInt64)) (fun E u => (E = "java/lang/IllegalArgumentException" ∧ P 1 (u, ov)) ∨ (E = "java/lang/IllegalStateException" ∧ P 2 (u, ov)))
abbrev rm_La_run : Room := { frames := 8, cells := 1, slots := 6, locals := 197 }
theorem k_La_32 : Cond.methodLink R_La 32 y_Co_run ∈ zz_all := zz_mem (List.mem_of_getElem? (i := 494) (by decide +kernel)) (by decide +kernel)
set_option maxHeartbeats 4000000 in
set_option maxRecDepth 100000 in
theorem c_La_run (l : Launch) (hl0 : l.stackTraces = false) (D : va_G) (cI cJ : ClassId) (qx : Nat) (qc : Nat) (qp : Nat) (qr : Nat) (qh : Nat) (qm : Nat) (qw : Nat) (qu : Nat) (qf : Nat) (ql : Nat) (qo : Nat) (ms : Int32) (mn : Nat) (g : Nat → Int32) (rg : Nat → Int32) (hq : Nat → Int32) (mf : Nat → Int32) (cd : Int32) (fg : Nat → Int32) (L : Int32 × Int32 × Int32 × Int64) (O : Int32 × Int32 × Int32 × Int64) (ov : Nat → Int64) (a0 : Int32) (P : Int32 → (((Nat → Int32) × (Nat → Int32) × (Nat → Int32) × (Nat → Int32) × Int32 × (Nat → Int32) × (Int32 × Int32 × Int32 × Int64) × (Int32 × Int32 × Int32 × Int64)) × (Nat → Int64)) → Prop) (h : wp_La_run ms mn g rg hq mf cd fg L O ov a0 P) (sz : Nat) : Met l y_La_run (Cond.codeWith y_La_run b_La_run 4 (some .int) [(0, 9, 12, 13), (0, 9, 15, 30)] :: zz_all) rm_La_run (va_Pc [.ref qc, .int a0, .ref qx] (zz_pl D [(cI, .int), (cJ, .long)] (wL qx qc qp qr qh qm qw qu qf ql qo cI cJ ms mn g rg hq mf cd fg L O ov) sz)) (va_Qi P (zz_qw D (fun u => wL qx qc qp qr qh qm qw qu qf ql qo cI cJ ms mn u.1.1 u.1.2.1 u.1.2.2.1 u.1.2.2.2.1 u.1.2.2.2.2.1 u.1.2.2.2.2.2.1 u.1.2.2.2.2.2.2.1 u.1.2.2.2.2.2.2.2 u.2) (va_A (wL qx qc qp qr qh qm qw qu qf ql qo cI cJ ms mn g rg hq mf cd fg L O ov) sz)) (va_A (wL qx qc qp qr qh qm qw qu qf ql qo cI cJ ms mn g rg hq mf cd fg L O ov) sz)) 1 6 (va_A (wL qx qc qp qr qh qm qw qu qf ql qo cI cJ ms mn g rg hq mf cd fg L O ov) sz) := by
  refine va_MetW (cc := b_La_run) (maxL := 4) (ret := (some .int)) (hh := [(0, 9, 12, 13), (0, 9, 15, 30)]) (by decide) rfl ?_
  intro p e s m args below meth c s₁ B hml hv
  obtain ⟨rfl, ⟨⟨hsz, hP, hK, hD0⟩, hE⟩, hNc⟩ := hv
  have hx := B.exec
  have hb := B.bytes
  have hr := B.returns
  have hts := atoms_spec (ws := (Cond.codeWith y_La_run b_La_run 4 (some .int) [(0, 9, 12, 13), (0, 9, 15, 30)] :: zz_all)) B.pre
  have hown : s.vm.findClass R_La = some m.cls := findClass_of_methodNamed B.named
  have hlocks := B.notSynchronized
  have hT := zz_hts hts
  have htab : c.exceptionTable.toList = tableOf [(0, 9, 12, 13), (0, 9, 15, 30)] := vx_table (x := y_La_run) B (hts _ List.mem_cons_self)
  have X : CallFix p m c b_La_run 4 s ([.ref qc, .int a0, .ref qx] : List Value).toArray (Cond.codeWith y_La_run b_La_run 4 (some .int) [(0, 9, 12, 13), (0, 9, 15, 30)] :: zz_all) R_La := ⟨hx, hb, hml, hown, hts⟩
  subst hsz
  have hD := hD0.self (sz := s.heap.size)
  generalize hAe : va_A (wL qx qc qp qr qh qm qw qu qf ql qo cI cJ ms mn g rg hq mf cd fg L O ov) s.heap.size = A at hD hE ⊢
  have hA : ∀ q : Nat, s.heap.size ≤ q → A q := fun q h => by rw [← hAe]; exact Or.inr h
  have hS : va_S A s.heap s.heap [] := va_S.rf
  have hl := lv_entry ([.ref qc, .int a0, .ref qx]) (n := 4) (Nat.le_of_ble_eq_true rfl)
  rw [lg_entry_eq]
  generalize (lg_sl ([.ref qc, .int a0, .ref qx]) ++ List.replicate (4 - (lg_sl ([.ref qc, .int a0, .ref qx])).length) Slot.unset).toArray = ls at hl ⊢
  have hl : lv_has ls 4 [(0, .ref qc), (1, .int a0), (2, .ref qx)] := hl
  refine lv_aload_n hx hb d_La_run_0 rfl (lv_at hl 2 rfl) ?_
  refine lv_iconst (v := 0) hx hb d_La_run_1 (by decide) ?_
  refine lv_aload_n hx hb d_La_run_2 rfl (lv_at hl 0 rfl) ?_
  refine lv_iload_n hx hb d_La_run_3 rfl (lv_at hl 1 rfl) ?_
  have hK1 : va_K D vwCl [(cI, .int)] s := hK.sub [0] rfl
  refine zz_Xi (As := [.int a0]) (rest := [.int 0, .ref qx]) (wc := wC qc qp qr qh qm qw qu qf ql qo cI ms mn g rg hq mf cd fg L O) (wr := [(qx, .inl (cJ, 1, .inr (.inl ov)))]) X hK1 hP hD hS hA hE (c_Co_run l hl0 D cI qc qp qr qh qm qw qu qf ql qo ms mn g rg hq mf cd fg L O a0 _ _ h _) ⟨rfl, rfl⟩ m_Co_run k_La_32 ⟨Nat.le_of_ble_eq_true rfl, Nat.le_of_ble_eq_true rfl⟩ [1, 2, 3, 4, 5, 6, 7, 8, 9, 10] [0] rfl rfl (by decide) (by decide) (by decide) 5 1 rfl rfl rfl rfl hl.1 rfl (Nat.le_of_ble_eq_true rfl) d_La_run_4 ⟨Nat.le_of_ble_eq_true rfl, Nat.le_of_ble_eq_true rfl⟩ (fun E ce q9 u H locs hpx hP hD hS hce hcv hcl => ?_) (fun r u H locs h hP hD hS => ?_)
  · skip
    have hP : va_P D vwCl (wL qx qc qp qr qh qm qw qu qf ql qo cI cJ ms mn u.1 u.2.1 u.2.2.1 u.2.2.2.1 u.2.2.2.2.1 u.2.2.2.2.2.1 u.2.2.2.2.2.2.1 u.2.2.2.2.2.2.2 ov) H := hP
    have hD : va_D A (wL qx qc qp qr qh qm qw qu qf ql qo cI cJ ms mn u.1 u.2.1 u.2.2.1 u.2.2.2.1 u.2.2.2.2.1 u.2.2.2.2.2.1 u.2.2.2.2.2.2.1 u.2.2.2.2.2.2.2 ov) := hD
    rcases hpx with hpx | hpx
    · skip
      obtain ⟨rfl, h⟩ := hpx
      refine vx_catch (name := "java/lang/IllegalArgumentException") hown [] ⟨0, 9, 12, 13⟩ [⟨0, 9, 15, 30⟩] htab (fun z hz => nomatch hz) (by decide) (by decide) (hT _ l_La_13) (va_Nw.use rfl hE.2.2.1.1) hce hcv hcl ?_
      refine lv_astore_n (lv' := [(3, .ref q9), (0, .ref qc), (1, .int a0), (2, .ref qx)]) hx hb d_La_run_12 rfl hl (by decide) rfl (fun ls hl => ?_)
      refine lv_iconst (v := 1) hx hb d_La_run_13 (by decide) ?_
      exact W.iret (v := 1) hx hb hr (fun t ht hW => ⟨⟨1, (u, ov), rfl, h, by rw [ht]; exact hP, hD⟩, hS.F ht⟩) hS.2.2 d_La_run_14
    · skip
      obtain ⟨rfl, h⟩ := hpx
      refine vx_catch (name := "java/lang/IllegalStateException") hown [⟨0, 9, 12, 13⟩] ⟨0, 9, 15, 30⟩ [] htab (fun z hz => by rw [List.mem_singleton] at hz; subst hz; exact Or.inr ⟨by decide, "java/lang/IllegalArgumentException", hT _ l_La_13, hNc.2⟩) (by decide) (by decide) (hT _ l_La_30) (va_Nw.use rfl hE.2.2.1.2.2.1) hce hcv hcl ?_
      refine lv_astore_n (lv' := [(3, .ref q9), (0, .ref qc), (1, .int a0), (2, .ref qx)]) hx hb d_La_run_15 rfl hl (by decide) rfl (fun ls hl => ?_)
      refine lv_iconst (v := 2) hx hb d_La_run_16 (by decide) ?_
      exact W.iret (v := 2) hx hb hr (fun t ht hW => ⟨⟨2, (u, ov), rfl, h, by rw [ht]; exact hP, hD⟩, hS.F ht⟩) hS.2.2 d_La_run_17
  · skip
    have hP : va_P D vwCl (wL qx qc qp qr qh qm qw qu qf ql qo cI cJ ms mn u.1 u.2.1 u.2.2.1 u.2.2.2.1 u.2.2.2.2.1 u.2.2.2.2.2.1 u.2.2.2.2.2.2.1 u.2.2.2.2.2.2.2 ov) H := hP
    have hD : va_D A (wL qx qc qp qr qh qm qw qu qf ql qo cI cJ ms mn u.1 u.2.1 u.2.2.1 u.2.2.2.1 u.2.2.2.2.1 u.2.2.2.2.2.1 u.2.2.2.2.2.2.1 u.2.2.2.2.2.2.2 ov) := hD
    refine lv_i2l (v := r.toInt64) hx hb d_La_run_7 rfl ?_
    refine va_last (f := ov) hx hb hK hP hD hS 0 1 rfl rfl (by unfold vp_in; decide) d_La_run_8 (fun H locs hP hD hS => ?_)
    have hP : va_P D vwCl (wL qx qc qp qr qh qm qw qu qf ql qo cI cJ ms mn u.1 u.2.1 u.2.2.1 u.2.2.2.1 u.2.2.2.2.1 u.2.2.2.2.2.1 u.2.2.2.2.2.2.1 u.2.2.2.2.2.2.2 (vp_updL ov (0 : Int32).toNatClampNeg r.toInt64)) H := hP
    have hD : va_D A (wL qx qc qp qr qh qm qw qu qf ql qo cI cJ ms mn u.1 u.2.1 u.2.2.1 u.2.2.2.1 u.2.2.2.2.1 u.2.2.2.2.2.1 u.2.2.2.2.2.2.1 u.2.2.2.2.2.2.2 (vp_updL ov (0 : Int32).toNatClampNeg r.toInt64)) := hD
    refine lv_goto (tgt := 18) hx hb d_La_run_9 (by decide) ?_
    refine lv_iconst (v := 0) hx hb d_La_run_18 (by decide) ?_
    exact W.iret (v := 0) hx hb hr (fun t ht hW => ⟨⟨0, (u, vp_updL ov (0 : Int32).toNatClampNeg r.toInt64), rfl, h, by rw [ht]; exact hP, hD⟩, hS.F ht⟩) hS.2.2 d_La_run_19
abbrev b_La_pass : ByteArray := method_9_code
def y_La_pass : MethodName := ⟨R_La, "pass", "(LDelayCore;[J)I"⟩
theorem d_La_pass_0 : decode b_La_pass 0 = .ok (.aload_n 1, 1) := by decide +kernel
theorem d_La_pass_1 : decode b_La_pass 1 = .ok (.iconst 0, 1) := by decide +kernel
theorem d_La_pass_2 : decode b_La_pass 2 = .ok (.aload_n 0, 1) := by decide +kernel
theorem d_La_pass_3 : decode b_La_pass 3 = .ok (.invokevirtual 35, 3) := by decide +kernel
theorem d_La_pass_6 : decode b_La_pass 6 = .ok (.i2l, 1) := by decide +kernel
theorem d_La_pass_7 : decode b_La_pass 7 = .ok (.lastore, 1) := by decide +kernel
theorem d_La_pass_8 : decode b_La_pass 8 = .ok (.goto 6, 3) := by decide +kernel
theorem d_La_pass_11 : decode b_La_pass 11 = .ok (.astore_n 2, 1) := by decide +kernel
theorem d_La_pass_12 : decode b_La_pass 12 = .ok (.iconst 1, 1) := by decide +kernel
theorem d_La_pass_13 : decode b_La_pass 13 = .ok (.ireturn, 1) := by decide +kernel
theorem d_La_pass_14 : decode b_La_pass 14 = .ok (.iconst 0, 1) := by decide +kernel
theorem d_La_pass_15 : decode b_La_pass 15 = .ok (.ireturn, 1) := by decide +kernel
def wp_La_pass (ms : Int32) (mn : Nat) (g : Nat → Int32) (rg : Nat → Int32) (hq : Nat → Int32) (mf : Nat → Int32) (cd : Int32) (fg : Nat → Int32) (L : Int32 × Int32 × Int32 × Int64) (O : Int32 × Int32 × Int32 × Int64) (ov : Nat → Int64)  (P : Int32 → (((Nat → Int32) × (Nat → Int32) × (Nat → Int32) × (Nat → Int32) × Int32 × (Nat → Int32) × (Int32 × Int32 × Int32 × Int64) × (Int32 × Int32 × Int32 × Int64)) × (Nat → Int64)) → Prop) : Prop := wp_Co_pass ms mn g rg hq mf cd fg L O  (fun r u => P 0 (u, vp_updL ov (0 : Int32).toNatClampNeg r.toInt64)) (fun E u => (E = "java/lang/IllegalStateException" ∧ P 1 (u, ov)))
abbrev rm_La_pass : Room := { frames := 7, cells := 1, slots := 6, locals := 110 }
theorem k_La_35 : Cond.methodLink R_La 35 y_Co_pass ∈ zz_all := zz_mem (List.mem_of_getElem? (i := 888) (by decide +kernel)) (by decide +kernel)
set_option maxHeartbeats 4000000 in
set_option maxRecDepth 100000 in
theorem c_La_pass (l : Launch) (hl0 : l.stackTraces = false) (D : va_G) (cI cJ : ClassId) (qx : Nat) (qc : Nat) (qp : Nat) (qr : Nat) (qh : Nat) (qm : Nat) (qw : Nat) (qu : Nat) (qf : Nat) (ql : Nat) (qo : Nat) (ms : Int32) (mn : Nat) (g : Nat → Int32) (rg : Nat → Int32) (hq : Nat → Int32) (mf : Nat → Int32) (cd : Int32) (fg : Nat → Int32) (L : Int32 × Int32 × Int32 × Int64) (O : Int32 × Int32 × Int32 × Int64) (ov : Nat → Int64)  (P : Int32 → (((Nat → Int32) × (Nat → Int32) × (Nat → Int32) × (Nat → Int32) × Int32 × (Nat → Int32) × (Int32 × Int32 × Int32 × Int64) × (Int32 × Int32 × Int32 × Int64)) × (Nat → Int64)) → Prop) (h : wp_La_pass ms mn g rg hq mf cd fg L O ov  P) (sz : Nat) : Met l y_La_pass (Cond.codeWith y_La_pass b_La_pass 3 (some .int) [(0, 8, 11, 30)] :: zz_all) rm_La_pass (va_Pc [.ref qc, .ref qx] (zz_pl D [(cI, .int), (cJ, .long)] (wL qx qc qp qr qh qm qw qu qf ql qo cI cJ ms mn g rg hq mf cd fg L O ov) sz)) (va_Qi P (zz_qw D (fun u => wL qx qc qp qr qh qm qw qu qf ql qo cI cJ ms mn u.1.1 u.1.2.1 u.1.2.2.1 u.1.2.2.2.1 u.1.2.2.2.2.1 u.1.2.2.2.2.2.1 u.1.2.2.2.2.2.2.1 u.1.2.2.2.2.2.2.2 u.2) (va_A (wL qx qc qp qr qh qm qw qu qf ql qo cI cJ ms mn g rg hq mf cd fg L O ov) sz)) (va_A (wL qx qc qp qr qh qm qw qu qf ql qo cI cJ ms mn g rg hq mf cd fg L O ov) sz)) 1 6 (va_A (wL qx qc qp qr qh qm qw qu qf ql qo cI cJ ms mn g rg hq mf cd fg L O ov) sz) := by
  refine va_MetW (cc := b_La_pass) (maxL := 3) (ret := (some .int)) (hh := [(0, 8, 11, 30)]) (by decide) rfl ?_
  intro p e s m args below meth c s₁ B hml hv
  obtain ⟨rfl, ⟨⟨hsz, hP, hK, hD0⟩, hE⟩, hNc⟩ := hv
  have hx := B.exec
  have hb := B.bytes
  have hr := B.returns
  have hts := atoms_spec (ws := (Cond.codeWith y_La_pass b_La_pass 3 (some .int) [(0, 8, 11, 30)] :: zz_all)) B.pre
  have hown : s.vm.findClass R_La = some m.cls := findClass_of_methodNamed B.named
  have hlocks := B.notSynchronized
  have hT := zz_hts hts
  have htab : c.exceptionTable.toList = tableOf [(0, 8, 11, 30)] := vx_table (x := y_La_pass) B (hts _ List.mem_cons_self)
  have X : CallFix p m c b_La_pass 3 s ([.ref qc, .ref qx] : List Value).toArray (Cond.codeWith y_La_pass b_La_pass 3 (some .int) [(0, 8, 11, 30)] :: zz_all) R_La := ⟨hx, hb, hml, hown, hts⟩
  subst hsz
  have hD := hD0.self (sz := s.heap.size)
  generalize hAe : va_A (wL qx qc qp qr qh qm qw qu qf ql qo cI cJ ms mn g rg hq mf cd fg L O ov) s.heap.size = A at hD hE ⊢
  have hA : ∀ q : Nat, s.heap.size ≤ q → A q := fun q h => by rw [← hAe]; exact Or.inr h
  have hS : va_S A s.heap s.heap [] := va_S.rf
  have hl := lv_entry ([.ref qc, .ref qx]) (n := 3) (Nat.le_of_ble_eq_true rfl)
  rw [lg_entry_eq]
  generalize (lg_sl ([.ref qc, .ref qx]) ++ List.replicate (3 - (lg_sl ([.ref qc, .ref qx])).length) Slot.unset).toArray = ls at hl ⊢
  have hl : lv_has ls 3 [(0, .ref qc), (1, .ref qx)] := hl
  refine lv_aload_n hx hb d_La_pass_0 rfl (lv_at hl 1 rfl) ?_
  refine lv_iconst (v := 0) hx hb d_La_pass_1 (by decide) ?_
  refine lv_aload_n hx hb d_La_pass_2 rfl (lv_at hl 0 rfl) ?_
  have hK1 : va_K D vwCl [(cI, .int)] s := hK.sub [0] rfl
  refine zz_Xi (As := []) (rest := [.int 0, .ref qx]) (wc := wC qc qp qr qh qm qw qu qf ql qo cI ms mn g rg hq mf cd fg L O) (wr := [(qx, .inl (cJ, 1, .inr (.inl ov)))]) X hK1 hP hD hS hA hE (c_Co_pass l hl0 D cI qc qp qr qh qm qw qu qf ql qo ms mn g rg hq mf cd fg L O  _ _ h _) ⟨rfl, rfl⟩ m_Co_pass k_La_35 ⟨Nat.le_of_ble_eq_true rfl, Nat.le_of_ble_eq_true rfl⟩ [1, 2, 3, 4, 5, 6, 7, 8, 9, 10] [0] rfl rfl (by decide) (by decide) (by decide) 5 1 rfl rfl rfl rfl hl.1 rfl (Nat.le_of_ble_eq_true rfl) d_La_pass_3 ⟨Nat.le_of_ble_eq_true rfl, Nat.le_of_ble_eq_true rfl⟩ (fun E ce q9 u H locs hpx hP hD hS hce hcv hcl => ?_) (fun r u H locs h hP hD hS => ?_)
  · skip
    have hP : va_P D vwCl (wL qx qc qp qr qh qm qw qu qf ql qo cI cJ ms mn u.1 u.2.1 u.2.2.1 u.2.2.2.1 u.2.2.2.2.1 u.2.2.2.2.2.1 u.2.2.2.2.2.2.1 u.2.2.2.2.2.2.2 ov) H := hP
    have hD : va_D A (wL qx qc qp qr qh qm qw qu qf ql qo cI cJ ms mn u.1 u.2.1 u.2.2.1 u.2.2.2.1 u.2.2.2.2.1 u.2.2.2.2.2.1 u.2.2.2.2.2.2.1 u.2.2.2.2.2.2.2 ov) := hD
    obtain ⟨rfl, h⟩ := hpx
    refine vx_catch (name := "java/lang/IllegalStateException") hown [] ⟨0, 8, 11, 30⟩ [] htab (fun z hz => nomatch hz) (by decide) (by decide) (hT _ l_La_30) (va_Nw.use rfl hE.2.2.1.2.2.1) hce hcv hcl ?_
    refine lv_astore_n (lv' := [(2, .ref q9), (0, .ref qc), (1, .ref qx)]) hx hb d_La_pass_11 rfl hl (by decide) rfl (fun ls hl => ?_)
    refine lv_iconst (v := 1) hx hb d_La_pass_12 (by decide) ?_
    exact W.iret (v := 1) hx hb hr (fun t ht hW => ⟨⟨1, (u, ov), rfl, h, by rw [ht]; exact hP, hD⟩, hS.F ht⟩) hS.2.2 d_La_pass_13
  · skip
    have hP : va_P D vwCl (wL qx qc qp qr qh qm qw qu qf ql qo cI cJ ms mn u.1 u.2.1 u.2.2.1 u.2.2.2.1 u.2.2.2.2.1 u.2.2.2.2.2.1 u.2.2.2.2.2.2.1 u.2.2.2.2.2.2.2 ov) H := hP
    have hD : va_D A (wL qx qc qp qr qh qm qw qu qf ql qo cI cJ ms mn u.1 u.2.1 u.2.2.1 u.2.2.2.1 u.2.2.2.2.1 u.2.2.2.2.2.1 u.2.2.2.2.2.2.1 u.2.2.2.2.2.2.2 ov) := hD
    refine lv_i2l (v := r.toInt64) hx hb d_La_pass_6 rfl ?_
    refine va_last (f := ov) hx hb hK hP hD hS 0 1 rfl rfl (by unfold vp_in; decide) d_La_pass_7 (fun H locs hP hD hS => ?_)
    have hP : va_P D vwCl (wL qx qc qp qr qh qm qw qu qf ql qo cI cJ ms mn u.1 u.2.1 u.2.2.1 u.2.2.2.1 u.2.2.2.2.1 u.2.2.2.2.2.1 u.2.2.2.2.2.2.1 u.2.2.2.2.2.2.2 (vp_updL ov (0 : Int32).toNatClampNeg r.toInt64)) H := hP
    have hD : va_D A (wL qx qc qp qr qh qm qw qu qf ql qo cI cJ ms mn u.1 u.2.1 u.2.2.1 u.2.2.2.1 u.2.2.2.2.1 u.2.2.2.2.2.1 u.2.2.2.2.2.2.1 u.2.2.2.2.2.2.2 (vp_updL ov (0 : Int32).toNatClampNeg r.toInt64)) := hD
    refine lv_goto (tgt := 14) hx hb d_La_pass_8 (by decide) ?_
    refine lv_iconst (v := 0) hx hb d_La_pass_14 (by decide) ?_
    exact W.iret (v := 0) hx hb hr (fun t ht hW => ⟨⟨0, (u, vp_updL ov (0 : Int32).toNatClampNeg r.toInt64), rfl, h, by rw [ht]; exact hP, hD⟩, hS.F ht⟩) hS.2.2 d_La_pass_15
abbrev b_La_state : ByteArray := method_10_code
def y_La_state : MethodName := ⟨R_La, "state", "(LDelayCore;I[J)I"⟩
theorem d_La_state_0 : decode b_La_state 0 = .ok (.aload_n 2, 1) := by decide +kernel
theorem d_La_state_1 : decode b_La_state 1 = .ok (.iconst 0, 1) := by decide +kernel
theorem d_La_state_2 : decode b_La_state 2 = .ok (.aload_n 0, 1) := by decide +kernel
theorem d_La_state_3 : decode b_La_state 3 = .ok (.iload_n 1, 1) := by decide +kernel
theorem d_La_state_4 : decode b_La_state 4 = .ok (.invokevirtual 39, 3) := by decide +kernel
theorem d_La_state_7 : decode b_La_state 7 = .ok (.i2l, 1) := by decide +kernel
theorem d_La_state_8 : decode b_La_state 8 = .ok (.lastore, 1) := by decide +kernel
theorem d_La_state_9 : decode b_La_state 9 = .ok (.goto 6, 3) := by decide +kernel
theorem d_La_state_12 : decode b_La_state 12 = .ok (.astore_n 3, 1) := by decide +kernel
theorem d_La_state_13 : decode b_La_state 13 = .ok (.iconst 1, 1) := by decide +kernel
theorem d_La_state_14 : decode b_La_state 14 = .ok (.ireturn, 1) := by decide +kernel
theorem d_La_state_15 : decode b_La_state 15 = .ok (.iconst 0, 1) := by decide +kernel
theorem d_La_state_16 : decode b_La_state 16 = .ok (.ireturn, 1) := by decide +kernel
def wp_La_state (ms : Int32) (mn : Nat) (g : Nat → Int32) (rg : Nat → Int32) (hq : Nat → Int32) (mf : Nat → Int32) (cd : Int32) (fg : Nat → Int32) (L : Int32 × Int32 × Int32 × Int64) (O : Int32 × Int32 × Int32 × Int64) (ov : Nat → Int64) (a0 : Int32) (P : Int32 → (((Nat → Int32) × (Nat → Int32) × (Nat → Int32) × (Nat → Int32) × Int32 × (Nat → Int32) × (Int32 × Int32 × Int32 × Int64) × (Int32 × Int32 × Int32 × Int64)) × (Nat → Int64)) → Prop) : Prop := wp_Co_state ms mn g rg hq mf cd fg L O a0 (fun r u => P 0 (u, vp_updL ov (0 : Int32).toNatClampNeg r.toInt64)) (fun E u => (E = "java/lang/IndexOutOfBoundsException" ∧ P 1 (u, ov)))
abbrev rm_La_state : Room := { frames := 7, cells := 1, slots := 6, locals := 111 }
theorem k_La_39 : Cond.methodLink R_La 39 y_Co_state ∈ zz_all := zz_mem (List.mem_of_getElem? (i := 900) (by decide +kernel)) (by decide +kernel)
set_option maxHeartbeats 4000000 in
set_option maxRecDepth 100000 in
theorem c_La_state (l : Launch) (hl0 : l.stackTraces = false) (D : va_G) (cI cJ : ClassId) (qx : Nat) (qc : Nat) (qp : Nat) (qr : Nat) (qh : Nat) (qm : Nat) (qw : Nat) (qu : Nat) (qf : Nat) (ql : Nat) (qo : Nat) (ms : Int32) (mn : Nat) (g : Nat → Int32) (rg : Nat → Int32) (hq : Nat → Int32) (mf : Nat → Int32) (cd : Int32) (fg : Nat → Int32) (L : Int32 × Int32 × Int32 × Int64) (O : Int32 × Int32 × Int32 × Int64) (ov : Nat → Int64) (a0 : Int32) (P : Int32 → (((Nat → Int32) × (Nat → Int32) × (Nat → Int32) × (Nat → Int32) × Int32 × (Nat → Int32) × (Int32 × Int32 × Int32 × Int64) × (Int32 × Int32 × Int32 × Int64)) × (Nat → Int64)) → Prop) (h : wp_La_state ms mn g rg hq mf cd fg L O ov a0 P) (sz : Nat) : Met l y_La_state (Cond.codeWith y_La_state b_La_state 4 (some .int) [(0, 9, 12, 25)] :: zz_all) rm_La_state (va_Pc [.ref qc, .int a0, .ref qx] (zz_pl D [(cI, .int), (cJ, .long)] (wL qx qc qp qr qh qm qw qu qf ql qo cI cJ ms mn g rg hq mf cd fg L O ov) sz)) (va_Qi P (zz_qw D (fun u => wL qx qc qp qr qh qm qw qu qf ql qo cI cJ ms mn u.1.1 u.1.2.1 u.1.2.2.1 u.1.2.2.2.1 u.1.2.2.2.2.1 u.1.2.2.2.2.2.1 u.1.2.2.2.2.2.2.1 u.1.2.2.2.2.2.2.2 u.2) (va_A (wL qx qc qp qr qh qm qw qu qf ql qo cI cJ ms mn g rg hq mf cd fg L O ov) sz)) (va_A (wL qx qc qp qr qh qm qw qu qf ql qo cI cJ ms mn g rg hq mf cd fg L O ov) sz)) 1 6 (va_A (wL qx qc qp qr qh qm qw qu qf ql qo cI cJ ms mn g rg hq mf cd fg L O ov) sz) := by
  refine va_MetW (cc := b_La_state) (maxL := 4) (ret := (some .int)) (hh := [(0, 9, 12, 25)]) (by decide) rfl ?_
  intro p e s m args below meth c s₁ B hml hv
  obtain ⟨rfl, ⟨⟨hsz, hP, hK, hD0⟩, hE⟩, hNc⟩ := hv
  have hx := B.exec
  have hb := B.bytes
  have hr := B.returns
  have hts := atoms_spec (ws := (Cond.codeWith y_La_state b_La_state 4 (some .int) [(0, 9, 12, 25)] :: zz_all)) B.pre
  have hown : s.vm.findClass R_La = some m.cls := findClass_of_methodNamed B.named
  have hlocks := B.notSynchronized
  have hT := zz_hts hts
  have htab : c.exceptionTable.toList = tableOf [(0, 9, 12, 25)] := vx_table (x := y_La_state) B (hts _ List.mem_cons_self)
  have X : CallFix p m c b_La_state 4 s ([.ref qc, .int a0, .ref qx] : List Value).toArray (Cond.codeWith y_La_state b_La_state 4 (some .int) [(0, 9, 12, 25)] :: zz_all) R_La := ⟨hx, hb, hml, hown, hts⟩
  subst hsz
  have hD := hD0.self (sz := s.heap.size)
  generalize hAe : va_A (wL qx qc qp qr qh qm qw qu qf ql qo cI cJ ms mn g rg hq mf cd fg L O ov) s.heap.size = A at hD hE ⊢
  have hA : ∀ q : Nat, s.heap.size ≤ q → A q := fun q h => by rw [← hAe]; exact Or.inr h
  have hS : va_S A s.heap s.heap [] := va_S.rf
  have hl := lv_entry ([.ref qc, .int a0, .ref qx]) (n := 4) (Nat.le_of_ble_eq_true rfl)
  rw [lg_entry_eq]
  generalize (lg_sl ([.ref qc, .int a0, .ref qx]) ++ List.replicate (4 - (lg_sl ([.ref qc, .int a0, .ref qx])).length) Slot.unset).toArray = ls at hl ⊢
  have hl : lv_has ls 4 [(0, .ref qc), (1, .int a0), (2, .ref qx)] := hl
  refine lv_aload_n hx hb d_La_state_0 rfl (lv_at hl 2 rfl) ?_
  refine lv_iconst (v := 0) hx hb d_La_state_1 (by decide) ?_
  refine lv_aload_n hx hb d_La_state_2 rfl (lv_at hl 0 rfl) ?_
  refine lv_iload_n hx hb d_La_state_3 rfl (lv_at hl 1 rfl) ?_
  have hK1 : va_K D vwCl [(cI, .int)] s := hK.sub [0] rfl
  refine zz_Xi (As := [.int a0]) (rest := [.int 0, .ref qx]) (wc := wC qc qp qr qh qm qw qu qf ql qo cI ms mn g rg hq mf cd fg L O) (wr := [(qx, .inl (cJ, 1, .inr (.inl ov)))]) X hK1 hP hD hS hA hE (c_Co_state l hl0 D cI qc qp qr qh qm qw qu qf ql qo ms mn g rg hq mf cd fg L O a0 _ _ h _) ⟨rfl, rfl⟩ m_Co_state k_La_39 ⟨Nat.le_of_ble_eq_true rfl, Nat.le_of_ble_eq_true rfl⟩ [1, 2, 3, 4, 5, 6, 7, 8, 9, 10] [0] rfl rfl (by decide) (by decide) (by decide) 5 1 rfl rfl rfl rfl hl.1 rfl (Nat.le_of_ble_eq_true rfl) d_La_state_4 ⟨Nat.le_of_ble_eq_true rfl, Nat.le_of_ble_eq_true rfl⟩ (fun E ce q9 u H locs hpx hP hD hS hce hcv hcl => ?_) (fun r u H locs h hP hD hS => ?_)
  · skip
    have hP : va_P D vwCl (wL qx qc qp qr qh qm qw qu qf ql qo cI cJ ms mn u.1 u.2.1 u.2.2.1 u.2.2.2.1 u.2.2.2.2.1 u.2.2.2.2.2.1 u.2.2.2.2.2.2.1 u.2.2.2.2.2.2.2 ov) H := hP
    have hD : va_D A (wL qx qc qp qr qh qm qw qu qf ql qo cI cJ ms mn u.1 u.2.1 u.2.2.1 u.2.2.2.1 u.2.2.2.2.1 u.2.2.2.2.2.1 u.2.2.2.2.2.2.1 u.2.2.2.2.2.2.2 ov) := hD
    obtain ⟨rfl, h⟩ := hpx
    refine vx_catch (name := "java/lang/IndexOutOfBoundsException") hown [] ⟨0, 9, 12, 25⟩ [] htab (fun z hz => nomatch hz) (by decide) (by decide) (hT _ l_La_25) (va_Nw.use rfl hE.2.2.1.2.1) hce hcv hcl ?_
    refine lv_astore_n (lv' := [(3, .ref q9), (0, .ref qc), (1, .int a0), (2, .ref qx)]) hx hb d_La_state_12 rfl hl (by decide) rfl (fun ls hl => ?_)
    refine lv_iconst (v := 1) hx hb d_La_state_13 (by decide) ?_
    exact W.iret (v := 1) hx hb hr (fun t ht hW => ⟨⟨1, (u, ov), rfl, h, by rw [ht]; exact hP, hD⟩, hS.F ht⟩) hS.2.2 d_La_state_14
  · skip
    have hP : va_P D vwCl (wL qx qc qp qr qh qm qw qu qf ql qo cI cJ ms mn u.1 u.2.1 u.2.2.1 u.2.2.2.1 u.2.2.2.2.1 u.2.2.2.2.2.1 u.2.2.2.2.2.2.1 u.2.2.2.2.2.2.2 ov) H := hP
    have hD : va_D A (wL qx qc qp qr qh qm qw qu qf ql qo cI cJ ms mn u.1 u.2.1 u.2.2.1 u.2.2.2.1 u.2.2.2.2.1 u.2.2.2.2.2.1 u.2.2.2.2.2.2.1 u.2.2.2.2.2.2.2 ov) := hD
    refine lv_i2l (v := r.toInt64) hx hb d_La_state_7 rfl ?_
    refine va_last (f := ov) hx hb hK hP hD hS 0 1 rfl rfl (by unfold vp_in; decide) d_La_state_8 (fun H locs hP hD hS => ?_)
    have hP : va_P D vwCl (wL qx qc qp qr qh qm qw qu qf ql qo cI cJ ms mn u.1 u.2.1 u.2.2.1 u.2.2.2.1 u.2.2.2.2.1 u.2.2.2.2.2.1 u.2.2.2.2.2.2.1 u.2.2.2.2.2.2.2 (vp_updL ov (0 : Int32).toNatClampNeg r.toInt64)) H := hP
    have hD : va_D A (wL qx qc qp qr qh qm qw qu qf ql qo cI cJ ms mn u.1 u.2.1 u.2.2.1 u.2.2.2.1 u.2.2.2.2.1 u.2.2.2.2.2.1 u.2.2.2.2.2.2.1 u.2.2.2.2.2.2.2 (vp_updL ov (0 : Int32).toNatClampNeg r.toInt64)) := hD
    refine lv_goto (tgt := 15) hx hb d_La_state_9 (by decide) ?_
    refine lv_iconst (v := 0) hx hb d_La_state_15 (by decide) ?_
    exact W.iret (v := 0) hx hb hr (fun t ht hW => ⟨⟨0, (u, vp_updL ov (0 : Int32).toNatClampNeg r.toInt64), rfl, h, by rw [ht]; exact hP, hD⟩, hS.F ht⟩) hS.2.2 d_La_state_16
