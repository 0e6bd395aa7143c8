/-! ===== the law from its entry to its loop ===== -/
theorem zz_nand (a b : Nat) : nI a &&& nI b = nI (a &&& b) := by
  apply Int32.toBitVec_inj.mp
  show BitVec.ofNat 32 a &&& BitVec.ofNat 32 b = BitVec.ofNat 32 (a &&& b)
  apply BitVec.eq_of_getLsbD_eq
  intro i hi
  simp [hi]
theorem zz_size_nat (a0 : Int32) : ∃ k : Nat, k ≤ 262144 ∧ zz_size a0 = nI k := by
  by_cases h1 : (1024 : Int32) ≤ a0
  · by_cases h2 : a0 ≤ (262144 : Int32)
    · have h3 : ¬ a0 < 0 := fun q => by
        have e1 := Int32.le_iff_toInt_le.mp h1
        have e2 := Int32.lt_iff_toInt_lt.mp q
        rw [zz_t1024] at e1
        rw [Int32.toInt_zero] at e2
        omega
      obtain ⟨j, hj, e⟩ := nI_of2 (x := a0) (M := 262144) (n := 262144) (by decide) h3 h2
      refine ⟨j &&& 4294967288, Nat.le_trans Nat.and_le_left hj, ?_⟩
      rw [zz_size_mid h1 h2, e, ← zz_nand]
      rfl
    · exact ⟨262144, Nat.le_refl _, by rw [zz_size_hi h2]; decide⟩
  · exact ⟨1024, by decide, by rw [zz_size_lo h1]; decide⟩
theorem zz_size_ok (a0 : Int32) : ¬ zz_size a0 / 4 < 0 ∧ (zz_size a0 / 4).toNatClampNeg ≤ 65536 := by
  obtain ⟨k, hk, e⟩ := zz_size_nat a0
  have e2 : zz_size a0 / 4 = nI (k / 4) := by
    rw [e]
    exact pk_div (a := k) (d := 4) (by omega) (by decide) (by decide)
  rw [e2]
  exact ⟨nI_pos (by omega), by rw [nI_clamp (by omega)]; omega⟩
theorem zz_arr {args : Array Value} {s : State} {ty : FieldType} (hty : ty = .int ∨ ty = .long ∨ ty = .byte) (h : (Cond.arrayClass ty).before args s = true) : ∃ cA : ClassId, ArrOfT s cA ty ∧ va_RA s cA ty := by
  obtain ⟨cA, kA, comp, h1, h2, h3⟩ := Cond.arrayClass_spec h
  refine ⟨cA, fun n z => ⟨fun k h => (by cases h), kA, h2, comp, h3⟩, ?_⟩
  rcases hty with rfl | rfl | rfl <;> exact h1
section ZE
variable {p : Program} {l : Launch} {e : Env} {R : Room} {s : State} {m : MethodId} {args : Array Value} {below : List Frame} {meth : Method} {c : Code} {H : Heap} {locs : List Loc} {cells slots : Nat} {Q : State → Prop}
variable {cc : ByteArray} {pc : Nat} {ls : Array Slot} {rest : List Value} {D : va_G} {A : Nat → Prop} {tys : List (ClassId × FieldType)} {ws : va_W} {H0 : Heap}
theorem zz_newl {cJ : ClassId} (hexec : p.tables.exec = Jvm.exec) (hb : c.code = cc) (hT : ∀ w ∈ zz_all, w.before args s = true) (harr : Cond.arrayClass .long ∈ zz_all) (hK : va_K D vwCl tys s) (t0 : Nat) (ht : tys[t0]? = some (cJ, .long)) (hP : va_P D vwCl ws H) (hD : va_D A ws) (hS : va_S A H0 H locs) (hA : ∀ q, H0.size ≤ q → A q)
    {x : Int32} {N : Nat} (hn : ¬ x < 0) (hN : x.toNatClampNeg = N) (hB : N ≤ 67108864) (hcells : cells + 1 ≤ R.cells) (hslots : slots + N ≤ R.slots) (hdg : decode cc pc = .ok (.newarray .long, 2))
    (kk : ∀ (q : Nat) (H1 : Heap), va_P D vwCl (ws ++ [(q, .inl (cJ, N, .inr (.inl (fun _ => 0))))]) H1 → va_D A (ws ++ [(q, .inl (cJ, N, .inr (.inl (fun _ => 0))))]) → va_S A H0 H1 locs → W p l e R s m args below meth c H1 locs (cells + 1) (slots + N) Q (F0 m (pc + 2) ls (.ref q :: rest))) : W p l e R s m args below meth c H locs cells slots Q (F0 m pc ls (.int x :: rest)) := by
  refine va_newa (atype := .long) (ty := .long) (a0 := (N, .inr (.inl fun _ => 0))) hexec hb (hT _ harr) rfl hK hP hD hS hA (fun cA => rfl) hn hN (by show N * 8 ≤ 536870912; omega) hcells hslots hdg (fun q cA H1 hK1 hP1 hD1 hS1 => ?_)
  have e1 : cA = cJ := by
    have h1 := (hK1.2 tys.length (cA, .long) (by simp)).2
    have h2 := (hK.2 t0 (cJ, .long) ht).2
    exact Option.some.inj ((va_nm_long h1).symm.trans (va_nm_long h2))
  subst e1
  exact kk q H1 hP1 hD1 hS1
end ZE
abbrev rm_La_cell : Room := { frames := 0, cells := 0, slots := 0, locals := 0 }
set_option maxHeartbeats 4000000 in
set_option maxRecDepth 100000 in
theorem c_La_cell (l : Launch) (b Ln : Nat) (xs : Nat → Int32) (P : Int32 → Prop) (h : (Int32.ofNat Ln ≤ (0 : Int32) → P 0) ∧ (¬ Int32.ofNat Ln ≤ (0 : Int32) → vp_in (0 : Int32) Ln ∧ P (xs (0 : Int32).toNatClampNeg))) : Met l y_La_cell (zz_ws y_La_cell b_La_cell 2 (some .int)) rm_La_cell (fun v U => v = ([.ref b, .int 0] : List Value).toArray ∧ va_X b Ln xs U U.heap ∧ b < U.heap.size) (vp_Si P) 0 0 (fun _ => False) := by
  refine Met.ofW (cc := b_La_cell) (maxL := 2) (ret := (some .int)) (by decide) rfl ?_
  intro p e s m args below meth c s₁ B hml hv
  obtain ⟨rfl, hX, hbl⟩ := hv
  have hx := B.exec
  have hb := B.bytes
  have hr := B.returns
  have hlocks := B.notSynchronized
  have hbA : ¬ (fun _ : Nat => False) b := fun q => q
  have hS : va_S (fun _ : Nat => False) s.heap s.heap [] := va_S.rf
  have hl := lv_entry ([.ref b, .int 0]) (n := 2) (Nat.le_of_ble_eq_true rfl)
  rw [lg_entry_eq]
  generalize (lg_sl ([.ref b, .int 0]) ++ List.replicate (2 - (lg_sl ([.ref b, .int 0])).length) Slot.unset).toArray = ls at hl ⊢
  have hl : lv_has ls 2 [(0, .ref b), (1, .int 0)] := hl
  refine lv_iload_n hx hb d_La_cell_0 rfl (lv_at hl 1 rfl) ?_
  refine lv_aload_n hx hb d_La_cell_1 rfl (lv_at hl 0 rfl) ?_
  refine va_slen hx hb hX hbl hbA hS d_La_cell_2 ?_
  refine lv_icmp_ge (tgt := 12) hx hb d_La_cell_3 (by decide) (fun c_1 => ?_) (fun c_1 => ?_)
  · have h := h.1 c_1
    refine lv_iconst (v := 0) hx hb d_La_cell_12 (by decide) ?_
    exact W.iret (v := 0) hx hb hr (fun t ht hW => ⟨0, rfl, h, ht⟩) t_nil d_La_cell_13
  · have h := h.2 c_1
    refine lv_aload_n hx hb d_La_cell_6 rfl (lv_at hl 0 rfl) ?_
    refine lv_iload_n hx hb d_La_cell_7 rfl (lv_at hl 1 rfl) ?_
    refine va_sld hx hb hX hbl hbA hS h.1 d_La_cell_8 ?_
    refine lv_goto (tgt := 13) hx hb d_La_cell_9 (by decide) ?_
    exact W.iret (v := xs (0 : Int32).toNatClampNeg) hx hb hr (fun t ht hW => ⟨_, rfl, h.2, ht⟩) t_nil d_La_cell_13
section ZK
variable {p : Program} {l : Launch} {e : Env} {R : Room} {s : State} {m : MethodId} {args : Array Value} {below : List Frame} {meth : Method} {c : Code} {H : Heap} {locs : List Loc} {cells slots : Nat} {Q : State → Prop}
variable {cc : ByteArray} {pc nL index b Ln : Nat} {xs : Nat → Int32} {ls : Array Slot} {rest : List Value} {A : Nat → Prop} {own : String} {cd : Cond}
theorem zz_cell {P : Int32 → Prop} (X : CallFix p m c cc nL s args (cd :: zz_all) own) (hX : va_X b Ln xs s s.heap) (hbl : b < s.heap.size) (hbA : ¬ A b) (hS : va_S A s.heap H locs)
    (h : (Int32.ofNat Ln ≤ (0 : Int32) → P 0) ∧ (¬ Int32.ofNat Ln ≤ (0 : Int32) → vp_in (0 : Int32) Ln ∧ P (xs (0 : Int32).toNatClampNeg)))
    (hm : zz_Ms y_La_cell b_La_cell 2 (some .int) 2) (hl : Cond.methodLink own index y_La_cell ∈ zz_all) (hR : 0 + 1 ≤ R.frames ∧ 8 + (2 + 11) + 0 ≤ R.locals)
    (hsize : ls.size = nL) (hW : (rest.map fun v => v.category).sum ≤ 8) (hdg : decode cc pc = .ok (.invokestatic index, 3)) (hf : cells + 0 ≤ R.cells ∧ slots + 0 ≤ R.slots)
    (kk : ∀ r : Int32, P r → W p l e R s m args below meth c H locs cells slots Q (F0 m (pc + 3) ls (.int r :: rest))) : W p l e R s m args below meth c H locs cells slots Q (F0 m pc ls (.int 0 :: .ref b :: rest)) := by
  have cw := zz_cS (R := R) (rm := rm_La_cell) X.2.2.2.2 hm hl hR
  have hX1 : va_X b Ln xs s H := hX.kept (hS.2.1 b hbl hbA)
  exact vp_callSi (W.runS (As := [.ref b, .int 0]) X (c_La_cell l b Ln xs P h) cw ⟨fun a U g mk q => ⟨q.1, va_X.moved (u := U) (Vm.Alike.refl U.vm) q.2.1, q.2.2⟩, fun U hU hW1 => ⟨rfl, by rw [hU]; exact va_X.moved hW1.alike hX1, by rw [hU]; exact Nat.lt_of_lt_of_le hbl hS.1⟩⟩ rfl rfl hsize rfl (lv_room hW) hdg hf) kk
end ZK
theorem m_La_cell : zz_Ms y_La_cell b_La_cell 2 (some .int) 2 := ⟨(zz_mem (List.mem_of_getElem? (i := 304) (by decide +kernel)) (by decide +kernel)), (zz_mem (List.mem_of_getElem? (i := 110) (by decide +kernel)) (by decide +kernel)), (zz_mem (List.mem_of_getElem? (i := 305) (by decide +kernel)) (by decide +kernel)), by decide +kernel, by decide +kernel, by decide +kernel⟩
theorem k_La_42 : Cond.methodLink R_La 42 y_La_cell ∈ zz_all := zz_mem (List.mem_of_getElem? (i := 303) (by decide +kernel)) (by decide +kernel)
theorem l_La_51 : Cond.classLink R_La 51 R_Md ∈ zz_all := zz_mem (List.mem_of_getElem? (i := 905) (by decide +kernel)) (by decide +kernel)
theorem li_Md : Cond.instantiable R_Md 26 ∈ zz_all := zz_mem (List.mem_of_getElem? (i := 906) (by decide +kernel)) (by decide +kernel)
theorem lz_Md : Cond.initialized R_Md ∈ zz_all := zz_mem (List.mem_of_getElem? (i := 118) (by decide +kernel)) (by decide +kernel)
theorem k_La_53 : Cond.methodLink R_La 53 y_Md_init ∈ zz_all := zz_mem (List.mem_of_getElem? (i := 907) (by decide +kernel)) (by decide +kernel)
theorem m_Md_init : zz_Mc y_Md_init b_Md_init 2 1 := ⟨(zz_mem (List.mem_of_getElem? (i := 908) (by decide +kernel)) (by decide +kernel)), (zz_mem (List.mem_of_getElem? (i := 118) (by decide +kernel)) (by decide +kernel)), (zz_mem (List.mem_of_getElem? (i := 909) (by decide +kernel)) (by decide +kernel)), rfl, by decide +kernel, by decide +kernel, by decide +kernel⟩
theorem l_La_8 : Cond.classLink R_La 8 R_Co ∈ zz_all := zz_mem (List.mem_of_getElem? (i := 127) (by decide +kernel)) (by decide +kernel)
theorem li_Co : Cond.instantiable R_Co 2 ∈ zz_all := zz_mem (List.mem_of_getElem? (i := 128) (by decide +kernel)) (by decide +kernel)
theorem lz_Co : Cond.initialized R_Co ∈ zz_all := zz_mem (List.mem_of_getElem? (i := 111) (by decide +kernel)) (by decide +kernel)
theorem k_La_48 : Cond.methodLink R_La 48 y_Co_init ∈ zz_all := zz_mem (List.mem_of_getElem? (i := 129) (by decide +kernel)) (by decide +kernel)
theorem m_Co_init : zz_Mc y_Co_init b_Co_init 2 1 := ⟨(zz_mem (List.mem_of_getElem? (i := 130) (by decide +kernel)) (by decide +kernel)), (zz_mem (List.mem_of_getElem? (i := 111) (by decide +kernel)) (by decide +kernel)), (zz_mem (List.mem_of_getElem? (i := 131) (by decide +kernel)) (by decide +kernel)), rfl, by decide +kernel, by decide +kernel, by decide +kernel⟩
theorem zz_nw_at {args : Array Value} {s : State} (h : ∀ w ∈ lw_tbl, w.before args s = true) : zz_nw s := ⟨va_Nw.of rfl (h _ (by decide +kernel)), va_Nw.of rfl (h _ (by decide +kernel)), va_Nw.of rfl (h _ (by decide +kernel))⟩
theorem zz_dc_at {args : Array Value} {s : State} (h : ∀ w ∈ lw_tbl, w.before args s = true) : zz_dc s := ⟨va_Nw.of rfl (h _ (by decide +kernel)), va_Nw.of rfl (h _ (by decide +kernel)), va_Nw.of rfl (h _ (by decide +kernel))⟩
theorem zz_str {args : Array Value} {s : State} {own tx : String} {k : Nat} {c : ClassId} (hc : s.vm.findClass own = some c) (h : (Cond.stringRef own k tx).before args s = true) : ∃ sa, vk_R own k tx sa s := by
  obtain ⟨k1, cf, i, a, -, -, -, -, -, hev⟩ := Cond.stringRef_spec hc h
  exact ⟨a, vk_R.of h hev⟩
theorem zz_tx_at {args : Array Value} {s : State} {c : ClassId} (hc : s.vm.findClass R_Co = some c) (h : ∀ w ∈ lw_tbl, w.before args s = true) : zz_tx s := ⟨va_Nw.of rfl (h _ (by decide +kernel)), va_Nw.of rfl (h _ (by decide +kernel)), va_Nw.of rfl (h _ (by decide +kernel)), zz_str hc (h _ (by decide +kernel)), zz_str hc (h _ (by decide +kernel)), zz_str hc (h _ (by decide +kernel)), zz_str hc (h _ (by decide +kernel)), zz_str hc (h _ (by decide +kernel)), zz_str hc (h _ (by decide +kernel)), zz_str hc (h _ (by decide +kernel)), zz_str hc (h _ (by decide +kernel))⟩
theorem zz_ex_at {args : Array Value} {s : State} {c : ClassId} (hc : s.vm.findClass R_Co = some c) (h : ∀ w ∈ lw_tbl, w.before args s = true) (hg : (Jvm.Cond.and given_1 narrow_1).before args s = true) : zz_ex (fun q : Nat => s.heap.size ≤ q) s s.heap := by
  have hs := flat_of_before _ hg
  exact ⟨vx_Zqof (h _ (by decide +kernel)) (h _ (by decide +kernel)) (hs _ (by decide +kernel)) (fun a ha => Nat.not_le.mpr ha), vx_Zqof (h _ (by decide +kernel)) (h _ (by decide +kernel)) (hs _ (by decide +kernel)) (fun a ha => Nat.not_le.mpr ha), zz_tx_at hc h, zz_dc_at h⟩
theorem zz_nc_at {args : Array Value} {s : State} (hg : (Jvm.Cond.and given_1 narrow_1).before args s = true) : zz_nc s := by
  have hs := flat_of_before _ hg
  exact ⟨va_Nc.of (hs _ (by decide +kernel)), va_Nc.of (hs _ (by decide +kernel))⟩
/-- what the pure side owes: the law's formula at the start, for the size that the script tells -/
def zz_owed (Ln : Nat) (xs : Nat → Int32) (a0 : Int32) : Prop := ∃ n : Nat, n ≤ 1000 ∧ wl_law Ln xs (zz_size a0) (zz_size a0 / 4).toNatClampNeg (zz_size a0) n 1 (fun k => if k = 1 then 4 else 0) (fun _ => 0) (upd (upd (fun _ => 0) 2 1) 3 1) (fun _ => 0) 0 (fun _ => 0) (0, 0, 0, 0) (0, 0, 0, 0) (fun _ => 0) (fun k => if k = 1 ∨ k = 2 then 1 else if k = 4 then 4 else 0) 0 0 (fun _ => 0) (fun _ => 0) (fun _ => 0)
set_option maxHeartbeats 8000000 in
set_option maxRecDepth 100000 in
theorem whole_start {p : Program} {e : Env} {s : State} {m : MethodId} {below : List Frame} {meth : Method} {c : Code} (l : Launch) (hl0 : l.stackTraces = false) {b L : Nat} {xs : Nat → Int32} (hL : L ≤ 1537) (C0 : lw_At p s m meth c b L xs) (hO : (Int32.ofNat L ≤ (0 : Int32) → zz_owed L xs 0) ∧ (¬ Int32.ofNat L ≤ (0 : Int32) → vp_in (0 : Int32) L ∧ zz_owed L xs (xs (0 : Int32).toNatClampNeg))) : W p l e room_1 s m #[Value.ref b] below meth c s.heap [] 0 0 (lw_Z below #[Value.ref b] s) (entryFrame m ([Value.ref b] : List Value).toArray 7) := by
  obtain ⟨hx, hb, hr, hml, hown0, hts0, hX, hbl, hlocks, hgv⟩ := C0
  have hown : s.vm.findClass R_La = some m.cls := hown0
  have hts : ∀ w ∈ Cond.arrayClass .int :: zz_all, w.before #[Value.ref b] s = true := fun w hw => hts0 w ((List.mem_cons.mp hw).elim (fun e => e ▸ zz_in ja_int) (fun h => zz_in h))
  have hT := zz_hts hts
  have X : CallFix p m c code 7 s #[Value.ref b] (Cond.arrayClass .int :: zz_all) R_La := ⟨hx, hb, hml, hown, hts⟩
  obtain ⟨c0, iS0, hKn0⟩ := u_known (C := R_Fr) (T := T_Fr) (N := 4) (n := 4) hT u_Fr (hT _ li_Fr)
  obtain ⟨c1, iS1, hKn1⟩ := u_known (C := R_Fu) (T := T_Fu) (N := 4) (n := 4) hT u_Fu (hT _ li_Fu)
  obtain ⟨c2, iS2, hKn2⟩ := u_known (C := R_Hl) (T := T_Hl) (N := 4) (n := 4) hT u_Hl (hT _ li_Hl)
  obtain ⟨c3, iS3, hKn3⟩ := u_known (C := R_Me) (T := T_Me) (N := 2) (n := 2) hT u_Me (hT _ li_Me)
  obtain ⟨c4, iS4, hKn4⟩ := u_known (C := R_Pr) (T := T_Pr) (N := 16) (n := 16) hT u_Pr (hT _ li_Pr)
  obtain ⟨c5, iS5, hKn5⟩ := u_known (C := R_Co) (T := T_Co) (N := 2) (n := 2) hT u_Co (hT _ li_Co)
  obtain ⟨c6, iS6, hKn6⟩ := u_known (C := R_Md) (T := T_Md) (N := 26) (n := 26) hT u_Md (hT _ li_Md)
  obtain ⟨dC, dI, hKc⟩ : ∃ (dC : Nat → ClassId) (dI : Nat → Nat → Nat), ∀ (k : Nat) (q : vw_C), vwCl[k]? = some q → u_Kn s q.1 q.2.1 q.2.2 (dC k) (dI k) := by
    refine ⟨fun k => if k = 0 then c0 else if k = 1 then c1 else if k = 2 then c2 else if k = 3 then c3 else if k = 4 then c4 else if k = 5 then c5 else c6, fun k => if k = 0 then iS0 else if k = 1 then iS1 else if k = 2 then iS2 else if k = 3 then iS3 else if k = 4 then iS4 else if k = 5 then iS5 else iS6, ?_⟩
    intro k q hq
    match k, hq with
    | 0, hq => cases hq; exact hKn0
    | 1, hq => cases hq; exact hKn1
    | 2, hq => cases hq; exact hKn2
    | 3, hq => cases hq; exact hKn3
    | 4, hq => cases hq; exact hKn4
    | 5, hq => cases hq; exact hKn5
    | 6, hq => cases hq; exact hKn6
    | k + 7, hq => simp [vwCl] at hq
  obtain ⟨cI, hAI, hRI⟩ := zz_arr (ty := .int) (by decide) (hT _ ja_int)
  obtain ⟨cJ, hAJ, hRJ⟩ := zz_arr (ty := .long) (by decide) (hT _ ja_long)
  obtain ⟨cB, hAB, hRB⟩ := zz_arr (ty := .byte) (by decide) (hT _ ja_byte)
  have hK : va_K (dC, dI) vwCl [(cI, .int), (cJ, .long), (cB, .byte)] s := ⟨hKc, fun k q h => by
    match k, h with
    | 0, h => cases h; exact ⟨hAI, hRI⟩
    | 1, h => cases h; exact ⟨hAJ, hRJ⟩
    | 2, h => cases h; exact ⟨hAB, hRB⟩
    | k + 3, h => simp at h⟩
  obtain ⟨D, hDD⟩ : ∃ D : va_G, D = (dC, dI) := ⟨_, rfl⟩
  rw [← hDD] at hK
  have hE := zz_ex_at hKn5.2.1 hts0 hgv
  have hNc := zz_nc_at hgv
  obtain ⟨A, hAd⟩ : ∃ A : Nat → Prop, A = (fun q : Nat => s.heap.size ≤ q) := ⟨_, rfl⟩
  rw [← hAd] at hE
  have hA : ∀ q : Nat, s.heap.size ≤ q → A q := fun q h => by rw [hAd]; exact h
  have hbA : ¬ A b := by rw [hAd]; exact Nat.not_le.mpr hbl
  have hS : va_S A s.heap s.heap [] := va_S.rf
  have hKc1 : va_K D vwCl [(cI, .int)] s := hK.sub [0] rfl
  have hKd1 : va_K D vwCl [(cI, .int), (cB, .byte)] s := hK.sub [0, 2] rfl
  have hP : va_P D vwCl [] s.heap := fun k q h => by simp at h
  have hD : va_D A [] := ⟨fun i j p q h => by simp at h, fun k q h => by simp at h⟩
  have hl := lv_entry ([.ref b]) (n := 7) (Nat.le_of_ble_eq_true rfl)
  rw [lg_entry_eq]
  generalize (lg_sl ([.ref b]) ++ List.replicate (7 - (lg_sl ([.ref b])).length) Slot.unset).toArray = ls at hl ⊢
  have hl : lv_has ls 7 [(0, .ref b)] := hl
  refine va_new (ci := 5) (fs := [.null, .null]) (C := R_Co) (T := T_Co) (N := 2) hx hb hT u_Co t_Co ut_Co hown (hT _ l_La_8) (hT _ li_Co) (hT _ lz_Co) hK hP hD hS hA rfl (fun j hj => match j, hj with | 0, _ => rfl | 1, _ => rfl | (k + 2), h => absurd h (by omega)) (Nat.le_of_ble_eq_true rfl) (Nat.le_of_ble_eq_true rfl) d_law_0 (fun q0 H hP hD hS => ?_)
  have hP : va_P D vwCl ([(q0, .inr (5, [.null, .null]))]) H := hP
  have hD : va_D A ([(q0, .inr (5, [.null, .null]))]) := hD
  refine W.widen (k := 1) (n := 2) (by omega) (by omega) ?_
  refine lv_dup hx hb d_law_3 rfl ?_
  refine lv_aload_n hx hb d_law_4 rfl (lv_at hl 0 rfl) ?_
  refine lv_iconst (v := 0) hx hb d_law_5 (by decide) ?_
  refine zz_cell (P := fun r => zz_owed L xs r ∧ r = (if Int32.ofNat L ≤ (0 : Int32) then 0 else xs (0 : Int32).toNatClampNeg)) X hX hbl hbA hS ⟨fun h => ⟨hO.1 h, by rw [if_pos h]⟩, fun h => ⟨(hO.2 h).1, (hO.2 h).2, by rw [if_neg h]⟩⟩ m_La_cell k_La_42 ⟨Nat.le_of_ble_eq_true rfl, Nat.le_of_ble_eq_true rfl⟩ hl.1 (Nat.le_of_ble_eq_true rfl) d_law_6 ⟨Nat.le_of_ble_eq_true rfl, Nat.le_of_ble_eq_true rfl⟩ (fun a0 hO1 => ?_)
  obtain ⟨hO1, ea⟩ := hO1
  have hsz := zz_size_ok a0
  refine zz_Iv (As := [.int a0]) (rest := [.ref q0]) (wc := [(q0, .inr (5, [.null, .null]))]) (wr := []) X hKc1 hP hD hS hA (c_Co_init l D cI q0 a0 hsz.1 hsz.2 _) ⟨rfl, rfl⟩ (zz_nwok (zz_nw_at hts0)) m_Co_init k_La_48 ⟨Nat.le_of_ble_eq_true rfl, Nat.le_of_ble_eq_true rfl⟩ [0] [] rfl rfl (by decide) (by decide) (by decide) rfl hl.1 rfl (Nat.le_of_ble_eq_true rfl) d_law_9 ⟨Nat.le_of_ble_eq_true rfl, Nat.le_of_ble_eq_true rfl⟩ (fun u H locs _ hP hD hS => ?_)
  have hP : va_P D vwCl (wC q0 u.1 u.2.1 u.2.2.1 u.2.2.2.1 u.2.2.2.2.1 u.2.2.2.2.2.1 u.2.2.2.2.2.2.1 u.2.2.2.2.2.2.2.1 u.2.2.2.2.2.2.2.2 cI (zz_size a0) (zz_size a0 / 4).toNatClampNeg (fun k => if k = 1 then 4 else 0) (fun _ => 0) (upd (upd (fun _ => 0) 2 1) 3 1) (fun _ => 0) 0 (fun _ => 0) (0, 0, 0, 0) (0, 0, 0, 0)) H := hP
  have hD : va_D A (wC q0 u.1 u.2.1 u.2.2.1 u.2.2.2.1 u.2.2.2.2.1 u.2.2.2.2.2.1 u.2.2.2.2.2.2.1 u.2.2.2.2.2.2.2.1 u.2.2.2.2.2.2.2.2 cI (zz_size a0) (zz_size a0 / 4).toNatClampNeg (fun k => if k = 1 then 4 else 0) (fun _ => 0) (upd (upd (fun _ => 0) 2 1) 3 1) (fun _ => 0) 0 (fun _ => 0) (0, 0, 0, 0) (0, 0, 0, 0)) := hD
  refine W.widen (k := 10) (n := 65636) (by omega) (by omega) ?_
  refine lv_astore_n (lv' := [(1, .ref q0), (0, .ref b)]) hx hb d_law_12 rfl hl (by decide) rfl (fun ls hl => ?_)
  refine va_new (ci := 6) (fs := [.int 0, .null, .int 0, .null, .int 0, .int 0, .int 0, .int 0, .int 0, .int 0, .int 0, .int 0, .null, .int 0, .int 0, .int 0, .int 0, .int 0, .int 0, .int 0, .int 0, .int 0, .int 0, .int 0, .long 0, .long 0]) (C := R_Md) (T := T_Md) (N := 26) hx hb hT u_Md t_Md ut_Md hown (hT _ l_La_51) (hT _ li_Md) (hT _ lz_Md) hK hP hD hS hA rfl (fun j hj => match j, hj with | 0, _ => rfl | 1, _ => rfl | 2, _ => rfl | 3, _ => rfl | 4, _ => rfl | 5, _ => rfl | 6, _ => rfl | 7, _ => rfl | 8, _ => rfl | 9, _ => rfl | 10, _ => rfl | 11, _ => rfl | 12, _ => rfl | 13, _ => rfl | 14, _ => rfl | 15, _ => rfl | 16, _ => rfl | 17, _ => rfl | 18, _ => rfl | 19, _ => rfl | 20, _ => rfl | 21, _ => rfl | 22, _ => rfl | 23, _ => rfl | 24, _ => rfl | 25, _ => rfl | (k + 26), h => absurd h (by omega)) (Nat.le_of_ble_eq_true rfl) (Nat.le_of_ble_eq_true rfl) d_law_13 (fun q1 H hP hD hS => ?_)
  refine W.widen (k := 11) (n := 65662) (by omega) (by omega) ?_
  refine lv_dup hx hb d_law_16 rfl ?_
  refine lv_aload_n hx hb d_law_17 rfl (lv_at hl 1 rfl) ?_
  refine lv_iconst (v := 0) hx hb d_law_18 (by decide) ?_
  refine zz_cell (P := fun r => r = a0) X hX hbl hbA hS ⟨fun h => by rw [ea, if_pos h], fun h => ⟨(hO.2 h).1, by rw [ea, if_neg h]⟩⟩ m_La_cell k_La_42 ⟨Nat.le_of_ble_eq_true rfl, Nat.le_of_ble_eq_true rfl⟩ hl.1 (Nat.le_of_ble_eq_true rfl) d_law_19 ⟨Nat.le_of_ble_eq_true rfl, Nat.le_of_ble_eq_true rfl⟩ (fun a1 e1 => ?_)
  subst e1
  refine zz_Iv (As := [.int a1]) (rest := [.ref q1]) (wc := [(q1, .inr (6, [.int 0, .null, .int 0, .null, .int 0, .int 0, .int 0, .int 0, .int 0, .int 0, .int 0, .int 0, .null, .int 0, .int 0, .int 0, .int 0, .int 0, .int 0, .int 0, .int 0, .int 0, .int 0, .int 0, .long 0, .long 0]))]) (wr := wC q0 u.1 u.2.1 u.2.2.1 u.2.2.2.1 u.2.2.2.2.1 u.2.2.2.2.2.1 u.2.2.2.2.2.2.1 u.2.2.2.2.2.2.2.1 u.2.2.2.2.2.2.2.2 cI (zz_size a1) (zz_size a1 / 4).toNatClampNeg (fun k => if k = 1 then 4 else 0) (fun _ => 0) (upd (upd (fun _ => 0) 2 1) 3 1) (fun _ => 0) 0 (fun _ => 0) (0, 0, 0, 0) (0, 0, 0, 0)) X hKd1 hP hD hS hA (c_Md_init l D cI cB q1 a1 _) ⟨rfl, rfl⟩ ⟨fun _ _ => trivial, fun _ _ _ _ => trivial⟩ m_Md_init k_La_53 ⟨Nat.le_of_ble_eq_true rfl, Nat.le_of_ble_eq_true rfl⟩ [10] [0, 1, 2, 3, 4, 5, 6, 7, 8, 9] rfl rfl (by decide) (by decide) (by decide) rfl hl.1 rfl (Nat.le_of_ble_eq_true rfl) d_law_22 ⟨Nat.le_of_ble_eq_true rfl, Nat.le_of_ble_eq_true rfl⟩ (fun v H locs _ hP hD hS => ?_)
  refine W.widen (k := 14) (n := 327878) (by omega) (by omega) ?_
  refine lv_astore_n (lv' := [(2, .ref q1), (1, .ref q0), (0, .ref b)]) hx hb d_law_25 rfl hl (by decide) rfl (fun ls hl => ?_)
  refine lv_iconst (v := 1) hx hb d_law_26 (by decide) ?_
  refine zz_newl (N := 1) hx hb hT ja_long hK 1 rfl hP hD hS hA (by decide) (by decide) (by decide) (Nat.le_of_ble_eq_true rfl) (Nat.le_of_ble_eq_true rfl) d_law_27 (fun qx H hP hD hS => ?_)
  refine W.widen (k := 15) (n := 327879) (by omega) (by omega) ?_
  refine lv_astore_n (lv' := [(3, .ref qx), (2, .ref q1), (1, .ref q0), (0, .ref b)]) hx hb d_law_29 rfl hl (by decide) rfl (fun ls hl => ?_)
  refine lv_iconst (v := 1) hx hb d_law_30 (by decide) ?_
  refine lv_istore (lv' := [(4, .int 1), (3, .ref qx), (2, .ref q1), (1, .ref q0), (0, .ref b)]) hx hb d_law_31 hl (by decide) rfl (fun ls hl => ?_)
  obtain ⟨n, hn, h⟩ := hO1
  have hP : va_P D vwCl (wA qx q0 u.1 u.2.1 u.2.2.1 u.2.2.2.1 u.2.2.2.2.1 u.2.2.2.2.2.1 u.2.2.2.2.2.2.1 u.2.2.2.2.2.2.2.1 u.2.2.2.2.2.2.2.2 q1 v.1 v.2.1 v.2.2 cI cJ cB (zz_size a1) (zz_size a1 / 4).toNatClampNeg (zz_size a1) (fun k => if k = 1 then 4 else 0) (fun _ => 0) (upd (upd (fun _ => 0) 2 1) 3 1) (fun _ => 0) 0 (fun _ => 0) (0, 0, 0, 0) (0, 0, 0, 0) (fun _ => 0) (fun k => if k = 1 ∨ k = 2 then 1 else if k = 4 then 4 else 0) 0 0 (fun _ => 0) (fun _ => 0) (fun _ => 0)) H := hP.sub [14, 0, 1, 2, 3, 4, 5, 6, 7, 8, 9, 10, 11, 12, 13] rfl
  have hD : va_D A (wA qx q0 u.1 u.2.1 u.2.2.1 u.2.2.2.1 u.2.2.2.2.1 u.2.2.2.2.2.1 u.2.2.2.2.2.2.1 u.2.2.2.2.2.2.2.1 u.2.2.2.2.2.2.2.2 q1 v.1 v.2.1 v.2.2 cI cJ cB (zz_size a1) (zz_size a1 / 4).toNatClampNeg (zz_size a1) (fun k => if k = 1 then 4 else 0) (fun _ => 0) (upd (upd (fun _ => 0) 2 1) 3 1) (fun _ => 0) 0 (fun _ => 0) (0, 0, 0, 0) (0, 0, 0, 0) (fun _ => 0) (fun k => if k = 1 ∨ k = 2 then 1 else if k = 4 then 4 else 0) 0 0 (fun _ => 0) (fun _ => 0) (fun _ => 0)) := hD.sub [14, 0, 1, 2, 3, 4, 5, 6, 7, 8, 9, 10, 11, 12, 13] (by decide) rfl
  exact law_loop hl0 D cI cJ cB qx q0 u.1 u.2.1 u.2.2.1 u.2.2.2.1 u.2.2.2.2.1 u.2.2.2.2.2.1 u.2.2.2.2.2.2.1 u.2.2.2.2.2.2.2.1 u.2.2.2.2.2.2.2.2 q1 v.1 v.2.1 v.2.2 (zz_size a1) (zz_size a1 / 4).toNatClampNeg (zz_size a1) hx hb hr hml hown hts hX hbl hlocks hK A hAd hE hNc n 1 (fun k => if k = 1 then 4 else 0) (fun _ => 0) (upd (upd (fun _ => 0) 2 1) 3 1) (fun _ => 0) 0 (fun _ => 0) (0, 0, 0, 0) (0, 0, 0, 0) (fun _ => 0) (fun k => if k = 1 ∨ k = 2 then 1 else if k = 4 then 4 else 0) 0 0 (fun _ => 0) (fun _ => 0) (fun _ => 0) h 15 327879 (by omega) (by omega) _ _ hP hD hS ls (lv_sub hl [4, 3, 2, 1, 0] rfl)
