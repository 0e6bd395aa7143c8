def zz_tx (U : State) : Prop := va_Nw (.castable "java/lang/IllegalArgumentException" "java/lang/IllegalArgumentException") U ∧ va_Nw (.castable "java/lang/IndexOutOfBoundsException" "java/lang/IndexOutOfBoundsException") U ∧ va_Nw (.castable "java/lang/IllegalStateException" "java/lang/IllegalStateException") U ∧ (∃ sa, vk_R R_Co 33 "the address is not good" sa U) ∧ (∃ sa, vk_R R_Co 46 "the address is no multiple of 4" sa U) ∧ (∃ sa, vk_R R_Co 57 "no such register" sa U) ∧ (∃ sa, vk_R R_Co 83 "it is unknown" sa U) ∧ (∃ sa, vk_R R_Co 86 "not 1 to 10,000 steps" sa U) ∧ (∃ sa, vk_R R_Co 91 "it has ended before" sa U) ∧ (∃ sa, vk_R R_Co 96 "no break or syscall to pass" sa U) ∧ (∃ sa, vk_R R_Co 125 "no such state" sa U)
theorem zz_tx.warm {s U : State} (hW : s.WarmedH U.vm) (h : zz_tx s) : zz_tx U := ⟨va_Nw.warmC hW h.1, va_Nw.warmC hW h.2.1, va_Nw.warmC hW h.2.2.1, h.2.2.2.1.imp fun _ q => vk_R.warm hW q, h.2.2.2.2.1.imp fun _ q => vk_R.warm hW q, h.2.2.2.2.2.1.imp fun _ q => vk_R.warm hW q, h.2.2.2.2.2.2.1.imp fun _ q => vk_R.warm hW q, h.2.2.2.2.2.2.2.1.imp fun _ q => vk_R.warm hW q, h.2.2.2.2.2.2.2.2.1.imp fun _ q => vk_R.warm hW q, h.2.2.2.2.2.2.2.2.2.1.imp fun _ q => vk_R.warm hW q, h.2.2.2.2.2.2.2.2.2.2.imp fun _ q => vk_R.warm hW q⟩
theorem zz_str_33 {U : State} (h : zz_tx U) : ∃ sa, vk_R R_Co 33 "the address is not good" sa U := h.2.2.2.1
theorem zz_str_46 {U : State} (h : zz_tx U) : ∃ sa, vk_R R_Co 46 "the address is no multiple of 4" sa U := h.2.2.2.2.1
theorem zz_str_57 {U : State} (h : zz_tx U) : ∃ sa, vk_R R_Co 57 "no such register" sa U := h.2.2.2.2.2.1
theorem zz_str_83 {U : State} (h : zz_tx U) : ∃ sa, vk_R R_Co 83 "it is unknown" sa U := h.2.2.2.2.2.2.1
theorem zz_str_86 {U : State} (h : zz_tx U) : ∃ sa, vk_R R_Co 86 "not 1 to 10,000 steps" sa U := h.2.2.2.2.2.2.2.1
theorem zz_str_91 {U : State} (h : zz_tx U) : ∃ sa, vk_R R_Co 91 "it has ended before" sa U := h.2.2.2.2.2.2.2.2.1
theorem zz_str_96 {U : State} (h : zz_tx U) : ∃ sa, vk_R R_Co 96 "no break or syscall to pass" sa U := h.2.2.2.2.2.2.2.2.2.1
theorem zz_str_125 {U : State} (h : zz_tx U) : ∃ sa, vk_R R_Co 125 "no such state" sa U := h.2.2.2.2.2.2.2.2.2.2
/-! ===== throws of the class's own methods: one row ===== -/
def zz_exn : List String := ["java/lang/RuntimeException", "java/lang/Exception"]
def zz_dcl : List Cond := [Cond.declares (Bundle.initS "java/lang/RuntimeException"), Cond.declares (Bundle.initS "java/lang/Exception"), Cond.declares (Bundle.initS Bundle.tN)]
def zz_dc (U : State) : Prop := va_Nw (.declares (Bundle.initS "java/lang/RuntimeException")) U ∧ va_Nw (.declares (Bundle.initS "java/lang/Exception")) U ∧ va_Nw (.declares (Bundle.initS Bundle.tN)) U
theorem zz_dc.warm {s U : State} (hW : s.WarmedH U.vm) (h : zz_dc s) : zz_dc U := ⟨va_Nw.warmD hW h.1, va_Nw.warmD hW h.2.1, va_Nw.warmD hW h.2.2⟩
/-- what a throw asks of the world outside: Throwable's two statics, the classes, the texts -/
def zz_ex (A : Nat → Prop) (U : State) (H : Heap) : Prop := vx_Zq Bundle.tN "UNASSIGNED_STACK" Bundle.steD A U H ∧ vx_Zq Bundle.tN "SUPPRESSED_SENTINEL" Bundle.listD A U H ∧ zz_tx U ∧ zz_dc U
theorem zz_ex.narrow {A B : Nat → Prop} {U : State} {H : Heap} (h : zz_ex A U H) (hAB : ∀ q, B q → A q) : zz_ex B U H := ⟨h.1.narrow hAB, h.2.1.narrow hAB, h.2.2⟩
theorem zz_ex.kept {A : Nat → Prop} {U : State} {H H1 : Heap} (h : zz_ex A U H) (hq : ∀ a : Nat, a < H.size → ¬ A a → H1[a]? = H[a]?) : zz_ex A U H1 := ⟨h.1.kept hq, h.2.1.kept hq, h.2.2⟩
theorem zz_ex.warm {A : Nat → Prop} {s U : State} {H : Heap} (hW : s.WarmedH U.vm) (h : zz_ex A s H) : zz_ex A U H := ⟨h.1.moved hW.alike, h.2.1.moved hW.alike, zz_tx.warm hW h.2.2.1, zz_dc.warm hW h.2.2.2⟩
def zz_px (D : va_G) (tys : List (ClassId × FieldType)) (ws : va_W) (sz : Nat) : State → Prop := fun U => zz_pw D tys ws sz U ∧ zz_ex (va_A ws sz) U U.heap
/-- a world's end where it throws -/
def zz_xw {S : Type} (D : va_G) (wn : S → va_W) (A : Nat → Prop) (PX : String → S → Prop) : String → S → State → Prop := fun E u t => PX E u ∧ va_P D vwCl (wn u) t.heap ∧ va_D A (wn u)
section ZT
variable {p : Program} {l : Launch} {e : Env} {R : Room} {s : State} {m : MethodId} {args : Array Value} {below : List Frame} {meth : Method} {c : Code} {H : Heap} {locs : List Loc} {cells slots : Nat}
variable {cc : ByteArray} {pc : Nat} {ls : Array Slot} {rest : List Value} {D : va_G} {A : Nat → Prop} {tys : List (ClassId × FieldType)} {ws : va_W}
theorem zz_thr {S : Type} {wn : S → va_W} {PX : String → S → Prop} {Qc : Array Value → State → Outcome → State → Prop} {E text : String} {ik is ic : Nat} (hexec : p.tables.exec = Jvm.exec) (hb : c.code = cc) (hl0 : l.stackTraces = false) (hT : ∀ w ∈ zz_all, w.before args s = true) (hown : s.vm.findClass R_Co = some m.cls) (hE : zz_ex A s s.heap)
    (hfit : Bundle.fit E = true) (hk : Cond.classLink R_Co ik E ∈ zz_all) (hini : Cond.initialized E ∈ zz_all) (hcast : va_Nw (.castable E E) s) (hstr : ∃ sa, vk_R R_Co is text sa s)
    (hat : ∀ w ∈ (vx_atS R_Co ic E zz_exn).filter goodWord, w ∈ zz_all) (hnb : ∀ w ∈ (vx_atS R_Co ic E zz_exn).filter (fun w => !goodWord w), w ∈ Cond.castable E E :: zz_dcl) (hgood : ∀ w ∈ Cond.classLink R_Co ik E :: Cond.initialized E :: vx_atS R_Co ic E zz_exn, vx_ot w = true)
    (hP : va_P D vwCl ws H) (hD : va_D A ws) (hS : va_S A s.heap H locs) (hsize : ls.size = c.maxLocals)
    (d0 : decode cc pc = .ok (.new ik, 3)) (d3 : decode cc (pc + 3) = .ok (.dup, 1)) (d4 : decode cc (pc + 4) = .ok (.ldc is, 2)) (d6 : decode cc (pc + 6) = .ok (.invokespecial ic, 3)) (d9 : decode cc (pc + 9) = .ok (.athrow, 1))
    (htab : ∀ x ∈ c.exceptionTable.toList, False) (hRf : 5 < R.frames) (hRl : (rest.map fun v => v.category).sum + 82 ≤ R.locals) (hRc : cells + 1 ≤ R.cells) (hRs : slots + 6 ≤ R.slots) (hlocks : meth.locks = false) (hc1 : cells + 1 ≤ 1) (hs1 : slots + 6 ≤ 6)
    (u : S) (hu : ws = wn u) (h : PX E u) : W p l e R s m args below meth c H locs cells slots (vx_MQ below Qc (vx_X (fun _ : S => True) (zz_xw D wn A PX) A) args s 1 6 A) (F0 m pc ls rest) := by
  obtain ⟨sa, hsa⟩ := hstr
  refine vx_throwS (names := zz_exn) hexec hb hl0 hown hfit (by decide +kernel) (hT _ hk) (hT _ hini) hsa (vx_hat (fun w hw => hT _ (hat w hw)) hnb (vx_c (va_Nw.use rfl hcast) (vx_c (va_Nw.use rfl hE.2.2.2.1) (vx_c (va_Nw.use rfl hE.2.2.2.2.1) (vx_c (va_Nw.use rfl hE.2.2.2.2.2) vx_n))))) hgood hE.1 hE.2.1 hS hsize d0 d3 d4 d6 d9 (fun x hx => (htab x hx).elim) hRf hRl hRc hRs hlocks (fun t hvm hz hk2 => ?_) hS.2.2 hc1 hs1
  subst hu
  exact ⟨u, trivial, ⟨h, hP.kept (fun k x hx => hk2 x.1 ((hP k x hx).lt)), hD⟩, ⟨Nat.le_trans hS.1 hz, fun q h1 h2 => (hk2 q (Nat.lt_of_lt_of_le h1 hS.1)).trans (hS.2.1 q h1 h2)⟩⟩
end ZT

theorem xl_31 : Cond.classLink R_Co 31 "java/lang/IllegalArgumentException" ∈ zz_all := zz_mem (List.mem_of_getElem? (i := 318) (by decide +kernel)) (by decide +kernel)
theorem xi_31 : Cond.initialized "java/lang/IllegalArgumentException" ∈ zz_all := zz_mem (List.mem_of_getElem? (i := 122) (by decide +kernel)) (by decide +kernel)
theorem xa_35 : ∀ w ∈ (vx_atS R_Co 35 "java/lang/IllegalArgumentException" zz_exn).filter goodWord, w ∈ zz_all := fun w h => zz_mem ((by decide +kernel : ∀ w ∈ (vx_atS R_Co 35 "java/lang/IllegalArgumentException" zz_exn).filter goodWord, w ∈ lw_tbl) w h) (List.mem_filter.mp h).2
theorem xb_35 : ∀ w ∈ (vx_atS R_Co 35 "java/lang/IllegalArgumentException" zz_exn).filter (fun w => !goodWord w), w ∈ Cond.castable "java/lang/IllegalArgumentException" "java/lang/IllegalArgumentException" :: zz_dcl := by decide +kernel
theorem xg_35 : ∀ w ∈ Cond.classLink R_Co 31 "java/lang/IllegalArgumentException" :: Cond.initialized "java/lang/IllegalArgumentException" :: vx_atS R_Co 35 "java/lang/IllegalArgumentException" zz_exn, vx_ot w = true := by decide +kernel
theorem xl_55 : Cond.classLink R_Co 55 "java/lang/IndexOutOfBoundsException" ∈ zz_all := zz_mem (List.mem_of_getElem? (i := 431) (by decide +kernel)) (by decide +kernel)
theorem xi_55 : Cond.initialized "java/lang/IndexOutOfBoundsException" ∈ zz_all := zz_mem (List.mem_of_getElem? (i := 123) (by decide +kernel)) (by decide +kernel)
theorem xa_59 : ∀ w ∈ (vx_atS R_Co 59 "java/lang/IndexOutOfBoundsException" zz_exn).filter goodWord, w ∈ zz_all := fun w h => zz_mem ((by decide +kernel : ∀ w ∈ (vx_atS R_Co 59 "java/lang/IndexOutOfBoundsException" zz_exn).filter goodWord, w ∈ lw_tbl) w h) (List.mem_filter.mp h).2
theorem xb_59 : ∀ w ∈ (vx_atS R_Co 59 "java/lang/IndexOutOfBoundsException" zz_exn).filter (fun w => !goodWord w), w ∈ Cond.castable "java/lang/IndexOutOfBoundsException" "java/lang/IndexOutOfBoundsException" :: zz_dcl := by decide +kernel
theorem xg_59 : ∀ w ∈ Cond.classLink R_Co 55 "java/lang/IndexOutOfBoundsException" :: Cond.initialized "java/lang/IndexOutOfBoundsException" :: vx_atS R_Co 59 "java/lang/IndexOutOfBoundsException" zz_exn, vx_ot w = true := by decide +kernel
theorem xl_81 : Cond.classLink R_Co 81 "java/lang/IllegalStateException" ∈ zz_all := zz_mem (List.mem_of_getElem? (i := 475) (by decide +kernel)) (by decide +kernel)
theorem xi_81 : Cond.initialized "java/lang/IllegalStateException" ∈ zz_all := zz_mem (List.mem_of_getElem? (i := 124) (by decide +kernel)) (by decide +kernel)
theorem xa_85 : ∀ w ∈ (vx_atS R_Co 85 "java/lang/IllegalStateException" zz_exn).filter goodWord, w ∈ zz_all := fun w h => zz_mem ((by decide +kernel : ∀ w ∈ (vx_atS R_Co 85 "java/lang/IllegalStateException" zz_exn).filter goodWord, w ∈ lw_tbl) w h) (List.mem_filter.mp h).2
theorem xb_85 : ∀ w ∈ (vx_atS R_Co 85 "java/lang/IllegalStateException" zz_exn).filter (fun w => !goodWord w), w ∈ Cond.castable "java/lang/IllegalStateException" "java/lang/IllegalStateException" :: zz_dcl := by decide +kernel
theorem xg_85 : ∀ w ∈ Cond.classLink R_Co 81 "java/lang/IllegalStateException" :: Cond.initialized "java/lang/IllegalStateException" :: vx_atS R_Co 85 "java/lang/IllegalStateException" zz_exn, vx_ot w = true := by decide +kernel
