/-! ===== rows of my own over the kit: one list of words for all methods, calls by contract in one row ===== -/
/-- all good words of the tables: every method's list is its code and these -/
def zz_all : List Cond := lw_tbl.filter goodWord
theorem zz_mem {w : Cond} (h : w ∈ lw_tbl) (g : goodWord w = true) : w ∈ zz_all := List.mem_filter.mpr ⟨h, g⟩
theorem zz_in {w : Cond} (h : w ∈ zz_all) : w ∈ lw_tbl := (List.mem_filter.mp h).1
theorem zz_good {cd k : Cond} (hk : k ∈ zz_all) : GoodIn (cd :: zz_all) (k :: zz_all) := fun w hw => by
  have h1 : w ∈ zz_all := (List.mem_cons.mp hw).elim (fun e => e ▸ hk) id
  exact ⟨List.mem_cons_of_mem _ h1, good_of_word (List.mem_filter.mp h1).2⟩
/-- what the tables say of a method that is called: its words, its name, the number of its parameters -/
def zz_Mi (y : MethodName) (bytes : ByteArray) (maxL : Nat) (ret : Option FieldType) (n : Nat) : Prop :=
  Cond.instanceMethod y ∈ zz_all ∧ Cond.selects y.cls y y ∈ zz_all ∧ Cond.initialized y.cls ∈ zz_all ∧ Cond.code y bytes maxL ret ∈ zz_all ∧ (y.cls ≠ "java/lang/invoke/MethodHandle" ∧ y.cls ≠ "java/lang/invoke/VarHandle" ∧ (parseMethodDescriptor y.desc).map (fun d => d.parameters.length) = some n)
def zz_Ms (y : MethodName) (bytes : ByteArray) (maxL : Nat) (ret : Option FieldType) (n : Nat) : Prop :=
  Cond.static y ∈ zz_all ∧ Cond.initialized y.cls ∈ zz_all ∧ Cond.code y bytes maxL ret ∈ zz_all ∧ (y.cls ≠ "java/lang/invoke/MethodHandle" ∧ y.cls ≠ "java/lang/invoke/VarHandle" ∧ (parseMethodDescriptor y.desc).map (fun d => d.parameters.length) = some n)
abbrev zz_ws (y : MethodName) (bytes : ByteArray) (maxL : Nat) (ret : Option FieldType) : List Cond := Cond.code y bytes maxL ret :: zz_all
def zz_rm (f k : Nat) : Room := { frames := f, cells := 0, slots := 0, locals := k }
/-- a world's start: the heap's size, the cells, the classes, apart -/
def zz_pw (D : va_G) (tys : List (ClassId × FieldType)) (ws : va_W) (sz : Nat) : State → Prop := fun U => U.heap.size = sz ∧ va_P D vwCl ws U.heap ∧ va_K D vwCl tys U ∧ va_D (fun _ => True) ws
/-- the start of a method that only reads -/
def zz_pr (D : va_G) (tys : List (ClassId × FieldType)) (ws : va_W) : State → Prop := fun U => va_P D vwCl ws U.heap ∧ va_K D vwCl tys U
/-- a world's end -/
def zz_qw {S : Type} (D : va_G) (wn : S → va_W) (A : Nat → Prop) : S → State → Prop := fun u t => va_P D vwCl (wn u) t.heap ∧ va_D A (wn u)
def zz_shl (x y : Int32) : Int32 := x <<< (y &&& 31)
def zz_shr (x y : Int32) : Int32 := x >>> (y &&& 31)
def zz_ushr (x y : Int32) : Int32 := (x.toUInt32 >>> (y.toUInt32 &&& Int32.toUInt32 31)).toInt32
def zz_lshl (x : Int64) (y : Int32) : Int64 := x <<< (y.toInt64 &&& 63)
def zz_lshr (x : Int64) (y : Int32) : Int64 := x >>> (y.toInt64 &&& 63)
def zz_lushr (x : Int64) (y : Int32) : Int64 := (x.toUInt64 >>> (y.toInt64.toUInt64 &&& Int64.toUInt64 63)).toInt64
/-- a boolean -/
def zz_bz (v : Int32) : Prop := v = 0 ∨ v = 1
theorem zz_bz_n {v : Int32} (h : zz_bz v) : narrow .boolean (.int v) = .int v := by
  rcases h with h | h <;> subst h <;> decide +kernel
theorem zz_bz_f {v : Int32} (h : zz_bz v) : fits .boolean (.int v) = true := by
  rcases h with h | h <;> subst h <;> decide +kernel
section ZZ
variable {p : Program} {l : Launch} {e : Env} {R : Room} {s : State} {m : MethodId} {args : Array Value} {below : List Frame} {meth : Method} {c : Code} {H : Heap} {locs : List Loc} {cells slots : Nat} {Q : State → Prop}
variable {cc bytes : ByteArray} {pc nL maxL n index : Nat} {ls : Array Slot} {rest st0 As : List Value} {D : va_G} {A : Nat → Prop} {a b : Nat} {tys : List (ClassId × FieldType)} {ws wc wr : va_W} {H0 : Heap} {own : String} {cd : Cond} {y : MethodName} {ret : Option FieldType} {rm : Room}
theorem zz_ishl (hexec : p.tables.exec = Jvm.exec) (hb : c.code = cc) {x y : Int32} (hdg : decode cc pc = .ok (.ishl, 1)) (k : W p l e R s m args below meth c H locs cells slots Q (F0 m (pc + 1) ls (.int (zz_shl x y) :: rest))) : W p l e R s m args below meth c H locs cells slots Q (F0 m pc ls (.int y :: .int x :: rest)) := lv_ishl hexec hb hdg k
theorem zz_ishr (hexec : p.tables.exec = Jvm.exec) (hb : c.code = cc) {x y : Int32} (hdg : decode cc pc = .ok (.ishr, 1)) (k : W p l e R s m args below meth c H locs cells slots Q (F0 m (pc + 1) ls (.int (zz_shr x y) :: rest))) : W p l e R s m args below meth c H locs cells slots Q (F0 m pc ls (.int y :: .int x :: rest)) := lv_ishr hexec hb hdg k
theorem zz_iushr (hexec : p.tables.exec = Jvm.exec) (hb : c.code = cc) {x y : Int32} (hdg : decode cc pc = .ok (.iushr, 1)) (k : W p l e R s m args below meth c H locs cells slots Q (F0 m (pc + 1) ls (.int (zz_ushr x y) :: rest))) : W p l e R s m args below meth c H locs cells slots Q (F0 m pc ls (.int y :: .int x :: rest)) := lv_iushr hexec hb hdg rfl k
theorem zz_llshl (hexec : p.tables.exec = Jvm.exec) (hb : c.code = cc) {x : Int64} {y : Int32} (hdg : decode cc pc = .ok (.lshl, 1)) (k : W p l e R s m args below meth c H locs cells slots Q (F0 m (pc + 1) ls (.long (zz_lshl x y) :: rest))) : W p l e R s m args below meth c H locs cells slots Q (F0 m pc ls (.int y :: .long x :: rest)) := lv_lshl hexec hb hdg rfl k
theorem zz_llshr (hexec : p.tables.exec = Jvm.exec) (hb : c.code = cc) {x : Int64} {y : Int32} (hdg : decode cc pc = .ok (.lshr, 1)) (k : W p l e R s m args below meth c H locs cells slots Q (F0 m (pc + 1) ls (.long (zz_lshr x y) :: rest))) : W p l e R s m args below meth c H locs cells slots Q (F0 m pc ls (.int y :: .long x :: rest)) := lv_lshr hexec hb hdg rfl k
theorem zz_llushr (hexec : p.tables.exec = Jvm.exec) (hb : c.code = cc) {x : Int64} {y : Int32} (hdg : decode cc pc = .ok (.lushr, 1)) (k : W p l e R s m args below meth c H locs cells slots Q (F0 m (pc + 1) ls (.long (zz_lushr x y) :: rest))) : W p l e R s m args below meth c H locs cells slots Q (F0 m pc ls (.int y :: .long x :: rest)) := lv_lushr hexec hb hdg rfl k
theorem zz_hts (h : ∀ w ∈ cd :: zz_all, w.before args s = true) : ∀ w ∈ zz_all, w.before args s = true := fun w hw => h w (List.mem_cons_of_mem _ hw)
/-- the words of a call of an instance method -/
theorem zz_cV (ht : ∀ w ∈ cd :: zz_all, w.before args s = true) (hm : zz_Mi y bytes maxL ret n) (hl : Cond.methodLink own index y ∈ zz_all) (hR : rm.frames + 1 ≤ R.frames ∧ 8 + (maxL + 11) + rm.locals ≤ R.locals) : CallW R s args own y.cls index y bytes maxL ret (zz_ws y bytes maxL ret) rm rm.cells rm.slots n := by
  obtain ⟨h1, h2, h3, h4, h5⟩ := hm
  have hu := zz_hts ht
  exact ⟨callB_of n ht (zz_good h4) rfl rfl rfl (hu _ h3) (hu _ hl) h5 hR, hu _ h1, hu _ h2⟩
theorem zz_cS (ht : ∀ w ∈ cd :: zz_all, w.before args s = true) (hm : zz_Ms y bytes maxL ret n) (hl : Cond.methodLink own index y ∈ zz_all) (hR : rm.frames + 1 ≤ R.frames ∧ 8 + (maxL + 11) + rm.locals ≤ R.locals) : CallB R s args own index y bytes maxL ret (zz_ws y bytes maxL ret) rm rm.cells rm.slots n ∧ (Cond.static y).before args s = true := by
  obtain ⟨h1, h3, h4, h5⟩ := hm
  have hu := zz_hts ht
  exact ⟨callB_of n ht (zz_good h4) rfl rfl rfl (hu _ h3) (hu _ hl) h5 hR, hu _ h1⟩
theorem zz_pw_blind {av : List Value} {sz : Nat} : FrameBlind (va_Pc av (zz_pw D tys ws sz)) := fun a U g mk q => by
  obtain ⟨q0, q1, qP, qK, qD⟩ := q
  exact ⟨q0, q1, qP, va_K.moved (u := U) (U := U.calling g mk a) (Vm.Alike.refl U.vm) qK, qD⟩
theorem zz_pr_blind {av : List Value} : FrameBlind (va_Pc av (zz_pr D tys ws)) := fun a U g mk q => by
  obtain ⟨q0, qP, qK⟩ := q
  exact ⟨q0, qP, va_K.moved (u := U) (U := U.calling g mk a) (Vm.Alike.refl U.vm) qK⟩
theorem zz_pw_at (hK : va_K D vwCl tys s) (hP : va_P D vwCl ws H) (hD : va_D A ws) (av : List Value) : ∀ U : State, U.heap = H → s.WarmedH U.vm → va_Pc av (zz_pw D tys ws H.size) av.toArray U := fun U hU hW =>
  ⟨rfl, by rw [hU], by rw [hU]; exact hP, va_K.moved hW.alike hK, hD.weaken (fun _ _ _ _ => trivial)⟩
theorem zz_pr_at (hK : va_K D vwCl tys s) (hP : va_P D vwCl ws H) (av : List Value) : ∀ U : State, U.heap = H → s.WarmedH U.vm → va_Pc av (zz_pr D tys ws) av.toArray U := fun U hU hW =>
  ⟨rfl, by rw [hU]; exact hP, va_K.moved hW.alike hK⟩
theorem zz_filt {w w' : va_W} (is : List Nat) (hs : is.map (fun i => w[i]?) = w'.map some) : is.filterMap (fun i => w[i]?) = w' := by
  have h1 : is.filterMap (fun i => w[i]?) = (is.map (fun i => w[i]?)).filterMap id := by simp [List.filterMap_map, Function.comp_def]
  rw [h1, hs]
  simp [List.filterMap_map, Function.comp_def]
/-- calls of methods that only read -/
theorem zz_Ri {post : Int32 → Prop} (X : CallFix p m c cc nL s args (cd :: zz_all) own) (hK : va_K D vwCl tys s) (hP : va_P D vwCl ws H)
    (hM : Met l y (zz_ws y bytes maxL ret) rm (va_Pc (.ref b :: As) (zz_pr D tys wc)) (vp_Si post) 0 0 (fun _ => False)) (hrm : rm.cells = 0 ∧ rm.slots = 0)
    (hm : zz_Mi y bytes maxL ret n) (hl : Cond.methodLink own index y ∈ zz_all) (hR : rm.frames + 1 ≤ R.frames ∧ 8 + (maxL + 11) + rm.locals ≤ R.locals)
    (isC : List Nat) (hC : isC.map (fun i => ws[i]?) = wc.map some) (ci q0 : Nat) {fs : List Value} {q : vw_C} (hc : vwCl[ci]? = some q) (hq : q.1 = y.cls) (he : ws[q0]? = some (b, .inr (ci, fs)))
    (hn : As.length = n) (hsize : ls.size = nL) (hst : st0 = As.reverse ++ .ref b :: rest) (hW : (rest.map fun v => v.category).sum ≤ 8) (hdg : decode cc pc = .ok (.invokevirtual index, 3)) (hf : cells + 0 ≤ R.cells ∧ slots + 0 ≤ R.slots)
    (kk : ∀ r : Int32, post r → W p l e R s m args below meth c H locs cells slots Q (F0 m (pc + 3) ls (.int r :: rest))) : W p l e R s m args below meth c H locs cells slots Q (F0 m pc ls st0) := by
  have cw := zz_cV (R := R) X.2.2.2.2 hm hl hR
  rw [hrm.1, hrm.2] at cw
  have hr := va_recv hK hP hc he
  rw [hq] at hr
  exact vp_callSi (W.runV X hM cw ⟨zz_pr_blind, hr, zz_pr_at hK (hP.sub isC (zz_filt isC hC)) (.ref b :: As)⟩ rfl hn hsize hst (lv_room hW) hdg hf) kk
theorem zz_Rl {post : Int64 → Prop} (X : CallFix p m c cc nL s args (cd :: zz_all) own) (hK : va_K D vwCl tys s) (hP : va_P D vwCl ws H)
    (hM : Met l y (zz_ws y bytes maxL ret) rm (va_Pc (.ref b :: As) (zz_pr D tys wc)) (vp_Sl post) 0 0 (fun _ => False)) (hrm : rm.cells = 0 ∧ rm.slots = 0)
    (hm : zz_Mi y bytes maxL ret n) (hl : Cond.methodLink own index y ∈ zz_all) (hR : rm.frames + 1 ≤ R.frames ∧ 8 + (maxL + 11) + rm.locals ≤ R.locals)
    (isC : List Nat) (hC : isC.map (fun i => ws[i]?) = wc.map some) (ci q0 : Nat) {fs : List Value} {q : vw_C} (hc : vwCl[ci]? = some q) (hq : q.1 = y.cls) (he : ws[q0]? = some (b, .inr (ci, fs)))
    (hn : As.length = n) (hsize : ls.size = nL) (hst : st0 = As.reverse ++ .ref b :: rest) (hW : (rest.map fun v => v.category).sum ≤ 8) (hdg : decode cc pc = .ok (.invokevirtual index, 3)) (hf : cells + 0 ≤ R.cells ∧ slots + 0 ≤ R.slots)
    (kk : ∀ r : Int64, post r → W p l e R s m args below meth c H locs cells slots Q (F0 m (pc + 3) ls (.long r :: rest))) : W p l e R s m args below meth c H locs cells slots Q (F0 m pc ls st0) := by
  have cw := zz_cV (R := R) X.2.2.2.2 hm hl hR
  rw [hrm.1, hrm.2] at cw
  have hr := va_recv hK hP hc he
  rw [hq] at hr
  exact vp_callSl (W.runV X hM cw ⟨zz_pr_blind, hr, zz_pr_at hK (hP.sub isC (zz_filt isC hC)) (.ref b :: As)⟩ rfl hn hsize hst (lv_room hW) hdg hf) kk
/-- calls of static methods that read no cell -/
theorem zz_Si {post : Int32 → Prop} (X : CallFix p m c cc nL s args (cd :: zz_all) own)
    (hM : Met l y (zz_ws y bytes maxL ret) rm (fun v _ => v = As.toArray) (vp_Si post) 0 0 (fun _ => False)) (hrm : rm.cells = 0 ∧ rm.slots = 0)
    (hm : zz_Ms y bytes maxL ret n) (hl : Cond.methodLink own index y ∈ zz_all) (hR : rm.frames + 1 ≤ R.frames ∧ 8 + (maxL + 11) + rm.locals ≤ R.locals)
    (hn : As.length = n) (hsize : ls.size = nL) (hst : st0 = As.reverse ++ rest) (hW : (rest.map fun v => v.category).sum ≤ 8) (hdg : decode cc pc = .ok (.invokestatic index, 3)) (hf : cells + 0 ≤ R.cells ∧ slots + 0 ≤ R.slots)
    (kk : ∀ r : Int32, post r → W p l e R s m args below meth c H locs cells slots Q (F0 m (pc + 3) ls (.int r :: rest))) : W p l e R s m args below meth c H locs cells slots Q (F0 m pc ls st0) := by
  have cw := zz_cS (R := R) X.2.2.2.2 hm hl hR
  rw [hrm.1, hrm.2] at cw
  exact vp_callSi (W.runS X hM cw preEq rfl hn hsize hst (lv_room hW) hdg hf) kk
theorem zz_Sl {post : Int64 → Prop} (X : CallFix p m c cc nL s args (cd :: zz_all) own)
    (hM : Met l y (zz_ws y bytes maxL ret) rm (fun v _ => v = As.toArray) (vp_Sl post) 0 0 (fun _ => False)) (hrm : rm.cells = 0 ∧ rm.slots = 0)
    (hm : zz_Ms y bytes maxL ret n) (hl : Cond.methodLink own index y ∈ zz_all) (hR : rm.frames + 1 ≤ R.frames ∧ 8 + (maxL + 11) + rm.locals ≤ R.locals)
    (hn : As.length = n) (hsize : ls.size = nL) (hst : st0 = As.reverse ++ rest) (hW : (rest.map fun v => v.category).sum ≤ 8) (hdg : decode cc pc = .ok (.invokestatic index, 3)) (hf : cells + 0 ≤ R.cells ∧ slots + 0 ≤ R.slots)
    (kk : ∀ r : Int64, post r → W p l e R s m args below meth c H locs cells slots Q (F0 m (pc + 3) ls (.long r :: rest))) : W p l e R s m args below meth c H locs cells slots Q (F0 m pc ls st0) := by
  have cw := zz_cS (R := R) X.2.2.2.2 hm hl hR
  rw [hrm.1, hrm.2] at cw
  exact vp_callSl (W.runS X hM cw preEq rfl hn hsize hst (lv_room hW) hdg hf) kk
/-- calls of methods that change their world -/
theorem zz_Wi {S : Type} {post : Int32 → S → Prop} {wn : S → va_W} (X : CallFix p m c cc nL s args (cd :: zz_all) own) (hK : va_K D vwCl tys s) (hP : va_P D vwCl ws H) (hD : va_D A ws) (hS : va_S A H0 H locs) (hA : ∀ q, H0.size ≤ q → A q)
    (hM : Met l y (zz_ws y bytes maxL ret) rm (va_Pc (.ref b :: As) (zz_pw D tys wc H.size)) (va_Qi post (zz_qw D wn (va_A wc H.size)) (va_A wc H.size)) 0 0 (va_A wc H.size)) (hrm : rm.cells = 0 ∧ rm.slots = 0)
    (hm : zz_Mi y bytes maxL ret n) (hl : Cond.methodLink own index y ∈ zz_all) (hR : rm.frames + 1 ≤ R.frames ∧ 8 + (maxL + 11) + rm.locals ≤ R.locals)
    (isC isR : List Nat) (hC : isC.map (fun i => ws[i]?) = wc.map some) (hRr : isR.map (fun i => ws[i]?) = wr.map some) (hnC : va_nd isC = true) (hnR : va_nd isR = true) (hdis : ∀ i ∈ isR, i ∉ isC)
    (ci q0 : Nat) {fs : List Value} {q : vw_C} (hc : vwCl[ci]? = some q) (hq : q.1 = y.cls) (he : ws[q0]? = some (b, .inr (ci, fs)))
    (hn : As.length = n) (hsize : ls.size = nL) (hst : st0 = As.reverse ++ .ref b :: rest) (hW : (rest.map fun v => v.category).sum ≤ 8) (hdg : decode cc pc = .ok (.invokevirtual index, 3)) (hf : cells + 0 ≤ R.cells ∧ slots + 0 ≤ R.slots)
    (kk : ∀ (r : Int32) (u : S) (H1 : Heap) (locs1 : List Loc), post r u → va_P D vwCl (wr ++ wn u) H1 → va_D A (wr ++ wn u) → va_S A H0 H1 locs1 → W p l e R s m args below meth c H1 locs1 cells slots Q (F0 m (pc + 3) ls (.int r :: rest))) : W p l e R s m args below meth c H locs cells slots Q (F0 m pc ls st0) := by
  have cw := zz_cV (R := R) X.2.2.2.2 hm hl hR
  rw [hrm.1, hrm.2] at cw
  have hr := va_recv hK hP hc he
  rw [hq] at hr
  have hF := va_free (wc := wc) hD hS hA isC hC
  refine va_calli (va_runV X hM cw ⟨zz_pw_blind, hr, zz_pw_at hK (hP.sub isC (zz_filt isC hC)) (hD.sub isC hnC hC) (.ref b :: As)⟩ rfl hn hsize hst (lv_room hW) hdg hf) hS (fun q _ h => hF q h) hF (fun r u t H1 locs1 ht hvm hw hB hz1 hk1 hS1 => ?_)
  obtain ⟨hP1, hD1⟩ := hB
  rw [ht] at hP1
  obtain ⟨hP2, hD2⟩ := va_join (wr := wr) (w1 := wn u) hP hD isC isR hC hRr hnR hdis hk1 hF hP1 hD1
  exact kk r u H1 locs1 hw hP2 hD2 hS1
theorem zz_Wl {S : Type} {post : Int64 → S → Prop} {wn : S → va_W} (X : CallFix p m c cc nL s args (cd :: zz_all) own) (hK : va_K D vwCl tys s) (hP : va_P D vwCl ws H) (hD : va_D A ws) (hS : va_S A H0 H locs) (hA : ∀ q, H0.size ≤ q → A q)
    (hM : Met l y (zz_ws y bytes maxL ret) rm (va_Pc (.ref b :: As) (zz_pw D tys wc H.size)) (va_Ql post (zz_qw D wn (va_A wc H.size)) (va_A wc H.size)) 0 0 (va_A wc H.size)) (hrm : rm.cells = 0 ∧ rm.slots = 0)
    (hm : zz_Mi y bytes maxL ret n) (hl : Cond.methodLink own index y ∈ zz_all) (hR : rm.frames + 1 ≤ R.frames ∧ 8 + (maxL + 11) + rm.locals ≤ R.locals)
    (isC isR : List Nat) (hC : isC.map (fun i => ws[i]?) = wc.map some) (hRr : isR.map (fun i => ws[i]?) = wr.map some) (hnC : va_nd isC = true) (hnR : va_nd isR = true) (hdis : ∀ i ∈ isR, i ∉ isC)
    (ci q0 : Nat) {fs : List Value} {q : vw_C} (hc : vwCl[ci]? = some q) (hq : q.1 = y.cls) (he : ws[q0]? = some (b, .inr (ci, fs)))
    (hn : As.length = n) (hsize : ls.size = nL) (hst : st0 = As.reverse ++ .ref b :: rest) (hW : (rest.map fun v => v.category).sum ≤ 8) (hdg : decode cc pc = .ok (.invokevirtual index, 3)) (hf : cells + 0 ≤ R.cells ∧ slots + 0 ≤ R.slots)
    (kk : ∀ (r : Int64) (u : S) (H1 : Heap) (locs1 : List Loc), post r u → va_P D vwCl (wr ++ wn u) H1 → va_D A (wr ++ wn u) → va_S A H0 H1 locs1 → W p l e R s m args below meth c H1 locs1 cells slots Q (F0 m (pc + 3) ls (.long r :: rest))) : W p l e R s m args below meth c H locs cells slots Q (F0 m pc ls st0) := by
  have cw := zz_cV (R := R) X.2.2.2.2 hm hl hR
  rw [hrm.1, hrm.2] at cw
  have hr := va_recv hK hP hc he
  rw [hq] at hr
  have hF := va_free (wc := wc) hD hS hA isC hC
  refine va_calll (va_runV X hM cw ⟨zz_pw_blind, hr, zz_pw_at hK (hP.sub isC (zz_filt isC hC)) (hD.sub isC hnC hC) (.ref b :: As)⟩ rfl hn hsize hst (lv_room hW) hdg hf) hS (fun q _ h => hF q h) hF (fun r u t H1 locs1 ht hvm hw hB hz1 hk1 hS1 => ?_)
  obtain ⟨hP1, hD1⟩ := hB
  rw [ht] at hP1
  obtain ⟨hP2, hD2⟩ := va_join (wr := wr) (w1 := wn u) hP hD isC isR hC hRr hnR hdis hk1 hF hP1 hD1
  exact kk r u H1 locs1 hw hP2 hD2 hS1
theorem zz_Wv {S : Type} {post : S → Prop} {wn : S → va_W} (X : CallFix p m c cc nL s args (cd :: zz_all) own) (hK : va_K D vwCl tys s) (hP : va_P D vwCl ws H) (hD : va_D A ws) (hS : va_S A H0 H locs) (hA : ∀ q, H0.size ≤ q → A q)
    (hM : Met l y (zz_ws y bytes maxL ret) rm (va_Pc (.ref b :: As) (zz_pw D tys wc H.size)) (va_Qv post (zz_qw D wn (va_A wc H.size)) (va_A wc H.size)) 0 0 (va_A wc H.size)) (hrm : rm.cells = 0 ∧ rm.slots = 0)
    (hm : zz_Mi y bytes maxL ret n) (hl : Cond.methodLink own index y ∈ zz_all) (hR : rm.frames + 1 ≤ R.frames ∧ 8 + (maxL + 11) + rm.locals ≤ R.locals)
    (isC isR : List Nat) (hC : isC.map (fun i => ws[i]?) = wc.map some) (hRr : isR.map (fun i => ws[i]?) = wr.map some) (hnC : va_nd isC = true) (hnR : va_nd isR = true) (hdis : ∀ i ∈ isR, i ∉ isC)
    (ci q0 : Nat) {fs : List Value} {q : vw_C} (hc : vwCl[ci]? = some q) (hq : q.1 = y.cls) (he : ws[q0]? = some (b, .inr (ci, fs)))
    (hn : As.length = n) (hsize : ls.size = nL) (hst : st0 = As.reverse ++ .ref b :: rest) (hW : (rest.map fun v => v.category).sum ≤ 8) (hdg : decode cc pc = .ok (.invokevirtual index, 3)) (hf : cells + 0 ≤ R.cells ∧ slots + 0 ≤ R.slots)
    (kk : ∀ (u : S) (H1 : Heap) (locs1 : List Loc), post u → va_P D vwCl (wr ++ wn u) H1 → va_D A (wr ++ wn u) → va_S A H0 H1 locs1 → W p l e R s m args below meth c H1 locs1 cells slots Q (F0 m (pc + 3) ls rest)) : W p l e R s m args below meth c H locs cells slots Q (F0 m pc ls st0) := by
  have cw := zz_cV (R := R) X.2.2.2.2 hm hl hR
  rw [hrm.1, hrm.2] at cw
  have hr := va_recv hK hP hc he
  rw [hq] at hr
  have hF := va_free (wc := wc) hD hS hA isC hC
  refine va_callv (va_runV X hM cw ⟨zz_pw_blind, hr, zz_pw_at hK (hP.sub isC (zz_filt isC hC)) (hD.sub isC hnC hC) (.ref b :: As)⟩ rfl hn hsize hst (lv_room hW) hdg hf) hS (fun q _ h => hF q h) hF (fun u t H1 locs1 ht hvm hw hB hz1 hk1 hS1 => ?_)
  obtain ⟨hP1, hD1⟩ := hB
  rw [ht] at hP1
  obtain ⟨hP2, hD2⟩ := va_join (wr := wr) (w1 := wn u) hP hD isC isR hC hRr hnR hdis hk1 hF hP1 hD1
  exact kk u H1 locs1 hw hP2 hD2 hS1
/-- the default of a tableswitch: x is none of the labels that lead elsewhere -/
theorem zz_swD (hexec : p.tables.exec = Jvm.exec) (hb : c.code = cc) {dflt lo hi : Int} {offs : Array Int} {len tgt : Nat} {x : Int32} (ks : List Int) (hdg : decode cc pc = .ok (.tableswitch dflt lo hi offs, len))
    (hk : ((List.range offs.size).all fun i => decide (offs[i]? = some dflt) || ks.contains (lo + (i : Int))) = true) (hs : (offs.size : Int) = hi - lo + 1) (hx : ∀ k ∈ ks, ¬ x.toInt = k) (ht : (pc : Int) + dflt = (tgt : Int))
    (k : W p l e R s m args below meth c H locs cells slots Q (F0 m tgt ls rest)) : W p l e R s m args below meth c H locs cells slots Q (F0 m pc ls (.int x :: rest)) := by
  by_cases h1 : x.toInt < lo
  · exact lv_tableOut hexec hb hdg (Or.inl h1) ht k
  · by_cases h2 : hi < x.toInt
    · exact lv_tableOut hexec hb hdg (Or.inr h2) ht k
    · refine lv_tableIn (off := dflt) hexec hb hdg h1 h2 ?_ ht k
      have h3 : (x.toInt - lo).toNat < offs.size := by omega
      have h4 := List.all_eq_true.mp hk _ (List.mem_range.mpr h3)
      rcases Bool.or_eq_true_iff.mp h4 with h5 | h5
      · exact of_decide_eq_true h5
      · have h6 := List.contains_iff_mem.mp h5
        exact absurd (by omega : x.toInt = lo + ((x.toInt - lo).toNat : Int)) (hx _ h6)
end ZZ
section ZC
variable {p : Program} {l : Launch} {e : Env} {R : Room} {s : State} {m : MethodId} {args : Array Value} {below : List Frame} {meth : Method} {c : Code} {H : Heap} {locs : List Loc} {cells slots : Nat} {Q : State → Prop}
variable {cc bytes : ByteArray} {pc nL maxL n index : Nat} {ls : Array Slot} {rest st0 As : List Value} {D : va_G} {A : Nat → Prop} {a b : Nat} {tys : List (ClassId × FieldType)} {ws wc wr : va_W} {H0 : Heap} {own host : String} {cd : Cond} {y : MethodName} {ret : Option FieldType} {rm : Room}
/-- new arrays, of the class that the tables have for them -/
theorem zz_newi {cI : ClassId} (hexec : p.tables.exec = Jvm.exec) (hb : c.code = cc) (hT : ∀ w ∈ zz_all, w.before args s = true) (harr : Cond.arrayClass .int ∈ zz_all) (hK : va_K D vwCl tys s) (t0 : Nat) (ht : tys[t0]? = some (cI, .int)) (hP : va_P D vwCl ws H) (hD : va_D A ws) (hS : va_S A H0 H locs) (hA : ∀ q, H0.size ≤ q → A q)
    {x : Int32} {N : Nat} (hn : ¬ x < 0) (hN : x.toNatClampNeg = N) (hB : N ≤ 134217728) (hcells : cells + 1 ≤ R.cells) (hslots : slots + N ≤ R.slots) (hdg : decode cc pc = .ok (.newarray .int, 2))
    (kk : ∀ (q : Nat) (H1 : Heap), va_P D vwCl (ws ++ [(q, .inl (cI, N, .inl (fun _ => 0)))]) H1 → va_D A (ws ++ [(q, .inl (cI, N, .inl (fun _ => 0)))]) → va_S A H0 H1 locs → W p l e R s m args below meth c H1 locs (cells + 1) (slots + N) Q (F0 m (pc + 2) ls (.ref q :: rest))) : W p l e R s m args below meth c H locs cells slots Q (F0 m pc ls (.int x :: rest)) := by
  refine va_newa (atype := .int) (ty := .int) (a0 := (N, .inl fun _ => 0)) hexec hb (hT _ harr) rfl hK hP hD hS hA (fun cA => rfl) hn hN (by show N * 4 ≤ 536870912; omega) hcells hslots hdg (fun q cA H1 hK1 hP1 hD1 hS1 => ?_)
  have e1 : cA = cI := by
    have h1 := (hK1.2 tys.length (cA, .int) (by simp)).2
    have h2 := (hK.2 t0 (cI, .int) ht).2
    exact Option.some.inj ((va_nm_int h1).symm.trans (va_nm_int h2))
  subst e1
  exact kk q H1 hP1 hD1 hS1
theorem zz_newb {cB : ClassId} (hexec : p.tables.exec = Jvm.exec) (hb : c.code = cc) (hT : ∀ w ∈ zz_all, w.before args s = true) (harr : Cond.arrayClass .byte ∈ zz_all) (hK : va_K D vwCl tys s) (t0 : Nat) (ht : tys[t0]? = some (cB, .byte)) (hP : va_P D vwCl ws H) (hD : va_D A ws) (hS : va_S A H0 H locs) (hA : ∀ q, H0.size ≤ q → A q)
    {x : Int32} {N : Nat} (hn : ¬ x < 0) (hN : x.toNatClampNeg = N) (hB : N ≤ 134217728) (hcells : cells + 1 ≤ R.cells) (hslots : slots + N ≤ R.slots) (hdg : decode cc pc = .ok (.newarray .byte, 2))
    (kk : ∀ (q : Nat) (H1 : Heap), va_P D vwCl (ws ++ [(q, .inl (cB, N, .inl (fun _ => 0)))]) H1 → va_D A (ws ++ [(q, .inl (cB, N, .inl (fun _ => 0)))]) → va_S A H0 H1 locs → W p l e R s m args below meth c H1 locs (cells + 1) (slots + N) Q (F0 m (pc + 2) ls (.ref q :: rest))) : W p l e R s m args below meth c H locs cells slots Q (F0 m pc ls (.int x :: rest)) := by
  refine va_newa (atype := .byte) (ty := .byte) (a0 := (N, .inl fun _ => 0)) hexec hb (hT _ harr) rfl hK hP hD hS hA (fun cA => rfl) hn hN (by show N * 1 ≤ 536870912; omega) hcells hslots hdg (fun q cA H1 hK1 hP1 hD1 hS1 => ?_)
  have e1 : cA = cB := by
    have h1 := (hK1.2 tys.length (cA, .byte) (by simp)).2
    have h2 := (hK.2 t0 (cB, .byte) ht).2
    exact Option.some.inj ((va_nm_byte h1).symm.trans (va_nm_byte h2))
  subst e1
  exact kk q H1 hP1 hD1 hS1
/-- a world's start, and a word of the tables more -/
def zz_pz (D : va_G) (tys : List (ClassId × FieldType)) (ws : va_W) (sz : Nat) (Z : State → Prop) : State → Prop := fun U => zz_pw D tys ws sz U ∧ Z U
def zz_Zok (s : State) (Z : State → Prop) : Prop := (∀ U : State, s.WarmedH U.vm → Z U) ∧ ∀ U V : State, U.vm = V.vm → Z U → Z V
theorem zz_pz_blind {av : List Value} {sz : Nat} {Z : State → Prop} (hZ : ∀ U V : State, U.vm = V.vm → Z U → Z V) : FrameBlind (va_Pc av (zz_pz D tys ws sz Z)) := fun a U g mk q => by
  obtain ⟨q0, q1, q2⟩ := q
  obtain ⟨q3, q4⟩ := zz_pw_blind (av := av) (D := D) (tys := tys) (ws := ws) (sz := sz) a U g mk ⟨q0, q1⟩
  exact ⟨q0, q4, hZ U _ rfl q2⟩
/-- what the tables say of a constructor that is called -/
def zz_Mc (y : MethodName) (bytes : ByteArray) (maxL : Nat) (n : Nat) : Prop :=
  Cond.instanceMethod y ∈ zz_all ∧ Cond.initialized y.cls ∈ zz_all ∧ Cond.code y bytes maxL none ∈ zz_all ∧ y.name = "<init>" ∧ (y.cls ≠ "java/lang/invoke/MethodHandle" ∧ y.cls ≠ "java/lang/invoke/VarHandle" ∧ (parseMethodDescriptor y.desc).map (fun d => d.parameters.length) = some n)
theorem zz_Iv {S : Type} {post : S → Prop} {wn : S → va_W} {Z : State → Prop} {mc ms : Nat} (X : CallFix p m c cc nL s args (cd :: zz_all) own) (hK : va_K D vwCl tys s) (hP : va_P D vwCl ws H) (hD : va_D A ws) (hS : va_S A H0 H locs) (hA : ∀ q, H0.size ≤ q → A q)
    (hM : Met l y (zz_ws y bytes maxL none) rm (va_Pc (.ref b :: As) (zz_pz D tys wc H.size Z)) (va_Qv post (zz_qw D wn (va_A wc H.size)) (va_A wc H.size)) mc ms (va_A wc H.size)) (hrm : rm.cells = mc ∧ rm.slots = ms) (hZ : zz_Zok s Z)
    (hm : zz_Mc y bytes maxL n) (hl : Cond.methodLink own index y ∈ zz_all) (hR : rm.frames + 1 ≤ R.frames ∧ 8 + (maxL + 11) + rm.locals ≤ R.locals)
    (isC isR : List Nat) (hC : isC.map (fun i => ws[i]?) = wc.map some) (hRr : isR.map (fun i => ws[i]?) = wr.map some) (hnC : va_nd isC = true) (hnR : va_nd isR = true) (hdis : ∀ i ∈ isR, i ∉ isC)
    (hn : As.length = n) (hsize : ls.size = nL) (hst : st0 = As.reverse ++ .ref b :: rest) (hW : (rest.map fun v => v.category).sum ≤ 8) (hdg : decode cc pc = .ok (.invokespecial index, 3)) (hf : cells + mc ≤ R.cells ∧ slots + ms ≤ R.slots)
    (kk : ∀ (u : S) (H1 : Heap) (locs1 : List Loc), post u → va_P D vwCl (wr ++ wn u) H1 → va_D A (wr ++ wn u) → va_S A H0 H1 locs1 → W p l e R s m args below meth c H1 locs1 (cells + mc) (slots + ms) Q (F0 m (pc + 3) ls rest)) : W p l e R s m args below meth c H locs cells slots Q (F0 m pc ls st0) := by
  obtain ⟨h1, h2, h3, h4, h5⟩ := hm
  have hu := zz_hts X.2.2.2.2
  have cw : CallB R s args own index y bytes maxL none (zz_ws y bytes maxL none) rm mc ms n ∧ y.name = "<init>" ∧ (Cond.instanceMethod y).before args s = true :=
    ⟨callB_of n X.2.2.2.2 (zz_good h3) rfl hrm.1 hrm.2 (hu _ h2) (hu _ hl) h5 hR, h4, hu _ h1⟩
  have hF := va_free (wc := wc) hD hS hA isC hC
  refine va_callv (va_runI X hM cw ⟨zz_pz_blind hZ.2, fun U hU hW1 => by
    obtain ⟨g1, g2⟩ := zz_pw_at hK (hP.sub isC (zz_filt isC hC)) (hD.sub isC hnC hC) (.ref b :: As) U hU hW1
    exact ⟨g1, g2, hZ.1 U hW1⟩⟩ rfl hn hsize hst (lv_room hW) hdg hf) hS (fun q _ h => hF q h) hF (fun u t H1 locs1 ht hvm hw hB hz1 hk1 hS1 => ?_)
  obtain ⟨hP1, hD1⟩ := hB
  rw [ht] at hP1
  obtain ⟨hP2, hD2⟩ := va_join (wr := wr) (w1 := wn u) hP hD isC isR hC hRr hnR hdis hk1 hF hP1 hD1
  exact kk u H1 locs1 hw hP2 hD2 hS1
theorem zz_In {S : Type} {post : S → Prop} {wn : S → va_W} {Z : State → Prop} {mc ms : Nat} (X : CallFix p m c cc nL s args (cd :: zz_all) own) (hK : va_K D vwCl tys s) (hP : va_P D vwCl ws H) (hD : va_D A ws) (hS : va_S A H0 H locs) (hA : ∀ q, H0.size ≤ q → A q)
    (hM : Met l y (zz_ws y bytes maxL none) rm (va_Pc (.ref b :: As) (zz_pz D tys wc H.size Z)) (va_Qv post (zz_qw D wn (va_A wc H.size)) (va_A wc H.size)) mc ms (va_A wc H.size)) (hrm : rm.cells = mc ∧ rm.slots = ms) (hZ : zz_Zok s Z)
    (hm : zz_Mc y bytes maxL n) (hl : va_Nw (.methodLinkNest own index y host) s) (hR : rm.frames + 1 ≤ R.frames ∧ 8 + (maxL + 11) + rm.locals ≤ R.locals)
    (isC isR : List Nat) (hC : isC.map (fun i => ws[i]?) = wc.map some) (hRr : isR.map (fun i => ws[i]?) = wr.map some) (hnC : va_nd isC = true) (hnR : va_nd isR = true) (hdis : ∀ i ∈ isR, i ∉ isC)
    (hn : As.length = n) (hsize : ls.size = nL) (hst : st0 = As.reverse ++ .ref b :: rest) (hW : (rest.map fun v => v.category).sum ≤ 8) (hdg : decode cc pc = .ok (.invokespecial index, 3)) (hf : cells + mc ≤ R.cells ∧ slots + ms ≤ R.slots)
    (kk : ∀ (u : S) (H1 : Heap) (locs1 : List Loc), post u → va_P D vwCl (wr ++ wn u) H1 → va_D A (wr ++ wn u) → va_S A H0 H1 locs1 → W p l e R s m args below meth c H1 locs1 (cells + mc) (slots + ms) Q (F0 m (pc + 3) ls rest)) : W p l e R s m args below meth c H locs cells slots Q (F0 m pc ls st0) := by
  obtain ⟨h1, h2, h3, h4, h5⟩ := hm
  have hu := zz_hts X.2.2.2.2
  have cw := va_cnB (R := R) (rm := rm) (mc := mc) (ms := ms) n X.2.2.2.2 (zz_good h3) rfl hrm.1 hrm.2 hl (hu _ h2) h5 hR
  have hF := va_free (wc := wc) hD hS hA isC hC
  refine va_callv (va_runIN X hM ⟨cw, h4, hu _ h1⟩ ⟨zz_pz_blind hZ.2, fun U hU hW1 => by
    obtain ⟨g1, g2⟩ := zz_pw_at hK (hP.sub isC (zz_filt isC hC)) (hD.sub isC hnC hC) (.ref b :: As) U hU hW1
    exact ⟨g1, g2, hZ.1 U hW1⟩⟩ rfl hn hsize hst (lv_room hW) hdg hf) hS (fun q _ h => hF q h) hF (fun u t H1 locs1 ht hvm hw hB hz1 hk1 hS1 => ?_)
  obtain ⟨hP1, hD1⟩ := hB
  rw [ht] at hP1
  obtain ⟨hP2, hD2⟩ := va_join (wr := wr) (w1 := wn u) hP hD isC isR hC hRr hnR hdis hk1 hF hP1 hD1
  exact kk u H1 locs1 hw hP2 hD2 hS1
end ZC

