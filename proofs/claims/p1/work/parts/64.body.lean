/-! THE CLAIM OUT OF ONE WALK OF THE LAW'S BODY. Your part is whole_start (and what it stands on); all else here is the same for every law, but numbers. -/
def R_law : String := "DelayCoreLaw"
def lw_P (b : Addr) (xs : List Int32) (args : Array Value) (s : State) : Prop := args = #[.ref b] ∧ s.IntsAt b xs ∧ xs.length ≤ 4 ∧ (Jvm.Cond.and given_1 narrow_1).before args s = true
def lw_Q (_ : Array Value) (s : State) (o : Outcome) (t : State) : Prop := o = .returned (some (.int 1)) ∧ Framed s o t [] 600002 7302198
def lw_Z (below : List Frame) (a : Array Value) (s : State) : State → Prop := fun t => ∃ o, t.status = .running ∧ Ended t below o ∧ lw_Q a s o t
/-- the law's own end, with 1 on the stack, nothing written that was there before, its room as the claim has it -/
theorem lw_ret {p : Program} {l : Launch} {e : Env} {s : State} {m : MethodId} {below : List Frame} {meth : Method} {c : Code} {b : Nat} (hx : p.tables.exec = Jvm.exec) (hb : c.code = code) (hr : meth.sig.returnType = ret) (hlocks : meth.locks = false) {pc : Nat} {H : Heap} {ls : Array Slot} (hdg : decode code pc = .ok (.ireturn, 1)) : W p l e room_1 s m #[Value.ref b] below meth c H [] 600002 7302198 (lw_Z below #[Value.ref b] s) (F0 m pc ls [.int 1]) := by
  intro T hT X
  obtain ⟨fs, hret, hrun, hended, hW, hframe⟩ := X.leave (v := some (.int 1)) (hlocks := hlocks) (fun h => by rw [hr] at h; cases h)
  have hmeth' : T.vm.method? m = some meth := X.method'
  refine ⟨T.setFrames fs, ?_, .returned (some (.int 1)), hrun, hended, rfl, ⟨_, rfl⟩, hW, hframe⟩
  jvm_step X.here [X.here.top, hx, hb, hdg, hmeth', hr, ret, narrow_b1]
  (try refine ⟨rfl, ?_⟩); (try refine ⟨rfl, ?_⟩)
  first | (intro acts; rw [hret _ acts rfl rfl rfl]) | rw [hret _ _ rfl rfl rfl]
  exact Steps.refl _
/-- what holds at the law's entry: the machine, the code, the tables' words (any of lw_tbl by 'hts w (by decide +kernel)'), the script of L ints xs at the cell b, what the Statement gives of the start (any of its parts by flat_of_before) -/
def lw_At (p : Program) (s : State) (m : MethodId) (meth : Method) (c : Code) (b L : Nat) (xs : Nat → Int32) : Prop :=
  p.tables.exec = Jvm.exec ∧ c.code = code ∧ meth.sig.returnType = ret ∧ c.maxLocals = 7 ∧ s.vm.findClass R_law = some m.cls ∧ (∀ w ∈ lw_tbl, w.before #[Value.ref b] s = true) ∧ va_X b L xs s s.heap ∧ b < s.heap.size ∧ meth.locks = false ∧ (Jvm.Cond.and given_1 narrow_1).before #[Value.ref b] s = true
/-! ===== calls of the law's own methods with handlers ===== -/
def zz_Mw (y : MethodName) (bytes : ByteArray) (maxL : Nat) (ret : Option FieldType) (hh : List (Nat × Nat × Nat × Nat)) (n : Nat) : Prop :=
  Cond.static y ∈ zz_all ∧ Cond.initialized y.cls ∈ zz_all ∧ Cond.codeWith y bytes maxL ret hh ∈ zz_all ∧ (y.cls ≠ "java/lang/invoke/MethodHandle" ∧ y.cls ≠ "java/lang/invoke/VarHandle" ∧ (parseMethodDescriptor y.desc).map (fun d => d.parameters.length) = some n)
theorem zz_nc.warm {s U : State} (hW : s.WarmedH U.vm) (h : zz_nc s) : zz_nc U := ⟨va_Nc.moved hW.alike h.1, va_Nc.moved hW.alike h.2⟩
section ZL
variable {p : Program} {l : Launch} {e : Env} {R : Room} {s : State} {m : MethodId} {args : Array Value} {below : List Frame} {meth : Method} {c : Code} {H : Heap} {locs : List Loc} {cells slots : Nat} {Q : State → Prop}
variable {cc bytes : ByteArray} {pc nL maxL n index : Nat} {ls : Array Slot} {rest st0 As : List Value} {D : va_G} {A : Nat → Prop} {tys : List (ClassId × FieldType)} {ws wc wr : va_W} {own : String} {cd : Cond} {y : MethodName} {ret : Option FieldType} {rm : Room} {hh : List (Nat × Nat × Nat × Nat)}
theorem zz_pl_blind {av : List Value} {sz : Nat} : FrameBlind (va_Pc av (zz_pl D tys ws sz)) := fun a U g mk q => by
  obtain ⟨q0, q1, q2⟩ := q
  obtain ⟨q3, q4⟩ := zz_px_blind (av := av) (D := D) (tys := tys) (ws := ws) (sz := sz) a U g mk ⟨q0, q1⟩
  exact ⟨q0, q4, q2⟩
theorem zz_SWi {S : Type} {post : Int32 → S → Prop} {wn : S → va_W} (X : CallFix p m c cc nL s args (cd :: zz_all) own) (hK : va_K D vwCl tys s) (hP : va_P D vwCl ws H) (hD : va_D A ws) (hS : va_S A s.heap H locs) (hA : ∀ q, s.heap.size ≤ q → A q) (hE : zz_ex A s s.heap) (hNc : zz_nc s)
    (hM : Met l y (Cond.codeWith y bytes maxL ret hh :: zz_all) rm (va_Pc As (zz_pl D tys wc H.size)) (va_Qi post (zz_qw D wn (va_A wc H.size)) (va_A wc H.size)) 1 6 (va_A wc H.size)) (hrm : rm.cells = 1 ∧ rm.slots = 6)
    (hm : zz_Mw y bytes maxL ret hh n) (hl : Cond.methodLink own index y ∈ zz_all) (hR : rm.frames + 1 ≤ R.frames ∧ 8 + (maxL + 11) + rm.locals ≤ R.locals)
    (isC isR : List Nat) (hC : isC.map (fun i => ws[i]?) = wc.map some) (hRr : isR.map (fun i => ws[i]?) = wr.map some) (hnC : va_nd isC = true) (hnR : va_nd isR = true) (hdis : ∀ i ∈ isR, i ∉ isC)
    (hn : As.length = n) (hsize : ls.size = nL) (hst : st0 = As.reverse ++ rest) (hW : (rest.map fun v => v.category).sum ≤ 8) (hdg : decode cc pc = .ok (.invokestatic index, 3)) (hf : cells + 1 ≤ R.cells ∧ slots + 6 ≤ R.slots)
    (kk : ∀ (r : Int32) (u : S) (H1 : Heap) (locs1 : List Loc), post r u → va_P D vwCl (wr ++ wn u) H1 → va_D A (wr ++ wn u) → va_S A s.heap H1 locs1 → W p l e R s m args below meth c H1 locs1 (cells + 1) (slots + 6) Q (F0 m (pc + 3) ls (.int r :: rest))) : W p l e R s m args below meth c H locs cells slots Q (F0 m pc ls st0) := by
  obtain ⟨h1, h2, h3, h5⟩ := hm
  have hu := zz_hts X.2.2.2.2
  have cw : vx_CSW R s args own index y bytes maxL ret hh (Cond.codeWith y bytes maxL ret hh :: zz_all) rm 1 6 n :=
    ⟨⟨hrm.1, hrm.2, hR.1, hR.2, pay_in X.2.2.2.2 (zz_good h3), List.mem_cons_self⟩, hu _ h3, hu _ h2, ⟨h5.1, h5.2.1⟩, fun sig hs => by
      have h9 := h5.2.2
      rw [hs] at h9
      exact (Option.some.inj h9).symm, hu _ hl, hu _ h1⟩
  have hF := va_free (wc := wc) hD hS hA isC hC
  have hE1 : zz_ex (va_A wc H.size) s H := (hE.kept (fun q h1 h2 => hS.2.1 q h1 h2)).narrow hF
  have hpre : ∀ U : State, U.heap = H → s.WarmedH U.vm → va_Pc As (zz_pl D tys wc H.size) As.toArray U := fun U hU hW1 => by
    obtain ⟨g1, g2⟩ := zz_pw_at hK (hP.sub isC (zz_filt isC hC)) (hD.sub isC hnC hC) As U hU hW1
    exact ⟨g1, ⟨g2, by rw [hU]; exact hE1.warm hW1⟩, hNc.warm hW1⟩
  refine va_calli (vx_runSW X hM cw ⟨zz_pl_blind, hpre⟩ rfl hn hsize hst (lv_room hW) hdg hf) hS (fun q _ h => hF q h) hF (fun r u t H1 locs1 ht hvm hw hB hz1 hk1 hS1 => ?_)
  obtain ⟨hP1, hD1⟩ := hB
  rw [ht] at hP1
  obtain ⟨hP2, hD2⟩ := va_join (wr := wr) (w1 := wn u) hP hD isC isR hC hRr hnR hdis hk1 hF hP1 hD1
  exact kk r u H1 locs1 hw hP2 hD2 hS1
end ZL
def wA (qx : Nat) (qc : Nat) (qp : Nat) (qr : Nat) (qh : Nat) (qm : Nat) (qw : Nat) (qu : Nat) (qf : Nat) (ql : Nat) (qo : Nat) (eqd : Nat) (eqmemory : Nat) (eqr : Nat) (eqcounts : Nat) (cI : ClassId) (cJ : ClassId) (cB : ClassId) (ms : Int32) (mn : Nat) (ms2 : Int32) (g : Nat → Int32) (rg : Nat → Int32) (hq : Nat → Int32) (mf : Nat → Int32) (cd : Int32) (fg : Nat → Int32) (L : Int32 × Int32 × Int32 × Int64) (O : Int32 × Int32 × Int32 × Int64) (ov : Nat → Int64) (ddd : Nat → Int32) (dLwhole : Int64) (dLwhole2 : Int64) (dbm : Nat → Int32) (drr : Nat → Int32) (dkt : Nat → Int32) : va_W := [(qx, .inl (cJ, 1, .inr (.inl ov))), (qc, .inr (5, [.ref qm, .ref qp])), (qp, .inr (4, [.ref qm, .ref qr, .ref qh, .ref qu, .int (g 0), .int (g 1), .int (g 2), .int (g 3), .int (g 4), .int (g 5), .int (g 6), .int (g 7), .int (g 8), .int (g 9), .int (g 10), .int (g 11)])), (qr, .inl (cI, 32, .inl rg)), (qh, .inr (2, [.int (hq 0), .int (hq 1), .int (hq 2), .int (hq 3)])), (qm, .inr (3, [.int ms, .ref qw])), (qw, .inl (cI, mn, .inl mf)), (qu, .inr (1, [.ref qf, .int cd, .ref ql, .ref qo])), (qf, .inl (cI, 32, .inl fg)), (ql, .inr (0, [.int L.1, .int L.2.1, .int L.2.2.1, .long L.2.2.2])), (qo, .inr (0, [.int O.1, .int O.2.1, .int O.2.2.1, .long O.2.2.2])), (eqd, .inr (6, [.int (ddd 0), .ref eqmemory, .int ms2, .ref eqr, .int (ddd 1), .int (ddd 2), .int (ddd 3), .int (ddd 4), .int (ddd 5), .int (ddd 6), .int (ddd 7), .int (ddd 8), .ref eqcounts, .int (ddd 9), .int (ddd 10), .int (ddd 11), .int (ddd 12), .int (ddd 13), .int (ddd 14), .int (ddd 15), .int (ddd 16), .int (ddd 17), .int (ddd 18), .int (ddd 19), .long dLwhole, .long dLwhole2])), (eqmemory, .inl (cB, 262144, .inl dbm)), (eqr, .inl (cI, 67, .inl drr)), (eqcounts, .inl (cI, 5, .inl dkt))]
theorem d_law_0 : decode code 0 = .ok (.new 8, 3) := by decide +kernel
theorem d_law_3 : decode code 3 = .ok (.dup, 1) := by decide +kernel
theorem d_law_4 : decode code 4 = .ok (.aload_n 0, 1) := by decide +kernel
theorem d_law_5 : decode code 5 = .ok (.iconst 0, 1) := by decide +kernel
theorem d_law_6 : decode code 6 = .ok (.invokestatic 42, 3) := by decide +kernel
theorem d_law_9 : decode code 9 = .ok (.invokespecial 48, 3) := by decide +kernel
theorem d_law_12 : decode code 12 = .ok (.astore_n 1, 1) := by decide +kernel
theorem d_law_13 : decode code 13 = .ok (.new 51, 3) := by decide +kernel
theorem d_law_16 : decode code 16 = .ok (.dup, 1) := by decide +kernel
theorem d_law_17 : decode code 17 = .ok (.aload_n 0, 1) := by decide +kernel
theorem d_law_18 : decode code 18 = .ok (.iconst 0, 1) := by decide +kernel
theorem d_law_19 : decode code 19 = .ok (.invokestatic 42, 3) := by decide +kernel
theorem d_law_22 : decode code 22 = .ok (.invokespecial 53, 3) := by decide +kernel
theorem d_law_25 : decode code 25 = .ok (.astore_n 2, 1) := by decide +kernel
theorem d_law_26 : decode code 26 = .ok (.iconst 1, 1) := by decide +kernel
theorem d_law_27 : decode code 27 = .ok (.newarray .long, 2) := by decide +kernel
theorem d_law_29 : decode code 29 = .ok (.astore_n 3, 1) := by decide +kernel
theorem d_law_30 : decode code 30 = .ok (.iconst 1, 1) := by decide +kernel
theorem d_law_31 : decode code 31 = .ok (.istore 4, 2) := by decide +kernel
theorem d_law_33 : decode code 33 = .ok (.iload 4, 2) := by decide +kernel
theorem d_law_35 : decode code 35 = .ok (.aload_n 0, 1) := by decide +kernel
theorem d_law_36 : decode code 36 = .ok (.arraylength, 1) := by decide +kernel
theorem d_law_37 : decode code 37 = .ok (.iconst 3, 1) := by decide +kernel
theorem d_law_38 : decode code 38 = .ok (.isub, 1) := by decide +kernel
theorem d_law_39 : decode code 39 = .ok (.if_icmp .gt 540, 3) := by decide +kernel
theorem d_law_42 : decode code 42 = .ok (.aload_n 0, 1) := by decide +kernel
theorem d_law_43 : decode code 43 = .ok (.iload 4, 2) := by decide +kernel
theorem d_law_45 : decode code 45 = .ok (.iaload, 1) := by decide +kernel
theorem d_law_46 : decode code 46 = .ok (.bipush 15, 2) := by decide +kernel
theorem d_law_48 : decode code 48 = .ok (.iand, 1) := by decide +kernel
theorem d_law_49 : decode code 49 = .ok (.tableswitch 524 0 8 #[51, 119, 175, 231, 299, 355, 411, 424, 468], 51) := by decide +kernel
theorem d_law_100 : decode code 100 = .ok (.aload_n 1, 1) := by decide +kernel
theorem d_law_101 : decode code 101 = .ok (.aload_n 0, 1) := by decide +kernel
theorem d_law_102 : decode code 102 = .ok (.iload 4, 2) := by decide +kernel
theorem d_law_104 : decode code 104 = .ok (.iconst 1, 1) := by decide +kernel
theorem d_law_105 : decode code 105 = .ok (.iadd, 1) := by decide +kernel
theorem d_law_106 : decode code 106 = .ok (.iaload, 1) := by decide +kernel
theorem d_law_107 : decode code 107 = .ok (.aload_n 0, 1) := by decide +kernel
theorem d_law_108 : decode code 108 = .ok (.iload 4, 2) := by decide +kernel
theorem d_law_110 : decode code 110 = .ok (.iconst 2, 1) := by decide +kernel
theorem d_law_111 : decode code 111 = .ok (.iadd, 1) := by decide +kernel
theorem d_law_112 : decode code 112 = .ok (.iaload, 1) := by decide +kernel
theorem d_law_113 : decode code 113 = .ok (.aload_n 3, 1) := by decide +kernel
theorem d_law_114 : decode code 114 = .ok (.invokestatic 54, 3) := by decide +kernel
theorem d_law_117 : decode code 117 = .ok (.istore 5, 2) := by decide +kernel
theorem d_law_119 : decode code 119 = .ok (.aload_n 2, 1) := by decide +kernel
theorem d_law_120 : decode code 120 = .ok (.aload_n 0, 1) := by decide +kernel
theorem d_law_121 : decode code 121 = .ok (.iload 4, 2) := by decide +kernel
theorem d_law_123 : decode code 123 = .ok (.iconst 1, 1) := by decide +kernel
theorem d_law_124 : decode code 124 = .ok (.iadd, 1) := by decide +kernel
theorem d_law_125 : decode code 125 = .ok (.iaload, 1) := by decide +kernel
theorem d_law_126 : decode code 126 = .ok (.aload_n 0, 1) := by decide +kernel
theorem d_law_127 : decode code 127 = .ok (.iload 4, 2) := by decide +kernel
theorem d_law_129 : decode code 129 = .ok (.iconst 2, 1) := by decide +kernel
theorem d_law_130 : decode code 130 = .ok (.iadd, 1) := by decide +kernel
theorem d_law_131 : decode code 131 = .ok (.iaload, 1) := by decide +kernel
theorem d_law_132 : decode code 132 = .ok (.invokevirtual 57, 3) := by decide +kernel
theorem d_law_135 : decode code 135 = .ok (.istore 6, 2) := by decide +kernel
theorem d_law_137 : decode code 137 = .ok (.aload_n 2, 1) := by decide +kernel
theorem d_law_138 : decode code 138 = .ok (.invokevirtual 58, 3) := by decide +kernel
theorem d_law_141 : decode code 141 = .ok (.iload 5, 2) := by decide +kernel
theorem d_law_143 : decode code 143 = .ok (.if_icmp .eq 5, 3) := by decide +kernel
theorem d_law_146 : decode code 146 = .ok (.iconst 0, 1) := by decide +kernel
theorem d_law_147 : decode code 147 = .ok (.ireturn, 1) := by decide +kernel
theorem d_law_148 : decode code 148 = .ok (.iload 5, 2) := by decide +kernel
theorem d_law_150 : decode code 150 = .ok (.ifCond .ne 15, 3) := by decide +kernel
theorem d_law_153 : decode code 153 = .ok (.aload_n 3, 1) := by decide +kernel
theorem d_law_154 : decode code 154 = .ok (.iconst 0, 1) := by decide +kernel
theorem d_law_155 : decode code 155 = .ok (.laload, 1) := by decide +kernel
theorem d_law_156 : decode code 156 = .ok (.iload 6, 2) := by decide +kernel
theorem d_law_158 : decode code 158 = .ok (.i2l, 1) := by decide +kernel
theorem d_law_159 : decode code 159 = .ok (.lcmp, 1) := by decide +kernel
theorem d_law_160 : decode code 160 = .ok (.ifCond .eq 5, 3) := by decide +kernel
theorem d_law_163 : decode code 163 = .ok (.iconst 0, 1) := by decide +kernel
theorem d_law_164 : decode code 164 = .ok (.ireturn, 1) := by decide +kernel
theorem d_law_165 : decode code 165 = .ok (.goto 408, 3) := by decide +kernel
theorem d_law_168 : decode code 168 = .ok (.aload_n 1, 1) := by decide +kernel
theorem d_law_169 : decode code 169 = .ok (.aload_n 0, 1) := by decide +kernel
theorem d_law_170 : decode code 170 = .ok (.iload 4, 2) := by decide +kernel
theorem d_law_172 : decode code 172 = .ok (.iconst 1, 1) := by decide +kernel
theorem d_law_173 : decode code 173 = .ok (.iadd, 1) := by decide +kernel
theorem d_law_174 : decode code 174 = .ok (.iaload, 1) := by decide +kernel
theorem d_law_175 : decode code 175 = .ok (.aload_n 3, 1) := by decide +kernel
theorem d_law_176 : decode code 176 = .ok (.invokestatic 61, 3) := by decide +kernel
theorem d_law_179 : decode code 179 = .ok (.istore 5, 2) := by decide +kernel
theorem d_law_181 : decode code 181 = .ok (.aload_n 2, 1) := by decide +kernel
theorem d_law_182 : decode code 182 = .ok (.aload_n 0, 1) := by decide +kernel
theorem d_law_183 : decode code 183 = .ok (.iload 4, 2) := by decide +kernel
theorem d_law_185 : decode code 185 = .ok (.iconst 1, 1) := by decide +kernel
theorem d_law_186 : decode code 186 = .ok (.iadd, 1) := by decide +kernel
theorem d_law_187 : decode code 187 = .ok (.iaload, 1) := by decide +kernel
theorem d_law_188 : decode code 188 = .ok (.invokevirtual 64, 3) := by decide +kernel
theorem d_law_191 : decode code 191 = .ok (.istore 6, 2) := by decide +kernel
theorem d_law_193 : decode code 193 = .ok (.aload_n 2, 1) := by decide +kernel
theorem d_law_194 : decode code 194 = .ok (.invokevirtual 58, 3) := by decide +kernel
theorem d_law_197 : decode code 197 = .ok (.iload 5, 2) := by decide +kernel
theorem d_law_199 : decode code 199 = .ok (.if_icmp .eq 5, 3) := by decide +kernel
theorem d_law_202 : decode code 202 = .ok (.iconst 0, 1) := by decide +kernel
theorem d_law_203 : decode code 203 = .ok (.ireturn, 1) := by decide +kernel
theorem d_law_204 : decode code 204 = .ok (.iload 5, 2) := by decide +kernel
theorem d_law_206 : decode code 206 = .ok (.ifCond .ne 15, 3) := by decide +kernel
theorem d_law_209 : decode code 209 = .ok (.aload_n 3, 1) := by decide +kernel
theorem d_law_210 : decode code 210 = .ok (.iconst 0, 1) := by decide +kernel
theorem d_law_211 : decode code 211 = .ok (.laload, 1) := by decide +kernel
theorem d_law_212 : decode code 212 = .ok (.iload 6, 2) := by decide +kernel
theorem d_law_214 : decode code 214 = .ok (.i2l, 1) := by decide +kernel
theorem d_law_215 : decode code 215 = .ok (.lcmp, 1) := by decide +kernel
theorem d_law_216 : decode code 216 = .ok (.ifCond .eq 5, 3) := by decide +kernel
theorem d_law_219 : decode code 219 = .ok (.iconst 0, 1) := by decide +kernel
theorem d_law_220 : decode code 220 = .ok (.ireturn, 1) := by decide +kernel
theorem d_law_221 : decode code 221 = .ok (.goto 352, 3) := by decide +kernel
theorem d_law_224 : decode code 224 = .ok (.aload_n 1, 1) := by decide +kernel
theorem d_law_225 : decode code 225 = .ok (.aload_n 0, 1) := by decide +kernel
theorem d_law_226 : decode code 226 = .ok (.iload 4, 2) := by decide +kernel
theorem d_law_228 : decode code 228 = .ok (.iconst 1, 1) := by decide +kernel
theorem d_law_229 : decode code 229 = .ok (.iadd, 1) := by decide +kernel
theorem d_law_230 : decode code 230 = .ok (.iaload, 1) := by decide +kernel
theorem d_law_231 : decode code 231 = .ok (.aload_n 3, 1) := by decide +kernel
theorem d_law_232 : decode code 232 = .ok (.invokestatic 65, 3) := by decide +kernel
theorem d_law_235 : decode code 235 = .ok (.istore 5, 2) := by decide +kernel
theorem d_law_237 : decode code 237 = .ok (.aload_n 2, 1) := by decide +kernel
theorem d_law_238 : decode code 238 = .ok (.aload_n 0, 1) := by decide +kernel
theorem d_law_239 : decode code 239 = .ok (.iload 4, 2) := by decide +kernel
theorem d_law_241 : decode code 241 = .ok (.iconst 1, 1) := by decide +kernel
theorem d_law_242 : decode code 242 = .ok (.iadd, 1) := by decide +kernel
theorem d_law_243 : decode code 243 = .ok (.iaload, 1) := by decide +kernel
theorem d_law_244 : decode code 244 = .ok (.invokevirtual 67, 3) := by decide +kernel
theorem d_law_247 : decode code 247 = .ok (.istore 6, 2) := by decide +kernel
theorem d_law_249 : decode code 249 = .ok (.aload_n 2, 1) := by decide +kernel
theorem d_law_250 : decode code 250 = .ok (.invokevirtual 58, 3) := by decide +kernel
theorem d_law_253 : decode code 253 = .ok (.iload 5, 2) := by decide +kernel
theorem d_law_255 : decode code 255 = .ok (.if_icmp .eq 5, 3) := by decide +kernel
theorem d_law_258 : decode code 258 = .ok (.iconst 0, 1) := by decide +kernel
theorem d_law_259 : decode code 259 = .ok (.ireturn, 1) := by decide +kernel
theorem d_law_260 : decode code 260 = .ok (.iload 5, 2) := by decide +kernel
theorem d_law_262 : decode code 262 = .ok (.ifCond .ne 15, 3) := by decide +kernel
theorem d_law_265 : decode code 265 = .ok (.aload_n 3, 1) := by decide +kernel
theorem d_law_266 : decode code 266 = .ok (.iconst 0, 1) := by decide +kernel
theorem d_law_267 : decode code 267 = .ok (.laload, 1) := by decide +kernel
theorem d_law_268 : decode code 268 = .ok (.iload 6, 2) := by decide +kernel
theorem d_law_270 : decode code 270 = .ok (.i2l, 1) := by decide +kernel
theorem d_law_271 : decode code 271 = .ok (.lcmp, 1) := by decide +kernel
theorem d_law_272 : decode code 272 = .ok (.ifCond .eq 5, 3) := by decide +kernel
theorem d_law_275 : decode code 275 = .ok (.iconst 0, 1) := by decide +kernel
theorem d_law_276 : decode code 276 = .ok (.ireturn, 1) := by decide +kernel
theorem d_law_277 : decode code 277 = .ok (.goto 296, 3) := by decide +kernel
theorem d_law_280 : decode code 280 = .ok (.aload_n 1, 1) := by decide +kernel
theorem d_law_281 : decode code 281 = .ok (.aload_n 0, 1) := by decide +kernel
theorem d_law_282 : decode code 282 = .ok (.iload 4, 2) := by decide +kernel
theorem d_law_284 : decode code 284 = .ok (.iconst 1, 1) := by decide +kernel
theorem d_law_285 : decode code 285 = .ok (.iadd, 1) := by decide +kernel
theorem d_law_286 : decode code 286 = .ok (.iaload, 1) := by decide +kernel
theorem d_law_287 : decode code 287 = .ok (.aload_n 0, 1) := by decide +kernel
theorem d_law_288 : decode code 288 = .ok (.iload 4, 2) := by decide +kernel
theorem d_law_290 : decode code 290 = .ok (.iconst 2, 1) := by decide +kernel
theorem d_law_291 : decode code 291 = .ok (.iadd, 1) := by decide +kernel
theorem d_law_292 : decode code 292 = .ok (.iaload, 1) := by decide +kernel
theorem d_law_293 : decode code 293 = .ok (.aload_n 3, 1) := by decide +kernel
theorem d_law_294 : decode code 294 = .ok (.invokestatic 68, 3) := by decide +kernel
theorem d_law_297 : decode code 297 = .ok (.istore 5, 2) := by decide +kernel
theorem d_law_299 : decode code 299 = .ok (.aload_n 2, 1) := by decide +kernel
theorem d_law_300 : decode code 300 = .ok (.aload_n 0, 1) := by decide +kernel
theorem d_law_301 : decode code 301 = .ok (.iload 4, 2) := by decide +kernel
theorem d_law_303 : decode code 303 = .ok (.iconst 1, 1) := by decide +kernel
theorem d_law_304 : decode code 304 = .ok (.iadd, 1) := by decide +kernel
theorem d_law_305 : decode code 305 = .ok (.iaload, 1) := by decide +kernel
theorem d_law_306 : decode code 306 = .ok (.aload_n 0, 1) := by decide +kernel
theorem d_law_307 : decode code 307 = .ok (.iload 4, 2) := by decide +kernel
theorem d_law_309 : decode code 309 = .ok (.iconst 2, 1) := by decide +kernel
theorem d_law_310 : decode code 310 = .ok (.iadd, 1) := by decide +kernel
theorem d_law_311 : decode code 311 = .ok (.iaload, 1) := by decide +kernel
theorem d_law_312 : decode code 312 = .ok (.invokevirtual 70, 3) := by decide +kernel
theorem d_law_315 : decode code 315 = .ok (.istore 6, 2) := by decide +kernel
theorem d_law_317 : decode code 317 = .ok (.aload_n 2, 1) := by decide +kernel
theorem d_law_318 : decode code 318 = .ok (.invokevirtual 58, 3) := by decide +kernel
theorem d_law_321 : decode code 321 = .ok (.iload 5, 2) := by decide +kernel
theorem d_law_323 : decode code 323 = .ok (.if_icmp .eq 5, 3) := by decide +kernel
theorem d_law_326 : decode code 326 = .ok (.iconst 0, 1) := by decide +kernel
theorem d_law_327 : decode code 327 = .ok (.ireturn, 1) := by decide +kernel
theorem d_law_328 : decode code 328 = .ok (.iload 5, 2) := by decide +kernel
theorem d_law_330 : decode code 330 = .ok (.ifCond .ne 15, 3) := by decide +kernel
theorem d_law_333 : decode code 333 = .ok (.aload_n 3, 1) := by decide +kernel
theorem d_law_334 : decode code 334 = .ok (.iconst 0, 1) := by decide +kernel
theorem d_law_335 : decode code 335 = .ok (.laload, 1) := by decide +kernel
theorem d_law_336 : decode code 336 = .ok (.iload 6, 2) := by decide +kernel
theorem d_law_338 : decode code 338 = .ok (.i2l, 1) := by decide +kernel
theorem d_law_339 : decode code 339 = .ok (.lcmp, 1) := by decide +kernel
theorem d_law_340 : decode code 340 = .ok (.ifCond .eq 5, 3) := by decide +kernel
theorem d_law_343 : decode code 343 = .ok (.iconst 0, 1) := by decide +kernel
theorem d_law_344 : decode code 344 = .ok (.ireturn, 1) := by decide +kernel
theorem d_law_345 : decode code 345 = .ok (.goto 228, 3) := by decide +kernel
theorem d_law_348 : decode code 348 = .ok (.aload_n 1, 1) := by decide +kernel
theorem d_law_349 : decode code 349 = .ok (.aload_n 0, 1) := by decide +kernel
theorem d_law_350 : decode code 350 = .ok (.iload 4, 2) := by decide +kernel
theorem d_law_352 : decode code 352 = .ok (.iconst 1, 1) := by decide +kernel
theorem d_law_353 : decode code 353 = .ok (.iadd, 1) := by decide +kernel
theorem d_law_354 : decode code 354 = .ok (.iaload, 1) := by decide +kernel
theorem d_law_355 : decode code 355 = .ok (.aload_n 3, 1) := by decide +kernel
theorem d_law_356 : decode code 356 = .ok (.invokestatic 71, 3) := by decide +kernel
theorem d_law_359 : decode code 359 = .ok (.istore 5, 2) := by decide +kernel
theorem d_law_361 : decode code 361 = .ok (.aload_n 2, 1) := by decide +kernel
theorem d_law_362 : decode code 362 = .ok (.aload_n 0, 1) := by decide +kernel
theorem d_law_363 : decode code 363 = .ok (.iload 4, 2) := by decide +kernel
theorem d_law_365 : decode code 365 = .ok (.iconst 1, 1) := by decide +kernel
theorem d_law_366 : decode code 366 = .ok (.iadd, 1) := by decide +kernel
theorem d_law_367 : decode code 367 = .ok (.iaload, 1) := by decide +kernel
theorem d_law_368 : decode code 368 = .ok (.invokevirtual 73, 3) := by decide +kernel
theorem d_law_371 : decode code 371 = .ok (.istore 6, 2) := by decide +kernel
theorem d_law_373 : decode code 373 = .ok (.aload_n 2, 1) := by decide +kernel
theorem d_law_374 : decode code 374 = .ok (.invokevirtual 58, 3) := by decide +kernel
theorem d_law_377 : decode code 377 = .ok (.iload 5, 2) := by decide +kernel
theorem d_law_379 : decode code 379 = .ok (.if_icmp .eq 5, 3) := by decide +kernel
theorem d_law_382 : decode code 382 = .ok (.iconst 0, 1) := by decide +kernel
theorem d_law_383 : decode code 383 = .ok (.ireturn, 1) := by decide +kernel
theorem d_law_384 : decode code 384 = .ok (.iload 5, 2) := by decide +kernel
theorem d_law_386 : decode code 386 = .ok (.ifCond .ne 15, 3) := by decide +kernel
theorem d_law_389 : decode code 389 = .ok (.aload_n 3, 1) := by decide +kernel
theorem d_law_390 : decode code 390 = .ok (.iconst 0, 1) := by decide +kernel
theorem d_law_391 : decode code 391 = .ok (.laload, 1) := by decide +kernel
theorem d_law_392 : decode code 392 = .ok (.iload 6, 2) := by decide +kernel
theorem d_law_394 : decode code 394 = .ok (.i2l, 1) := by decide +kernel
theorem d_law_395 : decode code 395 = .ok (.lcmp, 1) := by decide +kernel
theorem d_law_396 : decode code 396 = .ok (.ifCond .eq 5, 3) := by decide +kernel
theorem d_law_399 : decode code 399 = .ok (.iconst 0, 1) := by decide +kernel
theorem d_law_400 : decode code 400 = .ok (.ireturn, 1) := by decide +kernel
theorem d_law_401 : decode code 401 = .ok (.goto 172, 3) := by decide +kernel
theorem d_law_404 : decode code 404 = .ok (.aload_n 1, 1) := by decide +kernel
theorem d_law_405 : decode code 405 = .ok (.aload_n 0, 1) := by decide +kernel
theorem d_law_406 : decode code 406 = .ok (.iload 4, 2) := by decide +kernel
theorem d_law_408 : decode code 408 = .ok (.iconst 1, 1) := by decide +kernel
theorem d_law_409 : decode code 409 = .ok (.iadd, 1) := by decide +kernel
theorem d_law_410 : decode code 410 = .ok (.iaload, 1) := by decide +kernel
theorem d_law_411 : decode code 411 = .ok (.aload_n 3, 1) := by decide +kernel
theorem d_law_412 : decode code 412 = .ok (.invokestatic 74, 3) := by decide +kernel
theorem d_law_415 : decode code 415 = .ok (.istore 5, 2) := by decide +kernel
theorem d_law_417 : decode code 417 = .ok (.aload_n 2, 1) := by decide +kernel
theorem d_law_418 : decode code 418 = .ok (.aload_n 0, 1) := by decide +kernel
theorem d_law_419 : decode code 419 = .ok (.iload 4, 2) := by decide +kernel
theorem d_law_421 : decode code 421 = .ok (.iconst 1, 1) := by decide +kernel
theorem d_law_422 : decode code 422 = .ok (.iadd, 1) := by decide +kernel
theorem d_law_423 : decode code 423 = .ok (.iaload, 1) := by decide +kernel
theorem d_law_424 : decode code 424 = .ok (.invokevirtual 76, 3) := by decide +kernel
theorem d_law_427 : decode code 427 = .ok (.istore 6, 2) := by decide +kernel
theorem d_law_429 : decode code 429 = .ok (.aload_n 2, 1) := by decide +kernel
theorem d_law_430 : decode code 430 = .ok (.invokevirtual 58, 3) := by decide +kernel
theorem d_law_433 : decode code 433 = .ok (.iload 5, 2) := by decide +kernel
theorem d_law_435 : decode code 435 = .ok (.if_icmp .eq 5, 3) := by decide +kernel
theorem d_law_438 : decode code 438 = .ok (.iconst 0, 1) := by decide +kernel
theorem d_law_439 : decode code 439 = .ok (.ireturn, 1) := by decide +kernel
theorem d_law_440 : decode code 440 = .ok (.iload 5, 2) := by decide +kernel
theorem d_law_442 : decode code 442 = .ok (.ifCond .ne 15, 3) := by decide +kernel
theorem d_law_445 : decode code 445 = .ok (.aload_n 3, 1) := by decide +kernel
theorem d_law_446 : decode code 446 = .ok (.iconst 0, 1) := by decide +kernel
theorem d_law_447 : decode code 447 = .ok (.laload, 1) := by decide +kernel
theorem d_law_448 : decode code 448 = .ok (.iload 6, 2) := by decide +kernel
theorem d_law_450 : decode code 450 = .ok (.i2l, 1) := by decide +kernel
theorem d_law_451 : decode code 451 = .ok (.lcmp, 1) := by decide +kernel
theorem d_law_452 : decode code 452 = .ok (.ifCond .eq 5, 3) := by decide +kernel
theorem d_law_455 : decode code 455 = .ok (.iconst 0, 1) := by decide +kernel
theorem d_law_456 : decode code 456 = .ok (.ireturn, 1) := by decide +kernel
theorem d_law_457 : decode code 457 = .ok (.goto 116, 3) := by decide +kernel
theorem d_law_460 : decode code 460 = .ok (.aload_n 1, 1) := by decide +kernel
theorem d_law_461 : decode code 461 = .ok (.invokevirtual 77, 3) := by decide +kernel
theorem d_law_464 : decode code 464 = .ok (.aload_n 2, 1) := by decide +kernel
theorem d_law_465 : decode code 465 = .ok (.invokevirtual 80, 3) := by decide +kernel
theorem d_law_468 : decode code 468 = .ok (.if_icmp .eq 105, 3) := by decide +kernel
theorem d_law_471 : decode code 471 = .ok (.iconst 0, 1) := by decide +kernel
theorem d_law_472 : decode code 472 = .ok (.ireturn, 1) := by decide +kernel
theorem d_law_473 : decode code 473 = .ok (.aload_n 1, 1) := by decide +kernel
theorem d_law_474 : decode code 474 = .ok (.aload_n 3, 1) := by decide +kernel
theorem d_law_475 : decode code 475 = .ok (.invokestatic 81, 3) := by decide +kernel
theorem d_law_478 : decode code 478 = .ok (.istore 5, 2) := by decide +kernel
theorem d_law_480 : decode code 480 = .ok (.aload_n 2, 1) := by decide +kernel
theorem d_law_481 : decode code 481 = .ok (.invokevirtual 84, 3) := by decide +kernel
theorem d_law_484 : decode code 484 = .ok (.istore 6, 2) := by decide +kernel
theorem d_law_486 : decode code 486 = .ok (.aload_n 2, 1) := by decide +kernel
theorem d_law_487 : decode code 487 = .ok (.invokevirtual 58, 3) := by decide +kernel
theorem d_law_490 : decode code 490 = .ok (.iload 5, 2) := by decide +kernel
theorem d_law_492 : decode code 492 = .ok (.if_icmp .eq 5, 3) := by decide +kernel
theorem d_law_495 : decode code 495 = .ok (.iconst 0, 1) := by decide +kernel
theorem d_law_496 : decode code 496 = .ok (.ireturn, 1) := by decide +kernel
theorem d_law_497 : decode code 497 = .ok (.iload 5, 2) := by decide +kernel
theorem d_law_499 : decode code 499 = .ok (.ifCond .ne 15, 3) := by decide +kernel
theorem d_law_502 : decode code 502 = .ok (.aload_n 3, 1) := by decide +kernel
theorem d_law_503 : decode code 503 = .ok (.iconst 0, 1) := by decide +kernel
theorem d_law_504 : decode code 504 = .ok (.laload, 1) := by decide +kernel
theorem d_law_505 : decode code 505 = .ok (.iload 6, 2) := by decide +kernel
theorem d_law_507 : decode code 507 = .ok (.i2l, 1) := by decide +kernel
theorem d_law_508 : decode code 508 = .ok (.lcmp, 1) := by decide +kernel
theorem d_law_509 : decode code 509 = .ok (.ifCond .eq 5, 3) := by decide +kernel
theorem d_law_512 : decode code 512 = .ok (.iconst 0, 1) := by decide +kernel
theorem d_law_513 : decode code 513 = .ok (.ireturn, 1) := by decide +kernel
theorem d_law_514 : decode code 514 = .ok (.goto 59, 3) := by decide +kernel
theorem d_law_517 : decode code 517 = .ok (.aload_n 1, 1) := by decide +kernel
theorem d_law_518 : decode code 518 = .ok (.aload_n 0, 1) := by decide +kernel
theorem d_law_519 : decode code 519 = .ok (.iload 4, 2) := by decide +kernel
theorem d_law_521 : decode code 521 = .ok (.iconst 1, 1) := by decide +kernel
theorem d_law_522 : decode code 522 = .ok (.iadd, 1) := by decide +kernel
theorem d_law_523 : decode code 523 = .ok (.iaload, 1) := by decide +kernel
theorem d_law_524 : decode code 524 = .ok (.aload_n 3, 1) := by decide +kernel
theorem d_law_525 : decode code 525 = .ok (.invokestatic 85, 3) := by decide +kernel
theorem d_law_528 : decode code 528 = .ok (.istore 5, 2) := by decide +kernel
theorem d_law_530 : decode code 530 = .ok (.aload_n 2, 1) := by decide +kernel
theorem d_law_531 : decode code 531 = .ok (.aload_n 0, 1) := by decide +kernel
theorem d_law_532 : decode code 532 = .ok (.iload 4, 2) := by decide +kernel
theorem d_law_534 : decode code 534 = .ok (.iconst 1, 1) := by decide +kernel
theorem d_law_535 : decode code 535 = .ok (.iadd, 1) := by decide +kernel
theorem d_law_536 : decode code 536 = .ok (.iaload, 1) := by decide +kernel
theorem d_law_537 : decode code 537 = .ok (.invokevirtual 87, 3) := by decide +kernel
theorem d_law_540 : decode code 540 = .ok (.istore 6, 2) := by decide +kernel
theorem d_law_542 : decode code 542 = .ok (.aload_n 2, 1) := by decide +kernel
theorem d_law_543 : decode code 543 = .ok (.invokevirtual 58, 3) := by decide +kernel
theorem d_law_546 : decode code 546 = .ok (.iload 5, 2) := by decide +kernel
theorem d_law_548 : decode code 548 = .ok (.if_icmp .eq 5, 3) := by decide +kernel
theorem d_law_551 : decode code 551 = .ok (.iconst 0, 1) := by decide +kernel
theorem d_law_552 : decode code 552 = .ok (.ireturn, 1) := by decide +kernel
theorem d_law_553 : decode code 553 = .ok (.iload 5, 2) := by decide +kernel
theorem d_law_555 : decode code 555 = .ok (.ifCond .ne 15, 3) := by decide +kernel
theorem d_law_558 : decode code 558 = .ok (.aload_n 3, 1) := by decide +kernel
theorem d_law_559 : decode code 559 = .ok (.iconst 0, 1) := by decide +kernel
theorem d_law_560 : decode code 560 = .ok (.laload, 1) := by decide +kernel
theorem d_law_561 : decode code 561 = .ok (.iload 6, 2) := by decide +kernel
theorem d_law_563 : decode code 563 = .ok (.i2l, 1) := by decide +kernel
theorem d_law_564 : decode code 564 = .ok (.lcmp, 1) := by decide +kernel
theorem d_law_565 : decode code 565 = .ok (.ifCond .eq 5, 3) := by decide +kernel
theorem d_law_568 : decode code 568 = .ok (.iconst 0, 1) := by decide +kernel
theorem d_law_569 : decode code 569 = .ok (.ireturn, 1) := by decide +kernel
theorem d_law_570 : decode code 570 = .ok (.goto 3, 3) := by decide +kernel
theorem d_law_573 : decode code 573 = .ok (.iinc 4 3, 3) := by decide +kernel
theorem d_law_576 : decode code 576 = .ok (.goto (-543), 3) := by decide +kernel
theorem d_law_579 : decode code 579 = .ok (.iconst 1, 1) := by decide +kernel
theorem d_law_580 : decode code 580 = .ok (.ireturn, 1) := by decide +kernel
theorem ms_La_get : zz_Mw y_La_get b_La_get 4 (some .int) [(0, 9, 12, 25), (0, 9, 15, 30)] 3 := ⟨(zz_mem (List.mem_of_getElem? (i := 468) (by decide +kernel)) (by decide +kernel)), (zz_mem (List.mem_of_getElem? (i := 110) (by decide +kernel)) (by decide +kernel)), (zz_mem (List.mem_of_getElem? (i := 469) (by decide +kernel)) (by decide +kernel)), by decide +kernel, by decide +kernel, by decide +kernel⟩
theorem ms_La_go : zz_Mw y_La_go b_La_go 4 (some .int) [(0, 9, 12, 13)] 3 := ⟨(zz_mem (List.mem_of_getElem? (i := 408) (by decide +kernel)) (by decide +kernel)), (zz_mem (List.mem_of_getElem? (i := 110) (by decide +kernel)) (by decide +kernel)), (zz_mem (List.mem_of_getElem? (i := 409) (by decide +kernel)) (by decide +kernel)), by decide +kernel, by decide +kernel, by decide +kernel⟩
theorem ms_La_pass : zz_Mw y_La_pass b_La_pass 3 (some .int) [(0, 8, 11, 30)] 2 := ⟨(zz_mem (List.mem_of_getElem? (i := 886) (by decide +kernel)) (by decide +kernel)), (zz_mem (List.mem_of_getElem? (i := 110) (by decide +kernel)) (by decide +kernel)), (zz_mem (List.mem_of_getElem? (i := 887) (by decide +kernel)) (by decide +kernel)), by decide +kernel, by decide +kernel, by decide +kernel⟩
theorem ms_La_put : zz_Mw y_La_put b_La_put 5 (some .int) [(0, 10, 13, 13)] 4 := ⟨(zz_mem (List.mem_of_getElem? (i := 307) (by decide +kernel)) (by decide +kernel)), (zz_mem (List.mem_of_getElem? (i := 110) (by decide +kernel)) (by decide +kernel)), (zz_mem (List.mem_of_getElem? (i := 308) (by decide +kernel)) (by decide +kernel)), by decide +kernel, by decide +kernel, by decide +kernel⟩
theorem ms_La_run : zz_Mw y_La_run b_La_run 4 (some .int) [(0, 9, 12, 13), (0, 9, 15, 30)] 3 := ⟨(zz_mem (List.mem_of_getElem? (i := 492) (by decide +kernel)) (by decide +kernel)), (zz_mem (List.mem_of_getElem? (i := 110) (by decide +kernel)) (by decide +kernel)), (zz_mem (List.mem_of_getElem? (i := 493) (by decide +kernel)) (by decide +kernel)), by decide +kernel, by decide +kernel, by decide +kernel⟩
theorem ms_La_set : zz_Mw y_La_set b_La_set 5 (some .int) [(0, 10, 13, 25)] 4 := ⟨(zz_mem (List.mem_of_getElem? (i := 424) (by decide +kernel)) (by decide +kernel)), (zz_mem (List.mem_of_getElem? (i := 110) (by decide +kernel)) (by decide +kernel)), (zz_mem (List.mem_of_getElem? (i := 425) (by decide +kernel)) (by decide +kernel)), by decide +kernel, by decide +kernel, by decide +kernel⟩
theorem ms_La_state : zz_Mw y_La_state b_La_state 4 (some .int) [(0, 9, 12, 25)] 3 := ⟨(zz_mem (List.mem_of_getElem? (i := 898) (by decide +kernel)) (by decide +kernel)), (zz_mem (List.mem_of_getElem? (i := 110) (by decide +kernel)) (by decide +kernel)), (zz_mem (List.mem_of_getElem? (i := 899) (by decide +kernel)) (by decide +kernel)), by decide +kernel, by decide +kernel, by decide +kernel⟩
theorem ms_La_word : zz_Mw y_La_word b_La_word 4 (some .int) [(0, 9, 12, 13)] 3 := ⟨(zz_mem (List.mem_of_getElem? (i := 401) (by decide +kernel)) (by decide +kernel)), (zz_mem (List.mem_of_getElem? (i := 110) (by decide +kernel)) (by decide +kernel)), (zz_mem (List.mem_of_getElem? (i := 402) (by decide +kernel)) (by decide +kernel)), by decide +kernel, by decide +kernel, by decide +kernel⟩
theorem k_La_54 : Cond.methodLink R_La 54 y_La_put ∈ zz_all := zz_mem (List.mem_of_getElem? (i := 306) (by decide +kernel)) (by decide +kernel)
theorem k_La_61 : Cond.methodLink R_La 61 y_La_word ∈ zz_all := zz_mem (List.mem_of_getElem? (i := 400) (by decide +kernel)) (by decide +kernel)
theorem k_La_65 : Cond.methodLink R_La 65 y_La_go ∈ zz_all := zz_mem (List.mem_of_getElem? (i := 407) (by decide +kernel)) (by decide +kernel)
theorem k_La_68 : Cond.methodLink R_La 68 y_La_set ∈ zz_all := zz_mem (List.mem_of_getElem? (i := 423) (by decide +kernel)) (by decide +kernel)
theorem k_La_71 : Cond.methodLink R_La 71 y_La_get ∈ zz_all := zz_mem (List.mem_of_getElem? (i := 467) (by decide +kernel)) (by decide +kernel)
theorem k_La_74 : Cond.methodLink R_La 74 y_La_run ∈ zz_all := zz_mem (List.mem_of_getElem? (i := 491) (by decide +kernel)) (by decide +kernel)
theorem k_La_81 : Cond.methodLink R_La 81 y_La_pass ∈ zz_all := zz_mem (List.mem_of_getElem? (i := 885) (by decide +kernel)) (by decide +kernel)
theorem k_La_85 : Cond.methodLink R_La 85 y_La_state ∈ zz_all := zz_mem (List.mem_of_getElem? (i := 897) (by decide +kernel)) (by decide +kernel)
theorem k_La_77 : Cond.methodLink R_La 77 y_Co_end ∈ zz_all := zz_mem (List.mem_of_getElem? (i := 299) (by decide +kernel)) (by decide +kernel)
theorem k_La_57 : Cond.methodLink R_La 57 y_Md_put_III ∈ zz_all := zz_mem (List.mem_of_getElem? (i := 995) (by decide +kernel)) (by decide +kernel)
theorem k_La_58 : Cond.methodLink R_La 58 y_Md_thrown ∈ zz_all := zz_mem (List.mem_of_getElem? (i := 991) (by decide +kernel)) (by decide +kernel)
theorem k_La_64 : Cond.methodLink R_La 64 y_Md_word ∈ zz_all := zz_mem (List.mem_of_getElem? (i := 1015) (by decide +kernel)) (by decide +kernel)
theorem k_La_67 : Cond.methodLink R_La 67 y_Md_go ∈ zz_all := zz_mem (List.mem_of_getElem? (i := 1019) (by decide +kernel)) (by decide +kernel)
theorem k_La_70 : Cond.methodLink R_La 70 y_Md_set ∈ zz_all := zz_mem (List.mem_of_getElem? (i := 1023) (by decide +kernel)) (by decide +kernel)
theorem k_La_73 : Cond.methodLink R_La 73 y_Md_get ∈ zz_all := zz_mem (List.mem_of_getElem? (i := 1027) (by decide +kernel)) (by decide +kernel)
theorem k_La_76 : Cond.methodLink R_La 76 y_Md_run ∈ zz_all := zz_mem (List.mem_of_getElem? (i := 1031) (by decide +kernel)) (by decide +kernel)
theorem k_La_80 : Cond.methodLink R_La 80 y_Md_end ∈ zz_all := zz_mem (List.mem_of_getElem? (i := 1262) (by decide +kernel)) (by decide +kernel)
theorem k_La_84 : Cond.methodLink R_La 84 y_Md_pass ∈ zz_all := zz_mem (List.mem_of_getElem? (i := 1266) (by decide +kernel)) (by decide +kernel)
theorem k_La_87 : Cond.methodLink R_La 87 y_Md_state ∈ zz_all := zz_mem (List.mem_of_getElem? (i := 1271) (by decide +kernel)) (by decide +kernel)
def wl_law (Ln : Nat) (xs : Nat → Int32) (ms : Int32) (mn : Nat) (ms2 : Int32) : Nat → Int32 → (Nat → Int32) → (Nat → Int32) → (Nat → Int32) → (Nat → Int32) → Int32 → (Nat → Int32) → (Int32 × Int32 × Int32 × Int64) → (Int32 × Int32 × Int32 × Int64) → (Nat → Int64) → (Nat → Int32) → Int64 → Int64 → (Nat → Int32) → (Nat → Int32) → (Nat → Int32) → Prop
  | 0, _, _, _, _, _, _, _, _, _, _, _, _, _, _, _, _ => False
  | n + 1, v4, yg, yrg, yhq, ymf, ycd, yfg, yL, yO, yov, yddd, ydLwhole, ydLwhole2, ydbm, ydrr, ydkt => ∀ x_1 : Int32, x_1 = ((Int32.ofNat Ln) - (3 : Int32)) → ((x_1 < v4 → True) ∧ (¬ x_1 < v4 → vp_in v4 Ln ∧ ∀ x_3 : Int32, x_3 = (xs v4.toNatClampNeg) → ((((x_3 &&& (15 : Int32)) = (0 : Int32)) → vp_in (v4 + (1 : Int32)) Ln ∧ ∀ x_5 : Int32, x_5 = (xs (v4 + (1 : Int32)).toNatClampNeg) → vp_in (v4 + (2 : Int32)) Ln ∧ ∀ x_6 : Int32, x_6 = (xs (v4 + (2 : Int32)).toNatClampNeg) → wp_La_put ms mn yg yrg yhq ymf ycd yfg yL yO yov x_5 x_6 (fun r_8 u_7 => vp_in (v4 + (1 : Int32)) Ln ∧ ∀ x_9 : Int32, x_9 = (xs (v4 + (1 : Int32)).toNatClampNeg) → vp_in (v4 + (2 : Int32)) Ln ∧ ∀ x_10 : Int32, x_10 = (xs (v4 + (2 : Int32)).toNatClampNeg) → wp_Md_put_III ms2 yddd ydLwhole ydLwhole2 ydbm ydrr ydkt x_9 x_10 (fun r_12 u_11 => wp_Md_thrown ms2 u_11.1 u_11.2.1 u_11.2.2.1 u_11.2.2.2.1 u_11.2.2.2.2.1 u_11.2.2.2.2.2 (fun r_13 => ((r_13 = r_8 → ((r_8 = (0 : Int32) → ∀ x_17 : Int64, x_17 = (u_7.2 (0 : Int32).toNatClampNeg) → ((x_17 = r_12.toInt64 → ∀ x_19 : Int32, x_19 = v4 + 3 → wl_law Ln xs ms mn ms2 n x_19 u_7.1.1 u_7.1.2.1 u_7.1.2.2.1 u_7.1.2.2.2.1 u_7.1.2.2.2.2.1 u_7.1.2.2.2.2.2.1 u_7.1.2.2.2.2.2.2.1 u_7.1.2.2.2.2.2.2.2 u_7.2 u_11.1 u_11.2.1 u_11.2.2.1 u_11.2.2.2.1 u_11.2.2.2.2.1 u_11.2.2.2.2.2) ∧ (¬ x_17 = r_12.toInt64 → False))) ∧ (¬ r_8 = (0 : Int32) → ∀ x_16 : Int32, x_16 = v4 + 3 → wl_law Ln xs ms mn ms2 n x_16 u_7.1.1 u_7.1.2.1 u_7.1.2.2.1 u_7.1.2.2.2.1 u_7.1.2.2.2.2.1 u_7.1.2.2.2.2.2.1 u_7.1.2.2.2.2.2.2.1 u_7.1.2.2.2.2.2.2.2 u_7.2 u_11.1 u_11.2.1 u_11.2.2.1 u_11.2.2.2.1 u_11.2.2.2.2.1 u_11.2.2.2.2.2))) ∧ (¬ r_13 = r_8 → False)))))) ∧ (¬ ((x_3 &&& (15 : Int32)) = (0 : Int32)) → ((((x_3 &&& (15 : Int32)) = (1 : Int32)) → vp_in (v4 + (1 : Int32)) Ln ∧ ∀ x_21 : Int32, x_21 = (xs (v4 + (1 : Int32)).toNatClampNeg) → wp_La_word ms mn yg yrg yhq ymf ycd yfg yL yO yov x_21 (fun r_23 u_22 => vp_in (v4 + (1 : Int32)) Ln ∧ ∀ x_24 : Int32, x_24 = (xs (v4 + (1 : Int32)).toNatClampNeg) → wp_Md_word ms2 yddd ydLwhole ydLwhole2 ydbm ydrr ydkt x_24 (fun r_26 u_25 => wp_Md_thrown ms2 u_25.1 u_25.2.1 u_25.2.2.1 u_25.2.2.2.1 u_25.2.2.2.2.1 u_25.2.2.2.2.2 (fun r_27 => ((r_27 = r_23 → ((r_23 = (0 : Int32) → ∀ x_31 : Int64, x_31 = (u_22.2 (0 : Int32).toNatClampNeg) → ((x_31 = r_26.toInt64 → ∀ x_33 : Int32, x_33 = v4 + 3 → wl_law Ln xs ms mn ms2 n x_33 u_22.1.1 u_22.1.2.1 u_22.1.2.2.1 u_22.1.2.2.2.1 u_22.1.2.2.2.2.1 u_22.1.2.2.2.2.2.1 u_22.1.2.2.2.2.2.2.1 u_22.1.2.2.2.2.2.2.2 u_22.2 u_25.1 u_25.2.1 u_25.2.2.1 u_25.2.2.2.1 u_25.2.2.2.2.1 u_25.2.2.2.2.2) ∧ (¬ x_31 = r_26.toInt64 → False))) ∧ (¬ r_23 = (0 : Int32) → ∀ x_30 : Int32, x_30 = v4 + 3 → wl_law Ln xs ms mn ms2 n x_30 u_22.1.1 u_22.1.2.1 u_22.1.2.2.1 u_22.1.2.2.2.1 u_22.1.2.2.2.2.1 u_22.1.2.2.2.2.2.1 u_22.1.2.2.2.2.2.2.1 u_22.1.2.2.2.2.2.2.2 u_22.2 u_25.1 u_25.2.1 u_25.2.2.1 u_25.2.2.2.1 u_25.2.2.2.2.1 u_25.2.2.2.2.2))) ∧ (¬ r_27 = r_23 → False)))))) ∧ (¬ ((x_3 &&& (15 : Int32)) = (1 : Int32)) → ((((x_3 &&& (15 : Int32)) = (2 : Int32)) → vp_in (v4 + (1 : Int32)) Ln ∧ ∀ x_35 : Int32, x_35 = (xs (v4 + (1 : Int32)).toNatClampNeg) → wp_La_go ms mn yg yrg yhq ymf ycd yfg yL yO yov x_35 (fun r_37 u_36 => vp_in (v4 + (1 : Int32)) Ln ∧ ∀ x_38 : Int32, x_38 = (xs (v4 + (1 : Int32)).toNatClampNeg) → wp_Md_go ms2 yddd ydLwhole ydLwhole2 ydbm ydrr ydkt x_38 (fun r_40 u_39 => wp_Md_thrown ms2 u_39.1 u_39.2.1 u_39.2.2.1 u_39.2.2.2.1 u_39.2.2.2.2.1 u_39.2.2.2.2.2 (fun r_41 => ((r_41 = r_37 → ((r_37 = (0 : Int32) → ∀ x_45 : Int64, x_45 = (u_36.2 (0 : Int32).toNatClampNeg) → ((x_45 = r_40.toInt64 → ∀ x_47 : Int32, x_47 = v4 + 3 → wl_law Ln xs ms mn ms2 n x_47 u_36.1.1 u_36.1.2.1 u_36.1.2.2.1 u_36.1.2.2.2.1 u_36.1.2.2.2.2.1 u_36.1.2.2.2.2.2.1 u_36.1.2.2.2.2.2.2.1 u_36.1.2.2.2.2.2.2.2 u_36.2 u_39.1 u_39.2.1 u_39.2.2.1 u_39.2.2.2.1 u_39.2.2.2.2.1 u_39.2.2.2.2.2) ∧ (¬ x_45 = r_40.toInt64 → False))) ∧ (¬ r_37 = (0 : Int32) → ∀ x_44 : Int32, x_44 = v4 + 3 → wl_law Ln xs ms mn ms2 n x_44 u_36.1.1 u_36.1.2.1 u_36.1.2.2.1 u_36.1.2.2.2.1 u_36.1.2.2.2.2.1 u_36.1.2.2.2.2.2.1 u_36.1.2.2.2.2.2.2.1 u_36.1.2.2.2.2.2.2.2 u_36.2 u_39.1 u_39.2.1 u_39.2.2.1 u_39.2.2.2.1 u_39.2.2.2.2.1 u_39.2.2.2.2.2))) ∧ (¬ r_41 = r_37 → False)))))) ∧ (¬ ((x_3 &&& (15 : Int32)) = (2 : Int32)) → ((((x_3 &&& (15 : Int32)) = (3 : Int32)) → vp_in (v4 + (1 : Int32)) Ln ∧ ∀ x_49 : Int32, x_49 = (xs (v4 + (1 : Int32)).toNatClampNeg) → vp_in (v4 + (2 : Int32)) Ln ∧ ∀ x_50 : Int32, x_50 = (xs (v4 + (2 : Int32)).toNatClampNeg) → wp_La_set ms mn yg yrg yhq ymf ycd yfg yL yO yov x_49 x_50 (fun r_52 u_51 => vp_in (v4 + (1 : Int32)) Ln ∧ ∀ x_53 : Int32, x_53 = (xs (v4 + (1 : Int32)).toNatClampNeg) → vp_in (v4 + (2 : Int32)) Ln ∧ ∀ x_54 : Int32, x_54 = (xs (v4 + (2 : Int32)).toNatClampNeg) → wp_Md_set ms2 yddd ydLwhole ydLwhole2 ydbm ydrr ydkt x_53 x_54 (fun r_56 u_55 => wp_Md_thrown ms2 u_55.1 u_55.2.1 u_55.2.2.1 u_55.2.2.2.1 u_55.2.2.2.2.1 u_55.2.2.2.2.2 (fun r_57 => ((r_57 = r_52 → ((r_52 = (0 : Int32) → ∀ x_61 : Int64, x_61 = (u_51.2 (0 : Int32).toNatClampNeg) → ((x_61 = r_56.toInt64 → ∀ x_63 : Int32, x_63 = v4 + 3 → wl_law Ln xs ms mn ms2 n x_63 u_51.1.1 u_51.1.2.1 u_51.1.2.2.1 u_51.1.2.2.2.1 u_51.1.2.2.2.2.1 u_51.1.2.2.2.2.2.1 u_51.1.2.2.2.2.2.2.1 u_51.1.2.2.2.2.2.2.2 u_51.2 u_55.1 u_55.2.1 u_55.2.2.1 u_55.2.2.2.1 u_55.2.2.2.2.1 u_55.2.2.2.2.2) ∧ (¬ x_61 = r_56.toInt64 → False))) ∧ (¬ r_52 = (0 : Int32) → ∀ x_60 : Int32, x_60 = v4 + 3 → wl_law Ln xs ms mn ms2 n x_60 u_51.1.1 u_51.1.2.1 u_51.1.2.2.1 u_51.1.2.2.2.1 u_51.1.2.2.2.2.1 u_51.1.2.2.2.2.2.1 u_51.1.2.2.2.2.2.2.1 u_51.1.2.2.2.2.2.2.2 u_51.2 u_55.1 u_55.2.1 u_55.2.2.1 u_55.2.2.2.1 u_55.2.2.2.2.1 u_55.2.2.2.2.2))) ∧ (¬ r_57 = r_52 → False)))))) ∧ (¬ ((x_3 &&& (15 : Int32)) = (3 : Int32)) → ((((x_3 &&& (15 : Int32)) = (4 : Int32)) → vp_in (v4 + (1 : Int32)) Ln ∧ ∀ x_65 : Int32, x_65 = (xs (v4 + (1 : Int32)).toNatClampNeg) → wp_La_get ms mn yg yrg yhq ymf ycd yfg yL yO yov x_65 (fun r_67 u_66 => vp_in (v4 + (1 : Int32)) Ln ∧ ∀ x_68 : Int32, x_68 = (xs (v4 + (1 : Int32)).toNatClampNeg) → wp_Md_get ms2 yddd ydLwhole ydLwhole2 ydbm ydrr ydkt x_68 (fun r_70 u_69 => wp_Md_thrown ms2 u_69.1 u_69.2.1 u_69.2.2.1 u_69.2.2.2.1 u_69.2.2.2.2.1 u_69.2.2.2.2.2 (fun r_71 => ((r_71 = r_67 → ((r_67 = (0 : Int32) → ∀ x_75 : Int64, x_75 = (u_66.2 (0 : Int32).toNatClampNeg) → ((x_75 = r_70.toInt64 → ∀ x_77 : Int32, x_77 = v4 + 3 → wl_law Ln xs ms mn ms2 n x_77 u_66.1.1 u_66.1.2.1 u_66.1.2.2.1 u_66.1.2.2.2.1 u_66.1.2.2.2.2.1 u_66.1.2.2.2.2.2.1 u_66.1.2.2.2.2.2.2.1 u_66.1.2.2.2.2.2.2.2 u_66.2 u_69.1 u_69.2.1 u_69.2.2.1 u_69.2.2.2.1 u_69.2.2.2.2.1 u_69.2.2.2.2.2) ∧ (¬ x_75 = r_70.toInt64 → False))) ∧ (¬ r_67 = (0 : Int32) → ∀ x_74 : Int32, x_74 = v4 + 3 → wl_law Ln xs ms mn ms2 n x_74 u_66.1.1 u_66.1.2.1 u_66.1.2.2.1 u_66.1.2.2.2.1 u_66.1.2.2.2.2.1 u_66.1.2.2.2.2.2.1 u_66.1.2.2.2.2.2.2.1 u_66.1.2.2.2.2.2.2.2 u_66.2 u_69.1 u_69.2.1 u_69.2.2.1 u_69.2.2.2.1 u_69.2.2.2.2.1 u_69.2.2.2.2.2))) ∧ (¬ r_71 = r_67 → False)))))) ∧ (¬ ((x_3 &&& (15 : Int32)) = (4 : Int32)) → ((((x_3 &&& (15 : Int32)) = (5 : Int32)) → vp_in (v4 + (1 : Int32)) Ln ∧ ∀ x_79 : Int32, x_79 = (xs (v4 + (1 : Int32)).toNatClampNeg) → wp_La_run ms mn yg yrg yhq ymf ycd yfg yL yO yov x_79 (fun r_81 u_80 => vp_in (v4 + (1 : Int32)) Ln ∧ ∀ x_82 : Int32, x_82 = (xs (v4 + (1 : Int32)).toNatClampNeg) → wp_Md_run ms2 yddd ydLwhole ydLwhole2 ydbm ydrr ydkt x_82 (fun r_84 u_83 => wp_Md_thrown ms2 u_83.1 u_83.2.1 u_83.2.2.1 u_83.2.2.2.1 u_83.2.2.2.2.1 u_83.2.2.2.2.2 (fun r_85 => ((r_85 = r_81 → ((r_81 = (0 : Int32) → ∀ x_89 : Int64, x_89 = (u_80.2 (0 : Int32).toNatClampNeg) → ((x_89 = r_84.toInt64 → ∀ x_91 : Int32, x_91 = v4 + 3 → wl_law Ln xs ms mn ms2 n x_91 u_80.1.1 u_80.1.2.1 u_80.1.2.2.1 u_80.1.2.2.2.1 u_80.1.2.2.2.2.1 u_80.1.2.2.2.2.2.1 u_80.1.2.2.2.2.2.2.1 u_80.1.2.2.2.2.2.2.2 u_80.2 u_83.1 u_83.2.1 u_83.2.2.1 u_83.2.2.2.1 u_83.2.2.2.2.1 u_83.2.2.2.2.2) ∧ (¬ x_89 = r_84.toInt64 → False))) ∧ (¬ r_81 = (0 : Int32) → ∀ x_88 : Int32, x_88 = v4 + 3 → wl_law Ln xs ms mn ms2 n x_88 u_80.1.1 u_80.1.2.1 u_80.1.2.2.1 u_80.1.2.2.2.1 u_80.1.2.2.2.2.1 u_80.1.2.2.2.2.2.1 u_80.1.2.2.2.2.2.2.1 u_80.1.2.2.2.2.2.2.2 u_80.2 u_83.1 u_83.2.1 u_83.2.2.1 u_83.2.2.2.1 u_83.2.2.2.2.1 u_83.2.2.2.2.2))) ∧ (¬ r_85 = r_81 → False)))))) ∧ (¬ ((x_3 &&& (15 : Int32)) = (5 : Int32)) → ((((x_3 &&& (15 : Int32)) = (6 : Int32)) → wp_Co_end ms mn yg yrg yhq ymf ycd yfg yL yO (fun r_93 => wp_Md_end ms2 yddd ydLwhole ydLwhole2 ydbm ydrr ydkt (fun r_95 u_94 => ((r_93 = r_95 → ∀ x_97 : Int32, x_97 = v4 + 3 → wl_law Ln xs ms mn ms2 n x_97 yg yrg yhq ymf ycd yfg yL yO yov u_94.1 u_94.2.1 u_94.2.2.1 u_94.2.2.2.1 u_94.2.2.2.2.1 u_94.2.2.2.2.2) ∧ (¬ r_93 = r_95 → False))))) ∧ (¬ ((x_3 &&& (15 : Int32)) = (6 : Int32)) → ((((x_3 &&& (15 : Int32)) = (7 : Int32)) → wp_La_pass ms mn yg yrg yhq ymf ycd yfg yL yO yov (fun r_100 u_99 => wp_Md_pass ms2 yddd ydLwhole ydLwhole2 ydbm ydrr ydkt (fun r_102 u_101 => wp_Md_thrown ms2 u_101.1 u_101.2.1 u_101.2.2.1 u_101.2.2.2.1 u_101.2.2.2.2.1 u_101.2.2.2.2.2 (fun r_103 => ((r_103 = r_100 → ((r_100 = (0 : Int32) → ∀ x_107 : Int64, x_107 = (u_99.2 (0 : Int32).toNatClampNeg) → ((x_107 = r_102.toInt64 → ∀ x_109 : Int32, x_109 = v4 + 3 → wl_law Ln xs ms mn ms2 n x_109 u_99.1.1 u_99.1.2.1 u_99.1.2.2.1 u_99.1.2.2.2.1 u_99.1.2.2.2.2.1 u_99.1.2.2.2.2.2.1 u_99.1.2.2.2.2.2.2.1 u_99.1.2.2.2.2.2.2.2 u_99.2 u_101.1 u_101.2.1 u_101.2.2.1 u_101.2.2.2.1 u_101.2.2.2.2.1 u_101.2.2.2.2.2) ∧ (¬ x_107 = r_102.toInt64 → False))) ∧ (¬ r_100 = (0 : Int32) → ∀ x_106 : Int32, x_106 = v4 + 3 → wl_law Ln xs ms mn ms2 n x_106 u_99.1.1 u_99.1.2.1 u_99.1.2.2.1 u_99.1.2.2.2.1 u_99.1.2.2.2.2.1 u_99.1.2.2.2.2.2.1 u_99.1.2.2.2.2.2.2.1 u_99.1.2.2.2.2.2.2.2 u_99.2 u_101.1 u_101.2.1 u_101.2.2.1 u_101.2.2.2.1 u_101.2.2.2.2.1 u_101.2.2.2.2.2))) ∧ (¬ r_103 = r_100 → False)))))) ∧ (¬ ((x_3 &&& (15 : Int32)) = (7 : Int32)) → ((((x_3 &&& (15 : Int32)) = (8 : Int32)) → vp_in (v4 + (1 : Int32)) Ln ∧ ∀ x_111 : Int32, x_111 = (xs (v4 + (1 : Int32)).toNatClampNeg) → wp_La_state ms mn yg yrg yhq ymf ycd yfg yL yO yov x_111 (fun r_113 u_112 => vp_in (v4 + (1 : Int32)) Ln ∧ ∀ x_114 : Int32, x_114 = (xs (v4 + (1 : Int32)).toNatClampNeg) → wp_Md_state ms2 yddd ydLwhole ydLwhole2 ydbm ydrr ydkt x_114 (fun r_116 u_115 => wp_Md_thrown ms2 u_115.1 u_115.2.1 u_115.2.2.1 u_115.2.2.2.1 u_115.2.2.2.2.1 u_115.2.2.2.2.2 (fun r_117 => ((r_117 = r_113 → ((r_113 = (0 : Int32) → ∀ x_121 : Int64, x_121 = (u_112.2 (0 : Int32).toNatClampNeg) → ((x_121 = r_116.toInt64 → ∀ x_123 : Int32, x_123 = v4 + 3 → wl_law Ln xs ms mn ms2 n x_123 u_112.1.1 u_112.1.2.1 u_112.1.2.2.1 u_112.1.2.2.2.1 u_112.1.2.2.2.2.1 u_112.1.2.2.2.2.2.1 u_112.1.2.2.2.2.2.2.1 u_112.1.2.2.2.2.2.2.2 u_112.2 u_115.1 u_115.2.1 u_115.2.2.1 u_115.2.2.2.1 u_115.2.2.2.2.1 u_115.2.2.2.2.2) ∧ (¬ x_121 = r_116.toInt64 → False))) ∧ (¬ r_113 = (0 : Int32) → ∀ x_120 : Int32, x_120 = v4 + 3 → wl_law Ln xs ms mn ms2 n x_120 u_112.1.1 u_112.1.2.1 u_112.1.2.2.1 u_112.1.2.2.2.1 u_112.1.2.2.2.2.1 u_112.1.2.2.2.2.2.1 u_112.1.2.2.2.2.2.2.1 u_112.1.2.2.2.2.2.2.2 u_112.2 u_115.1 u_115.2.1 u_115.2.2.1 u_115.2.2.2.1 u_115.2.2.2.2.1 u_115.2.2.2.2.2))) ∧ (¬ r_117 = r_113 → False)))))) ∧ (¬ ((x_3 &&& (15 : Int32)) = (8 : Int32)) → ∀ x_124 : Int32, x_124 = v4 + 3 → wl_law Ln xs ms mn ms2 n x_124 yg yrg yhq ymf ycd yfg yL yO yov yddd ydLwhole ydLwhole2 ydbm ydrr ydkt))))))))))))))))))))
set_option maxHeartbeats 8000000 in
set_option maxRecDepth 100000 in
theorem law_loop {p : Program} {l : Launch} {e : Env} {s : State} {m : MethodId} {below : List Frame} {meth : Method} {c : Code} (hl0 : l.stackTraces = false) (D : va_G) (cI cJ cB : ClassId) (qx : Nat) (qc : Nat) (qp : Nat) (qr : Nat) (qh : Nat) (qm : Nat) (qw : Nat) (qu : Nat) (qf : Nat) (ql : Nat) (qo : Nat) (eqd : Nat) (eqmemory : Nat) (eqr : Nat) (eqcounts : Nat) {b Ln : Nat} {xs : Nat → Int32} (ms : Int32) (mn : Nat) (ms2 : Int32) (hx : p.tables.exec = Jvm.exec) (hb : c.code = code) (hr : meth.sig.returnType = ret) (hml : c.maxLocals = 7) (hown : s.vm.findClass R_La = some m.cls) (hts : ∀ w ∈ Cond.arrayClass .int :: zz_all, w.before #[Value.ref b] s = true) (hX : va_X b Ln xs s s.heap) (hbl : b < s.heap.size) (hlocks : meth.locks = false) (hK : va_K D vwCl [(cI, .int), (cJ, .long), (cB, .byte)] s) (A : Nat → Prop) (hAd : A = (fun q : Nat => s.heap.size ≤ q)) (hE : zz_ex A s s.heap) (hNc : zz_nc s) : ∀ (n : Nat) (v4 : Int32) (yg : Nat → Int32) (yrg : Nat → Int32) (yhq : Nat → Int32) (ymf : Nat → Int32) (ycd : Int32) (yfg : Nat → Int32) (yL : Int32 × Int32 × Int32 × Int64) (yO : Int32 × Int32 × Int32 × Int64) (yov : Nat → Int64) (yddd : Nat → Int32) (ydLwhole : Int64) (ydLwhole2 : Int64) (ydbm : Nat → Int32) (ydrr : Nat → Int32) (ydkt : Nat → Int32), wl_law Ln xs ms mn ms2 n v4 yg yrg yhq ymf ycd yfg yL yO yov yddd ydLwhole ydLwhole2 ydbm ydrr ydkt → ∀ (cN sN : Nat), cN + n ≤ 600002 → sN + 6 * n ≤ 7302198 → ∀ (H : Heap) (locs : List Loc), va_P D vwCl (wA qx qc qp qr qh qm qw qu qf ql qo eqd eqmemory eqr eqcounts cI cJ cB ms mn ms2 yg yrg yhq ymf ycd yfg yL yO yov yddd ydLwhole ydLwhole2 ydbm ydrr ydkt) H → va_D A (wA qx qc qp qr qh qm qw qu qf ql qo eqd eqmemory eqr eqcounts cI cJ cB ms mn ms2 yg yrg yhq ymf ycd yfg yL yO yov yddd ydLwhole ydLwhole2 ydbm ydrr ydkt) → va_S A s.heap H locs → ∀ ls : Array Slot, lv_has ls 7 [(0, .ref b), (1, .ref qc), (2, .ref eqd), (3, .ref qx), (4, .int v4)] → W p l e room_1 s m #[Value.ref b] below meth c H locs cN sN (lw_Z below #[Value.ref b] s) (F0 m 33 ls []) := by
  have hA : ∀ q : Nat, s.heap.size ≤ q → A q := fun q h => by rw [hAd]; exact h
  have hbA : ¬ A b := by rw [hAd]; exact Nat.not_le.mpr hbl
  have hT := zz_hts hts
  have hKw : va_K D vwCl [(cI, .int), (cJ, .long)] s := hK.sub [0, 1] rfl
  have hKc : va_K D vwCl [(cI, .int)] s := hK.sub [0] rfl
  have hKd : va_K D vwCl [(cI, .int), (cB, .byte)] s := hK.sub [0, 2] rfl
  have X : CallFix p m c code 7 s #[Value.ref b] (Cond.arrayClass .int :: zz_all) R_La := ⟨hx, hb, hml, hown, hts⟩
  have hSx : ∀ q ∈ ([] : List Loc), s.heap.size ≤ q.base := fun q h => by cases h
  intro n
  induction n with
  | zero =>
    intro v4 yg yrg yhq ymf ycd yfg yL yO yov yddd ydLwhole ydLwhole2 ydbm ydrr ydkt h
    exact False.elim h
  | succ n ih =>
    intro v4 yg yrg yhq ymf ycd yfg yL yO yov yddd ydLwhole ydLwhole2 ydbm ydrr ydkt h cN sN hcN hsN H locs hP hD hS ls hl
    rw [wl_law] at h
    have hf0 : cN + 0 ≤ room_1.cells ∧ sN + 0 ≤ room_1.slots := ⟨by show cN + 0 ≤ 600002; omega, by show sN + 0 ≤ 7302198; omega⟩
    refine lv_iload hx hb d_law_33 (lv_at hl 4 rfl) ?_
    refine lv_aload_n hx hb d_law_35 rfl (lv_at hl 0 rfl) ?_
    refine va_slen hx hb hX hbl hbA hS d_law_36 ?_
    refine lv_iconst (v := 3) hx hb d_law_37 (by decide) ?_
    refine lv_isub hx hb d_law_38 ?_
    refine lv_topi (fun x_1 ex_1 => ?_)
    have h := h x_1 ex_1
    refine lv_icmp_gt (tgt := 579) hx hb d_law_39 (by decide) (fun c_2 => ?_) (fun c_2 => ?_)
    · skip
      have h := h.1 c_2
      refine lv_iconst (v := 1) hx hb d_law_579 (by decide) ?_
      refine va_forget (fun q hq => by have h9 := hS.2.2 q hq; rw [hAd] at h9; exact h9) ?_
      refine W.widen (k := 600002) (n := 7302198) (by omega) (by omega) ?_
      exact lw_ret hx hb hr hlocks d_law_580
    · skip
      have h := h.2 c_2
      refine lv_aload_n hx hb d_law_42 rfl (lv_at hl 0 rfl) ?_
      refine lv_iload hx hb d_law_43 (lv_at hl 4 rfl) ?_
      refine va_sld hx hb hX hbl hbA hS h.1 d_law_45 ?_
      have h := h.2
      refine lv_topi (fun x_3 ex_3 => ?_)
      have h := h x_3 ex_3
      refine lv_bipush (v := 15) hx hb d_law_46 (by decide) ?_
      refine lv_iand hx hb d_law_48 ?_
      by_cases c_4 : (x_3 &&& (15 : Int32)) = (0 : Int32)
      · have h := h.1 c_4
        have h0 := c_4
        refine lv_tableIn (off := 51) (tgt := 100) hx hb d_law_49 (by rw [h0]; decide) (by rw [h0]; decide) (by rw [h0]; rfl) (by decide) ?_
        refine lv_aload_n hx hb d_law_100 rfl (lv_at hl 1 rfl) ?_
        refine lv_aload_n hx hb d_law_101 rfl (lv_at hl 0 rfl) ?_
        refine lv_iload hx hb d_law_102 (lv_at hl 4 rfl) ?_
        refine lv_iconst (v := 1) hx hb d_law_104 (by decide) ?_
        refine lv_iadd hx hb d_law_105 ?_
        refine va_sld hx hb hX hbl hbA hS h.1 d_law_106 ?_
        have h := h.2
        refine lv_topi (fun x_5 ex_5 => ?_)
        have h := h x_5 ex_5
        refine lv_aload_n hx hb d_law_107 rfl (lv_at hl 0 rfl) ?_
        refine lv_iload hx hb d_law_108 (lv_at hl 4 rfl) ?_
        refine lv_iconst (v := 2) hx hb d_law_110 (by decide) ?_
        refine lv_iadd hx hb d_law_111 ?_
        refine va_sld hx hb hX hbl hbA hS h.1 d_law_112 ?_
        have h := h.2
        refine lv_topi (fun x_6 ex_6 => ?_)
        have h := h x_6 ex_6
        refine lv_aload_n hx hb d_law_113 rfl (lv_at hl 3 rfl) ?_
        refine zz_SWi (As := [.ref qc, .int x_5, .int x_6, .ref qx]) (rest := []) (wc := wL qx qc qp qr qh qm qw qu qf ql qo cI cJ ms mn yg yrg yhq ymf ycd yfg yL yO yov) (wr := [(eqd, .inr (6, [.int (yddd 0), .ref eqmemory, .int ms2, .ref eqr, .int (yddd 1), .int (yddd 2), .int (yddd 3), .int (yddd 4), .int (yddd 5), .int (yddd 6), .int (yddd 7), .int (yddd 8), .ref eqcounts, .int (yddd 9), .int (yddd 10), .int (yddd 11), .int (yddd 12), .int (yddd 13), .int (yddd 14), .int (yddd 15), .int (yddd 16), .int (yddd 17), .int (yddd 18), .int (yddd 19), .long ydLwhole, .long ydLwhole2])), (eqmemory, .inl (cB, 262144, .inl ydbm)), (eqr, .inl (cI, 67, .inl ydrr)), (eqcounts, .inl (cI, 5, .inl ydkt))]) X hKw hP hD hS hA hE hNc (c_La_put l hl0 D cI cJ qx qc qp qr qh qm qw qu qf ql qo ms mn yg yrg yhq ymf ycd yfg yL yO yov x_5 x_6 _ h _) ⟨rfl, rfl⟩ ms_La_put k_La_54 ⟨Nat.le_of_ble_eq_true rfl, Nat.le_of_ble_eq_true rfl⟩ [0, 1, 2, 3, 4, 5, 6, 7, 8, 9, 10] [11, 12, 13, 14] rfl rfl (by decide) (by decide) (by decide) rfl hl.1 rfl (Nat.le_of_ble_eq_true rfl) d_law_114 ⟨by show cN + 1 ≤ 600002; omega, by show sN + 6 ≤ 7302198; omega⟩ (fun r_8 u_7 H locs h hP hD hS => ?_)
        have hP : va_P D vwCl (wA qx qc qp qr qh qm qw qu qf ql qo eqd eqmemory eqr eqcounts cI cJ cB ms mn ms2 u_7.1.1 u_7.1.2.1 u_7.1.2.2.1 u_7.1.2.2.2.1 u_7.1.2.2.2.2.1 u_7.1.2.2.2.2.2.1 u_7.1.2.2.2.2.2.2.1 u_7.1.2.2.2.2.2.2.2 u_7.2 yddd ydLwhole ydLwhole2 ydbm ydrr ydkt) H := hP.sub [4, 5, 6, 7, 8, 9, 10, 11, 12, 13, 14, 0, 1, 2, 3] rfl
        have hD : va_D A (wA qx qc qp qr qh qm qw qu qf ql qo eqd eqmemory eqr eqcounts cI cJ cB ms mn ms2 u_7.1.1 u_7.1.2.1 u_7.1.2.2.1 u_7.1.2.2.2.1 u_7.1.2.2.2.2.1 u_7.1.2.2.2.2.2.1 u_7.1.2.2.2.2.2.2.1 u_7.1.2.2.2.2.2.2.2 u_7.2 yddd ydLwhole ydLwhole2 ydbm ydrr ydkt) := hD.sub [4, 5, 6, 7, 8, 9, 10, 11, 12, 13, 14, 0, 1, 2, 3] (by decide) rfl
        have hf0 : (cN + 1) + 0 ≤ room_1.cells ∧ (sN + 6) + 0 ≤ room_1.slots := ⟨by show (cN + 1) + 0 ≤ 600002; omega, by show (sN + 6) + 0 ≤ 7302198; omega⟩
        refine lv_istore (lv' := [(5, .int r_8), (0, .ref b), (1, .ref qc), (2, .ref eqd), (3, .ref qx), (4, .int v4)]) hx hb d_law_117 hl (by decide) rfl (fun ls hl => ?_)
        refine lv_aload_n hx hb d_law_119 rfl (lv_at hl 3 rfl) ?_
        refine lv_aload_n hx hb d_law_120 rfl (lv_at hl 1 rfl) ?_
        refine lv_iload hx hb d_law_121 (lv_at hl 5 rfl) ?_
        refine lv_iconst (v := 1) hx hb d_law_123 (by decide) ?_
        refine lv_iadd hx hb d_law_124 ?_
        refine va_sld hx hb hX hbl hbA hS h.1 d_law_125 ?_
        have h := h.2
        refine lv_topi (fun x_9 ex_9 => ?_)
        have h := h x_9 ex_9
        refine lv_aload_n hx hb d_law_126 rfl (lv_at hl 1 rfl) ?_
        refine lv_iload hx hb d_law_127 (lv_at hl 5 rfl) ?_
        refine lv_iconst (v := 2) hx hb d_law_129 (by decide) ?_
        refine lv_iadd hx hb d_law_130 ?_
        refine va_sld hx hb hX hbl hbA hS h.1 d_law_131 ?_
        have h := h.2
        refine lv_topi (fun x_10 ex_10 => ?_)
        have h := h x_10 ex_10
        refine zz_Wi (As := [.int x_9, .int x_10]) (rest := []) (wc := wD eqd eqmemory eqr eqcounts cI cB ms2 yddd ydLwhole ydLwhole2 ydbm ydrr ydkt) (wr := [(qx, .inl (cJ, 1, .inr (.inl u_7.2))), (qc, .inr (5, [.ref qm, .ref qp])), (qp, .inr (4, [.ref qm, .ref qr, .ref qh, .ref qu, .int (u_7.1.1 0), .int (u_7.1.1 1), .int (u_7.1.1 2), .int (u_7.1.1 3), .int (u_7.1.1 4), .int (u_7.1.1 5), .int (u_7.1.1 6), .int (u_7.1.1 7), .int (u_7.1.1 8), .int (u_7.1.1 9), .int (u_7.1.1 10), .int (u_7.1.1 11)])), (qr, .inl (cI, 32, .inl u_7.1.2.1)), (qh, .inr (2, [.int (u_7.1.2.2.1 0), .int (u_7.1.2.2.1 1), .int (u_7.1.2.2.1 2), .int (u_7.1.2.2.1 3)])), (qm, .inr (3, [.int ms, .ref qw])), (qw, .inl (cI, mn, .inl u_7.1.2.2.2.1)), (qu, .inr (1, [.ref qf, .int u_7.1.2.2.2.2.1, .ref ql, .ref qo])), (qf, .inl (cI, 32, .inl u_7.1.2.2.2.2.2.1)), (ql, .inr (0, [.int u_7.1.2.2.2.2.2.2.1.1, .int u_7.1.2.2.2.2.2.2.1.2.1, .int u_7.1.2.2.2.2.2.2.1.2.2.1, .long u_7.1.2.2.2.2.2.2.1.2.2.2])), (qo, .inr (0, [.int u_7.1.2.2.2.2.2.2.2.1, .int u_7.1.2.2.2.2.2.2.2.2.1, .int u_7.1.2.2.2.2.2.2.2.2.2.1, .long u_7.1.2.2.2.2.2.2.2.2.2.2]))]) X hKd hP hD hS hA (c_Md_put_III l D cI cB eqd eqmemory eqr eqcounts ms2 yddd ydLwhole ydLwhole2 ydbm ydrr ydkt x_9 x_10 _ h _) ⟨rfl, rfl⟩ m_Md_put_III k_La_57 ⟨Nat.le_of_ble_eq_true rfl, Nat.le_of_ble_eq_true rfl⟩ [11, 12, 13, 14] [0, 1, 2, 3, 4, 5, 6, 7, 8, 9, 10] rfl rfl (by decide) (by decide) (by decide) 6 11 rfl rfl rfl rfl hl.1 rfl (Nat.le_of_ble_eq_true rfl) d_law_132 hf0 (fun r_12 u_11 H locs h hP hD hS => ?_)
        have hP : va_P D vwCl (wA qx qc qp qr qh qm qw qu qf ql qo eqd eqmemory eqr eqcounts cI cJ cB ms mn ms2 u_7.1.1 u_7.1.2.1 u_7.1.2.2.1 u_7.1.2.2.2.1 u_7.1.2.2.2.2.1 u_7.1.2.2.2.2.2.1 u_7.1.2.2.2.2.2.2.1 u_7.1.2.2.2.2.2.2.2 u_7.2 u_11.1 u_11.2.1 u_11.2.2.1 u_11.2.2.2.1 u_11.2.2.2.2.1 u_11.2.2.2.2.2) H := hP.sub [0, 1, 2, 3, 4, 5, 6, 7, 8, 9, 10, 11, 12, 13, 14] rfl
        have hD : va_D A (wA qx qc qp qr qh qm qw qu qf ql qo eqd eqmemory eqr eqcounts cI cJ cB ms mn ms2 u_7.1.1 u_7.1.2.1 u_7.1.2.2.1 u_7.1.2.2.2.1 u_7.1.2.2.2.2.1 u_7.1.2.2.2.2.2.1 u_7.1.2.2.2.2.2.2.1 u_7.1.2.2.2.2.2.2.2 u_7.2 u_11.1 u_11.2.1 u_11.2.2.1 u_11.2.2.2.1 u_11.2.2.2.2.1 u_11.2.2.2.2.2) := hD.sub [0, 1, 2, 3, 4, 5, 6, 7, 8, 9, 10, 11, 12, 13, 14] (by decide) rfl
        refine lv_istore (lv' := [(6, .int r_12), (5, .int r_8), (0, .ref b), (1, .ref qc), (2, .ref eqd), (3, .ref qx), (4, .int v4)]) hx hb d_law_135 hl (by decide) rfl (fun ls hl => ?_)
        refine lv_aload_n hx hb d_law_137 rfl (lv_at hl 4 rfl) ?_
        refine zz_Ri (As := []) (rest := []) (wc := wD eqd eqmemory eqr eqcounts cI cB ms2 u_11.1 u_11.2.1 u_11.2.2.1 u_11.2.2.2.1 u_11.2.2.2.2.1 u_11.2.2.2.2.2) X hKd hP (c_Md_thrown l D cI cB eqd eqmemory eqr eqcounts ms2 u_11.1 u_11.2.1 u_11.2.2.1 u_11.2.2.2.1 u_11.2.2.2.2.1 u_11.2.2.2.2.2 _ h) ⟨rfl, rfl⟩ m_Md_thrown k_La_58 ⟨Nat.le_of_ble_eq_true rfl, Nat.le_of_ble_eq_true rfl⟩ [11, 12, 13, 14] rfl 6 11 rfl rfl rfl rfl hl.1 rfl (Nat.le_of_ble_eq_true rfl) d_law_138 hf0 (fun r_13 h => ?_)
        refine lv_iload hx hb d_law_141 (lv_at hl 1 rfl) ?_
        refine lv_icmp_eq (tgt := 148) hx hb d_law_143 (by decide) (fun c_14 => ?_) (fun c_14 => ?_)
        · skip
          have h := h.1 c_14
          refine lv_iload hx hb d_law_148 (lv_at hl 1 rfl) ?_
          refine lv_if_ne (tgt := 165) hx hb d_law_150 (by decide) (fun c_15 => ?_) (fun c_15 => ?_)
          · skip
            have h := h.2 c_15
            refine lv_goto (tgt := 573) hx hb d_law_165 (by decide) ?_
            obtain ⟨x_16, ex_16⟩ : ∃ y : Int32, y = v4 + 3 := ⟨_, rfl⟩
            have h := h x_16 ex_16
            refine lv_iinc (v := x_16) (lv' := [(4, .int x_16), (6, .int r_12), (5, .int r_8), (0, .ref b), (1, .ref qc), (2, .ref eqd), (3, .ref qx)]) hx hb d_law_573 hl (k := 6) rfl (by rw [ex_16]; rfl) (by decide) rfl (fun ls hl => ?_)
            refine lv_goto (tgt := 33) hx hb d_law_576 (by decide) ?_
            exact ih x_16 u_7.1.1 u_7.1.2.1 u_7.1.2.2.1 u_7.1.2.2.2.1 u_7.1.2.2.2.2.1 u_7.1.2.2.2.2.2.1 u_7.1.2.2.2.2.2.2.1 u_7.1.2.2.2.2.2.2.2 u_7.2 u_11.1 u_11.2.1 u_11.2.2.1 u_11.2.2.2.1 u_11.2.2.2.2.1 u_11.2.2.2.2.2 h (cN + 1) (sN + 6) (by omega) (by omega) _ _ hP hD hS ls (lv_sub hl [3, 4, 5, 6, 0] rfl)
          · skip
            have h := h.1 c_15
            refine lv_aload_n hx hb d_law_153 rfl (lv_at hl 5 rfl) ?_
            refine lv_iconst (v := 0) hx hb d_law_154 (by decide) ?_
            refine va_lald (f := u_7.2) hx hb hK hP 0 1 rfl rfl (by unfold vp_in; decide) d_law_155 ?_
            refine lv_topl (fun x_17 ex_17 => ?_)
            have h := h x_17 ex_17
            refine lv_iload hx hb d_law_156 (lv_at hl 0 rfl) ?_
            refine lv_i2l (v := r_12.toInt64) hx hb d_law_158 rfl ?_
            refine W.lcmp hx hb d_law_159 ?_
            refine lv_if_eq (tgt := 165) hx hb d_law_160 (by decide) (fun c_18 => ?_) (fun c_18 => ?_)
            · have kc_18 := ((lg_cmp_eq _ _).mp c_18)
              have h := h.1 kc_18
              refine lv_goto (tgt := 573) hx hb d_law_165 (by decide) ?_
              obtain ⟨x_19, ex_19⟩ : ∃ y : Int32, y = v4 + 3 := ⟨_, rfl⟩
              have h := h x_19 ex_19
              refine lv_iinc (v := x_19) (lv' := [(4, .int x_19), (6, .int r_12), (5, .int r_8), (0, .ref b), (1, .ref qc), (2, .ref eqd), (3, .ref qx)]) hx hb d_law_573 hl (k := 6) rfl (by rw [ex_19]; rfl) (by decide) rfl (fun ls hl => ?_)
              refine lv_goto (tgt := 33) hx hb d_law_576 (by decide) ?_
              exact ih x_19 u_7.1.1 u_7.1.2.1 u_7.1.2.2.1 u_7.1.2.2.2.1 u_7.1.2.2.2.2.1 u_7.1.2.2.2.2.2.1 u_7.1.2.2.2.2.2.2.1 u_7.1.2.2.2.2.2.2.2 u_7.2 u_11.1 u_11.2.1 u_11.2.2.1 u_11.2.2.2.1 u_11.2.2.2.2.1 u_11.2.2.2.2.2 h (cN + 1) (sN + 6) (by omega) (by omega) _ _ hP hD hS ls (lv_sub hl [3, 4, 5, 6, 0] rfl)
            · have kc_18 := (fun q => c_18 ((lg_cmp_eq _ _).mpr q))
              have h := h.2 kc_18
              refine lv_iconst (v := 0) hx hb d_law_163 (by decide) ?_
              exact False.elim h
        · skip
          have h := h.2 c_14
          refine lv_iconst (v := 0) hx hb d_law_146 (by decide) ?_
          exact False.elim h
      · have h := h.2 c_4
        by_cases c_20 : (x_3 &&& (15 : Int32)) = (1 : Int32)
        · have h := h.1 c_20
          have h0 := c_20
          refine lv_tableIn (off := 119) (tgt := 168) hx hb d_law_49 (by rw [h0]; decide) (by rw [h0]; decide) (by rw [h0]; rfl) (by decide) ?_
          refine lv_aload_n hx hb d_law_168 rfl (lv_at hl 1 rfl) ?_
          refine lv_aload_n hx hb d_law_169 rfl (lv_at hl 0 rfl) ?_
          refine lv_iload hx hb d_law_170 (lv_at hl 4 rfl) ?_
          refine lv_iconst (v := 1) hx hb d_law_172 (by decide) ?_
          refine lv_iadd hx hb d_law_173 ?_
          refine va_sld hx hb hX hbl hbA hS h.1 d_law_174 ?_
          have h := h.2
          refine lv_topi (fun x_21 ex_21 => ?_)
          have h := h x_21 ex_21
          refine lv_aload_n hx hb d_law_175 rfl (lv_at hl 3 rfl) ?_
          refine zz_SWi (As := [.ref qc, .int x_21, .ref qx]) (rest := []) (wc := wL qx qc qp qr qh qm qw qu qf ql qo cI cJ ms mn yg yrg yhq ymf ycd yfg yL yO yov) (wr := [(eqd, .inr (6, [.int (yddd 0), .ref eqmemory, .int ms2, .ref eqr, .int (yddd 1), .int (yddd 2), .int (yddd 3), .int (yddd 4), .int (yddd 5), .int (yddd 6), .int (yddd 7), .int (yddd 8), .ref eqcounts, .int (yddd 9), .int (yddd 10), .int (yddd 11), .int (yddd 12), .int (yddd 13), .int (yddd 14), .int (yddd 15), .int (yddd 16), .int (yddd 17), .int (yddd 18), .int (yddd 19), .long ydLwhole, .long ydLwhole2])), (eqmemory, .inl (cB, 262144, .inl ydbm)), (eqr, .inl (cI, 67, .inl ydrr)), (eqcounts, .inl (cI, 5, .inl ydkt))]) X hKw hP hD hS hA hE hNc (c_La_word l hl0 D cI cJ qx qc qp qr qh qm qw qu qf ql qo ms mn yg yrg yhq ymf ycd yfg yL yO yov x_21 _ h _) ⟨rfl, rfl⟩ ms_La_word k_La_61 ⟨Nat.le_of_ble_eq_true rfl, Nat.le_of_ble_eq_true rfl⟩ [0, 1, 2, 3, 4, 5, 6, 7, 8, 9, 10] [11, 12, 13, 14] rfl rfl (by decide) (by decide) (by decide) rfl hl.1 rfl (Nat.le_of_ble_eq_true rfl) d_law_176 ⟨by show cN + 1 ≤ 600002; omega, by show sN + 6 ≤ 7302198; omega⟩ (fun r_23 u_22 H locs h hP hD hS => ?_)
          have hP : va_P D vwCl (wA qx qc qp qr qh qm qw qu qf ql qo eqd eqmemory eqr eqcounts cI cJ cB ms mn ms2 u_22.1.1 u_22.1.2.1 u_22.1.2.2.1 u_22.1.2.2.2.1 u_22.1.2.2.2.2.1 u_22.1.2.2.2.2.2.1 u_22.1.2.2.2.2.2.2.1 u_22.1.2.2.2.2.2.2.2 u_22.2 yddd ydLwhole ydLwhole2 ydbm ydrr ydkt) H := hP.sub [4, 5, 6, 7, 8, 9, 10, 11, 12, 13, 14, 0, 1, 2, 3] rfl
          have hD : va_D A (wA qx qc qp qr qh qm qw qu qf ql qo eqd eqmemory eqr eqcounts cI cJ cB ms mn ms2 u_22.1.1 u_22.1.2.1 u_22.1.2.2.1 u_22.1.2.2.2.1 u_22.1.2.2.2.2.1 u_22.1.2.2.2.2.2.1 u_22.1.2.2.2.2.2.2.1 u_22.1.2.2.2.2.2.2.2 u_22.2 yddd ydLwhole ydLwhole2 ydbm ydrr ydkt) := hD.sub [4, 5, 6, 7, 8, 9, 10, 11, 12, 13, 14, 0, 1, 2, 3] (by decide) rfl
          have hf0 : (cN + 1) + 0 ≤ room_1.cells ∧ (sN + 6) + 0 ≤ room_1.slots := ⟨by show (cN + 1) + 0 ≤ 600002; omega, by show (sN + 6) + 0 ≤ 7302198; omega⟩
          refine lv_istore (lv' := [(5, .int r_23), (0, .ref b), (1, .ref qc), (2, .ref eqd), (3, .ref qx), (4, .int v4)]) hx hb d_law_179 hl (by decide) rfl (fun ls hl => ?_)
          refine lv_aload_n hx hb d_law_181 rfl (lv_at hl 3 rfl) ?_
          refine lv_aload_n hx hb d_law_182 rfl (lv_at hl 1 rfl) ?_
          refine lv_iload hx hb d_law_183 (lv_at hl 5 rfl) ?_
          refine lv_iconst (v := 1) hx hb d_law_185 (by decide) ?_
          refine lv_iadd hx hb d_law_186 ?_
          refine va_sld hx hb hX hbl hbA hS h.1 d_law_187 ?_
          have h := h.2
          refine lv_topi (fun x_24 ex_24 => ?_)
          have h := h x_24 ex_24
          refine zz_Wi (As := [.int x_24]) (rest := []) (wc := wD eqd eqmemory eqr eqcounts cI cB ms2 yddd ydLwhole ydLwhole2 ydbm ydrr ydkt) (wr := [(qx, .inl (cJ, 1, .inr (.inl u_22.2))), (qc, .inr (5, [.ref qm, .ref qp])), (qp, .inr (4, [.ref qm, .ref qr, .ref qh, .ref qu, .int (u_22.1.1 0), .int (u_22.1.1 1), .int (u_22.1.1 2), .int (u_22.1.1 3), .int (u_22.1.1 4), .int (u_22.1.1 5), .int (u_22.1.1 6), .int (u_22.1.1 7), .int (u_22.1.1 8), .int (u_22.1.1 9), .int (u_22.1.1 10), .int (u_22.1.1 11)])), (qr, .inl (cI, 32, .inl u_22.1.2.1)), (qh, .inr (2, [.int (u_22.1.2.2.1 0), .int (u_22.1.2.2.1 1), .int (u_22.1.2.2.1 2), .int (u_22.1.2.2.1 3)])), (qm, .inr (3, [.int ms, .ref qw])), (qw, .inl (cI, mn, .inl u_22.1.2.2.2.1)), (qu, .inr (1, [.ref qf, .int u_22.1.2.2.2.2.1, .ref ql, .ref qo])), (qf, .inl (cI, 32, .inl u_22.1.2.2.2.2.2.1)), (ql, .inr (0, [.int u_22.1.2.2.2.2.2.2.1.1, .int u_22.1.2.2.2.2.2.2.1.2.1, .int u_22.1.2.2.2.2.2.2.1.2.2.1, .long u_22.1.2.2.2.2.2.2.1.2.2.2])), (qo, .inr (0, [.int u_22.1.2.2.2.2.2.2.2.1, .int u_22.1.2.2.2.2.2.2.2.2.1, .int u_22.1.2.2.2.2.2.2.2.2.2.1, .long u_22.1.2.2.2.2.2.2.2.2.2.2]))]) X hKd hP hD hS hA (c_Md_word l D cI cB eqd eqmemory eqr eqcounts ms2 yddd ydLwhole ydLwhole2 ydbm ydrr ydkt x_24 _ h _) ⟨rfl, rfl⟩ m_Md_word k_La_64 ⟨Nat.le_of_ble_eq_true rfl, Nat.le_of_ble_eq_true rfl⟩ [11, 12, 13, 14] [0, 1, 2, 3, 4, 5, 6, 7, 8, 9, 10] rfl rfl (by decide) (by decide) (by decide) 6 11 rfl rfl rfl rfl hl.1 rfl (Nat.le_of_ble_eq_true rfl) d_law_188 hf0 (fun r_26 u_25 H locs h hP hD hS => ?_)
          have hP : va_P D vwCl (wA qx qc qp qr qh qm qw qu qf ql qo eqd eqmemory eqr eqcounts cI cJ cB ms mn ms2 u_22.1.1 u_22.1.2.1 u_22.1.2.2.1 u_22.1.2.2.2.1 u_22.1.2.2.2.2.1 u_22.1.2.2.2.2.2.1 u_22.1.2.2.2.2.2.2.1 u_22.1.2.2.2.2.2.2.2 u_22.2 u_25.1 u_25.2.1 u_25.2.2.1 u_25.2.2.2.1 u_25.2.2.2.2.1 u_25.2.2.2.2.2) H := hP.sub [0, 1, 2, 3, 4, 5, 6, 7, 8, 9, 10, 11, 12, 13, 14] rfl
          have hD : va_D A (wA qx qc qp qr qh qm qw qu qf ql qo eqd eqmemory eqr eqcounts cI cJ cB ms mn ms2 u_22.1.1 u_22.1.2.1 u_22.1.2.2.1 u_22.1.2.2.2.1 u_22.1.2.2.2.2.1 u_22.1.2.2.2.2.2.1 u_22.1.2.2.2.2.2.2.1 u_22.1.2.2.2.2.2.2.2 u_22.2 u_25.1 u_25.2.1 u_25.2.2.1 u_25.2.2.2.1 u_25.2.2.2.2.1 u_25.2.2.2.2.2) := hD.sub [0, 1, 2, 3, 4, 5, 6, 7, 8, 9, 10, 11, 12, 13, 14] (by decide) rfl
          refine lv_istore (lv' := [(6, .int r_26), (5, .int r_23), (0, .ref b), (1, .ref qc), (2, .ref eqd), (3, .ref qx), (4, .int v4)]) hx hb d_law_191 hl (by decide) rfl (fun ls hl => ?_)
          refine lv_aload_n hx hb d_law_193 rfl (lv_at hl 4 rfl) ?_
          refine zz_Ri (As := []) (rest := []) (wc := wD eqd eqmemory eqr eqcounts cI cB ms2 u_25.1 u_25.2.1 u_25.2.2.1 u_25.2.2.2.1 u_25.2.2.2.2.1 u_25.2.2.2.2.2) X hKd hP (c_Md_thrown l D cI cB eqd eqmemory eqr eqcounts ms2 u_25.1 u_25.2.1 u_25.2.2.1 u_25.2.2.2.1 u_25.2.2.2.2.1 u_25.2.2.2.2.2 _ h) ⟨rfl, rfl⟩ m_Md_thrown k_La_58 ⟨Nat.le_of_ble_eq_true rfl, Nat.le_of_ble_eq_true rfl⟩ [11, 12, 13, 14] rfl 6 11 rfl rfl rfl rfl hl.1 rfl (Nat.le_of_ble_eq_true rfl) d_law_194 hf0 (fun r_27 h => ?_)
          refine lv_iload hx hb d_law_197 (lv_at hl 1 rfl) ?_
          refine lv_icmp_eq (tgt := 204) hx hb d_law_199 (by decide) (fun c_28 => ?_) (fun c_28 => ?_)
          · skip
            have h := h.1 c_28
            refine lv_iload hx hb d_law_204 (lv_at hl 1 rfl) ?_
            refine lv_if_ne (tgt := 221) hx hb d_law_206 (by decide) (fun c_29 => ?_) (fun c_29 => ?_)
            · skip
              have h := h.2 c_29
              refine lv_goto (tgt := 573) hx hb d_law_221 (by decide) ?_
              obtain ⟨x_30, ex_30⟩ : ∃ y : Int32, y = v4 + 3 := ⟨_, rfl⟩
              have h := h x_30 ex_30
              refine lv_iinc (v := x_30) (lv' := [(4, .int x_30), (6, .int r_26), (5, .int r_23), (0, .ref b), (1, .ref qc), (2, .ref eqd), (3, .ref qx)]) hx hb d_law_573 hl (k := 6) rfl (by rw [ex_30]; rfl) (by decide) rfl (fun ls hl => ?_)
              refine lv_goto (tgt := 33) hx hb d_law_576 (by decide) ?_
              exact ih x_30 u_22.1.1 u_22.1.2.1 u_22.1.2.2.1 u_22.1.2.2.2.1 u_22.1.2.2.2.2.1 u_22.1.2.2.2.2.2.1 u_22.1.2.2.2.2.2.2.1 u_22.1.2.2.2.2.2.2.2 u_22.2 u_25.1 u_25.2.1 u_25.2.2.1 u_25.2.2.2.1 u_25.2.2.2.2.1 u_25.2.2.2.2.2 h (cN + 1) (sN + 6) (by omega) (by omega) _ _ hP hD hS ls (lv_sub hl [3, 4, 5, 6, 0] rfl)
            · skip
              have h := h.1 c_29
              refine lv_aload_n hx hb d_law_209 rfl (lv_at hl 5 rfl) ?_
              refine lv_iconst (v := 0) hx hb d_law_210 (by decide) ?_
              refine va_lald (f := u_22.2) hx hb hK hP 0 1 rfl rfl (by unfold vp_in; decide) d_law_211 ?_
              refine lv_topl (fun x_31 ex_31 => ?_)
              have h := h x_31 ex_31
              refine lv_iload hx hb d_law_212 (lv_at hl 0 rfl) ?_
              refine lv_i2l (v := r_26.toInt64) hx hb d_law_214 rfl ?_
              refine W.lcmp hx hb d_law_215 ?_
              refine lv_if_eq (tgt := 221) hx hb d_law_216 (by decide) (fun c_32 => ?_) (fun c_32 => ?_)
              · have kc_32 := ((lg_cmp_eq _ _).mp c_32)
                have h := h.1 kc_32
                refine lv_goto (tgt := 573) hx hb d_law_221 (by decide) ?_
                obtain ⟨x_33, ex_33⟩ : ∃ y : Int32, y = v4 + 3 := ⟨_, rfl⟩
                have h := h x_33 ex_33
                refine lv_iinc (v := x_33) (lv' := [(4, .int x_33), (6, .int r_26), (5, .int r_23), (0, .ref b), (1, .ref qc), (2, .ref eqd), (3, .ref qx)]) hx hb d_law_573 hl (k := 6) rfl (by rw [ex_33]; rfl) (by decide) rfl (fun ls hl => ?_)
                refine lv_goto (tgt := 33) hx hb d_law_576 (by decide) ?_
                exact ih x_33 u_22.1.1 u_22.1.2.1 u_22.1.2.2.1 u_22.1.2.2.2.1 u_22.1.2.2.2.2.1 u_22.1.2.2.2.2.2.1 u_22.1.2.2.2.2.2.2.1 u_22.1.2.2.2.2.2.2.2 u_22.2 u_25.1 u_25.2.1 u_25.2.2.1 u_25.2.2.2.1 u_25.2.2.2.2.1 u_25.2.2.2.2.2 h (cN + 1) (sN + 6) (by omega) (by omega) _ _ hP hD hS ls (lv_sub hl [3, 4, 5, 6, 0] rfl)
              · have kc_32 := (fun q => c_32 ((lg_cmp_eq _ _).mpr q))
                have h := h.2 kc_32
                refine lv_iconst (v := 0) hx hb d_law_219 (by decide) ?_
                exact False.elim h
          · skip
            have h := h.2 c_28
            refine lv_iconst (v := 0) hx hb d_law_202 (by decide) ?_
            exact False.elim h
        · have h := h.2 c_20
          by_cases c_34 : (x_3 &&& (15 : Int32)) = (2 : Int32)
          · have h := h.1 c_34
            have h0 := c_34
            refine lv_tableIn (off := 175) (tgt := 224) hx hb d_law_49 (by rw [h0]; decide) (by rw [h0]; decide) (by rw [h0]; rfl) (by decide) ?_
            refine lv_aload_n hx hb d_law_224 rfl (lv_at hl 1 rfl) ?_
            refine lv_aload_n hx hb d_law_225 rfl (lv_at hl 0 rfl) ?_
            refine lv_iload hx hb d_law_226 (lv_at hl 4 rfl) ?_
            refine lv_iconst (v := 1) hx hb d_law_228 (by decide) ?_
            refine lv_iadd hx hb d_law_229 ?_
            refine va_sld hx hb hX hbl hbA hS h.1 d_law_230 ?_
            have h := h.2
            refine lv_topi (fun x_35 ex_35 => ?_)
            have h := h x_35 ex_35
            refine lv_aload_n hx hb d_law_231 rfl (lv_at hl 3 rfl) ?_
            refine zz_SWi (As := [.ref qc, .int x_35, .ref qx]) (rest := []) (wc := wL qx qc qp qr qh qm qw qu qf ql qo cI cJ ms mn yg yrg yhq ymf ycd yfg yL yO yov) (wr := [(eqd, .inr (6, [.int (yddd 0), .ref eqmemory, .int ms2, .ref eqr, .int (yddd 1), .int (yddd 2), .int (yddd 3), .int (yddd 4), .int (yddd 5), .int (yddd 6), .int (yddd 7), .int (yddd 8), .ref eqcounts, .int (yddd 9), .int (yddd 10), .int (yddd 11), .int (yddd 12), .int (yddd 13), .int (yddd 14), .int (yddd 15), .int (yddd 16), .int (yddd 17), .int (yddd 18), .int (yddd 19), .long ydLwhole, .long ydLwhole2])), (eqmemory, .inl (cB, 262144, .inl ydbm)), (eqr, .inl (cI, 67, .inl ydrr)), (eqcounts, .inl (cI, 5, .inl ydkt))]) X hKw hP hD hS hA hE hNc (c_La_go l hl0 D cI cJ qx qc qp qr qh qm qw qu qf ql qo ms mn yg yrg yhq ymf ycd yfg yL yO yov x_35 _ h _) ⟨rfl, rfl⟩ ms_La_go k_La_65 ⟨Nat.le_of_ble_eq_true rfl, Nat.le_of_ble_eq_true rfl⟩ [0, 1, 2, 3, 4, 5, 6, 7, 8, 9, 10] [11, 12, 13, 14] rfl rfl (by decide) (by decide) (by decide) rfl hl.1 rfl (Nat.le_of_ble_eq_true rfl) d_law_232 ⟨by show cN + 1 ≤ 600002; omega, by show sN + 6 ≤ 7302198; omega⟩ (fun r_37 u_36 H locs h hP hD hS => ?_)
            have hP : va_P D vwCl (wA qx qc qp qr qh qm qw qu qf ql qo eqd eqmemory eqr eqcounts cI cJ cB ms mn ms2 u_36.1.1 u_36.1.2.1 u_36.1.2.2.1 u_36.1.2.2.2.1 u_36.1.2.2.2.2.1 u_36.1.2.2.2.2.2.1 u_36.1.2.2.2.2.2.2.1 u_36.1.2.2.2.2.2.2.2 u_36.2 yddd ydLwhole ydLwhole2 ydbm ydrr ydkt) H := hP.sub [4, 5, 6, 7, 8, 9, 10, 11, 12, 13, 14, 0, 1, 2, 3] rfl
            have hD : va_D A (wA qx qc qp qr qh qm qw qu qf ql qo eqd eqmemory eqr eqcounts cI cJ cB ms mn ms2 u_36.1.1 u_36.1.2.1 u_36.1.2.2.1 u_36.1.2.2.2.1 u_36.1.2.2.2.2.1 u_36.1.2.2.2.2.2.1 u_36.1.2.2.2.2.2.2.1 u_36.1.2.2.2.2.2.2.2 u_36.2 yddd ydLwhole ydLwhole2 ydbm ydrr ydkt) := hD.sub [4, 5, 6, 7, 8, 9, 10, 11, 12, 13, 14, 0, 1, 2, 3] (by decide) rfl
            have hf0 : (cN + 1) + 0 ≤ room_1.cells ∧ (sN + 6) + 0 ≤ room_1.slots := ⟨by show (cN + 1) + 0 ≤ 600002; omega, by show (sN + 6) + 0 ≤ 7302198; omega⟩
            refine lv_istore (lv' := [(5, .int r_37), (0, .ref b), (1, .ref qc), (2, .ref eqd), (3, .ref qx), (4, .int v4)]) hx hb d_law_235 hl (by decide) rfl (fun ls hl => ?_)
            refine lv_aload_n hx hb d_law_237 rfl (lv_at hl 3 rfl) ?_
            refine lv_aload_n hx hb d_law_238 rfl (lv_at hl 1 rfl) ?_
            refine lv_iload hx hb d_law_239 (lv_at hl 5 rfl) ?_
            refine lv_iconst (v := 1) hx hb d_law_241 (by decide) ?_
            refine lv_iadd hx hb d_law_242 ?_
            refine va_sld hx hb hX hbl hbA hS h.1 d_law_243 ?_
            have h := h.2
            refine lv_topi (fun x_38 ex_38 => ?_)
            have h := h x_38 ex_38
            refine zz_Wi (As := [.int x_38]) (rest := []) (wc := wD eqd eqmemory eqr eqcounts cI cB ms2 yddd ydLwhole ydLwhole2 ydbm ydrr ydkt) (wr := [(qx, .inl (cJ, 1, .inr (.inl u_36.2))), (qc, .inr (5, [.ref qm, .ref qp])), (qp, .inr (4, [.ref qm, .ref qr, .ref qh, .ref qu, .int (u_36.1.1 0), .int (u_36.1.1 1), .int (u_36.1.1 2), .int (u_36.1.1 3), .int (u_36.1.1 4), .int (u_36.1.1 5), .int (u_36.1.1 6), .int (u_36.1.1 7), .int (u_36.1.1 8), .int (u_36.1.1 9), .int (u_36.1.1 10), .int (u_36.1.1 11)])), (qr, .inl (cI, 32, .inl u_36.1.2.1)), (qh, .inr (2, [.int (u_36.1.2.2.1 0), .int (u_36.1.2.2.1 1), .int (u_36.1.2.2.1 2), .int (u_36.1.2.2.1 3)])), (qm, .inr (3, [.int ms, .ref qw])), (qw, .inl (cI, mn, .inl u_36.1.2.2.2.1)), (qu, .inr (1, [.ref qf, .int u_36.1.2.2.2.2.1, .ref ql, .ref qo])), (qf, .inl (cI, 32, .inl u_36.1.2.2.2.2.2.1)), (ql, .inr (0, [.int u_36.1.2.2.2.2.2.2.1.1, .int u_36.1.2.2.2.2.2.2.1.2.1, .int u_36.1.2.2.2.2.2.2.1.2.2.1, .long u_36.1.2.2.2.2.2.2.1.2.2.2])), (qo, .inr (0, [.int u_36.1.2.2.2.2.2.2.2.1, .int u_36.1.2.2.2.2.2.2.2.2.1, .int u_36.1.2.2.2.2.2.2.2.2.2.1, .long u_36.1.2.2.2.2.2.2.2.2.2.2]))]) X hKd hP hD hS hA (c_Md_go l D cI cB eqd eqmemory eqr eqcounts ms2 yddd ydLwhole ydLwhole2 ydbm ydrr ydkt x_38 _ h _) ⟨rfl, rfl⟩ m_Md_go k_La_67 ⟨Nat.le_of_ble_eq_true rfl, Nat.le_of_ble_eq_true rfl⟩ [11, 12, 13, 14] [0, 1, 2, 3, 4, 5, 6, 7, 8, 9, 10] rfl rfl (by decide) (by decide) (by decide) 6 11 rfl rfl rfl rfl hl.1 rfl (Nat.le_of_ble_eq_true rfl) d_law_244 hf0 (fun r_40 u_39 H locs h hP hD hS => ?_)
            have hP : va_P D vwCl (wA qx qc qp qr qh qm qw qu qf ql qo eqd eqmemory eqr eqcounts cI cJ cB ms mn ms2 u_36.1.1 u_36.1.2.1 u_36.1.2.2.1 u_36.1.2.2.2.1 u_36.1.2.2.2.2.1 u_36.1.2.2.2.2.2.1 u_36.1.2.2.2.2.2.2.1 u_36.1.2.2.2.2.2.2.2 u_36.2 u_39.1 u_39.2.1 u_39.2.2.1 u_39.2.2.2.1 u_39.2.2.2.2.1 u_39.2.2.2.2.2) H := hP.sub [0, 1, 2, 3, 4, 5, 6, 7, 8, 9, 10, 11, 12, 13, 14] rfl
            have hD : va_D A (wA qx qc qp qr qh qm qw qu qf ql qo eqd eqmemory eqr eqcounts cI cJ cB ms mn ms2 u_36.1.1 u_36.1.2.1 u_36.1.2.2.1 u_36.1.2.2.2.1 u_36.1.2.2.2.2.1 u_36.1.2.2.2.2.2.1 u_36.1.2.2.2.2.2.2.1 u_36.1.2.2.2.2.2.2.2 u_36.2 u_39.1 u_39.2.1 u_39.2.2.1 u_39.2.2.2.1 u_39.2.2.2.2.1 u_39.2.2.2.2.2) := hD.sub [0, 1, 2, 3, 4, 5, 6, 7, 8, 9, 10, 11, 12, 13, 14] (by decide) rfl
            refine lv_istore (lv' := [(6, .int r_40), (5, .int r_37), (0, .ref b), (1, .ref qc), (2, .ref eqd), (3, .ref qx), (4, .int v4)]) hx hb d_law_247 hl (by decide) rfl (fun ls hl => ?_)
            refine lv_aload_n hx hb d_law_249 rfl (lv_at hl 4 rfl) ?_
            refine zz_Ri (As := []) (rest := []) (wc := wD eqd eqmemory eqr eqcounts cI cB ms2 u_39.1 u_39.2.1 u_39.2.2.1 u_39.2.2.2.1 u_39.2.2.2.2.1 u_39.2.2.2.2.2) X hKd hP (c_Md_thrown l D cI cB eqd eqmemory eqr eqcounts ms2 u_39.1 u_39.2.1 u_39.2.2.1 u_39.2.2.2.1 u_39.2.2.2.2.1 u_39.2.2.2.2.2 _ h) ⟨rfl, rfl⟩ m_Md_thrown k_La_58 ⟨Nat.le_of_ble_eq_true rfl, Nat.le_of_ble_eq_true rfl⟩ [11, 12, 13, 14] rfl 6 11 rfl rfl rfl rfl hl.1 rfl (Nat.le_of_ble_eq_true rfl) d_law_250 hf0 (fun r_41 h => ?_)
            refine lv_iload hx hb d_law_253 (lv_at hl 1 rfl) ?_
            refine lv_icmp_eq (tgt := 260) hx hb d_law_255 (by decide) (fun c_42 => ?_) (fun c_42 => ?_)
            · skip
              have h := h.1 c_42
              refine lv_iload hx hb d_law_260 (lv_at hl 1 rfl) ?_
              refine lv_if_ne (tgt := 277) hx hb d_law_262 (by decide) (fun c_43 => ?_) (fun c_43 => ?_)
              · skip
                have h := h.2 c_43
                refine lv_goto (tgt := 573) hx hb d_law_277 (by decide) ?_
                obtain ⟨x_44, ex_44⟩ : ∃ y : Int32, y = v4 + 3 := ⟨_, rfl⟩
                have h := h x_44 ex_44
                refine lv_iinc (v := x_44) (lv' := [(4, .int x_44), (6, .int r_40), (5, .int r_37), (0, .ref b), (1, .ref qc), (2, .ref eqd), (3, .ref qx)]) hx hb d_law_573 hl (k := 6) rfl (by rw [ex_44]; rfl) (by decide) rfl (fun ls hl => ?_)
                refine lv_goto (tgt := 33) hx hb d_law_576 (by decide) ?_
                exact ih x_44 u_36.1.1 u_36.1.2.1 u_36.1.2.2.1 u_36.1.2.2.2.1 u_36.1.2.2.2.2.1 u_36.1.2.2.2.2.2.1 u_36.1.2.2.2.2.2.2.1 u_36.1.2.2.2.2.2.2.2 u_36.2 u_39.1 u_39.2.1 u_39.2.2.1 u_39.2.2.2.1 u_39.2.2.2.2.1 u_39.2.2.2.2.2 h (cN + 1) (sN + 6) (by omega) (by omega) _ _ hP hD hS ls (lv_sub hl [3, 4, 5, 6, 0] rfl)
              · skip
                have h := h.1 c_43
                refine lv_aload_n hx hb d_law_265 rfl (lv_at hl 5 rfl) ?_
                refine lv_iconst (v := 0) hx hb d_law_266 (by decide) ?_
                refine va_lald (f := u_36.2) hx hb hK hP 0 1 rfl rfl (by unfold vp_in; decide) d_law_267 ?_
                refine lv_topl (fun x_45 ex_45 => ?_)
                have h := h x_45 ex_45
                refine lv_iload hx hb d_law_268 (lv_at hl 0 rfl) ?_
                refine lv_i2l (v := r_40.toInt64) hx hb d_law_270 rfl ?_
                refine W.lcmp hx hb d_law_271 ?_
                refine lv_if_eq (tgt := 277) hx hb d_law_272 (by decide) (fun c_46 => ?_) (fun c_46 => ?_)
                · have kc_46 := ((lg_cmp_eq _ _).mp c_46)
                  have h := h.1 kc_46
                  refine lv_goto (tgt := 573) hx hb d_law_277 (by decide) ?_
                  obtain ⟨x_47, ex_47⟩ : ∃ y : Int32, y = v4 + 3 := ⟨_, rfl⟩
                  have h := h x_47 ex_47
                  refine lv_iinc (v := x_47) (lv' := [(4, .int x_47), (6, .int r_40), (5, .int r_37), (0, .ref b), (1, .ref qc), (2, .ref eqd), (3, .ref qx)]) hx hb d_law_573 hl (k := 6) rfl (by rw [ex_47]; rfl) (by decide) rfl (fun ls hl => ?_)
                  refine lv_goto (tgt := 33) hx hb d_law_576 (by decide) ?_
                  exact ih x_47 u_36.1.1 u_36.1.2.1 u_36.1.2.2.1 u_36.1.2.2.2.1 u_36.1.2.2.2.2.1 u_36.1.2.2.2.2.2.1 u_36.1.2.2.2.2.2.2.1 u_36.1.2.2.2.2.2.2.2 u_36.2 u_39.1 u_39.2.1 u_39.2.2.1 u_39.2.2.2.1 u_39.2.2.2.2.1 u_39.2.2.2.2.2 h (cN + 1) (sN + 6) (by omega) (by omega) _ _ hP hD hS ls (lv_sub hl [3, 4, 5, 6, 0] rfl)
                · have kc_46 := (fun q => c_46 ((lg_cmp_eq _ _).mpr q))
                  have h := h.2 kc_46
                  refine lv_iconst (v := 0) hx hb d_law_275 (by decide) ?_
                  exact False.elim h
            · skip
              have h := h.2 c_42
              refine lv_iconst (v := 0) hx hb d_law_258 (by decide) ?_
              exact False.elim h
          · have h := h.2 c_34
            by_cases c_48 : (x_3 &&& (15 : Int32)) = (3 : Int32)
            · have h := h.1 c_48
              have h0 := c_48
              refine lv_tableIn (off := 231) (tgt := 280) hx hb d_law_49 (by rw [h0]; decide) (by rw [h0]; decide) (by rw [h0]; rfl) (by decide) ?_
              refine lv_aload_n hx hb d_law_280 rfl (lv_at hl 1 rfl) ?_
              refine lv_aload_n hx hb d_law_281 rfl (lv_at hl 0 rfl) ?_
              refine lv_iload hx hb d_law_282 (lv_at hl 4 rfl) ?_
              refine lv_iconst (v := 1) hx hb d_law_284 (by decide) ?_
              refine lv_iadd hx hb d_law_285 ?_
              refine va_sld hx hb hX hbl hbA hS h.1 d_law_286 ?_
              have h := h.2
              refine lv_topi (fun x_49 ex_49 => ?_)
              have h := h x_49 ex_49
              refine lv_aload_n hx hb d_law_287 rfl (lv_at hl 0 rfl) ?_
              refine lv_iload hx hb d_law_288 (lv_at hl 4 rfl) ?_
              refine lv_iconst (v := 2) hx hb d_law_290 (by decide) ?_
              refine lv_iadd hx hb d_law_291 ?_
              refine va_sld hx hb hX hbl hbA hS h.1 d_law_292 ?_
              have h := h.2
              refine lv_topi (fun x_50 ex_50 => ?_)
              have h := h x_50 ex_50
              refine lv_aload_n hx hb d_law_293 rfl (lv_at hl 3 rfl) ?_
              refine zz_SWi (As := [.ref qc, .int x_49, .int x_50, .ref qx]) (rest := []) (wc := wL qx qc qp qr qh qm qw qu qf ql qo cI cJ ms mn yg yrg yhq ymf ycd yfg yL yO yov) (wr := [(eqd, .inr (6, [.int (yddd 0), .ref eqmemory, .int ms2, .ref eqr, .int (yddd 1), .int (yddd 2), .int (yddd 3), .int (yddd 4), .int (yddd 5), .int (yddd 6), .int (yddd 7), .int (yddd 8), .ref eqcounts, .int (yddd 9), .int (yddd 10), .int (yddd 11), .int (yddd 12), .int (yddd 13), .int (yddd 14), .int (yddd 15), .int (yddd 16), .int (yddd 17), .int (yddd 18), .int (yddd 19), .long ydLwhole, .long ydLwhole2])), (eqmemory, .inl (cB, 262144, .inl ydbm)), (eqr, .inl (cI, 67, .inl ydrr)), (eqcounts, .inl (cI, 5, .inl ydkt))]) X hKw hP hD hS hA hE hNc (c_La_set l hl0 D cI cJ qx qc qp qr qh qm qw qu qf ql qo ms mn yg yrg yhq ymf ycd yfg yL yO yov x_49 x_50 _ h _) ⟨rfl, rfl⟩ ms_La_set k_La_68 ⟨Nat.le_of_ble_eq_true rfl, Nat.le_of_ble_eq_true rfl⟩ [0, 1, 2, 3, 4, 5, 6, 7, 8, 9, 10] [11, 12, 13, 14] rfl rfl (by decide) (by decide) (by decide) rfl hl.1 rfl (Nat.le_of_ble_eq_true rfl) d_law_294 ⟨by show cN + 1 ≤ 600002; omega, by show sN + 6 ≤ 7302198; omega⟩ (fun r_52 u_51 H locs h hP hD hS => ?_)
              have hP : va_P D vwCl (wA qx qc qp qr qh qm qw qu qf ql qo eqd eqmemory eqr eqcounts cI cJ cB ms mn ms2 u_51.1.1 u_51.1.2.1 u_51.1.2.2.1 u_51.1.2.2.2.1 u_51.1.2.2.2.2.1 u_51.1.2.2.2.2.2.1 u_51.1.2.2.2.2.2.2.1 u_51.1.2.2.2.2.2.2.2 u_51.2 yddd ydLwhole ydLwhole2 ydbm ydrr ydkt) H := hP.sub [4, 5, 6, 7, 8, 9, 10, 11, 12, 13, 14, 0, 1, 2, 3] rfl
              have hD : va_D A (wA qx qc qp qr qh qm qw qu qf ql qo eqd eqmemory eqr eqcounts cI cJ cB ms mn ms2 u_51.1.1 u_51.1.2.1 u_51.1.2.2.1 u_51.1.2.2.2.1 u_51.1.2.2.2.2.1 u_51.1.2.2.2.2.2.1 u_51.1.2.2.2.2.2.2.1 u_51.1.2.2.2.2.2.2.2 u_51.2 yddd ydLwhole ydLwhole2 ydbm ydrr ydkt) := hD.sub [4, 5, 6, 7, 8, 9, 10, 11, 12, 13, 14, 0, 1, 2, 3] (by decide) rfl
              have hf0 : (cN + 1) + 0 ≤ room_1.cells ∧ (sN + 6) + 0 ≤ room_1.slots := ⟨by show (cN + 1) + 0 ≤ 600002; omega, by show (sN + 6) + 0 ≤ 7302198; omega⟩
              refine lv_istore (lv' := [(5, .int r_52), (0, .ref b), (1, .ref qc), (2, .ref eqd), (3, .ref qx), (4, .int v4)]) hx hb d_law_297 hl (by decide) rfl (fun ls hl => ?_)
              refine lv_aload_n hx hb d_law_299 rfl (lv_at hl 3 rfl) ?_
              refine lv_aload_n hx hb d_law_300 rfl (lv_at hl 1 rfl) ?_
              refine lv_iload hx hb d_law_301 (lv_at hl 5 rfl) ?_
              refine lv_iconst (v := 1) hx hb d_law_303 (by decide) ?_
              refine lv_iadd hx hb d_law_304 ?_
              refine va_sld hx hb hX hbl hbA hS h.1 d_law_305 ?_
              have h := h.2
              refine lv_topi (fun x_53 ex_53 => ?_)
              have h := h x_53 ex_53
              refine lv_aload_n hx hb d_law_306 rfl (lv_at hl 1 rfl) ?_
              refine lv_iload hx hb d_law_307 (lv_at hl 5 rfl) ?_
              refine lv_iconst (v := 2) hx hb d_law_309 (by decide) ?_
              refine lv_iadd hx hb d_law_310 ?_
              refine va_sld hx hb hX hbl hbA hS h.1 d_law_311 ?_
              have h := h.2
              refine lv_topi (fun x_54 ex_54 => ?_)
              have h := h x_54 ex_54
              refine zz_Wi (As := [.int x_53, .int x_54]) (rest := []) (wc := wD eqd eqmemory eqr eqcounts cI cB ms2 yddd ydLwhole ydLwhole2 ydbm ydrr ydkt) (wr := [(qx, .inl (cJ, 1, .inr (.inl u_51.2))), (qc, .inr (5, [.ref qm, .ref qp])), (qp, .inr (4, [.ref qm, .ref qr, .ref qh, .ref qu, .int (u_51.1.1 0), .int (u_51.1.1 1), .int (u_51.1.1 2), .int (u_51.1.1 3), .int (u_51.1.1 4), .int (u_51.1.1 5), .int (u_51.1.1 6), .int (u_51.1.1 7), .int (u_51.1.1 8), .int (u_51.1.1 9), .int (u_51.1.1 10), .int (u_51.1.1 11)])), (qr, .inl (cI, 32, .inl u_51.1.2.1)), (qh, .inr (2, [.int (u_51.1.2.2.1 0), .int (u_51.1.2.2.1 1), .int (u_51.1.2.2.1 2), .int (u_51.1.2.2.1 3)])), (qm, .inr (3, [.int ms, .ref qw])), (qw, .inl (cI, mn, .inl u_51.1.2.2.2.1)), (qu, .inr (1, [.ref qf, .int u_51.1.2.2.2.2.1, .ref ql, .ref qo])), (qf, .inl (cI, 32, .inl u_51.1.2.2.2.2.2.1)), (ql, .inr (0, [.int u_51.1.2.2.2.2.2.2.1.1, .int u_51.1.2.2.2.2.2.2.1.2.1, .int u_51.1.2.2.2.2.2.2.1.2.2.1, .long u_51.1.2.2.2.2.2.2.1.2.2.2])), (qo, .inr (0, [.int u_51.1.2.2.2.2.2.2.2.1, .int u_51.1.2.2.2.2.2.2.2.2.1, .int u_51.1.2.2.2.2.2.2.2.2.2.1, .long u_51.1.2.2.2.2.2.2.2.2.2.2]))]) X hKd hP hD hS hA (c_Md_set l D cI cB eqd eqmemory eqr eqcounts ms2 yddd ydLwhole ydLwhole2 ydbm ydrr ydkt x_53 x_54 _ h _) ⟨rfl, rfl⟩ m_Md_set k_La_70 ⟨Nat.le_of_ble_eq_true rfl, Nat.le_of_ble_eq_true rfl⟩ [11, 12, 13, 14] [0, 1, 2, 3, 4, 5, 6, 7, 8, 9, 10] rfl rfl (by decide) (by decide) (by decide) 6 11 rfl rfl rfl rfl hl.1 rfl (Nat.le_of_ble_eq_true rfl) d_law_312 hf0 (fun r_56 u_55 H locs h hP hD hS => ?_)
              have hP : va_P D vwCl (wA qx qc qp qr qh qm qw qu qf ql qo eqd eqmemory eqr eqcounts cI cJ cB ms mn ms2 u_51.1.1 u_51.1.2.1 u_51.1.2.2.1 u_51.1.2.2.2.1 u_51.1.2.2.2.2.1 u_51.1.2.2.2.2.2.1 u_51.1.2.2.2.2.2.2.1 u_51.1.2.2.2.2.2.2.2 u_51.2 u_55.1 u_55.2.1 u_55.2.2.1 u_55.2.2.2.1 u_55.2.2.2.2.1 u_55.2.2.2.2.2) H := hP.sub [0, 1, 2, 3, 4, 5, 6, 7, 8, 9, 10, 11, 12, 13, 14] rfl
              have hD : va_D A (wA qx qc qp qr qh qm qw qu qf ql qo eqd eqmemory eqr eqcounts cI cJ cB ms mn ms2 u_51.1.1 u_51.1.2.1 u_51.1.2.2.1 u_51.1.2.2.2.1 u_51.1.2.2.2.2.1 u_51.1.2.2.2.2.2.1 u_51.1.2.2.2.2.2.2.1 u_51.1.2.2.2.2.2.2.2 u_51.2 u_55.1 u_55.2.1 u_55.2.2.1 u_55.2.2.2.1 u_55.2.2.2.2.1 u_55.2.2.2.2.2) := hD.sub [0, 1, 2, 3, 4, 5, 6, 7, 8, 9, 10, 11, 12, 13, 14] (by decide) rfl
              refine lv_istore (lv' := [(6, .int r_56), (5, .int r_52), (0, .ref b), (1, .ref qc), (2, .ref eqd), (3, .ref qx), (4, .int v4)]) hx hb d_law_315 hl (by decide) rfl (fun ls hl => ?_)
              refine lv_aload_n hx hb d_law_317 rfl (lv_at hl 4 rfl) ?_
              refine zz_Ri (As := []) (rest := []) (wc := wD eqd eqmemory eqr eqcounts cI cB ms2 u_55.1 u_55.2.1 u_55.2.2.1 u_55.2.2.2.1 u_55.2.2.2.2.1 u_55.2.2.2.2.2) X hKd hP (c_Md_thrown l D cI cB eqd eqmemory eqr eqcounts ms2 u_55.1 u_55.2.1 u_55.2.2.1 u_55.2.2.2.1 u_55.2.2.2.2.1 u_55.2.2.2.2.2 _ h) ⟨rfl, rfl⟩ m_Md_thrown k_La_58 ⟨Nat.le_of_ble_eq_true rfl, Nat.le_of_ble_eq_true rfl⟩ [11, 12, 13, 14] rfl 6 11 rfl rfl rfl rfl hl.1 rfl (Nat.le_of_ble_eq_true rfl) d_law_318 hf0 (fun r_57 h => ?_)
              refine lv_iload hx hb d_law_321 (lv_at hl 1 rfl) ?_
              refine lv_icmp_eq (tgt := 328) hx hb d_law_323 (by decide) (fun c_58 => ?_) (fun c_58 => ?_)
              · skip
                have h := h.1 c_58
                refine lv_iload hx hb d_law_328 (lv_at hl 1 rfl) ?_
                refine lv_if_ne (tgt := 345) hx hb d_law_330 (by decide) (fun c_59 => ?_) (fun c_59 => ?_)
                · skip
                  have h := h.2 c_59
                  refine lv_goto (tgt := 573) hx hb d_law_345 (by decide) ?_
                  obtain ⟨x_60, ex_60⟩ : ∃ y : Int32, y = v4 + 3 := ⟨_, rfl⟩
                  have h := h x_60 ex_60
                  refine lv_iinc (v := x_60) (lv' := [(4, .int x_60), (6, .int r_56), (5, .int r_52), (0, .ref b), (1, .ref qc), (2, .ref eqd), (3, .ref qx)]) hx hb d_law_573 hl (k := 6) rfl (by rw [ex_60]; rfl) (by decide) rfl (fun ls hl => ?_)
                  refine lv_goto (tgt := 33) hx hb d_law_576 (by decide) ?_
                  exact ih x_60 u_51.1.1 u_51.1.2.1 u_51.1.2.2.1 u_51.1.2.2.2.1 u_51.1.2.2.2.2.1 u_51.1.2.2.2.2.2.1 u_51.1.2.2.2.2.2.2.1 u_51.1.2.2.2.2.2.2.2 u_51.2 u_55.1 u_55.2.1 u_55.2.2.1 u_55.2.2.2.1 u_55.2.2.2.2.1 u_55.2.2.2.2.2 h (cN + 1) (sN + 6) (by omega) (by omega) _ _ hP hD hS ls (lv_sub hl [3, 4, 5, 6, 0] rfl)
                · skip
                  have h := h.1 c_59
                  refine lv_aload_n hx hb d_law_333 rfl (lv_at hl 5 rfl) ?_
                  refine lv_iconst (v := 0) hx hb d_law_334 (by decide) ?_
                  refine va_lald (f := u_51.2) hx hb hK hP 0 1 rfl rfl (by unfold vp_in; decide) d_law_335 ?_
                  refine lv_topl (fun x_61 ex_61 => ?_)
                  have h := h x_61 ex_61
                  refine lv_iload hx hb d_law_336 (lv_at hl 0 rfl) ?_
                  refine lv_i2l (v := r_56.toInt64) hx hb d_law_338 rfl ?_
                  refine W.lcmp hx hb d_law_339 ?_
                  refine lv_if_eq (tgt := 345) hx hb d_law_340 (by decide) (fun c_62 => ?_) (fun c_62 => ?_)
                  · have kc_62 := ((lg_cmp_eq _ _).mp c_62)
                    have h := h.1 kc_62
                    refine lv_goto (tgt := 573) hx hb d_law_345 (by decide) ?_
                    obtain ⟨x_63, ex_63⟩ : ∃ y : Int32, y = v4 + 3 := ⟨_, rfl⟩
                    have h := h x_63 ex_63
                    refine lv_iinc (v := x_63) (lv' := [(4, .int x_63), (6, .int r_56), (5, .int r_52), (0, .ref b), (1, .ref qc), (2, .ref eqd), (3, .ref qx)]) hx hb d_law_573 hl (k := 6) rfl (by rw [ex_63]; rfl) (by decide) rfl (fun ls hl => ?_)
                    refine lv_goto (tgt := 33) hx hb d_law_576 (by decide) ?_
                    exact ih x_63 u_51.1.1 u_51.1.2.1 u_51.1.2.2.1 u_51.1.2.2.2.1 u_51.1.2.2.2.2.1 u_51.1.2.2.2.2.2.1 u_51.1.2.2.2.2.2.2.1 u_51.1.2.2.2.2.2.2.2 u_51.2 u_55.1 u_55.2.1 u_55.2.2.1 u_55.2.2.2.1 u_55.2.2.2.2.1 u_55.2.2.2.2.2 h (cN + 1) (sN + 6) (by omega) (by omega) _ _ hP hD hS ls (lv_sub hl [3, 4, 5, 6, 0] rfl)
                  · have kc_62 := (fun q => c_62 ((lg_cmp_eq _ _).mpr q))
                    have h := h.2 kc_62
                    refine lv_iconst (v := 0) hx hb d_law_343 (by decide) ?_
                    exact False.elim h
              · skip
                have h := h.2 c_58
                refine lv_iconst (v := 0) hx hb d_law_326 (by decide) ?_
                exact False.elim h
            · have h := h.2 c_48
              by_cases c_64 : (x_3 &&& (15 : Int32)) = (4 : Int32)
              · have h := h.1 c_64
                have h0 := c_64
                refine lv_tableIn (off := 299) (tgt := 348) hx hb d_law_49 (by rw [h0]; decide) (by rw [h0]; decide) (by rw [h0]; rfl) (by decide) ?_
                refine lv_aload_n hx hb d_law_348 rfl (lv_at hl 1 rfl) ?_
                refine lv_aload_n hx hb d_law_349 rfl (lv_at hl 0 rfl) ?_
                refine lv_iload hx hb d_law_350 (lv_at hl 4 rfl) ?_
                refine lv_iconst (v := 1) hx hb d_law_352 (by decide) ?_
                refine lv_iadd hx hb d_law_353 ?_
                refine va_sld hx hb hX hbl hbA hS h.1 d_law_354 ?_
                have h := h.2
                refine lv_topi (fun x_65 ex_65 => ?_)
                have h := h x_65 ex_65
                refine lv_aload_n hx hb d_law_355 rfl (lv_at hl 3 rfl) ?_
                refine zz_SWi (As := [.ref qc, .int x_65, .ref qx]) (rest := []) (wc := wL qx qc qp qr qh qm qw qu qf ql qo cI cJ ms mn yg yrg yhq ymf ycd yfg yL yO yov) (wr := [(eqd, .inr (6, [.int (yddd 0), .ref eqmemory, .int ms2, .ref eqr, .int (yddd 1), .int (yddd 2), .int (yddd 3), .int (yddd 4), .int (yddd 5), .int (yddd 6), .int (yddd 7), .int (yddd 8), .ref eqcounts, .int (yddd 9), .int (yddd 10), .int (yddd 11), .int (yddd 12), .int (yddd 13), .int (yddd 14), .int (yddd 15), .int (yddd 16), .int (yddd 17), .int (yddd 18), .int (yddd 19), .long ydLwhole, .long ydLwhole2])), (eqmemory, .inl (cB, 262144, .inl ydbm)), (eqr, .inl (cI, 67, .inl ydrr)), (eqcounts, .inl (cI, 5, .inl ydkt))]) X hKw hP hD hS hA hE hNc (c_La_get l hl0 D cI cJ qx qc qp qr qh qm qw qu qf ql qo ms mn yg yrg yhq ymf ycd yfg yL yO yov x_65 _ h _) ⟨rfl, rfl⟩ ms_La_get k_La_71 ⟨Nat.le_of_ble_eq_true rfl, Nat.le_of_ble_eq_true rfl⟩ [0, 1, 2, 3, 4, 5, 6, 7, 8, 9, 10] [11, 12, 13, 14] rfl rfl (by decide) (by decide) (by decide) rfl hl.1 rfl (Nat.le_of_ble_eq_true rfl) d_law_356 ⟨by show cN + 1 ≤ 600002; omega, by show sN + 6 ≤ 7302198; omega⟩ (fun r_67 u_66 H locs h hP hD hS => ?_)
                have hP : va_P D vwCl (wA qx qc qp qr qh qm qw qu qf ql qo eqd eqmemory eqr eqcounts cI cJ cB ms mn ms2 u_66.1.1 u_66.1.2.1 u_66.1.2.2.1 u_66.1.2.2.2.1 u_66.1.2.2.2.2.1 u_66.1.2.2.2.2.2.1 u_66.1.2.2.2.2.2.2.1 u_66.1.2.2.2.2.2.2.2 u_66.2 yddd ydLwhole ydLwhole2 ydbm ydrr ydkt) H := hP.sub [4, 5, 6, 7, 8, 9, 10, 11, 12, 13, 14, 0, 1, 2, 3] rfl
                have hD : va_D A (wA qx qc qp qr qh qm qw qu qf ql qo eqd eqmemory eqr eqcounts cI cJ cB ms mn ms2 u_66.1.1 u_66.1.2.1 u_66.1.2.2.1 u_66.1.2.2.2.1 u_66.1.2.2.2.2.1 u_66.1.2.2.2.2.2.1 u_66.1.2.2.2.2.2.2.1 u_66.1.2.2.2.2.2.2.2 u_66.2 yddd ydLwhole ydLwhole2 ydbm ydrr ydkt) := hD.sub [4, 5, 6, 7, 8, 9, 10, 11, 12, 13, 14, 0, 1, 2, 3] (by decide) rfl
                have hf0 : (cN + 1) + 0 ≤ room_1.cells ∧ (sN + 6) + 0 ≤ room_1.slots := ⟨by show (cN + 1) + 0 ≤ 600002; omega, by show (sN + 6) + 0 ≤ 7302198; omega⟩
                refine lv_istore (lv' := [(5, .int r_67), (0, .ref b), (1, .ref qc), (2, .ref eqd), (3, .ref qx), (4, .int v4)]) hx hb d_law_359 hl (by decide) rfl (fun ls hl => ?_)
                refine lv_aload_n hx hb d_law_361 rfl (lv_at hl 3 rfl) ?_
                refine lv_aload_n hx hb d_law_362 rfl (lv_at hl 1 rfl) ?_
                refine lv_iload hx hb d_law_363 (lv_at hl 5 rfl) ?_
                refine lv_iconst (v := 1) hx hb d_law_365 (by decide) ?_
                refine lv_iadd hx hb d_law_366 ?_
                refine va_sld hx hb hX hbl hbA hS h.1 d_law_367 ?_
                have h := h.2
                refine lv_topi (fun x_68 ex_68 => ?_)
                have h := h x_68 ex_68
                refine zz_Wi (As := [.int x_68]) (rest := []) (wc := wD eqd eqmemory eqr eqcounts cI cB ms2 yddd ydLwhole ydLwhole2 ydbm ydrr ydkt) (wr := [(qx, .inl (cJ, 1, .inr (.inl u_66.2))), (qc, .inr (5, [.ref qm, .ref qp])), (qp, .inr (4, [.ref qm, .ref qr, .ref qh, .ref qu, .int (u_66.1.1 0), .int (u_66.1.1 1), .int (u_66.1.1 2), .int (u_66.1.1 3), .int (u_66.1.1 4), .int (u_66.1.1 5), .int (u_66.1.1 6), .int (u_66.1.1 7), .int (u_66.1.1 8), .int (u_66.1.1 9), .int (u_66.1.1 10), .int (u_66.1.1 11)])), (qr, .inl (cI, 32, .inl u_66.1.2.1)), (qh, .inr (2, [.int (u_66.1.2.2.1 0), .int (u_66.1.2.2.1 1), .int (u_66.1.2.2.1 2), .int (u_66.1.2.2.1 3)])), (qm, .inr (3, [.int ms, .ref qw])), (qw, .inl (cI, mn, .inl u_66.1.2.2.2.1)), (qu, .inr (1, [.ref qf, .int u_66.1.2.2.2.2.1, .ref ql, .ref qo])), (qf, .inl (cI, 32, .inl u_66.1.2.2.2.2.2.1)), (ql, .inr (0, [.int u_66.1.2.2.2.2.2.2.1.1, .int u_66.1.2.2.2.2.2.2.1.2.1, .int u_66.1.2.2.2.2.2.2.1.2.2.1, .long u_66.1.2.2.2.2.2.2.1.2.2.2])), (qo, .inr (0, [.int u_66.1.2.2.2.2.2.2.2.1, .int u_66.1.2.2.2.2.2.2.2.2.1, .int u_66.1.2.2.2.2.2.2.2.2.2.1, .long u_66.1.2.2.2.2.2.2.2.2.2.2]))]) X hKd hP hD hS hA (c_Md_get l D cI cB eqd eqmemory eqr eqcounts ms2 yddd ydLwhole ydLwhole2 ydbm ydrr ydkt x_68 _ h _) ⟨rfl, rfl⟩ m_Md_get k_La_73 ⟨Nat.le_of_ble_eq_true rfl, Nat.le_of_ble_eq_true rfl⟩ [11, 12, 13, 14] [0, 1, 2, 3, 4, 5, 6, 7, 8, 9, 10] rfl rfl (by decide) (by decide) (by decide) 6 11 rfl rfl rfl rfl hl.1 rfl (Nat.le_of_ble_eq_true rfl) d_law_368 hf0 (fun r_70 u_69 H locs h hP hD hS => ?_)
                have hP : va_P D vwCl (wA qx qc qp qr qh qm qw qu qf ql qo eqd eqmemory eqr eqcounts cI cJ cB ms mn ms2 u_66.1.1 u_66.1.2.1 u_66.1.2.2.1 u_66.1.2.2.2.1 u_66.1.2.2.2.2.1 u_66.1.2.2.2.2.2.1 u_66.1.2.2.2.2.2.2.1 u_66.1.2.2.2.2.2.2.2 u_66.2 u_69.1 u_69.2.1 u_69.2.2.1 u_69.2.2.2.1 u_69.2.2.2.2.1 u_69.2.2.2.2.2) H := hP.sub [0, 1, 2, 3, 4, 5, 6, 7, 8, 9, 10, 11, 12, 13, 14] rfl
                have hD : va_D A (wA qx qc qp qr qh qm qw qu qf ql qo eqd eqmemory eqr eqcounts cI cJ cB ms mn ms2 u_66.1.1 u_66.1.2.1 u_66.1.2.2.1 u_66.1.2.2.2.1 u_66.1.2.2.2.2.1 u_66.1.2.2.2.2.2.1 u_66.1.2.2.2.2.2.2.1 u_66.1.2.2.2.2.2.2.2 u_66.2 u_69.1 u_69.2.1 u_69.2.2.1 u_69.2.2.2.1 u_69.2.2.2.2.1 u_69.2.2.2.2.2) := hD.sub [0, 1, 2, 3, 4, 5, 6, 7, 8, 9, 10, 11, 12, 13, 14] (by decide) rfl
                refine lv_istore (lv' := [(6, .int r_70), (5, .int r_67), (0, .ref b), (1, .ref qc), (2, .ref eqd), (3, .ref qx), (4, .int v4)]) hx hb d_law_371 hl (by decide) rfl (fun ls hl => ?_)
                refine lv_aload_n hx hb d_law_373 rfl (lv_at hl 4 rfl) ?_
                refine zz_Ri (As := []) (rest := []) (wc := wD eqd eqmemory eqr eqcounts cI cB ms2 u_69.1 u_69.2.1 u_69.2.2.1 u_69.2.2.2.1 u_69.2.2.2.2.1 u_69.2.2.2.2.2) X hKd hP (c_Md_thrown l D cI cB eqd eqmemory eqr eqcounts ms2 u_69.1 u_69.2.1 u_69.2.2.1 u_69.2.2.2.1 u_69.2.2.2.2.1 u_69.2.2.2.2.2 _ h) ⟨rfl, rfl⟩ m_Md_thrown k_La_58 ⟨Nat.le_of_ble_eq_true rfl, Nat.le_of_ble_eq_true rfl⟩ [11, 12, 13, 14] rfl 6 11 rfl rfl rfl rfl hl.1 rfl (Nat.le_of_ble_eq_true rfl) d_law_374 hf0 (fun r_71 h => ?_)
                refine lv_iload hx hb d_law_377 (lv_at hl 1 rfl) ?_
                refine lv_icmp_eq (tgt := 384) hx hb d_law_379 (by decide) (fun c_72 => ?_) (fun c_72 => ?_)
                · skip
                  have h := h.1 c_72
                  refine lv_iload hx hb d_law_384 (lv_at hl 1 rfl) ?_
                  refine lv_if_ne (tgt := 401) hx hb d_law_386 (by decide) (fun c_73 => ?_) (fun c_73 => ?_)
                  · skip
                    have h := h.2 c_73
                    refine lv_goto (tgt := 573) hx hb d_law_401 (by decide) ?_
                    obtain ⟨x_74, ex_74⟩ : ∃ y : Int32, y = v4 + 3 := ⟨_, rfl⟩
                    have h := h x_74 ex_74
                    refine lv_iinc (v := x_74) (lv' := [(4, .int x_74), (6, .int r_70), (5, .int r_67), (0, .ref b), (1, .ref qc), (2, .ref eqd), (3, .ref qx)]) hx hb d_law_573 hl (k := 6) rfl (by rw [ex_74]; rfl) (by decide) rfl (fun ls hl => ?_)
                    refine lv_goto (tgt := 33) hx hb d_law_576 (by decide) ?_
                    exact ih x_74 u_66.1.1 u_66.1.2.1 u_66.1.2.2.1 u_66.1.2.2.2.1 u_66.1.2.2.2.2.1 u_66.1.2.2.2.2.2.1 u_66.1.2.2.2.2.2.2.1 u_66.1.2.2.2.2.2.2.2 u_66.2 u_69.1 u_69.2.1 u_69.2.2.1 u_69.2.2.2.1 u_69.2.2.2.2.1 u_69.2.2.2.2.2 h (cN + 1) (sN + 6) (by omega) (by omega) _ _ hP hD hS ls (lv_sub hl [3, 4, 5, 6, 0] rfl)
                  · skip
                    have h := h.1 c_73
                    refine lv_aload_n hx hb d_law_389 rfl (lv_at hl 5 rfl) ?_
                    refine lv_iconst (v := 0) hx hb d_law_390 (by decide) ?_
                    refine va_lald (f := u_66.2) hx hb hK hP 0 1 rfl rfl (by unfold vp_in; decide) d_law_391 ?_
                    refine lv_topl (fun x_75 ex_75 => ?_)
                    have h := h x_75 ex_75
                    refine lv_iload hx hb d_law_392 (lv_at hl 0 rfl) ?_
                    refine lv_i2l (v := r_70.toInt64) hx hb d_law_394 rfl ?_
                    refine W.lcmp hx hb d_law_395 ?_
                    refine lv_if_eq (tgt := 401) hx hb d_law_396 (by decide) (fun c_76 => ?_) (fun c_76 => ?_)
                    · have kc_76 := ((lg_cmp_eq _ _).mp c_76)
                      have h := h.1 kc_76
                      refine lv_goto (tgt := 573) hx hb d_law_401 (by decide) ?_
                      obtain ⟨x_77, ex_77⟩ : ∃ y : Int32, y = v4 + 3 := ⟨_, rfl⟩
                      have h := h x_77 ex_77
                      refine lv_iinc (v := x_77) (lv' := [(4, .int x_77), (6, .int r_70), (5, .int r_67), (0, .ref b), (1, .ref qc), (2, .ref eqd), (3, .ref qx)]) hx hb d_law_573 hl (k := 6) rfl (by rw [ex_77]; rfl) (by decide) rfl (fun ls hl => ?_)
                      refine lv_goto (tgt := 33) hx hb d_law_576 (by decide) ?_
                      exact ih x_77 u_66.1.1 u_66.1.2.1 u_66.1.2.2.1 u_66.1.2.2.2.1 u_66.1.2.2.2.2.1 u_66.1.2.2.2.2.2.1 u_66.1.2.2.2.2.2.2.1 u_66.1.2.2.2.2.2.2.2 u_66.2 u_69.1 u_69.2.1 u_69.2.2.1 u_69.2.2.2.1 u_69.2.2.2.2.1 u_69.2.2.2.2.2 h (cN + 1) (sN + 6) (by omega) (by omega) _ _ hP hD hS ls (lv_sub hl [3, 4, 5, 6, 0] rfl)
                    · have kc_76 := (fun q => c_76 ((lg_cmp_eq _ _).mpr q))
                      have h := h.2 kc_76
                      refine lv_iconst (v := 0) hx hb d_law_399 (by decide) ?_
                      exact False.elim h
                · skip
                  have h := h.2 c_72
                  refine lv_iconst (v := 0) hx hb d_law_382 (by decide) ?_
                  exact False.elim h
              · have h := h.2 c_64
                by_cases c_78 : (x_3 &&& (15 : Int32)) = (5 : Int32)
                · have h := h.1 c_78
                  have h0 := c_78
                  refine lv_tableIn (off := 355) (tgt := 404) hx hb d_law_49 (by rw [h0]; decide) (by rw [h0]; decide) (by rw [h0]; rfl) (by decide) ?_
                  refine lv_aload_n hx hb d_law_404 rfl (lv_at hl 1 rfl) ?_
                  refine lv_aload_n hx hb d_law_405 rfl (lv_at hl 0 rfl) ?_
                  refine lv_iload hx hb d_law_406 (lv_at hl 4 rfl) ?_
                  refine lv_iconst (v := 1) hx hb d_law_408 (by decide) ?_
                  refine lv_iadd hx hb d_law_409 ?_
                  refine va_sld hx hb hX hbl hbA hS h.1 d_law_410 ?_
                  have h := h.2
                  refine lv_topi (fun x_79 ex_79 => ?_)
                  have h := h x_79 ex_79
                  refine lv_aload_n hx hb d_law_411 rfl (lv_at hl 3 rfl) ?_
                  refine zz_SWi (As := [.ref qc, .int x_79, .ref qx]) (rest := []) (wc := wL qx qc qp qr qh qm qw qu qf ql qo cI cJ ms mn yg yrg yhq ymf ycd yfg yL yO yov) (wr := [(eqd, .inr (6, [.int (yddd 0), .ref eqmemory, .int ms2, .ref eqr, .int (yddd 1), .int (yddd 2), .int (yddd 3), .int (yddd 4), .int (yddd 5), .int (yddd 6), .int (yddd 7), .int (yddd 8), .ref eqcounts, .int (yddd 9), .int (yddd 10), .int (yddd 11), .int (yddd 12), .int (yddd 13), .int (yddd 14), .int (yddd 15), .int (yddd 16), .int (yddd 17), .int (yddd 18), .int (yddd 19), .long ydLwhole, .long ydLwhole2])), (eqmemory, .inl (cB, 262144, .inl ydbm)), (eqr, .inl (cI, 67, .inl ydrr)), (eqcounts, .inl (cI, 5, .inl ydkt))]) X hKw hP hD hS hA hE hNc (c_La_run l hl0 D cI cJ qx qc qp qr qh qm qw qu qf ql qo ms mn yg yrg yhq ymf ycd yfg yL yO yov x_79 _ h _) ⟨rfl, rfl⟩ ms_La_run k_La_74 ⟨Nat.le_of_ble_eq_true rfl, Nat.le_of_ble_eq_true rfl⟩ [0, 1, 2, 3, 4, 5, 6, 7, 8, 9, 10] [11, 12, 13, 14] rfl rfl (by decide) (by decide) (by decide) rfl hl.1 rfl (Nat.le_of_ble_eq_true rfl) d_law_412 ⟨by show cN + 1 ≤ 600002; omega, by show sN + 6 ≤ 7302198; omega⟩ (fun r_81 u_80 H locs h hP hD hS => ?_)
                  have hP : va_P D vwCl (wA qx qc qp qr qh qm qw qu qf ql qo eqd eqmemory eqr eqcounts cI cJ cB ms mn ms2 u_80.1.1 u_80.1.2.1 u_80.1.2.2.1 u_80.1.2.2.2.1 u_80.1.2.2.2.2.1 u_80.1.2.2.2.2.2.1 u_80.1.2.2.2.2.2.2.1 u_80.1.2.2.2.2.2.2.2 u_80.2 yddd ydLwhole ydLwhole2 ydbm ydrr ydkt) H := hP.sub [4, 5, 6, 7, 8, 9, 10, 11, 12, 13, 14, 0, 1, 2, 3] rfl
                  have hD : va_D A (wA qx qc qp qr qh qm qw qu qf ql qo eqd eqmemory eqr eqcounts cI cJ cB ms mn ms2 u_80.1.1 u_80.1.2.1 u_80.1.2.2.1 u_80.1.2.2.2.1 u_80.1.2.2.2.2.1 u_80.1.2.2.2.2.2.1 u_80.1.2.2.2.2.2.2.1 u_80.1.2.2.2.2.2.2.2 u_80.2 yddd ydLwhole ydLwhole2 ydbm ydrr ydkt) := hD.sub [4, 5, 6, 7, 8, 9, 10, 11, 12, 13, 14, 0, 1, 2, 3] (by decide) rfl
                  have hf0 : (cN + 1) + 0 ≤ room_1.cells ∧ (sN + 6) + 0 ≤ room_1.slots := ⟨by show (cN + 1) + 0 ≤ 600002; omega, by show (sN + 6) + 0 ≤ 7302198; omega⟩
                  refine lv_istore (lv' := [(5, .int r_81), (0, .ref b), (1, .ref qc), (2, .ref eqd), (3, .ref qx), (4, .int v4)]) hx hb d_law_415 hl (by decide) rfl (fun ls hl => ?_)
                  refine lv_aload_n hx hb d_law_417 rfl (lv_at hl 3 rfl) ?_
                  refine lv_aload_n hx hb d_law_418 rfl (lv_at hl 1 rfl) ?_
                  refine lv_iload hx hb d_law_419 (lv_at hl 5 rfl) ?_
                  refine lv_iconst (v := 1) hx hb d_law_421 (by decide) ?_
                  refine lv_iadd hx hb d_law_422 ?_
                  refine va_sld hx hb hX hbl hbA hS h.1 d_law_423 ?_
                  have h := h.2
                  refine lv_topi (fun x_82 ex_82 => ?_)
                  have h := h x_82 ex_82
                  refine zz_Wi (As := [.int x_82]) (rest := []) (wc := wD eqd eqmemory eqr eqcounts cI cB ms2 yddd ydLwhole ydLwhole2 ydbm ydrr ydkt) (wr := [(qx, .inl (cJ, 1, .inr (.inl u_80.2))), (qc, .inr (5, [.ref qm, .ref qp])), (qp, .inr (4, [.ref qm, .ref qr, .ref qh, .ref qu, .int (u_80.1.1 0), .int (u_80.1.1 1), .int (u_80.1.1 2), .int (u_80.1.1 3), .int (u_80.1.1 4), .int (u_80.1.1 5), .int (u_80.1.1 6), .int (u_80.1.1 7), .int (u_80.1.1 8), .int (u_80.1.1 9), .int (u_80.1.1 10), .int (u_80.1.1 11)])), (qr, .inl (cI, 32, .inl u_80.1.2.1)), (qh, .inr (2, [.int (u_80.1.2.2.1 0), .int (u_80.1.2.2.1 1), .int (u_80.1.2.2.1 2), .int (u_80.1.2.2.1 3)])), (qm, .inr (3, [.int ms, .ref qw])), (qw, .inl (cI, mn, .inl u_80.1.2.2.2.1)), (qu, .inr (1, [.ref qf, .int u_80.1.2.2.2.2.1, .ref ql, .ref qo])), (qf, .inl (cI, 32, .inl u_80.1.2.2.2.2.2.1)), (ql, .inr (0, [.int u_80.1.2.2.2.2.2.2.1.1, .int u_80.1.2.2.2.2.2.2.1.2.1, .int u_80.1.2.2.2.2.2.2.1.2.2.1, .long u_80.1.2.2.2.2.2.2.1.2.2.2])), (qo, .inr (0, [.int u_80.1.2.2.2.2.2.2.2.1, .int u_80.1.2.2.2.2.2.2.2.2.1, .int u_80.1.2.2.2.2.2.2.2.2.2.1, .long u_80.1.2.2.2.2.2.2.2.2.2.2]))]) X hKd hP hD hS hA (c_Md_run l D cI cB eqd eqmemory eqr eqcounts ms2 yddd ydLwhole ydLwhole2 ydbm ydrr ydkt x_82 _ h _) ⟨rfl, rfl⟩ m_Md_run k_La_76 ⟨Nat.le_of_ble_eq_true rfl, Nat.le_of_ble_eq_true rfl⟩ [11, 12, 13, 14] [0, 1, 2, 3, 4, 5, 6, 7, 8, 9, 10] rfl rfl (by decide) (by decide) (by decide) 6 11 rfl rfl rfl rfl hl.1 rfl (Nat.le_of_ble_eq_true rfl) d_law_424 hf0 (fun r_84 u_83 H locs h hP hD hS => ?_)
                  have hP : va_P D vwCl (wA qx qc qp qr qh qm qw qu qf ql qo eqd eqmemory eqr eqcounts cI cJ cB ms mn ms2 u_80.1.1 u_80.1.2.1 u_80.1.2.2.1 u_80.1.2.2.2.1 u_80.1.2.2.2.2.1 u_80.1.2.2.2.2.2.1 u_80.1.2.2.2.2.2.2.1 u_80.1.2.2.2.2.2.2.2 u_80.2 u_83.1 u_83.2.1 u_83.2.2.1 u_83.2.2.2.1 u_83.2.2.2.2.1 u_83.2.2.2.2.2) H := hP.sub [0, 1, 2, 3, 4, 5, 6, 7, 8, 9, 10, 11, 12, 13, 14] rfl
                  have hD : va_D A (wA qx qc qp qr qh qm qw qu qf ql qo eqd eqmemory eqr eqcounts cI cJ cB ms mn ms2 u_80.1.1 u_80.1.2.1 u_80.1.2.2.1 u_80.1.2.2.2.1 u_80.1.2.2.2.2.1 u_80.1.2.2.2.2.2.1 u_80.1.2.2.2.2.2.2.1 u_80.1.2.2.2.2.2.2.2 u_80.2 u_83.1 u_83.2.1 u_83.2.2.1 u_83.2.2.2.1 u_83.2.2.2.2.1 u_83.2.2.2.2.2) := hD.sub [0, 1, 2, 3, 4, 5, 6, 7, 8, 9, 10, 11, 12, 13, 14] (by decide) rfl
                  refine lv_istore (lv' := [(6, .int r_84), (5, .int r_81), (0, .ref b), (1, .ref qc), (2, .ref eqd), (3, .ref qx), (4, .int v4)]) hx hb d_law_427 hl (by decide) rfl (fun ls hl => ?_)
                  refine lv_aload_n hx hb d_law_429 rfl (lv_at hl 4 rfl) ?_
                  refine zz_Ri (As := []) (rest := []) (wc := wD eqd eqmemory eqr eqcounts cI cB ms2 u_83.1 u_83.2.1 u_83.2.2.1 u_83.2.2.2.1 u_83.2.2.2.2.1 u_83.2.2.2.2.2) X hKd hP (c_Md_thrown l D cI cB eqd eqmemory eqr eqcounts ms2 u_83.1 u_83.2.1 u_83.2.2.1 u_83.2.2.2.1 u_83.2.2.2.2.1 u_83.2.2.2.2.2 _ h) ⟨rfl, rfl⟩ m_Md_thrown k_La_58 ⟨Nat.le_of_ble_eq_true rfl, Nat.le_of_ble_eq_true rfl⟩ [11, 12, 13, 14] rfl 6 11 rfl rfl rfl rfl hl.1 rfl (Nat.le_of_ble_eq_true rfl) d_law_430 hf0 (fun r_85 h => ?_)
                  refine lv_iload hx hb d_law_433 (lv_at hl 1 rfl) ?_
                  refine lv_icmp_eq (tgt := 440) hx hb d_law_435 (by decide) (fun c_86 => ?_) (fun c_86 => ?_)
                  · skip
                    have h := h.1 c_86
                    refine lv_iload hx hb d_law_440 (lv_at hl 1 rfl) ?_
                    refine lv_if_ne (tgt := 457) hx hb d_law_442 (by decide) (fun c_87 => ?_) (fun c_87 => ?_)
                    · skip
                      have h := h.2 c_87
                      refine lv_goto (tgt := 573) hx hb d_law_457 (by decide) ?_
                      obtain ⟨x_88, ex_88⟩ : ∃ y : Int32, y = v4 + 3 := ⟨_, rfl⟩
                      have h := h x_88 ex_88
                      refine lv_iinc (v := x_88) (lv' := [(4, .int x_88), (6, .int r_84), (5, .int r_81), (0, .ref b), (1, .ref qc), (2, .ref eqd), (3, .ref qx)]) hx hb d_law_573 hl (k := 6) rfl (by rw [ex_88]; rfl) (by decide) rfl (fun ls hl => ?_)
                      refine lv_goto (tgt := 33) hx hb d_law_576 (by decide) ?_
                      exact ih x_88 u_80.1.1 u_80.1.2.1 u_80.1.2.2.1 u_80.1.2.2.2.1 u_80.1.2.2.2.2.1 u_80.1.2.2.2.2.2.1 u_80.1.2.2.2.2.2.2.1 u_80.1.2.2.2.2.2.2.2 u_80.2 u_83.1 u_83.2.1 u_83.2.2.1 u_83.2.2.2.1 u_83.2.2.2.2.1 u_83.2.2.2.2.2 h (cN + 1) (sN + 6) (by omega) (by omega) _ _ hP hD hS ls (lv_sub hl [3, 4, 5, 6, 0] rfl)
                    · skip
                      have h := h.1 c_87
                      refine lv_aload_n hx hb d_law_445 rfl (lv_at hl 5 rfl) ?_
                      refine lv_iconst (v := 0) hx hb d_law_446 (by decide) ?_
                      refine va_lald (f := u_80.2) hx hb hK hP 0 1 rfl rfl (by unfold vp_in; decide) d_law_447 ?_
                      refine lv_topl (fun x_89 ex_89 => ?_)
                      have h := h x_89 ex_89
                      refine lv_iload hx hb d_law_448 (lv_at hl 0 rfl) ?_
                      refine lv_i2l (v := r_84.toInt64) hx hb d_law_450 rfl ?_
                      refine W.lcmp hx hb d_law_451 ?_
                      refine lv_if_eq (tgt := 457) hx hb d_law_452 (by decide) (fun c_90 => ?_) (fun c_90 => ?_)
                      · have kc_90 := ((lg_cmp_eq _ _).mp c_90)
                        have h := h.1 kc_90
                        refine lv_goto (tgt := 573) hx hb d_law_457 (by decide) ?_
                        obtain ⟨x_91, ex_91⟩ : ∃ y : Int32, y = v4 + 3 := ⟨_, rfl⟩
                        have h := h x_91 ex_91
                        refine lv_iinc (v := x_91) (lv' := [(4, .int x_91), (6, .int r_84), (5, .int r_81), (0, .ref b), (1, .ref qc), (2, .ref eqd), (3, .ref qx)]) hx hb d_law_573 hl (k := 6) rfl (by rw [ex_91]; rfl) (by decide) rfl (fun ls hl => ?_)
                        refine lv_goto (tgt := 33) hx hb d_law_576 (by decide) ?_
                        exact ih x_91 u_80.1.1 u_80.1.2.1 u_80.1.2.2.1 u_80.1.2.2.2.1 u_80.1.2.2.2.2.1 u_80.1.2.2.2.2.2.1 u_80.1.2.2.2.2.2.2.1 u_80.1.2.2.2.2.2.2.2 u_80.2 u_83.1 u_83.2.1 u_83.2.2.1 u_83.2.2.2.1 u_83.2.2.2.2.1 u_83.2.2.2.2.2 h (cN + 1) (sN + 6) (by omega) (by omega) _ _ hP hD hS ls (lv_sub hl [3, 4, 5, 6, 0] rfl)
                      · have kc_90 := (fun q => c_90 ((lg_cmp_eq _ _).mpr q))
                        have h := h.2 kc_90
                        refine lv_iconst (v := 0) hx hb d_law_455 (by decide) ?_
                        exact False.elim h
                  · skip
                    have h := h.2 c_86
                    refine lv_iconst (v := 0) hx hb d_law_438 (by decide) ?_
                    exact False.elim h
                · have h := h.2 c_78
                  by_cases c_92 : (x_3 &&& (15 : Int32)) = (6 : Int32)
                  · have h := h.1 c_92
                    have h0 := c_92
                    refine lv_tableIn (off := 411) (tgt := 460) hx hb d_law_49 (by rw [h0]; decide) (by rw [h0]; decide) (by rw [h0]; rfl) (by decide) ?_
                    refine lv_aload_n hx hb d_law_460 rfl (lv_at hl 1 rfl) ?_
                    refine zz_Ri (As := []) (rest := []) (wc := wC qc qp qr qh qm qw qu qf ql qo cI ms mn yg yrg yhq ymf ycd yfg yL yO) X hKc hP (c_Co_end l D cI qc qp qr qh qm qw qu qf ql qo ms mn yg yrg yhq ymf ycd yfg yL yO _ h) ⟨rfl, rfl⟩ m_Co_end k_La_77 ⟨Nat.le_of_ble_eq_true rfl, Nat.le_of_ble_eq_true rfl⟩ [1, 2, 3, 4, 5, 6, 7, 8, 9, 10] rfl 5 1 rfl rfl rfl rfl hl.1 rfl (Nat.le_of_ble_eq_true rfl) d_law_461 hf0 (fun r_93 h => ?_)
                    refine lv_aload_n hx hb d_law_464 rfl (lv_at hl 2 rfl) ?_
                    refine zz_Wi (As := []) (rest := [.int r_93]) (wc := wD eqd eqmemory eqr eqcounts cI cB ms2 yddd ydLwhole ydLwhole2 ydbm ydrr ydkt) (wr := [(qx, .inl (cJ, 1, .inr (.inl yov))), (qc, .inr (5, [.ref qm, .ref qp])), (qp, .inr (4, [.ref qm, .ref qr, .ref qh, .ref qu, .int (yg 0), .int (yg 1), .int (yg 2), .int (yg 3), .int (yg 4), .int (yg 5), .int (yg 6), .int (yg 7), .int (yg 8), .int (yg 9), .int (yg 10), .int (yg 11)])), (qr, .inl (cI, 32, .inl yrg)), (qh, .inr (2, [.int (yhq 0), .int (yhq 1), .int (yhq 2), .int (yhq 3)])), (qm, .inr (3, [.int ms, .ref qw])), (qw, .inl (cI, mn, .inl ymf)), (qu, .inr (1, [.ref qf, .int ycd, .ref ql, .ref qo])), (qf, .inl (cI, 32, .inl yfg)), (ql, .inr (0, [.int yL.1, .int yL.2.1, .int yL.2.2.1, .long yL.2.2.2])), (qo, .inr (0, [.int yO.1, .int yO.2.1, .int yO.2.2.1, .long yO.2.2.2]))]) X hKd hP hD hS hA (c_Md_end l D cI cB eqd eqmemory eqr eqcounts ms2 yddd ydLwhole ydLwhole2 ydbm ydrr ydkt _ h _) ⟨rfl, rfl⟩ m_Md_end k_La_80 ⟨Nat.le_of_ble_eq_true rfl, Nat.le_of_ble_eq_true rfl⟩ [11, 12, 13, 14] [0, 1, 2, 3, 4, 5, 6, 7, 8, 9, 10] rfl rfl (by decide) (by decide) (by decide) 6 11 rfl rfl rfl rfl hl.1 rfl (Nat.le_of_ble_eq_true rfl) d_law_465 hf0 (fun r_95 u_94 H locs h hP hD hS => ?_)
                    have hP : va_P D vwCl (wA qx qc qp qr qh qm qw qu qf ql qo eqd eqmemory eqr eqcounts cI cJ cB ms mn ms2 yg yrg yhq ymf ycd yfg yL yO yov u_94.1 u_94.2.1 u_94.2.2.1 u_94.2.2.2.1 u_94.2.2.2.2.1 u_94.2.2.2.2.2) H := hP.sub [0, 1, 2, 3, 4, 5, 6, 7, 8, 9, 10, 11, 12, 13, 14] rfl
                    have hD : va_D A (wA qx qc qp qr qh qm qw qu qf ql qo eqd eqmemory eqr eqcounts cI cJ cB ms mn ms2 yg yrg yhq ymf ycd yfg yL yO yov u_94.1 u_94.2.1 u_94.2.2.1 u_94.2.2.2.1 u_94.2.2.2.2.1 u_94.2.2.2.2.2) := hD.sub [0, 1, 2, 3, 4, 5, 6, 7, 8, 9, 10, 11, 12, 13, 14] (by decide) rfl
                    refine lv_icmp_eq (tgt := 573) hx hb d_law_468 (by decide) (fun c_96 => ?_) (fun c_96 => ?_)
                    · skip
                      have h := h.1 c_96
                      obtain ⟨x_97, ex_97⟩ : ∃ y : Int32, y = v4 + 3 := ⟨_, rfl⟩
                      have h := h x_97 ex_97
                      refine lv_iinc (v := x_97) (lv' := [(4, .int x_97), (0, .ref b), (1, .ref qc), (2, .ref eqd), (3, .ref qx)]) hx hb d_law_573 hl (k := 4) rfl (by rw [ex_97]; rfl) (by decide) rfl (fun ls hl => ?_)
                      refine lv_goto (tgt := 33) hx hb d_law_576 (by decide) ?_
                      refine W.widen (k := cN + 1) (n := sN + 6) (by omega) (by omega) ?_
                      exact ih x_97 yg yrg yhq ymf ycd yfg yL yO yov u_94.1 u_94.2.1 u_94.2.2.1 u_94.2.2.2.1 u_94.2.2.2.2.1 u_94.2.2.2.2.2 h (cN + 1) (sN + 6) (by omega) (by omega) _ _ hP hD hS ls (lv_sub hl [1, 2, 3, 4, 0] rfl)
                    · skip
                      have h := h.2 c_96
                      refine lv_iconst (v := 0) hx hb d_law_471 (by decide) ?_
                      exact False.elim h
                  · have h := h.2 c_92
                    by_cases c_98 : (x_3 &&& (15 : Int32)) = (7 : Int32)
                    · have h := h.1 c_98
                      have h0 := c_98
                      refine lv_tableIn (off := 424) (tgt := 473) hx hb d_law_49 (by rw [h0]; decide) (by rw [h0]; decide) (by rw [h0]; rfl) (by decide) ?_
                      refine lv_aload_n hx hb d_law_473 rfl (lv_at hl 1 rfl) ?_
                      refine lv_aload_n hx hb d_law_474 rfl (lv_at hl 3 rfl) ?_
                      refine zz_SWi (As := [.ref qc, .ref qx]) (rest := []) (wc := wL qx qc qp qr qh qm qw qu qf ql qo cI cJ ms mn yg yrg yhq ymf ycd yfg yL yO yov) (wr := [(eqd, .inr (6, [.int (yddd 0), .ref eqmemory, .int ms2, .ref eqr, .int (yddd 1), .int (yddd 2), .int (yddd 3), .int (yddd 4), .int (yddd 5), .int (yddd 6), .int (yddd 7), .int (yddd 8), .ref eqcounts, .int (yddd 9), .int (yddd 10), .int (yddd 11), .int (yddd 12), .int (yddd 13), .int (yddd 14), .int (yddd 15), .int (yddd 16), .int (yddd 17), .int (yddd 18), .int (yddd 19), .long ydLwhole, .long ydLwhole2])), (eqmemory, .inl (cB, 262144, .inl ydbm)), (eqr, .inl (cI, 67, .inl ydrr)), (eqcounts, .inl (cI, 5, .inl ydkt))]) X hKw hP hD hS hA hE hNc (c_La_pass l hl0 D cI cJ qx qc qp qr qh qm qw qu qf ql qo ms mn yg yrg yhq ymf ycd yfg yL yO yov _ h _) ⟨rfl, rfl⟩ ms_La_pass k_La_81 ⟨Nat.le_of_ble_eq_true rfl, Nat.le_of_ble_eq_true rfl⟩ [0, 1, 2, 3, 4, 5, 6, 7, 8, 9, 10] [11, 12, 13, 14] rfl rfl (by decide) (by decide) (by decide) rfl hl.1 rfl (Nat.le_of_ble_eq_true rfl) d_law_475 ⟨by show cN + 1 ≤ 600002; omega, by show sN + 6 ≤ 7302198; omega⟩ (fun r_100 u_99 H locs h hP hD hS => ?_)
                      have hP : va_P D vwCl (wA qx qc qp qr qh qm qw qu qf ql qo eqd eqmemory eqr eqcounts cI cJ cB ms mn ms2 u_99.1.1 u_99.1.2.1 u_99.1.2.2.1 u_99.1.2.2.2.1 u_99.1.2.2.2.2.1 u_99.1.2.2.2.2.2.1 u_99.1.2.2.2.2.2.2.1 u_99.1.2.2.2.2.2.2.2 u_99.2 yddd ydLwhole ydLwhole2 ydbm ydrr ydkt) H := hP.sub [4, 5, 6, 7, 8, 9, 10, 11, 12, 13, 14, 0, 1, 2, 3] rfl
                      have hD : va_D A (wA qx qc qp qr qh qm qw qu qf ql qo eqd eqmemory eqr eqcounts cI cJ cB ms mn ms2 u_99.1.1 u_99.1.2.1 u_99.1.2.2.1 u_99.1.2.2.2.1 u_99.1.2.2.2.2.1 u_99.1.2.2.2.2.2.1 u_99.1.2.2.2.2.2.2.1 u_99.1.2.2.2.2.2.2.2 u_99.2 yddd ydLwhole ydLwhole2 ydbm ydrr ydkt) := hD.sub [4, 5, 6, 7, 8, 9, 10, 11, 12, 13, 14, 0, 1, 2, 3] (by decide) rfl
                      have hf0 : (cN + 1) + 0 ≤ room_1.cells ∧ (sN + 6) + 0 ≤ room_1.slots := ⟨by show (cN + 1) + 0 ≤ 600002; omega, by show (sN + 6) + 0 ≤ 7302198; omega⟩
                      refine lv_istore (lv' := [(5, .int r_100), (0, .ref b), (1, .ref qc), (2, .ref eqd), (3, .ref qx), (4, .int v4)]) hx hb d_law_478 hl (by decide) rfl (fun ls hl => ?_)
                      refine lv_aload_n hx hb d_law_480 rfl (lv_at hl 3 rfl) ?_
                      refine zz_Wi (As := []) (rest := []) (wc := wD eqd eqmemory eqr eqcounts cI cB ms2 yddd ydLwhole ydLwhole2 ydbm ydrr ydkt) (wr := [(qx, .inl (cJ, 1, .inr (.inl u_99.2))), (qc, .inr (5, [.ref qm, .ref qp])), (qp, .inr (4, [.ref qm, .ref qr, .ref qh, .ref qu, .int (u_99.1.1 0), .int (u_99.1.1 1), .int (u_99.1.1 2), .int (u_99.1.1 3), .int (u_99.1.1 4), .int (u_99.1.1 5), .int (u_99.1.1 6), .int (u_99.1.1 7), .int (u_99.1.1 8), .int (u_99.1.1 9), .int (u_99.1.1 10), .int (u_99.1.1 11)])), (qr, .inl (cI, 32, .inl u_99.1.2.1)), (qh, .inr (2, [.int (u_99.1.2.2.1 0), .int (u_99.1.2.2.1 1), .int (u_99.1.2.2.1 2), .int (u_99.1.2.2.1 3)])), (qm, .inr (3, [.int ms, .ref qw])), (qw, .inl (cI, mn, .inl u_99.1.2.2.2.1)), (qu, .inr (1, [.ref qf, .int u_99.1.2.2.2.2.1, .ref ql, .ref qo])), (qf, .inl (cI, 32, .inl u_99.1.2.2.2.2.2.1)), (ql, .inr (0, [.int u_99.1.2.2.2.2.2.2.1.1, .int u_99.1.2.2.2.2.2.2.1.2.1, .int u_99.1.2.2.2.2.2.2.1.2.2.1, .long u_99.1.2.2.2.2.2.2.1.2.2.2])), (qo, .inr (0, [.int u_99.1.2.2.2.2.2.2.2.1, .int u_99.1.2.2.2.2.2.2.2.2.1, .int u_99.1.2.2.2.2.2.2.2.2.2.1, .long u_99.1.2.2.2.2.2.2.2.2.2.2]))]) X hKd hP hD hS hA (c_Md_pass l D cI cB eqd eqmemory eqr eqcounts ms2 yddd ydLwhole ydLwhole2 ydbm ydrr ydkt _ h _) ⟨rfl, rfl⟩ m_Md_pass k_La_84 ⟨Nat.le_of_ble_eq_true rfl, Nat.le_of_ble_eq_true rfl⟩ [11, 12, 13, 14] [0, 1, 2, 3, 4, 5, 6, 7, 8, 9, 10] rfl rfl (by decide) (by decide) (by decide) 6 11 rfl rfl rfl rfl hl.1 rfl (Nat.le_of_ble_eq_true rfl) d_law_481 hf0 (fun r_102 u_101 H locs h hP hD hS => ?_)
                      have hP : va_P D vwCl (wA qx qc qp qr qh qm qw qu qf ql qo eqd eqmemory eqr eqcounts cI cJ cB ms mn ms2 u_99.1.1 u_99.1.2.1 u_99.1.2.2.1 u_99.1.2.2.2.1 u_99.1.2.2.2.2.1 u_99.1.2.2.2.2.2.1 u_99.1.2.2.2.2.2.2.1 u_99.1.2.2.2.2.2.2.2 u_99.2 u_101.1 u_101.2.1 u_101.2.2.1 u_101.2.2.2.1 u_101.2.2.2.2.1 u_101.2.2.2.2.2) H := hP.sub [0, 1, 2, 3, 4, 5, 6, 7, 8, 9, 10, 11, 12, 13, 14] rfl
                      have hD : va_D A (wA qx qc qp qr qh qm qw qu qf ql qo eqd eqmemory eqr eqcounts cI cJ cB ms mn ms2 u_99.1.1 u_99.1.2.1 u_99.1.2.2.1 u_99.1.2.2.2.1 u_99.1.2.2.2.2.1 u_99.1.2.2.2.2.2.1 u_99.1.2.2.2.2.2.2.1 u_99.1.2.2.2.2.2.2.2 u_99.2 u_101.1 u_101.2.1 u_101.2.2.1 u_101.2.2.2.1 u_101.2.2.2.2.1 u_101.2.2.2.2.2) := hD.sub [0, 1, 2, 3, 4, 5, 6, 7, 8, 9, 10, 11, 12, 13, 14] (by decide) rfl
                      refine lv_istore (lv' := [(6, .int r_102), (5, .int r_100), (0, .ref b), (1, .ref qc), (2, .ref eqd), (3, .ref qx), (4, .int v4)]) hx hb d_law_484 hl (by decide) rfl (fun ls hl => ?_)
                      refine lv_aload_n hx hb d_law_486 rfl (lv_at hl 4 rfl) ?_
                      refine zz_Ri (As := []) (rest := []) (wc := wD eqd eqmemory eqr eqcounts cI cB ms2 u_101.1 u_101.2.1 u_101.2.2.1 u_101.2.2.2.1 u_101.2.2.2.2.1 u_101.2.2.2.2.2) X hKd hP (c_Md_thrown l D cI cB eqd eqmemory eqr eqcounts ms2 u_101.1 u_101.2.1 u_101.2.2.1 u_101.2.2.2.1 u_101.2.2.2.2.1 u_101.2.2.2.2.2 _ h) ⟨rfl, rfl⟩ m_Md_thrown k_La_58 ⟨Nat.le_of_ble_eq_true rfl, Nat.le_of_ble_eq_true rfl⟩ [11, 12, 13, 14] rfl 6 11 rfl rfl rfl rfl hl.1 rfl (Nat.le_of_ble_eq_true rfl) d_law_487 hf0 (fun r_103 h => ?_)
                      refine lv_iload hx hb d_law_490 (lv_at hl 1 rfl) ?_
                      refine lv_icmp_eq (tgt := 497) hx hb d_law_492 (by decide) (fun c_104 => ?_) (fun c_104 => ?_)
                      · skip
                        have h := h.1 c_104
                        refine lv_iload hx hb d_law_497 (lv_at hl 1 rfl) ?_
                        refine lv_if_ne (tgt := 514) hx hb d_law_499 (by decide) (fun c_105 => ?_) (fun c_105 => ?_)
                        · skip
                          have h := h.2 c_105
                          refine lv_goto (tgt := 573) hx hb d_law_514 (by decide) ?_
                          obtain ⟨x_106, ex_106⟩ : ∃ y : Int32, y = v4 + 3 := ⟨_, rfl⟩
                          have h := h x_106 ex_106
                          refine lv_iinc (v := x_106) (lv' := [(4, .int x_106), (6, .int r_102), (5, .int r_100), (0, .ref b), (1, .ref qc), (2, .ref eqd), (3, .ref qx)]) hx hb d_law_573 hl (k := 6) rfl (by rw [ex_106]; rfl) (by decide) rfl (fun ls hl => ?_)
                          refine lv_goto (tgt := 33) hx hb d_law_576 (by decide) ?_
                          exact ih x_106 u_99.1.1 u_99.1.2.1 u_99.1.2.2.1 u_99.1.2.2.2.1 u_99.1.2.2.2.2.1 u_99.1.2.2.2.2.2.1 u_99.1.2.2.2.2.2.2.1 u_99.1.2.2.2.2.2.2.2 u_99.2 u_101.1 u_101.2.1 u_101.2.2.1 u_101.2.2.2.1 u_101.2.2.2.2.1 u_101.2.2.2.2.2 h (cN + 1) (sN + 6) (by omega) (by omega) _ _ hP hD hS ls (lv_sub hl [3, 4, 5, 6, 0] rfl)
                        · skip
                          have h := h.1 c_105
                          refine lv_aload_n hx hb d_law_502 rfl (lv_at hl 5 rfl) ?_
                          refine lv_iconst (v := 0) hx hb d_law_503 (by decide) ?_
                          refine va_lald (f := u_99.2) hx hb hK hP 0 1 rfl rfl (by unfold vp_in; decide) d_law_504 ?_
                          refine lv_topl (fun x_107 ex_107 => ?_)
                          have h := h x_107 ex_107
                          refine lv_iload hx hb d_law_505 (lv_at hl 0 rfl) ?_
                          refine lv_i2l (v := r_102.toInt64) hx hb d_law_507 rfl ?_
                          refine W.lcmp hx hb d_law_508 ?_
                          refine lv_if_eq (tgt := 514) hx hb d_law_509 (by decide) (fun c_108 => ?_) (fun c_108 => ?_)
                          · have kc_108 := ((lg_cmp_eq _ _).mp c_108)
                            have h := h.1 kc_108
                            refine lv_goto (tgt := 573) hx hb d_law_514 (by decide) ?_
                            obtain ⟨x_109, ex_109⟩ : ∃ y : Int32, y = v4 + 3 := ⟨_, rfl⟩
                            have h := h x_109 ex_109
                            refine lv_iinc (v := x_109) (lv' := [(4, .int x_109), (6, .int r_102), (5, .int r_100), (0, .ref b), (1, .ref qc), (2, .ref eqd), (3, .ref qx)]) hx hb d_law_573 hl (k := 6) rfl (by rw [ex_109]; rfl) (by decide) rfl (fun ls hl => ?_)
                            refine lv_goto (tgt := 33) hx hb d_law_576 (by decide) ?_
                            exact ih x_109 u_99.1.1 u_99.1.2.1 u_99.1.2.2.1 u_99.1.2.2.2.1 u_99.1.2.2.2.2.1 u_99.1.2.2.2.2.2.1 u_99.1.2.2.2.2.2.2.1 u_99.1.2.2.2.2.2.2.2 u_99.2 u_101.1 u_101.2.1 u_101.2.2.1 u_101.2.2.2.1 u_101.2.2.2.2.1 u_101.2.2.2.2.2 h (cN + 1) (sN + 6) (by omega) (by omega) _ _ hP hD hS ls (lv_sub hl [3, 4, 5, 6, 0] rfl)
                          · have kc_108 := (fun q => c_108 ((lg_cmp_eq _ _).mpr q))
                            have h := h.2 kc_108
                            refine lv_iconst (v := 0) hx hb d_law_512 (by decide) ?_
                            exact False.elim h
                      · skip
                        have h := h.2 c_104
                        refine lv_iconst (v := 0) hx hb d_law_495 (by decide) ?_
                        exact False.elim h
                    · have h := h.2 c_98
                      by_cases c_110 : (x_3 &&& (15 : Int32)) = (8 : Int32)
                      · have h := h.1 c_110
                        have h0 := c_110
                        refine lv_tableIn (off := 468) (tgt := 517) hx hb d_law_49 (by rw [h0]; decide) (by rw [h0]; decide) (by rw [h0]; rfl) (by decide) ?_
                        refine lv_aload_n hx hb d_law_517 rfl (lv_at hl 1 rfl) ?_
                        refine lv_aload_n hx hb d_law_518 rfl (lv_at hl 0 rfl) ?_
                        refine lv_iload hx hb d_law_519 (lv_at hl 4 rfl) ?_
                        refine lv_iconst (v := 1) hx hb d_law_521 (by decide) ?_
                        refine lv_iadd hx hb d_law_522 ?_
                        refine va_sld hx hb hX hbl hbA hS h.1 d_law_523 ?_
                        have h := h.2
                        refine lv_topi (fun x_111 ex_111 => ?_)
                        have h := h x_111 ex_111
                        refine lv_aload_n hx hb d_law_524 rfl (lv_at hl 3 rfl) ?_
                        refine zz_SWi (As := [.ref qc, .int x_111, .ref qx]) (rest := []) (wc := wL qx qc qp qr qh qm qw qu qf ql qo cI cJ ms mn yg yrg yhq ymf ycd yfg yL yO yov) (wr := [(eqd, .inr (6, [.int (yddd 0), .ref eqmemory, .int ms2, .ref eqr, .int (yddd 1), .int (yddd 2), .int (yddd 3), .int (yddd 4), .int (yddd 5), .int (yddd 6), .int (yddd 7), .int (yddd 8), .ref eqcounts, .int (yddd 9), .int (yddd 10), .int (yddd 11), .int (yddd 12), .int (yddd 13), .int (yddd 14), .int (yddd 15), .int (yddd 16), .int (yddd 17), .int (yddd 18), .int (yddd 19), .long ydLwhole, .long ydLwhole2])), (eqmemory, .inl (cB, 262144, .inl ydbm)), (eqr, .inl (cI, 67, .inl ydrr)), (eqcounts, .inl (cI, 5, .inl ydkt))]) X hKw hP hD hS hA hE hNc (c_La_state l hl0 D cI cJ qx qc qp qr qh qm qw qu qf ql qo ms mn yg yrg yhq ymf ycd yfg yL yO yov x_111 _ h _) ⟨rfl, rfl⟩ ms_La_state k_La_85 ⟨Nat.le_of_ble_eq_true rfl, Nat.le_of_ble_eq_true rfl⟩ [0, 1, 2, 3, 4, 5, 6, 7, 8, 9, 10] [11, 12, 13, 14] rfl rfl (by decide) (by decide) (by decide) rfl hl.1 rfl (Nat.le_of_ble_eq_true rfl) d_law_525 ⟨by show cN + 1 ≤ 600002; omega, by show sN + 6 ≤ 7302198; omega⟩ (fun r_113 u_112 H locs h hP hD hS => ?_)
                        have hP : va_P D vwCl (wA qx qc qp qr qh qm qw qu qf ql qo eqd eqmemory eqr eqcounts cI cJ cB ms mn ms2 u_112.1.1 u_112.1.2.1 u_112.1.2.2.1 u_112.1.2.2.2.1 u_112.1.2.2.2.2.1 u_112.1.2.2.2.2.2.1 u_112.1.2.2.2.2.2.2.1 u_112.1.2.2.2.2.2.2.2 u_112.2 yddd ydLwhole ydLwhole2 ydbm ydrr ydkt) H := hP.sub [4, 5, 6, 7, 8, 9, 10, 11, 12, 13, 14, 0, 1, 2, 3] rfl
                        have hD : va_D A (wA qx qc qp qr qh qm qw qu qf ql qo eqd eqmemory eqr eqcounts cI cJ cB ms mn ms2 u_112.1.1 u_112.1.2.1 u_112.1.2.2.1 u_112.1.2.2.2.1 u_112.1.2.2.2.2.1 u_112.1.2.2.2.2.2.1 u_112.1.2.2.2.2.2.2.1 u_112.1.2.2.2.2.2.2.2 u_112.2 yddd ydLwhole ydLwhole2 ydbm ydrr ydkt) := hD.sub [4, 5, 6, 7, 8, 9, 10, 11, 12, 13, 14, 0, 1, 2, 3] (by decide) rfl
                        have hf0 : (cN + 1) + 0 ≤ room_1.cells ∧ (sN + 6) + 0 ≤ room_1.slots := ⟨by show (cN + 1) + 0 ≤ 600002; omega, by show (sN + 6) + 0 ≤ 7302198; omega⟩
                        refine lv_istore (lv' := [(5, .int r_113), (0, .ref b), (1, .ref qc), (2, .ref eqd), (3, .ref qx), (4, .int v4)]) hx hb d_law_528 hl (by decide) rfl (fun ls hl => ?_)
                        refine lv_aload_n hx hb d_law_530 rfl (lv_at hl 3 rfl) ?_
                        refine lv_aload_n hx hb d_law_531 rfl (lv_at hl 1 rfl) ?_
                        refine lv_iload hx hb d_law_532 (lv_at hl 5 rfl) ?_
                        refine lv_iconst (v := 1) hx hb d_law_534 (by decide) ?_
                        refine lv_iadd hx hb d_law_535 ?_
                        refine va_sld hx hb hX hbl hbA hS h.1 d_law_536 ?_
                        have h := h.2
                        refine lv_topi (fun x_114 ex_114 => ?_)
                        have h := h x_114 ex_114
                        refine zz_Wi (As := [.int x_114]) (rest := []) (wc := wD eqd eqmemory eqr eqcounts cI cB ms2 yddd ydLwhole ydLwhole2 ydbm ydrr ydkt) (wr := [(qx, .inl (cJ, 1, .inr (.inl u_112.2))), (qc, .inr (5, [.ref qm, .ref qp])), (qp, .inr (4, [.ref qm, .ref qr, .ref qh, .ref qu, .int (u_112.1.1 0), .int (u_112.1.1 1), .int (u_112.1.1 2), .int (u_112.1.1 3), .int (u_112.1.1 4), .int (u_112.1.1 5), .int (u_112.1.1 6), .int (u_112.1.1 7), .int (u_112.1.1 8), .int (u_112.1.1 9), .int (u_112.1.1 10), .int (u_112.1.1 11)])), (qr, .inl (cI, 32, .inl u_112.1.2.1)), (qh, .inr (2, [.int (u_112.1.2.2.1 0), .int (u_112.1.2.2.1 1), .int (u_112.1.2.2.1 2), .int (u_112.1.2.2.1 3)])), (qm, .inr (3, [.int ms, .ref qw])), (qw, .inl (cI, mn, .inl u_112.1.2.2.2.1)), (qu, .inr (1, [.ref qf, .int u_112.1.2.2.2.2.1, .ref ql, .ref qo])), (qf, .inl (cI, 32, .inl u_112.1.2.2.2.2.2.1)), (ql, .inr (0, [.int u_112.1.2.2.2.2.2.2.1.1, .int u_112.1.2.2.2.2.2.2.1.2.1, .int u_112.1.2.2.2.2.2.2.1.2.2.1, .long u_112.1.2.2.2.2.2.2.1.2.2.2])), (qo, .inr (0, [.int u_112.1.2.2.2.2.2.2.2.1, .int u_112.1.2.2.2.2.2.2.2.2.1, .int u_112.1.2.2.2.2.2.2.2.2.2.1, .long u_112.1.2.2.2.2.2.2.2.2.2.2]))]) X hKd hP hD hS hA (c_Md_state l D cI cB eqd eqmemory eqr eqcounts ms2 yddd ydLwhole ydLwhole2 ydbm ydrr ydkt x_114 _ h _) ⟨rfl, rfl⟩ m_Md_state k_La_87 ⟨Nat.le_of_ble_eq_true rfl, Nat.le_of_ble_eq_true rfl⟩ [11, 12, 13, 14] [0, 1, 2, 3, 4, 5, 6, 7, 8, 9, 10] rfl rfl (by decide) (by decide) (by decide) 6 11 rfl rfl rfl rfl hl.1 rfl (Nat.le_of_ble_eq_true rfl) d_law_537 hf0 (fun r_116 u_115 H locs h hP hD hS => ?_)
                        have hP : va_P D vwCl (wA qx qc qp qr qh qm qw qu qf ql qo eqd eqmemory eqr eqcounts cI cJ cB ms mn ms2 u_112.1.1 u_112.1.2.1 u_112.1.2.2.1 u_112.1.2.2.2.1 u_112.1.2.2.2.2.1 u_112.1.2.2.2.2.2.1 u_112.1.2.2.2.2.2.2.1 u_112.1.2.2.2.2.2.2.2 u_112.2 u_115.1 u_115.2.1 u_115.2.2.1 u_115.2.2.2.1 u_115.2.2.2.2.1 u_115.2.2.2.2.2) H := hP.sub [0, 1, 2, 3, 4, 5, 6, 7, 8, 9, 10, 11, 12, 13, 14] rfl
                        have hD : va_D A (wA qx qc qp qr qh qm qw qu qf ql qo eqd eqmemory eqr eqcounts cI cJ cB ms mn ms2 u_112.1.1 u_112.1.2.1 u_112.1.2.2.1 u_112.1.2.2.2.1 u_112.1.2.2.2.2.1 u_112.1.2.2.2.2.2.1 u_112.1.2.2.2.2.2.2.1 u_112.1.2.2.2.2.2.2.2 u_112.2 u_115.1 u_115.2.1 u_115.2.2.1 u_115.2.2.2.1 u_115.2.2.2.2.1 u_115.2.2.2.2.2) := hD.sub [0, 1, 2, 3, 4, 5, 6, 7, 8, 9, 10, 11, 12, 13, 14] (by decide) rfl
                        refine lv_istore (lv' := [(6, .int r_116), (5, .int r_113), (0, .ref b), (1, .ref qc), (2, .ref eqd), (3, .ref qx), (4, .int v4)]) hx hb d_law_540 hl (by decide) rfl (fun ls hl => ?_)
                        refine lv_aload_n hx hb d_law_542 rfl (lv_at hl 4 rfl) ?_
                        refine zz_Ri (As := []) (rest := []) (wc := wD eqd eqmemory eqr eqcounts cI cB ms2 u_115.1 u_115.2.1 u_115.2.2.1 u_115.2.2.2.1 u_115.2.2.2.2.1 u_115.2.2.2.2.2) X hKd hP (c_Md_thrown l D cI cB eqd eqmemory eqr eqcounts ms2 u_115.1 u_115.2.1 u_115.2.2.1 u_115.2.2.2.1 u_115.2.2.2.2.1 u_115.2.2.2.2.2 _ h) ⟨rfl, rfl⟩ m_Md_thrown k_La_58 ⟨Nat.le_of_ble_eq_true rfl, Nat.le_of_ble_eq_true rfl⟩ [11, 12, 13, 14] rfl 6 11 rfl rfl rfl rfl hl.1 rfl (Nat.le_of_ble_eq_true rfl) d_law_543 hf0 (fun r_117 h => ?_)
                        refine lv_iload hx hb d_law_546 (lv_at hl 1 rfl) ?_
                        refine lv_icmp_eq (tgt := 553) hx hb d_law_548 (by decide) (fun c_118 => ?_) (fun c_118 => ?_)
                        · skip
                          have h := h.1 c_118
                          refine lv_iload hx hb d_law_553 (lv_at hl 1 rfl) ?_
                          refine lv_if_ne (tgt := 570) hx hb d_law_555 (by decide) (fun c_119 => ?_) (fun c_119 => ?_)
                          · skip
                            have h := h.2 c_119
                            refine lv_goto (tgt := 573) hx hb d_law_570 (by decide) ?_
                            obtain ⟨x_120, ex_120⟩ : ∃ y : Int32, y = v4 + 3 := ⟨_, rfl⟩
                            have h := h x_120 ex_120
                            refine lv_iinc (v := x_120) (lv' := [(4, .int x_120), (6, .int r_116), (5, .int r_113), (0, .ref b), (1, .ref qc), (2, .ref eqd), (3, .ref qx)]) hx hb d_law_573 hl (k := 6) rfl (by rw [ex_120]; rfl) (by decide) rfl (fun ls hl => ?_)
                            refine lv_goto (tgt := 33) hx hb d_law_576 (by decide) ?_
                            exact ih x_120 u_112.1.1 u_112.1.2.1 u_112.1.2.2.1 u_112.1.2.2.2.1 u_112.1.2.2.2.2.1 u_112.1.2.2.2.2.2.1 u_112.1.2.2.2.2.2.2.1 u_112.1.2.2.2.2.2.2.2 u_112.2 u_115.1 u_115.2.1 u_115.2.2.1 u_115.2.2.2.1 u_115.2.2.2.2.1 u_115.2.2.2.2.2 h (cN + 1) (sN + 6) (by omega) (by omega) _ _ hP hD hS ls (lv_sub hl [3, 4, 5, 6, 0] rfl)
                          · skip
                            have h := h.1 c_119
                            refine lv_aload_n hx hb d_law_558 rfl (lv_at hl 5 rfl) ?_
                            refine lv_iconst (v := 0) hx hb d_law_559 (by decide) ?_
                            refine va_lald (f := u_112.2) hx hb hK hP 0 1 rfl rfl (by unfold vp_in; decide) d_law_560 ?_
                            refine lv_topl (fun x_121 ex_121 => ?_)
                            have h := h x_121 ex_121
                            refine lv_iload hx hb d_law_561 (lv_at hl 0 rfl) ?_
                            refine lv_i2l (v := r_116.toInt64) hx hb d_law_563 rfl ?_
                            refine W.lcmp hx hb d_law_564 ?_
                            refine lv_if_eq (tgt := 570) hx hb d_law_565 (by decide) (fun c_122 => ?_) (fun c_122 => ?_)
                            · have kc_122 := ((lg_cmp_eq _ _).mp c_122)
                              have h := h.1 kc_122
                              refine lv_goto (tgt := 573) hx hb d_law_570 (by decide) ?_
                              obtain ⟨x_123, ex_123⟩ : ∃ y : Int32, y = v4 + 3 := ⟨_, rfl⟩
                              have h := h x_123 ex_123
                              refine lv_iinc (v := x_123) (lv' := [(4, .int x_123), (6, .int r_116), (5, .int r_113), (0, .ref b), (1, .ref qc), (2, .ref eqd), (3, .ref qx)]) hx hb d_law_573 hl (k := 6) rfl (by rw [ex_123]; rfl) (by decide) rfl (fun ls hl => ?_)
                              refine lv_goto (tgt := 33) hx hb d_law_576 (by decide) ?_
                              exact ih x_123 u_112.1.1 u_112.1.2.1 u_112.1.2.2.1 u_112.1.2.2.2.1 u_112.1.2.2.2.2.1 u_112.1.2.2.2.2.2.1 u_112.1.2.2.2.2.2.2.1 u_112.1.2.2.2.2.2.2.2 u_112.2 u_115.1 u_115.2.1 u_115.2.2.1 u_115.2.2.2.1 u_115.2.2.2.2.1 u_115.2.2.2.2.2 h (cN + 1) (sN + 6) (by omega) (by omega) _ _ hP hD hS ls (lv_sub hl [3, 4, 5, 6, 0] rfl)
                            · have kc_122 := (fun q => c_122 ((lg_cmp_eq _ _).mpr q))
                              have h := h.2 kc_122
                              refine lv_iconst (v := 0) hx hb d_law_568 (by decide) ?_
                              exact False.elim h
                        · skip
                          have h := h.2 c_118
                          refine lv_iconst (v := 0) hx hb d_law_551 (by decide) ?_
                          exact False.elim h
                      · have h := h.2 c_110
                        refine zz_swD (tgt := 573) hx hb [0, 1, 2, 3, 4, 5, 6, 7, 8] d_law_49 (by decide +kernel) (by decide) (List.forall_mem_cons.mpr ⟨lv_neT (k := 0) c_4 (by decide), List.forall_mem_cons.mpr ⟨lv_neT (k := 1) c_20 (by decide), List.forall_mem_cons.mpr ⟨lv_neT (k := 2) c_34 (by decide), List.forall_mem_cons.mpr ⟨lv_neT (k := 3) c_48 (by decide), List.forall_mem_cons.mpr ⟨lv_neT (k := 4) c_64 (by decide), List.forall_mem_cons.mpr ⟨lv_neT (k := 5) c_78 (by decide), List.forall_mem_cons.mpr ⟨lv_neT (k := 6) c_92 (by decide), List.forall_mem_cons.mpr ⟨lv_neT (k := 7) c_98 (by decide), List.forall_mem_cons.mpr ⟨lv_neT (k := 8) c_110 (by decide), fun _ h9 => nomatch h9⟩⟩⟩⟩⟩⟩⟩⟩⟩) (by decide) ?_
                        obtain ⟨x_124, ex_124⟩ : ∃ y : Int32, y = v4 + 3 := ⟨_, rfl⟩
                        have h := h x_124 ex_124
                        refine lv_iinc (v := x_124) (lv' := [(4, .int x_124), (0, .ref b), (1, .ref qc), (2, .ref eqd), (3, .ref qx)]) hx hb d_law_573 hl (k := 4) rfl (by rw [ex_124]; rfl) (by decide) rfl (fun ls hl => ?_)
                        refine lv_goto (tgt := 33) hx hb d_law_576 (by decide) ?_
                        refine W.widen (k := cN + 1) (n := sN + 6) (by omega) (by omega) ?_
                        exact ih x_124 yg yrg yhq ymf ycd yfg yL yO yov yddd ydLwhole ydLwhole2 ydbm ydrr ydkt h (cN + 1) (sN + 6) (by omega) (by omega) _ _ hP hD hS ls (lv_sub hl [1, 2, 3, 4, 0] rfl)
