/-! THE CLAIM OUT OF ONE WALK OF THE LAW'S BODY. Your part is whole_start (and what it stands on); all else here is the same for every law, but numbers. -/
def R_law : String := "DelayCoreLaw"
def lw_P (b : Addr) (xs : List Int32) (args : Array Value) (s : State) : Prop := args = #[.ref b] ∧ s.IntsAt b xs ∧ xs.length ≤ 1537 ∧ (Jvm.Cond.and given_1 narrow_1).before args s = true
def lw_Q (_ : Array Value) (s : State) (o : Outcome) (t : State) : Prop := o = .returned (some (.int 0)) ∧ Framed s o t [] 601024 7293000
def lw_Z (below : List Frame) (a : Array Value) (s : State) : State → Prop := fun t => ∃ o, t.status = .running ∧ Ended t below o ∧ lw_Q a s o t
/-- the law's own end, with 1 on the stack, nothing written that was there before, its room as the claim has it -/
theorem lw_ret {p : Program} {l : Launch} {e : Env} {s : State} {m : MethodId} {below : List Frame} {meth : Method} {c : Code} {b : Nat} (hx : p.tables.exec = Jvm.exec) (hb : c.code = code) (hr : meth.sig.returnType = ret) (hlocks : meth.locks = false) {pc : Nat} {H : Heap} {ls : Array Slot} (hdg : decode code pc = .ok (.ireturn, 1)) : W p l e room_1 s m #[Value.ref b] below meth c H [] 601024 7293000 (lw_Z below #[Value.ref b] s) (F0 m pc ls [.int 0]) := by
  intro T hT X
  obtain ⟨fs, hret, hrun, hended, hW, hframe⟩ := X.leave (v := some (.int 0)) (hlocks := hlocks) (fun h => by rw [hr] at h; cases h)
  have hmeth' : T.vm.method? m = some meth := X.method'
  refine ⟨T.setFrames fs, ?_, .returned (some (.int 0)), hrun, hended, rfl, ⟨_, rfl⟩, hW, hframe⟩
  jvm_step X.here [X.here.top, hx, hb, hdg, hmeth', hr, ret, narrow_b0]
  (try refine ⟨rfl, ?_⟩); (try refine ⟨rfl, ?_⟩)
  first | (intro acts; rw [hret _ acts rfl rfl rfl]) | rw [hret _ _ rfl rfl rfl]
  exact Steps.refl _
/-- what holds at the law's entry: the machine, the code, the tables' words (any of lw_tbl by 'hts w (by decide +kernel)'), the script of L ints xs at the cell b, what the Statement gives of the start (any of its parts by flat_of_before) -/
def lw_At (p : Program) (s : State) (m : MethodId) (meth : Method) (c : Code) (b L : Nat) (xs : Nat → Int32) : Prop :=
  p.tables.exec = Jvm.exec ∧ c.code = code ∧ meth.sig.returnType = ret ∧ c.maxLocals = 7 ∧ s.vm.findClass R_law = some m.cls ∧ (∀ w ∈ lw_tbl, w.before #[Value.ref b] s = true) ∧ va_X b L xs s s.heap ∧ b < s.heap.size ∧ meth.locks = false ∧ (Jvm.Cond.and given_1 narrow_1).before #[Value.ref b] s = true
/-! ===== calls of the law's own methods with handlers ===== -/
def zz_Mw (y : MethodName) (bytes : ByteArray) (maxL : Nat) (ret : Option FieldType) (hh : List (Nat × Nat × Nat × Nat)) (n : Nat) : Prop :=
  Cond.static y ∈ zz_all ∧ Cond.initialized y.cls ∈ zz_all ∧ Cond.codeWith y bytes maxL ret hh ∈ zz_all ∧ (y.cls ≠ "java/lang/invoke/MethodHandle" ∧ y.cls ≠ "java/lang/invoke/VarHandle" ∧ (parseMethodDescriptor y.desc).map (fun d => d.parameters.length) = some n)
theorem zz_nc.warm {s U : State} (hW : s.WarmedH U.vm) (h : zz_nc s) : zz_nc U := ⟨va_Nc.moved hW.alike h.1, va_Nc.moved hW.alike h.2⟩
section ZL
variable {p : Program} {l : Launch} {e : Env} {R : Room} {s : State} {m : MethodId} {args : Array Value} {below : List Frame} {meth : Method} {c : Code} {H : Heap} {locs : List Loc} {cells slots : Nat} {Q : State → Prop}
variable {cc bytes : ByteArray} {pc nL maxL n index : Nat} {ls : Array Slot} {rest st0 As : List Value} {D : va_G} {A : Nat → Prop} {tys : List (ClassId × FieldType)} {ws wc wr : va_W} {own : String} {cd : Cond} {y : MethodName} {ret : Option FieldType} {rm : Room} {hh : List (Nat × Nat × Nat × Nat)}
theorem zz_pl_blind {av : List Value} {sz : Nat} : FrameBlind (va_Pc av (zz_pl D tys ws sz)) := fun a U g mk q => by
  obtain ⟨q0, q1, q2⟩ := q
  obtain ⟨q3, q4⟩ := zz_px_blind (av := av) (D := D) (tys := tys) (ws := ws) (sz := sz) a U g mk ⟨q0, q1⟩
  exact ⟨q0, q4, q2⟩
theorem zz_SWi {S : Type} {post : Int32 → S → Prop} {wn : S → va_W} (X : CallFix p m c cc nL s args (cd :: zz_all) own) (hK : va_K D vwCl tys s) (hP : va_P D vwCl ws H) (hD : va_D A ws) (hS : va_S A s.heap H locs) (hA : ∀ q, s.heap.size ≤ q → A q) (hE : zz_ex A s s.heap) (hNc : zz_nc s)
    (hM : Met l y (Cond.codeWith y bytes maxL ret hh :: zz_all) rm (va_Pc As (zz_pl D tys wc H.size)) (va_Qi post (zz_qw D wn (va_A wc H.size)) (va_A wc H.size)) 1 6 (va_A wc H.size)) (hrm : rm.cells = 1 ∧ rm.slots = 6)
    (hm : zz_Mw y bytes maxL ret hh n) (hl : Cond.methodLink own index y ∈ zz_all) (hR : rm.frames + 1 ≤ R.frames ∧ 8 + (maxL + 11) + rm.locals ≤ R.locals)
    (isC isR : List Nat) (hC : isC.map (fun i => ws[i]?) = wc.map some) (hRr : isR.map (fun i => ws[i]?) = wr.map some) (hnC : va_nd isC = true) (hnR : va_nd isR = true) (hdis : ∀ i ∈ isR, i ∉ isC)
    (hn : As.length = n) (hsize : ls.size = nL) (hst : st0 = As.reverse ++ rest) (hW : (rest.map fun v => v.category).sum ≤ 8) (hdg : decode cc pc = .ok (.invokestatic index, 3)) (hf : cells + 1 ≤ R.cells ∧ slots + 6 ≤ R.slots)
    (kk : ∀ (r : Int32) (u : S) (H1 : Heap) (locs1 : List Loc), post r u → va_P D vwCl (wr ++ wn u) H1 → va_D A (wr ++ wn u) → va_S A s.heap H1 locs1 → W p l e R s m args below meth c H1 locs1 (cells + 1) (slots + 6) Q (F0 m (pc + 3) ls (.int r :: rest))) : W p l e R s m args below meth c H locs cells slots Q (F0 m pc ls st0) := by
  obtain ⟨h1, h2, h3, h5⟩ := hm
  have hu := zz_hts X.2.2.2.2
  have cw : vx_CSW R s args own index y bytes maxL ret hh (Cond.codeWith y bytes maxL ret hh :: zz_all) rm 1 6 n :=
    ⟨⟨hrm.1, hrm.2, hR.1, hR.2, pay_in X.2.2.2.2 (zz_good h3), List.mem_cons_self⟩, hu _ h3, hu _ h2, ⟨h5.1, h5.2.1⟩, fun sig hs => by
      have h9 := h5.2.2
      rw [hs] at h9
      exact (Option.some.inj h9).symm, hu _ hl, hu _ h1⟩
  have hF := va_free (wc := wc) hD hS hA isC hC
  have hE1 : zz_ex (va_A wc H.size) s H := (hE.kept (fun q h1 h2 => hS.2.1 q h1 h2)).narrow hF
  have hpre : ∀ U : State, U.heap = H → s.WarmedH U.vm → va_Pc As (zz_pl D tys wc H.size) As.toArray U := fun U hU hW1 => by
    obtain ⟨g1, g2⟩ := zz_pw_at hK (hP.sub isC (zz_filt isC hC)) (hD.sub isC hnC hC) As U hU hW1
    exact ⟨g1, ⟨g2, by rw [hU]; exact hE1.warm hW1⟩, hNc.warm hW1⟩
  refine va_calli (vx_runSW X hM cw ⟨zz_pl_blind, hpre⟩ rfl hn hsize hst (lv_room hW) hdg hf) hS (fun q _ h => hF q h) hF (fun r u t H1 locs1 ht hvm hw hB hz1 hk1 hS1 => ?_)
  obtain ⟨hP1, hD1⟩ := hB
  rw [ht] at hP1
  obtain ⟨hP2, hD2⟩ := va_join (wr := wr) (w1 := wn u) hP hD isC isR hC hRr hnR hdis hk1 hF hP1 hD1
  exact kk r u H1 locs1 hw hP2 hD2 hS1
end ZL
def wA (qx : Nat) (qc : Nat) (qp : Nat) (qr : Nat) (qh : Nat) (qm : Nat) (qw : Nat) (qu : Nat) (qf : Nat) (ql : Nat) (qo : Nat) (eqd : Nat) (eqmemory : Nat) (eqr : Nat) (eqcounts : Nat) (cI : ClassId) (cJ : ClassId) (cB : ClassId) (ms : Int32) (mn : Nat) (ms2 : Int32) (g : Nat → Int32) (rg : Nat → Int32) (hq : Nat → Int32) (mf : Nat → Int32) (cd : Int32) (fg : Nat → Int32) (L : Int32 × Int32 × Int32 × Int64) (O : Int32 × Int32 × Int32 × Int64) (ov : Nat → Int64) (ddd : Nat → Int32) (dLwhole : Int64) (dLwhole2 : Int64) (dbm : Nat → Int32) (drr : Nat → Int32) (dkt : Nat → Int32) : va_W := [(qx, .inl (cJ, 1, .inr (.inl ov))), (qc, .inr (5, [.ref qm, .ref qp])), (qp, .inr (4, [.ref qm, .ref qr, .ref qh, .ref qu, .int (g 0), .int (g 1), .int (g 2), .int (g 3), .int (g 4), .int (g 5), .int (g 6), .int (g 7), .int (g 8), .int (g 9), .int (g 10), .int (g 11)])), (qr, .inl (cI, 32, .inl rg)), (qh, .inr (2, [.int (hq 0), .int (hq 1), .int (hq 2), .int (hq 3)])), (qm, .inr (3, [.int ms, .ref qw])), (qw, .inl (cI, mn, .inl mf)), (qu, .inr (1, [.ref qf, .int cd, .ref ql, .ref qo])), (qf, .inl (cI, 32, .inl fg)), (ql, .inr (0, [.int L.1, .int L.2.1, .int L.2.2.1, .long L.2.2.2])), (qo, .inr (0, [.int O.1, .int O.2.1, .int O.2.2.1, .long O.2.2.2])), (eqd, .inr (6, [.int (ddd 0), .ref eqmemory, .int ms2, .ref eqr, .int (ddd 1), .int (ddd 2), .int (ddd 3), .int (ddd 4), .int (ddd 5), .int (ddd 6), .int (ddd 7), .int (ddd 8), .ref eqcounts, .int (ddd 9), .int (ddd 10), .int (ddd 11), .int (ddd 12), .int (ddd 13), .int (ddd 14), .int (ddd 15), .int (ddd 16), .int (ddd 17), .int (ddd 18), .int (ddd 19), .long dLwhole, .long dLwhole2])), (eqmemory, .inl (cB, 262144, .inl dbm)), (eqr, .inl (cI, 67, .inl drr)), (eqcounts, .inl (cI, 5, .inl dkt))]
theorem d_law_0 : decode code 0 = .ok (.new 8, 3) := by decide +kernel
theorem d_law_3 : decode code 3 = .ok (.dup, 1) := by decide +kernel
theorem d_law_4 : decode code 4 = .ok (.aload_n 0, 1) := by decide +kernel
theorem d_law_5 : decode code 5 = .ok (.iconst 0, 1) := by decide +kernel
theorem d_law_6 : decode code 6 = .ok (.invokestatic 42, 3) := by decide +kernel
theorem d_law_9 : decode code 9 = .ok (.invokespecial 48, 3) := by decide +kernel
theorem d_law_12 : decode code 12 = .ok (.astore_n 1, 1) := by decide +kernel
theorem d_law_13 : decode code 13 = .ok (.new 51, 3) := by decide +kernel
theorem d_law_16 : decode code 16 = .ok (.dup, 1) := by decide +kernel
theorem d_law_17 : decode code 17 = .ok (.aload_n 0, 1) := by decide +kernel
theorem d_law_18 : decode code 18 = .ok (.iconst 0, 1) := by decide +kernel
theorem d_law_19 : decode code 19 = .ok (.invokestatic 42, 3) := by decide +kernel
theorem d_law_22 : decode code 22 = .ok (.invokespecial 53, 3) := by decide +kernel
theorem d_law_25 : decode code 25 = .ok (.astore_n 2, 1) := by decide +kernel
theorem d_law_26 : decode code 26 = .ok (.iconst 1, 1) := by decide +kernel
theorem d_law_27 : decode code 27 = .ok (.newarray .long, 2) := by decide +kernel
theorem d_law_29 : decode code 29 = .ok (.astore_n 3, 1) := by decide +kernel
theorem d_law_30 : decode code 30 = .ok (.iconst 1, 1) := by decide +kernel
theorem d_law_31 : decode code 31 = .ok (.istore 4, 2) := by decide +kernel
theorem d_law_33 : decode code 33 = .ok (.iload 4, 2) := by decide +kernel
theorem d_law_35 : decode code 35 = .ok (.aload_n 0, 1) := by decide +kernel
theorem d_law_36 : decode code 36 = .ok (.arraylength, 1) := by decide +kernel
theorem d_law_37 : decode code 37 = .ok (.iconst 3, 1) := by decide +kernel
theorem d_law_38 : decode code 38 = .ok (.isub, 1) := by decide +kernel
theorem d_law_39 : decode code 39 = .ok (.if_icmp .gt 344, 3) := by decide +kernel
theorem d_law_42 : decode code 42 = .ok (.aload_n 0, 1) := by decide +kernel
theorem d_law_43 : decode code 43 = .ok (.iload 4, 2) := by decide +kernel
theorem d_law_45 : decode code 45 = .ok (.iaload, 1) := by decide +kernel
theorem d_law_46 : decode code 46 = .ok (.bipush 15, 2) := by decide +kernel
theorem d_law_48 : decode code 48 = .ok (.iand, 1) := by decide +kernel
theorem d_law_49 : decode code 49 = .ok (.tableswitch 328 0 8 #[51, 91, 119, 147, 187, 215, 243, 256, 300], 51) := by decide +kernel
theorem d_law_100 : decode code 100 = .ok (.aload_n 1, 1) := by decide +kernel
theorem d_law_101 : decode code 101 = .ok (.aload_n 0, 1) := by decide +kernel
theorem d_law_102 : decode code 102 = .ok (.iload 4, 2) := by decide +kernel
theorem d_law_104 : decode code 104 = .ok (.iconst 1, 1) := by decide +kernel
theorem d_law_105 : decode code 105 = .ok (.iadd, 1) := by decide +kernel
theorem d_law_106 : decode code 106 = .ok (.iaload, 1) := by decide +kernel
theorem d_law_107 : decode code 107 = .ok (.aload_n 0, 1) := by decide +kernel
theorem d_law_108 : decode code 108 = .ok (.iload 4, 2) := by decide +kernel
theorem d_law_110 : decode code 110 = .ok (.iconst 2, 1) := by decide +kernel
theorem d_law_111 : decode code 111 = .ok (.iadd, 1) := by decide +kernel
theorem d_law_112 : decode code 112 = .ok (.iaload, 1) := by decide +kernel
theorem d_law_113 : decode code 113 = .ok (.aload_n 3, 1) := by decide +kernel
theorem d_law_114 : decode code 114 = .ok (.invokestatic 54, 3) := by decide +kernel
theorem d_law_117 : decode code 117 = .ok (.istore 5, 2) := by decide +kernel
theorem d_law_119 : decode code 119 = .ok (.aload_n 2, 1) := by decide +kernel
theorem d_law_120 : decode code 120 = .ok (.aload_n 0, 1) := by decide +kernel
theorem d_law_121 : decode code 121 = .ok (.iload 4, 2) := by decide +kernel
theorem d_law_123 : decode code 123 = .ok (.iconst 1, 1) := by decide +kernel
theorem d_law_124 : decode code 124 = .ok (.iadd, 1) := by decide +kernel
theorem d_law_125 : decode code 125 = .ok (.iaload, 1) := by decide +kernel
theorem d_law_126 : decode code 126 = .ok (.aload_n 0, 1) := by decide +kernel
theorem d_law_127 : decode code 127 = .ok (.iload 4, 2) := by decide +kernel
theorem d_law_129 : decode code 129 = .ok (.iconst 2, 1) := by decide +kernel
theorem d_law_130 : decode code 130 = .ok (.iadd, 1) := by decide +kernel
theorem d_law_131 : decode code 131 = .ok (.iaload, 1) := by decide +kernel
theorem d_law_132 : decode code 132 = .ok (.invokevirtual 57, 3) := by decide +kernel
theorem d_law_135 : decode code 135 = .ok (.istore 6, 2) := by decide +kernel
theorem d_law_137 : decode code 137 = .ok (.goto 240, 3) := by decide +kernel
theorem d_law_140 : decode code 140 = .ok (.aload_n 1, 1) := by decide +kernel
theorem d_law_141 : decode code 141 = .ok (.aload_n 0, 1) := by decide +kernel
theorem d_law_142 : decode code 142 = .ok (.iload 4, 2) := by decide +kernel
theorem d_law_144 : decode code 144 = .ok (.iconst 1, 1) := by decide +kernel
theorem d_law_145 : decode code 145 = .ok (.iadd, 1) := by decide +kernel
theorem d_law_146 : decode code 146 = .ok (.iaload, 1) := by decide +kernel
theorem d_law_147 : decode code 147 = .ok (.aload_n 3, 1) := by decide +kernel
theorem d_law_148 : decode code 148 = .ok (.invokestatic 58, 3) := by decide +kernel
theorem d_law_151 : decode code 151 = .ok (.istore 5, 2) := by decide +kernel
theorem d_law_153 : decode code 153 = .ok (.aload_n 2, 1) := by decide +kernel
theorem d_law_154 : decode code 154 = .ok (.aload_n 0, 1) := by decide +kernel
theorem d_law_155 : decode code 155 = .ok (.iload 4, 2) := by decide +kernel
theorem d_law_157 : decode code 157 = .ok (.iconst 1, 1) := by decide +kernel
theorem d_law_158 : decode code 158 = .ok (.iadd, 1) := by decide +kernel
theorem d_law_159 : decode code 159 = .ok (.iaload, 1) := by decide +kernel
theorem d_law_160 : decode code 160 = .ok (.invokevirtual 61, 3) := by decide +kernel
theorem d_law_163 : decode code 163 = .ok (.istore 6, 2) := by decide +kernel
theorem d_law_165 : decode code 165 = .ok (.goto 212, 3) := by decide +kernel
theorem d_law_168 : decode code 168 = .ok (.aload_n 1, 1) := by decide +kernel
theorem d_law_169 : decode code 169 = .ok (.aload_n 0, 1) := by decide +kernel
theorem d_law_170 : decode code 170 = .ok (.iload 4, 2) := by decide +kernel
theorem d_law_172 : decode code 172 = .ok (.iconst 1, 1) := by decide +kernel
theorem d_law_173 : decode code 173 = .ok (.iadd, 1) := by decide +kernel
theorem d_law_174 : decode code 174 = .ok (.iaload, 1) := by decide +kernel
theorem d_law_175 : decode code 175 = .ok (.aload_n 3, 1) := by decide +kernel
theorem d_law_176 : decode code 176 = .ok (.invokestatic 62, 3) := by decide +kernel
theorem d_law_179 : decode code 179 = .ok (.istore 5, 2) := by decide +kernel
theorem d_law_181 : decode code 181 = .ok (.aload_n 2, 1) := by decide +kernel
theorem d_law_182 : decode code 182 = .ok (.aload_n 0, 1) := by decide +kernel
theorem d_law_183 : decode code 183 = .ok (.iload 4, 2) := by decide +kernel
theorem d_law_185 : decode code 185 = .ok (.iconst 1, 1) := by decide +kernel
theorem d_law_186 : decode code 186 = .ok (.iadd, 1) := by decide +kernel
theorem d_law_187 : decode code 187 = .ok (.iaload, 1) := by decide +kernel
theorem d_law_188 : decode code 188 = .ok (.invokevirtual 64, 3) := by decide +kernel
theorem d_law_191 : decode code 191 = .ok (.istore 6, 2) := by decide +kernel
theorem d_law_193 : decode code 193 = .ok (.goto 184, 3) := by decide +kernel
theorem d_law_196 : decode code 196 = .ok (.aload_n 1, 1) := by decide +kernel
theorem d_law_197 : decode code 197 = .ok (.aload_n 0, 1) := by decide +kernel
theorem d_law_198 : decode code 198 = .ok (.iload 4, 2) := by decide +kernel
theorem d_law_200 : decode code 200 = .ok (.iconst 1, 1) := by decide +kernel
theorem d_law_201 : decode code 201 = .ok (.iadd, 1) := by decide +kernel
theorem d_law_202 : decode code 202 = .ok (.iaload, 1) := by decide +kernel
theorem d_law_203 : decode code 203 = .ok (.aload_n 0, 1) := by decide +kernel
theorem d_law_204 : decode code 204 = .ok (.iload 4, 2) := by decide +kernel
theorem d_law_206 : decode code 206 = .ok (.iconst 2, 1) := by decide +kernel
theorem d_law_207 : decode code 207 = .ok (.iadd, 1) := by decide +kernel
theorem d_law_208 : decode code 208 = .ok (.iaload, 1) := by decide +kernel
theorem d_law_209 : decode code 209 = .ok (.aload_n 3, 1) := by decide +kernel
theorem d_law_210 : decode code 210 = .ok (.invokestatic 65, 3) := by decide +kernel
theorem d_law_213 : decode code 213 = .ok (.istore 5, 2) := by decide +kernel
theorem d_law_215 : decode code 215 = .ok (.aload_n 2, 1) := by decide +kernel
theorem d_law_216 : decode code 216 = .ok (.aload_n 0, 1) := by decide +kernel
theorem d_law_217 : decode code 217 = .ok (.iload 4, 2) := by decide +kernel
theorem d_law_219 : decode code 219 = .ok (.iconst 1, 1) := by decide +kernel
theorem d_law_220 : decode code 220 = .ok (.iadd, 1) := by decide +kernel
theorem d_law_221 : decode code 221 = .ok (.iaload, 1) := by decide +kernel
theorem d_law_222 : decode code 222 = .ok (.aload_n 0, 1) := by decide +kernel
theorem d_law_223 : decode code 223 = .ok (.iload 4, 2) := by decide +kernel
theorem d_law_225 : decode code 225 = .ok (.iconst 2, 1) := by decide +kernel
theorem d_law_226 : decode code 226 = .ok (.iadd, 1) := by decide +kernel
theorem d_law_227 : decode code 227 = .ok (.iaload, 1) := by decide +kernel
theorem d_law_228 : decode code 228 = .ok (.invokevirtual 67, 3) := by decide +kernel
theorem d_law_231 : decode code 231 = .ok (.istore 6, 2) := by decide +kernel
theorem d_law_233 : decode code 233 = .ok (.goto 144, 3) := by decide +kernel
theorem d_law_236 : decode code 236 = .ok (.aload_n 1, 1) := by decide +kernel
theorem d_law_237 : decode code 237 = .ok (.aload_n 0, 1) := by decide +kernel
theorem d_law_238 : decode code 238 = .ok (.iload 4, 2) := by decide +kernel
theorem d_law_240 : decode code 240 = .ok (.iconst 1, 1) := by decide +kernel
theorem d_law_241 : decode code 241 = .ok (.iadd, 1) := by decide +kernel
theorem d_law_242 : decode code 242 = .ok (.iaload, 1) := by decide +kernel
theorem d_law_243 : decode code 243 = .ok (.aload_n 3, 1) := by decide +kernel
theorem d_law_244 : decode code 244 = .ok (.invokestatic 68, 3) := by decide +kernel
theorem d_law_247 : decode code 247 = .ok (.istore 5, 2) := by decide +kernel
theorem d_law_249 : decode code 249 = .ok (.aload_n 2, 1) := by decide +kernel
theorem d_law_250 : decode code 250 = .ok (.aload_n 0, 1) := by decide +kernel
theorem d_law_251 : decode code 251 = .ok (.iload 4, 2) := by decide +kernel
theorem d_law_253 : decode code 253 = .ok (.iconst 1, 1) := by decide +kernel
theorem d_law_254 : decode code 254 = .ok (.iadd, 1) := by decide +kernel
theorem d_law_255 : decode code 255 = .ok (.iaload, 1) := by decide +kernel
theorem d_law_256 : decode code 256 = .ok (.invokevirtual 70, 3) := by decide +kernel
theorem d_law_259 : decode code 259 = .ok (.istore 6, 2) := by decide +kernel
theorem d_law_261 : decode code 261 = .ok (.goto 116, 3) := by decide +kernel
theorem d_law_264 : decode code 264 = .ok (.aload_n 1, 1) := by decide +kernel
theorem d_law_265 : decode code 265 = .ok (.aload_n 0, 1) := by decide +kernel
theorem d_law_266 : decode code 266 = .ok (.iload 4, 2) := by decide +kernel
theorem d_law_268 : decode code 268 = .ok (.iconst 1, 1) := by decide +kernel
theorem d_law_269 : decode code 269 = .ok (.iadd, 1) := by decide +kernel
theorem d_law_270 : decode code 270 = .ok (.iaload, 1) := by decide +kernel
theorem d_law_271 : decode code 271 = .ok (.aload_n 3, 1) := by decide +kernel
theorem d_law_272 : decode code 272 = .ok (.invokestatic 71, 3) := by decide +kernel
theorem d_law_275 : decode code 275 = .ok (.istore 5, 2) := by decide +kernel
theorem d_law_277 : decode code 277 = .ok (.aload_n 2, 1) := by decide +kernel
theorem d_law_278 : decode code 278 = .ok (.aload_n 0, 1) := by decide +kernel
theorem d_law_279 : decode code 279 = .ok (.iload 4, 2) := by decide +kernel
theorem d_law_281 : decode code 281 = .ok (.iconst 1, 1) := by decide +kernel
theorem d_law_282 : decode code 282 = .ok (.iadd, 1) := by decide +kernel
theorem d_law_283 : decode code 283 = .ok (.iaload, 1) := by decide +kernel
theorem d_law_284 : decode code 284 = .ok (.invokevirtual 73, 3) := by decide +kernel
theorem d_law_287 : decode code 287 = .ok (.istore 6, 2) := by decide +kernel
theorem d_law_289 : decode code 289 = .ok (.goto 88, 3) := by decide +kernel
theorem d_law_292 : decode code 292 = .ok (.aload_n 1, 1) := by decide +kernel
theorem d_law_293 : decode code 293 = .ok (.invokevirtual 74, 3) := by decide +kernel
theorem d_law_296 : decode code 296 = .ok (.pop, 1) := by decide +kernel
theorem d_law_297 : decode code 297 = .ok (.aload_n 2, 1) := by decide +kernel
theorem d_law_298 : decode code 298 = .ok (.invokevirtual 77, 3) := by decide +kernel
theorem d_law_301 : decode code 301 = .ok (.pop, 1) := by decide +kernel
theorem d_law_302 : decode code 302 = .ok (.goto 75, 3) := by decide +kernel
theorem d_law_305 : decode code 305 = .ok (.aload_n 1, 1) := by decide +kernel
theorem d_law_306 : decode code 306 = .ok (.aload_n 3, 1) := by decide +kernel
theorem d_law_307 : decode code 307 = .ok (.invokestatic 78, 3) := by decide +kernel
theorem d_law_310 : decode code 310 = .ok (.istore 5, 2) := by decide +kernel
theorem d_law_312 : decode code 312 = .ok (.aload_n 2, 1) := by decide +kernel
theorem d_law_313 : decode code 313 = .ok (.invokevirtual 81, 3) := by decide +kernel
theorem d_law_316 : decode code 316 = .ok (.istore 6, 2) := by decide +kernel
theorem d_law_318 : decode code 318 = .ok (.aload_n 2, 1) := by decide +kernel
theorem d_law_319 : decode code 319 = .ok (.invokevirtual 82, 3) := by decide +kernel
theorem d_law_322 : decode code 322 = .ok (.iload 5, 2) := by decide +kernel
theorem d_law_324 : decode code 324 = .ok (.if_icmp .eq 5, 3) := by decide +kernel
theorem d_law_327 : decode code 327 = .ok (.iconst 0, 1) := by decide +kernel
theorem d_law_328 : decode code 328 = .ok (.ireturn, 1) := by decide +kernel
theorem d_law_329 : decode code 329 = .ok (.iload 5, 2) := by decide +kernel
theorem d_law_331 : decode code 331 = .ok (.ifCond .ne 15, 3) := by decide +kernel
theorem d_law_334 : decode code 334 = .ok (.aload_n 3, 1) := by decide +kernel
theorem d_law_335 : decode code 335 = .ok (.iconst 0, 1) := by decide +kernel
theorem d_law_336 : decode code 336 = .ok (.laload, 1) := by decide +kernel
theorem d_law_337 : decode code 337 = .ok (.iload 6, 2) := by decide +kernel
theorem d_law_339 : decode code 339 = .ok (.i2l, 1) := by decide +kernel
theorem d_law_340 : decode code 340 = .ok (.lcmp, 1) := by decide +kernel
theorem d_law_341 : decode code 341 = .ok (.ifCond .eq 5, 3) := by decide +kernel
theorem d_law_344 : decode code 344 = .ok (.iconst 0, 1) := by decide +kernel
theorem d_law_345 : decode code 345 = .ok (.ireturn, 1) := by decide +kernel
theorem d_law_346 : decode code 346 = .ok (.goto 31, 3) := by decide +kernel
theorem d_law_349 : decode code 349 = .ok (.aload_n 1, 1) := by decide +kernel
theorem d_law_350 : decode code 350 = .ok (.aload_n 0, 1) := by decide +kernel
theorem d_law_351 : decode code 351 = .ok (.iload 4, 2) := by decide +kernel
theorem d_law_353 : decode code 353 = .ok (.iconst 1, 1) := by decide +kernel
theorem d_law_354 : decode code 354 = .ok (.iadd, 1) := by decide +kernel
theorem d_law_355 : decode code 355 = .ok (.iaload, 1) := by decide +kernel
theorem d_law_356 : decode code 356 = .ok (.aload_n 3, 1) := by decide +kernel
theorem d_law_357 : decode code 357 = .ok (.invokestatic 85, 3) := by decide +kernel
theorem d_law_360 : decode code 360 = .ok (.istore 5, 2) := by decide +kernel
theorem d_law_362 : decode code 362 = .ok (.aload_n 2, 1) := by decide +kernel
theorem d_law_363 : decode code 363 = .ok (.aload_n 0, 1) := by decide +kernel
theorem d_law_364 : decode code 364 = .ok (.iload 4, 2) := by decide +kernel
theorem d_law_366 : decode code 366 = .ok (.iconst 1, 1) := by decide +kernel
theorem d_law_367 : decode code 367 = .ok (.iadd, 1) := by decide +kernel
theorem d_law_368 : decode code 368 = .ok (.iaload, 1) := by decide +kernel
theorem d_law_369 : decode code 369 = .ok (.invokevirtual 87, 3) := by decide +kernel
theorem d_law_372 : decode code 372 = .ok (.istore 6, 2) := by decide +kernel
theorem d_law_374 : decode code 374 = .ok (.goto 3, 3) := by decide +kernel
theorem d_law_377 : decode code 377 = .ok (.iinc 4 3, 3) := by decide +kernel
theorem d_law_380 : decode code 380 = .ok (.goto (-347), 3) := by decide +kernel
theorem d_law_383 : decode code 383 = .ok (.iconst 1, 1) := by decide +kernel
theorem d_law_384 : decode code 384 = .ok (.ireturn, 1) := by decide +kernel
theorem ms_La_get : zz_Mw y_La_get b_La_get 4 (some .int) [(0, 9, 12, 25), (0, 9, 15, 30)] 3 := ⟨(zz_mem (List.mem_of_getElem? (i := 468) (by decide +kernel)) (by decide +kernel)), (zz_mem (List.mem_of_getElem? (i := 110) (by decide +kernel)) (by decide +kernel)), (zz_mem (List.mem_of_getElem? (i := 469) (by decide +kernel)) (by decide +kernel)), by decide +kernel, by decide +kernel, by decide +kernel⟩
theorem ms_La_go : zz_Mw y_La_go b_La_go 4 (some .int) [(0, 9, 12, 13)] 3 := ⟨(zz_mem (List.mem_of_getElem? (i := 408) (by decide +kernel)) (by decide +kernel)), (zz_mem (List.mem_of_getElem? (i := 110) (by decide +kernel)) (by decide +kernel)), (zz_mem (List.mem_of_getElem? (i := 409) (by decide +kernel)) (by decide +kernel)), by decide +kernel, by decide +kernel, by decide +kernel⟩
theorem ms_La_pass : zz_Mw y_La_pass b_La_pass 3 (some .int) [(0, 8, 11, 30)] 2 := ⟨(zz_mem (List.mem_of_getElem? (i := 886) (by decide +kernel)) (by decide +kernel)), (zz_mem (List.mem_of_getElem? (i := 110) (by decide +kernel)) (by decide +kernel)), (zz_mem (List.mem_of_getElem? (i := 887) (by decide +kernel)) (by decide +kernel)), by decide +kernel, by decide +kernel, by decide +kernel⟩
theorem ms_La_put : zz_Mw y_La_put b_La_put 5 (some .int) [(0, 10, 13, 13)] 4 := ⟨(zz_mem (List.mem_of_getElem? (i := 307) (by decide +kernel)) (by decide +kernel)), (zz_mem (List.mem_of_getElem? (i := 110) (by decide +kernel)) (by decide +kernel)), (zz_mem (List.mem_of_getElem? (i := 308) (by decide +kernel)) (by decide +kernel)), by decide +kernel, by decide +kernel, by decide +kernel⟩
theorem ms_La_run : zz_Mw y_La_run b_La_run 4 (some .int) [(0, 9, 12, 13), (0, 9, 15, 30)] 3 := ⟨(zz_mem (List.mem_of_getElem? (i := 492) (by decide +kernel)) (by decide +kernel)), (zz_mem (List.mem_of_getElem? (i := 110) (by decide +kernel)) (by decide +kernel)), (zz_mem (List.mem_of_getElem? (i := 493) (by decide +kernel)) (by decide +kernel)), by decide +kernel, by decide +kernel, by decide +kernel⟩
theorem ms_La_set : zz_Mw y_La_set b_La_set 5 (some .int) [(0, 10, 13, 25)] 4 := ⟨(zz_mem (List.mem_of_getElem? (i := 424) (by decide +kernel)) (by decide +kernel)), (zz_mem (List.mem_of_getElem? (i := 110) (by decide +kernel)) (by decide +kernel)), (zz_mem (List.mem_of_getElem? (i := 425) (by decide +kernel)) (by decide +kernel)), by decide +kernel, by decide +kernel, by decide +kernel⟩
theorem ms_La_state : zz_Mw y_La_state b_La_state 4 (some .int) [(0, 9, 12, 25)] 3 := ⟨(zz_mem (List.mem_of_getElem? (i := 898) (by decide +kernel)) (by decide +kernel)), (zz_mem (List.mem_of_getElem? (i := 110) (by decide +kernel)) (by decide +kernel)), (zz_mem (List.mem_of_getElem? (i := 899) (by decide +kernel)) (by decide +kernel)), by decide +kernel, by decide +kernel, by decide +kernel⟩
theorem ms_La_word : zz_Mw y_La_word b_La_word 4 (some .int) [(0, 9, 12, 13)] 3 := ⟨(zz_mem (List.mem_of_getElem? (i := 401) (by decide +kernel)) (by decide +kernel)), (zz_mem (List.mem_of_getElem? (i := 110) (by decide +kernel)) (by decide +kernel)), (zz_mem (List.mem_of_getElem? (i := 402) (by decide +kernel)) (by decide +kernel)), by decide +kernel, by decide +kernel, by decide +kernel⟩
theorem k_La_54 : Cond.methodLink R_La 54 y_La_put ∈ zz_all := zz_mem (List.mem_of_getElem? (i := 306) (by decide +kernel)) (by decide +kernel)
theorem k_La_58 : Cond.methodLink R_La 58 y_La_word ∈ zz_all := zz_mem (List.mem_of_getElem? (i := 400) (by decide +kernel)) (by decide +kernel)
theorem k_La_62 : Cond.methodLink R_La 62 y_La_go ∈ zz_all := zz_mem (List.mem_of_getElem? (i := 407) (by decide +kernel)) (by decide +kernel)
theorem k_La_65 : Cond.methodLink R_La 65 y_La_set ∈ zz_all := zz_mem (List.mem_of_getElem? (i := 423) (by decide +kernel)) (by decide +kernel)
theorem k_La_68 : Cond.methodLink R_La 68 y_La_get ∈ zz_all := zz_mem (List.mem_of_getElem? (i := 467) (by decide +kernel)) (by decide +kernel)
theorem k_La_71 : Cond.methodLink R_La 71 y_La_run ∈ zz_all := zz_mem (List.mem_of_getElem? (i := 491) (by decide +kernel)) (by decide +kernel)
theorem k_La_78 : Cond.methodLink R_La 78 y_La_pass ∈ zz_all := zz_mem (List.mem_of_getElem? (i := 885) (by decide +kernel)) (by decide +kernel)
theorem k_La_85 : Cond.methodLink R_La 85 y_La_state ∈ zz_all := zz_mem (List.mem_of_getElem? (i := 897) (by decide +kernel)) (by decide +kernel)
theorem k_La_74 : Cond.methodLink R_La 74 y_Co_end ∈ zz_all := zz_mem (List.mem_of_getElem? (i := 299) (by decide +kernel)) (by decide +kernel)
theorem k_La_57 : Cond.methodLink R_La 57 y_Md_put_III ∈ zz_all := zz_mem (List.mem_of_getElem? (i := 995) (by decide +kernel)) (by decide +kernel)
theorem k_La_61 : Cond.methodLink R_La 61 y_Md_word ∈ zz_all := zz_mem (List.mem_of_getElem? (i := 1015) (by decide +kernel)) (by decide +kernel)
theorem k_La_64 : Cond.methodLink R_La 64 y_Md_go ∈ zz_all := zz_mem (List.mem_of_getElem? (i := 1019) (by decide +kernel)) (by decide +kernel)
theorem k_La_67 : Cond.methodLink R_La 67 y_Md_set ∈ zz_all := zz_mem (List.mem_of_getElem? (i := 1023) (by decide +kernel)) (by decide +kernel)
theorem k_La_70 : Cond.methodLink R_La 70 y_Md_get ∈ zz_all := zz_mem (List.mem_of_getElem? (i := 1027) (by decide +kernel)) (by decide +kernel)
theorem k_La_73 : Cond.methodLink R_La 73 y_Md_run ∈ zz_all := zz_mem (List.mem_of_getElem? (i := 1031) (by decide +kernel)) (by decide +kernel)
theorem k_La_77 : Cond.methodLink R_La 77 y_Md_end ∈ zz_all := zz_mem (List.mem_of_getElem? (i := 1262) (by decide +kernel)) (by decide +kernel)
theorem k_La_81 : Cond.methodLink R_La 81 y_Md_pass ∈ zz_all := zz_mem (List.mem_of_getElem? (i := 1266) (by decide +kernel)) (by decide +kernel)
theorem k_La_82 : Cond.methodLink R_La 82 y_Md_thrown ∈ zz_all := zz_mem (List.mem_of_getElem? (i := 991) (by decide +kernel)) (by decide +kernel)
theorem k_La_87 : Cond.methodLink R_La 87 y_Md_state ∈ zz_all := zz_mem (List.mem_of_getElem? (i := 1271) (by decide +kernel)) (by decide +kernel)
def wl_law (Ln : Nat) (xs : Nat → Int32) (ms : Int32) (mn : Nat) (ms2 : Int32) : Nat → Int32 → (Nat → Int32) → (Nat → Int32) → (Nat → Int32) → (Nat → Int32) → Int32 → (Nat → Int32) → (Int32 × Int32 × Int32 × Int64) → (Int32 × Int32 × Int32 × Int64) → (Nat → Int64) → (Nat → Int32) → Int64 → Int64 → (Nat → Int32) → (Nat → Int32) → (Nat → Int32) → Prop
  | 0, _, _, _, _, _, _, _, _, _, _, _, _, _, _, _, _ => False
  | n + 1, v4, yg, yrg, yhq, ymf, ycd, yfg, yL, yO, yov, yddd, ydLwhole, ydLwhole2, ydbm, ydrr, ydkt => ∀ x_1 : Int32, x_1 = ((Int32.ofNat Ln) - (3 : Int32)) → ((x_1 < v4 → False) ∧ (¬ x_1 < v4 → vp_in v4 Ln ∧ ∀ x_3 : Int32, x_3 = (xs v4.toNatClampNeg) → ((((x_3 &&& (15 : Int32)) = (0 : Int32)) → vp_in (v4 + (1 : Int32)) Ln ∧ ∀ x_5 : Int32, x_5 = (xs (v4 + (1 : Int32)).toNatClampNeg) → vp_in (v4 + (2 : Int32)) Ln ∧ ∀ x_6 : Int32, x_6 = (xs (v4 + (2 : Int32)).toNatClampNeg) → wp_La_put ms mn yg yrg yhq ymf ycd yfg yL yO yov x_5 x_6 (fun r_8 u_7 => vp_in (v4 + (1 : Int32)) Ln ∧ ∀ x_9 : Int32, x_9 = (xs (v4 + (1 : Int32)).toNatClampNeg) → vp_in (v4 + (2 : Int32)) Ln ∧ ∀ x_10 : Int32, x_10 = (xs (v4 + (2 : Int32)).toNatClampNeg) → wp_Md_put_III ms2 yddd ydLwhole ydLwhole2 ydbm ydrr ydkt x_9 x_10 (fun r_12 u_11 => ∀ x_13 : Int32, x_13 = v4 + 3 → wl_law Ln xs ms mn ms2 n x_13 u_7.1.1 u_7.1.2.1 u_7.1.2.2.1 u_7.1.2.2.2.1 u_7.1.2.2.2.2.1 u_7.1.2.2.2.2.2.1 u_7.1.2.2.2.2.2.2.1 u_7.1.2.2.2.2.2.2.2 u_7.2 u_11.1 u_11.2.1 u_11.2.2.1 u_11.2.2.2.1 u_11.2.2.2.2.1 u_11.2.2.2.2.2))) ∧ (¬ ((x_3 &&& (15 : Int32)) = (0 : Int32)) → ((((x_3 &&& (15 : Int32)) = (1 : Int32)) → vp_in (v4 + (1 : Int32)) Ln ∧ ∀ x_15 : Int32, x_15 = (xs (v4 + (1 : Int32)).toNatClampNeg) → wp_La_word ms mn yg yrg yhq ymf ycd yfg yL yO yov x_15 (fun r_17 u_16 => vp_in (v4 + (1 : Int32)) Ln ∧ ∀ x_18 : Int32, x_18 = (xs (v4 + (1 : Int32)).toNatClampNeg) → wp_Md_word ms2 yddd ydLwhole ydLwhole2 ydbm ydrr ydkt x_18 (fun r_20 u_19 => ∀ x_21 : Int32, x_21 = v4 + 3 → wl_law Ln xs ms mn ms2 n x_21 u_16.1.1 u_16.1.2.1 u_16.1.2.2.1 u_16.1.2.2.2.1 u_16.1.2.2.2.2.1 u_16.1.2.2.2.2.2.1 u_16.1.2.2.2.2.2.2.1 u_16.1.2.2.2.2.2.2.2 u_16.2 u_19.1 u_19.2.1 u_19.2.2.1 u_19.2.2.2.1 u_19.2.2.2.2.1 u_19.2.2.2.2.2))) ∧ (¬ ((x_3 &&& (15 : Int32)) = (1 : Int32)) → ((((x_3 &&& (15 : Int32)) = (2 : Int32)) → vp_in (v4 + (1 : Int32)) Ln ∧ ∀ x_23 : Int32, x_23 = (xs (v4 + (1 : Int32)).toNatClampNeg) → wp_La_go ms mn yg yrg yhq ymf ycd yfg yL yO yov x_23 (fun r_25 u_24 => vp_in (v4 + (1 : Int32)) Ln ∧ ∀ x_26 : Int32, x_26 = (xs (v4 + (1 : Int32)).toNatClampNeg) → wp_Md_go ms2 yddd ydLwhole ydLwhole2 ydbm ydrr ydkt x_26 (fun r_28 u_27 => ∀ x_29 : Int32, x_29 = v4 + 3 → wl_law Ln xs ms mn ms2 n x_29 u_24.1.1 u_24.1.2.1 u_24.1.2.2.1 u_24.1.2.2.2.1 u_24.1.2.2.2.2.1 u_24.1.2.2.2.2.2.1 u_24.1.2.2.2.2.2.2.1 u_24.1.2.2.2.2.2.2.2 u_24.2 u_27.1 u_27.2.1 u_27.2.2.1 u_27.2.2.2.1 u_27.2.2.2.2.1 u_27.2.2.2.2.2))) ∧ (¬ ((x_3 &&& (15 : Int32)) = (2 : Int32)) → ((((x_3 &&& (15 : Int32)) = (3 : Int32)) → vp_in (v4 + (1 : Int32)) Ln ∧ ∀ x_31 : Int32, x_31 = (xs (v4 + (1 : Int32)).toNatClampNeg) → vp_in (v4 + (2 : Int32)) Ln ∧ ∀ x_32 : Int32, x_32 = (xs (v4 + (2 : Int32)).toNatClampNeg) → wp_La_set ms mn yg yrg yhq ymf ycd yfg yL yO yov x_31 x_32 (fun r_34 u_33 => vp_in (v4 + (1 : Int32)) Ln ∧ ∀ x_35 : Int32, x_35 = (xs (v4 + (1 : Int32)).toNatClampNeg) → vp_in (v4 + (2 : Int32)) Ln ∧ ∀ x_36 : Int32, x_36 = (xs (v4 + (2 : Int32)).toNatClampNeg) → wp_Md_set ms2 yddd ydLwhole ydLwhole2 ydbm ydrr ydkt x_35 x_36 (fun r_38 u_37 => ∀ x_39 : Int32, x_39 = v4 + 3 → wl_law Ln xs ms mn ms2 n x_39 u_33.1.1 u_33.1.2.1 u_33.1.2.2.1 u_33.1.2.2.2.1 u_33.1.2.2.2.2.1 u_33.1.2.2.2.2.2.1 u_33.1.2.2.2.2.2.2.1 u_33.1.2.2.2.2.2.2.2 u_33.2 u_37.1 u_37.2.1 u_37.2.2.1 u_37.2.2.2.1 u_37.2.2.2.2.1 u_37.2.2.2.2.2))) ∧ (¬ ((x_3 &&& (15 : Int32)) = (3 : Int32)) → ((((x_3 &&& (15 : Int32)) = (4 : Int32)) → vp_in (v4 + (1 : Int32)) Ln ∧ ∀ x_41 : Int32, x_41 = (xs (v4 + (1 : Int32)).toNatClampNeg) → wp_La_get ms mn yg yrg yhq ymf ycd yfg yL yO yov x_41 (fun r_43 u_42 => vp_in (v4 + (1 : Int32)) Ln ∧ ∀ x_44 : Int32, x_44 = (xs (v4 + (1 : Int32)).toNatClampNeg) → wp_Md_get ms2 yddd ydLwhole ydLwhole2 ydbm ydrr ydkt x_44 (fun r_46 u_45 => ∀ x_47 : Int32, x_47 = v4 + 3 → wl_law Ln xs ms mn ms2 n x_47 u_42.1.1 u_42.1.2.1 u_42.1.2.2.1 u_42.1.2.2.2.1 u_42.1.2.2.2.2.1 u_42.1.2.2.2.2.2.1 u_42.1.2.2.2.2.2.2.1 u_42.1.2.2.2.2.2.2.2 u_42.2 u_45.1 u_45.2.1 u_45.2.2.1 u_45.2.2.2.1 u_45.2.2.2.2.1 u_45.2.2.2.2.2))) ∧ (¬ ((x_3 &&& (15 : Int32)) = (4 : Int32)) → ((((x_3 &&& (15 : Int32)) = (5 : Int32)) → vp_in (v4 + (1 : Int32)) Ln ∧ ∀ x_49 : Int32, x_49 = (xs (v4 + (1 : Int32)).toNatClampNeg) → wp_La_run ms mn yg yrg yhq ymf ycd yfg yL yO yov x_49 (fun r_51 u_50 => vp_in (v4 + (1 : Int32)) Ln ∧ ∀ x_52 : Int32, x_52 = (xs (v4 + (1 : Int32)).toNatClampNeg) → wp_Md_run ms2 yddd ydLwhole ydLwhole2 ydbm ydrr ydkt x_52 (fun r_54 u_53 => ∀ x_55 : Int32, x_55 = v4 + 3 → wl_law Ln xs ms mn ms2 n x_55 u_50.1.1 u_50.1.2.1 u_50.1.2.2.1 u_50.1.2.2.2.1 u_50.1.2.2.2.2.1 u_50.1.2.2.2.2.2.1 u_50.1.2.2.2.2.2.2.1 u_50.1.2.2.2.2.2.2.2 u_50.2 u_53.1 u_53.2.1 u_53.2.2.1 u_53.2.2.2.1 u_53.2.2.2.2.1 u_53.2.2.2.2.2))) ∧ (¬ ((x_3 &&& (15 : Int32)) = (5 : Int32)) → ((((x_3 &&& (15 : Int32)) = (6 : Int32)) → wp_Co_end ms mn yg yrg yhq ymf ycd yfg yL yO (fun r_57 => wp_Md_end ms2 yddd ydLwhole ydLwhole2 ydbm ydrr ydkt (fun r_59 u_58 => ∀ x_60 : Int32, x_60 = v4 + 3 → wl_law Ln xs ms mn ms2 n x_60 yg yrg yhq ymf ycd yfg yL yO yov u_58.1 u_58.2.1 u_58.2.2.1 u_58.2.2.2.1 u_58.2.2.2.2.1 u_58.2.2.2.2.2))) ∧ (¬ ((x_3 &&& (15 : Int32)) = (6 : Int32)) → ((((x_3 &&& (15 : Int32)) = (7 : Int32)) → wp_La_pass ms mn yg yrg yhq ymf ycd yfg yL yO yov (fun r_63 u_62 => wp_Md_pass ms2 yddd ydLwhole ydLwhole2 ydbm ydrr ydkt (fun r_65 u_64 => wp_Md_thrown ms2 u_64.1 u_64.2.1 u_64.2.2.1 u_64.2.2.2.1 u_64.2.2.2.2.1 u_64.2.2.2.2.2 (fun r_66 => ((r_66 = r_63 → ((r_63 = (0 : Int32) → ∀ x_70 : Int64, x_70 = (u_62.2 (0 : Int32).toNatClampNeg) → ((x_70 = r_65.toInt64 → ∀ x_72 : Int32, x_72 = v4 + 3 → wl_law Ln xs ms mn ms2 n x_72 u_62.1.1 u_62.1.2.1 u_62.1.2.2.1 u_62.1.2.2.2.1 u_62.1.2.2.2.2.1 u_62.1.2.2.2.2.2.1 u_62.1.2.2.2.2.2.2.1 u_62.1.2.2.2.2.2.2.2 u_62.2 u_64.1 u_64.2.1 u_64.2.2.1 u_64.2.2.2.1 u_64.2.2.2.2.1 u_64.2.2.2.2.2) ∧ (¬ x_70 = r_65.toInt64 → True))) ∧ (¬ r_63 = (0 : Int32) → ∀ x_69 : Int32, x_69 = v4 + 3 → wl_law Ln xs ms mn ms2 n x_69 u_62.1.1 u_62.1.2.1 u_62.1.2.2.1 u_62.1.2.2.2.1 u_62.1.2.2.2.2.1 u_62.1.2.2.2.2.2.1 u_62.1.2.2.2.2.2.2.1 u_62.1.2.2.2.2.2.2.2 u_62.2 u_64.1 u_64.2.1 u_64.2.2.1 u_64.2.2.2.1 u_64.2.2.2.2.1 u_64.2.2.2.2.2))) ∧ (¬ r_66 = r_63 → True)))))) ∧ (¬ ((x_3 &&& (15 : Int32)) = (7 : Int32)) → ((((x_3 &&& (15 : Int32)) = (8 : Int32)) → vp_in (v4 + (1 : Int32)) Ln ∧ ∀ x_74 : Int32, x_74 = (xs (v4 + (1 : Int32)).toNatClampNeg) → wp_La_state ms mn yg yrg yhq ymf ycd yfg yL yO yov x_74 (fun r_76 u_75 => vp_in (v4 + (1 : Int32)) Ln ∧ ∀ x_77 : Int32, x_77 = (xs (v4 + (1 : Int32)).toNatClampNeg) → wp_Md_state ms2 yddd ydLwhole ydLwhole2 ydbm ydrr ydkt x_77 (fun r_79 u_78 => ∀ x_80 : Int32, x_80 = v4 + 3 → wl_law Ln xs ms mn ms2 n x_80 u_75.1.1 u_75.1.2.1 u_75.1.2.2.1 u_75.1.2.2.2.1 u_75.1.2.2.2.2.1 u_75.1.2.2.2.2.2.1 u_75.1.2.2.2.2.2.2.1 u_75.1.2.2.2.2.2.2.2 u_75.2 u_78.1 u_78.2.1 u_78.2.2.1 u_78.2.2.2.1 u_78.2.2.2.2.1 u_78.2.2.2.2.2))) ∧ (¬ ((x_3 &&& (15 : Int32)) = (8 : Int32)) → ∀ x_81 : Int32, x_81 = v4 + 3 → wl_law Ln xs ms mn ms2 n x_81 yg yrg yhq ymf ycd yfg yL yO yov yddd ydLwhole ydLwhole2 ydbm ydrr ydkt))))))))))))))))))))
set_option maxHeartbeats 8000000 in
set_option maxRecDepth 100000 in
theorem law_loop {p : Program} {l : Launch} {e : Env} {s : State} {m : MethodId} {below : List Frame} {meth : Method} {c : Code} (hl0 : l.stackTraces = false) (D : va_G) (cI cJ cB : ClassId) (qx : Nat) (qc : Nat) (qp : Nat) (qr : Nat) (qh : Nat) (qm : Nat) (qw : Nat) (qu : Nat) (qf : Nat) (ql : Nat) (qo : Nat) (eqd : Nat) (eqmemory : Nat) (eqr : Nat) (eqcounts : Nat) {b Ln : Nat} {xs : Nat → Int32} (ms : Int32) (mn : Nat) (ms2 : Int32) (hx : p.tables.exec = Jvm.exec) (hb : c.code = code) (hr : meth.sig.returnType = ret) (hml : c.maxLocals = 7) (hown : s.vm.findClass R_La = some m.cls) (hts : ∀ w ∈ Cond.arrayClass .int :: zz_all, w.before #[Value.ref b] s = true) (hX : va_X b Ln xs s s.heap) (hbl : b < s.heap.size) (hlocks : meth.locks = false) (hK : va_K D vwCl [(cI, .int), (cJ, .long), (cB, .byte)] s) (A : Nat → Prop) (hAd : A = (fun q : Nat => s.heap.size ≤ q)) (hE : zz_ex A s s.heap) (hNc : zz_nc s) : ∀ (n : Nat) (v4 : Int32) (yg : Nat → Int32) (yrg : Nat → Int32) (yhq : Nat → Int32) (ymf : Nat → Int32) (ycd : Int32) (yfg : Nat → Int32) (yL : Int32 × Int32 × Int32 × Int64) (yO : Int32 × Int32 × Int32 × Int64) (yov : Nat → Int64) (yddd : Nat → Int32) (ydLwhole : Int64) (ydLwhole2 : Int64) (ydbm : Nat → Int32) (ydrr : Nat → Int32) (ydkt : Nat → Int32), wl_law Ln xs ms mn ms2 n v4 yg yrg yhq ymf ycd yfg yL yO yov yddd ydLwhole ydLwhole2 ydbm ydrr ydkt → ∀ (cN sN : Nat), cN + n ≤ 601024 → sN + 6 * n ≤ 7293000 → ∀ (H : Heap) (locs : List Loc), va_P D vwCl (wA qx qc qp qr qh qm qw qu qf ql qo eqd eqmemory eqr eqcounts cI cJ cB ms mn ms2 yg yrg yhq ymf ycd yfg yL yO yov yddd ydLwhole ydLwhole2 ydbm ydrr ydkt) H → va_D A (wA qx qc qp qr qh qm qw qu qf ql qo eqd eqmemory eqr eqcounts cI cJ cB ms mn ms2 yg yrg yhq ymf ycd yfg yL yO yov yddd ydLwhole ydLwhole2 ydbm ydrr ydkt) → va_S A s.heap H locs → ∀ ls : Array Slot, lv_has ls 7 [(0, .ref b), (1, .ref qc), (2, .ref eqd), (3, .ref qx), (4, .int v4)] → W p l e room_1 s m #[Value.ref b] below meth c H locs cN sN (lw_Z below #[Value.ref b] s) (F0 m 33 ls []) := by
  have hA : ∀ q : Nat, s.heap.size ≤ q → A q := fun q h => by rw [hAd]; exact h
  have hbA : ¬ A b := by rw [hAd]; exact Nat.not_le.mpr hbl
  have hT := zz_hts hts
  have hKw : va_K D vwCl [(cI, .int), (cJ, .long)] s := hK.sub [0, 1] rfl
  have hKc : va_K D vwCl [(cI, .int)] s := hK.sub [0] rfl
  have hKd : va_K D vwCl [(cI, .int), (cB, .byte)] s := hK.sub [0, 2] rfl
  have X : CallFix p m c code 7 s #[Value.ref b] (Cond.arrayClass .int :: zz_all) R_La := ⟨hx, hb, hml, hown, hts⟩
  have hSx : ∀ q ∈ ([] : List Loc), s.heap.size ≤ q.base := fun q h => by cases h
  intro n
  induction n with
  | zero =>
    intro v4 yg yrg yhq ymf ycd yfg yL yO yov yddd ydLwhole ydLwhole2 ydbm ydrr ydkt h
    exact False.elim h
  | succ n ih =>
    intro v4 yg yrg yhq ymf ycd yfg yL yO yov yddd ydLwhole ydLwhole2 ydbm ydrr ydkt h cN sN hcN hsN H locs hP hD hS ls hl
    rw [wl_law] at h
    have hf0 : cN + 0 ≤ room_1.cells ∧ sN + 0 ≤ room_1.slots := ⟨by show cN + 0 ≤ 601024; omega, by show sN + 0 ≤ 7293000; omega⟩
    refine lv_iload hx hb d_law_33 (lv_at hl 4 rfl) ?_
    refine lv_aload_n hx hb d_law_35 rfl (lv_at hl 0 rfl) ?_
    refine va_slen hx hb hX hbl hbA hS d_law_36 ?_
    refine lv_iconst (v := 3) hx hb d_law_37 (by decide) ?_
    refine lv_isub hx hb d_law_38 ?_
    refine lv_topi (fun x_1 ex_1 => ?_)
    have h := h x_1 ex_1
    refine lv_icmp_gt (tgt := 383) hx hb d_law_39 (by decide) (fun c_2 => ?_) (fun c_2 => ?_)
    · skip
      have h := h.1 c_2
      refine lv_iconst (v := 1) hx hb d_law_383 (by decide) ?_
      exact False.elim h
    · skip
      have h := h.2 c_2
      refine lv_aload_n hx hb d_law_42 rfl (lv_at hl 0 rfl) ?_
      refine lv_iload hx hb d_law_43 (lv_at hl 4 rfl) ?_
      refine va_sld hx hb hX hbl hbA hS h.1 d_law_45 ?_
      have h := h.2
      refine lv_topi (fun x_3 ex_3 => ?_)
      have h := h x_3 ex_3
      refine lv_bipush (v := 15) hx hb d_law_46 (by decide) ?_
      refine lv_iand hx hb d_law_48 ?_
      by_cases c_4 : (x_3 &&& (15 : Int32)) = (0 : Int32)
      · have h := h.1 c_4
        have h0 := c_4
        refine lv_tableIn (off := 51) (tgt := 100) hx hb d_law_49 (by rw [h0]; decide) (by rw [h0]; decide) (by rw [h0]; rfl) (by decide) ?_
        refine lv_aload_n hx hb d_law_100 rfl (lv_at hl 1 rfl) ?_
        refine lv_aload_n hx hb d_law_101 rfl (lv_at hl 0 rfl) ?_
        refine lv_iload hx hb d_law_102 (lv_at hl 4 rfl) ?_
        refine lv_iconst (v := 1) hx hb d_law_104 (by decide) ?_
        refine lv_iadd hx hb d_law_105 ?_
        refine va_sld hx hb hX hbl hbA hS h.1 d_law_106 ?_
        have h := h.2
        refine lv_topi (fun x_5 ex_5 => ?_)
        have h := h x_5 ex_5
        refine lv_aload_n hx hb d_law_107 rfl (lv_at hl 0 rfl) ?_
        refine lv_iload hx hb d_law_108 (lv_at hl 4 rfl) ?_
        refine lv_iconst (v := 2) hx hb d_law_110 (by decide) ?_
        refine lv_iadd hx hb d_law_111 ?_
        refine va_sld hx hb hX hbl hbA hS h.1 d_law_112 ?_
        have h := h.2
        refine lv_topi (fun x_6 ex_6 => ?_)
        have h := h x_6 ex_6
        refine lv_aload_n hx hb d_law_113 rfl (lv_at hl 3 rfl) ?_
        refine zz_SWi (As := [.ref qc, .int x_5, .int x_6, .ref qx]) (rest := []) (wc := wL qx qc qp qr qh qm qw qu qf ql qo cI cJ ms mn yg yrg yhq ymf ycd yfg yL yO yov) (wr := [(eqd, .inr (6, [.int (yddd 0), .ref eqmemory, .int ms2, .ref eqr, .int (yddd 1), .int (yddd 2), .int (yddd 3), .int (yddd 4), .int (yddd 5), .int (yddd 6), .int (yddd 7), .int (yddd 8), .ref eqcounts, .int (yddd 9), .int (yddd 10), .int (yddd 11), .int (yddd 12), .int (yddd 13), .int (yddd 14), .int (yddd 15), .int (yddd 16), .int (yddd 17), .int (yddd 18), .int (yddd 19), .long ydLwhole, .long ydLwhole2])), (eqmemory, .inl (cB, 262144, .inl ydbm)), (eqr, .inl (cI, 67, .inl ydrr)), (eqcounts, .inl (cI, 5, .inl ydkt))]) X hKw hP hD hS hA hE hNc (c_La_put l hl0 D cI cJ qx qc qp qr qh qm qw qu qf ql qo ms mn yg yrg yhq ymf ycd yfg yL yO yov x_5 x_6 _ h _) ⟨rfl, rfl⟩ ms_La_put k_La_54 ⟨Nat.le_of_ble_eq_true rfl, Nat.le_of_ble_eq_true rfl⟩ [0, 1, 2, 3, 4, 5, 6, 7, 8, 9, 10] [11, 12, 13, 14] rfl rfl (by decide) (by decide) (by decide) rfl hl.1 rfl (Nat.le_of_ble_eq_true rfl) d_law_114 ⟨by show cN + 1 ≤ 601024; omega, by show sN + 6 ≤ 7293000; omega⟩ (fun r_8 u_7 H locs h hP hD hS => ?_)
        have hP : va_P D vwCl (wA qx qc qp qr qh qm qw qu qf ql qo eqd eqmemory eqr eqcounts cI cJ cB ms mn ms2 u_7.1.1 u_7.1.2.1 u_7.1.2.2.1 u_7.1.2.2.2.1 u_7.1.2.2.2.2.1 u_7.1.2.2.2.2.2.1 u_7.1.2.2.2.2.2.2.1 u_7.1.2.2.2.2.2.2.2 u_7.2 yddd ydLwhole ydLwhole2 ydbm ydrr ydkt) H := hP.sub [4, 5, 6, 7, 8, 9, 10, 11, 12, 13, 14, 0, 1, 2, 3] rfl
        have hD : va_D A (wA qx qc qp qr qh qm qw qu qf ql qo eqd eqmemory eqr eqcounts cI cJ cB ms mn ms2 u_7.1.1 u_7.1.2.1 u_7.1.2.2.1 u_7.1.2.2.2.1 u_7.1.2.2.2.2.1 u_7.1.2.2.2.2.2.1 u_7.1.2.2.2.2.2.2.1 u_7.1.2.2.2.2.2.2.2 u_7.2 yddd ydLwhole ydLwhole2 ydbm ydrr ydkt) := hD.sub [4, 5, 6, 7, 8, 9, 10, 11, 12, 13, 14, 0, 1, 2, 3] (by decide) rfl
        have hf0 : (cN + 1) + 0 ≤ room_1.cells ∧ (sN + 6) + 0 ≤ room_1.slots := ⟨by show (cN + 1) + 0 ≤ 601024; omega, by show (sN + 6) + 0 ≤ 7293000; omega⟩
        refine lv_istore (lv' := [(5, .int r_8), (0, .ref b), (1, .ref qc), (2, .ref eqd), (3, .ref qx), (4, .int v4)]) hx hb d_law_117 hl (by decide) rfl (fun ls hl => ?_)
        refine lv_aload_n hx hb d_law_119 rfl (lv_at hl 3 rfl) ?_
        refine lv_aload_n hx hb d_law_120 rfl (lv_at hl 1 rfl) ?_
        refine lv_iload hx hb d_law_121 (lv_at hl 5 rfl) ?_
        refine lv_iconst (v := 1) hx hb d_law_123 (by decide) ?_
        refine lv_iadd hx hb d_law_124 ?_
        refine va_sld hx hb hX hbl hbA hS h.1 d_law_125 ?_
        have h := h.2
        refine lv_topi (fun x_9 ex_9 => ?_)
        have h := h x_9 ex_9
        refine lv_aload_n hx hb d_law_126 rfl (lv_at hl 1 rfl) ?_
        refine lv_iload hx hb d_law_127 (lv_at hl 5 rfl) ?_
        refine lv_iconst (v := 2) hx hb d_law_129 (by decide) ?_
        refine lv_iadd hx hb d_law_130 ?_
        refine va_sld hx hb hX hbl hbA hS h.1 d_law_131 ?_
        have h := h.2
        refine lv_topi (fun x_10 ex_10 => ?_)
        have h := h x_10 ex_10
        refine zz_Wi (As := [.int x_9, .int x_10]) (rest := []) (wc := wD eqd eqmemory eqr eqcounts cI cB ms2 yddd ydLwhole ydLwhole2 ydbm ydrr ydkt) (wr := [(qx, .inl (cJ, 1, .inr (.inl u_7.2))), (qc, .inr (5, [.ref qm, .ref qp])), (qp, .inr (4, [.ref qm, .ref qr, .ref qh, .ref qu, .int (u_7.1.1 0), .int (u_7.1.1 1), .int (u_7.1.1 2), .int (u_7.1.1 3), .int (u_7.1.1 4), .int (u_7.1.1 5), .int (u_7.1.1 6), .int (u_7.1.1 7), .int (u_7.1.1 8), .int (u_7.1.1 9), .int (u_7.1.1 10), .int (u_7.1.1 11)])), (qr, .inl (cI, 32, .inl u_7.1.2.1)), (qh, .inr (2, [.int (u_7.1.2.2.1 0), .int (u_7.1.2.2.1 1), .int (u_7.1.2.2.1 2), .int (u_7.1.2.2.1 3)])), (qm, .inr (3, [.int ms, .ref qw])), (qw, .inl (cI, mn, .inl u_7.1.2.2.2.1)), (qu, .inr (1, [.ref qf, .int u_7.1.2.2.2.2.1, .ref ql, .ref qo])), (qf, .inl (cI, 32, .inl u_7.1.2.2.2.2.2.1)), (ql, .inr (0, [.int u_7.1.2.2.2.2.2.2.1.1, .int u_7.1.2.2.2.2.2.2.1.2.1, .int u_7.1.2.2.2.2.2.2.1.2.2.1, .long u_7.1.2.2.2.2.2.2.1.2.2.2])), (qo, .inr (0, [.int u_7.1.2.2.2.2.2.2.2.1, .int u_7.1.2.2.2.2.2.2.2.2.1, .int u_7.1.2.2.2.2.2.2.2.2.2.1, .long u_7.1.2.2.2.2.2.2.2.2.2.2]))]) X hKd hP hD hS hA (c_Md_put_III l D cI cB eqd eqmemory eqr eqcounts ms2 yddd ydLwhole ydLwhole2 ydbm ydrr ydkt x_9 x_10 _ h _) ⟨rfl, rfl⟩ m_Md_put_III k_La_57 ⟨Nat.le_of_ble_eq_true rfl, Nat.le_of_ble_eq_true rfl⟩ [11, 12, 13, 14] [0, 1, 2, 3, 4, 5, 6, 7, 8, 9, 10] rfl rfl (by decide) (by decide) (by decide) 6 11 rfl rfl rfl rfl hl.1 rfl (Nat.le_of_ble_eq_true rfl) d_law_132 hf0 (fun r_12 u_11 H locs h hP hD hS => ?_)
        have hP : va_P D vwCl (wA qx qc qp qr qh qm qw qu qf ql qo eqd eqmemory eqr eqcounts cI cJ cB ms mn ms2 u_7.1.1 u_7.1.2.1 u_7.1.2.2.1 u_7.1.2.2.2.1 u_7.1.2.2.2.2.1 u_7.1.2.2.2.2.2.1 u_7.1.2.2.2.2.2.2.1 u_7.1.2.2.2.2.2.2.2 u_7.2 u_11.1 u_11.2.1 u_11.2.2.1 u_11.2.2.2.1 u_11.2.2.2.2.1 u_11.2.2.2.2.2) H := hP.sub [0, 1, 2, 3, 4, 5, 6, 7, 8, 9, 10, 11, 12, 13, 14] rfl
        have hD : va_D A (wA qx qc qp qr qh qm qw qu qf ql qo eqd eqmemory eqr eqcounts cI cJ cB ms mn ms2 u_7.1.1 u_7.1.2.1 u_7.1.2.2.1 u_7.1.2.2.2.1 u_7.1.2.2.2.2.1 u_7.1.2.2.2.2.2.1 u_7.1.2.2.2.2.2.2.1 u_7.1.2.2.2.2.2.2.2 u_7.2 u_11.1 u_11.2.1 u_11.2.2.1 u_11.2.2.2.1 u_11.2.2.2.2.1 u_11.2.2.2.2.2) := hD.sub [0, 1, 2, 3, 4, 5, 6, 7, 8, 9, 10, 11, 12, 13, 14] (by decide) rfl
        refine lv_istore (lv' := [(6, .int r_12), (5, .int r_8), (0, .ref b), (1, .ref qc), (2, .ref eqd), (3, .ref qx), (4, .int v4)]) hx hb d_law_135 hl (by decide) rfl (fun ls hl => ?_)
        refine lv_goto (tgt := 377) hx hb d_law_137 (by decide) ?_
        obtain ⟨x_13, ex_13⟩ : ∃ y : Int32, y = v4 + 3 := ⟨_, rfl⟩
        have h := h x_13 ex_13
        refine lv_iinc (v := x_13) (lv' := [(4, .int x_13), (6, .int r_12), (5, .int r_8), (0, .ref b), (1, .ref qc), (2, .ref eqd), (3, .ref qx)]) hx hb d_law_377 hl (k := 6) rfl (by rw [ex_13]; rfl) (by decide) rfl (fun ls hl => ?_)
        refine lv_goto (tgt := 33) hx hb d_law_380 (by decide) ?_
        exact ih x_13 u_7.1.1 u_7.1.2.1 u_7.1.2.2.1 u_7.1.2.2.2.1 u_7.1.2.2.2.2.1 u_7.1.2.2.2.2.2.1 u_7.1.2.2.2.2.2.2.1 u_7.1.2.2.2.2.2.2.2 u_7.2 u_11.1 u_11.2.1 u_11.2.2.1 u_11.2.2.2.1 u_11.2.2.2.2.1 u_11.2.2.2.2.2 h (cN + 1) (sN + 6) (by omega) (by omega) _ _ hP hD hS ls (lv_sub hl [3, 4, 5, 6, 0] rfl)
      · have h := h.2 c_4
        by_cases c_14 : (x_3 &&& (15 : Int32)) = (1 : Int32)
        · have h := h.1 c_14
          have h0 := c_14
          refine lv_tableIn (off := 91) (tgt := 140) hx hb d_law_49 (by rw [h0]; decide) (by rw [h0]; decide) (by rw [h0]; rfl) (by decide) ?_
          refine lv_aload_n hx hb d_law_140 rfl (lv_at hl 1 rfl) ?_
          refine lv_aload_n hx hb d_law_141 rfl (lv_at hl 0 rfl) ?_
          refine lv_iload hx hb d_law_142 (lv_at hl 4 rfl) ?_
          refine lv_iconst (v := 1) hx hb d_law_144 (by decide) ?_
          refine lv_iadd hx hb d_law_145 ?_
          refine va_sld hx hb hX hbl hbA hS h.1 d_law_146 ?_
          have h := h.2
          refine lv_topi (fun x_15 ex_15 => ?_)
          have h := h x_15 ex_15
          refine lv_aload_n hx hb d_law_147 rfl (lv_at hl 3 rfl) ?_
          refine zz_SWi (As := [.ref qc, .int x_15, .ref qx]) (rest := []) (wc := wL qx qc qp qr qh qm qw qu qf ql qo cI cJ ms mn yg yrg yhq ymf ycd yfg yL yO yov) (wr := [(eqd, .inr (6, [.int (yddd 0), .ref eqmemory, .int ms2, .ref eqr, .int (yddd 1), .int (yddd 2), .int (yddd 3), .int (yddd 4), .int (yddd 5), .int (yddd 6), .int (yddd 7), .int (yddd 8), .ref eqcounts, .int (yddd 9), .int (yddd 10), .int (yddd 11), .int (yddd 12), .int (yddd 13), .int (yddd 14), .int (yddd 15), .int (yddd 16), .int (yddd 17), .int (yddd 18), .int (yddd 19), .long ydLwhole, .long ydLwhole2])), (eqmemory, .inl (cB, 262144, .inl ydbm)), (eqr, .inl (cI, 67, .inl ydrr)), (eqcounts, .inl (cI, 5, .inl ydkt))]) X hKw hP hD hS hA hE hNc (c_La_word l hl0 D cI cJ qx qc qp qr qh qm qw qu qf ql qo ms mn yg yrg yhq ymf ycd yfg yL yO yov x_15 _ h _) ⟨rfl, rfl⟩ ms_La_word k_La_58 ⟨Nat.le_of_ble_eq_true rfl, Nat.le_of_ble_eq_true rfl⟩ [0, 1, 2, 3, 4, 5, 6, 7, 8, 9, 10] [11, 12, 13, 14] rfl rfl (by decide) (by decide) (by decide) rfl hl.1 rfl (Nat.le_of_ble_eq_true rfl) d_law_148 ⟨by show cN + 1 ≤ 601024; omega, by show sN + 6 ≤ 7293000; omega⟩ (fun r_17 u_16 H locs h hP hD hS => ?_)
          have hP : va_P D vwCl (wA qx qc qp qr qh qm qw qu qf ql qo eqd eqmemory eqr eqcounts cI cJ cB ms mn ms2 u_16.1.1 u_16.1.2.1 u_16.1.2.2.1 u_16.1.2.2.2.1 u_16.1.2.2.2.2.1 u_16.1.2.2.2.2.2.1 u_16.1.2.2.2.2.2.2.1 u_16.1.2.2.2.2.2.2.2 u_16.2 yddd ydLwhole ydLwhole2 ydbm ydrr ydkt) H := hP.sub [4, 5, 6, 7, 8, 9, 10, 11, 12, 13, 14, 0, 1, 2, 3] rfl
          have hD : va_D A (wA qx qc qp qr qh qm qw qu qf ql qo eqd eqmemory eqr eqcounts cI cJ cB ms mn ms2 u_16.1.1 u_16.1.2.1 u_16.1.2.2.1 u_16.1.2.2.2.1 u_16.1.2.2.2.2.1 u_16.1.2.2.2.2.2.1 u_16.1.2.2.2.2.2.2.1 u_16.1.2.2.2.2.2.2.2 u_16.2 yddd ydLwhole ydLwhole2 ydbm ydrr ydkt) := hD.sub [4, 5, 6, 7, 8, 9, 10, 11, 12, 13, 14, 0, 1, 2, 3] (by decide) rfl
          have hf0 : (cN + 1) + 0 ≤ room_1.cells ∧ (sN + 6) + 0 ≤ room_1.slots := ⟨by show (cN + 1) + 0 ≤ 601024; omega, by show (sN + 6) + 0 ≤ 7293000; omega⟩
          refine lv_istore (lv' := [(5, .int r_17), (0, .ref b), (1, .ref qc), (2, .ref eqd), (3, .ref qx), (4, .int v4)]) hx hb d_law_151 hl (by decide) rfl (fun ls hl => ?_)
          refine lv_aload_n hx hb d_law_153 rfl (lv_at hl 3 rfl) ?_
          refine lv_aload_n hx hb d_law_154 rfl (lv_at hl 1 rfl) ?_
          refine lv_iload hx hb d_law_155 (lv_at hl 5 rfl) ?_
          refine lv_iconst (v := 1) hx hb d_law_157 (by decide) ?_
          refine lv_iadd hx hb d_law_158 ?_
          refine va_sld hx hb hX hbl hbA hS h.1 d_law_159 ?_
          have h := h.2
          refine lv_topi (fun x_18 ex_18 => ?_)
          have h := h x_18 ex_18
          refine zz_Wi (As := [.int x_18]) (rest := []) (wc := wD eqd eqmemory eqr eqcounts cI cB ms2 yddd ydLwhole ydLwhole2 ydbm ydrr ydkt) (wr := [(qx, .inl (cJ, 1, .inr (.inl u_16.2))), (qc, .inr (5, [.ref qm, .ref qp])), (qp, .inr (4, [.ref qm, .ref qr, .ref qh, .ref qu, .int (u_16.1.1 0), .int (u_16.1.1 1), .int (u_16.1.1 2), .int (u_16.1.1 3), .int (u_16.1.1 4), .int (u_16.1.1 5), .int (u_16.1.1 6), .int (u_16.1.1 7), .int (u_16.1.1 8), .int (u_16.1.1 9), .int (u_16.1.1 10), .int (u_16.1.1 11)])), (qr, .inl (cI, 32, .inl u_16.1.2.1)), (qh, .inr (2, [.int (u_16.1.2.2.1 0), .int (u_16.1.2.2.1 1), .int (u_16.1.2.2.1 2), .int (u_16.1.2.2.1 3)])), (qm, .inr (3, [.int ms, .ref qw])), (qw, .inl (cI, mn, .inl u_16.1.2.2.2.1)), (qu, .inr (1, [.ref qf, .int u_16.1.2.2.2.2.1, .ref ql, .ref qo])), (qf, .inl (cI, 32, .inl u_16.1.2.2.2.2.2.1)), (ql, .inr (0, [.int u_16.1.2.2.2.2.2.2.1.1, .int u_16.1.2.2.2.2.2.2.1.2.1, .int u_16.1.2.2.2.2.2.2.1.2.2.1, .long u_16.1.2.2.2.2.2.2.1.2.2.2])), (qo, .inr (0, [.int u_16.1.2.2.2.2.2.2.2.1, .int u_16.1.2.2.2.2.2.2.2.2.1, .int u_16.1.2.2.2.2.2.2.2.2.2.1, .long u_16.1.2.2.2.2.2.2.2.2.2.2]))]) X hKd hP hD hS hA (c_Md_word l D cI cB eqd eqmemory eqr eqcounts ms2 yddd ydLwhole ydLwhole2 ydbm ydrr ydkt x_18 _ h _) ⟨rfl, rfl⟩ m_Md_word k_La_61 ⟨Nat.le_of_ble_eq_true rfl, Nat.le_of_ble_eq_true rfl⟩ [11, 12, 13, 14] [0, 1, 2, 3, 4, 5, 6, 7, 8, 9, 10] rfl rfl (by decide) (by decide) (by decide) 6 11 rfl rfl rfl rfl hl.1 rfl (Nat.le_of_ble_eq_true rfl) d_law_160 hf0 (fun r_20 u_19 H locs h hP hD hS => ?_)
          have hP : va_P D vwCl (wA qx qc qp qr qh qm qw qu qf ql qo eqd eqmemory eqr eqcounts cI cJ cB ms mn ms2 u_16.1.1 u_16.1.2.1 u_16.1.2.2.1 u_16.1.2.2.2.1 u_16.1.2.2.2.2.1 u_16.1.2.2.2.2.2.1 u_16.1.2.2.2.2.2.2.1 u_16.1.2.2.2.2.2.2.2 u_16.2 u_19.1 u_19.2.1 u_19.2.2.1 u_19.2.2.2.1 u_19.2.2.2.2.1 u_19.2.2.2.2.2) H := hP.sub [0, 1, 2, 3, 4, 5, 6, 7, 8, 9, 10, 11, 12, 13, 14] rfl
          have hD : va_D A (wA qx qc qp qr qh qm qw qu qf ql qo eqd eqmemory eqr eqcounts cI cJ cB ms mn ms2 u_16.1.1 u_16.1.2.1 u_16.1.2.2.1 u_16.1.2.2.2.1 u_16.1.2.2.2.2.1 u_16.1.2.2.2.2.2.1 u_16.1.2.2.2.2.2.2.1 u_16.1.2.2.2.2.2.2.2 u_16.2 u_19.1 u_19.2.1 u_19.2.2.1 u_19.2.2.2.1 u_19.2.2.2.2.1 u_19.2.2.2.2.2) := hD.sub [0, 1, 2, 3, 4, 5, 6, 7, 8, 9, 10, 11, 12, 13, 14] (by decide) rfl
          refine lv_istore (lv' := [(6, .int r_20), (5, .int r_17), (0, .ref b), (1, .ref qc), (2, .ref eqd), (3, .ref qx), (4, .int v4)]) hx hb d_law_163 hl (by decide) rfl (fun ls hl => ?_)
          refine lv_goto (tgt := 377) hx hb d_law_165 (by decide) ?_
          obtain ⟨x_21, ex_21⟩ : ∃ y : Int32, y = v4 + 3 := ⟨_, rfl⟩
          have h := h x_21 ex_21
          refine lv_iinc (v := x_21) (lv' := [(4, .int x_21), (6, .int r_20), (5, .int r_17), (0, .ref b), (1, .ref qc), (2, .ref eqd), (3, .ref qx)]) hx hb d_law_377 hl (k := 6) rfl (by rw [ex_21]; rfl) (by decide) rfl (fun ls hl => ?_)
          refine lv_goto (tgt := 33) hx hb d_law_380 (by decide) ?_
          exact ih x_21 u_16.1.1 u_16.1.2.1 u_16.1.2.2.1 u_16.1.2.2.2.1 u_16.1.2.2.2.2.1 u_16.1.2.2.2.2.2.1 u_16.1.2.2.2.2.2.2.1 u_16.1.2.2.2.2.2.2.2 u_16.2 u_19.1 u_19.2.1 u_19.2.2.1 u_19.2.2.2.1 u_19.2.2.2.2.1 u_19.2.2.2.2.2 h (cN + 1) (sN + 6) (by omega) (by omega) _ _ hP hD hS ls (lv_sub hl [3, 4, 5, 6, 0] rfl)
        · have h := h.2 c_14
          by_cases c_22 : (x_3 &&& (15 : Int32)) = (2 : Int32)
          · have h := h.1 c_22
            have h0 := c_22
            refine lv_tableIn (off := 119) (tgt := 168) hx hb d_law_49 (by rw [h0]; decide) (by rw [h0]; decide) (by rw [h0]; rfl) (by decide) ?_
            refine lv_aload_n hx hb d_law_168 rfl (lv_at hl 1 rfl) ?_
            refine lv_aload_n hx hb d_law_169 rfl (lv_at hl 0 rfl) ?_
            refine lv_iload hx hb d_law_170 (lv_at hl 4 rfl) ?_
            refine lv_iconst (v := 1) hx hb d_law_172 (by decide) ?_
            refine lv_iadd hx hb d_law_173 ?_
            refine va_sld hx hb hX hbl hbA hS h.1 d_law_174 ?_
            have h := h.2
            refine lv_topi (fun x_23 ex_23 => ?_)
            have h := h x_23 ex_23
            refine lv_aload_n hx hb d_law_175 rfl (lv_at hl 3 rfl) ?_
            refine zz_SWi (As := [.ref qc, .int x_23, .ref qx]) (rest := []) (wc := wL qx qc qp qr qh qm qw qu qf ql qo cI cJ ms mn yg yrg yhq ymf ycd yfg yL yO yov) (wr := [(eqd, .inr (6, [.int (yddd 0), .ref eqmemory, .int ms2, .ref eqr, .int (yddd 1), .int (yddd 2), .int (yddd 3), .int (yddd 4), .int (yddd 5), .int (yddd 6), .int (yddd 7), .int (yddd 8), .ref eqcounts, .int (yddd 9), .int (yddd 10), .int (yddd 11), .int (yddd 12), .int (yddd 13), .int (yddd 14), .int (yddd 15), .int (yddd 16), .int (yddd 17), .int (yddd 18), .int (yddd 19), .long ydLwhole, .long ydLwhole2])), (eqmemory, .inl (cB, 262144, .inl ydbm)), (eqr, .inl (cI, 67, .inl ydrr)), (eqcounts, .inl (cI, 5, .inl ydkt))]) X hKw hP hD hS hA hE hNc (c_La_go l hl0 D cI cJ qx qc qp qr qh qm qw qu qf ql qo ms mn yg yrg yhq ymf ycd yfg yL yO yov x_23 _ h _) ⟨rfl, rfl⟩ ms_La_go k_La_62 ⟨Nat.le_of_ble_eq_true rfl, Nat.le_of_ble_eq_true rfl⟩ [0, 1, 2, 3, 4, 5, 6, 7, 8, 9, 10] [11, 12, 13, 14] rfl rfl (by decide) (by decide) (by decide) rfl hl.1 rfl (Nat.le_of_ble_eq_true rfl) d_law_176 ⟨by show cN + 1 ≤ 601024; omega, by show sN + 6 ≤ 7293000; omega⟩ (fun r_25 u_24 H locs h hP hD hS => ?_)
            have hP : va_P D vwCl (wA qx qc qp qr qh qm qw qu qf ql qo eqd eqmemory eqr eqcounts cI cJ cB ms mn ms2 u_24.1.1 u_24.1.2.1 u_24.1.2.2.1 u_24.1.2.2.2.1 u_24.1.2.2.2.2.1 u_24.1.2.2.2.2.2.1 u_24.1.2.2.2.2.2.2.1 u_24.1.2.2.2.2.2.2.2 u_24.2 yddd ydLwhole ydLwhole2 ydbm ydrr ydkt) H := hP.sub [4, 5, 6, 7, 8, 9, 10, 11, 12, 13, 14, 0, 1, 2, 3] rfl
            have hD : va_D A (wA qx qc qp qr qh qm qw qu qf ql qo eqd eqmemory eqr eqcounts cI cJ cB ms mn ms2 u_24.1.1 u_24.1.2.1 u_24.1.2.2.1 u_24.1.2.2.2.1 u_24.1.2.2.2.2.1 u_24.1.2.2.2.2.2.1 u_24.1.2.2.2.2.2.2.1 u_24.1.2.2.2.2.2.2.2 u_24.2 yddd ydLwhole ydLwhole2 ydbm ydrr ydkt) := hD.sub [4, 5, 6, 7, 8, 9, 10, 11, 12, 13, 14, 0, 1, 2, 3] (by decide) rfl
            have hf0 : (cN + 1) + 0 ≤ room_1.cells ∧ (sN + 6) + 0 ≤ room_1.slots := ⟨by show (cN + 1) + 0 ≤ 601024; omega, by show (sN + 6) + 0 ≤ 7293000; omega⟩
            refine lv_istore (lv' := [(5, .int r_25), (0, .ref b), (1, .ref qc), (2, .ref eqd), (3, .ref qx), (4, .int v4)]) hx hb d_law_179 hl (by decide) rfl (fun ls hl => ?_)
            refine lv_aload_n hx hb d_law_181 rfl (lv_at hl 3 rfl) ?_
            refine lv_aload_n hx hb d_law_182 rfl (lv_at hl 1 rfl) ?_
            refine lv_iload hx hb d_law_183 (lv_at hl 5 rfl) ?_
            refine lv_iconst (v := 1) hx hb d_law_185 (by decide) ?_
            refine lv_iadd hx hb d_law_186 ?_
            refine va_sld hx hb hX hbl hbA hS h.1 d_law_187 ?_
            have h := h.2
            refine lv_topi (fun x_26 ex_26 => ?_)
            have h := h x_26 ex_26
            refine zz_Wi (As := [.int x_26]) (rest := []) (wc := wD eqd eqmemory eqr eqcounts cI cB ms2 yddd ydLwhole ydLwhole2 ydbm ydrr ydkt) (wr := [(qx, .inl (cJ, 1, .inr (.inl u_24.2))), (qc, .inr (5, [.ref qm, .ref qp])), (qp, .inr (4, [.ref qm, .ref qr, .ref qh, .ref qu, .int (u_24.1.1 0), .int (u_24.1.1 1), .int (u_24.1.1 2), .int (u_24.1.1 3), .int (u_24.1.1 4), .int (u_24.1.1 5), .int (u_24.1.1 6), .int (u_24.1.1 7), .int (u_24.1.1 8), .int (u_24.1.1 9), .int (u_24.1.1 10), .int (u_24.1.1 11)])), (qr, .inl (cI, 32, .inl u_24.1.2.1)), (qh, .inr (2, [.int (u_24.1.2.2.1 0), .int (u_24.1.2.2.1 1), .int (u_24.1.2.2.1 2), .int (u_24.1.2.2.1 3)])), (qm, .inr (3, [.int ms, .ref qw])), (qw, .inl (cI, mn, .inl u_24.1.2.2.2.1)), (qu, .inr (1, [.ref qf, .int u_24.1.2.2.2.2.1, .ref ql, .ref qo])), (qf, .inl (cI, 32, .inl u_24.1.2.2.2.2.2.1)), (ql, .inr (0, [.int u_24.1.2.2.2.2.2.2.1.1, .int u_24.1.2.2.2.2.2.2.1.2.1, .int u_24.1.2.2.2.2.2.2.1.2.2.1, .long u_24.1.2.2.2.2.2.2.1.2.2.2])), (qo, .inr (0, [.int u_24.1.2.2.2.2.2.2.2.1, .int u_24.1.2.2.2.2.2.2.2.2.1, .int u_24.1.2.2.2.2.2.2.2.2.2.1, .long u_24.1.2.2.2.2.2.2.2.2.2.2]))]) X hKd hP hD hS hA (c_Md_go l D cI cB eqd eqmemory eqr eqcounts ms2 yddd ydLwhole ydLwhole2 ydbm ydrr ydkt x_26 _ h _) ⟨rfl, rfl⟩ m_Md_go k_La_64 ⟨Nat.le_of_ble_eq_true rfl, Nat.le_of_ble_eq_true rfl⟩ [11, 12, 13, 14] [0, 1, 2, 3, 4, 5, 6, 7, 8, 9, 10] rfl rfl (by decide) (by decide) (by decide) 6 11 rfl rfl rfl rfl hl.1 rfl (Nat.le_of_ble_eq_true rfl) d_law_188 hf0 (fun r_28 u_27 H locs h hP hD hS => ?_)
            have hP : va_P D vwCl (wA qx qc qp qr qh qm qw qu qf ql qo eqd eqmemory eqr eqcounts cI cJ cB ms mn ms2 u_24.1.1 u_24.1.2.1 u_24.1.2.2.1 u_24.1.2.2.2.1 u_24.1.2.2.2.2.1 u_24.1.2.2.2.2.2.1 u_24.1.2.2.2.2.2.2.1 u_24.1.2.2.2.2.2.2.2 u_24.2 u_27.1 u_27.2.1 u_27.2.2.1 u_27.2.2.2.1 u_27.2.2.2.2.1 u_27.2.2.2.2.2) H := hP.sub [0, 1, 2, 3, 4, 5, 6, 7, 8, 9, 10, 11, 12, 13, 14] rfl
            have hD : va_D A (wA qx qc qp qr qh qm qw qu qf ql qo eqd eqmemory eqr eqcounts cI cJ cB ms mn ms2 u_24.1.1 u_24.1.2.1 u_24.1.2.2.1 u_24.1.2.2.2.1 u_24.1.2.2.2.2.1 u_24.1.2.2.2.2.2.1 u_24.1.2.2.2.2.2.2.1 u_24.1.2.2.2.2.2.2.2 u_24.2 u_27.1 u_27.2.1 u_27.2.2.1 u_27.2.2.2.1 u_27.2.2.2.2.1 u_27.2.2.2.2.2) := hD.sub [0, 1, 2, 3, 4, 5, 6, 7, 8, 9, 10, 11, 12, 13, 14] (by decide) rfl
            refine lv_istore (lv' := [(6, .int r_28), (5, .int r_25), (0, .ref b), (1, .ref qc), (2, .ref eqd), (3, .ref qx), (4, .int v4)]) hx hb d_law_191 hl (by decide) rfl (fun ls hl => ?_)
            refine lv_goto (tgt := 377) hx hb d_law_193 (by decide) ?_
            obtain ⟨x_29, ex_29⟩ : ∃ y : Int32, y = v4 + 3 := ⟨_, rfl⟩
            have h := h x_29 ex_29
            refine lv_iinc (v := x_29) (lv' := [(4, .int x_29), (6, .int r_28), (5, .int r_25), (0, .ref b), (1, .ref qc), (2, .ref eqd), (3, .ref qx)]) hx hb d_law_377 hl (k := 6) rfl (by rw [ex_29]; rfl) (by decide) rfl (fun ls hl => ?_)
            refine lv_goto (tgt := 33) hx hb d_law_380 (by decide) ?_
            exact ih x_29 u_24.1.1 u_24.1.2.1 u_24.1.2.2.1 u_24.1.2.2.2.1 u_24.1.2.2.2.2.1 u_24.1.2.2.2.2.2.1 u_24.1.2.2.2.2.2.2.1 u_24.1.2.2.2.2.2.2.2 u_24.2 u_27.1 u_27.2.1 u_27.2.2.1 u_27.2.2.2.1 u_27.2.2.2.2.1 u_27.2.2.2.2.2 h (cN + 1) (sN + 6) (by omega) (by omega) _ _ hP hD hS ls (lv_sub hl [3, 4, 5, 6, 0] rfl)
          · have h := h.2 c_22
            by_cases c_30 : (x_3 &&& (15 : Int32)) = (3 : Int32)
            · have h := h.1 c_30
              have h0 := c_30
              refine lv_tableIn (off := 147) (tgt := 196) hx hb d_law_49 (by rw [h0]; decide) (by rw [h0]; decide) (by rw [h0]; rfl) (by decide) ?_
              refine lv_aload_n hx hb d_law_196 rfl (lv_at hl 1 rfl) ?_
              refine lv_aload_n hx hb d_law_197 rfl (lv_at hl 0 rfl) ?_
              refine lv_iload hx hb d_law_198 (lv_at hl 4 rfl) ?_
              refine lv_iconst (v := 1) hx hb d_law_200 (by decide) ?_
              refine lv_iadd hx hb d_law_201 ?_
              refine va_sld hx hb hX hbl hbA hS h.1 d_law_202 ?_
              have h := h.2
              refine lv_topi (fun x_31 ex_31 => ?_)
              have h := h x_31 ex_31
              refine lv_aload_n hx hb d_law_203 rfl (lv_at hl 0 rfl) ?_
              refine lv_iload hx hb d_law_204 (lv_at hl 4 rfl) ?_
              refine lv_iconst (v := 2) hx hb d_law_206 (by decide) ?_
              refine lv_iadd hx hb d_law_207 ?_
              refine va_sld hx hb hX hbl hbA hS h.1 d_law_208 ?_
              have h := h.2
              refine lv_topi (fun x_32 ex_32 => ?_)
              have h := h x_32 ex_32
              refine lv_aload_n hx hb d_law_209 rfl (lv_at hl 3 rfl) ?_
              refine zz_SWi (As := [.ref qc, .int x_31, .int x_32, .ref qx]) (rest := []) (wc := wL qx qc qp qr qh qm qw qu qf ql qo cI cJ ms mn yg yrg yhq ymf ycd yfg yL yO yov) (wr := [(eqd, .inr (6, [.int (yddd 0), .ref eqmemory, .int ms2, .ref eqr, .int (yddd 1), .int (yddd 2), .int (yddd 3), .int (yddd 4), .int (yddd 5), .int (yddd 6), .int (yddd 7), .int (yddd 8), .ref eqcounts, .int (yddd 9), .int (yddd 10), .int (yddd 11), .int (yddd 12), .int (yddd 13), .int (yddd 14), .int (yddd 15), .int (yddd 16), .int (yddd 17), .int (yddd 18), .int (yddd 19), .long ydLwhole, .long ydLwhole2])), (eqmemory, .inl (cB, 262144, .inl ydbm)), (eqr, .inl (cI, 67, .inl ydrr)), (eqcounts, .inl (cI, 5, .inl ydkt))]) X hKw hP hD hS hA hE hNc (c_La_set l hl0 D cI cJ qx qc qp qr qh qm qw qu qf ql qo ms mn yg yrg yhq ymf ycd yfg yL yO yov x_31 x_32 _ h _) ⟨rfl, rfl⟩ ms_La_set k_La_65 ⟨Nat.le_of_ble_eq_true rfl, Nat.le_of_ble_eq_true rfl⟩ [0, 1, 2, 3, 4, 5, 6, 7, 8, 9, 10] [11, 12, 13, 14] rfl rfl (by decide) (by decide) (by decide) rfl hl.1 rfl (Nat.le_of_ble_eq_true rfl) d_law_210 ⟨by show cN + 1 ≤ 601024; omega, by show sN + 6 ≤ 7293000; omega⟩ (fun r_34 u_33 H locs h hP hD hS => ?_)
              have hP : va_P D vwCl (wA qx qc qp qr qh qm qw qu qf ql qo eqd eqmemory eqr eqcounts cI cJ cB ms mn ms2 u_33.1.1 u_33.1.2.1 u_33.1.2.2.1 u_33.1.2.2.2.1 u_33.1.2.2.2.2.1 u_33.1.2.2.2.2.2.1 u_33.1.2.2.2.2.2.2.1 u_33.1.2.2.2.2.2.2.2 u_33.2 yddd ydLwhole ydLwhole2 ydbm ydrr ydkt) H := hP.sub [4, 5, 6, 7, 8, 9, 10, 11, 12, 13, 14, 0, 1, 2, 3] rfl
              have hD : va_D A (wA qx qc qp qr qh qm qw qu qf ql qo eqd eqmemory eqr eqcounts cI cJ cB ms mn ms2 u_33.1.1 u_33.1.2.1 u_33.1.2.2.1 u_33.1.2.2.2.1 u_33.1.2.2.2.2.1 u_33.1.2.2.2.2.2.1 u_33.1.2.2.2.2.2.2.1 u_33.1.2.2.2.2.2.2.2 u_33.2 yddd ydLwhole ydLwhole2 ydbm ydrr ydkt) := hD.sub [4, 5, 6, 7, 8, 9, 10, 11, 12, 13, 14, 0, 1, 2, 3] (by decide) rfl
              have hf0 : (cN + 1) + 0 ≤ room_1.cells ∧ (sN + 6) + 0 ≤ room_1.slots := ⟨by show (cN + 1) + 0 ≤ 601024; omega, by show (sN + 6) + 0 ≤ 7293000; omega⟩
              refine lv_istore (lv' := [(5, .int r_34), (0, .ref b), (1, .ref qc), (2, .ref eqd), (3, .ref qx), (4, .int v4)]) hx hb d_law_213 hl (by decide) rfl (fun ls hl => ?_)
              refine lv_aload_n hx hb d_law_215 rfl (lv_at hl 3 rfl) ?_
              refine lv_aload_n hx hb d_law_216 rfl (lv_at hl 1 rfl) ?_
              refine lv_iload hx hb d_law_217 (lv_at hl 5 rfl) ?_
              refine lv_iconst (v := 1) hx hb d_law_219 (by decide) ?_
              refine lv_iadd hx hb d_law_220 ?_
              refine va_sld hx hb hX hbl hbA hS h.1 d_law_221 ?_
              have h := h.2
              refine lv_topi (fun x_35 ex_35 => ?_)
              have h := h x_35 ex_35
              refine lv_aload_n hx hb d_law_222 rfl (lv_at hl 1 rfl) ?_
              refine lv_iload hx hb d_law_223 (lv_at hl 5 rfl) ?_
              refine lv_iconst (v := 2) hx hb d_law_225 (by decide) ?_
              refine lv_iadd hx hb d_law_226 ?_
              refine va_sld hx hb hX hbl hbA hS h.1 d_law_227 ?_
              have h := h.2
              refine lv_topi (fun x_36 ex_36 => ?_)
              have h := h x_36 ex_36
              refine zz_Wi (As := [.int x_35, .int x_36]) (rest := []) (wc := wD eqd eqmemory eqr eqcounts cI cB ms2 yddd ydLwhole ydLwhole2 ydbm ydrr ydkt) (wr := [(qx, .inl (cJ, 1, .inr (.inl u_33.2))), (qc, .inr (5, [.ref qm, .ref qp])), (qp, .inr (4, [.ref qm, .ref qr, .ref qh, .ref qu, .int (u_33.1.1 0), .int (u_33.1.1 1), .int (u_33.1.1 2), .int (u_33.1.1 3), .int (u_33.1.1 4), .int (u_33.1.1 5), .int (u_33.1.1 6), .int (u_33.1.1 7), .int (u_33.1.1 8), .int (u_33.1.1 9), .int (u_33.1.1 10), .int (u_33.1.1 11)])), (qr, .inl (cI, 32, .inl u_33.1.2.1)), (qh, .inr (2, [.int (u_33.1.2.2.1 0), .int (u_33.1.2.2.1 1), .int (u_33.1.2.2.1 2), .int (u_33.1.2.2.1 3)])), (qm, .inr (3, [.int ms, .ref qw])), (qw, .inl (cI, mn, .inl u_33.1.2.2.2.1)), (qu, .inr (1, [.ref qf, .int u_33.1.2.2.2.2.1, .ref ql, .ref qo])), (qf, .inl (cI, 32, .inl u_33.1.2.2.2.2.2.1)), (ql, .inr (0, [.int u_33.1.2.2.2.2.2.2.1.1, .int u_33.1.2.2.2.2.2.2.1.2.1, .int u_33.1.2.2.2.2.2.2.1.2.2.1, .long u_33.1.2.2.2.2.2.2.1.2.2.2])), (qo, .inr (0, [.int u_33.1.2.2.2.2.2.2.2.1, .int u_33.1.2.2.2.2.2.2.2.2.1, .int u_33.1.2.2.2.2.2.2.2.2.2.1, .long u_33.1.2.2.2.2.2.2.2.2.2.2]))]) X hKd hP hD hS hA (c_Md_set l D cI cB eqd eqmemory eqr eqcounts ms2 yddd ydLwhole ydLwhole2 ydbm ydrr ydkt x_35 x_36 _ h _) ⟨rfl, rfl⟩ m_Md_set k_La_67 ⟨Nat.le_of_ble_eq_true rfl, Nat.le_of_ble_eq_true rfl⟩ [11, 12, 13, 14] [0, 1, 2, 3, 4, 5, 6, 7, 8, 9, 10] rfl rfl (by decide) (by decide) (by decide) 6 11 rfl rfl rfl rfl hl.1 rfl (Nat.le_of_ble_eq_true rfl) d_law_228 hf0 (fun r_38 u_37 H locs h hP hD hS => ?_)
              have hP : va_P D vwCl (wA qx qc qp qr qh qm qw qu qf ql qo eqd eqmemory eqr eqcounts cI cJ cB ms mn ms2 u_33.1.1 u_33.1.2.1 u_33.1.2.2.1 u_33.1.2.2.2.1 u_33.1.2.2.2.2.1 u_33.1.2.2.2.2.2.1 u_33.1.2.2.2.2.2.2.1 u_33.1.2.2.2.2.2.2.2 u_33.2 u_37.1 u_37.2.1 u_37.2.2.1 u_37.2.2.2.1 u_37.2.2.2.2.1 u_37.2.2.2.2.2) H := hP.sub [0, 1, 2, 3, 4, 5, 6, 7, 8, 9, 10, 11, 12, 13, 14] rfl
              have hD : va_D A (wA qx qc qp qr qh qm qw qu qf ql qo eqd eqmemory eqr eqcounts cI cJ cB ms mn ms2 u_33.1.1 u_33.1.2.1 u_33.1.2.2.1 u_33.1.2.2.2.1 u_33.1.2.2.2.2.1 u_33.1.2.2.2.2.2.1 u_33.1.2.2.2.2.2.2.1 u_33.1.2.2.2.2.2.2.2 u_33.2 u_37.1 u_37.2.1 u_37.2.2.1 u_37.2.2.2.1 u_37.2.2.2.2.1 u_37.2.2.2.2.2) := hD.sub [0, 1, 2, 3, 4, 5, 6, 7, 8, 9, 10, 11, 12, 13, 14] (by decide) rfl
              refine lv_istore (lv' := [(6, .int r_38), (5, .int r_34), (0, .ref b), (1, .ref qc), (2, .ref eqd), (3, .ref qx), (4, .int v4)]) hx hb d_law_231 hl (by decide) rfl (fun ls hl => ?_)
              refine lv_goto (tgt := 377) hx hb d_law_233 (by decide) ?_
              obtain ⟨x_39, ex_39⟩ : ∃ y : Int32, y = v4 + 3 := ⟨_, rfl⟩
              have h := h x_39 ex_39
              refine lv_iinc (v := x_39) (lv' := [(4, .int x_39), (6, .int r_38), (5, .int r_34), (0, .ref b), (1, .ref qc), (2, .ref eqd), (3, .ref qx)]) hx hb d_law_377 hl (k := 6) rfl (by rw [ex_39]; rfl) (by decide) rfl (fun ls hl => ?_)
              refine lv_goto (tgt := 33) hx hb d_law_380 (by decide) ?_
              exact ih x_39 u_33.1.1 u_33.1.2.1 u_33.1.2.2.1 u_33.1.2.2.2.1 u_33.1.2.2.2.2.1 u_33.1.2.2.2.2.2.1 u_33.1.2.2.2.2.2.2.1 u_33.1.2.2.2.2.2.2.2 u_33.2 u_37.1 u_37.2.1 u_37.2.2.1 u_37.2.2.2.1 u_37.2.2.2.2.1 u_37.2.2.2.2.2 h (cN + 1) (sN + 6) (by omega) (by omega) _ _ hP hD hS ls (lv_sub hl [3, 4, 5, 6, 0] rfl)
            · have h := h.2 c_30
              by_cases c_40 : (x_3 &&& (15 : Int32)) = (4 : Int32)
              · have h := h.1 c_40
                have h0 := c_40
                refine lv_tableIn (off := 187) (tgt := 236) hx hb d_law_49 (by rw [h0]; decide) (by rw [h0]; decide) (by rw [h0]; rfl) (by decide) ?_
                refine lv_aload_n hx hb d_law_236 rfl (lv_at hl 1 rfl) ?_
                refine lv_aload_n hx hb d_law_237 rfl (lv_at hl 0 rfl) ?_
                refine lv_iload hx hb d_law_238 (lv_at hl 4 rfl) ?_
                refine lv_iconst (v := 1) hx hb d_law_240 (by decide) ?_
                refine lv_iadd hx hb d_law_241 ?_
                refine va_sld hx hb hX hbl hbA hS h.1 d_law_242 ?_
                have h := h.2
                refine lv_topi (fun x_41 ex_41 => ?_)
                have h := h x_41 ex_41
                refine lv_aload_n hx hb d_law_243 rfl (lv_at hl 3 rfl) ?_
                refine zz_SWi (As := [.ref qc, .int x_41, .ref qx]) (rest := []) (wc := wL qx qc qp qr qh qm qw qu qf ql qo cI cJ ms mn yg yrg yhq ymf ycd yfg yL yO yov) (wr := [(eqd, .inr (6, [.int (yddd 0), .ref eqmemory, .int ms2, .ref eqr, .int (yddd 1), .int (yddd 2), .int (yddd 3), .int (yddd 4), .int (yddd 5), .int (yddd 6), .int (yddd 7), .int (yddd 8), .ref eqcounts, .int (yddd 9), .int (yddd 10), .int (yddd 11), .int (yddd 12), .int (yddd 13), .int (yddd 14), .int (yddd 15), .int (yddd 16), .int (yddd 17), .int (yddd 18), .int (yddd 19), .long ydLwhole, .long ydLwhole2])), (eqmemory, .inl (cB, 262144, .inl ydbm)), (eqr, .inl (cI, 67, .inl ydrr)), (eqcounts, .inl (cI, 5, .inl ydkt))]) X hKw hP hD hS hA hE hNc (c_La_get l hl0 D cI cJ qx qc qp qr qh qm qw qu qf ql qo ms mn yg yrg yhq ymf ycd yfg yL yO yov x_41 _ h _) ⟨rfl, rfl⟩ ms_La_get k_La_68 ⟨Nat.le_of_ble_eq_true rfl, Nat.le_of_ble_eq_true rfl⟩ [0, 1, 2, 3, 4, 5, 6, 7, 8, 9, 10] [11, 12, 13, 14] rfl rfl (by decide) (by decide) (by decide) rfl hl.1 rfl (Nat.le_of_ble_eq_true rfl) d_law_244 ⟨by show cN + 1 ≤ 601024; omega, by show sN + 6 ≤ 7293000; omega⟩ (fun r_43 u_42 H locs h hP hD hS => ?_)
                have hP : va_P D vwCl (wA qx qc qp qr qh qm qw qu qf ql qo eqd eqmemory eqr eqcounts cI cJ cB ms mn ms2 u_42.1.1 u_42.1.2.1 u_42.1.2.2.1 u_42.1.2.2.2.1 u_42.1.2.2.2.2.1 u_42.1.2.2.2.2.2.1 u_42.1.2.2.2.2.2.2.1 u_42.1.2.2.2.2.2.2.2 u_42.2 yddd ydLwhole ydLwhole2 ydbm ydrr ydkt) H := hP.sub [4, 5, 6, 7, 8, 9, 10, 11, 12, 13, 14, 0, 1, 2, 3] rfl
                have hD : va_D A (wA qx qc qp qr qh qm qw qu qf ql qo eqd eqmemory eqr eqcounts cI cJ cB ms mn ms2 u_42.1.1 u_42.1.2.1 u_42.1.2.2.1 u_42.1.2.2.2.1 u_42.1.2.2.2.2.1 u_42.1.2.2.2.2.2.1 u_42.1.2.2.2.2.2.2.1 u_42.1.2.2.2.2.2.2.2 u_42.2 yddd ydLwhole ydLwhole2 ydbm ydrr ydkt) := hD.sub [4, 5, 6, 7, 8, 9, 10, 11, 12, 13, 14, 0, 1, 2, 3] (by decide) rfl
                have hf0 : (cN + 1) + 0 ≤ room_1.cells ∧ (sN + 6) + 0 ≤ room_1.slots := ⟨by show (cN + 1) + 0 ≤ 601024; omega, by show (sN + 6) + 0 ≤ 7293000; omega⟩
                refine lv_istore (lv' := [(5, .int r_43), (0, .ref b), (1, .ref qc), (2, .ref eqd), (3, .ref qx), (4, .int v4)]) hx hb d_law_247 hl (by decide) rfl (fun ls hl => ?_)
                refine lv_aload_n hx hb d_law_249 rfl (lv_at hl 3 rfl) ?_
                refine lv_aload_n hx hb d_law_250 rfl (lv_at hl 1 rfl) ?_
                refine lv_iload hx hb d_law_251 (lv_at hl 5 rfl) ?_
                refine lv_iconst (v := 1) hx hb d_law_253 (by decide) ?_
                refine lv_iadd hx hb d_law_254 ?_
                refine va_sld hx hb hX hbl hbA hS h.1 d_law_255 ?_
                have h := h.2
                refine lv_topi (fun x_44 ex_44 => ?_)
                have h := h x_44 ex_44
                refine zz_Wi (As := [.int x_44]) (rest := []) (wc := wD eqd eqmemory eqr eqcounts cI cB ms2 yddd ydLwhole ydLwhole2 ydbm ydrr ydkt) (wr := [(qx, .inl (cJ, 1, .inr (.inl u_42.2))), (qc, .inr (5, [.ref qm, .ref qp])), (qp, .inr (4, [.ref qm, .ref qr, .ref qh, .ref qu, .int (u_42.1.1 0), .int (u_42.1.1 1), .int (u_42.1.1 2), .int (u_42.1.1 3), .int (u_42.1.1 4), .int (u_42.1.1 5), .int (u_42.1.1 6), .int (u_42.1.1 7), .int (u_42.1.1 8), .int (u_42.1.1 9), .int (u_42.1.1 10), .int (u_42.1.1 11)])), (qr, .inl (cI, 32, .inl u_42.1.2.1)), (qh, .inr (2, [.int (u_42.1.2.2.1 0), .int (u_42.1.2.2.1 1), .int (u_42.1.2.2.1 2), .int (u_42.1.2.2.1 3)])), (qm, .inr (3, [.int ms, .ref qw])), (qw, .inl (cI, mn, .inl u_42.1.2.2.2.1)), (qu, .inr (1, [.ref qf, .int u_42.1.2.2.2.2.1, .ref ql, .ref qo])), (qf, .inl (cI, 32, .inl u_42.1.2.2.2.2.2.1)), (ql, .inr (0, [.int u_42.1.2.2.2.2.2.2.1.1, .int u_42.1.2.2.2.2.2.2.1.2.1, .int u_42.1.2.2.2.2.2.2.1.2.2.1, .long u_42.1.2.2.2.2.2.2.1.2.2.2])), (qo, .inr (0, [.int u_42.1.2.2.2.2.2.2.2.1, .int u_42.1.2.2.2.2.2.2.2.2.1, .int u_42.1.2.2.2.2.2.2.2.2.2.1, .long u_42.1.2.2.2.2.2.2.2.2.2.2]))]) X hKd hP hD hS hA (c_Md_get l D cI cB eqd eqmemory eqr eqcounts ms2 yddd ydLwhole ydLwhole2 ydbm ydrr ydkt x_44 _ h _) ⟨rfl, rfl⟩ m_Md_get k_La_70 ⟨Nat.le_of_ble_eq_true rfl, Nat.le_of_ble_eq_true rfl⟩ [11, 12, 13, 14] [0, 1, 2, 3, 4, 5, 6, 7, 8, 9, 10] rfl rfl (by decide) (by decide) (by decide) 6 11 rfl rfl rfl rfl hl.1 rfl (Nat.le_of_ble_eq_true rfl) d_law_256 hf0 (fun r_46 u_45 H locs h hP hD hS => ?_)
                have hP : va_P D vwCl (wA qx qc qp qr qh qm qw qu qf ql qo eqd eqmemory eqr eqcounts cI cJ cB ms mn ms2 u_42.1.1 u_42.1.2.1 u_42.1.2.2.1 u_42.1.2.2.2.1 u_42.1.2.2.2.2.1 u_42.1.2.2.2.2.2.1 u_42.1.2.2.2.2.2.2.1 u_42.1.2.2.2.2.2.2.2 u_42.2 u_45.1 u_45.2.1 u_45.2.2.1 u_45.2.2.2.1 u_45.2.2.2.2.1 u_45.2.2.2.2.2) H := hP.sub [0, 1, 2, 3, 4, 5, 6, 7, 8, 9, 10, 11, 12, 13, 14] rfl
                have hD : va_D A (wA qx qc qp qr qh qm qw qu qf ql qo eqd eqmemory eqr eqcounts cI cJ cB ms mn ms2 u_42.1.1 u_42.1.2.1 u_42.1.2.2.1 u_42.1.2.2.2.1 u_42.1.2.2.2.2.1 u_42.1.2.2.2.2.2.1 u_42.1.2.2.2.2.2.2.1 u_42.1.2.2.2.2.2.2.2 u_42.2 u_45.1 u_45.2.1 u_45.2.2.1 u_45.2.2.2.1 u_45.2.2.2.2.1 u_45.2.2.2.2.2) := hD.sub [0, 1, 2, 3, 4, 5, 6, 7, 8, 9, 10, 11, 12, 13, 14] (by decide) rfl
                refine lv_istore (lv' := [(6, .int r_46), (5, .int r_43), (0, .ref b), (1, .ref qc), (2, .ref eqd), (3, .ref qx), (4, .int v4)]) hx hb d_law_259 hl (by decide) rfl (fun ls hl => ?_)
                refine lv_goto (tgt := 377) hx hb d_law_261 (by decide) ?_
                obtain ⟨x_47, ex_47⟩ : ∃ y : Int32, y = v4 + 3 := ⟨_, rfl⟩
                have h := h x_47 ex_47
                refine lv_iinc (v := x_47) (lv' := [(4, .int x_47), (6, .int r_46), (5, .int r_43), (0, .ref b), (1, .ref qc), (2, .ref eqd), (3, .ref qx)]) hx hb d_law_377 hl (k := 6) rfl (by rw [ex_47]; rfl) (by decide) rfl (fun ls hl => ?_)
                refine lv_goto (tgt := 33) hx hb d_law_380 (by decide) ?_
                exact ih x_47 u_42.1.1 u_42.1.2.1 u_42.1.2.2.1 u_42.1.2.2.2.1 u_42.1.2.2.2.2.1 u_42.1.2.2.2.2.2.1 u_42.1.2.2.2.2.2.2.1 u_42.1.2.2.2.2.2.2.2 u_42.2 u_45.1 u_45.2.1 u_45.2.2.1 u_45.2.2.2.1 u_45.2.2.2.2.1 u_45.2.2.2.2.2 h (cN + 1) (sN + 6) (by omega) (by omega) _ _ hP hD hS ls (lv_sub hl [3, 4, 5, 6, 0] rfl)
              · have h := h.2 c_40
                by_cases c_48 : (x_3 &&& (15 : Int32)) = (5 : Int32)
                · have h := h.1 c_48
                  have h0 := c_48
                  refine lv_tableIn (off := 215) (tgt := 264) hx hb d_law_49 (by rw [h0]; decide) (by rw [h0]; decide) (by rw [h0]; rfl) (by decide) ?_
                  refine lv_aload_n hx hb d_law_264 rfl (lv_at hl 1 rfl) ?_
                  refine lv_aload_n hx hb d_law_265 rfl (lv_at hl 0 rfl) ?_
                  refine lv_iload hx hb d_law_266 (lv_at hl 4 rfl) ?_
                  refine lv_iconst (v := 1) hx hb d_law_268 (by decide) ?_
                  refine lv_iadd hx hb d_law_269 ?_
                  refine va_sld hx hb hX hbl hbA hS h.1 d_law_270 ?_
                  have h := h.2
                  refine lv_topi (fun x_49 ex_49 => ?_)
                  have h := h x_49 ex_49
                  refine lv_aload_n hx hb d_law_271 rfl (lv_at hl 3 rfl) ?_
                  refine zz_SWi (As := [.ref qc, .int x_49, .ref qx]) (rest := []) (wc := wL qx qc qp qr qh qm qw qu qf ql qo cI cJ ms mn yg yrg yhq ymf ycd yfg yL yO yov) (wr := [(eqd, .inr (6, [.int (yddd 0), .ref eqmemory, .int ms2, .ref eqr, .int (yddd 1), .int (yddd 2), .int (yddd 3), .int (yddd 4), .int (yddd 5), .int (yddd 6), .int (yddd 7), .int (yddd 8), .ref eqcounts, .int (yddd 9), .int (yddd 10), .int (yddd 11), .int (yddd 12), .int (yddd 13), .int (yddd 14), .int (yddd 15), .int (yddd 16), .int (yddd 17), .int (yddd 18), .int (yddd 19), .long ydLwhole, .long ydLwhole2])), (eqmemory, .inl (cB, 262144, .inl ydbm)), (eqr, .inl (cI, 67, .inl ydrr)), (eqcounts, .inl (cI, 5, .inl ydkt))]) X hKw hP hD hS hA hE hNc (c_La_run l hl0 D cI cJ qx qc qp qr qh qm qw qu qf ql qo ms mn yg yrg yhq ymf ycd yfg yL yO yov x_49 _ h _) ⟨rfl, rfl⟩ ms_La_run k_La_71 ⟨Nat.le_of_ble_eq_true rfl, Nat.le_of_ble_eq_true rfl⟩ [0, 1, 2, 3, 4, 5, 6, 7, 8, 9, 10] [11, 12, 13, 14] rfl rfl (by decide) (by decide) (by decide) rfl hl.1 rfl (Nat.le_of_ble_eq_true rfl) d_law_272 ⟨by show cN + 1 ≤ 601024; omega, by show sN + 6 ≤ 7293000; omega⟩ (fun r_51 u_50 H locs h hP hD hS => ?_)
                  have hP : va_P D vwCl (wA qx qc qp qr qh qm qw qu qf ql qo eqd eqmemory eqr eqcounts cI cJ cB ms mn ms2 u_50.1.1 u_50.1.2.1 u_50.1.2.2.1 u_50.1.2.2.2.1 u_50.1.2.2.2.2.1 u_50.1.2.2.2.2.2.1 u_50.1.2.2.2.2.2.2.1 u_50.1.2.2.2.2.2.2.2 u_50.2 yddd ydLwhole ydLwhole2 ydbm ydrr ydkt) H := hP.sub [4, 5, 6, 7, 8, 9, 10, 11, 12, 13, 14, 0, 1, 2, 3] rfl
                  have hD : va_D A (wA qx qc qp qr qh qm qw qu qf ql qo eqd eqmemory eqr eqcounts cI cJ cB ms mn ms2 u_50.1.1 u_50.1.2.1 u_50.1.2.2.1 u_50.1.2.2.2.1 u_50.1.2.2.2.2.1 u_50.1.2.2.2.2.2.1 u_50.1.2.2.2.2.2.2.1 u_50.1.2.2.2.2.2.2.2 u_50.2 yddd ydLwhole ydLwhole2 ydbm ydrr ydkt) := hD.sub [4, 5, 6, 7, 8, 9, 10, 11, 12, 13, 14, 0, 1, 2, 3] (by decide) rfl
                  have hf0 : (cN + 1) + 0 ≤ room_1.cells ∧ (sN + 6) + 0 ≤ room_1.slots := ⟨by show (cN + 1) + 0 ≤ 601024; omega, by show (sN + 6) + 0 ≤ 7293000; omega⟩
                  refine lv_istore (lv' := [(5, .int r_51), (0, .ref b), (1, .ref qc), (2, .ref eqd), (3, .ref qx), (4, .int v4)]) hx hb d_law_275 hl (by decide) rfl (fun ls hl => ?_)
                  refine lv_aload_n hx hb d_law_277 rfl (lv_at hl 3 rfl) ?_
                  refine lv_aload_n hx hb d_law_278 rfl (lv_at hl 1 rfl) ?_
                  refine lv_iload hx hb d_law_279 (lv_at hl 5 rfl) ?_
                  refine lv_iconst (v := 1) hx hb d_law_281 (by decide) ?_
                  refine lv_iadd hx hb d_law_282 ?_
                  refine va_sld hx hb hX hbl hbA hS h.1 d_law_283 ?_
                  have h := h.2
                  refine lv_topi (fun x_52 ex_52 => ?_)
                  have h := h x_52 ex_52
                  refine zz_Wi (As := [.int x_52]) (rest := []) (wc := wD eqd eqmemory eqr eqcounts cI cB ms2 yddd ydLwhole ydLwhole2 ydbm ydrr ydkt) (wr := [(qx, .inl (cJ, 1, .inr (.inl u_50.2))), (qc, .inr (5, [.ref qm, .ref qp])), (qp, .inr (4, [.ref qm, .ref qr, .ref qh, .ref qu, .int (u_50.1.1 0), .int (u_50.1.1 1), .int (u_50.1.1 2), .int (u_50.1.1 3), .int (u_50.1.1 4), .int (u_50.1.1 5), .int (u_50.1.1 6), .int (u_50.1.1 7), .int (u_50.1.1 8), .int (u_50.1.1 9), .int (u_50.1.1 10), .int (u_50.1.1 11)])), (qr, .inl (cI, 32, .inl u_50.1.2.1)), (qh, .inr (2, [.int (u_50.1.2.2.1 0), .int (u_50.1.2.2.1 1), .int (u_50.1.2.2.1 2), .int (u_50.1.2.2.1 3)])), (qm, .inr (3, [.int ms, .ref qw])), (qw, .inl (cI, mn, .inl u_50.1.2.2.2.1)), (qu, .inr (1, [.ref qf, .int u_50.1.2.2.2.2.1, .ref ql, .ref qo])), (qf, .inl (cI, 32, .inl u_50.1.2.2.2.2.2.1)), (ql, .inr (0, [.int u_50.1.2.2.2.2.2.2.1.1, .int u_50.1.2.2.2.2.2.2.1.2.1, .int u_50.1.2.2.2.2.2.2.1.2.2.1, .long u_50.1.2.2.2.2.2.2.1.2.2.2])), (qo, .inr (0, [.int u_50.1.2.2.2.2.2.2.2.1, .int u_50.1.2.2.2.2.2.2.2.2.1, .int u_50.1.2.2.2.2.2.2.2.2.2.1, .long u_50.1.2.2.2.2.2.2.2.2.2.2]))]) X hKd hP hD hS hA (c_Md_run l D cI cB eqd eqmemory eqr eqcounts ms2 yddd ydLwhole ydLwhole2 ydbm ydrr ydkt x_52 _ h _) ⟨rfl, rfl⟩ m_Md_run k_La_73 ⟨Nat.le_of_ble_eq_true rfl, Nat.le_of_ble_eq_true rfl⟩ [11, 12, 13, 14] [0, 1, 2, 3, 4, 5, 6, 7, 8, 9, 10] rfl rfl (by decide) (by decide) (by decide) 6 11 rfl rfl rfl rfl hl.1 rfl (Nat.le_of_ble_eq_true rfl) d_law_284 hf0 (fun r_54 u_53 H locs h hP hD hS => ?_)
                  have hP : va_P D vwCl (wA qx qc qp qr qh qm qw qu qf ql qo eqd eqmemory eqr eqcounts cI cJ cB ms mn ms2 u_50.1.1 u_50.1.2.1 u_50.1.2.2.1 u_50.1.2.2.2.1 u_50.1.2.2.2.2.1 u_50.1.2.2.2.2.2.1 u_50.1.2.2.2.2.2.2.1 u_50.1.2.2.2.2.2.2.2 u_50.2 u_53.1 u_53.2.1 u_53.2.2.1 u_53.2.2.2.1 u_53.2.2.2.2.1 u_53.2.2.2.2.2) H := hP.sub [0, 1, 2, 3, 4, 5, 6, 7, 8, 9, 10, 11, 12, 13, 14] rfl
                  have hD : va_D A (wA qx qc qp qr qh qm qw qu qf ql qo eqd eqmemory eqr eqcounts cI cJ cB ms mn ms2 u_50.1.1 u_50.1.2.1 u_50.1.2.2.1 u_50.1.2.2.2.1 u_50.1.2.2.2.2.1 u_50.1.2.2.2.2.2.1 u_50.1.2.2.2.2.2.2.1 u_50.1.2.2.2.2.2.2.2 u_50.2 u_53.1 u_53.2.1 u_53.2.2.1 u_53.2.2.2.1 u_53.2.2.2.2.1 u_53.2.2.2.2.2) := hD.sub [0, 1, 2, 3, 4, 5, 6, 7, 8, 9, 10, 11, 12, 13, 14] (by decide) rfl
                  refine lv_istore (lv' := [(6, .int r_54), (5, .int r_51), (0, .ref b), (1, .ref qc), (2, .ref eqd), (3, .ref qx), (4, .int v4)]) hx hb d_law_287 hl (by decide) rfl (fun ls hl => ?_)
                  refine lv_goto (tgt := 377) hx hb d_law_289 (by decide) ?_
                  obtain ⟨x_55, ex_55⟩ : ∃ y : Int32, y = v4 + 3 := ⟨_, rfl⟩
                  have h := h x_55 ex_55
                  refine lv_iinc (v := x_55) (lv' := [(4, .int x_55), (6, .int r_54), (5, .int r_51), (0, .ref b), (1, .ref qc), (2, .ref eqd), (3, .ref qx)]) hx hb d_law_377 hl (k := 6) rfl (by rw [ex_55]; rfl) (by decide) rfl (fun ls hl => ?_)
                  refine lv_goto (tgt := 33) hx hb d_law_380 (by decide) ?_
                  exact ih x_55 u_50.1.1 u_50.1.2.1 u_50.1.2.2.1 u_50.1.2.2.2.1 u_50.1.2.2.2.2.1 u_50.1.2.2.2.2.2.1 u_50.1.2.2.2.2.2.2.1 u_50.1.2.2.2.2.2.2.2 u_50.2 u_53.1 u_53.2.1 u_53.2.2.1 u_53.2.2.2.1 u_53.2.2.2.2.1 u_53.2.2.2.2.2 h (cN + 1) (sN + 6) (by omega) (by omega) _ _ hP hD hS ls (lv_sub hl [3, 4, 5, 6, 0] rfl)
                · have h := h.2 c_48
                  by_cases c_56 : (x_3 &&& (15 : Int32)) = (6 : Int32)
                  · have h := h.1 c_56
                    have h0 := c_56
                    refine lv_tableIn (off := 243) (tgt := 292) hx hb d_law_49 (by rw [h0]; decide) (by rw [h0]; decide) (by rw [h0]; rfl) (by decide) ?_
                    refine lv_aload_n hx hb d_law_292 rfl (lv_at hl 1 rfl) ?_
                    refine zz_Ri (As := []) (rest := []) (wc := wC qc qp qr qh qm qw qu qf ql qo cI ms mn yg yrg yhq ymf ycd yfg yL yO) X hKc hP (c_Co_end l D cI qc qp qr qh qm qw qu qf ql qo ms mn yg yrg yhq ymf ycd yfg yL yO _ h) ⟨rfl, rfl⟩ m_Co_end k_La_74 ⟨Nat.le_of_ble_eq_true rfl, Nat.le_of_ble_eq_true rfl⟩ [1, 2, 3, 4, 5, 6, 7, 8, 9, 10] rfl 5 1 rfl rfl rfl rfl hl.1 rfl (Nat.le_of_ble_eq_true rfl) d_law_293 hf0 (fun r_57 h => ?_)
                    refine lv_pop hx hb d_law_296 rfl ?_
                    refine lv_aload_n hx hb d_law_297 rfl (lv_at hl 2 rfl) ?_
                    refine zz_Wi (As := []) (rest := []) (wc := wD eqd eqmemory eqr eqcounts cI cB ms2 yddd ydLwhole ydLwhole2 ydbm ydrr ydkt) (wr := [(qx, .inl (cJ, 1, .inr (.inl yov))), (qc, .inr (5, [.ref qm, .ref qp])), (qp, .inr (4, [.ref qm, .ref qr, .ref qh, .ref qu, .int (yg 0), .int (yg 1), .int (yg 2), .int (yg 3), .int (yg 4), .int (yg 5), .int (yg 6), .int (yg 7), .int (yg 8), .int (yg 9), .int (yg 10), .int (yg 11)])), (qr, .inl (cI, 32, .inl yrg)), (qh, .inr (2, [.int (yhq 0), .int (yhq 1), .int (yhq 2), .int (yhq 3)])), (qm, .inr (3, [.int ms, .ref qw])), (qw, .inl (cI, mn, .inl ymf)), (qu, .inr (1, [.ref qf, .int ycd, .ref ql, .ref qo])), (qf, .inl (cI, 32, .inl yfg)), (ql, .inr (0, [.int yL.1, .int yL.2.1, .int yL.2.2.1, .long yL.2.2.2])), (qo, .inr (0, [.int yO.1, .int yO.2.1, .int yO.2.2.1, .long yO.2.2.2]))]) X hKd hP hD hS hA (c_Md_end l D cI cB eqd eqmemory eqr eqcounts ms2 yddd ydLwhole ydLwhole2 ydbm ydrr ydkt _ h _) ⟨rfl, rfl⟩ m_Md_end k_La_77 ⟨Nat.le_of_ble_eq_true rfl, Nat.le_of_ble_eq_true rfl⟩ [11, 12, 13, 14] [0, 1, 2, 3, 4, 5, 6, 7, 8, 9, 10] rfl rfl (by decide) (by decide) (by decide) 6 11 rfl rfl rfl rfl hl.1 rfl (Nat.le_of_ble_eq_true rfl) d_law_298 hf0 (fun r_59 u_58 H locs h hP hD hS => ?_)
                    have hP : va_P D vwCl (wA qx qc qp qr qh qm qw qu qf ql qo eqd eqmemory eqr eqcounts cI cJ cB ms mn ms2 yg yrg yhq ymf ycd yfg yL yO yov u_58.1 u_58.2.1 u_58.2.2.1 u_58.2.2.2.1 u_58.2.2.2.2.1 u_58.2.2.2.2.2) H := hP.sub [0, 1, 2, 3, 4, 5, 6, 7, 8, 9, 10, 11, 12, 13, 14] rfl
                    have hD : va_D A (wA qx qc qp qr qh qm qw qu qf ql qo eqd eqmemory eqr eqcounts cI cJ cB ms mn ms2 yg yrg yhq ymf ycd yfg yL yO yov u_58.1 u_58.2.1 u_58.2.2.1 u_58.2.2.2.1 u_58.2.2.2.2.1 u_58.2.2.2.2.2) := hD.sub [0, 1, 2, 3, 4, 5, 6, 7, 8, 9, 10, 11, 12, 13, 14] (by decide) rfl
                    refine lv_pop hx hb d_law_301 rfl ?_
                    refine lv_goto (tgt := 377) hx hb d_law_302 (by decide) ?_
                    obtain ⟨x_60, ex_60⟩ : ∃ y : Int32, y = v4 + 3 := ⟨_, rfl⟩
                    have h := h x_60 ex_60
                    refine lv_iinc (v := x_60) (lv' := [(4, .int x_60), (0, .ref b), (1, .ref qc), (2, .ref eqd), (3, .ref qx)]) hx hb d_law_377 hl (k := 4) rfl (by rw [ex_60]; rfl) (by decide) rfl (fun ls hl => ?_)
                    refine lv_goto (tgt := 33) hx hb d_law_380 (by decide) ?_
                    refine W.widen (k := cN + 1) (n := sN + 6) (by omega) (by omega) ?_
                    exact ih x_60 yg yrg yhq ymf ycd yfg yL yO yov u_58.1 u_58.2.1 u_58.2.2.1 u_58.2.2.2.1 u_58.2.2.2.2.1 u_58.2.2.2.2.2 h (cN + 1) (sN + 6) (by omega) (by omega) _ _ hP hD hS ls (lv_sub hl [1, 2, 3, 4, 0] rfl)
                  · have h := h.2 c_56
                    by_cases c_61 : (x_3 &&& (15 : Int32)) = (7 : Int32)
                    · have h := h.1 c_61
                      have h0 := c_61
                      refine lv_tableIn (off := 256) (tgt := 305) hx hb d_law_49 (by rw [h0]; decide) (by rw [h0]; decide) (by rw [h0]; rfl) (by decide) ?_
                      refine lv_aload_n hx hb d_law_305 rfl (lv_at hl 1 rfl) ?_
                      refine lv_aload_n hx hb d_law_306 rfl (lv_at hl 3 rfl) ?_
                      refine zz_SWi (As := [.ref qc, .ref qx]) (rest := []) (wc := wL qx qc qp qr qh qm qw qu qf ql qo cI cJ ms mn yg yrg yhq ymf ycd yfg yL yO yov) (wr := [(eqd, .inr (6, [.int (yddd 0), .ref eqmemory, .int ms2, .ref eqr, .int (yddd 1), .int (yddd 2), .int (yddd 3), .int (yddd 4), .int (yddd 5), .int (yddd 6), .int (yddd 7), .int (yddd 8), .ref eqcounts, .int (yddd 9), .int (yddd 10), .int (yddd 11), .int (yddd 12), .int (yddd 13), .int (yddd 14), .int (yddd 15), .int (yddd 16), .int (yddd 17), .int (yddd 18), .int (yddd 19), .long ydLwhole, .long ydLwhole2])), (eqmemory, .inl (cB, 262144, .inl ydbm)), (eqr, .inl (cI, 67, .inl ydrr)), (eqcounts, .inl (cI, 5, .inl ydkt))]) X hKw hP hD hS hA hE hNc (c_La_pass l hl0 D cI cJ qx qc qp qr qh qm qw qu qf ql qo ms mn yg yrg yhq ymf ycd yfg yL yO yov _ h _) ⟨rfl, rfl⟩ ms_La_pass k_La_78 ⟨Nat.le_of_ble_eq_true rfl, Nat.le_of_ble_eq_true rfl⟩ [0, 1, 2, 3, 4, 5, 6, 7, 8, 9, 10] [11, 12, 13, 14] rfl rfl (by decide) (by decide) (by decide) rfl hl.1 rfl (Nat.le_of_ble_eq_true rfl) d_law_307 ⟨by show cN + 1 ≤ 601024; omega, by show sN + 6 ≤ 7293000; omega⟩ (fun r_63 u_62 H locs h hP hD hS => ?_)
                      have hP : va_P D vwCl (wA qx qc qp qr qh qm qw qu qf ql qo eqd eqmemory eqr eqcounts cI cJ cB ms mn ms2 u_62.1.1 u_62.1.2.1 u_62.1.2.2.1 u_62.1.2.2.2.1 u_62.1.2.2.2.2.1 u_62.1.2.2.2.2.2.1 u_62.1.2.2.2.2.2.2.1 u_62.1.2.2.2.2.2.2.2 u_62.2 yddd ydLwhole ydLwhole2 ydbm ydrr ydkt) H := hP.sub [4, 5, 6, 7, 8, 9, 10, 11, 12, 13, 14, 0, 1, 2, 3] rfl
                      have hD : va_D A (wA qx qc qp qr qh qm qw qu qf ql qo eqd eqmemory eqr eqcounts cI cJ cB ms mn ms2 u_62.1.1 u_62.1.2.1 u_62.1.2.2.1 u_62.1.2.2.2.1 u_62.1.2.2.2.2.1 u_62.1.2.2.2.2.2.1 u_62.1.2.2.2.2.2.2.1 u_62.1.2.2.2.2.2.2.2 u_62.2 yddd ydLwhole ydLwhole2 ydbm ydrr ydkt) := hD.sub [4, 5, 6, 7, 8, 9, 10, 11, 12, 13, 14, 0, 1, 2, 3] (by decide) rfl
                      have hf0 : (cN + 1) + 0 ≤ room_1.cells ∧ (sN + 6) + 0 ≤ room_1.slots := ⟨by show (cN + 1) + 0 ≤ 601024; omega, by show (sN + 6) + 0 ≤ 7293000; omega⟩
                      refine lv_istore (lv' := [(5, .int r_63), (0, .ref b), (1, .ref qc), (2, .ref eqd), (3, .ref qx), (4, .int v4)]) hx hb d_law_310 hl (by decide) rfl (fun ls hl => ?_)
                      refine lv_aload_n hx hb d_law_312 rfl (lv_at hl 3 rfl) ?_
                      refine zz_Wi (As := []) (rest := []) (wc := wD eqd eqmemory eqr eqcounts cI cB ms2 yddd ydLwhole ydLwhole2 ydbm ydrr ydkt) (wr := [(qx, .inl (cJ, 1, .inr (.inl u_62.2))), (qc, .inr (5, [.ref qm, .ref qp])), (qp, .inr (4, [.ref qm, .ref qr, .ref qh, .ref qu, .int (u_62.1.1 0), .int (u_62.1.1 1), .int (u_62.1.1 2), .int (u_62.1.1 3), .int (u_62.1.1 4), .int (u_62.1.1 5), .int (u_62.1.1 6), .int (u_62.1.1 7), .int (u_62.1.1 8), .int (u_62.1.1 9), .int (u_62.1.1 10), .int (u_62.1.1 11)])), (qr, .inl (cI, 32, .inl u_62.1.2.1)), (qh, .inr (2, [.int (u_62.1.2.2.1 0), .int (u_62.1.2.2.1 1), .int (u_62.1.2.2.1 2), .int (u_62.1.2.2.1 3)])), (qm, .inr (3, [.int ms, .ref qw])), (qw, .inl (cI, mn, .inl u_62.1.2.2.2.1)), (qu, .inr (1, [.ref qf, .int u_62.1.2.2.2.2.1, .ref ql, .ref qo])), (qf, .inl (cI, 32, .inl u_62.1.2.2.2.2.2.1)), (ql, .inr (0, [.int u_62.1.2.2.2.2.2.2.1.1, .int u_62.1.2.2.2.2.2.2.1.2.1, .int u_62.1.2.2.2.2.2.2.1.2.2.1, .long u_62.1.2.2.2.2.2.2.1.2.2.2])), (qo, .inr (0, [.int u_62.1.2.2.2.2.2.2.2.1, .int u_62.1.2.2.2.2.2.2.2.2.1, .int u_62.1.2.2.2.2.2.2.2.2.2.1, .long u_62.1.2.2.2.2.2.2.2.2.2.2]))]) X hKd hP hD hS hA (c_Md_pass l D cI cB eqd eqmemory eqr eqcounts ms2 yddd ydLwhole ydLwhole2 ydbm ydrr ydkt _ h _) ⟨rfl, rfl⟩ m_Md_pass k_La_81 ⟨Nat.le_of_ble_eq_true rfl, Nat.le_of_ble_eq_true rfl⟩ [11, 12, 13, 14] [0, 1, 2, 3, 4, 5, 6, 7, 8, 9, 10] rfl rfl (by decide) (by decide) (by decide) 6 11 rfl rfl rfl rfl hl.1 rfl (Nat.le_of_ble_eq_true rfl) d_law_313 hf0 (fun r_65 u_64 H locs h hP hD hS => ?_)
                      have hP : va_P D vwCl (wA qx qc qp qr qh qm qw qu qf ql qo eqd eqmemory eqr eqcounts cI cJ cB ms mn ms2 u_62.1.1 u_62.1.2.1 u_62.1.2.2.1 u_62.1.2.2.2.1 u_62.1.2.2.2.2.1 u_62.1.2.2.2.2.2.1 u_62.1.2.2.2.2.2.2.1 u_62.1.2.2.2.2.2.2.2 u_62.2 u_64.1 u_64.2.1 u_64.2.2.1 u_64.2.2.2.1 u_64.2.2.2.2.1 u_64.2.2.2.2.2) H := hP.sub [0, 1, 2, 3, 4, 5, 6, 7, 8, 9, 10, 11, 12, 13, 14] rfl
                      have hD : va_D A (wA qx qc qp qr qh qm qw qu qf ql qo eqd eqmemory eqr eqcounts cI cJ cB ms mn ms2 u_62.1.1 u_62.1.2.1 u_62.1.2.2.1 u_62.1.2.2.2.1 u_62.1.2.2.2.2.1 u_62.1.2.2.2.2.2.1 u_62.1.2.2.2.2.2.2.1 u_62.1.2.2.2.2.2.2.2 u_62.2 u_64.1 u_64.2.1 u_64.2.2.1 u_64.2.2.2.1 u_64.2.2.2.2.1 u_64.2.2.2.2.2) := hD.sub [0, 1, 2, 3, 4, 5, 6, 7, 8, 9, 10, 11, 12, 13, 14] (by decide) rfl
                      refine lv_istore (lv' := [(6, .int r_65), (5, .int r_63), (0, .ref b), (1, .ref qc), (2, .ref eqd), (3, .ref qx), (4, .int v4)]) hx hb d_law_316 hl (by decide) rfl (fun ls hl => ?_)
                      refine lv_aload_n hx hb d_law_318 rfl (lv_at hl 4 rfl) ?_
                      refine zz_Ri (As := []) (rest := []) (wc := wD eqd eqmemory eqr eqcounts cI cB ms2 u_64.1 u_64.2.1 u_64.2.2.1 u_64.2.2.2.1 u_64.2.2.2.2.1 u_64.2.2.2.2.2) X hKd hP (c_Md_thrown l D cI cB eqd eqmemory eqr eqcounts ms2 u_64.1 u_64.2.1 u_64.2.2.1 u_64.2.2.2.1 u_64.2.2.2.2.1 u_64.2.2.2.2.2 _ h) ⟨rfl, rfl⟩ m_Md_thrown k_La_82 ⟨Nat.le_of_ble_eq_true rfl, Nat.le_of_ble_eq_true rfl⟩ [11, 12, 13, 14] rfl 6 11 rfl rfl rfl rfl hl.1 rfl (Nat.le_of_ble_eq_true rfl) d_law_319 hf0 (fun r_66 h => ?_)
                      refine lv_iload hx hb d_law_322 (lv_at hl 1 rfl) ?_
                      refine lv_icmp_eq (tgt := 329) hx hb d_law_324 (by decide) (fun c_67 => ?_) (fun c_67 => ?_)
                      · skip
                        have h := h.1 c_67
                        refine lv_iload hx hb d_law_329 (lv_at hl 1 rfl) ?_
                        refine lv_if_ne (tgt := 346) hx hb d_law_331 (by decide) (fun c_68 => ?_) (fun c_68 => ?_)
                        · skip
                          have h := h.2 c_68
                          refine lv_goto (tgt := 377) hx hb d_law_346 (by decide) ?_
                          obtain ⟨x_69, ex_69⟩ : ∃ y : Int32, y = v4 + 3 := ⟨_, rfl⟩
                          have h := h x_69 ex_69
                          refine lv_iinc (v := x_69) (lv' := [(4, .int x_69), (6, .int r_65), (5, .int r_63), (0, .ref b), (1, .ref qc), (2, .ref eqd), (3, .ref qx)]) hx hb d_law_377 hl (k := 6) rfl (by rw [ex_69]; rfl) (by decide) rfl (fun ls hl => ?_)
                          refine lv_goto (tgt := 33) hx hb d_law_380 (by decide) ?_
                          exact ih x_69 u_62.1.1 u_62.1.2.1 u_62.1.2.2.1 u_62.1.2.2.2.1 u_62.1.2.2.2.2.1 u_62.1.2.2.2.2.2.1 u_62.1.2.2.2.2.2.2.1 u_62.1.2.2.2.2.2.2.2 u_62.2 u_64.1 u_64.2.1 u_64.2.2.1 u_64.2.2.2.1 u_64.2.2.2.2.1 u_64.2.2.2.2.2 h (cN + 1) (sN + 6) (by omega) (by omega) _ _ hP hD hS ls (lv_sub hl [3, 4, 5, 6, 0] rfl)
                        · skip
                          have h := h.1 c_68
                          refine lv_aload_n hx hb d_law_334 rfl (lv_at hl 5 rfl) ?_
                          refine lv_iconst (v := 0) hx hb d_law_335 (by decide) ?_
                          refine va_lald (f := u_62.2) hx hb hK hP 0 1 rfl rfl (by unfold vp_in; decide) d_law_336 ?_
                          refine lv_topl (fun x_70 ex_70 => ?_)
                          have h := h x_70 ex_70
                          refine lv_iload hx hb d_law_337 (lv_at hl 0 rfl) ?_
                          refine lv_i2l (v := r_65.toInt64) hx hb d_law_339 rfl ?_
                          refine W.lcmp hx hb d_law_340 ?_
                          refine lv_if_eq (tgt := 346) hx hb d_law_341 (by decide) (fun c_71 => ?_) (fun c_71 => ?_)
                          · have kc_71 := ((lg_cmp_eq _ _).mp c_71)
                            have h := h.1 kc_71
                            refine lv_goto (tgt := 377) hx hb d_law_346 (by decide) ?_
                            obtain ⟨x_72, ex_72⟩ : ∃ y : Int32, y = v4 + 3 := ⟨_, rfl⟩
                            have h := h x_72 ex_72
                            refine lv_iinc (v := x_72) (lv' := [(4, .int x_72), (6, .int r_65), (5, .int r_63), (0, .ref b), (1, .ref qc), (2, .ref eqd), (3, .ref qx)]) hx hb d_law_377 hl (k := 6) rfl (by rw [ex_72]; rfl) (by decide) rfl (fun ls hl => ?_)
                            refine lv_goto (tgt := 33) hx hb d_law_380 (by decide) ?_
                            exact ih x_72 u_62.1.1 u_62.1.2.1 u_62.1.2.2.1 u_62.1.2.2.2.1 u_62.1.2.2.2.2.1 u_62.1.2.2.2.2.2.1 u_62.1.2.2.2.2.2.2.1 u_62.1.2.2.2.2.2.2.2 u_62.2 u_64.1 u_64.2.1 u_64.2.2.1 u_64.2.2.2.1 u_64.2.2.2.2.1 u_64.2.2.2.2.2 h (cN + 1) (sN + 6) (by omega) (by omega) _ _ hP hD hS ls (lv_sub hl [3, 4, 5, 6, 0] rfl)
                          · have kc_71 := (fun q => c_71 ((lg_cmp_eq _ _).mpr q))
                            have h := h.2 kc_71
                            refine lv_iconst (v := 0) hx hb d_law_344 (by decide) ?_
                            refine va_forget (fun q hq => by have h9 := hS.2.2 q hq; rw [hAd] at h9; exact h9) ?_
                            refine W.widen (k := 601024) (n := 7293000) (by omega) (by omega) ?_
                            exact lw_ret hx hb hr hlocks d_law_345
                      · skip
                        have h := h.2 c_67
                        refine lv_iconst (v := 0) hx hb d_law_327 (by decide) ?_
                        refine va_forget (fun q hq => by have h9 := hS.2.2 q hq; rw [hAd] at h9; exact h9) ?_
                        refine W.widen (k := 601024) (n := 7293000) (by omega) (by omega) ?_
                        exact lw_ret hx hb hr hlocks d_law_328
                    · have h := h.2 c_61
                      by_cases c_73 : (x_3 &&& (15 : Int32)) = (8 : Int32)
                      · have h := h.1 c_73
                        have h0 := c_73
                        refine lv_tableIn (off := 300) (tgt := 349) hx hb d_law_49 (by rw [h0]; decide) (by rw [h0]; decide) (by rw [h0]; rfl) (by decide) ?_
                        refine lv_aload_n hx hb d_law_349 rfl (lv_at hl 1 rfl) ?_
                        refine lv_aload_n hx hb d_law_350 rfl (lv_at hl 0 rfl) ?_
                        refine lv_iload hx hb d_law_351 (lv_at hl 4 rfl) ?_
                        refine lv_iconst (v := 1) hx hb d_law_353 (by decide) ?_
                        refine lv_iadd hx hb d_law_354 ?_
                        refine va_sld hx hb hX hbl hbA hS h.1 d_law_355 ?_
                        have h := h.2
                        refine lv_topi (fun x_74 ex_74 => ?_)
                        have h := h x_74 ex_74
                        refine lv_aload_n hx hb d_law_356 rfl (lv_at hl 3 rfl) ?_
                        refine zz_SWi (As := [.ref qc, .int x_74, .ref qx]) (rest := []) (wc := wL qx qc qp qr qh qm qw qu qf ql qo cI cJ ms mn yg yrg yhq ymf ycd yfg yL yO yov) (wr := [(eqd, .inr (6, [.int (yddd 0), .ref eqmemory, .int ms2, .ref eqr, .int (yddd 1), .int (yddd 2), .int (yddd 3), .int (yddd 4), .int (yddd 5), .int (yddd 6), .int (yddd 7), .int (yddd 8), .ref eqcounts, .int (yddd 9), .int (yddd 10), .int (yddd 11), .int (yddd 12), .int (yddd 13), .int (yddd 14), .int (yddd 15), .int (yddd 16), .int (yddd 17), .int (yddd 18), .int (yddd 19), .long ydLwhole, .long ydLwhole2])), (eqmemory, .inl (cB, 262144, .inl ydbm)), (eqr, .inl (cI, 67, .inl ydrr)), (eqcounts, .inl (cI, 5, .inl ydkt))]) X hKw hP hD hS hA hE hNc (c_La_state l hl0 D cI cJ qx qc qp qr qh qm qw qu qf ql qo ms mn yg yrg yhq ymf ycd yfg yL yO yov x_74 _ h _) ⟨rfl, rfl⟩ ms_La_state k_La_85 ⟨Nat.le_of_ble_eq_true rfl, Nat.le_of_ble_eq_true rfl⟩ [0, 1, 2, 3, 4, 5, 6, 7, 8, 9, 10] [11, 12, 13, 14] rfl rfl (by decide) (by decide) (by decide) rfl hl.1 rfl (Nat.le_of_ble_eq_true rfl) d_law_357 ⟨by show cN + 1 ≤ 601024; omega, by show sN + 6 ≤ 7293000; omega⟩ (fun r_76 u_75 H locs h hP hD hS => ?_)
                        have hP : va_P D vwCl (wA qx qc qp qr qh qm qw qu qf ql qo eqd eqmemory eqr eqcounts cI cJ cB ms mn ms2 u_75.1.1 u_75.1.2.1 u_75.1.2.2.1 u_75.1.2.2.2.1 u_75.1.2.2.2.2.1 u_75.1.2.2.2.2.2.1 u_75.1.2.2.2.2.2.2.1 u_75.1.2.2.2.2.2.2.2 u_75.2 yddd ydLwhole ydLwhole2 ydbm ydrr ydkt) H := hP.sub [4, 5, 6, 7, 8, 9, 10, 11, 12, 13, 14, 0, 1, 2, 3] rfl
                        have hD : va_D A (wA qx qc qp qr qh qm qw qu qf ql qo eqd eqmemory eqr eqcounts cI cJ cB ms mn ms2 u_75.1.1 u_75.1.2.1 u_75.1.2.2.1 u_75.1.2.2.2.1 u_75.1.2.2.2.2.1 u_75.1.2.2.2.2.2.1 u_75.1.2.2.2.2.2.2.1 u_75.1.2.2.2.2.2.2.2 u_75.2 yddd ydLwhole ydLwhole2 ydbm ydrr ydkt) := hD.sub [4, 5, 6, 7, 8, 9, 10, 11, 12, 13, 14, 0, 1, 2, 3] (by decide) rfl
                        have hf0 : (cN + 1) + 0 ≤ room_1.cells ∧ (sN + 6) + 0 ≤ room_1.slots := ⟨by show (cN + 1) + 0 ≤ 601024; omega, by show (sN + 6) + 0 ≤ 7293000; omega⟩
                        refine lv_istore (lv' := [(5, .int r_76), (0, .ref b), (1, .ref qc), (2, .ref eqd), (3, .ref qx), (4, .int v4)]) hx hb d_law_360 hl (by decide) rfl (fun ls hl => ?_)
                        refine lv_aload_n hx hb d_law_362 rfl (lv_at hl 3 rfl) ?_
                        refine lv_aload_n hx hb d_law_363 rfl (lv_at hl 1 rfl) ?_
                        refine lv_iload hx hb d_law_364 (lv_at hl 5 rfl) ?_
                        refine lv_iconst (v := 1) hx hb d_law_366 (by decide) ?_
                        refine lv_iadd hx hb d_law_367 ?_
                        refine va_sld hx hb hX hbl hbA hS h.1 d_law_368 ?_
                        have h := h.2
                        refine lv_topi (fun x_77 ex_77 => ?_)
                        have h := h x_77 ex_77
                        refine zz_Wi (As := [.int x_77]) (rest := []) (wc := wD eqd eqmemory eqr eqcounts cI cB ms2 yddd ydLwhole ydLwhole2 ydbm ydrr ydkt) (wr := [(qx, .inl (cJ, 1, .inr (.inl u_75.2))), (qc, .inr (5, [.ref qm, .ref qp])), (qp, .inr (4, [.ref qm, .ref qr, .ref qh, .ref qu, .int (u_75.1.1 0), .int (u_75.1.1 1), .int (u_75.1.1 2), .int (u_75.1.1 3), .int (u_75.1.1 4), .int (u_75.1.1 5), .int (u_75.1.1 6), .int (u_75.1.1 7), .int (u_75.1.1 8), .int (u_75.1.1 9), .int (u_75.1.1 10), .int (u_75.1.1 11)])), (qr, .inl (cI, 32, .inl u_75.1.2.1)), (qh, .inr (2, [.int (u_75.1.2.2.1 0), .int (u_75.1.2.2.1 1), .int (u_75.1.2.2.1 2), .int (u_75.1.2.2.1 3)])), (qm, .inr (3, [.int ms, .ref qw])), (qw, .inl (cI, mn, .inl u_75.1.2.2.2.1)), (qu, .inr (1, [.ref qf, .int u_75.1.2.2.2.2.1, .ref ql, .ref qo])), (qf, .inl (cI, 32, .inl u_75.1.2.2.2.2.2.1)), (ql, .inr (0, [.int u_75.1.2.2.2.2.2.2.1.1, .int u_75.1.2.2.2.2.2.2.1.2.1, .int u_75.1.2.2.2.2.2.2.1.2.2.1, .long u_75.1.2.2.2.2.2.2.1.2.2.2])), (qo, .inr (0, [.int u_75.1.2.2.2.2.2.2.2.1, .int u_75.1.2.2.2.2.2.2.2.2.1, .int u_75.1.2.2.2.2.2.2.2.2.2.1, .long u_75.1.2.2.2.2.2.2.2.2.2.2]))]) X hKd hP hD hS hA (c_Md_state l D cI cB eqd eqmemory eqr eqcounts ms2 yddd ydLwhole ydLwhole2 ydbm ydrr ydkt x_77 _ h _) ⟨rfl, rfl⟩ m_Md_state k_La_87 ⟨Nat.le_of_ble_eq_true rfl, Nat.le_of_ble_eq_true rfl⟩ [11, 12, 13, 14] [0, 1, 2, 3, 4, 5, 6, 7, 8, 9, 10] rfl rfl (by decide) (by decide) (by decide) 6 11 rfl rfl rfl rfl hl.1 rfl (Nat.le_of_ble_eq_true rfl) d_law_369 hf0 (fun r_79 u_78 H locs h hP hD hS => ?_)
                        have hP : va_P D vwCl (wA qx qc qp qr qh qm qw qu qf ql qo eqd eqmemory eqr eqcounts cI cJ cB ms mn ms2 u_75.1.1 u_75.1.2.1 u_75.1.2.2.1 u_75.1.2.2.2.1 u_75.1.2.2.2.2.1 u_75.1.2.2.2.2.2.1 u_75.1.2.2.2.2.2.2.1 u_75.1.2.2.2.2.2.2.2 u_75.2 u_78.1 u_78.2.1 u_78.2.2.1 u_78.2.2.2.1 u_78.2.2.2.2.1 u_78.2.2.2.2.2) H := hP.sub [0, 1, 2, 3, 4, 5, 6, 7, 8, 9, 10, 11, 12, 13, 14] rfl
                        have hD : va_D A (wA qx qc qp qr qh qm qw qu qf ql qo eqd eqmemory eqr eqcounts cI cJ cB ms mn ms2 u_75.1.1 u_75.1.2.1 u_75.1.2.2.1 u_75.1.2.2.2.1 u_75.1.2.2.2.2.1 u_75.1.2.2.2.2.2.1 u_75.1.2.2.2.2.2.2.1 u_75.1.2.2.2.2.2.2.2 u_75.2 u_78.1 u_78.2.1 u_78.2.2.1 u_78.2.2.2.1 u_78.2.2.2.2.1 u_78.2.2.2.2.2) := hD.sub [0, 1, 2, 3, 4, 5, 6, 7, 8, 9, 10, 11, 12, 13, 14] (by decide) rfl
                        refine lv_istore (lv' := [(6, .int r_79), (5, .int r_76), (0, .ref b), (1, .ref qc), (2, .ref eqd), (3, .ref qx), (4, .int v4)]) hx hb d_law_372 hl (by decide) rfl (fun ls hl => ?_)
                        refine lv_goto (tgt := 377) hx hb d_law_374 (by decide) ?_
                        obtain ⟨x_80, ex_80⟩ : ∃ y : Int32, y = v4 + 3 := ⟨_, rfl⟩
                        have h := h x_80 ex_80
                        refine lv_iinc (v := x_80) (lv' := [(4, .int x_80), (6, .int r_79), (5, .int r_76), (0, .ref b), (1, .ref qc), (2, .ref eqd), (3, .ref qx)]) hx hb d_law_377 hl (k := 6) rfl (by rw [ex_80]; rfl) (by decide) rfl (fun ls hl => ?_)
                        refine lv_goto (tgt := 33) hx hb d_law_380 (by decide) ?_
                        exact ih x_80 u_75.1.1 u_75.1.2.1 u_75.1.2.2.1 u_75.1.2.2.2.1 u_75.1.2.2.2.2.1 u_75.1.2.2.2.2.2.1 u_75.1.2.2.2.2.2.2.1 u_75.1.2.2.2.2.2.2.2 u_75.2 u_78.1 u_78.2.1 u_78.2.2.1 u_78.2.2.2.1 u_78.2.2.2.2.1 u_78.2.2.2.2.2 h (cN + 1) (sN + 6) (by omega) (by omega) _ _ hP hD hS ls (lv_sub hl [3, 4, 5, 6, 0] rfl)
                      · have h := h.2 c_73
                        refine zz_swD (tgt := 377) hx hb [0, 1, 2, 3, 4, 5, 6, 7, 8] d_law_49 (by decide +kernel) (by decide) (List.forall_mem_cons.mpr ⟨lv_neT (k := 0) c_4 (by decide), List.forall_mem_cons.mpr ⟨lv_neT (k := 1) c_14 (by decide), List.forall_mem_cons.mpr ⟨lv_neT (k := 2) c_22 (by decide), List.forall_mem_cons.mpr ⟨lv_neT (k := 3) c_30 (by decide), List.forall_mem_cons.mpr ⟨lv_neT (k := 4) c_40 (by decide), List.forall_mem_cons.mpr ⟨lv_neT (k := 5) c_48 (by decide), List.forall_mem_cons.mpr ⟨lv_neT (k := 6) c_56 (by decide), List.forall_mem_cons.mpr ⟨lv_neT (k := 7) c_61 (by decide), List.forall_mem_cons.mpr ⟨lv_neT (k := 8) c_73 (by decide), fun _ h9 => nomatch h9⟩⟩⟩⟩⟩⟩⟩⟩⟩) (by decide) ?_
                        obtain ⟨x_81, ex_81⟩ : ∃ y : Int32, y = v4 + 3 := ⟨_, rfl⟩
                        have h := h x_81 ex_81
                        refine lv_iinc (v := x_81) (lv' := [(4, .int x_81), (0, .ref b), (1, .ref qc), (2, .ref eqd), (3, .ref qx)]) hx hb d_law_377 hl (k := 4) rfl (by rw [ex_81]; rfl) (by decide) rfl (fun ls hl => ?_)
                        refine lv_goto (tgt := 33) hx hb d_law_380 (by decide) ?_
                        refine W.widen (k := cN + 1) (n := sN + 6) (by omega) (by omega) ?_
                        exact ih x_81 yg yrg yhq ymf ycd yfg yL yO yov yddd ydLwhole ydLwhole2 ydbm ydrr ydkt h (cN + 1) (sN + 6) (by omega) (by omega) _ _ hP hD hS ls (lv_sub hl [1, 2, 3, 4, 0] rfl)
