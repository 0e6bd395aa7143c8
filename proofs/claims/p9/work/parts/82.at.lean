/-! ===== the law answers 0 at this script: the claim's second limb falls ===== -/
set_option maxHeartbeats 4000000 in
theorem rf_walk (l : Launch) (hl0 : l.stackTraces = false) (b : Addr) : MetFree l x (headSpec (Jvm.Cond.code x code maxLocals ret :: tables_1) room_1) (lw_P b rf_l) (fun _ _ _ _ _ => True) lw_Q := by
  refine MetFree.of_bodyS (code := code) (maxLocals := maxLocals) (ret := ret) (by decide) ?_ ?_
  · intro args s m h hn
    obtain ⟨meth, c, h1, h2, h3, h4, h5, h6, -, -⟩ := Cond.code_spec hn (atoms_spec (ws := Jvm.Cond.code x code maxLocals ret :: tables_1) h _ List.mem_cons_self)
    exact ⟨meth, c, h1, h2, h3, h4, h5, h6⟩
  · intro p e s m args below meth c s₁ B hml0 hP _
    obtain ⟨rfl, hx, hbd, hgv⟩ := hP
    obtain ⟨scr, harrAt, hlist, hof, hsmall⟩ := hx
    obtain ⟨hcb, hkn, -, -⟩ := State.arrayAt?_spec harrAt
    have hown : s.vm.findClass R_law = some m.cls := findClass_of_methodNamed B.named
    have hts0 : ∀ c ∈ (Jvm.Cond.code x code maxLocals ret :: tables_1), c.before #[Value.ref b] s = true := atoms_spec (ws := Jvm.Cond.code x code maxLocals ret :: tables_1) B.pre
    have hts : ∀ w ∈ lw_tbl, w.before #[Value.ref b] s = true := k2_hts_sels lw_privs (fun w hw => hts0 w (List.mem_cons_of_mem _ hw)) lw_privs_ok
    have hml : c.maxLocals = 7 := B.maxLocals_eq (hts0 _ List.mem_cons_self)
    have X₀ : Stand p l e room_1 s m #[Value.ref b] below meth c s₁ [] 0 0 := Stand.of_body B
    have hh0 : s₁.heap = s.heap := by rw [B.state]; rfl
    have hsz : scr.slots.size = 13 := by rw [← Array.length_toList, hlist, List.length_map]; rfl
    have hval : ∀ j : Nat, j < 13 → scr.slots[j]? = some (.int (rf_x j)) := fun j hj => by
      have hj' : j < rf_l.length := hj
      rw [← Array.getElem?_toList, hlist]
      unfold rf_x
      simp [hj']
    have hbl : b < s.heap.size := (Array.getElem?_eq_some_iff.mp hcb).1
    have hX : va_X b 13 rf_x s s.heap := ⟨scr, hcb, hof, hkn, hsz, hval⟩
    have K : W p l e room_1 s m #[Value.ref b] below meth c s₁.heap [] 0 0 (lw_Z below #[Value.ref b] s) (entryFrame m ([Value.ref b] : List Value).toArray 7) := by
      rw [hh0]
      exact whole_start l hl0 hbd ⟨B.exec, B.bytes, B.returns, hml, hown, hts, hX, hbl, B.notSynchronized, hgv⟩ rf_pays
    obtain ⟨t, a1, o, b1, b2, b3⟩ := K s₁ rfl X₀
    exact ⟨t, o, a1, b1, b2, b3⟩
/-- at every start that meets the premises with this script, the law returns 0 -/
theorem rf_at {l : Launch} {p : Program} {e : Env} {s : State} {m : MethodId} {args : Array Value} {below : List Frame} {b : Addr} (hl0 : l.stackTraces = false) (h : AtStart classFile x code maxLocals ret World_1 tables_1 room_1 Calls_1 rest_1 Pre_1 l p e s m args below) (ha : args = #[.ref b]) (hi : s.IntsAt b rf_l) :
    ∃ n : Nat, (∀ k, k < n → Within (stepsAlone p.tables e k s) below) ∧ (stepsAlone p.tables e n s).status = Status.running ∧ Ended (stepsAlone p.tables e n s) below (.returned (some (.int 0))) := by
  obtain ⟨-, -, h3, -, h5, h6, h7, -, -, h10, -, -, h13⟩ := h
  obtain ⟨k, o, k1, k2, k3, rfl, -⟩ := rf_walk l hl0 b p e h3 h5 h6 s m args below h7 ((Spec.applies_iff_loose h7).mp h10).1 ⟨ha, hi, by decide, h13⟩ trivial
  exact ⟨k, k1, k2, k3⟩
theorem rf_not (tb : Tables) (e : Env) (a : Array Value) (s t : State) : ¬ Post_1_2 tb e a s (.returned (some (.int 0))) t := by
  rintro ⟨h, -⟩
  have h : limb_1_2.after a s (.returned (some (.int 0))) t = true := h
  have h1 := Cond.after_iff.mp h
  rw [show limb_1_2 = Cond.eq .result (.int 1) from rfl, Cond.eq_ints (x := 0) (y := 1) rfl rfl] at h1
  simp at h1
