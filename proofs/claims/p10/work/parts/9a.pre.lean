/-! ===== one step of both: what is to be kept ===== -/
abbrev CoT : Type := (Nat → Int32) × (Nat → Int32) × (Nat → Int32) × (Nat → Int32) × Int32 × (Nat → Int32) × Fr4 × Fr4
/-- the relation, and that outside a slot the next instruction is the one behind -/
def q_st (mn : Nat) (u : CoT) (v : MdT) : Prop := q_rel mn u.1 u.2.1 u.2.2.1 u.2.2.2.1 u.2.2.2.2.1 u.2.2.2.2.2.1 v.1 v.2.2.2.1 v.2.2.2.2.1 v.2.2.2.2.2 ∧ (u.1 2 = 0 → u.1 1 = u.1 0 + 4)
def q_e (r : Int32) : Prop := r = 1 ∨ r = 2 ∨ r = 3 ∨ r = 4 ∨ r = 5 ∨ r = 6 ∨ r = 7 ∨ r = 8
def mvd (dd : Nat → Int32) : Nat → Int32 := if dd 13 = 0 then upd (upd (upd dd 4 (if dd 11 = 0 then dd 4 + 4 else dd 10)) 3 (dd 4)) 6 (dd 12) else upd (upd (upd dd 3 (dd 4 + 4)) 4 (dd 4 + 8)) 6 0
def mvk (dd kt : Nat → Int32) : Nat → Int32 := if dd 13 = 0 then upd (upd kt 0 (kt 0 + 1)) 3 (kt 3 + (if dd 11 = 0 then 0 else 1)) else upd (upd kt 0 (kt 0 + 1)) 4 (kt 4 + 1)
/-- how an instruction comes out: an end, done, or moved -/
def oc (mn : Nat) (r : Int32) (u : CoT) (v : MdT) : Prop :=
  (q_e r ∧ v.1 5 = r ∧ q_st mn (upd u.1 5 r, u.2) v) ∨
  (r = 0 ∧ v.1 5 = 0 ∧ zz_bz (v.1 12) ∧ q_st mn (upd (upd (upd (upd u.1 0 (u.1 1)) 1 (u.1 1 + 4)) 2 0) 7 (u.1 7 + 1), u.2) (mvd v.1, v.2.1, v.2.2.1, v.2.2.2.1, v.2.2.2.2.1, mvk v.1 v.2.2.2.2.2)) ∨
  (r = -1 ∧ v.1 5 = 0 ∧ zz_bz (v.1 12) ∧ q_st mn (upd u.1 7 (u.1 7 + 1), u.2) (mvd v.1, v.2.1, v.2.2.1, v.2.2.2.1, v.2.2.2.2.1, mvk v.1 v.2.2.2.2.2))
section PRE
variable {ms : Int32} {mn S : Nat} {g rg hq mf : Nat → Int32} {cd : Int32} {fg : Nat → Int32} {L O : Fr4} {dd bm rr kt : Nat → Int32} {l1 l2 : Int64} {w : Int32}
/-- what all these leave of the reference's scalars is the same, and memory, registers, counts -/
def vsim (v v' : MdT) : Prop := mdlo v.1 v'.1 ∧ v'.2.2.2.1 = v.2.2.2.1 ∧ v'.2.2.2.2.1 = v.2.2.2.2.1 ∧ v'.2.2.2.2.2 = v.2.2.2.2.2
theorem lo_upd {a b : Nat → Int32} {k : Nat} {x : Int32} (h : mdlo a b) : mdlo (upd a k x) (upd b k x) := by
  intro j hj
  by_cases c : j = k
  · subst c; rw [pk_us, pk_us]
  · rw [pk_un c, pk_un c]; exact h j hj
/-- an instruction: what both come to (the class's fractions at work and the reference's are not told) -/
def pfx (ms : Int32) (mn : Nat) (g rg hq mf : Nat → Int32) (cd : Int32) (fg : Nat → Int32) (w : Int32) (dd : Nat → Int32) (bm rr kt : Nat → Int32) : Prop :=
  ∃ (r : Int32) (u : CoT) (v : MdT), (oc mn r u v ∧ (¬ q_e r ∨ u.1 0 = g 0) ∧ v.1 0 = dd 0) ∧ (∀ (L O : Fr4) (P : Int32 → CoT → Prop), (∀ L' O', P r (u.1, u.2.1, u.2.2.1, u.2.2.2.1, u.2.2.2.2.1, u.2.2.2.2.2.1, L', O')) → wp_Pr_perform ms mn g rg hq mf cd fg L O w P) ∧ (∀ (dd' : Nat → Int32) (l1 l2 : Int64), mdlo dd dd' → ∀ Q : MdT → Prop, (∀ v', vsim v v' → Q v') → wp_Md_operate ms dd' l1 l2 bm rr kt (zz_ushr w 26) Q)
/-- what holds as an instruction begins -/
abbrev pre (mn : Nat) (g rg hq mf : Nat → Int32) (cd : Int32) (fg : Nat → Int32) (w : Int32) (dd bm rr kt : Nat → Int32) : Prop := q_rel mn g rg hq mf cd fg dd bm rr kt ∧ (g 2 = 0 → g 1 = g 0 + 4) ∧ dd 5 = 0 ∧ dd 9 = w ∧ dd 11 = 0 ∧ dd 12 = 0 ∧ dd 13 = 0
theorem pre.rel (h : pre mn g rg hq mf cd fg w dd bm rr kt) : q_rel mn g rg hq mf cd fg dd bm rr kt := h.1
theorem pre.nxt (h : pre mn g rg hq mf cd fg w dd bm rr kt) : g 2 = 0 → g 1 = g 0 + 4 := h.2.1
theorem pre.e5 (h : pre mn g rg hq mf cd fg w dd bm rr kt) : dd 5 = 0 := h.2.2.1
theorem pre.e9 (h : pre mn g rg hq mf cd fg w dd bm rr kt) : dd 9 = w := h.2.2.2.1
theorem pre.e11 (h : pre mn g rg hq mf cd fg w dd bm rr kt) : dd 11 = 0 := h.2.2.2.2.1
theorem pre.e12 (h : pre mn g rg hq mf cd fg w dd bm rr kt) : dd 12 = 0 := h.2.2.2.2.2.1
theorem pre.e13 (h : pre mn g rg hq mf cd fg w dd bm rr kt) : dd 13 = 0 := h.2.2.2.2.2.2
theorem md_moveOn {P : MdT → Prop} (hb : zz_bz (dd 12)) (h : P (mvd dd, l1, l2, bm, rr, mvk dd kt)) : wp_Md_moveOn ms dd l1 l2 bm rr kt P := by
  unfold wp_Md_moveOn
  unfold mvd mvk at h
  have i0 : vp_in (0 : Int32) 5 := by unfold vp_in; decide
  have i3 : vp_in (3 : Int32) 5 := by unfold vp_in; decide
  have i4 : vp_in (4 : Int32) 5 := by unfold vp_in; decide
  have c0 : (0 : Int32).toNatClampNeg = 0 := by decide
  have c3 : (3 : Int32).toNatClampNeg = 3 := by decide
  have c4 : (4 : Int32).toNatClampNeg = 4 := by decide
  intro x ex
  rw [c0, c3, c4]
  refine ⟨i0, fun y ey => ⟨i0, ⟨fun c => ⟨fun d z ez => ⟨i3, fun t et => ⟨i3, fun a ea => ⟨by rw [ea]; exact hb, ?_⟩⟩⟩, fun d z ez => ⟨i3, fun t et => ⟨i3, fun a ea => ⟨by rw [ea]; exact hb, ?_⟩⟩⟩⟩, fun c => ⟨i4, fun z ez => ⟨i4, fun t et a ea => ?_⟩⟩⟩⟩⟩
  · rw [if_pos c, if_pos d, if_pos c, if_pos d] at h
    subst ex; subst ey; subst ez; subst ea
    rw [pk_un (by decide)] at et
    subst et
    exact h
  · rw [if_pos c, if_neg d, if_pos c, if_neg d] at h
    subst ex; subst ey; subst ez; subst ea
    rw [pk_un (by decide)] at et
    subst et
    exact h
  · rw [if_neg c, if_neg c] at h
    subst ex; subst ey; subst ea; subst et
    rw [pk_un (by decide)] at ez
    subst ez
    exact h
theorem pre_lo {dd' : Nat → Int32} (H : pre mn g rg hq mf cd fg w dd bm rr kt) (h : mdlo dd dd') : pre mn g rg hq mf cd fg w dd' bm rr kt := by
  obtain ⟨⟨r1, r2, r3, r4, r5, r6, r7, r8, r9⟩, hn, e5, e9, e11, e12, e13⟩ := H
  refine ⟨⟨r1, r2, ?_, ?_, r5, r6, ?_, r8, r9⟩, hn, ?_, ?_, ?_, ?_, ?_⟩
  · rw [h 1 (by decide)]; exact r3
  · rw [h 2 (by decide)]; exact r4
  · rw [h 3 (by decide), h 4 (by decide), h 5 (by decide), h 6 (by decide), h 7 (by decide), h 8 (by decide)]; exact r7
  · rw [h 5 (by decide)]; exact e5
  · rw [h 9 (by decide)]; exact e9
  · rw [h 11 (by decide)]; exact e11
  · rw [h 12 (by decide)]; exact e12
  · rw [h 13 (by decide)]; exact e13
theorem pfx_mk (H : pre mn g rg hq mf cd fg w dd bm rr kt) (r : Int32) (U : Fr4 → Fr4 → CoT) (V : (Nat → Int32) → Int64 → Int64 → MdT)
    (hc : ∀ (L O : Fr4) (P : Int32 → CoT → Prop), P r (U L O) → wp_Pr_perform ms mn g rg hq mf cd fg L O w P)
    (hr : ∀ (dd : Nat → Int32) (l1 l2 : Int64), pre mn g rg hq mf cd fg w dd bm rr kt → ∀ L O : Fr4, oc mn r (U L O) (V dd l1 l2) ∧ ∀ Q : MdT → Prop, Q (V dd l1 l2) → wp_Md_operate ms dd l1 l2 bm rr kt (zz_ushr w 26) Q)
    (hu : ∀ L O L' O', U L' O' = ((U L O).1, (U L O).2.1, (U L O).2.2.1, (U L O).2.2.2.1, (U L O).2.2.2.2.1, (U L O).2.2.2.2.2.1, L', O'))
    (hs : ∀ (dd' : Nat → Int32) (l1 l2 l1' l2' : Int64), mdlo dd dd' → vsim (V dd l1 l2) (V dd' l1' l2'))
    (he : ¬ q_e r ∨ ∀ L O, (U L O).1 0 = g 0) (hz : ∀ dd l1 l2, (V dd l1 l2).1 0 = dd 0) : pfx ms mn g rg hq mf cd fg w dd bm rr kt := by
  have z : Fr4 := (0, 0, 0, 0)
  refine ⟨r, U z z, V dd 0 0, ⟨(hr dd 0 0 H z z).1, he.imp id (fun q => q z z), hz _ _ _⟩, fun L O P hP => hc L O P ?_, fun dd' l1 l2 hd Q hQ => (hr dd' l1 l2 (pre_lo H hd) z z).2 Q (hQ _ (hs dd' 0 0 l1 l2 hd))⟩
  have := hP L O
  rw [← hu z z L O] at this
  exact this
theorem q_e_pos {r : Int32} (h : q_e r) : ¬ r ≤ 0 := by
  rcases h with rfl | rfl | rfl | rfl | rfl | rfl | rfl | rfl <;> decide
/-- after a step, of the reference's scalars only these count -/
def vs9 (v v' : MdT) : Prop := (∀ j, j < 11 → j ≠ 9 → v'.1 j = v.1 j) ∧ v'.2.2.2.1 = v.2.2.2.1 ∧ v'.2.2.2.2.1 = v.2.2.2.2.1 ∧ v'.2.2.2.2.2 = v.2.2.2.2.2
theorem mv9 {dd dd' kt : Nat → Int32} (h : mdlo dd dd') : (∀ j, j < 11 → mvd dd' j = mvd dd j) ∧ mvk dd' kt = mvk dd kt := by
  have h4 := h 4 (by decide)
  have h10 := h 10 (by decide)
  have h11 := h 11 (by decide)
  have h12 := h 12 (by decide)
  have h13 := h 13 (by decide)
  unfold mvd mvk
  rw [h4, h10, h11, h12, h13]
  refine ⟨fun j hj => ?_, rfl⟩
  split
  · exact lo_upd (lo_upd (lo_upd h)) j (by omega)
  · exact lo_upd (lo_upd (lo_upd h)) j (by omega)
theorem vs9_st {u : CoT} {v v' : MdT} (h : q_st mn u v) (hv : vs9 v v') : q_st mn u v' := by
  obtain ⟨⟨r1, r2, r3, r4, r5, r6, r7, r8, r9⟩, hn⟩ := h
  obtain ⟨a1, a2, a3, a4⟩ := hv
  refine ⟨?_, hn⟩
  rw [a2, a3, a4]
  refine ⟨r1, r2, ?_, ?_, r5, r6, ?_, r8, r9⟩
  · rw [a1 1 (by decide) (by decide)]; exact r3
  · rw [a1 2 (by decide) (by decide)]; exact r4
  · rw [a1 3 (by decide) (by decide), a1 4 (by decide) (by decide), a1 5 (by decide) (by decide), a1 6 (by decide) (by decide), a1 7 (by decide) (by decide), a1 8 (by decide) (by decide)]; exact r7
end PRE
