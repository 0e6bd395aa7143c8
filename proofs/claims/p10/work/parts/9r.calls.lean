/-! ===== each call of both ===== -/
section CALLS
variable {ms : Int32} {mn S : Nat} {g rg hq mf : Nat → Int32} {cd : Int32} {fg : Nat → Int32} {L O : Fr4} {dd bm rr kt : Nat → Int32} {l1 l2 : Int64} {ov : Nat → Int64} {a0 a1 : Int32}
abbrev ClT : Type := Fr4 → Fr4 → (Int32 → (CoT × (Nat → Int64)) → Prop) → Prop
abbrev RfT : Type := MdT → (Int32 → MdT → Prop) → Prop
/-- what a call comes to on both sides: k tells a refusal, b is the reference's answer; e: whether the answers are one -/
def cal (S mn : Nat) (v : MdT) (cls : ClT) (ref : RfT) (e : Prop) : Prop :=
  ∃ (k b : Int32) (u' : CoT) (v' : MdT) (ov' : Nat → Int64), (q_ok S mn u' v' ∧ v'.1 0 = k ∧ (e → k = 0 → ov' 0 = b.toInt64)) ∧ (∀ (L O : Fr4) (P : Int32 → (CoT × (Nat → Int64)) → Prop), (∀ L' O', P k ((u'.1, u'.2.1, u'.2.2.1, u'.2.2.2.1, u'.2.2.2.2.1, u'.2.2.2.2.2.1, L', O'), ov')) → cls L O P) ∧ (∀ v0 : MdT, vs9 v v0 → ∀ Q : Int32 → MdT → Prop, (∀ v'', vs9 v' v'' → Q b v'') → ref v0 Q)
theorem ov_0 (x : Int64) : vp_updL ov (0 : Int32).toNatClampNeg x 0 = x := by rw [show (0 : Int32).toNatClampNeg = 0 by decide]; exact pk_uLs
/-- the scalars after an upd -/
theorem s9 {d d0 : Nat → Int32} {k : Nat} {x : Int32} (h : ∀ j, j < 11 → j ≠ 9 → d0 j = d j) : ∀ j, j < 11 → j ≠ 9 → upd d0 k x j = upd d k x j := by
  intro j hj h9
  by_cases c : j = k
  · subst c; rw [pk_us, pk_us]
  · rw [pk_un c, pk_un c]; exact h j hj h9
theorem cal_put (M : mem ms mn S) (h : q_ok S mn (g, rg, hq, mf, cd, fg, L, O) (dd, l1, l2, bm, rr, kt)) :
    cal S mn (dd, l1, l2, bm, rr, kt) (fun L O P => wp_La_put ms mn g rg hq mf cd fg L O ov a0 a1 P) (fun v0 Q => wp_Md_put_III ms v0.1 v0.2.1 v0.2.2.1 v0.2.2.2.1 v0.2.2.2.2.1 v0.2.2.2.2.2 a0 a1 Q) True := by
  obtain ⟨⟨hr, hn⟩, hb⟩ := h
  by_cases c : q_gd S 4 a0
  · obtain ⟨a, ea, h1, h2⟩ := id c
    have hm := M.m8
    have hmn := M.hmn
    have hw : mf (a / 4) = q_word bm (a / 4) := hr.2.2.2.2.2.2.2.2 _ (by omega)
    refine ⟨0, q_word bm (a / 4), (g, rg, hq, upd mf (a / 4) (q_word (stb bm a 4 a1) (a / 4)), cd, fg, L, O), (upd dd 0 0, l1, l2, stb bm a 4 a1, rr, kt), vp_updL ov (0 : Int32).toNatClampNeg (q_word bm (a / 4)).toInt64, ⟨⟨⟨q_mem (dd := upd dd 0 0) hr (stb_k (Or.inr (Or.inr rfl)) h2), hn⟩, hb⟩, rfl, fun _ _ => ov_0 _⟩, fun L O P hP => ?_, fun v0 h0 Q hQ => ?_⟩
    · unfold wp_La_put wp_Co_put
      refine me_gd (k := 4) M (Or.inr (Or.inr (Or.inl rfl))) (fun _ => ?_) (fun q => absurd c q)
      refine bq_f (by decide) ?_
      rw [ea]
      refine me_rd (k := 4) (Or.inr (Or.inr rfl)) M.hS hmn h1 h2 (by omega) hw ?_
      rw [rd4_e]
      exact me_wrt (k := 4) (Or.inr (Or.inr rfl)) M.hS hmn h1 h2 (by omega) hw (hP L O)
    · obtain ⟨d0, m1, m2, b0, r0, k0⟩ := v0
      obtain ⟨z1, z2, z3, z4⟩ := h0
      dsimp only at z1 z2 z3 z4
      subst z2; subst z3; subst z4
      unfold wp_Md_put_III
      refine md_gd (k := 4) M (Or.inr (Or.inr (Or.inl rfl))) (fun _ => ?_) (fun q => absurd c q)
      refine bq_f (by decide) ?_
      rw [ea]
      refine md_part (k := 4) (Or.inr (Or.inr rfl)) M.hS h1 h2 ?_
      rw [rd4_e]
      exact md_store (k := 4) (Or.inr (Or.inr rfl)) M.hS h1 (hQ _ ⟨s9 z1, rfl, rfl, rfl⟩)
  · refine ⟨1, 0, (g, rg, hq, mf, cd, fg, L, O), (upd (upd dd 0 0) 0 1, l1, l2, bm, rr, kt), ov, ⟨⟨⟨hr, hn⟩, hb⟩, rfl, fun _ q => absurd q (by decide)⟩, fun L O P hP => ?_, fun v0 h0 Q hQ => ?_⟩
    · unfold wp_La_put wp_Co_put
      refine me_gd (k := 4) M (Or.inr (Or.inr (Or.inl rfl))) (fun q => absurd q c) (fun _ => ?_)
      exact bq_t rfl ⟨rfl, hP L O⟩
    · obtain ⟨d0, m1, m2, b0, r0, k0⟩ := v0
      obtain ⟨z1, z2, z3, z4⟩ := h0
      dsimp only at z1 z2 z3 z4
      subst z2; subst z3; subst z4
      unfold wp_Md_put_III wp_Md_fail
      refine md_gd (k := 4) M (Or.inr (Or.inr (Or.inl rfl))) (fun q => absurd q c) (fun _ => ?_)
      exact bq_t rfl (hQ _ ⟨s9 (s9 z1), rfl, rfl, rfl⟩)
theorem cal_word (M : mem ms mn S) (h : q_ok S mn (g, rg, hq, mf, cd, fg, L, O) (dd, l1, l2, bm, rr, kt)) :
    cal S mn (dd, l1, l2, bm, rr, kt) (fun L O P => wp_La_word ms mn g rg hq mf cd fg L O ov a0 P) (fun v0 Q => wp_Md_word ms v0.1 v0.2.1 v0.2.2.1 v0.2.2.2.1 v0.2.2.2.2.1 v0.2.2.2.2.2 a0 Q) True := by
  obtain ⟨⟨hr, hn⟩, hb⟩ := h
  by_cases c : q_gd S 4 a0
  · obtain ⟨a, ea, h1, h2⟩ := id c
    have hm := M.m8
    have hmn := M.hmn
    have hw : mf (a / 4) = q_word bm (a / 4) := hr.2.2.2.2.2.2.2.2 _ (by omega)
    refine ⟨0, q_word bm (a / 4), (g, rg, hq, mf, cd, fg, L, O), (upd dd 0 0, l1, l2, bm, rr, kt), vp_updL ov (0 : Int32).toNatClampNeg (q_word bm (a / 4)).toInt64, ⟨⟨⟨hr, hn⟩, hb⟩, rfl, fun _ _ => ov_0 _⟩, fun L O P hP => ?_, fun v0 h0 Q hQ => ?_⟩
    · unfold wp_La_word wp_Co_word
      refine me_gd (k := 4) M (Or.inr (Or.inr (Or.inl rfl))) (fun _ => ?_) (fun q => absurd c q)
      refine bq_f (by decide) ?_
      rw [ea]
      refine me_rd (k := 4) (Or.inr (Or.inr rfl)) M.hS hmn h1 h2 (by omega) hw ?_
      rw [rd4_e]
      exact hP L O
    · obtain ⟨d0, m1, m2, b0, r0, k0⟩ := v0
      obtain ⟨z1, z2, z3, z4⟩ := h0
      dsimp only at z1 z2 z3 z4
      subst z2; subst z3; subst z4
      unfold wp_Md_word
      refine md_gd (k := 4) M (Or.inr (Or.inr (Or.inl rfl))) (fun _ => ?_) (fun q => absurd c q)
      refine bq_f (by decide) ?_
      rw [ea]
      refine md_part (k := 4) (Or.inr (Or.inr rfl)) M.hS h1 h2 ?_
      rw [rd4_e]
      exact hQ _ ⟨s9 z1, rfl, rfl, rfl⟩
  · refine ⟨1, 0, (g, rg, hq, mf, cd, fg, L, O), (upd (upd dd 0 0) 0 1, l1, l2, bm, rr, kt), ov, ⟨⟨⟨hr, hn⟩, hb⟩, rfl, fun _ q => absurd q (by decide)⟩, fun L O P hP => ?_, fun v0 h0 Q hQ => ?_⟩
    · unfold wp_La_word wp_Co_word
      refine me_gd (k := 4) M (Or.inr (Or.inr (Or.inl rfl))) (fun q => absurd q c) (fun _ => ?_)
      exact bq_t rfl ⟨rfl, hP L O⟩
    · obtain ⟨d0, m1, m2, b0, r0, k0⟩ := v0
      obtain ⟨z1, z2, z3, z4⟩ := h0
      dsimp only at z1 z2 z3 z4
      subst z2; subst z3; subst z4
      unfold wp_Md_word wp_Md_fail
      refine md_gd (k := 4) M (Or.inr (Or.inr (Or.inl rfl))) (fun q => absurd q c) (fun _ => ?_)
      exact bq_t rfl (hQ _ ⟨s9 (s9 z1), rfl, rfl, rfl⟩)
theorem cal_go (h : q_ok S mn (g, rg, hq, mf, cd, fg, L, O) (dd, l1, l2, bm, rr, kt)) :
    cal S mn (dd, l1, l2, bm, rr, kt) (fun L O P => wp_La_go ms mn g rg hq mf cd fg L O ov a0 P) (fun v0 Q => wp_Md_go ms v0.1 v0.2.1 v0.2.2.1 v0.2.2.2.1 v0.2.2.2.2.1 v0.2.2.2.2.2 a0 Q) True := by
  obtain ⟨⟨hr, hn⟩, hb⟩ := h
  by_cases c : a0 &&& 3 = 0
  · refine ⟨0, g 0, (upd (upd (upd (upd (upd g 0 a0) 1 (a0 + 4)) 2 0) 3 0) 5 0, rg, hq, mf, cd, fg, L, O), (upd (upd (upd (upd (upd (upd dd 0 0) 3 a0) 4 (a0 + 4)) 6 0) 7 0) 5 0, l1, l2, bm, rr, kt), vp_updL ov (0 : Int32).toNatClampNeg (g 0).toInt64, ⟨⟨⟨q_rel_go hr, fun _ => rfl⟩, ⟨fun q => q.elim (fun z => absurd (show (0 : Int32) = 6 from z) (by decide)) (fun z => absurd (show (0 : Int32) = 7 from z) (by decide)), Or.inl rfl⟩⟩, rfl, fun _ _ => ov_0 _⟩, fun L O P hP => co_go (fun _ => hP L O) (fun q => absurd c q), fun v0 h0 Q hQ => ?_⟩
    obtain ⟨d0, m1, m2, b0, r0, k0⟩ := v0
    obtain ⟨z1, z2, z3, z4⟩ := h0
    dsimp only at z1 z2 z3 z4
    subst z2; subst z3; subst z4
    show wp_Md_go ms d0 m1 m2 b0 r0 k0 a0 Q
    refine md_go (fun _ => ?_) (fun q => absurd c q)
    have e3 : d0 3 = g 0 := by rw [z1 3 (by decide) (by decide)]; exact hr.2.2.2.2.2.2.1.1
    rw [e3]
    exact hQ _ ⟨s9 (s9 (s9 (s9 (s9 (s9 z1))))), rfl, rfl, rfl⟩
  · refine ⟨1, 0, (g, rg, hq, mf, cd, fg, L, O), (upd (upd dd 0 0) 0 1, l1, l2, bm, rr, kt), ov, ⟨⟨⟨hr, hn⟩, hb⟩, rfl, fun _ q => absurd q (by decide)⟩, fun L O P hP => co_go (fun q => absurd q c) (fun _ => hP L O), fun v0 h0 Q hQ => ?_⟩
    obtain ⟨d0, m1, m2, b0, r0, k0⟩ := v0
    obtain ⟨z1, z2, z3, z4⟩ := h0
    dsimp only at z1 z2 z3 z4
    subst z2; subst z3; subst z4
    show wp_Md_go ms d0 m1 m2 b0 r0 k0 a0 Q
    exact md_go (fun q => absurd q c) (fun _ => hQ _ ⟨s9 (s9 z1), rfl, rfl, rfl⟩)
theorem q_rel_set {j : Nat} (hj : j ≤ 66) (h : q_rel mn g rg hq mf cd fg dd bm rr kt) : q_rel mn g (s_rg rg j a1) (s_hq hq j a1) mf (s_cd cd j a1) (s_fg fg j a1) (t_dd dd j) bm (t_rr rr j a1) kt := by
  unfold s_rg s_hq s_cd s_fg t_dd t_rr
  by_cases c0 : j = 0
  · subst c0; exact h
  by_cases c1 : j < 32
  · rw [if_neg c0, if_pos c1, if_neg (by omega : ¬ j = 32), if_neg (by omega : ¬ j = 33), if_neg (by omega : ¬ j = 66), if_neg (by omega : ¬ (34 ≤ j ∧ j < 66)), if_neg (by omega : ¬ j = 32), if_neg (by omega : ¬ j = 33), if_neg c0, if_neg (by omega : ¬ j = 66)]
    obtain ⟨r1, r2, r3, r4, r5, r6, r7, r8, r9⟩ := h
    refine ⟨fun i hi => ?_, ?_, ?_, ?_, fun i hi => ?_, ?_, r7, r8, r9⟩
    · by_cases d : i = j
      · subst d; rw [pk_us, pk_us]
      · rw [pk_un d, pk_un d]; exact r1 i hi
    · rw [pk_un (fun q => c0 q.symm)]; exact r2
    · rw [pk_un (by omega)]; exact r3
    · rw [pk_un (by omega)]; exact r4
    · rw [pk_un (by omega)]; exact r5 i hi
    · rw [pk_un (by omega)]; exact r6
  by_cases c2 : j = 32
  · subst c2; exact q_hi h
  by_cases c3 : j = 33
  · subst c3; exact q_lo h
  by_cases c4 : j = 66
  · subst c4
    obtain ⟨r1, r2, r3, r4, r5, r6, r7, r8, r9⟩ := h
    refine ⟨fun i hi => ?_, r2, r3, r4, fun i hi => ?_, ⟨?_, ?_⟩, r7, r8, r9⟩
    · show upd rr 66 (a1 &&& 255) i = _
      rw [pk_un (by omega)]; exact r1 i hi
    · show upd rr 66 (a1 &&& 255) (34 + i) = _
      rw [pk_un (by omega)]; exact r5 i hi
    · rfl
    · show a1 &&& 255 &&& 255 = a1 &&& 255
      rw [Int32.and_assoc]; rfl
  · rw [if_neg c0, if_neg c1, if_neg c2, if_neg c3, if_neg c4, if_pos (by omega : 34 ≤ j ∧ j < 66), if_neg c2, if_neg c3, if_neg c0, if_neg c4]
    have := q_fg (j := j - 34) (v := a1) (by omega) h
    rw [show 34 + (j - 34) = j by omega] at this
    exact this
theorem s9t {d d0 : Nat → Int32} {j : Nat} (h : ∀ i, i < 11 → i ≠ 9 → d0 i = d i) : ∀ i, i < 11 → i ≠ 9 → t_dd d0 j i = t_dd d j i := by
  unfold t_dd
  split
  · exact s9 h
  · split
    · exact s9 h
    · exact h
theorem cal_set (h : q_ok S mn (g, rg, hq, mf, cd, fg, L, O) (dd, l1, l2, bm, rr, kt)) :
    cal S mn (dd, l1, l2, bm, rr, kt) (fun L O P => wp_La_set ms mn g rg hq mf cd fg L O ov a0 a1 P) (fun v0 Q => wp_Md_set ms v0.1 v0.2.1 v0.2.2.1 v0.2.2.2.1 v0.2.2.2.2.1 v0.2.2.2.2.2 a0 a1 Q) True := by
  obtain ⟨⟨hr, hn⟩, hb⟩ := h
  by_cases c : a0 < 0 ∨ ¬ a0 ≤ 66
  · have no : ∀ j : Nat, j ≤ 66 → ¬ a0 = nI j := lt_out c
    refine ⟨1, 0, (g, rg, hq, mf, cd, fg, L, O), (upd (upd dd 0 0) 0 1, l1, l2, bm, rr, kt), ov, ⟨⟨⟨hr, hn⟩, hb⟩, rfl, fun _ q => absurd q (by decide)⟩, fun L O P hP => co_set (fun _ => hP L O) (fun j hj e => absurd e (no j hj)), fun v0 h0 Q hQ => ?_⟩
    obtain ⟨d0, m1, m2, b0, r0, k0⟩ := v0
    obtain ⟨z1, z2, z3, z4⟩ := h0
    dsimp only at z1 z2 z3 z4
    subst z2; subst z3; subst z4
    show wp_Md_set ms d0 m1 m2 b0 r0 k0 a0 a1 Q
    exact md_set (fun _ => hQ _ ⟨s9 (s9 z1), rfl, rfl, rfl⟩) (fun j hj e => absurd e (no j hj))
  · obtain ⟨j, hj, ej⟩ : ∃ j : Nat, j ≤ 66 ∧ a0 = nI j := nI_of2 (M := 66) (n := 66) (by decide) (fun q => c (Or.inl q)) (Classical.not_not.mp (fun q => c (Or.inr q)))
    have uq : ∀ i : Nat, i ≤ 66 → a0 = nI i → i = j := fun i hi e => (nI_eq (by omega) (by omega)).mp (e.symm.trans ej)
    have e1 : dd 1 = hq 2 := hr.2.2.1.2.1
    have e2 : dd 2 = hq 3 := hr.2.2.2.1.2.1
    have eb : (if j = 32 ∧ dd 1 = 0 ∨ j = 33 ∧ dd 2 = 0 then (0 : Int32) else rr j) = c_hv rg hq cd fg j := by
      by_cases z : j = 32 ∧ hq 2 = 0 ∨ j = 33 ∧ hq 3 = 0
      · rw [e1, e2, if_pos z]
        unfold c_hv
        rcases z with ⟨rfl, z⟩ | ⟨rfl, z⟩
        · rw [if_neg (by decide), if_pos rfl]; exact (hr.2.2.1.2.2.1 z).symm
        · rw [if_neg (by decide), if_neg (by decide), if_pos rfl]; exact (hr.2.2.2.1.2.2.1 z).symm
      · rw [e1, e2, if_neg z]; exact q_rel_hv hr hj z
    have t0 : t_dd (upd dd 0 0) j 0 = 0 := by unfold t_dd; split; · rfl
                                              · split <;> rfl
    refine ⟨0, c_hv rg hq cd fg j, (g, s_rg rg j a1, s_hq hq j a1, mf, s_cd cd j a1, s_fg fg j a1, L, O), (t_dd (upd dd 0 0) j, l1, l2, bm, t_rr rr j a1, kt), vp_updL ov (0 : Int32).toNatClampNeg (c_hv rg hq cd fg j).toInt64, ⟨⟨⟨q_rel_set (dd := upd dd 0 0) hj hr, hn⟩, hb⟩, t0, fun _ _ => ov_0 _⟩, fun L O P hP => co_set (fun q => absurd q c) (fun i hi e => ?_), fun v0 h0 Q hQ => ?_⟩
    · rw [uq i hi e]; exact hP L O
    · obtain ⟨d0, m1, m2, b0, r0, k0⟩ := v0
      obtain ⟨z1, z2, z3, z4⟩ := h0
      dsimp only at z1 z2 z3 z4
      subst z2; subst z3; subst z4
      show wp_Md_set ms d0 m1 m2 b0 r0 k0 a0 a1 Q
      refine md_set (fun q => absurd q c) (fun i hi e => ?_)
      rw [uq i hi e, z1 1 (by decide) (by decide), z1 2 (by decide) (by decide), eb]
      exact hQ _ ⟨s9t (s9 z1), rfl, rfl, rfl⟩
theorem cal_get (h : q_ok S mn (g, rg, hq, mf, cd, fg, L, O) (dd, l1, l2, bm, rr, kt)) :
    cal S mn (dd, l1, l2, bm, rr, kt) (fun L O P => wp_La_get ms mn g rg hq mf cd fg L O ov a0 P) (fun v0 Q => wp_Md_get ms v0.1 v0.2.1 v0.2.2.1 v0.2.2.2.1 v0.2.2.2.2.1 v0.2.2.2.2.2 a0 Q) True := by
  obtain ⟨⟨hr, hn⟩, hb⟩ := h
  by_cases c : a0 < 0 ∨ ¬ a0 ≤ 66
  · have no : ∀ j : Nat, j ≤ 66 → ¬ a0 = nI j := lt_out c
    refine ⟨1, 0, (g, rg, hq, mf, cd, fg, L, O), (upd (upd dd 0 0) 0 1, l1, l2, bm, rr, kt), ov, ⟨⟨⟨hr, hn⟩, hb⟩, rfl, fun _ q => absurd q (by decide)⟩, fun L O P hP => co_get (fun _ => hP L O) (fun j hj e _ => absurd e (no j hj)) (fun j hj e _ => absurd e (no j hj)), fun v0 h0 Q hQ => ?_⟩
    obtain ⟨d0, m1, m2, b0, r0, k0⟩ := v0
    obtain ⟨z1, z2, z3, z4⟩ := h0
    dsimp only at z1 z2 z3 z4
    subst z2; subst z3; subst z4
    show wp_Md_get ms d0 m1 m2 b0 r0 k0 a0 Q
    exact md_get (fun _ => hQ _ ⟨s9 (s9 z1), rfl, rfl, rfl⟩) (fun j hj e _ => absurd e (no j hj)) (fun j hj e _ => absurd e (no j hj))
  · obtain ⟨j, hj, ej⟩ : ∃ j : Nat, j ≤ 66 ∧ a0 = nI j := nI_of2 (M := 66) (n := 66) (by decide) (fun q => c (Or.inl q)) (Classical.not_not.mp (fun q => c (Or.inr q)))
    have uq : ∀ i : Nat, i ≤ 66 → a0 = nI i → i = j := fun i hi e => (nI_eq (by omega) (by omega)).mp (e.symm.trans ej)
    have e1 : dd 1 = hq 2 := hr.2.2.1.2.1
    have e2 : dd 2 = hq 3 := hr.2.2.2.1.2.1
    by_cases z : j = 32 ∧ hq 2 = 0 ∨ j = 33 ∧ hq 3 = 0
    · refine ⟨2, 0, (g, rg, hq, mf, cd, fg, L, O), (upd (upd dd 0 0) 0 2, l1, l2, bm, rr, kt), ov, ⟨⟨⟨hr, hn⟩, hb⟩, rfl, fun _ q => absurd q (by decide)⟩, fun L O P hP => co_get (fun q => absurd q c) (fun _ _ _ _ => hP L O) (fun i hi e q => absurd (by rw [uq i hi e]; exact z) q), fun v0 h0 Q hQ => ?_⟩
      obtain ⟨d0, m1, m2, b0, r0, k0⟩ := v0
      obtain ⟨z1, z2, z3, z4⟩ := h0
      dsimp only at z1 z2 z3 z4
      subst z2; subst z3; subst z4
      show wp_Md_get ms d0 m1 m2 b0 r0 k0 a0 Q
      refine md_get (fun q => absurd q c) (fun _ _ _ _ => hQ _ ⟨s9 (s9 z1), rfl, rfl, rfl⟩) (fun i hi e q => absurd ?_ q)
      rw [uq i hi e, z1 1 (by decide) (by decide), z1 2 (by decide) (by decide), e1, e2]; exact z
    · refine ⟨0, c_hv rg hq cd fg j, (g, rg, hq, mf, cd, fg, L, O), (upd dd 0 0, l1, l2, bm, rr, kt), vp_updL ov (0 : Int32).toNatClampNeg (c_hv rg hq cd fg j).toInt64, ⟨⟨⟨hr, hn⟩, hb⟩, rfl, fun _ _ => ov_0 _⟩, fun L O P hP => co_get (fun q => absurd q c) (fun i hi e q => absurd (by rw [uq i hi e] at q; exact q) z) (fun i hi e _ => by rw [uq i hi e]; exact hP L O), fun v0 h0 Q hQ => ?_⟩
      obtain ⟨d0, m1, m2, b0, r0, k0⟩ := v0
      obtain ⟨z1, z2, z3, z4⟩ := h0
      dsimp only at z1 z2 z3 z4
      subst z2; subst z3; subst z4
      show wp_Md_get ms d0 m1 m2 b0 r0 k0 a0 Q
      refine md_get (fun q => absurd q c) (fun i hi e q => absurd ?_ z) (fun i hi e _ => ?_)
      · rw [uq i hi e, z1 1 (by decide) (by decide), z1 2 (by decide) (by decide), e1, e2] at q; exact q
      · have ev : r0 j = c_hv rg hq cd fg j := q_rel_hv hr hj z
        rw [uq i hi e, ev]
        exact hQ _ ⟨s9 z1, rfl, rfl, rfl⟩
theorem cal_state (h : q_ok S mn (g, rg, hq, mf, cd, fg, L, O) (dd, l1, l2, bm, rr, kt)) :
    cal S mn (dd, l1, l2, bm, rr, kt) (fun L O P => wp_La_state ms mn g rg hq mf cd fg L O ov a0 P) (fun v0 Q => wp_Md_state ms v0.1 v0.2.1 v0.2.2.1 v0.2.2.2.1 v0.2.2.2.2.1 v0.2.2.2.2.2 a0 Q) True := by
  obtain ⟨⟨hr, hn⟩, hb⟩ := h
  have r7 := hr.2.2.2.2.2.2.1
  have r8 := hr.2.2.2.2.2.2.2.1
  by_cases c : c_in a0
  · refine ⟨0, c_sv g a0, (g, rg, hq, mf, cd, fg, L, O), (upd dd 0 0, l1, l2, bm, rr, kt), vp_updL ov (0 : Int32).toNatClampNeg (c_sv g a0).toInt64, ⟨⟨⟨hr, hn⟩, hb⟩, rfl, fun _ _ => ov_0 _⟩, fun L O P hP => co_state (fun _ => hP L O) (fun q => absurd c q), fun v0 h0 Q hQ => ?_⟩
    obtain ⟨d0, m1, m2, b0, r0, k0⟩ := v0
    obtain ⟨z1, z2, z3, z4⟩ := h0
    dsimp only at z1 z2 z3 z4
    subst z2; subst z3; subst z4
    show wp_Md_state ms d0 m1 m2 b0 r0 k0 a0 Q
    refine md_state (g := g) ⟨?_, ?_, ?_, r8.1, r8.2.1, r8.2.2.1, r8.2.2.2.1, r8.2.2.2.2⟩ (fun _ => hQ _ ⟨s9 z1, rfl, rfl, rfl⟩) (fun q => absurd c q)
    · rw [z1 3 (by decide) (by decide)]; exact r7.1
    · rw [z1 4 (by decide) (by decide)]; exact r7.2.1
    · rw [z1 6 (by decide) (by decide)]; exact r7.2.2.2.1
  · refine ⟨1, 0, (g, rg, hq, mf, cd, fg, L, O), (upd (upd dd 0 0) 0 1, l1, l2, bm, rr, kt), ov, ⟨⟨⟨hr, hn⟩, hb⟩, rfl, fun _ q => absurd q (by decide)⟩, fun L O P hP => co_state (fun q => absurd q c) (fun _ => hP L O), fun v0 h0 Q hQ => ?_⟩
    obtain ⟨d0, m1, m2, b0, r0, k0⟩ := v0
    obtain ⟨z1, z2, z3, z4⟩ := h0
    dsimp only at z1 z2 z3 z4
    subst z2; subst z3; subst z4
    show wp_Md_state ms d0 m1 m2 b0 r0 k0 a0 Q
    refine md_state (g := g) ⟨?_, ?_, ?_, r8.1, r8.2.1, r8.2.2.1, r8.2.2.2.1, r8.2.2.2.2⟩ (fun q => absurd q c) (fun _ => hQ _ ⟨s9 (s9 z1), rfl, rfl, rfl⟩)
    · rw [z1 3 (by decide) (by decide)]; exact r7.1
    · rw [z1 4 (by decide) (by decide)]; exact r7.2.1
    · rw [z1 6 (by decide) (by decide)]; exact r7.2.2.2.1
theorem cal_run (M : mem ms mn S) (h : q_ok S mn (g, rg, hq, mf, cd, fg, L, O) (dd, l1, l2, bm, rr, kt)) :
    cal S mn (dd, l1, l2, bm, rr, kt) (fun L O P => wp_La_run ms mn g rg hq mf cd fg L O ov a0 P) (fun v0 Q => wp_Md_run ms v0.1 v0.2.1 v0.2.2.1 v0.2.2.2.1 v0.2.2.2.2.1 v0.2.2.2.2.2 a0 Q) True := by
  have e5 : dd 5 = g 5 := h.1.1.2.2.2.2.2.2.1.2.2.1
  have bad : ∀ k : Int32, ¬ k = 0 → (∀ (L O : Fr4) (P : Int32 → (CoT × (Nat → Int64)) → Prop), P k ((g, rg, hq, mf, cd, fg, L, O), ov) → wp_La_run ms mn g rg hq mf cd fg L O ov a0 P) → (∀ (d0 : Nat → Int32) (m1 m2 : Int64), (∀ j, j < 11 → j ≠ 9 → d0 j = dd j) → ∀ Q : Int32 → MdT → Prop, Q 0 (upd (upd d0 0 0) 0 k, m1, m2, bm, rr, kt) → wp_Md_run ms d0 m1 m2 bm rr kt a0 Q) → cal S mn (dd, l1, l2, bm, rr, kt) (fun L O P => wp_La_run ms mn g rg hq mf cd fg L O ov a0 P) (fun v0 Q => wp_Md_run ms v0.1 v0.2.1 v0.2.2.1 v0.2.2.2.1 v0.2.2.2.2.1 v0.2.2.2.2.2 a0 Q) True := by
    intro k hk hc hm
    refine ⟨k, 0, (g, rg, hq, mf, cd, fg, L, O), (upd (upd dd 0 0) 0 k, l1, l2, bm, rr, kt), ov, ⟨h, rfl, fun _ q => absurd q hk⟩, fun L O P hP => hc L O P (hP L O), fun v0 h0 Q hQ => ?_⟩
    obtain ⟨d0, m1, m2, b0, r0, k0⟩ := v0
    obtain ⟨z1, z2, z3, z4⟩ := h0
    dsimp only at z1 z2 z3 z4
    subst z2; subst z3; subst z4
    exact hm d0 m1 m2 z1 Q (hQ _ ⟨s9 (s9 z1), rfl, rfl, rfl⟩)
  by_cases c1 : a0 < 1
  · refine bad 1 (by decide) (fun L O P hP => ?_) (fun d0 m1 m2 z1 Q hQ => ?_)
    · unfold wp_La_run wp_Co_run
      exact bq_t c1 (Or.inl ⟨rfl, hP⟩)
    · unfold wp_Md_run wp_Md_fail
      exact bq_t c1 hQ
  by_cases c2 : a0 ≤ 10000
  · by_cases c3 : g 5 = 0
    · have hnn : ¬ a0 < 0 := fun q => c1 (Int32.lt_trans q (by decide))
      obtain ⟨N, hN, eN⟩ := nI_of2 (x := a0) (M := 10000) (n := 10000) (by decide) hnn c2
      obtain ⟨c, u', v', ⟨k2, t2⟩, k3, k4⟩ := run_rel M hN N 0 (g, rg, hq, mf, cd, fg, L, O) (upd dd 0 0, l1, l2, bm, rr, kt) (by omega) h c3
      refine ⟨0, c, u', v', vp_updL ov (0 : Int32).toNatClampNeg c.toInt64, ⟨k2, t2, fun _ _ => ov_0 _⟩, fun L O P hP => ?_, fun v0 h0 Q hQ => ?_⟩
      · unfold wp_La_run wp_Co_run
        refine bq_f c1 (bq_t c2 (bq_t c3 ⟨N + 1, ?_⟩))
        rw [eN]
        exact k3 L O _ (fun L' O' => hP L' O')
      · obtain ⟨d0, m1, m2, b0, r0, k0⟩ := v0
        obtain ⟨z1, z2, z3, z4⟩ := h0
        dsimp only at z1 z2 z3 z4
        subst z2; subst z3; subst z4
        unfold wp_Md_run
        have f5 : d0 5 ≤ 0 := by rw [z1 5 (by decide) (by decide), e5, c3]; decide
        refine bq_f c1 (bq_t c2 (bq_t f5 ⟨N + 2, ?_⟩))
        rw [eN]
        exact k4 (upd d0 0 0, m1, m2, b0, r0, k0) ⟨s9 z1, rfl, rfl, rfl⟩ Q hQ
    · refine bad 2 (by decide) (fun L O P hP => ?_) (fun d0 m1 m2 z1 Q hQ => ?_)
      · unfold wp_La_run wp_Co_run
        exact bq_f c1 (bq_t c2 (bq_f c3 (Or.inr ⟨rfl, hP⟩)))
      · unfold wp_Md_run wp_Md_fail
        have n5 : ¬ d0 5 ≤ 0 := by
          rw [z1 5 (by decide) (by decide), e5]
          exact h.2.2.elim (fun q => absurd q c3) q_e_pos
        exact bq_f c1 (bq_t c2 (bq_f n5 hQ))
  · refine bad 1 (by decide) (fun L O P hP => ?_) (fun d0 m1 m2 z1 Q hQ => ?_)
    · unfold wp_La_run wp_Co_run
      exact bq_f c1 (bq_f c2 (Or.inl ⟨rfl, hP⟩))
    · unfold wp_Md_run wp_Md_fail
      exact bq_f c1 (bq_f c2 hQ)
end CALLS
