/-! ===== pass and end ===== -/
section PASS
variable {ms : Int32} {mn S : Nat} {g rg hq mf : Nat → Int32} {cd : Int32} {fg : Nat → Int32} {L O : Fr4} {dd bm rr kt : Nat → Int32} {l1 l2 : Int64} {ov : Nat → Int64} {a0 a1 : Int32}
theorem upd_cm {f : Nat → Int32} {i j : Nat} {x y : Int32} (h : i ≠ j) : upd (upd f i x) j y = upd (upd f j y) i x := by
  funext k
  by_cases c : k = i
  · subst c; rw [pk_un h, pk_us, pk_us]
  · by_cases d : k = j
    · subst d; rw [pk_us, pk_un c, pk_us]
    · rw [pk_un d, pk_un c, pk_un c, pk_un d]
/-- the reference's scalars as it passes -/
def p_d (d : Nat → Int32) : Nat → Int32 := upd (upd (upd (upd (upd d 0 0) 5 0) 11 0) 12 0) 13 0
theorem p_mv (d : Nat → Int32) : mvd (p_d d) = upd (upd (upd (p_d d) 4 (d 4 + 4)) 3 (d 4)) 6 0 := by
  have e13 : p_d d 13 = 0 := pk_us
  have e12 : p_d d 12 = 0 := (pk_un (by decide)).trans pk_us
  have e11 : p_d d 11 = 0 := (pk_un (by decide)).trans ((pk_un (by decide)).trans pk_us)
  have e4 : p_d d 4 = d 4 := (pk_un (by decide)).trans ((pk_un (by decide)).trans ((pk_un (by decide)).trans ((pk_un (by decide)).trans (pk_un (by decide)))))
  unfold mvd
  rw [if_pos e13, if_pos e11, e12, e4]
theorem p_mk (d kt : Nat → Int32) : mvk (p_d d) kt = upd (upd kt 0 (kt 0 + 1)) 3 (kt 3 + 0) := by
  have e13 : p_d d 13 = 0 := pk_us
  have e11 : p_d d 11 = 0 := (pk_un (by decide)).trans ((pk_un (by decide)).trans pk_us)
  unfold mvk
  rw [if_pos e13, if_pos e11]
/-- the class as it passes -/
def p_g (g : Nat → Int32) : Nat → Int32 := upd (upd (upd (upd (upd g 0 (g 1)) 1 (g 1 + 4)) 2 0) 7 (g 7 + 1)) 5 0
theorem p_st (h : q_rel mn g rg hq mf cd fg dd bm rr kt) : q_st mn (p_g g, rg, hq, mf, cd, fg, L, O) (mvd (p_d dd), l1, l2, bm, rr, mvk (p_d dd) kt) := by
  have hr : q_rel mn (upd g 5 0) rg hq mf cd fg (p_d dd) bm rr kt := by
    obtain ⟨r1, r2, r3, r4, r5, r6, r7, r8, r9⟩ := h
    exact ⟨r1, r2, r3, r4, r5, r6, ⟨r7.1, r7.2.1, rfl, r7.2.2.2⟩, r8, r9⟩
  have e13 : p_d dd 13 = 0 := pk_us
  have e12 : p_d dd 12 = 0 := (pk_un (by decide)).trans pk_us
  have e11 : p_d dd 11 = 0 := (pk_un (by decide)).trans ((pk_un (by decide)).trans pk_us)
  have e5 : p_d dd 5 = 0 := (pk_un (by decide)).trans ((pk_un (by decide)).trans ((pk_un (by decide)).trans pk_us))
  have o := oc_0 (L := L) (O := O) (l1 := l1) (l2 := l2) hr e5 e11 e12 e13
  rcases o with ⟨o1, -⟩ | ⟨-, -, -, o4⟩ | ⟨o1, -⟩
  · exact absurd (Int32.le_refl 0) (q_e_pos o1)
  · have eg : upd (upd (upd (upd (upd g 5 0) 0 (g 1)) 1 (g 1 + 4)) 2 0) 7 (g 7 + 1) = p_g g := by
      unfold p_g
      rw [upd_cm (i := 7) (j := 5) (by decide), upd_cm (i := 2) (j := 5) (by decide), upd_cm (i := 1) (j := 5) (by decide), upd_cm (i := 0) (j := 5) (by decide)]
    have q1 : upd g 5 0 1 = g 1 := pk_un (by decide)
    have q7 : upd g 5 0 7 = g 7 := pk_un (by decide)
    dsimp only at o4
    rw [q1, q7, eg] at o4
    exact o4
  · exact absurd o1 (by decide)
theorem cal_pass (M : mem ms mn S) (h : q_ok S mn (g, rg, hq, mf, cd, fg, L, O) (dd, l1, l2, bm, rr, kt)) :
    cal S mn (dd, l1, l2, bm, rr, kt) (fun L O P => wp_La_pass ms mn g rg hq mf cd fg L O ov P) (fun v0 Q => wp_Md_pass ms v0.1 v0.2.1 v0.2.2.1 v0.2.2.2.1 v0.2.2.2.2.1 v0.2.2.2.2.2 Q) False := by
  obtain ⟨⟨hr, hn⟩, hb⟩ := h
  have e5 : dd 5 = g 5 := hr.2.2.2.2.2.2.1.2.2.1
  have e3 : dd 3 = g 0 := hr.2.2.2.2.2.2.1.1
  by_cases c : g 5 = 6 ∨ g 5 = 7
  · obtain ⟨a, ea, h1, h2⟩ := hb.1 c
    dsimp only at ea
    have p5 : p_g g 5 = 0 := pk_us
    refine ⟨0, (zz_ushr (q_word bm (a / 4)) 6) &&& 1048575, (p_g g, rg, hq, mf, cd, fg, L, O), (mvd (p_d dd), l1, l2, bm, rr, mvk (p_d dd) kt), vp_updL ov (0 : Int32).toNatClampNeg (p_g g 6).toInt64, ⟨⟨p_st hr, ⟨fun q => absurd q (by dsimp only; rw [p5]; decide), Or.inl p5⟩⟩, by dsimp only; rw [p_mv]; rfl, fun q => q.elim⟩, fun L O P hP => ?_, fun v0 h0 Q hQ => ?_⟩
    · have go : wp_Pr_stepOver ms mn g rg hq mf cd fg L O (fun u_2 => P 0 ((u_2.1, u_2.2.1, u_2.2.2.1, u_2.2.2.2.1, u_2.2.2.2.2.1, u_2.2.2.2.2.2.1, u_2.2.2.2.2.2.2.1, u_2.2.2.2.2.2.2.2), vp_updL ov (0 : Int32).toNatClampNeg (u_2.1 6).toInt64)) := by
        unfold wp_Pr_stepOver wp_Pr_move
        refine ⟨Or.inl rfl, fun x ex => ?_⟩
        have e7 : upd (upd (upd g 0 (g 1)) 1 (g 1 + 4)) 2 0 7 = g 7 := (pk_un (by decide)).trans ((pk_un (by decide)).trans (pk_un (by decide)))
        dsimp only at ex
        rw [e7] at ex
        subst ex
        exact hP L O
      unfold wp_La_pass wp_Co_pass
      by_cases d : g 5 = 6
      · exact bq_t d go
      · exact bq_f d (bq_t (c.resolve_left d) go)
    · obtain ⟨d0, m1, m2, b0, r0, k0⟩ := v0
      obtain ⟨z1, z2, z3, z4⟩ := h0
      dsimp only at z1 z2 z3 z4
      subst z2; subst z3; subst z4
      show wp_Md_pass ms d0 m1 m2 b0 r0 k0 Q
      have z5 : d0 5 = g 5 := (z1 5 (by decide) (by decide)).trans e5
      have z3 : d0 3 = nI a := ((z1 3 (by decide) (by decide)).trans e3).trans ea
      have z4 : d0 4 = dd 4 := z1 4 (by decide) (by decide)
      have go : wp_Md_part ms (upd d0 0 0) m1 m2 b0 r0 k0 (d0 3) 4 (fun r_2 => ∀ x_3 : Int32, x_3 = ((zz_ushr r_2 6) &&& 1048575) → wp_Md_moveOn ms (p_d d0) m1 m2 b0 r0 k0 (fun u_4 => Q x_3 (u_4.1, u_4.2.1, u_4.2.2.1, u_4.2.2.2.1, u_4.2.2.2.2.1, u_4.2.2.2.2.2))) := by
        rw [z3]
        refine md_part4 h1 h2 M.hS (fun x ex => ?_)
        subst ex
        have e12 : p_d d0 12 = 0 := (pk_un (by decide)).trans pk_us
        refine md_moveOn (Or.inl e12) (hQ _ ⟨?_, rfl, rfl, ?_⟩)
        · dsimp only
          rw [p_mv, p_mv, z4]
          unfold p_d
          exact s9 (s9 (s9 (s9 (s9 (s9 (s9 (s9 z1)))))))
        · dsimp only
          rw [p_mk, p_mk]
      unfold wp_Md_pass
      by_cases d : d0 5 = 6
      · exact bq_t d go
      · exact bq_f d (bq_t (by rw [z5] at d ⊢; exact c.resolve_left d) go)
  · refine ⟨1, 0, (g, rg, hq, mf, cd, fg, L, O), (upd (upd dd 0 0) 0 1, l1, l2, bm, rr, kt), ov, ⟨⟨⟨hr, hn⟩, hb⟩, rfl, fun q => q.elim⟩, fun L O P hP => ?_, fun v0 h0 Q hQ => ?_⟩
    · unfold wp_La_pass wp_Co_pass
      exact bq_f (fun q => c (Or.inl q)) (bq_f (fun q => c (Or.inr q)) ⟨rfl, hP L O⟩)
    · obtain ⟨d0, m1, m2, b0, r0, k0⟩ := v0
      obtain ⟨z1, z2, z3, z4⟩ := h0
      dsimp only at z1 z2 z3 z4
      subst z2; subst z3; subst z4
      show wp_Md_pass ms d0 m1 m2 b0 r0 k0 Q
      have z5 : d0 5 = g 5 := (z1 5 (by decide) (by decide)).trans e5
      unfold wp_Md_pass wp_Md_fail
      refine bq_f (fun q => c (Or.inl (z5 ▸ q))) (bq_f (fun q => c (Or.inr (z5 ▸ q))) (hQ _ ⟨s9 (s9 z1), rfl, rfl, rfl⟩))
/-- end: the class's answer, and the reference's -/
theorem cal_end (h : q_ok S mn (g, rg, hq, mf, cd, fg, L, O) (dd, l1, l2, bm, rr, kt)) :
    q_ok S mn (g, rg, hq, mf, cd, fg, L, O) (upd dd 0 0, l1, l2, bm, rr, kt) ∧ (∀ (L O : Fr4) (P : Int32 → Prop), P (g 5) → wp_Co_end ms mn g rg hq mf cd fg L O P) ∧ (∀ v0 : MdT, vs9 (dd, l1, l2, bm, rr, kt) v0 → ∀ Q : Int32 → MdT → Prop, (∀ v'', vs9 (upd dd 0 0, l1, l2, bm, rr, kt) v'' → Q (g 5) v'') → wp_Md_end ms v0.1 v0.2.1 v0.2.2.1 v0.2.2.2.1 v0.2.2.2.2.1 v0.2.2.2.2.2 Q) := by
  obtain ⟨⟨hr, hn⟩, hb⟩ := h
  have e5 : dd 5 = g 5 := hr.2.2.2.2.2.2.1.2.2.1
  refine ⟨⟨⟨hr, hn⟩, hb⟩, fun L O P hP => hP, fun v0 h0 Q hQ => ?_⟩
  obtain ⟨d0, m1, m2, b0, r0, k0⟩ := v0
  obtain ⟨z1, z2, z3, z4⟩ := h0
  dsimp only at z1 z2 z3 z4
  subst z2; subst z3; subst z4
  have z5 : d0 5 = g 5 := (z1 5 (by decide) (by decide)).trans e5
  unfold wp_Md_end
  dsimp only
  rw [z5]
  exact hQ _ ⟨s9 z1, rfl, rfl, rfl⟩
end PASS
