/-! ===== integer instructions, second part ===== -/
section INT2
variable {ms : Int32} {mn S : Nat} {g rg hq mf : Nat → Int32} {cd : Int32} {fg : Nat → Int32} {L O : Fr4} {dd bm rr kt : Nat → Int32} {l1 l2 : Int64} {w : Int32}
theorem i_movci (H : pre mn g rg hq mf cd fg w dd bm rr kt) (ho : zz_ushr w 26 = 0) (hf : w &&& 63 = 1) : pfx ms mn g rg hq mf cd fg w dd bm rr kt := by
  by_cases hv : cnd cd w
  · refine pfx_mk H 0 (fun L O => (g, wr rg (fI w 11) (rv rg w 21), hq, mf, cd, fg, L, O)) (fun dd l1 l2 => (dd, l1, l2, bm, wr rr (fI w 11) (rv rg w 21), kt)) (fun L O P hP => ?_) (fun dd l1 l2 H L O => ⟨oc_0 (q_wr H.rel) H.e5 H.e11 H.e12 H.e13, fun Q hQ => ?_⟩) (fun _ _ _ _ => rfl) (fun _ _ _ _ _ hs => ⟨by repeat first | exact hs | apply lo_upd, rfl, rfl, rfl⟩) (by first | exact Or.inr (fun _ _ => rfl) | exact Or.inl (by unfold q_e; decide)) (fun _ _ _ => rfl)
    · unfold wp_Pr_perform
      refine pr_op ?_
      rw [ho]
      repeat first | refine bq_t (by decide) ?_ | refine bq_f (by decide) ?_
      unfold wp_Pr_special
      refine pr_fun ?_
      rw [hf]
      repeat first | refine bq_t (by decide) ?_ | refine bq_f (by decide) ?_
      unfold wp_Pr_shiftOrMoveOnCondition
      refine pr_rt ⟨fI_in w 16, fun a ea c ec => pr_rs ⟨fI_in w 21, fun b eb d ed => pr_fun ?_⟩⟩
      rw [hf]
      repeat first | refine bq_t (by decide) ?_ | refine bq_f (by decide) ?_
      refine fu_cond (fun _ => ?_) (fun q => absurd hv q)
      unfold wp_Pr_moveIf
      refine bq_f (by decide) (pr_rd (pr_rs ⟨fI_in w 21, fun x ex => ?_⟩))
      subst ex
      exact pr_result hP
    · unfold wp_Md_operate
      rw [ho]
      repeat first | refine bq_t (by decide) ?_ | refine bq_f (by decide) ?_
      rw [H.e9, hf]
      unfold wp_Md_special
      repeat first | refine bq_t (by decide) ?_ | refine bq_f (by decide) ?_
      try unfold wp_Md_shifts
      repeat first | refine bq_t (by decide) ?_ | refine bq_f (by decide) ?_
      refine ⟨by unfold vp_in; decide, fun a ea b eb c ec d ed => ?_⟩
      subst ea
      subst eb
      subst ec
      subst ed
      have e66 : (66 : Int32).toNatClampNeg = 66 := by decide
      rw [e66]
      have hq2 := md_cnd H
      exact bq_t (hq2.mpr hv) (md_field H.e9 (md_rs H.e9 H.rel (md_into H.e5 hQ)))
  · refine pfx_mk H 0 (fun L O => (g, rg, hq, mf, cd, fg, L, O)) (fun dd l1 l2 => (dd, l1, l2, bm, rr, kt)) (fun L O P hP => ?_) (fun dd l1 l2 H L O => ⟨oc_0 H.rel H.e5 H.e11 H.e12 H.e13, fun Q hQ => ?_⟩) (fun _ _ _ _ => rfl) (fun _ _ _ _ _ hs => ⟨by repeat first | exact hs | apply lo_upd, rfl, rfl, rfl⟩) (by first | exact Or.inr (fun _ _ => rfl) | exact Or.inl (by unfold q_e; decide)) (fun _ _ _ => rfl)
    · unfold wp_Pr_perform
      refine pr_op ?_
      rw [ho]
      repeat first | refine bq_t (by decide) ?_ | refine bq_f (by decide) ?_
      unfold wp_Pr_special
      refine pr_fun ?_
      rw [hf]
      repeat first | refine bq_t (by decide) ?_ | refine bq_f (by decide) ?_
      unfold wp_Pr_shiftOrMoveOnCondition
      refine pr_rt ⟨fI_in w 16, fun a ea c ec => pr_rs ⟨fI_in w 21, fun b eb d ed => pr_fun ?_⟩⟩
      rw [hf]
      repeat first | refine bq_t (by decide) ?_ | refine bq_f (by decide) ?_
      refine fu_cond (fun q => absurd q hv) (fun _ => ?_)
      unfold wp_Pr_moveIf
      exact bq_t rfl hP
    · unfold wp_Md_operate
      rw [ho]
      repeat first | refine bq_t (by decide) ?_ | refine bq_f (by decide) ?_
      rw [H.e9, hf]
      unfold wp_Md_special
      repeat first | refine bq_t (by decide) ?_ | refine bq_f (by decide) ?_
      try unfold wp_Md_shifts
      repeat first | refine bq_t (by decide) ?_ | refine bq_f (by decide) ?_
      refine ⟨by unfold vp_in; decide, fun a ea b eb c ec d ed => ?_⟩
      subst ea
      subst eb
      subst ec
      subst ed
      have e66 : (66 : Int32).toNatClampNeg = 66 := by decide
      rw [e66]
      have hq2 := md_cnd H
      exact bq_f (fun q => hv (hq2.mp q)) hQ

theorem i_movz (H : pre mn g rg hq mf cd fg w dd bm rr kt) (ho : zz_ushr w 26 = 0) (hf : w &&& 63 = 10) : pfx ms mn g rg hq mf cd fg w dd bm rr kt := by
  by_cases hv : rv rg w 16 = 0
  · refine pfx_mk H 0 (fun L O => (g, wr rg (fI w 11) (rv rg w 21), hq, mf, cd, fg, L, O)) (fun dd l1 l2 => (dd, l1, l2, bm, wr rr (fI w 11) (rv rg w 21), kt)) (fun L O P hP => ?_) (fun dd l1 l2 H L O => ⟨oc_0 (q_wr H.rel) H.e5 H.e11 H.e12 H.e13, fun Q hQ => ?_⟩) (fun _ _ _ _ => rfl) (fun _ _ _ _ _ hs => ⟨by repeat first | exact hs | apply lo_upd, rfl, rfl, rfl⟩) (by first | exact Or.inr (fun _ _ => rfl) | exact Or.inl (by unfold q_e; decide)) (fun _ _ _ => rfl)
    · unfold wp_Pr_perform
      refine pr_op ?_
      rw [ho]
      repeat first | refine bq_t (by decide) ?_ | refine bq_f (by decide) ?_
      unfold wp_Pr_special
      refine pr_fun ?_
      rw [hf]
      repeat first | refine bq_t (by decide) ?_ | refine bq_f (by decide) ?_
      unfold wp_Pr_jumpOrMoveOrCall
      refine pr_fun ?_
      rw [hf]
      repeat first | refine bq_t (by decide) ?_ | refine bq_f (by decide) ?_
      refine pr_rt ⟨fI_in w 16, fun x ex => ?_⟩
      subst ex
      refine bq_t hv ?_
      unfold wp_Pr_moveIf
      refine bq_f (by decide) (pr_rd (pr_rs ⟨fI_in w 21, fun x ex => ?_⟩))
      subst ex
      exact pr_result hP
    · unfold wp_Md_operate
      rw [ho]
      repeat first | refine bq_t (by decide) ?_ | refine bq_f (by decide) ?_
      rw [H.e9, hf]
      unfold wp_Md_special
      repeat first | refine bq_t (by decide) ?_ | refine bq_f (by decide) ?_
      try unfold wp_Md_moves
      repeat first | refine bq_t (by decide) ?_ | refine bq_f (by decide) ?_
      skip
      refine md_rt H.e9 H.rel ?_
      exact bq_t hv (md_field H.e9 (md_rs H.e9 H.rel (md_into H.e5 hQ)))
  · refine pfx_mk H 0 (fun L O => (g, rg, hq, mf, cd, fg, L, O)) (fun dd l1 l2 => (dd, l1, l2, bm, rr, kt)) (fun L O P hP => ?_) (fun dd l1 l2 H L O => ⟨oc_0 H.rel H.e5 H.e11 H.e12 H.e13, fun Q hQ => ?_⟩) (fun _ _ _ _ => rfl) (fun _ _ _ _ _ hs => ⟨by repeat first | exact hs | apply lo_upd, rfl, rfl, rfl⟩) (by first | exact Or.inr (fun _ _ => rfl) | exact Or.inl (by unfold q_e; decide)) (fun _ _ _ => rfl)
    · unfold wp_Pr_perform
      refine pr_op ?_
      rw [ho]
      repeat first | refine bq_t (by decide) ?_ | refine bq_f (by decide) ?_
      unfold wp_Pr_special
      refine pr_fun ?_
      rw [hf]
      repeat first | refine bq_t (by decide) ?_ | refine bq_f (by decide) ?_
      unfold wp_Pr_jumpOrMoveOrCall
      refine pr_fun ?_
      rw [hf]
      repeat first | refine bq_t (by decide) ?_ | refine bq_f (by decide) ?_
      refine pr_rt ⟨fI_in w 16, fun x ex => ?_⟩
      subst ex
      refine bq_f hv ?_
      unfold wp_Pr_moveIf
      exact bq_t rfl hP
    · unfold wp_Md_operate
      rw [ho]
      repeat first | refine bq_t (by decide) ?_ | refine bq_f (by decide) ?_
      rw [H.e9, hf]
      unfold wp_Md_special
      repeat first | refine bq_t (by decide) ?_ | refine bq_f (by decide) ?_
      try unfold wp_Md_moves
      repeat first | refine bq_t (by decide) ?_ | refine bq_f (by decide) ?_
      skip
      refine md_rt H.e9 H.rel ?_
      exact bq_f hv hQ

theorem i_movn (H : pre mn g rg hq mf cd fg w dd bm rr kt) (ho : zz_ushr w 26 = 0) (hf : w &&& 63 = 11) : pfx ms mn g rg hq mf cd fg w dd bm rr kt := by
  by_cases hv : rv rg w 16 = 0
  · refine pfx_mk H 0 (fun L O => (g, rg, hq, mf, cd, fg, L, O)) (fun dd l1 l2 => (dd, l1, l2, bm, rr, kt)) (fun L O P hP => ?_) (fun dd l1 l2 H L O => ⟨oc_0 H.rel H.e5 H.e11 H.e12 H.e13, fun Q hQ => ?_⟩) (fun _ _ _ _ => rfl) (fun _ _ _ _ _ hs => ⟨by repeat first | exact hs | apply lo_upd, rfl, rfl, rfl⟩) (by first | exact Or.inr (fun _ _ => rfl) | exact Or.inl (by unfold q_e; decide)) (fun _ _ _ => rfl)
    · unfold wp_Pr_perform
      refine pr_op ?_
      rw [ho]
      repeat first | refine bq_t (by decide) ?_ | refine bq_f (by decide) ?_
      unfold wp_Pr_special
      refine pr_fun ?_
      rw [hf]
      repeat first | refine bq_t (by decide) ?_ | refine bq_f (by decide) ?_
      unfold wp_Pr_jumpOrMoveOrCall
      refine pr_fun ?_
      rw [hf]
      repeat first | refine bq_t (by decide) ?_ | refine bq_f (by decide) ?_
      refine pr_rt ⟨fI_in w 16, fun x ex => ?_⟩
      subst ex
      refine bq_t hv ?_
      unfold wp_Pr_moveIf
      exact bq_t rfl hP
    · unfold wp_Md_operate
      rw [ho]
      repeat first | refine bq_t (by decide) ?_ | refine bq_f (by decide) ?_
      rw [H.e9, hf]
      unfold wp_Md_special
      repeat first | refine bq_t (by decide) ?_ | refine bq_f (by decide) ?_
      try unfold wp_Md_moves
      repeat first | refine bq_t (by decide) ?_ | refine bq_f (by decide) ?_
      skip
      refine md_rt H.e9 H.rel ?_
      exact bq_t hv hQ
  · refine pfx_mk H 0 (fun L O => (g, wr rg (fI w 11) (rv rg w 21), hq, mf, cd, fg, L, O)) (fun dd l1 l2 => (dd, l1, l2, bm, wr rr (fI w 11) (rv rg w 21), kt)) (fun L O P hP => ?_) (fun dd l1 l2 H L O => ⟨oc_0 (q_wr H.rel) H.e5 H.e11 H.e12 H.e13, fun Q hQ => ?_⟩) (fun _ _ _ _ => rfl) (fun _ _ _ _ _ hs => ⟨by repeat first | exact hs | apply lo_upd, rfl, rfl, rfl⟩) (by first | exact Or.inr (fun _ _ => rfl) | exact Or.inl (by unfold q_e; decide)) (fun _ _ _ => rfl)
    · unfold wp_Pr_perform
      refine pr_op ?_
      rw [ho]
      repeat first | refine bq_t (by decide) ?_ | refine bq_f (by decide) ?_
      unfold wp_Pr_special
      refine pr_fun ?_
      rw [hf]
      repeat first | refine bq_t (by decide) ?_ | refine bq_f (by decide) ?_
      unfold wp_Pr_jumpOrMoveOrCall
      refine pr_fun ?_
      rw [hf]
      repeat first | refine bq_t (by decide) ?_ | refine bq_f (by decide) ?_
      refine pr_rt ⟨fI_in w 16, fun x ex => ?_⟩
      subst ex
      refine bq_f hv ?_
      unfold wp_Pr_moveIf
      refine bq_f (by decide) (pr_rd (pr_rs ⟨fI_in w 21, fun x ex => ?_⟩))
      subst ex
      exact pr_result hP
    · unfold wp_Md_operate
      rw [ho]
      repeat first | refine bq_t (by decide) ?_ | refine bq_f (by decide) ?_
      rw [H.e9, hf]
      unfold wp_Md_special
      repeat first | refine bq_t (by decide) ?_ | refine bq_f (by decide) ?_
      try unfold wp_Md_moves
      repeat first | refine bq_t (by decide) ?_ | refine bq_f (by decide) ?_
      skip
      refine md_rt H.e9 H.rel ?_
      exact bq_f hv (md_field H.e9 (md_rs H.e9 H.rel (md_into H.e5 hQ)))

theorem i_jr (H : pre mn g rg hq mf cd fg w dd bm rr kt) (ho : zz_ushr w 26 = 0) (hf : w &&& 63 = 8) : pfx ms mn g rg hq mf cd fg w dd bm rr kt := by
  by_cases hv : g 2 = 0
  · refine pfx_mk H (-1) (fun L O => (upd (upd (upd (upd g 10 (g 10 + 1)) 0 (g 1)) 1 (rv rg w 21)) 2 1, rg, hq, mf, cd, fg, L, O)) (fun dd l1 l2 => (bd dd 1 0 (rv rg w 21), l1, l2, bm, rr, kt)) (fun L O P hP => ?_) (fun dd l1 l2 H L O => ⟨oc_br (goes := 1) (lik := 0) (Or.inr rfl) H.rel H.e5, fun Q hQ => ?_⟩) (fun _ _ _ _ => rfl) (fun _ _ _ _ _ hs => ⟨by repeat first | exact hs | apply lo_upd, rfl, rfl, rfl⟩) (by first | exact Or.inr (fun _ _ => rfl) | exact Or.inl (by unfold q_e; decide)) (fun _ _ _ => rfl)
    · unfold wp_Pr_perform
      refine pr_op ?_
      rw [ho]
      repeat first | refine bq_t (by decide) ?_ | refine bq_f (by decide) ?_
      unfold wp_Pr_special
      refine pr_fun ?_
      rw [hf]
      repeat first | refine bq_t (by decide) ?_ | refine bq_f (by decide) ?_
      unfold wp_Pr_jumpOrMoveOrCall
      refine pr_fun ?_
      rw [hf]
      repeat first | refine bq_t (by decide) ?_ | refine bq_f (by decide) ?_
      refine bq_t hv (pr_rs ⟨fI_in w 21, fun x ex => ?_⟩)
      subst ex
      exact pr_leave hP
    · unfold wp_Md_operate
      rw [ho]
      repeat first | refine bq_t (by decide) ?_ | refine bq_f (by decide) ?_
      rw [H.e9, hf]
      unfold wp_Md_special
      repeat first | refine bq_t (by decide) ?_ | refine bq_f (by decide) ?_
      try unfold wp_Md_moves
      repeat first | refine bq_t (by decide) ?_ | refine bq_f (by decide) ?_
      skip
      have h6 : dd 6 = 0 := by rw [H.rel.2.2.2.2.2.2.1.2.2.2.1]; exact hv
      exact md_rs H.e9 H.rel (md_jumps h6 (Or.inr rfl) hQ)
  · refine pfx_mk H 8 (fun L O => (g, rg, hq, mf, cd, fg, L, O)) (fun dd l1 l2 => (upd dd 5 8, l1, l2, bm, rr, kt)) (fun L O P hP => ?_) (fun dd l1 l2 H L O => ⟨oc_end (by unfold q_e; simp) H.rel H.nxt rfl (fun j _ h => pk_un h), fun Q hQ => ?_⟩) (fun _ _ _ _ => rfl) (fun _ _ _ _ _ hs => ⟨by repeat first | exact hs | apply lo_upd, rfl, rfl, rfl⟩) (by first | exact Or.inr (fun _ _ => rfl) | exact Or.inl (by unfold q_e; decide)) (fun _ _ _ => rfl)
    · unfold wp_Pr_perform
      refine pr_op ?_
      rw [ho]
      repeat first | refine bq_t (by decide) ?_ | refine bq_f (by decide) ?_
      unfold wp_Pr_special
      refine pr_fun ?_
      rw [hf]
      repeat first | refine bq_t (by decide) ?_ | refine bq_f (by decide) ?_
      unfold wp_Pr_jumpOrMoveOrCall
      refine pr_fun ?_
      rw [hf]
      repeat first | refine bq_t (by decide) ?_ | refine bq_f (by decide) ?_
      exact bq_f hv hP
    · unfold wp_Md_operate
      rw [ho]
      repeat first | refine bq_t (by decide) ?_ | refine bq_f (by decide) ?_
      rw [H.e9, hf]
      unfold wp_Md_special
      repeat first | refine bq_t (by decide) ?_ | refine bq_f (by decide) ?_
      try unfold wp_Md_moves
      repeat first | refine bq_t (by decide) ?_ | refine bq_f (by decide) ?_
      skip
      have h6 : ¬ dd 6 = 0 := by rw [H.rel.2.2.2.2.2.2.1.2.2.2.1]; exact hv
      exact md_rs H.e9 H.rel (md_jumps_s h6 H.e5 hQ)

theorem wr_rs {f : Nat → Int32} {v : Int32} (h : ¬ fI w 11 = fI w 21) : wr f (fI w 11) v (fI w 21).toNatClampNeg = f (fI w 21).toNatClampNeg := by
  refine wr_at (fun q => h ?_)
  obtain ⟨j, hj, e⟩ := fI_n w 11
  obtain ⟨k, hk, e2⟩ := fI_n w 21
  rw [e, e2, nI_clamp (by omega), nI_clamp (by omega)] at q
  rw [e, e2, q]
theorem md_rs1 {P : Int32 → Prop} (e9 : dd 9 = w) (hr : ∀ j, j < 32 → rr j = rg j) (h : P (rv rg w 21)) : wp_Md_rs ms dd l1 l2 bm rr kt P := by
  unfold wp_Md_rs
  refine md_field e9 ⟨fI_in67 w 21, fun x ex => ?_⟩
  rw [ex, hr _ (fI_lt w 21)]; exact h
theorem i_jalr (H : pre mn g rg hq mf cd fg w dd bm rr kt) (ho : zz_ushr w 26 = 0) (hf : w &&& 63 = 9) : pfx ms mn g rg hq mf cd fg w dd bm rr kt := by
  by_cases hv : g 2 = 0
  · by_cases hx : fI w 11 = fI w 21
    · refine pfx_mk H 8 (fun L O => (g, rg, hq, mf, cd, fg, L, O)) (fun dd l1 l2 => (bd (upd dd 5 8) 1 0 (rv rg w 21), l1, l2, bm, rr, kt)) (fun L O P hP => ?_) (fun dd l1 l2 H L O => ⟨oc_end (by unfold q_e; simp) H.rel H.nxt rfl (fun j hj h => by unfold bd; rw [pk_un (by omega), pk_un (by omega), pk_un (by omega), pk_un (by omega), pk_un h]), fun Q hQ => ?_⟩) (fun _ _ _ _ => rfl) (fun _ _ _ _ _ hs => ⟨by repeat first | exact hs | apply lo_upd, rfl, rfl, rfl⟩) (by first | exact Or.inr (fun _ _ => rfl) | exact Or.inl (by unfold q_e; decide)) (fun _ _ _ => rfl)
      · unfold wp_Pr_perform
        refine pr_op ?_
        rw [ho]
        repeat first | refine bq_t (by decide) ?_ | refine bq_f (by decide) ?_
        unfold wp_Pr_special
        refine pr_fun ?_
        rw [hf]
        repeat first | refine bq_t (by decide) ?_ | refine bq_f (by decide) ?_
        unfold wp_Pr_jumpOrMoveOrCall
        refine pr_fun ?_
        rw [hf]
        repeat first | refine bq_t (by decide) ?_ | refine bq_f (by decide) ?_
        unfold wp_Pr_jumpAndLinkRegister
        exact bq_t hv (pr_rd (pr_rs (bq_t hx hP)))
      · unfold wp_Md_operate
        rw [ho]
        repeat first | refine bq_t (by decide) ?_ | refine bq_f (by decide) ?_
        rw [H.e9, hf]
        unfold wp_Md_special
        repeat first | refine bq_t (by decide) ?_ | refine bq_f (by decide) ?_
        try unfold wp_Md_moves
        repeat first | refine bq_t (by decide) ?_ | refine bq_f (by decide) ?_
        skip
        have h6 : dd 6 = 0 := by rw [H.rel.2.2.2.2.2.2.1.2.2.2.1]; exact hv
        refine md_field H.e9 (md_field H.e9 (bq_t hx.symm (md_ends H.e5 ?_)))
        exact md_rs1 (w := w) H.e9 H.rel.1 (md_jumps h6 (Or.inr rfl) (md_field H.e9 (md_into_n (show ¬ (8 : Int32) = 0 by decide) hQ)))
    · refine pfx_mk H (-1) (fun L O => (upd (upd (upd (upd g 10 (g 10 + 1)) 0 (g 1)) 1 (rv rg w 21)) 2 1, wr rg (fI w 11) (g 0 + 8), hq, mf, cd, fg, L, O)) (fun dd l1 l2 => (bd dd 1 0 (rv rg w 21), l1, l2, bm, wr rr (fI w 11) (g 0 + 8), kt)) (fun L O P hP => ?_) (fun dd l1 l2 H L O => ⟨oc_br (goes := 1) (lik := 0) (Or.inr rfl) (q_wr H.rel) H.e5, fun Q hQ => ?_⟩) (fun _ _ _ _ => rfl) (fun _ _ _ _ _ hs => ⟨by repeat first | exact hs | apply lo_upd, rfl, rfl, rfl⟩) (by first | exact Or.inr (fun _ _ => rfl) | exact Or.inl (by unfold q_e; decide)) (fun _ _ _ => rfl)
      · unfold wp_Pr_perform
        refine pr_op ?_
        rw [ho]
        repeat first | refine bq_t (by decide) ?_ | refine bq_f (by decide) ?_
        unfold wp_Pr_special
        refine pr_fun ?_
        rw [hf]
        repeat first | refine bq_t (by decide) ?_ | refine bq_f (by decide) ?_
        unfold wp_Pr_jumpOrMoveOrCall
        refine pr_fun ?_
        rw [hf]
        repeat first | refine bq_t (by decide) ?_ | refine bq_f (by decide) ?_
        unfold wp_Pr_jumpAndLinkRegister
        refine bq_t hv (pr_rd (pr_rs (bq_f hx (pr_rd (pr_write (pr_rs ⟨fI_in w 21, fun x ex => ?_⟩))))))
        have ex := ex.trans (wr_rs (f := rg) hx)
        subst ex
        exact pr_leave hP
      · unfold wp_Md_operate
        rw [ho]
        repeat first | refine bq_t (by decide) ?_ | refine bq_f (by decide) ?_
        rw [H.e9, hf]
        unfold wp_Md_special
        repeat first | refine bq_t (by decide) ?_ | refine bq_f (by decide) ?_
        try unfold wp_Md_moves
        repeat first | refine bq_t (by decide) ?_ | refine bq_f (by decide) ?_
        skip
        have h6 : dd 6 = 0 := by rw [H.rel.2.2.2.2.2.2.1.2.2.2.1]; exact hv
        refine md_field H.e9 (md_field H.e9 (bq_f (fun q => hx q.symm) (md_rs H.e9 H.rel (md_jumps h6 (Or.inr rfl) (md_field H.e9 (md_into H.e5 ?_))))))
        have e3 : bd dd 1 0 (rv rg w 21) 3 = g 0 := H.rel.2.2.2.2.2.2.1.1
        dsimp only
        rw [e3]; exact hQ
  · refine pfx_mk H 8 (fun L O => (g, rg, hq, mf, cd, fg, L, O)) (fun dd l1 l2 => (upd dd 5 8, l1, l2, bm, rr, kt)) (fun L O P hP => ?_) (fun dd l1 l2 H L O => ⟨oc_end (by unfold q_e; simp) H.rel H.nxt rfl (fun j _ h => pk_un h), fun Q hQ => ?_⟩) (fun _ _ _ _ => rfl) (fun _ _ _ _ _ hs => ⟨by repeat first | exact hs | apply lo_upd, rfl, rfl, rfl⟩) (by first | exact Or.inr (fun _ _ => rfl) | exact Or.inl (by unfold q_e; decide)) (fun _ _ _ => rfl)
    · unfold wp_Pr_perform
      refine pr_op ?_
      rw [ho]
      repeat first | refine bq_t (by decide) ?_ | refine bq_f (by decide) ?_
      unfold wp_Pr_special
      refine pr_fun ?_
      rw [hf]
      repeat first | refine bq_t (by decide) ?_ | refine bq_f (by decide) ?_
      unfold wp_Pr_jumpOrMoveOrCall
      refine pr_fun ?_
      rw [hf]
      repeat first | refine bq_t (by decide) ?_ | refine bq_f (by decide) ?_
      unfold wp_Pr_jumpAndLinkRegister
      exact bq_f hv hP
    · unfold wp_Md_operate
      rw [ho]
      repeat first | refine bq_t (by decide) ?_ | refine bq_f (by decide) ?_
      rw [H.e9, hf]
      unfold wp_Md_special
      repeat first | refine bq_t (by decide) ?_ | refine bq_f (by decide) ?_
      try unfold wp_Md_moves
      repeat first | refine bq_t (by decide) ?_ | refine bq_f (by decide) ?_
      skip
      have h6 : ¬ dd 6 = 0 := by rw [H.rel.2.2.2.2.2.2.1.2.2.2.1]; exact hv
      refine md_field H.e9 (md_field H.e9 ⟨fun _ => md_ends H.e5 (md_rs1 (w := w) H.e9 H.rel.1 ?_), fun _ => md_rs H.e9 H.rel (md_jumps_s h6 H.e5 (md_field H.e9 (md_into_n (show ¬ (8 : Int32) = 0 by decide) hQ)))⟩)
      exact ⟨fun q => absurd q h6, fun _ => md_ends_n (show ¬ (8 : Int32) = 0 by decide) (md_field H.e9 (md_into_n (show ¬ (8 : Int32) = 0 by decide) hQ))⟩

theorem i_syscall (H : pre mn g rg hq mf cd fg w dd bm rr kt) (ho : zz_ushr w 26 = 0) (hf : w &&& 63 = 12) : pfx ms mn g rg hq mf cd fg w dd bm rr kt := by
  refine pfx_mk H 7 (fun L O => (upd g 6 (zz_ushr w 6 &&& 1048575), rg, hq, mf, cd, fg, L, O)) (fun dd l1 l2 => (upd dd 5 7, l1, l2, bm, rr, kt)) (fun L O P hP => ?_) (fun dd l1 l2 H L O => ⟨oc_endc (by unfold q_e; simp) H.rel H.nxt, fun Q hQ => ?_⟩) (fun _ _ _ _ => rfl) (fun _ _ _ _ _ hs => ⟨by repeat first | exact hs | apply lo_upd, rfl, rfl, rfl⟩) (by first | exact Or.inr (fun _ _ => rfl) | exact Or.inl (by unfold q_e; decide)) (fun _ _ _ => rfl)
  · unfold wp_Pr_perform
    refine pr_op ?_
    rw [ho]
    repeat first | refine bq_t (by decide) ?_ | refine bq_f (by decide) ?_
    unfold wp_Pr_special
    refine pr_fun ?_
    rw [hf]
    repeat first | refine bq_t (by decide) ?_ | refine bq_f (by decide) ?_
    unfold wp_Pr_jumpOrMoveOrCall
    refine pr_fun ?_
    rw [hf]
    repeat first | refine bq_t (by decide) ?_ | refine bq_f (by decide) ?_
    unfold wp_Pr_call
    exact fun x ex => by subst ex; exact hP
  · unfold wp_Md_operate
    rw [ho]
    repeat first | refine bq_t (by decide) ?_ | refine bq_f (by decide) ?_
    rw [H.e9, hf]
    unfold wp_Md_special
    repeat first | refine bq_t (by decide) ?_ | refine bq_f (by decide) ?_
    try unfold wp_Md_moves
    repeat first | refine bq_t (by decide) ?_ | refine bq_f (by decide) ?_
    skip
    exact md_ends H.e5 hQ

theorem i_break (H : pre mn g rg hq mf cd fg w dd bm rr kt) (ho : zz_ushr w 26 = 0) (hf : w &&& 63 = 13) : pfx ms mn g rg hq mf cd fg w dd bm rr kt := by
  refine pfx_mk H 6 (fun L O => (upd g 6 (zz_ushr w 6 &&& 1048575), rg, hq, mf, cd, fg, L, O)) (fun dd l1 l2 => (upd dd 5 6, l1, l2, bm, rr, kt)) (fun L O P hP => ?_) (fun dd l1 l2 H L O => ⟨oc_endc (by unfold q_e; simp) H.rel H.nxt, fun Q hQ => ?_⟩) (fun _ _ _ _ => rfl) (fun _ _ _ _ _ hs => ⟨by repeat first | exact hs | apply lo_upd, rfl, rfl, rfl⟩) (by first | exact Or.inr (fun _ _ => rfl) | exact Or.inl (by unfold q_e; decide)) (fun _ _ _ => rfl)
  · unfold wp_Pr_perform
    refine pr_op ?_
    rw [ho]
    repeat first | refine bq_t (by decide) ?_ | refine bq_f (by decide) ?_
    unfold wp_Pr_special
    refine pr_fun ?_
    rw [hf]
    repeat first | refine bq_t (by decide) ?_ | refine bq_f (by decide) ?_
    unfold wp_Pr_jumpOrMoveOrCall
    refine pr_fun ?_
    rw [hf]
    repeat first | refine bq_t (by decide) ?_ | refine bq_f (by decide) ?_
    unfold wp_Pr_call
    exact fun x ex => by subst ex; exact hP
  · unfold wp_Md_operate
    rw [ho]
    repeat first | refine bq_t (by decide) ?_ | refine bq_f (by decide) ?_
    rw [H.e9, hf]
    unfold wp_Md_special
    repeat first | refine bq_t (by decide) ?_ | refine bq_f (by decide) ?_
    try unfold wp_Md_moves
    repeat first | refine bq_t (by decide) ?_ | refine bq_f (by decide) ?_
    skip
    exact md_ends H.e5 hQ

theorem i_sync (H : pre mn g rg hq mf cd fg w dd bm rr kt) (ho : zz_ushr w 26 = 0) (hf : w &&& 63 = 15) : pfx ms mn g rg hq mf cd fg w dd bm rr kt := by
  refine pfx_mk H 0 (fun L O => (g, rg, hq, mf, cd, fg, L, O)) (fun dd l1 l2 => (dd, l1, l2, bm, rr, kt)) (fun L O P hP => ?_) (fun dd l1 l2 H L O => ⟨oc_0 H.rel H.e5 H.e11 H.e12 H.e13, fun Q hQ => ?_⟩) (fun _ _ _ _ => rfl) (fun _ _ _ _ _ hs => ⟨by repeat first | exact hs | apply lo_upd, rfl, rfl, rfl⟩) (by first | exact Or.inr (fun _ _ => rfl) | exact Or.inl (by unfold q_e; decide)) (fun _ _ _ => rfl)
  · unfold wp_Pr_perform
    refine pr_op ?_
    rw [ho]
    repeat first | refine bq_t (by decide) ?_ | refine bq_f (by decide) ?_
    unfold wp_Pr_special
    refine pr_fun ?_
    rw [hf]
    repeat first | refine bq_t (by decide) ?_ | refine bq_f (by decide) ?_
    unfold wp_Pr_jumpOrMoveOrCall
    refine pr_fun ?_
    rw [hf]
    repeat first | refine bq_t (by decide) ?_ | refine bq_f (by decide) ?_
    exact hP
  · unfold wp_Md_operate
    rw [ho]
    repeat first | refine bq_t (by decide) ?_ | refine bq_f (by decide) ?_
    rw [H.e9, hf]
    unfold wp_Md_special
    repeat first | refine bq_t (by decide) ?_ | refine bq_f (by decide) ?_
    try unfold wp_Md_moves
    repeat first | refine bq_t (by decide) ?_ | refine bq_f (by decide) ?_
    skip
    exact hQ

theorem i_s5 (H : pre mn g rg hq mf cd fg w dd bm rr kt) (ho : zz_ushr w 26 = 0) (hf : w &&& 63 = 5) : pfx ms mn g rg hq mf cd fg w dd bm rr kt := by
  refine pfx_mk H 3 (fun L O => (g, rg, hq, mf, cd, fg, L, O)) (fun dd l1 l2 => (upd dd 5 3, l1, l2, bm, rr, kt)) (fun L O P hP => ?_) (fun dd l1 l2 H L O => ⟨oc_end (by unfold q_e; simp) H.rel H.nxt rfl (fun j _ h => pk_un h), fun Q hQ => ?_⟩) (fun _ _ _ _ => rfl) (fun _ _ _ _ _ hs => ⟨by repeat first | exact hs | apply lo_upd, rfl, rfl, rfl⟩) (by first | exact Or.inr (fun _ _ => rfl) | exact Or.inl (by unfold q_e; decide)) (fun _ _ _ => rfl)
  · unfold wp_Pr_perform
    refine pr_op ?_
    rw [ho]
    repeat first | refine bq_t (by decide) ?_ | refine bq_f (by decide) ?_
    unfold wp_Pr_special
    refine pr_fun ?_
    rw [hf]
    repeat first | refine bq_t (by decide) ?_ | refine bq_f (by decide) ?_
    unfold wp_Pr_shiftOrMoveOnCondition
    refine pr_rt ⟨fI_in w 16, fun a ea c ec => pr_rs ⟨fI_in w 21, fun b eb d ed => pr_fun ?_⟩⟩
    subst ea
    subst eb
    subst ec
    subst ed
    rw [hf]
    repeat first | refine bq_t (by decide) ?_ | refine bq_f (by decide) ?_
    exact hP
  · unfold wp_Md_operate
    rw [ho]
    repeat first | refine bq_t (by decide) ?_ | refine bq_f (by decide) ?_
    rw [H.e9, hf]
    unfold wp_Md_special
    repeat first | refine bq_t (by decide) ?_ | refine bq_f (by decide) ?_
    skip
    skip
    exact md_ends H.e5 hQ

theorem i_s14 (H : pre mn g rg hq mf cd fg w dd bm rr kt) (ho : zz_ushr w 26 = 0) (hf : w &&& 63 = 14) : pfx ms mn g rg hq mf cd fg w dd bm rr kt := by
  refine pfx_mk H 3 (fun L O => (g, rg, hq, mf, cd, fg, L, O)) (fun dd l1 l2 => (upd dd 5 3, l1, l2, bm, rr, kt)) (fun L O P hP => ?_) (fun dd l1 l2 H L O => ⟨oc_end (by unfold q_e; simp) H.rel H.nxt rfl (fun j _ h => pk_un h), fun Q hQ => ?_⟩) (fun _ _ _ _ => rfl) (fun _ _ _ _ _ hs => ⟨by repeat first | exact hs | apply lo_upd, rfl, rfl, rfl⟩) (by first | exact Or.inr (fun _ _ => rfl) | exact Or.inl (by unfold q_e; decide)) (fun _ _ _ => rfl)
  · unfold wp_Pr_perform
    refine pr_op ?_
    rw [ho]
    repeat first | refine bq_t (by decide) ?_ | refine bq_f (by decide) ?_
    unfold wp_Pr_special
    refine pr_fun ?_
    rw [hf]
    repeat first | refine bq_t (by decide) ?_ | refine bq_f (by decide) ?_
    unfold wp_Pr_jumpOrMoveOrCall
    refine pr_fun ?_
    rw [hf]
    repeat first | refine bq_t (by decide) ?_ | refine bq_f (by decide) ?_
    exact hP
  · unfold wp_Md_operate
    rw [ho]
    repeat first | refine bq_t (by decide) ?_ | refine bq_f (by decide) ?_
    rw [H.e9, hf]
    unfold wp_Md_special
    repeat first | refine bq_t (by decide) ?_ | refine bq_f (by decide) ?_
    skip
    skip
    exact md_ends H.e5 hQ

theorem i_s20 (H : pre mn g rg hq mf cd fg w dd bm rr kt) (ho : zz_ushr w 26 = 0) (hf : w &&& 63 = 20) : pfx ms mn g rg hq mf cd fg w dd bm rr kt := by
  refine pfx_mk H 3 (fun L O => (g, rg, hq, mf, cd, fg, L, O)) (fun dd l1 l2 => (upd dd 5 3, l1, l2, bm, rr, kt)) (fun L O P hP => ?_) (fun dd l1 l2 H L O => ⟨oc_end (by unfold q_e; simp) H.rel H.nxt rfl (fun j _ h => pk_un h), fun Q hQ => ?_⟩) (fun _ _ _ _ => rfl) (fun _ _ _ _ _ hs => ⟨by repeat first | exact hs | apply lo_upd, rfl, rfl, rfl⟩) (by first | exact Or.inr (fun _ _ => rfl) | exact Or.inl (by unfold q_e; decide)) (fun _ _ _ => rfl)
  · unfold wp_Pr_perform
    refine pr_op ?_
    rw [ho]
    repeat first | refine bq_t (by decide) ?_ | refine bq_f (by decide) ?_
    unfold wp_Pr_special
    refine pr_fun ?_
    rw [hf]
    repeat first | refine bq_t (by decide) ?_ | refine bq_f (by decide) ?_
    unfold wp_Pr_moveHiLo
    refine pr_fun ?_
    rw [hf]
    repeat first | refine bq_t (by decide) ?_ | refine bq_f (by decide) ?_
    exact hP
  · unfold wp_Md_operate
    rw [ho]
    repeat first | refine bq_t (by decide) ?_ | refine bq_f (by decide) ?_
    rw [H.e9, hf]
    unfold wp_Md_special
    repeat first | refine bq_t (by decide) ?_ | refine bq_f (by decide) ?_
    skip
    skip
    exact md_ends H.e5 hQ

theorem i_s21 (H : pre mn g rg hq mf cd fg w dd bm rr kt) (ho : zz_ushr w 26 = 0) (hf : w &&& 63 = 21) : pfx ms mn g rg hq mf cd fg w dd bm rr kt := by
  refine pfx_mk H 3 (fun L O => (g, rg, hq, mf, cd, fg, L, O)) (fun dd l1 l2 => (upd dd 5 3, l1, l2, bm, rr, kt)) (fun L O P hP => ?_) (fun dd l1 l2 H L O => ⟨oc_end (by unfold q_e; simp) H.rel H.nxt rfl (fun j _ h => pk_un h), fun Q hQ => ?_⟩) (fun _ _ _ _ => rfl) (fun _ _ _ _ _ hs => ⟨by repeat first | exact hs | apply lo_upd, rfl, rfl, rfl⟩) (by first | exact Or.inr (fun _ _ => rfl) | exact Or.inl (by unfold q_e; decide)) (fun _ _ _ => rfl)
  · unfold wp_Pr_perform
    refine pr_op ?_
    rw [ho]
    repeat first | refine bq_t (by decide) ?_ | refine bq_f (by decide) ?_
    unfold wp_Pr_special
    refine pr_fun ?_
    rw [hf]
    repeat first | refine bq_t (by decide) ?_ | refine bq_f (by decide) ?_
    unfold wp_Pr_moveHiLo
    refine pr_fun ?_
    rw [hf]
    repeat first | refine bq_t (by decide) ?_ | refine bq_f (by decide) ?_
    exact hP
  · unfold wp_Md_operate
    rw [ho]
    repeat first | refine bq_t (by decide) ?_ | refine bq_f (by decide) ?_
    rw [H.e9, hf]
    unfold wp_Md_special
    repeat first | refine bq_t (by decide) ?_ | refine bq_f (by decide) ?_
    skip
    skip
    exact md_ends H.e5 hQ

theorem i_s22 (H : pre mn g rg hq mf cd fg w dd bm rr kt) (ho : zz_ushr w 26 = 0) (hf : w &&& 63 = 22) : pfx ms mn g rg hq mf cd fg w dd bm rr kt := by
  refine pfx_mk H 3 (fun L O => (g, rg, hq, mf, cd, fg, L, O)) (fun dd l1 l2 => (upd dd 5 3, l1, l2, bm, rr, kt)) (fun L O P hP => ?_) (fun dd l1 l2 H L O => ⟨oc_end (by unfold q_e; simp) H.rel H.nxt rfl (fun j _ h => pk_un h), fun Q hQ => ?_⟩) (fun _ _ _ _ => rfl) (fun _ _ _ _ _ hs => ⟨by repeat first | exact hs | apply lo_upd, rfl, rfl, rfl⟩) (by first | exact Or.inr (fun _ _ => rfl) | exact Or.inl (by unfold q_e; decide)) (fun _ _ _ => rfl)
  · unfold wp_Pr_perform
    refine pr_op ?_
    rw [ho]
    repeat first | refine bq_t (by decide) ?_ | refine bq_f (by decide) ?_
    unfold wp_Pr_special
    refine pr_fun ?_
    rw [hf]
    repeat first | refine bq_t (by decide) ?_ | refine bq_f (by decide) ?_
    unfold wp_Pr_moveHiLo
    refine pr_fun ?_
    rw [hf]
    repeat first | refine bq_t (by decide) ?_ | refine bq_f (by decide) ?_
    exact hP
  · unfold wp_Md_operate
    rw [ho]
    repeat first | refine bq_t (by decide) ?_ | refine bq_f (by decide) ?_
    rw [H.e9, hf]
    unfold wp_Md_special
    repeat first | refine bq_t (by decide) ?_ | refine bq_f (by decide) ?_
    skip
    skip
    exact md_ends H.e5 hQ

theorem i_s23 (H : pre mn g rg hq mf cd fg w dd bm rr kt) (ho : zz_ushr w 26 = 0) (hf : w &&& 63 = 23) : pfx ms mn g rg hq mf cd fg w dd bm rr kt := by
  refine pfx_mk H 3 (fun L O => (g, rg, hq, mf, cd, fg, L, O)) (fun dd l1 l2 => (upd dd 5 3, l1, l2, bm, rr, kt)) (fun L O P hP => ?_) (fun dd l1 l2 H L O => ⟨oc_end (by unfold q_e; simp) H.rel H.nxt rfl (fun j _ h => pk_un h), fun Q hQ => ?_⟩) (fun _ _ _ _ => rfl) (fun _ _ _ _ _ hs => ⟨by repeat first | exact hs | apply lo_upd, rfl, rfl, rfl⟩) (by first | exact Or.inr (fun _ _ => rfl) | exact Or.inl (by unfold q_e; decide)) (fun _ _ _ => rfl)
  · unfold wp_Pr_perform
    refine pr_op ?_
    rw [ho]
    repeat first | refine bq_t (by decide) ?_ | refine bq_f (by decide) ?_
    unfold wp_Pr_special
    refine pr_fun ?_
    rw [hf]
    repeat first | refine bq_t (by decide) ?_ | refine bq_f (by decide) ?_
    unfold wp_Pr_moveHiLo
    refine pr_fun ?_
    rw [hf]
    repeat first | refine bq_t (by decide) ?_ | refine bq_f (by decide) ?_
    exact hP
  · unfold wp_Md_operate
    rw [ho]
    repeat first | refine bq_t (by decide) ?_ | refine bq_f (by decide) ?_
    rw [H.e9, hf]
    unfold wp_Md_special
    repeat first | refine bq_t (by decide) ?_ | refine bq_f (by decide) ?_
    skip
    skip
    exact md_ends H.e5 hQ

theorem i_s28 (H : pre mn g rg hq mf cd fg w dd bm rr kt) (ho : zz_ushr w 26 = 0) (hf : w &&& 63 = 28) : pfx ms mn g rg hq mf cd fg w dd bm rr kt := by
  refine pfx_mk H 3 (fun L O => (g, rg, hq, mf, cd, fg, L, O)) (fun dd l1 l2 => (upd dd 5 3, l1, l2, bm, rr, kt)) (fun L O P hP => ?_) (fun dd l1 l2 H L O => ⟨oc_end (by unfold q_e; simp) H.rel H.nxt rfl (fun j _ h => pk_un h), fun Q hQ => ?_⟩) (fun _ _ _ _ => rfl) (fun _ _ _ _ _ hs => ⟨by repeat first | exact hs | apply lo_upd, rfl, rfl, rfl⟩) (by first | exact Or.inr (fun _ _ => rfl) | exact Or.inl (by unfold q_e; decide)) (fun _ _ _ => rfl)
  · unfold wp_Pr_perform
    refine pr_op ?_
    rw [ho]
    repeat first | refine bq_t (by decide) ?_ | refine bq_f (by decide) ?_
    unfold wp_Pr_special
    refine pr_fun ?_
    rw [hf]
    repeat first | refine bq_t (by decide) ?_ | refine bq_f (by decide) ?_
    unfold wp_Pr_multiplyOrDivide
    refine pr_rs ⟨fI_in w 21, fun a ea => pr_rt ⟨fI_in w 16, fun b eb => pr_fun ?_⟩⟩
    subst ea
    subst eb
    rw [hf]
    repeat first | refine bq_t (by decide) ?_ | refine bq_f (by decide) ?_
    exact hP
  · unfold wp_Md_operate
    rw [ho]
    repeat first | refine bq_t (by decide) ?_ | refine bq_f (by decide) ?_
    rw [H.e9, hf]
    unfold wp_Md_special
    repeat first | refine bq_t (by decide) ?_ | refine bq_f (by decide) ?_
    skip
    skip
    exact md_ends H.e5 hQ

theorem i_s29 (H : pre mn g rg hq mf cd fg w dd bm rr kt) (ho : zz_ushr w 26 = 0) (hf : w &&& 63 = 29) : pfx ms mn g rg hq mf cd fg w dd bm rr kt := by
  refine pfx_mk H 3 (fun L O => (g, rg, hq, mf, cd, fg, L, O)) (fun dd l1 l2 => (upd dd 5 3, l1, l2, bm, rr, kt)) (fun L O P hP => ?_) (fun dd l1 l2 H L O => ⟨oc_end (by unfold q_e; simp) H.rel H.nxt rfl (fun j _ h => pk_un h), fun Q hQ => ?_⟩) (fun _ _ _ _ => rfl) (fun _ _ _ _ _ hs => ⟨by repeat first | exact hs | apply lo_upd, rfl, rfl, rfl⟩) (by first | exact Or.inr (fun _ _ => rfl) | exact Or.inl (by unfold q_e; decide)) (fun _ _ _ => rfl)
  · unfold wp_Pr_perform
    refine pr_op ?_
    rw [ho]
    repeat first | refine bq_t (by decide) ?_ | refine bq_f (by decide) ?_
    unfold wp_Pr_special
    refine pr_fun ?_
    rw [hf]
    repeat first | refine bq_t (by decide) ?_ | refine bq_f (by decide) ?_
    unfold wp_Pr_multiplyOrDivide
    refine pr_rs ⟨fI_in w 21, fun a ea => pr_rt ⟨fI_in w 16, fun b eb => pr_fun ?_⟩⟩
    subst ea
    subst eb
    rw [hf]
    repeat first | refine bq_t (by decide) ?_ | refine bq_f (by decide) ?_
    exact hP
  · unfold wp_Md_operate
    rw [ho]
    repeat first | refine bq_t (by decide) ?_ | refine bq_f (by decide) ?_
    rw [H.e9, hf]
    unfold wp_Md_special
    repeat first | refine bq_t (by decide) ?_ | refine bq_f (by decide) ?_
    skip
    skip
    exact md_ends H.e5 hQ

theorem i_s30 (H : pre mn g rg hq mf cd fg w dd bm rr kt) (ho : zz_ushr w 26 = 0) (hf : w &&& 63 = 30) : pfx ms mn g rg hq mf cd fg w dd bm rr kt := by
  refine pfx_mk H 3 (fun L O => (g, rg, hq, mf, cd, fg, L, O)) (fun dd l1 l2 => (upd dd 5 3, l1, l2, bm, rr, kt)) (fun L O P hP => ?_) (fun dd l1 l2 H L O => ⟨oc_end (by unfold q_e; simp) H.rel H.nxt rfl (fun j _ h => pk_un h), fun Q hQ => ?_⟩) (fun _ _ _ _ => rfl) (fun _ _ _ _ _ hs => ⟨by repeat first | exact hs | apply lo_upd, rfl, rfl, rfl⟩) (by first | exact Or.inr (fun _ _ => rfl) | exact Or.inl (by unfold q_e; decide)) (fun _ _ _ => rfl)
  · unfold wp_Pr_perform
    refine pr_op ?_
    rw [ho]
    repeat first | refine bq_t (by decide) ?_ | refine bq_f (by decide) ?_
    unfold wp_Pr_special
    refine pr_fun ?_
    rw [hf]
    repeat first | refine bq_t (by decide) ?_ | refine bq_f (by decide) ?_
    unfold wp_Pr_multiplyOrDivide
    refine pr_rs ⟨fI_in w 21, fun a ea => pr_rt ⟨fI_in w 16, fun b eb => pr_fun ?_⟩⟩
    subst ea
    subst eb
    rw [hf]
    repeat first | refine bq_t (by decide) ?_ | refine bq_f (by decide) ?_
    exact hP
  · unfold wp_Md_operate
    rw [ho]
    repeat first | refine bq_t (by decide) ?_ | refine bq_f (by decide) ?_
    rw [H.e9, hf]
    unfold wp_Md_special
    repeat first | refine bq_t (by decide) ?_ | refine bq_f (by decide) ?_
    skip
    skip
    exact md_ends H.e5 hQ

theorem i_s31 (H : pre mn g rg hq mf cd fg w dd bm rr kt) (ho : zz_ushr w 26 = 0) (hf : w &&& 63 = 31) : pfx ms mn g rg hq mf cd fg w dd bm rr kt := by
  refine pfx_mk H 3 (fun L O => (g, rg, hq, mf, cd, fg, L, O)) (fun dd l1 l2 => (upd dd 5 3, l1, l2, bm, rr, kt)) (fun L O P hP => ?_) (fun dd l1 l2 H L O => ⟨oc_end (by unfold q_e; simp) H.rel H.nxt rfl (fun j _ h => pk_un h), fun Q hQ => ?_⟩) (fun _ _ _ _ => rfl) (fun _ _ _ _ _ hs => ⟨by repeat first | exact hs | apply lo_upd, rfl, rfl, rfl⟩) (by first | exact Or.inr (fun _ _ => rfl) | exact Or.inl (by unfold q_e; decide)) (fun _ _ _ => rfl)
  · unfold wp_Pr_perform
    refine pr_op ?_
    rw [ho]
    repeat first | refine bq_t (by decide) ?_ | refine bq_f (by decide) ?_
    unfold wp_Pr_special
    refine pr_fun ?_
    rw [hf]
    repeat first | refine bq_t (by decide) ?_ | refine bq_f (by decide) ?_
    unfold wp_Pr_multiplyOrDivide
    refine pr_rs ⟨fI_in w 21, fun a ea => pr_rt ⟨fI_in w 16, fun b eb => pr_fun ?_⟩⟩
    subst ea
    subst eb
    rw [hf]
    repeat first | refine bq_t (by decide) ?_ | refine bq_f (by decide) ?_
    exact hP
  · unfold wp_Md_operate
    rw [ho]
    repeat first | refine bq_t (by decide) ?_ | refine bq_f (by decide) ?_
    rw [H.e9, hf]
    unfold wp_Md_special
    repeat first | refine bq_t (by decide) ?_ | refine bq_f (by decide) ?_
    skip
    skip
    exact md_ends H.e5 hQ

theorem i_s40 (H : pre mn g rg hq mf cd fg w dd bm rr kt) (ho : zz_ushr w 26 = 0) (hf : w &&& 63 = 40) : pfx ms mn g rg hq mf cd fg w dd bm rr kt := by
  refine pfx_mk H 3 (fun L O => (g, rg, hq, mf, cd, fg, L, O)) (fun dd l1 l2 => (upd dd 5 3, l1, l2, bm, rr, kt)) (fun L O P hP => ?_) (fun dd l1 l2 H L O => ⟨oc_end (by unfold q_e; simp) H.rel H.nxt rfl (fun j _ h => pk_un h), fun Q hQ => ?_⟩) (fun _ _ _ _ => rfl) (fun _ _ _ _ _ hs => ⟨by repeat first | exact hs | apply lo_upd, rfl, rfl, rfl⟩) (by first | exact Or.inr (fun _ _ => rfl) | exact Or.inl (by unfold q_e; decide)) (fun _ _ _ => rfl)
  · unfold wp_Pr_perform
    refine pr_op ?_
    rw [ho]
    repeat first | refine bq_t (by decide) ?_ | refine bq_f (by decide) ?_
    unfold wp_Pr_special
    refine pr_fun ?_
    rw [hf]
    repeat first | refine bq_t (by decide) ?_ | refine bq_f (by decide) ?_
    unfold wp_Pr_arithmetic
    refine pr_rs ⟨fI_in w 21, fun a ea => pr_rt ⟨fI_in w 16, fun b eb => pr_fun ?_⟩⟩
    subst ea
    subst eb
    rw [hf]
    repeat first | refine bq_t (by decide) ?_ | refine bq_f (by decide) ?_
    exact hP
  · unfold wp_Md_operate
    rw [ho]
    repeat first | refine bq_t (by decide) ?_ | refine bq_f (by decide) ?_
    rw [H.e9, hf]
    unfold wp_Md_special
    repeat first | refine bq_t (by decide) ?_ | refine bq_f (by decide) ?_
    skip
    skip
    exact md_ends H.e5 hQ

theorem i_s41 (H : pre mn g rg hq mf cd fg w dd bm rr kt) (ho : zz_ushr w 26 = 0) (hf : w &&& 63 = 41) : pfx ms mn g rg hq mf cd fg w dd bm rr kt := by
  refine pfx_mk H 3 (fun L O => (g, rg, hq, mf, cd, fg, L, O)) (fun dd l1 l2 => (upd dd 5 3, l1, l2, bm, rr, kt)) (fun L O P hP => ?_) (fun dd l1 l2 H L O => ⟨oc_end (by unfold q_e; simp) H.rel H.nxt rfl (fun j _ h => pk_un h), fun Q hQ => ?_⟩) (fun _ _ _ _ => rfl) (fun _ _ _ _ _ hs => ⟨by repeat first | exact hs | apply lo_upd, rfl, rfl, rfl⟩) (by first | exact Or.inr (fun _ _ => rfl) | exact Or.inl (by unfold q_e; decide)) (fun _ _ _ => rfl)
  · unfold wp_Pr_perform
    refine pr_op ?_
    rw [ho]
    repeat first | refine bq_t (by decide) ?_ | refine bq_f (by decide) ?_
    unfold wp_Pr_special
    refine pr_fun ?_
    rw [hf]
    repeat first | refine bq_t (by decide) ?_ | refine bq_f (by decide) ?_
    unfold wp_Pr_arithmetic
    refine pr_rs ⟨fI_in w 21, fun a ea => pr_rt ⟨fI_in w 16, fun b eb => pr_fun ?_⟩⟩
    subst ea
    subst eb
    rw [hf]
    repeat first | refine bq_t (by decide) ?_ | refine bq_f (by decide) ?_
    exact hP
  · unfold wp_Md_operate
    rw [ho]
    repeat first | refine bq_t (by decide) ?_ | refine bq_f (by decide) ?_
    rw [H.e9, hf]
    unfold wp_Md_special
    repeat first | refine bq_t (by decide) ?_ | refine bq_f (by decide) ?_
    skip
    skip
    exact md_ends H.e5 hQ

theorem i_s44 (H : pre mn g rg hq mf cd fg w dd bm rr kt) (ho : zz_ushr w 26 = 0) (hf : w &&& 63 = 44) : pfx ms mn g rg hq mf cd fg w dd bm rr kt := by
  refine pfx_mk H 3 (fun L O => (g, rg, hq, mf, cd, fg, L, O)) (fun dd l1 l2 => (upd dd 5 3, l1, l2, bm, rr, kt)) (fun L O P hP => ?_) (fun dd l1 l2 H L O => ⟨oc_end (by unfold q_e; simp) H.rel H.nxt rfl (fun j _ h => pk_un h), fun Q hQ => ?_⟩) (fun _ _ _ _ => rfl) (fun _ _ _ _ _ hs => ⟨by repeat first | exact hs | apply lo_upd, rfl, rfl, rfl⟩) (by first | exact Or.inr (fun _ _ => rfl) | exact Or.inl (by unfold q_e; decide)) (fun _ _ _ => rfl)
  · unfold wp_Pr_perform
    refine pr_op ?_
    rw [ho]
    repeat first | refine bq_t (by decide) ?_ | refine bq_f (by decide) ?_
    unfold wp_Pr_special
    refine pr_fun ?_
    rw [hf]
    repeat first | refine bq_t (by decide) ?_ | refine bq_f (by decide) ?_
    unfold wp_Pr_arithmetic
    refine pr_rs ⟨fI_in w 21, fun a ea => pr_rt ⟨fI_in w 16, fun b eb => pr_fun ?_⟩⟩
    subst ea
    subst eb
    rw [hf]
    repeat first | refine bq_t (by decide) ?_ | refine bq_f (by decide) ?_
    exact hP
  · unfold wp_Md_operate
    rw [ho]
    repeat first | refine bq_t (by decide) ?_ | refine bq_f (by decide) ?_
    rw [H.e9, hf]
    unfold wp_Md_special
    repeat first | refine bq_t (by decide) ?_ | refine bq_f (by decide) ?_
    skip
    skip
    exact md_ends H.e5 hQ

theorem i_s45 (H : pre mn g rg hq mf cd fg w dd bm rr kt) (ho : zz_ushr w 26 = 0) (hf : w &&& 63 = 45) : pfx ms mn g rg hq mf cd fg w dd bm rr kt := by
  refine pfx_mk H 3 (fun L O => (g, rg, hq, mf, cd, fg, L, O)) (fun dd l1 l2 => (upd dd 5 3, l1, l2, bm, rr, kt)) (fun L O P hP => ?_) (fun dd l1 l2 H L O => ⟨oc_end (by unfold q_e; simp) H.rel H.nxt rfl (fun j _ h => pk_un h), fun Q hQ => ?_⟩) (fun _ _ _ _ => rfl) (fun _ _ _ _ _ hs => ⟨by repeat first | exact hs | apply lo_upd, rfl, rfl, rfl⟩) (by first | exact Or.inr (fun _ _ => rfl) | exact Or.inl (by unfold q_e; decide)) (fun _ _ _ => rfl)
  · unfold wp_Pr_perform
    refine pr_op ?_
    rw [ho]
    repeat first | refine bq_t (by decide) ?_ | refine bq_f (by decide) ?_
    unfold wp_Pr_special
    refine pr_fun ?_
    rw [hf]
    repeat first | refine bq_t (by decide) ?_ | refine bq_f (by decide) ?_
    unfold wp_Pr_arithmetic
    refine pr_rs ⟨fI_in w 21, fun a ea => pr_rt ⟨fI_in w 16, fun b eb => pr_fun ?_⟩⟩
    subst ea
    subst eb
    rw [hf]
    repeat first | refine bq_t (by decide) ?_ | refine bq_f (by decide) ?_
    exact hP
  · unfold wp_Md_operate
    rw [ho]
    repeat first | refine bq_t (by decide) ?_ | refine bq_f (by decide) ?_
    rw [H.e9, hf]
    unfold wp_Md_special
    repeat first | refine bq_t (by decide) ?_ | refine bq_f (by decide) ?_
    skip
    skip
    exact md_ends H.e5 hQ

theorem i_s46 (H : pre mn g rg hq mf cd fg w dd bm rr kt) (ho : zz_ushr w 26 = 0) (hf : w &&& 63 = 46) : pfx ms mn g rg hq mf cd fg w dd bm rr kt := by
  refine pfx_mk H 3 (fun L O => (g, rg, hq, mf, cd, fg, L, O)) (fun dd l1 l2 => (upd dd 5 3, l1, l2, bm, rr, kt)) (fun L O P hP => ?_) (fun dd l1 l2 H L O => ⟨oc_end (by unfold q_e; simp) H.rel H.nxt rfl (fun j _ h => pk_un h), fun Q hQ => ?_⟩) (fun _ _ _ _ => rfl) (fun _ _ _ _ _ hs => ⟨by repeat first | exact hs | apply lo_upd, rfl, rfl, rfl⟩) (by first | exact Or.inr (fun _ _ => rfl) | exact Or.inl (by unfold q_e; decide)) (fun _ _ _ => rfl)
  · unfold wp_Pr_perform
    refine pr_op ?_
    rw [ho]
    repeat first | refine bq_t (by decide) ?_ | refine bq_f (by decide) ?_
    unfold wp_Pr_special
    refine pr_fun ?_
    rw [hf]
    repeat first | refine bq_t (by decide) ?_ | refine bq_f (by decide) ?_
    unfold wp_Pr_arithmetic
    refine pr_rs ⟨fI_in w 21, fun a ea => pr_rt ⟨fI_in w 16, fun b eb => pr_fun ?_⟩⟩
    subst ea
    subst eb
    rw [hf]
    repeat first | refine bq_t (by decide) ?_ | refine bq_f (by decide) ?_
    exact hP
  · unfold wp_Md_operate
    rw [ho]
    repeat first | refine bq_t (by decide) ?_ | refine bq_f (by decide) ?_
    rw [H.e9, hf]
    unfold wp_Md_special
    repeat first | refine bq_t (by decide) ?_ | refine bq_f (by decide) ?_
    skip
    skip
    exact md_ends H.e5 hQ

theorem i_s47 (H : pre mn g rg hq mf cd fg w dd bm rr kt) (ho : zz_ushr w 26 = 0) (hf : w &&& 63 = 47) : pfx ms mn g rg hq mf cd fg w dd bm rr kt := by
  refine pfx_mk H 3 (fun L O => (g, rg, hq, mf, cd, fg, L, O)) (fun dd l1 l2 => (upd dd 5 3, l1, l2, bm, rr, kt)) (fun L O P hP => ?_) (fun dd l1 l2 H L O => ⟨oc_end (by unfold q_e; simp) H.rel H.nxt rfl (fun j _ h => pk_un h), fun Q hQ => ?_⟩) (fun _ _ _ _ => rfl) (fun _ _ _ _ _ hs => ⟨by repeat first | exact hs | apply lo_upd, rfl, rfl, rfl⟩) (by first | exact Or.inr (fun _ _ => rfl) | exact Or.inl (by unfold q_e; decide)) (fun _ _ _ => rfl)
  · unfold wp_Pr_perform
    refine pr_op ?_
    rw [ho]
    repeat first | refine bq_t (by decide) ?_ | refine bq_f (by decide) ?_
    unfold wp_Pr_special
    refine pr_fun ?_
    rw [hf]
    repeat first | refine bq_t (by decide) ?_ | refine bq_f (by decide) ?_
    unfold wp_Pr_arithmetic
    refine pr_rs ⟨fI_in w 21, fun a ea => pr_rt ⟨fI_in w 16, fun b eb => pr_fun ?_⟩⟩
    subst ea
    subst eb
    rw [hf]
    repeat first | refine bq_t (by decide) ?_ | refine bq_f (by decide) ?_
    exact hP
  · unfold wp_Md_operate
    rw [ho]
    repeat first | refine bq_t (by decide) ?_ | refine bq_f (by decide) ?_
    rw [H.e9, hf]
    unfold wp_Md_special
    repeat first | refine bq_t (by decide) ?_ | refine bq_f (by decide) ?_
    skip
    skip
    exact md_ends H.e5 hQ

theorem i_s56 (H : pre mn g rg hq mf cd fg w dd bm rr kt) (ho : zz_ushr w 26 = 0) (hf : w &&& 63 = 56) : pfx ms mn g rg hq mf cd fg w dd bm rr kt := by
  refine pfx_mk H 3 (fun L O => (g, rg, hq, mf, cd, fg, L, O)) (fun dd l1 l2 => (upd dd 5 3, l1, l2, bm, rr, kt)) (fun L O P hP => ?_) (fun dd l1 l2 H L O => ⟨oc_end (by unfold q_e; simp) H.rel H.nxt rfl (fun j _ h => pk_un h), fun Q hQ => ?_⟩) (fun _ _ _ _ => rfl) (fun _ _ _ _ _ hs => ⟨by repeat first | exact hs | apply lo_upd, rfl, rfl, rfl⟩) (by first | exact Or.inr (fun _ _ => rfl) | exact Or.inl (by unfold q_e; decide)) (fun _ _ _ => rfl)
  · unfold wp_Pr_perform
    refine pr_op ?_
    rw [ho]
    repeat first | refine bq_t (by decide) ?_ | refine bq_f (by decide) ?_
    unfold wp_Pr_special
    refine pr_fun ?_
    rw [hf]
    repeat first | refine bq_t (by decide) ?_ | refine bq_f (by decide) ?_
    exact hP
  · unfold wp_Md_operate
    rw [ho]
    repeat first | refine bq_t (by decide) ?_ | refine bq_f (by decide) ?_
    rw [H.e9, hf]
    unfold wp_Md_special
    repeat first | refine bq_t (by decide) ?_ | refine bq_f (by decide) ?_
    skip
    skip
    exact md_ends H.e5 hQ

theorem i_s57 (H : pre mn g rg hq mf cd fg w dd bm rr kt) (ho : zz_ushr w 26 = 0) (hf : w &&& 63 = 57) : pfx ms mn g rg hq mf cd fg w dd bm rr kt := by
  refine pfx_mk H 3 (fun L O => (g, rg, hq, mf, cd, fg, L, O)) (fun dd l1 l2 => (upd dd 5 3, l1, l2, bm, rr, kt)) (fun L O P hP => ?_) (fun dd l1 l2 H L O => ⟨oc_end (by unfold q_e; simp) H.rel H.nxt rfl (fun j _ h => pk_un h), fun Q hQ => ?_⟩) (fun _ _ _ _ => rfl) (fun _ _ _ _ _ hs => ⟨by repeat first | exact hs | apply lo_upd, rfl, rfl, rfl⟩) (by first | exact Or.inr (fun _ _ => rfl) | exact Or.inl (by unfold q_e; decide)) (fun _ _ _ => rfl)
  · unfold wp_Pr_perform
    refine pr_op ?_
    rw [ho]
    repeat first | refine bq_t (by decide) ?_ | refine bq_f (by decide) ?_
    unfold wp_Pr_special
    refine pr_fun ?_
    rw [hf]
    repeat first | refine bq_t (by decide) ?_ | refine bq_f (by decide) ?_
    exact hP
  · unfold wp_Md_operate
    rw [ho]
    repeat first | refine bq_t (by decide) ?_ | refine bq_f (by decide) ?_
    rw [H.e9, hf]
    unfold wp_Md_special
    repeat first | refine bq_t (by decide) ?_ | refine bq_f (by decide) ?_
    skip
    skip
    exact md_ends H.e5 hQ

theorem i_s58 (H : pre mn g rg hq mf cd fg w dd bm rr kt) (ho : zz_ushr w 26 = 0) (hf : w &&& 63 = 58) : pfx ms mn g rg hq mf cd fg w dd bm rr kt := by
  refine pfx_mk H 3 (fun L O => (g, rg, hq, mf, cd, fg, L, O)) (fun dd l1 l2 => (upd dd 5 3, l1, l2, bm, rr, kt)) (fun L O P hP => ?_) (fun dd l1 l2 H L O => ⟨oc_end (by unfold q_e; simp) H.rel H.nxt rfl (fun j _ h => pk_un h), fun Q hQ => ?_⟩) (fun _ _ _ _ => rfl) (fun _ _ _ _ _ hs => ⟨by repeat first | exact hs | apply lo_upd, rfl, rfl, rfl⟩) (by first | exact Or.inr (fun _ _ => rfl) | exact Or.inl (by unfold q_e; decide)) (fun _ _ _ => rfl)
  · unfold wp_Pr_perform
    refine pr_op ?_
    rw [ho]
    repeat first | refine bq_t (by decide) ?_ | refine bq_f (by decide) ?_
    unfold wp_Pr_special
    refine pr_fun ?_
    rw [hf]
    repeat first | refine bq_t (by decide) ?_ | refine bq_f (by decide) ?_
    exact hP
  · unfold wp_Md_operate
    rw [ho]
    repeat first | refine bq_t (by decide) ?_ | refine bq_f (by decide) ?_
    rw [H.e9, hf]
    unfold wp_Md_special
    repeat first | refine bq_t (by decide) ?_ | refine bq_f (by decide) ?_
    skip
    skip
    exact md_ends H.e5 hQ

theorem i_s59 (H : pre mn g rg hq mf cd fg w dd bm rr kt) (ho : zz_ushr w 26 = 0) (hf : w &&& 63 = 59) : pfx ms mn g rg hq mf cd fg w dd bm rr kt := by
  refine pfx_mk H 3 (fun L O => (g, rg, hq, mf, cd, fg, L, O)) (fun dd l1 l2 => (upd dd 5 3, l1, l2, bm, rr, kt)) (fun L O P hP => ?_) (fun dd l1 l2 H L O => ⟨oc_end (by unfold q_e; simp) H.rel H.nxt rfl (fun j _ h => pk_un h), fun Q hQ => ?_⟩) (fun _ _ _ _ => rfl) (fun _ _ _ _ _ hs => ⟨by repeat first | exact hs | apply lo_upd, rfl, rfl, rfl⟩) (by first | exact Or.inr (fun _ _ => rfl) | exact Or.inl (by unfold q_e; decide)) (fun _ _ _ => rfl)
  · unfold wp_Pr_perform
    refine pr_op ?_
    rw [ho]
    repeat first | refine bq_t (by decide) ?_ | refine bq_f (by decide) ?_
    unfold wp_Pr_special
    refine pr_fun ?_
    rw [hf]
    repeat first | refine bq_t (by decide) ?_ | refine bq_f (by decide) ?_
    exact hP
  · unfold wp_Md_operate
    rw [ho]
    repeat first | refine bq_t (by decide) ?_ | refine bq_f (by decide) ?_
    rw [H.e9, hf]
    unfold wp_Md_special
    repeat first | refine bq_t (by decide) ?_ | refine bq_f (by decide) ?_
    skip
    skip
    exact md_ends H.e5 hQ

theorem i_s60 (H : pre mn g rg hq mf cd fg w dd bm rr kt) (ho : zz_ushr w 26 = 0) (hf : w &&& 63 = 60) : pfx ms mn g rg hq mf cd fg w dd bm rr kt := by
  refine pfx_mk H 3 (fun L O => (g, rg, hq, mf, cd, fg, L, O)) (fun dd l1 l2 => (upd dd 5 3, l1, l2, bm, rr, kt)) (fun L O P hP => ?_) (fun dd l1 l2 H L O => ⟨oc_end (by unfold q_e; simp) H.rel H.nxt rfl (fun j _ h => pk_un h), fun Q hQ => ?_⟩) (fun _ _ _ _ => rfl) (fun _ _ _ _ _ hs => ⟨by repeat first | exact hs | apply lo_upd, rfl, rfl, rfl⟩) (by first | exact Or.inr (fun _ _ => rfl) | exact Or.inl (by unfold q_e; decide)) (fun _ _ _ => rfl)
  · unfold wp_Pr_perform
    refine pr_op ?_
    rw [ho]
    repeat first | refine bq_t (by decide) ?_ | refine bq_f (by decide) ?_
    unfold wp_Pr_special
    refine pr_fun ?_
    rw [hf]
    repeat first | refine bq_t (by decide) ?_ | refine bq_f (by decide) ?_
    exact hP
  · unfold wp_Md_operate
    rw [ho]
    repeat first | refine bq_t (by decide) ?_ | refine bq_f (by decide) ?_
    rw [H.e9, hf]
    unfold wp_Md_special
    repeat first | refine bq_t (by decide) ?_ | refine bq_f (by decide) ?_
    skip
    skip
    exact md_ends H.e5 hQ

theorem i_s61 (H : pre mn g rg hq mf cd fg w dd bm rr kt) (ho : zz_ushr w 26 = 0) (hf : w &&& 63 = 61) : pfx ms mn g rg hq mf cd fg w dd bm rr kt := by
  refine pfx_mk H 3 (fun L O => (g, rg, hq, mf, cd, fg, L, O)) (fun dd l1 l2 => (upd dd 5 3, l1, l2, bm, rr, kt)) (fun L O P hP => ?_) (fun dd l1 l2 H L O => ⟨oc_end (by unfold q_e; simp) H.rel H.nxt rfl (fun j _ h => pk_un h), fun Q hQ => ?_⟩) (fun _ _ _ _ => rfl) (fun _ _ _ _ _ hs => ⟨by repeat first | exact hs | apply lo_upd, rfl, rfl, rfl⟩) (by first | exact Or.inr (fun _ _ => rfl) | exact Or.inl (by unfold q_e; decide)) (fun _ _ _ => rfl)
  · unfold wp_Pr_perform
    refine pr_op ?_
    rw [ho]
    repeat first | refine bq_t (by decide) ?_ | refine bq_f (by decide) ?_
    unfold wp_Pr_special
    refine pr_fun ?_
    rw [hf]
    repeat first | refine bq_t (by decide) ?_ | refine bq_f (by decide) ?_
    exact hP
  · unfold wp_Md_operate
    rw [ho]
    repeat first | refine bq_t (by decide) ?_ | refine bq_f (by decide) ?_
    rw [H.e9, hf]
    unfold wp_Md_special
    repeat first | refine bq_t (by decide) ?_ | refine bq_f (by decide) ?_
    skip
    skip
    exact md_ends H.e5 hQ

theorem i_s62 (H : pre mn g rg hq mf cd fg w dd bm rr kt) (ho : zz_ushr w 26 = 0) (hf : w &&& 63 = 62) : pfx ms mn g rg hq mf cd fg w dd bm rr kt := by
  refine pfx_mk H 3 (fun L O => (g, rg, hq, mf, cd, fg, L, O)) (fun dd l1 l2 => (upd dd 5 3, l1, l2, bm, rr, kt)) (fun L O P hP => ?_) (fun dd l1 l2 H L O => ⟨oc_end (by unfold q_e; simp) H.rel H.nxt rfl (fun j _ h => pk_un h), fun Q hQ => ?_⟩) (fun _ _ _ _ => rfl) (fun _ _ _ _ _ hs => ⟨by repeat first | exact hs | apply lo_upd, rfl, rfl, rfl⟩) (by first | exact Or.inr (fun _ _ => rfl) | exact Or.inl (by unfold q_e; decide)) (fun _ _ _ => rfl)
  · unfold wp_Pr_perform
    refine pr_op ?_
    rw [ho]
    repeat first | refine bq_t (by decide) ?_ | refine bq_f (by decide) ?_
    unfold wp_Pr_special
    refine pr_fun ?_
    rw [hf]
    repeat first | refine bq_t (by decide) ?_ | refine bq_f (by decide) ?_
    exact hP
  · unfold wp_Md_operate
    rw [ho]
    repeat first | refine bq_t (by decide) ?_ | refine bq_f (by decide) ?_
    rw [H.e9, hf]
    unfold wp_Md_special
    repeat first | refine bq_t (by decide) ?_ | refine bq_f (by decide) ?_
    skip
    skip
    exact md_ends H.e5 hQ

theorem i_s63 (H : pre mn g rg hq mf cd fg w dd bm rr kt) (ho : zz_ushr w 26 = 0) (hf : w &&& 63 = 63) : pfx ms mn g rg hq mf cd fg w dd bm rr kt := by
  refine pfx_mk H 3 (fun L O => (g, rg, hq, mf, cd, fg, L, O)) (fun dd l1 l2 => (upd dd 5 3, l1, l2, bm, rr, kt)) (fun L O P hP => ?_) (fun dd l1 l2 H L O => ⟨oc_end (by unfold q_e; simp) H.rel H.nxt rfl (fun j _ h => pk_un h), fun Q hQ => ?_⟩) (fun _ _ _ _ => rfl) (fun _ _ _ _ _ hs => ⟨by repeat first | exact hs | apply lo_upd, rfl, rfl, rfl⟩) (by first | exact Or.inr (fun _ _ => rfl) | exact Or.inl (by unfold q_e; decide)) (fun _ _ _ => rfl)
  · unfold wp_Pr_perform
    refine pr_op ?_
    rw [ho]
    repeat first | refine bq_t (by decide) ?_ | refine bq_f (by decide) ?_
    unfold wp_Pr_special
    refine pr_fun ?_
    rw [hf]
    repeat first | refine bq_t (by decide) ?_ | refine bq_f (by decide) ?_
    exact hP
  · unfold wp_Md_operate
    rw [ho]
    repeat first | refine bq_t (by decide) ?_ | refine bq_f (by decide) ?_
    rw [H.e9, hf]
    unfold wp_Md_special
    repeat first | refine bq_t (by decide) ?_ | refine bq_f (by decide) ?_
    skip
    skip
    exact md_ends H.e5 hQ

theorem i_mfhi (H : pre mn g rg hq mf cd fg w dd bm rr kt) (ho : zz_ushr w 26 = 0) (hf : w &&& 63 = 16) : pfx ms mn g rg hq mf cd fg w dd bm rr kt := by
  by_cases hv : hq 2 = 0
  · refine pfx_mk H 8 (fun L O => (g, rg, hq, mf, cd, fg, L, O)) (fun dd l1 l2 => (upd dd 5 8, l1, l2, bm, rr, kt)) (fun L O P hP => ?_) (fun dd l1 l2 H L O => ⟨oc_end (by unfold q_e; simp) H.rel H.nxt rfl (fun j _ h => pk_un h), fun Q hQ => ?_⟩) (fun _ _ _ _ => rfl) (fun _ _ _ _ _ hs => ⟨by repeat first | exact hs | apply lo_upd, rfl, rfl, rfl⟩) (by first | exact Or.inr (fun _ _ => rfl) | exact Or.inl (by unfold q_e; decide)) (fun _ _ _ => rfl)
    · unfold wp_Pr_perform
      refine pr_op ?_
      rw [ho]
      repeat first | refine bq_t (by decide) ?_ | refine bq_f (by decide) ?_
      unfold wp_Pr_special
      refine pr_fun ?_
      rw [hf]
      repeat first | refine bq_t (by decide) ?_ | refine bq_f (by decide) ?_
      unfold wp_Pr_moveHiLo
      refine pr_fun ?_
      rw [hf]
      repeat first | refine bq_t (by decide) ?_ | refine bq_f (by decide) ?_
      exact bq_t hv hP
    · unfold wp_Md_operate
      rw [ho]
      repeat first | refine bq_t (by decide) ?_ | refine bq_f (by decide) ?_
      rw [H.e9, hf]
      unfold wp_Md_special
      repeat first | refine bq_t (by decide) ?_ | refine bq_f (by decide) ?_
      try unfold wp_Md_halves
      repeat first | refine bq_t (by decide) ?_ | refine bq_f (by decide) ?_
      skip
      have h1 : dd 1 = hq 2 := H.rel.2.2.1.2.1
      refine fun x ex => ?_
      rw [h1] at ex
      subst ex
      repeat first | refine bq_t (by decide) ?_ | refine bq_f (by decide) ?_
      exact bq_t hv (md_ends H.e5 (md_field H.e9 ⟨by unfold vp_in; decide, fun y ey => md_into_n (show ¬ (8 : Int32) = 0 by decide) hQ⟩))
  · refine pfx_mk H 0 (fun L O => (g, wr rg (fI w 11) (hq 0), hq, mf, cd, fg, L, O)) (fun dd l1 l2 => (dd, l1, l2, bm, wr rr (fI w 11) (hq 0), kt)) (fun L O P hP => ?_) (fun dd l1 l2 H L O => ⟨oc_0 (q_wr H.rel) H.e5 H.e11 H.e12 H.e13, fun Q hQ => ?_⟩) (fun _ _ _ _ => rfl) (fun _ _ _ _ _ hs => ⟨by repeat first | exact hs | apply lo_upd, rfl, rfl, rfl⟩) (by first | exact Or.inr (fun _ _ => rfl) | exact Or.inl (by unfold q_e; decide)) (fun _ _ _ => rfl)
    · unfold wp_Pr_perform
      refine pr_op ?_
      rw [ho]
      repeat first | refine bq_t (by decide) ?_ | refine bq_f (by decide) ?_
      unfold wp_Pr_special
      refine pr_fun ?_
      rw [hf]
      repeat first | refine bq_t (by decide) ?_ | refine bq_f (by decide) ?_
      unfold wp_Pr_moveHiLo
      refine pr_fun ?_
      rw [hf]
      repeat first | refine bq_t (by decide) ?_ | refine bq_f (by decide) ?_
      exact bq_f hv (pr_rd (pr_result hP))
    · unfold wp_Md_operate
      rw [ho]
      repeat first | refine bq_t (by decide) ?_ | refine bq_f (by decide) ?_
      rw [H.e9, hf]
      unfold wp_Md_special
      repeat first | refine bq_t (by decide) ?_ | refine bq_f (by decide) ?_
      try unfold wp_Md_halves
      repeat first | refine bq_t (by decide) ?_ | refine bq_f (by decide) ?_
      skip
      have h1 : dd 1 = hq 2 := H.rel.2.2.1.2.1
      refine fun x ex => ?_
      rw [h1] at ex
      subst ex
      repeat first | refine bq_t (by decide) ?_ | refine bq_f (by decide) ?_
      refine bq_f hv (md_field H.e9 ⟨by unfold vp_in; decide, fun y ey => ?_⟩)
      rw [show (32 : Int32).toNatClampNeg = 32 by decide, H.rel.2.2.1.2.2.2 hv] at ey
      subst ey
      exact md_into H.e5 hQ

theorem i_mflo (H : pre mn g rg hq mf cd fg w dd bm rr kt) (ho : zz_ushr w 26 = 0) (hf : w &&& 63 = 18) : pfx ms mn g rg hq mf cd fg w dd bm rr kt := by
  by_cases hv : hq 3 = 0
  · refine pfx_mk H 8 (fun L O => (g, rg, hq, mf, cd, fg, L, O)) (fun dd l1 l2 => (upd dd 5 8, l1, l2, bm, rr, kt)) (fun L O P hP => ?_) (fun dd l1 l2 H L O => ⟨oc_end (by unfold q_e; simp) H.rel H.nxt rfl (fun j _ h => pk_un h), fun Q hQ => ?_⟩) (fun _ _ _ _ => rfl) (fun _ _ _ _ _ hs => ⟨by repeat first | exact hs | apply lo_upd, rfl, rfl, rfl⟩) (by first | exact Or.inr (fun _ _ => rfl) | exact Or.inl (by unfold q_e; decide)) (fun _ _ _ => rfl)
    · unfold wp_Pr_perform
      refine pr_op ?_
      rw [ho]
      repeat first | refine bq_t (by decide) ?_ | refine bq_f (by decide) ?_
      unfold wp_Pr_special
      refine pr_fun ?_
      rw [hf]
      repeat first | refine bq_t (by decide) ?_ | refine bq_f (by decide) ?_
      unfold wp_Pr_moveHiLo
      refine pr_fun ?_
      rw [hf]
      repeat first | refine bq_t (by decide) ?_ | refine bq_f (by decide) ?_
      exact bq_t hv hP
    · unfold wp_Md_operate
      rw [ho]
      repeat first | refine bq_t (by decide) ?_ | refine bq_f (by decide) ?_
      rw [H.e9, hf]
      unfold wp_Md_special
      repeat first | refine bq_t (by decide) ?_ | refine bq_f (by decide) ?_
      try unfold wp_Md_halves
      repeat first | refine bq_t (by decide) ?_ | refine bq_f (by decide) ?_
      skip
      have h1 : dd 2 = hq 3 := H.rel.2.2.2.1.2.1
      refine fun x ex => ?_
      rw [h1] at ex
      subst ex
      repeat first | refine bq_t (by decide) ?_ | refine bq_f (by decide) ?_
      exact bq_t hv (md_ends H.e5 (md_field H.e9 ⟨by unfold vp_in; decide, fun y ey => md_into_n (show ¬ (8 : Int32) = 0 by decide) hQ⟩))
  · refine pfx_mk H 0 (fun L O => (g, wr rg (fI w 11) (hq 1), hq, mf, cd, fg, L, O)) (fun dd l1 l2 => (dd, l1, l2, bm, wr rr (fI w 11) (hq 1), kt)) (fun L O P hP => ?_) (fun dd l1 l2 H L O => ⟨oc_0 (q_wr H.rel) H.e5 H.e11 H.e12 H.e13, fun Q hQ => ?_⟩) (fun _ _ _ _ => rfl) (fun _ _ _ _ _ hs => ⟨by repeat first | exact hs | apply lo_upd, rfl, rfl, rfl⟩) (by first | exact Or.inr (fun _ _ => rfl) | exact Or.inl (by unfold q_e; decide)) (fun _ _ _ => rfl)
    · unfold wp_Pr_perform
      refine pr_op ?_
      rw [ho]
      repeat first | refine bq_t (by decide) ?_ | refine bq_f (by decide) ?_
      unfold wp_Pr_special
      refine pr_fun ?_
      rw [hf]
      repeat first | refine bq_t (by decide) ?_ | refine bq_f (by decide) ?_
      unfold wp_Pr_moveHiLo
      refine pr_fun ?_
      rw [hf]
      repeat first | refine bq_t (by decide) ?_ | refine bq_f (by decide) ?_
      exact bq_f hv (pr_rd (pr_result hP))
    · unfold wp_Md_operate
      rw [ho]
      repeat first | refine bq_t (by decide) ?_ | refine bq_f (by decide) ?_
      rw [H.e9, hf]
      unfold wp_Md_special
      repeat first | refine bq_t (by decide) ?_ | refine bq_f (by decide) ?_
      try unfold wp_Md_halves
      repeat first | refine bq_t (by decide) ?_ | refine bq_f (by decide) ?_
      skip
      have h1 : dd 2 = hq 3 := H.rel.2.2.2.1.2.1
      refine fun x ex => ?_
      rw [h1] at ex
      subst ex
      repeat first | refine bq_t (by decide) ?_ | refine bq_f (by decide) ?_
      refine bq_f hv (md_field H.e9 ⟨by unfold vp_in; decide, fun y ey => ?_⟩)
      rw [show (33 : Int32).toNatClampNeg = 33 by decide, H.rel.2.2.2.1.2.2.2 hv] at ey
      subst ey
      exact md_into H.e5 hQ

theorem i_mthi (H : pre mn g rg hq mf cd fg w dd bm rr kt) (ho : zz_ushr w 26 = 0) (hf : w &&& 63 = 17) : pfx ms mn g rg hq mf cd fg w dd bm rr kt := by
  refine pfx_mk H 0 (fun L O => (g, rg, upd (upd hq 0 (rv rg w 21)) 2 1, mf, cd, fg, L, O)) (fun dd l1 l2 => (upd dd 1 1, l1, l2, bm, upd rr 32 (rv rg w 21), kt)) (fun L O P hP => ?_) (fun dd l1 l2 H L O => ⟨oc_0 (q_hi H.rel) H.e5 H.e11 H.e12 H.e13, fun Q hQ => ?_⟩) (fun _ _ _ _ => rfl) (fun _ _ _ _ _ hs => ⟨by repeat first | exact hs | apply lo_upd, rfl, rfl, rfl⟩) (by first | exact Or.inr (fun _ _ => rfl) | exact Or.inl (by unfold q_e; decide)) (fun _ _ _ => rfl)
  · unfold wp_Pr_perform
    refine pr_op ?_
    rw [ho]
    repeat first | refine bq_t (by decide) ?_ | refine bq_f (by decide) ?_
    unfold wp_Pr_special
    refine pr_fun ?_
    rw [hf]
    repeat first | refine bq_t (by decide) ?_ | refine bq_f (by decide) ?_
    unfold wp_Pr_moveHiLo
    refine pr_fun ?_
    rw [hf]
    repeat first | refine bq_t (by decide) ?_ | refine bq_f (by decide) ?_
    refine pr_rs ⟨fI_in w 21, fun x ex => ?_⟩
    subst ex
    exact hP
  · unfold wp_Md_operate
    rw [ho]
    repeat first | refine bq_t (by decide) ?_ | refine bq_f (by decide) ?_
    rw [H.e9, hf]
    unfold wp_Md_special
    repeat first | refine bq_t (by decide) ?_ | refine bq_f (by decide) ?_
    try unfold wp_Md_halves
    repeat first | refine bq_t (by decide) ?_ | refine bq_f (by decide) ?_
    skip
    refine fun x ex => ?_
    repeat first | refine bq_t (by decide) ?_ | refine bq_f (by decide) ?_
    exact md_rs H.e9 H.rel ⟨by unfold vp_in; decide, hQ⟩

theorem i_mtlo (H : pre mn g rg hq mf cd fg w dd bm rr kt) (ho : zz_ushr w 26 = 0) (hf : w &&& 63 = 19) : pfx ms mn g rg hq mf cd fg w dd bm rr kt := by
  refine pfx_mk H 0 (fun L O => (g, rg, upd (upd hq 1 (rv rg w 21)) 3 1, mf, cd, fg, L, O)) (fun dd l1 l2 => (upd dd 2 1, l1, l2, bm, upd rr 33 (rv rg w 21), kt)) (fun L O P hP => ?_) (fun dd l1 l2 H L O => ⟨oc_0 (q_lo H.rel) H.e5 H.e11 H.e12 H.e13, fun Q hQ => ?_⟩) (fun _ _ _ _ => rfl) (fun _ _ _ _ _ hs => ⟨by repeat first | exact hs | apply lo_upd, rfl, rfl, rfl⟩) (by first | exact Or.inr (fun _ _ => rfl) | exact Or.inl (by unfold q_e; decide)) (fun _ _ _ => rfl)
  · unfold wp_Pr_perform
    refine pr_op ?_
    rw [ho]
    repeat first | refine bq_t (by decide) ?_ | refine bq_f (by decide) ?_
    unfold wp_Pr_special
    refine pr_fun ?_
    rw [hf]
    repeat first | refine bq_t (by decide) ?_ | refine bq_f (by decide) ?_
    unfold wp_Pr_moveHiLo
    refine pr_fun ?_
    rw [hf]
    repeat first | refine bq_t (by decide) ?_ | refine bq_f (by decide) ?_
    refine pr_rs ⟨fI_in w 21, fun x ex => ?_⟩
    subst ex
    exact hP
  · unfold wp_Md_operate
    rw [ho]
    repeat first | refine bq_t (by decide) ?_ | refine bq_f (by decide) ?_
    rw [H.e9, hf]
    unfold wp_Md_special
    repeat first | refine bq_t (by decide) ?_ | refine bq_f (by decide) ?_
    try unfold wp_Md_halves
    repeat first | refine bq_t (by decide) ?_ | refine bq_f (by decide) ?_
    skip
    refine fun x ex => ?_
    repeat first | refine bq_t (by decide) ?_ | refine bq_f (by decide) ?_
    exact md_rs H.e9 H.rel ⟨by unfold vp_in; decide, hQ⟩

theorem i_mult (H : pre mn g rg hq mf cd fg w dd bm rr kt) (ho : zz_ushr w 26 = 0) (hf : w &&& 63 = 24) : pfx ms mn g rg hq mf cd fg w dd bm rr kt := by
  refine pfx_mk H 0 (fun L O => (g, rg, hlw hq (zz_lushr ((rv rg w 21).toInt64 * (rv rg w 16).toInt64) 32).toInt32 ((rv rg w 21).toInt64 * (rv rg w 16).toInt64).toInt32, mf, cd, fg, L, O)) (fun dd l1 l2 => (upd (upd dd 1 1) 2 1, l1, l2, bm, upd (upd rr 32 (zz_lushr ((rv rg w 21).toInt64 * (rv rg w 16).toInt64) 32).toInt32) 33 ((rv rg w 21).toInt64 * (rv rg w 16).toInt64).toInt32, kt)) (fun L O P hP => ?_) (fun dd l1 l2 H L O => ⟨oc_0 (q_both H.rel) H.e5 H.e11 H.e12 H.e13, fun Q hQ => ?_⟩) (fun _ _ _ _ => rfl) (fun _ _ _ _ _ hs => ⟨by repeat first | exact hs | apply lo_upd, rfl, rfl, rfl⟩) (by first | exact Or.inr (fun _ _ => rfl) | exact Or.inl (by unfold q_e; decide)) (fun _ _ _ => rfl)
  · unfold wp_Pr_perform
    refine pr_op ?_
    rw [ho]
    repeat first | refine bq_t (by decide) ?_ | refine bq_f (by decide) ?_
    unfold wp_Pr_special
    refine pr_fun ?_
    rw [hf]
    repeat first | refine bq_t (by decide) ?_ | refine bq_f (by decide) ?_
    unfold wp_Pr_multiplyOrDivide
    refine pr_rs ⟨fI_in w 21, fun a ea => pr_rt ⟨fI_in w 16, fun b eb => pr_fun ?_⟩⟩
    subst ea
    subst eb
    rw [hf]
    repeat first | refine bq_t (by decide) ?_ | refine bq_f (by decide) ?_
    exact hl_keep hP
  · unfold wp_Md_operate
    rw [ho]
    repeat first | refine bq_t (by decide) ?_ | refine bq_f (by decide) ?_
    rw [H.e9, hf]
    unfold wp_Md_special
    repeat first | refine bq_t (by decide) ?_ | refine bq_f (by decide) ?_
    try unfold wp_Md_products
    repeat first | refine bq_t (by decide) ?_ | refine bq_f (by decide) ?_
    skip
    first | refine md_rs H.e9 H.rel (md_rt H.e9 H.rel ?_) | (unfold wp_Md_product; refine bq_f (by decide) (md_rs H.e9 H.rel (md_rt H.e9 H.rel ?_)))
    refine md_both ?_
    rw [← hi_eq]
    exact hQ

theorem i_multu (H : pre mn g rg hq mf cd fg w dd bm rr kt) (ho : zz_ushr w 26 = 0) (hf : w &&& 63 = 25) : pfx ms mn g rg hq mf cd fg w dd bm rr kt := by
  refine pfx_mk H 0 (fun L O => (g, rg, hlw hq (zz_lushr (((rv rg w 21).toInt64 &&& (4294967295 : Int64)) * ((rv rg w 16).toInt64 &&& (4294967295 : Int64))) 32).toInt32 (((rv rg w 21).toInt64 &&& (4294967295 : Int64)) * ((rv rg w 16).toInt64 &&& (4294967295 : Int64))).toInt32, mf, cd, fg, L, O)) (fun dd l1 l2 => (upd (upd dd 1 1) 2 1, l1, l2, bm, upd (upd rr 32 (zz_lushr (((rv rg w 21).toInt64 &&& (4294967295 : Int64)) * ((rv rg w 16).toInt64 &&& (4294967295 : Int64))) 32).toInt32) 33 (((rv rg w 21).toInt64 &&& (4294967295 : Int64)) * ((rv rg w 16).toInt64 &&& (4294967295 : Int64))).toInt32, kt)) (fun L O P hP => ?_) (fun dd l1 l2 H L O => ⟨oc_0 (q_both H.rel) H.e5 H.e11 H.e12 H.e13, fun Q hQ => ?_⟩) (fun _ _ _ _ => rfl) (fun _ _ _ _ _ hs => ⟨by repeat first | exact hs | apply lo_upd, rfl, rfl, rfl⟩) (by first | exact Or.inr (fun _ _ => rfl) | exact Or.inl (by unfold q_e; decide)) (fun _ _ _ => rfl)
  · unfold wp_Pr_perform
    refine pr_op ?_
    rw [ho]
    repeat first | refine bq_t (by decide) ?_ | refine bq_f (by decide) ?_
    unfold wp_Pr_special
    refine pr_fun ?_
    rw [hf]
    repeat first | refine bq_t (by decide) ?_ | refine bq_f (by decide) ?_
    unfold wp_Pr_multiplyOrDivide
    refine pr_rs ⟨fI_in w 21, fun a ea => pr_rt ⟨fI_in w 16, fun b eb => pr_fun ?_⟩⟩
    subst ea
    subst eb
    rw [hf]
    repeat first | refine bq_t (by decide) ?_ | refine bq_f (by decide) ?_
    unfold wp_Pr_unsigned
    refine fun x ex y ey => ?_
    subst ex
    subst ey
    exact hl_keep hP
  · unfold wp_Md_operate
    rw [ho]
    repeat first | refine bq_t (by decide) ?_ | refine bq_f (by decide) ?_
    rw [H.e9, hf]
    unfold wp_Md_special
    repeat first | refine bq_t (by decide) ?_ | refine bq_f (by decide) ?_
    try unfold wp_Md_products
    repeat first | refine bq_t (by decide) ?_ | refine bq_f (by decide) ?_
    skip
    first | refine md_rs H.e9 H.rel (fun x ex => md_rt H.e9 H.rel (fun y ey => ?_)) | (unfold wp_Md_product; refine bq_t rfl (md_rs H.e9 H.rel (fun x ex => md_rt H.e9 H.rel (fun y ey => ?_))))
    subst ex
    subst ey
    refine md_both ?_
    rw [← hi_eq]
    exact hQ

theorem l_z (x : Int32) : x.toInt64 = 0 ↔ x = 0 := by
  rw [← Int64.toInt_inj, l_of_i, ← Int32.toInt_inj]; rfl
theorem u_z (x : Int32) : (x.toInt64 &&& (4294967295 : Int64)) = 0 ↔ x = 0 := by
  have := x.toBitVec.isLt
  rw [u_toN, fq_l0, fq_linj (by omega) (by decide), ← Int32.toBitVec_inj]
  constructor
  · intro h; exact BitVec.eq_of_toNat_eq h
  · intro h; rw [h]; rfl
theorem i_div (H : pre mn g rg hq mf cd fg w dd bm rr kt) (ho : zz_ushr w 26 = 0) (hf : w &&& 63 = 26) : pfx ms mn g rg hq mf cd fg w dd bm rr kt := by
  by_cases hv : rv rg w 16 = 0
  · refine pfx_mk H 0 (fun L O => (g, rg, hlf hq, mf, cd, fg, L, O)) (fun dd l1 l2 => (upd (upd dd 1 0) 2 0, l1, l2, bm, rr, kt)) (fun L O P hP => ?_) (fun dd l1 l2 H L O => ⟨oc_0 (q_forget H.rel) H.e5 H.e11 H.e12 H.e13, fun Q hQ => ?_⟩) (fun _ _ _ _ => rfl) (fun _ _ _ _ _ hs => ⟨by repeat first | exact hs | apply lo_upd, rfl, rfl, rfl⟩) (by first | exact Or.inr (fun _ _ => rfl) | exact Or.inl (by unfold q_e; decide)) (fun _ _ _ => rfl)
    · unfold wp_Pr_perform
      refine pr_op ?_
      rw [ho]
      repeat first | refine bq_t (by decide) ?_ | refine bq_f (by decide) ?_
      unfold wp_Pr_special
      refine pr_fun ?_
      rw [hf]
      repeat first | refine bq_t (by decide) ?_ | refine bq_f (by decide) ?_
      unfold wp_Pr_multiplyOrDivide
      refine pr_rs ⟨fI_in w 21, fun a ea => pr_rt ⟨fI_in w 16, fun b eb => pr_fun ?_⟩⟩
      subst ea
      subst eb
      rw [hf]
      repeat first | refine bq_t (by decide) ?_ | refine bq_f (by decide) ?_
      unfold wp_Hl_divide wp_Hl_forget
      exact bq_t ((l_z _).mpr hv) hP
    · unfold wp_Md_operate
      rw [ho]
      repeat first | refine bq_t (by decide) ?_ | refine bq_f (by decide) ?_
      rw [H.e9, hf]
      unfold wp_Md_special
      repeat first | refine bq_t (by decide) ?_ | refine bq_f (by decide) ?_
      try unfold wp_Md_products
      repeat first | refine bq_t (by decide) ?_ | refine bq_f (by decide) ?_
      skip
      exact md_rt H.e9 H.rel (bq_t hv hQ)
  · refine pfx_mk H 0 (fun L O => (g, rg, hlw hq ((rv rg w 21).toInt64 - (rv rg w 21).toInt64 / (rv rg w 16).toInt64 * (rv rg w 16).toInt64).toInt32 ((rv rg w 21).toInt64 / (rv rg w 16).toInt64).toInt32, mf, cd, fg, L, O)) (fun dd l1 l2 => (upd (upd dd 1 1) 2 1, l1, l2, bm, upd (upd rr 32 ((rv rg w 21).toInt64 - (rv rg w 21).toInt64 / (rv rg w 16).toInt64 * (rv rg w 16).toInt64).toInt32) 33 ((rv rg w 21).toInt64 / (rv rg w 16).toInt64).toInt32, kt)) (fun L O P hP => ?_) (fun dd l1 l2 H L O => ⟨oc_0 (q_both H.rel) H.e5 H.e11 H.e12 H.e13, fun Q hQ => ?_⟩) (fun _ _ _ _ => rfl) (fun _ _ _ _ _ hs => ⟨by repeat first | exact hs | apply lo_upd, rfl, rfl, rfl⟩) (by first | exact Or.inr (fun _ _ => rfl) | exact Or.inl (by unfold q_e; decide)) (fun _ _ _ => rfl)
    · unfold wp_Pr_perform
      refine pr_op ?_
      rw [ho]
      repeat first | refine bq_t (by decide) ?_ | refine bq_f (by decide) ?_
      unfold wp_Pr_special
      refine pr_fun ?_
      rw [hf]
      repeat first | refine bq_t (by decide) ?_ | refine bq_f (by decide) ?_
      unfold wp_Pr_multiplyOrDivide
      refine pr_rs ⟨fI_in w 21, fun a ea => pr_rt ⟨fI_in w 16, fun b eb => pr_fun ?_⟩⟩
      subst ea
      subst eb
      rw [hf]
      repeat first | refine bq_t (by decide) ?_ | refine bq_f (by decide) ?_
      unfold wp_Hl_divide wp_Hl_keepHi wp_Hl_keepLo
      have hz : ¬ (rg (fI w 16).toNatClampNeg).toInt64 = 0 := fun q => hv ((l_z _).mp q)
      exact bq_f hz ⟨hz, hz, hP⟩
    · unfold wp_Md_operate
      rw [ho]
      repeat first | refine bq_t (by decide) ?_ | refine bq_f (by decide) ?_
      rw [H.e9, hf]
      unfold wp_Md_special
      repeat first | refine bq_t (by decide) ?_ | refine bq_f (by decide) ?_
      try unfold wp_Md_products
      repeat first | refine bq_t (by decide) ?_ | refine bq_f (by decide) ?_
      skip
      have hz : ¬ (rv rg w 16).toInt64 = 0 := fun q => hv ((l_z _).mp q)
      refine md_rt H.e9 H.rel (bq_f hv ?_)
      repeat first | refine bq_t (by decide) ?_ | refine bq_f (by decide) ?_
      refine md_rs H.e9 H.rel (md_rt H.e9 H.rel ⟨hz, fun x ex => ⟨hz, fun y ey z ez t et => ?_⟩⟩)
      subst et
      subst ez
      refine md_both ?_
      rw [cat_hi, cat_lo, ex, ey]
      exact hQ

theorem i_divu (H : pre mn g rg hq mf cd fg w dd bm rr kt) (ho : zz_ushr w 26 = 0) (hf : w &&& 63 = 27) : pfx ms mn g rg hq mf cd fg w dd bm rr kt := by
  by_cases hv : rv rg w 16 = 0
  · refine pfx_mk H 0 (fun L O => (g, rg, hlf hq, mf, cd, fg, L, O)) (fun dd l1 l2 => (upd (upd dd 1 0) 2 0, l1, l2, bm, rr, kt)) (fun L O P hP => ?_) (fun dd l1 l2 H L O => ⟨oc_0 (q_forget H.rel) H.e5 H.e11 H.e12 H.e13, fun Q hQ => ?_⟩) (fun _ _ _ _ => rfl) (fun _ _ _ _ _ hs => ⟨by repeat first | exact hs | apply lo_upd, rfl, rfl, rfl⟩) (by first | exact Or.inr (fun _ _ => rfl) | exact Or.inl (by unfold q_e; decide)) (fun _ _ _ => rfl)
    · unfold wp_Pr_perform
      refine pr_op ?_
      rw [ho]
      repeat first | refine bq_t (by decide) ?_ | refine bq_f (by decide) ?_
      unfold wp_Pr_special
      refine pr_fun ?_
      rw [hf]
      repeat first | refine bq_t (by decide) ?_ | refine bq_f (by decide) ?_
      unfold wp_Pr_multiplyOrDivide
      refine pr_rs ⟨fI_in w 21, fun a ea => pr_rt ⟨fI_in w 16, fun b eb => pr_fun ?_⟩⟩
      subst ea
      subst eb
      rw [hf]
      repeat first | refine bq_t (by decide) ?_ | refine bq_f (by decide) ?_
      unfold wp_Pr_unsigned
      refine fun x ex y ey => ?_
      subst ex
      subst ey
      unfold wp_Hl_divide wp_Hl_forget
      exact bq_t ((u_z _).mpr hv) hP
    · unfold wp_Md_operate
      rw [ho]
      repeat first | refine bq_t (by decide) ?_ | refine bq_f (by decide) ?_
      rw [H.e9, hf]
      unfold wp_Md_special
      repeat first | refine bq_t (by decide) ?_ | refine bq_f (by decide) ?_
      try unfold wp_Md_products
      repeat first | refine bq_t (by decide) ?_ | refine bq_f (by decide) ?_
      skip
      exact md_rt H.e9 H.rel (bq_t hv hQ)
  · refine pfx_mk H 0 (fun L O => (g, rg, hlw hq (((rv rg w 21).toInt64 &&& (4294967295 : Int64)) - ((rv rg w 21).toInt64 &&& (4294967295 : Int64)) / ((rv rg w 16).toInt64 &&& (4294967295 : Int64)) * ((rv rg w 16).toInt64 &&& (4294967295 : Int64))).toInt32 (((rv rg w 21).toInt64 &&& (4294967295 : Int64)) / ((rv rg w 16).toInt64 &&& (4294967295 : Int64))).toInt32, mf, cd, fg, L, O)) (fun dd l1 l2 => (upd (upd dd 1 1) 2 1, l1, l2, bm, upd (upd rr 32 (((rv rg w 21).toInt64 &&& (4294967295 : Int64)) - ((rv rg w 21).toInt64 &&& (4294967295 : Int64)) / ((rv rg w 16).toInt64 &&& (4294967295 : Int64)) * ((rv rg w 16).toInt64 &&& (4294967295 : Int64))).toInt32) 33 (((rv rg w 21).toInt64 &&& (4294967295 : Int64)) / ((rv rg w 16).toInt64 &&& (4294967295 : Int64))).toInt32, kt)) (fun L O P hP => ?_) (fun dd l1 l2 H L O => ⟨oc_0 (q_both H.rel) H.e5 H.e11 H.e12 H.e13, fun Q hQ => ?_⟩) (fun _ _ _ _ => rfl) (fun _ _ _ _ _ hs => ⟨by repeat first | exact hs | apply lo_upd, rfl, rfl, rfl⟩) (by first | exact Or.inr (fun _ _ => rfl) | exact Or.inl (by unfold q_e; decide)) (fun _ _ _ => rfl)
    · unfold wp_Pr_perform
      refine pr_op ?_
      rw [ho]
      repeat first | refine bq_t (by decide) ?_ | refine bq_f (by decide) ?_
      unfold wp_Pr_special
      refine pr_fun ?_
      rw [hf]
      repeat first | refine bq_t (by decide) ?_ | refine bq_f (by decide) ?_
      unfold wp_Pr_multiplyOrDivide
      refine pr_rs ⟨fI_in w 21, fun a ea => pr_rt ⟨fI_in w 16, fun b eb => pr_fun ?_⟩⟩
      subst ea
      subst eb
      rw [hf]
      repeat first | refine bq_t (by decide) ?_ | refine bq_f (by decide) ?_
      unfold wp_Pr_unsigned
      refine fun x ex y ey => ?_
      subst ex
      subst ey
      unfold wp_Hl_divide wp_Hl_keepHi wp_Hl_keepLo
      have hz : ¬ ((rg (fI w 16).toNatClampNeg).toInt64 &&& (4294967295 : Int64)) = 0 := fun q => hv ((u_z _).mp q)
      exact bq_f hz ⟨hz, hz, hP⟩
    · unfold wp_Md_operate
      rw [ho]
      repeat first | refine bq_t (by decide) ?_ | refine bq_f (by decide) ?_
      rw [H.e9, hf]
      unfold wp_Md_special
      repeat first | refine bq_t (by decide) ?_ | refine bq_f (by decide) ?_
      try unfold wp_Md_products
      repeat first | refine bq_t (by decide) ?_ | refine bq_f (by decide) ?_
      skip
      have hz : ¬ ((rv rg w 16).toInt64 &&& (4294967295 : Int64)) = 0 := fun q => hv ((u_z _).mp q)
      refine md_rt H.e9 H.rel (bq_f hv ?_)
      repeat first | refine bq_t (by decide) ?_ | refine bq_f (by decide) ?_
      refine md_rs H.e9 H.rel (fun x ex => md_rt H.e9 H.rel (fun y ey => ?_))
      subst ex
      subst ey
      refine ⟨hz, fun z ez => ⟨hz, fun t et => ?_⟩⟩
      subst et
      subst ez
      refine md_both ?_
      rw [cat_hi, cat_lo]
      exact hQ

theorem i_t0 (H : pre mn g rg hq mf cd fg w dd bm rr kt) (ho : zz_ushr w 26 = 0) (hf : w &&& 63 = 48) : pfx ms mn g rg hq mf cd fg w dd bm rr kt := by
  by_cases hv : rv rg w 21 < rv rg w 16
  · refine pfx_mk H 0 (fun L O => (g, rg, hq, mf, cd, fg, L, O)) (fun dd l1 l2 => (dd, l1, l2, bm, rr, kt)) (fun L O P hP => ?_) (fun dd l1 l2 H L O => ⟨oc_0 H.rel H.e5 H.e11 H.e12 H.e13, fun Q hQ => ?_⟩) (fun _ _ _ _ => rfl) (fun _ _ _ _ _ hs => ⟨by repeat first | exact hs | apply lo_upd, rfl, rfl, rfl⟩) (by first | exact Or.inr (fun _ _ => rfl) | exact Or.inl (by unfold q_e; decide)) (fun _ _ _ => rfl)
    · unfold wp_Pr_perform
      refine pr_op ?_
      rw [ho]
      repeat first | refine bq_t (by decide) ?_ | refine bq_f (by decide) ?_
      unfold wp_Pr_special
      refine pr_fun ?_
      rw [hf]
      repeat first | refine bq_t (by decide) ?_ | refine bq_f (by decide) ?_
      refine pr_fun (pr_rs ⟨fI_in w 21, fun a ea => pr_rt ⟨fI_in w 16, fun b eb => ?_⟩⟩)
      subst ea
      subst eb
      rw [hf]
      unfold wp_Pr_trap
      repeat first | refine bq_t (by decide) ?_ | refine bq_f (by decide) ?_
      exact bq_t hv hP
    · unfold wp_Md_operate
      rw [ho]
      repeat first | refine bq_t (by decide) ?_ | refine bq_f (by decide) ?_
      rw [H.e9, hf]
      unfold wp_Md_special
      repeat first | refine bq_t (by decide) ?_ | refine bq_f (by decide) ?_
      skip
      refine md_rs H.e9 H.rel (md_rt H.e9 H.rel ?_)
      try unfold wp_Md_trap
      repeat first | refine bq_t (by decide) ?_ | refine bq_f (by decide) ?_
      exact bq_t hv hQ
  · refine pfx_mk H 5 (fun L O => (g, rg, hq, mf, cd, fg, L, O)) (fun dd l1 l2 => (upd dd 5 5, l1, l2, bm, rr, kt)) (fun L O P hP => ?_) (fun dd l1 l2 H L O => ⟨oc_end (by unfold q_e; simp) H.rel H.nxt rfl (fun j _ h => pk_un h), fun Q hQ => ?_⟩) (fun _ _ _ _ => rfl) (fun _ _ _ _ _ hs => ⟨by repeat first | exact hs | apply lo_upd, rfl, rfl, rfl⟩) (by first | exact Or.inr (fun _ _ => rfl) | exact Or.inl (by unfold q_e; decide)) (fun _ _ _ => rfl)
    · unfold wp_Pr_perform
      refine pr_op ?_
      rw [ho]
      repeat first | refine bq_t (by decide) ?_ | refine bq_f (by decide) ?_
      unfold wp_Pr_special
      refine pr_fun ?_
      rw [hf]
      repeat first | refine bq_t (by decide) ?_ | refine bq_f (by decide) ?_
      refine pr_fun (pr_rs ⟨fI_in w 21, fun a ea => pr_rt ⟨fI_in w 16, fun b eb => ?_⟩⟩)
      subst ea
      subst eb
      rw [hf]
      unfold wp_Pr_trap
      repeat first | refine bq_t (by decide) ?_ | refine bq_f (by decide) ?_
      exact bq_f hv hP
    · unfold wp_Md_operate
      rw [ho]
      repeat first | refine bq_t (by decide) ?_ | refine bq_f (by decide) ?_
      rw [H.e9, hf]
      unfold wp_Md_special
      repeat first | refine bq_t (by decide) ?_ | refine bq_f (by decide) ?_
      skip
      refine md_rs H.e9 H.rel (md_rt H.e9 H.rel ?_)
      try unfold wp_Md_trap
      repeat first | refine bq_t (by decide) ?_ | refine bq_f (by decide) ?_
      exact bq_f hv (md_ends H.e5 hQ)

theorem i_t1 (H : pre mn g rg hq mf cd fg w dd bm rr kt) (ho : zz_ushr w 26 = 0) (hf : w &&& 63 = 49) : pfx ms mn g rg hq mf cd fg w dd bm rr kt := by
  by_cases hv : (rv rg w 21).toBitVec.toNat < (rv rg w 16).toBitVec.toNat
  · refine pfx_mk H 0 (fun L O => (g, rg, hq, mf, cd, fg, L, O)) (fun dd l1 l2 => (dd, l1, l2, bm, rr, kt)) (fun L O P hP => ?_) (fun dd l1 l2 H L O => ⟨oc_0 H.rel H.e5 H.e11 H.e12 H.e13, fun Q hQ => ?_⟩) (fun _ _ _ _ => rfl) (fun _ _ _ _ _ hs => ⟨by repeat first | exact hs | apply lo_upd, rfl, rfl, rfl⟩) (by first | exact Or.inr (fun _ _ => rfl) | exact Or.inl (by unfold q_e; decide)) (fun _ _ _ => rfl)
    · unfold wp_Pr_perform
      refine pr_op ?_
      rw [ho]
      repeat first | refine bq_t (by decide) ?_ | refine bq_f (by decide) ?_
      unfold wp_Pr_special
      refine pr_fun ?_
      rw [hf]
      repeat first | refine bq_t (by decide) ?_ | refine bq_f (by decide) ?_
      refine pr_fun (pr_rs ⟨fI_in w 21, fun a ea => pr_rt ⟨fI_in w 16, fun b eb => ?_⟩⟩)
      subst ea
      subst eb
      rw [hf]
      unfold wp_Pr_trap
      repeat first | refine bq_t (by decide) ?_ | refine bq_f (by decide) ?_
      unfold wp_Pr_unsigned
      refine fun x ex y ey => ?_
      subst ex
      subst ey
      have hv : (rg (fI w 21).toNatClampNeg).toBitVec.toNat < (rg (fI w 16).toNatClampNeg).toBitVec.toNat := hv
      rw [u_lt]
      exact bq_t hv hP
    · unfold wp_Md_operate
      rw [ho]
      repeat first | refine bq_t (by decide) ?_ | refine bq_f (by decide) ?_
      rw [H.e9, hf]
      unfold wp_Md_special
      repeat first | refine bq_t (by decide) ?_ | refine bq_f (by decide) ?_
      skip
      refine md_rs H.e9 H.rel (md_rt H.e9 H.rel ?_)
      try unfold wp_Md_trap
      repeat first | refine bq_t (by decide) ?_ | refine bq_f (by decide) ?_
      refine md_below ?_
      rw [if_pos hv]
      exact bq_f (by decide) hQ
  · refine pfx_mk H 5 (fun L O => (g, rg, hq, mf, cd, fg, L, O)) (fun dd l1 l2 => (upd dd 5 5, l1, l2, bm, rr, kt)) (fun L O P hP => ?_) (fun dd l1 l2 H L O => ⟨oc_end (by unfold q_e; simp) H.rel H.nxt rfl (fun j _ h => pk_un h), fun Q hQ => ?_⟩) (fun _ _ _ _ => rfl) (fun _ _ _ _ _ hs => ⟨by repeat first | exact hs | apply lo_upd, rfl, rfl, rfl⟩) (by first | exact Or.inr (fun _ _ => rfl) | exact Or.inl (by unfold q_e; decide)) (fun _ _ _ => rfl)
    · unfold wp_Pr_perform
      refine pr_op ?_
      rw [ho]
      repeat first | refine bq_t (by decide) ?_ | refine bq_f (by decide) ?_
      unfold wp_Pr_special
      refine pr_fun ?_
      rw [hf]
      repeat first | refine bq_t (by decide) ?_ | refine bq_f (by decide) ?_
      refine pr_fun (pr_rs ⟨fI_in w 21, fun a ea => pr_rt ⟨fI_in w 16, fun b eb => ?_⟩⟩)
      subst ea
      subst eb
      rw [hf]
      unfold wp_Pr_trap
      repeat first | refine bq_t (by decide) ?_ | refine bq_f (by decide) ?_
      unfold wp_Pr_unsigned
      refine fun x ex y ey => ?_
      subst ex
      subst ey
      have hv : ¬ (rg (fI w 21).toNatClampNeg).toBitVec.toNat < (rg (fI w 16).toNatClampNeg).toBitVec.toNat := hv
      rw [u_lt]
      exact bq_f hv hP
    · unfold wp_Md_operate
      rw [ho]
      repeat first | refine bq_t (by decide) ?_ | refine bq_f (by decide) ?_
      rw [H.e9, hf]
      unfold wp_Md_special
      repeat first | refine bq_t (by decide) ?_ | refine bq_f (by decide) ?_
      skip
      refine md_rs H.e9 H.rel (md_rt H.e9 H.rel ?_)
      try unfold wp_Md_trap
      repeat first | refine bq_t (by decide) ?_ | refine bq_f (by decide) ?_
      refine md_below ?_
      rw [if_neg hv]
      exact bq_t rfl (md_ends H.e5 hQ)

theorem i_t2 (H : pre mn g rg hq mf cd fg w dd bm rr kt) (ho : zz_ushr w 26 = 0) (hf : w &&& 63 = 50) : pfx ms mn g rg hq mf cd fg w dd bm rr kt := by
  by_cases hv : rv rg w 16 ≤ rv rg w 21
  · refine pfx_mk H 0 (fun L O => (g, rg, hq, mf, cd, fg, L, O)) (fun dd l1 l2 => (dd, l1, l2, bm, rr, kt)) (fun L O P hP => ?_) (fun dd l1 l2 H L O => ⟨oc_0 H.rel H.e5 H.e11 H.e12 H.e13, fun Q hQ => ?_⟩) (fun _ _ _ _ => rfl) (fun _ _ _ _ _ hs => ⟨by repeat first | exact hs | apply lo_upd, rfl, rfl, rfl⟩) (by first | exact Or.inr (fun _ _ => rfl) | exact Or.inl (by unfold q_e; decide)) (fun _ _ _ => rfl)
    · unfold wp_Pr_perform
      refine pr_op ?_
      rw [ho]
      repeat first | refine bq_t (by decide) ?_ | refine bq_f (by decide) ?_
      unfold wp_Pr_special
      refine pr_fun ?_
      rw [hf]
      repeat first | refine bq_t (by decide) ?_ | refine bq_f (by decide) ?_
      refine pr_fun (pr_rs ⟨fI_in w 21, fun a ea => pr_rt ⟨fI_in w 16, fun b eb => ?_⟩⟩)
      subst ea
      subst eb
      rw [hf]
      unfold wp_Pr_trap
      repeat first | refine bq_t (by decide) ?_ | refine bq_f (by decide) ?_
      exact bq_t hv hP
    · unfold wp_Md_operate
      rw [ho]
      repeat first | refine bq_t (by decide) ?_ | refine bq_f (by decide) ?_
      rw [H.e9, hf]
      unfold wp_Md_special
      repeat first | refine bq_t (by decide) ?_ | refine bq_f (by decide) ?_
      skip
      refine md_rs H.e9 H.rel (md_rt H.e9 H.rel ?_)
      try unfold wp_Md_trap
      repeat first | refine bq_t (by decide) ?_ | refine bq_f (by decide) ?_
      exact bq_t hv hQ
  · refine pfx_mk H 5 (fun L O => (g, rg, hq, mf, cd, fg, L, O)) (fun dd l1 l2 => (upd dd 5 5, l1, l2, bm, rr, kt)) (fun L O P hP => ?_) (fun dd l1 l2 H L O => ⟨oc_end (by unfold q_e; simp) H.rel H.nxt rfl (fun j _ h => pk_un h), fun Q hQ => ?_⟩) (fun _ _ _ _ => rfl) (fun _ _ _ _ _ hs => ⟨by repeat first | exact hs | apply lo_upd, rfl, rfl, rfl⟩) (by first | exact Or.inr (fun _ _ => rfl) | exact Or.inl (by unfold q_e; decide)) (fun _ _ _ => rfl)
    · unfold wp_Pr_perform
      refine pr_op ?_
      rw [ho]
      repeat first | refine bq_t (by decide) ?_ | refine bq_f (by decide) ?_
      unfold wp_Pr_special
      refine pr_fun ?_
      rw [hf]
      repeat first | refine bq_t (by decide) ?_ | refine bq_f (by decide) ?_
      refine pr_fun (pr_rs ⟨fI_in w 21, fun a ea => pr_rt ⟨fI_in w 16, fun b eb => ?_⟩⟩)
      subst ea
      subst eb
      rw [hf]
      unfold wp_Pr_trap
      repeat first | refine bq_t (by decide) ?_ | refine bq_f (by decide) ?_
      exact bq_f hv hP
    · unfold wp_Md_operate
      rw [ho]
      repeat first | refine bq_t (by decide) ?_ | refine bq_f (by decide) ?_
      rw [H.e9, hf]
      unfold wp_Md_special
      repeat first | refine bq_t (by decide) ?_ | refine bq_f (by decide) ?_
      skip
      refine md_rs H.e9 H.rel (md_rt H.e9 H.rel ?_)
      try unfold wp_Md_trap
      repeat first | refine bq_t (by decide) ?_ | refine bq_f (by decide) ?_
      exact bq_f hv (md_ends H.e5 hQ)

theorem i_t3 (H : pre mn g rg hq mf cd fg w dd bm rr kt) (ho : zz_ushr w 26 = 0) (hf : w &&& 63 = 51) : pfx ms mn g rg hq mf cd fg w dd bm rr kt := by
  by_cases hv : (rv rg w 21).toBitVec.toNat < (rv rg w 16).toBitVec.toNat
  · refine pfx_mk H 5 (fun L O => (g, rg, hq, mf, cd, fg, L, O)) (fun dd l1 l2 => (upd dd 5 5, l1, l2, bm, rr, kt)) (fun L O P hP => ?_) (fun dd l1 l2 H L O => ⟨oc_end (by unfold q_e; simp) H.rel H.nxt rfl (fun j _ h => pk_un h), fun Q hQ => ?_⟩) (fun _ _ _ _ => rfl) (fun _ _ _ _ _ hs => ⟨by repeat first | exact hs | apply lo_upd, rfl, rfl, rfl⟩) (by first | exact Or.inr (fun _ _ => rfl) | exact Or.inl (by unfold q_e; decide)) (fun _ _ _ => rfl)
    · unfold wp_Pr_perform
      refine pr_op ?_
      rw [ho]
      repeat first | refine bq_t (by decide) ?_ | refine bq_f (by decide) ?_
      unfold wp_Pr_special
      refine pr_fun ?_
      rw [hf]
      repeat first | refine bq_t (by decide) ?_ | refine bq_f (by decide) ?_
      refine pr_fun (pr_rs ⟨fI_in w 21, fun a ea => pr_rt ⟨fI_in w 16, fun b eb => ?_⟩⟩)
      subst ea
      subst eb
      rw [hf]
      unfold wp_Pr_trap
      repeat first | refine bq_t (by decide) ?_ | refine bq_f (by decide) ?_
      unfold wp_Pr_unsigned
      refine fun x ex y ey => ?_
      subst ex
      subst ey
      have hv : (rg (fI w 21).toNatClampNeg).toBitVec.toNat < (rg (fI w 16).toNatClampNeg).toBitVec.toNat := hv
      rw [u_le]
      exact bq_f (by omega) hP
    · unfold wp_Md_operate
      rw [ho]
      repeat first | refine bq_t (by decide) ?_ | refine bq_f (by decide) ?_
      rw [H.e9, hf]
      unfold wp_Md_special
      repeat first | refine bq_t (by decide) ?_ | refine bq_f (by decide) ?_
      skip
      refine md_rs H.e9 H.rel (md_rt H.e9 H.rel ?_)
      try unfold wp_Md_trap
      repeat first | refine bq_t (by decide) ?_ | refine bq_f (by decide) ?_
      refine md_below ?_
      rw [if_pos hv]
      exact bq_f (by decide) (md_ends H.e5 hQ)
  · refine pfx_mk H 0 (fun L O => (g, rg, hq, mf, cd, fg, L, O)) (fun dd l1 l2 => (dd, l1, l2, bm, rr, kt)) (fun L O P hP => ?_) (fun dd l1 l2 H L O => ⟨oc_0 H.rel H.e5 H.e11 H.e12 H.e13, fun Q hQ => ?_⟩) (fun _ _ _ _ => rfl) (fun _ _ _ _ _ hs => ⟨by repeat first | exact hs | apply lo_upd, rfl, rfl, rfl⟩) (by first | exact Or.inr (fun _ _ => rfl) | exact Or.inl (by unfold q_e; decide)) (fun _ _ _ => rfl)
    · unfold wp_Pr_perform
      refine pr_op ?_
      rw [ho]
      repeat first | refine bq_t (by decide) ?_ | refine bq_f (by decide) ?_
      unfold wp_Pr_special
      refine pr_fun ?_
      rw [hf]
      repeat first | refine bq_t (by decide) ?_ | refine bq_f (by decide) ?_
      refine pr_fun (pr_rs ⟨fI_in w 21, fun a ea => pr_rt ⟨fI_in w 16, fun b eb => ?_⟩⟩)
      subst ea
      subst eb
      rw [hf]
      unfold wp_Pr_trap
      repeat first | refine bq_t (by decide) ?_ | refine bq_f (by decide) ?_
      unfold wp_Pr_unsigned
      refine fun x ex y ey => ?_
      subst ex
      subst ey
      have hv : ¬ (rg (fI w 21).toNatClampNeg).toBitVec.toNat < (rg (fI w 16).toNatClampNeg).toBitVec.toNat := hv
      rw [u_le]
      exact bq_t (by omega) hP
    · unfold wp_Md_operate
      rw [ho]
      repeat first | refine bq_t (by decide) ?_ | refine bq_f (by decide) ?_
      rw [H.e9, hf]
      unfold wp_Md_special
      repeat first | refine bq_t (by decide) ?_ | refine bq_f (by decide) ?_
      skip
      refine md_rs H.e9 H.rel (md_rt H.e9 H.rel ?_)
      try unfold wp_Md_trap
      repeat first | refine bq_t (by decide) ?_ | refine bq_f (by decide) ?_
      refine md_below ?_
      rw [if_neg hv]
      exact bq_t rfl hQ

theorem i_t4 (H : pre mn g rg hq mf cd fg w dd bm rr kt) (ho : zz_ushr w 26 = 0) (hf : w &&& 63 = 52) : pfx ms mn g rg hq mf cd fg w dd bm rr kt := by
  by_cases hv : rv rg w 21 = rv rg w 16
  · refine pfx_mk H 5 (fun L O => (g, rg, hq, mf, cd, fg, L, O)) (fun dd l1 l2 => (upd dd 5 5, l1, l2, bm, rr, kt)) (fun L O P hP => ?_) (fun dd l1 l2 H L O => ⟨oc_end (by unfold q_e; simp) H.rel H.nxt rfl (fun j _ h => pk_un h), fun Q hQ => ?_⟩) (fun _ _ _ _ => rfl) (fun _ _ _ _ _ hs => ⟨by repeat first | exact hs | apply lo_upd, rfl, rfl, rfl⟩) (by first | exact Or.inr (fun _ _ => rfl) | exact Or.inl (by unfold q_e; decide)) (fun _ _ _ => rfl)
    · unfold wp_Pr_perform
      refine pr_op ?_
      rw [ho]
      repeat first | refine bq_t (by decide) ?_ | refine bq_f (by decide) ?_
      unfold wp_Pr_special
      refine pr_fun ?_
      rw [hf]
      repeat first | refine bq_t (by decide) ?_ | refine bq_f (by decide) ?_
      refine pr_fun (pr_rs ⟨fI_in w 21, fun a ea => pr_rt ⟨fI_in w 16, fun b eb => ?_⟩⟩)
      subst ea
      subst eb
      rw [hf]
      unfold wp_Pr_trap
      repeat first | refine bq_t (by decide) ?_ | refine bq_f (by decide) ?_
      exact bq_t hv hP
    · unfold wp_Md_operate
      rw [ho]
      repeat first | refine bq_t (by decide) ?_ | refine bq_f (by decide) ?_
      rw [H.e9, hf]
      unfold wp_Md_special
      repeat first | refine bq_t (by decide) ?_ | refine bq_f (by decide) ?_
      skip
      refine md_rs H.e9 H.rel (md_rt H.e9 H.rel ?_)
      try unfold wp_Md_trap
      repeat first | refine bq_t (by decide) ?_ | refine bq_f (by decide) ?_
      exact bq_t hv (md_ends H.e5 hQ)
  · refine pfx_mk H 0 (fun L O => (g, rg, hq, mf, cd, fg, L, O)) (fun dd l1 l2 => (dd, l1, l2, bm, rr, kt)) (fun L O P hP => ?_) (fun dd l1 l2 H L O => ⟨oc_0 H.rel H.e5 H.e11 H.e12 H.e13, fun Q hQ => ?_⟩) (fun _ _ _ _ => rfl) (fun _ _ _ _ _ hs => ⟨by repeat first | exact hs | apply lo_upd, rfl, rfl, rfl⟩) (by first | exact Or.inr (fun _ _ => rfl) | exact Or.inl (by unfold q_e; decide)) (fun _ _ _ => rfl)
    · unfold wp_Pr_perform
      refine pr_op ?_
      rw [ho]
      repeat first | refine bq_t (by decide) ?_ | refine bq_f (by decide) ?_
      unfold wp_Pr_special
      refine pr_fun ?_
      rw [hf]
      repeat first | refine bq_t (by decide) ?_ | refine bq_f (by decide) ?_
      refine pr_fun (pr_rs ⟨fI_in w 21, fun a ea => pr_rt ⟨fI_in w 16, fun b eb => ?_⟩⟩)
      subst ea
      subst eb
      rw [hf]
      unfold wp_Pr_trap
      repeat first | refine bq_t (by decide) ?_ | refine bq_f (by decide) ?_
      exact bq_f hv hP
    · unfold wp_Md_operate
      rw [ho]
      repeat first | refine bq_t (by decide) ?_ | refine bq_f (by decide) ?_
      rw [H.e9, hf]
      unfold wp_Md_special
      repeat first | refine bq_t (by decide) ?_ | refine bq_f (by decide) ?_
      skip
      refine md_rs H.e9 H.rel (md_rt H.e9 H.rel ?_)
      try unfold wp_Md_trap
      repeat first | refine bq_t (by decide) ?_ | refine bq_f (by decide) ?_
      exact bq_f hv hQ

theorem i_t6 (H : pre mn g rg hq mf cd fg w dd bm rr kt) (ho : zz_ushr w 26 = 0) (hf : w &&& 63 = 54) : pfx ms mn g rg hq mf cd fg w dd bm rr kt := by
  by_cases hv : rv rg w 21 = rv rg w 16
  · refine pfx_mk H 0 (fun L O => (g, rg, hq, mf, cd, fg, L, O)) (fun dd l1 l2 => (dd, l1, l2, bm, rr, kt)) (fun L O P hP => ?_) (fun dd l1 l2 H L O => ⟨oc_0 H.rel H.e5 H.e11 H.e12 H.e13, fun Q hQ => ?_⟩) (fun _ _ _ _ => rfl) (fun _ _ _ _ _ hs => ⟨by repeat first | exact hs | apply lo_upd, rfl, rfl, rfl⟩) (by first | exact Or.inr (fun _ _ => rfl) | exact Or.inl (by unfold q_e; decide)) (fun _ _ _ => rfl)
    · unfold wp_Pr_perform
      refine pr_op ?_
      rw [ho]
      repeat first | refine bq_t (by decide) ?_ | refine bq_f (by decide) ?_
      unfold wp_Pr_special
      refine pr_fun ?_
      rw [hf]
      repeat first | refine bq_t (by decide) ?_ | refine bq_f (by decide) ?_
      refine pr_fun (pr_rs ⟨fI_in w 21, fun a ea => pr_rt ⟨fI_in w 16, fun b eb => ?_⟩⟩)
      subst ea
      subst eb
      rw [hf]
      unfold wp_Pr_trap
      repeat first | refine bq_t (by decide) ?_ | refine bq_f (by decide) ?_
      exact bq_t hv hP
    · unfold wp_Md_operate
      rw [ho]
      repeat first | refine bq_t (by decide) ?_ | refine bq_f (by decide) ?_
      rw [H.e9, hf]
      unfold wp_Md_special
      repeat first | refine bq_t (by decide) ?_ | refine bq_f (by decide) ?_
      skip
      refine md_rs H.e9 H.rel (md_rt H.e9 H.rel ?_)
      try unfold wp_Md_trap
      repeat first | refine bq_t (by decide) ?_ | refine bq_f (by decide) ?_
      exact bq_t hv hQ
  · refine pfx_mk H 5 (fun L O => (g, rg, hq, mf, cd, fg, L, O)) (fun dd l1 l2 => (upd dd 5 5, l1, l2, bm, rr, kt)) (fun L O P hP => ?_) (fun dd l1 l2 H L O => ⟨oc_end (by unfold q_e; simp) H.rel H.nxt rfl (fun j _ h => pk_un h), fun Q hQ => ?_⟩) (fun _ _ _ _ => rfl) (fun _ _ _ _ _ hs => ⟨by repeat first | exact hs | apply lo_upd, rfl, rfl, rfl⟩) (by first | exact Or.inr (fun _ _ => rfl) | exact Or.inl (by unfold q_e; decide)) (fun _ _ _ => rfl)
    · unfold wp_Pr_perform
      refine pr_op ?_
      rw [ho]
      repeat first | refine bq_t (by decide) ?_ | refine bq_f (by decide) ?_
      unfold wp_Pr_special
      refine pr_fun ?_
      rw [hf]
      repeat first | refine bq_t (by decide) ?_ | refine bq_f (by decide) ?_
      refine pr_fun (pr_rs ⟨fI_in w 21, fun a ea => pr_rt ⟨fI_in w 16, fun b eb => ?_⟩⟩)
      subst ea
      subst eb
      rw [hf]
      unfold wp_Pr_trap
      repeat first | refine bq_t (by decide) ?_ | refine bq_f (by decide) ?_
      exact bq_f hv hP
    · unfold wp_Md_operate
      rw [ho]
      repeat first | refine bq_t (by decide) ?_ | refine bq_f (by decide) ?_
      rw [H.e9, hf]
      unfold wp_Md_special
      repeat first | refine bq_t (by decide) ?_ | refine bq_f (by decide) ?_
      skip
      refine md_rs H.e9 H.rel (md_rt H.e9 H.rel ?_)
      try unfold wp_Md_trap
      repeat first | refine bq_t (by decide) ?_ | refine bq_f (by decide) ?_
      exact bq_f hv (md_ends H.e5 hQ)

theorem i_s53 (H : pre mn g rg hq mf cd fg w dd bm rr kt) (ho : zz_ushr w 26 = 0) (hf : w &&& 63 = 53) : pfx ms mn g rg hq mf cd fg w dd bm rr kt := by
  refine pfx_mk H 3 (fun L O => (g, rg, hq, mf, cd, fg, L, O)) (fun dd l1 l2 => (upd dd 5 3, l1, l2, bm, rr, kt)) (fun L O P hP => ?_) (fun dd l1 l2 H L O => ⟨oc_end (by unfold q_e; simp) H.rel H.nxt rfl (fun j _ h => pk_un h), fun Q hQ => ?_⟩) (fun _ _ _ _ => rfl) (fun _ _ _ _ _ hs => ⟨by repeat first | exact hs | apply lo_upd, rfl, rfl, rfl⟩) (by first | exact Or.inr (fun _ _ => rfl) | exact Or.inl (by unfold q_e; decide)) (fun _ _ _ => rfl)
  · unfold wp_Pr_perform
    refine pr_op ?_
    rw [ho]
    repeat first | refine bq_t (by decide) ?_ | refine bq_f (by decide) ?_
    unfold wp_Pr_special
    refine pr_fun ?_
    rw [hf]
    repeat first | refine bq_t (by decide) ?_ | refine bq_f (by decide) ?_
    refine pr_fun (pr_rs ⟨fI_in w 21, fun a ea => pr_rt ⟨fI_in w 16, fun b eb => ?_⟩⟩)
    subst ea
    subst eb
    rw [hf]
    unfold wp_Pr_trap
    repeat first | refine bq_t (by decide) ?_ | refine bq_f (by decide) ?_
    exact hP
  · unfold wp_Md_operate
    rw [ho]
    repeat first | refine bq_t (by decide) ?_ | refine bq_f (by decide) ?_
    rw [H.e9, hf]
    unfold wp_Md_special
    repeat first | refine bq_t (by decide) ?_ | refine bq_f (by decide) ?_
    skip
    skip
    exact md_ends H.e5 hQ

theorem i_s55 (H : pre mn g rg hq mf cd fg w dd bm rr kt) (ho : zz_ushr w 26 = 0) (hf : w &&& 63 = 55) : pfx ms mn g rg hq mf cd fg w dd bm rr kt := by
  refine pfx_mk H 3 (fun L O => (g, rg, hq, mf, cd, fg, L, O)) (fun dd l1 l2 => (upd dd 5 3, l1, l2, bm, rr, kt)) (fun L O P hP => ?_) (fun dd l1 l2 H L O => ⟨oc_end (by unfold q_e; simp) H.rel H.nxt rfl (fun j _ h => pk_un h), fun Q hQ => ?_⟩) (fun _ _ _ _ => rfl) (fun _ _ _ _ _ hs => ⟨by repeat first | exact hs | apply lo_upd, rfl, rfl, rfl⟩) (by first | exact Or.inr (fun _ _ => rfl) | exact Or.inl (by unfold q_e; decide)) (fun _ _ _ => rfl)
  · unfold wp_Pr_perform
    refine pr_op ?_
    rw [ho]
    repeat first | refine bq_t (by decide) ?_ | refine bq_f (by decide) ?_
    unfold wp_Pr_special
    refine pr_fun ?_
    rw [hf]
    repeat first | refine bq_t (by decide) ?_ | refine bq_f (by decide) ?_
    refine pr_fun (pr_rs ⟨fI_in w 21, fun a ea => pr_rt ⟨fI_in w 16, fun b eb => ?_⟩⟩)
    subst ea
    subst eb
    rw [hf]
    unfold wp_Pr_trap
    repeat first | refine bq_t (by decide) ?_ | refine bq_f (by decide) ?_
    exact hP
  · unfold wp_Md_operate
    rw [ho]
    repeat first | refine bq_t (by decide) ?_ | refine bq_f (by decide) ?_
    rw [H.e9, hf]
    unfold wp_Md_special
    repeat first | refine bq_t (by decide) ?_ | refine bq_f (by decide) ?_
    skip
    skip
    exact md_ends H.e5 hQ

theorem i_addi (H : pre mn g rg hq mf cd fg w dd bm rr kt) (ho : zz_ushr w 26 = 8) : pfx ms mn g rg hq mf cd fg w dd bm rr kt := by
  by_cases hv : ((rv rg w 21).toInt64 + (w.toInt16.toInt32).toInt64) = ((rv rg w 21).toInt64 + (w.toInt16.toInt32).toInt64).toInt32.toInt64
  · refine pfx_mk H 0 (fun L O => (g, wr rg (fI w 16) (((rv rg w 21).toInt64 + (w.toInt16.toInt32).toInt64).toInt32), hq, mf, cd, fg, L, O)) (fun dd l1 l2 => (dd, l1, l2, bm, wr rr (fI w 16) (((rv rg w 21).toInt64 + (w.toInt16.toInt32).toInt64).toInt32), kt)) (fun L O P hP => ?_) (fun dd l1 l2 H L O => ⟨oc_0 (q_wr H.rel) H.e5 H.e11 H.e12 H.e13, fun Q hQ => ?_⟩) (fun _ _ _ _ => rfl) (fun _ _ _ _ _ hs => ⟨by repeat first | exact hs | apply lo_upd, rfl, rfl, rfl⟩) (by first | exact Or.inr (fun _ _ => rfl) | exact Or.inl (by unfold q_e; decide)) (fun _ _ _ => rfl)
    · unfold wp_Pr_perform
      refine pr_op ?_
      rw [ho]
      repeat first | refine bq_t (by decide) ?_ | refine bq_f (by decide) ?_
      unfold wp_Pr_immediate
      refine pr_rs ⟨fI_in w 21, fun a ea b eb => pr_op ?_⟩
      subst ea
      subst eb
      rw [ho]
      repeat first | refine bq_t (by decide) ?_ | refine bq_f (by decide) ?_
      refine pr_rt ?_
      unfold wp_Pr_signed wp_Pr_exactResult
      exact bq_t hv (pr_result hP)
    · unfold wp_Md_operate
      rw [ho]
      repeat first | refine bq_t (by decide) ?_ | refine bq_f (by decide) ?_
      unfold wp_Md_numbers
      refine md_rs H.e9 H.rel (md_field H.e9 (fun x ex => ?_))
      rw [H.e9] at ex
      subst ex
      repeat first | refine bq_t (by decide) ?_ | refine bq_f (by decide) ?_
      refine md_offset H.e9 ?_
      repeat first | refine bq_t (by decide) ?_ | refine bq_f (by decide) ?_
      exact bq_t hv (md_into H.e5 hQ)
  · refine pfx_mk H 4 (fun L O => (g, rg, hq, mf, cd, fg, L, O)) (fun dd l1 l2 => (upd dd 5 4, l1, l2, bm, rr, kt)) (fun L O P hP => ?_) (fun dd l1 l2 H L O => ⟨oc_end (by unfold q_e; simp) H.rel H.nxt rfl (fun j _ h => pk_un h), fun Q hQ => ?_⟩) (fun _ _ _ _ => rfl) (fun _ _ _ _ _ hs => ⟨by repeat first | exact hs | apply lo_upd, rfl, rfl, rfl⟩) (by first | exact Or.inr (fun _ _ => rfl) | exact Or.inl (by unfold q_e; decide)) (fun _ _ _ => rfl)
    · unfold wp_Pr_perform
      refine pr_op ?_
      rw [ho]
      repeat first | refine bq_t (by decide) ?_ | refine bq_f (by decide) ?_
      unfold wp_Pr_immediate
      refine pr_rs ⟨fI_in w 21, fun a ea b eb => pr_op ?_⟩
      subst ea
      subst eb
      rw [ho]
      repeat first | refine bq_t (by decide) ?_ | refine bq_f (by decide) ?_
      refine pr_rt ?_
      unfold wp_Pr_signed wp_Pr_exactResult
      exact bq_f hv hP
    · unfold wp_Md_operate
      rw [ho]
      repeat first | refine bq_t (by decide) ?_ | refine bq_f (by decide) ?_
      unfold wp_Md_numbers
      refine md_rs H.e9 H.rel (md_field H.e9 (fun x ex => ?_))
      rw [H.e9] at ex
      subst ex
      repeat first | refine bq_t (by decide) ?_ | refine bq_f (by decide) ?_
      refine md_offset H.e9 ?_
      repeat first | refine bq_t (by decide) ?_ | refine bq_f (by decide) ?_
      exact bq_f hv (md_ends H.e5 (md_into_n (show ¬ (4 : Int32) = 0 by decide) hQ))

theorem i_addiu (H : pre mn g rg hq mf cd fg w dd bm rr kt) (ho : zz_ushr w 26 = 9) : pfx ms mn g rg hq mf cd fg w dd bm rr kt := by
  refine pfx_mk H 0 (fun L O => (g, wr rg (fI w 16) (rv rg w 21 + w.toInt16.toInt32), hq, mf, cd, fg, L, O)) (fun dd l1 l2 => (dd, l1, l2, bm, wr rr (fI w 16) (rv rg w 21 + w.toInt16.toInt32), kt)) (fun L O P hP => ?_) (fun dd l1 l2 H L O => ⟨oc_0 (q_wr H.rel) H.e5 H.e11 H.e12 H.e13, fun Q hQ => ?_⟩) (fun _ _ _ _ => rfl) (fun _ _ _ _ _ hs => ⟨by repeat first | exact hs | apply lo_upd, rfl, rfl, rfl⟩) (by first | exact Or.inr (fun _ _ => rfl) | exact Or.inl (by unfold q_e; decide)) (fun _ _ _ => rfl)
  · unfold wp_Pr_perform
    refine pr_op ?_
    rw [ho]
    repeat first | refine bq_t (by decide) ?_ | refine bq_f (by decide) ?_
    unfold wp_Pr_immediate
    refine pr_rs ⟨fI_in w 21, fun a ea b eb => pr_op ?_⟩
    subst ea
    subst eb
    rw [ho]
    repeat first | refine bq_t (by decide) ?_ | refine bq_f (by decide) ?_
    refine pr_rt ?_
    unfold wp_Pr_signed
    exact pr_result hP
  · unfold wp_Md_operate
    rw [ho]
    repeat first | refine bq_t (by decide) ?_ | refine bq_f (by decide) ?_
    unfold wp_Md_numbers
    refine md_rs H.e9 H.rel (md_field H.e9 (fun x ex => ?_))
    rw [H.e9] at ex
    subst ex
    repeat first | refine bq_t (by decide) ?_ | refine bq_f (by decide) ?_
    refine md_offset H.e9 ?_
    repeat first | refine bq_t (by decide) ?_ | refine bq_f (by decide) ?_
    refine md_into H.e5 ?_
    rw [l_add32]
    exact hQ

theorem i_slti (H : pre mn g rg hq mf cd fg w dd bm rr kt) (ho : zz_ushr w 26 = 10) : pfx ms mn g rg hq mf cd fg w dd bm rr kt := by
  by_cases hv : w.toInt16.toInt32 ≤ rv rg w 21
  · refine pfx_mk H 0 (fun L O => (g, wr rg (fI w 16) (0), hq, mf, cd, fg, L, O)) (fun dd l1 l2 => (dd, l1, l2, bm, wr rr (fI w 16) (0), kt)) (fun L O P hP => ?_) (fun dd l1 l2 H L O => ⟨oc_0 (q_wr H.rel) H.e5 H.e11 H.e12 H.e13, fun Q hQ => ?_⟩) (fun _ _ _ _ => rfl) (fun _ _ _ _ _ hs => ⟨by repeat first | exact hs | apply lo_upd, rfl, rfl, rfl⟩) (by first | exact Or.inr (fun _ _ => rfl) | exact Or.inl (by unfold q_e; decide)) (fun _ _ _ => rfl)
    · unfold wp_Pr_perform
      refine pr_op ?_
      rw [ho]
      repeat first | refine bq_t (by decide) ?_ | refine bq_f (by decide) ?_
      unfold wp_Pr_immediate
      refine pr_rs ⟨fI_in w 21, fun a ea b eb => pr_op ?_⟩
      subst ea
      subst eb
      rw [ho]
      repeat first | refine bq_t (by decide) ?_ | refine bq_f (by decide) ?_
      refine pr_rt ?_
      unfold wp_Pr_signed
      exact bq_t hv (pr_result hP)
    · unfold wp_Md_operate
      rw [ho]
      repeat first | refine bq_t (by decide) ?_ | refine bq_f (by decide) ?_
      unfold wp_Md_numbers
      refine md_rs H.e9 H.rel (md_field H.e9 (fun x ex => ?_))
      rw [H.e9] at ex
      subst ex
      repeat first | refine bq_t (by decide) ?_ | refine bq_f (by decide) ?_
      refine md_offset H.e9 ?_
      exact bq_t hv (md_into H.e5 hQ)
  · refine pfx_mk H 0 (fun L O => (g, wr rg (fI w 16) (1), hq, mf, cd, fg, L, O)) (fun dd l1 l2 => (dd, l1, l2, bm, wr rr (fI w 16) (1), kt)) (fun L O P hP => ?_) (fun dd l1 l2 H L O => ⟨oc_0 (q_wr H.rel) H.e5 H.e11 H.e12 H.e13, fun Q hQ => ?_⟩) (fun _ _ _ _ => rfl) (fun _ _ _ _ _ hs => ⟨by repeat first | exact hs | apply lo_upd, rfl, rfl, rfl⟩) (by first | exact Or.inr (fun _ _ => rfl) | exact Or.inl (by unfold q_e; decide)) (fun _ _ _ => rfl)
    · unfold wp_Pr_perform
      refine pr_op ?_
      rw [ho]
      repeat first | refine bq_t (by decide) ?_ | refine bq_f (by decide) ?_
      unfold wp_Pr_immediate
      refine pr_rs ⟨fI_in w 21, fun a ea b eb => pr_op ?_⟩
      subst ea
      subst eb
      rw [ho]
      repeat first | refine bq_t (by decide) ?_ | refine bq_f (by decide) ?_
      refine pr_rt ?_
      unfold wp_Pr_signed
      exact bq_f hv (pr_result hP)
    · unfold wp_Md_operate
      rw [ho]
      repeat first | refine bq_t (by decide) ?_ | refine bq_f (by decide) ?_
      unfold wp_Md_numbers
      refine md_rs H.e9 H.rel (md_field H.e9 (fun x ex => ?_))
      rw [H.e9] at ex
      subst ex
      repeat first | refine bq_t (by decide) ?_ | refine bq_f (by decide) ?_
      refine md_offset H.e9 ?_
      exact bq_f hv (md_into H.e5 hQ)

theorem i_sltiu (H : pre mn g rg hq mf cd fg w dd bm rr kt) (ho : zz_ushr w 26 = 11) : pfx ms mn g rg hq mf cd fg w dd bm rr kt := by
  by_cases hv : (rv rg w 21).toBitVec.toNat < (w.toInt16.toInt32).toBitVec.toNat
  · refine pfx_mk H 0 (fun L O => (g, wr rg (fI w 16) (1), hq, mf, cd, fg, L, O)) (fun dd l1 l2 => (dd, l1, l2, bm, wr rr (fI w 16) (1), kt)) (fun L O P hP => ?_) (fun dd l1 l2 H L O => ⟨oc_0 (q_wr H.rel) H.e5 H.e11 H.e12 H.e13, fun Q hQ => ?_⟩) (fun _ _ _ _ => rfl) (fun _ _ _ _ _ hs => ⟨by repeat first | exact hs | apply lo_upd, rfl, rfl, rfl⟩) (by first | exact Or.inr (fun _ _ => rfl) | exact Or.inl (by unfold q_e; decide)) (fun _ _ _ => rfl)
    · unfold wp_Pr_perform
      refine pr_op ?_
      rw [ho]
      repeat first | refine bq_t (by decide) ?_ | refine bq_f (by decide) ?_
      unfold wp_Pr_immediate
      refine pr_rs ⟨fI_in w 21, fun a ea b eb => pr_op ?_⟩
      subst ea
      subst eb
      rw [ho]
      repeat first | refine bq_t (by decide) ?_ | refine bq_f (by decide) ?_
      refine pr_rt ?_
      unfold wp_Pr_unsigned wp_Pr_signed
      refine fun x ex y ey => ?_
      subst ex
      subst ey
      have hv : (rg (fI w 21).toNatClampNeg).toBitVec.toNat < w.toInt16.toInt32.toBitVec.toNat := hv
      rw [u_le]
      exact bq_f (by omega) (pr_result hP)
    · unfold wp_Md_operate
      rw [ho]
      repeat first | refine bq_t (by decide) ?_ | refine bq_f (by decide) ?_
      unfold wp_Md_numbers
      refine md_rs H.e9 H.rel (md_field H.e9 (fun x ex => ?_))
      rw [H.e9] at ex
      subst ex
      repeat first | refine bq_t (by decide) ?_ | refine bq_f (by decide) ?_
      refine md_offset H.e9 (md_below ?_)
      rw [if_pos hv]
      exact bq_f (by decide) (md_into H.e5 hQ)
  · refine pfx_mk H 0 (fun L O => (g, wr rg (fI w 16) (0), hq, mf, cd, fg, L, O)) (fun dd l1 l2 => (dd, l1, l2, bm, wr rr (fI w 16) (0), kt)) (fun L O P hP => ?_) (fun dd l1 l2 H L O => ⟨oc_0 (q_wr H.rel) H.e5 H.e11 H.e12 H.e13, fun Q hQ => ?_⟩) (fun _ _ _ _ => rfl) (fun _ _ _ _ _ hs => ⟨by repeat first | exact hs | apply lo_upd, rfl, rfl, rfl⟩) (by first | exact Or.inr (fun _ _ => rfl) | exact Or.inl (by unfold q_e; decide)) (fun _ _ _ => rfl)
    · unfold wp_Pr_perform
      refine pr_op ?_
      rw [ho]
      repeat first | refine bq_t (by decide) ?_ | refine bq_f (by decide) ?_
      unfold wp_Pr_immediate
      refine pr_rs ⟨fI_in w 21, fun a ea b eb => pr_op ?_⟩
      subst ea
      subst eb
      rw [ho]
      repeat first | refine bq_t (by decide) ?_ | refine bq_f (by decide) ?_
      refine pr_rt ?_
      unfold wp_Pr_unsigned wp_Pr_signed
      refine fun x ex y ey => ?_
      subst ex
      subst ey
      have hv : ¬ (rg (fI w 21).toNatClampNeg).toBitVec.toNat < w.toInt16.toInt32.toBitVec.toNat := hv
      rw [u_le]
      exact bq_t (by omega) (pr_result hP)
    · unfold wp_Md_operate
      rw [ho]
      repeat first | refine bq_t (by decide) ?_ | refine bq_f (by decide) ?_
      unfold wp_Md_numbers
      refine md_rs H.e9 H.rel (md_field H.e9 (fun x ex => ?_))
      rw [H.e9] at ex
      subst ex
      repeat first | refine bq_t (by decide) ?_ | refine bq_f (by decide) ?_
      refine md_offset H.e9 (md_below ?_)
      rw [if_neg hv]
      exact bq_t rfl (md_into H.e5 hQ)

theorem i_andi (H : pre mn g rg hq mf cd fg w dd bm rr kt) (ho : zz_ushr w 26 = 12) : pfx ms mn g rg hq mf cd fg w dd bm rr kt := by
  refine pfx_mk H 0 (fun L O => (g, wr rg (fI w 16) (rv rg w 21 &&& (w &&& 65535)), hq, mf, cd, fg, L, O)) (fun dd l1 l2 => (dd, l1, l2, bm, wr rr (fI w 16) (rv rg w 21 &&& (w &&& 65535)), kt)) (fun L O P hP => ?_) (fun dd l1 l2 H L O => ⟨oc_0 (q_wr H.rel) H.e5 H.e11 H.e12 H.e13, fun Q hQ => ?_⟩) (fun _ _ _ _ => rfl) (fun _ _ _ _ _ hs => ⟨by repeat first | exact hs | apply lo_upd, rfl, rfl, rfl⟩) (by first | exact Or.inr (fun _ _ => rfl) | exact Or.inl (by unfold q_e; decide)) (fun _ _ _ => rfl)
  · unfold wp_Pr_perform
    refine pr_op ?_
    rw [ho]
    repeat first | refine bq_t (by decide) ?_ | refine bq_f (by decide) ?_
    unfold wp_Pr_immediate
    refine pr_rs ⟨fI_in w 21, fun a ea b eb => pr_op ?_⟩
    subst ea
    subst eb
    rw [ho]
    repeat first | refine bq_t (by decide) ?_ | refine bq_f (by decide) ?_
    exact pr_rt (pr_result hP)
  · unfold wp_Md_operate
    rw [ho]
    repeat first | refine bq_t (by decide) ?_ | refine bq_f (by decide) ?_
    unfold wp_Md_numbers
    refine md_rs H.e9 H.rel (md_field H.e9 (fun x ex => ?_))
    rw [H.e9] at ex
    subst ex
    repeat first | refine bq_t (by decide) ?_ | refine bq_f (by decide) ?_
    exact md_into H.e5 hQ

theorem i_ori (H : pre mn g rg hq mf cd fg w dd bm rr kt) (ho : zz_ushr w 26 = 13) : pfx ms mn g rg hq mf cd fg w dd bm rr kt := by
  refine pfx_mk H 0 (fun L O => (g, wr rg (fI w 16) (rv rg w 21 ||| (w &&& 65535)), hq, mf, cd, fg, L, O)) (fun dd l1 l2 => (dd, l1, l2, bm, wr rr (fI w 16) (rv rg w 21 ||| (w &&& 65535)), kt)) (fun L O P hP => ?_) (fun dd l1 l2 H L O => ⟨oc_0 (q_wr H.rel) H.e5 H.e11 H.e12 H.e13, fun Q hQ => ?_⟩) (fun _ _ _ _ => rfl) (fun _ _ _ _ _ hs => ⟨by repeat first | exact hs | apply lo_upd, rfl, rfl, rfl⟩) (by first | exact Or.inr (fun _ _ => rfl) | exact Or.inl (by unfold q_e; decide)) (fun _ _ _ => rfl)
  · unfold wp_Pr_perform
    refine pr_op ?_
    rw [ho]
    repeat first | refine bq_t (by decide) ?_ | refine bq_f (by decide) ?_
    unfold wp_Pr_immediate
    refine pr_rs ⟨fI_in w 21, fun a ea b eb => pr_op ?_⟩
    subst ea
    subst eb
    rw [ho]
    repeat first | refine bq_t (by decide) ?_ | refine bq_f (by decide) ?_
    exact pr_rt (pr_result hP)
  · unfold wp_Md_operate
    rw [ho]
    repeat first | refine bq_t (by decide) ?_ | refine bq_f (by decide) ?_
    unfold wp_Md_numbers
    refine md_rs H.e9 H.rel (md_field H.e9 (fun x ex => ?_))
    rw [H.e9] at ex
    subst ex
    repeat first | refine bq_t (by decide) ?_ | refine bq_f (by decide) ?_
    exact md_into H.e5 hQ

theorem i_xori (H : pre mn g rg hq mf cd fg w dd bm rr kt) (ho : zz_ushr w 26 = 14) : pfx ms mn g rg hq mf cd fg w dd bm rr kt := by
  refine pfx_mk H 0 (fun L O => (g, wr rg (fI w 16) (rv rg w 21 ^^^ (w &&& 65535)), hq, mf, cd, fg, L, O)) (fun dd l1 l2 => (dd, l1, l2, bm, wr rr (fI w 16) (rv rg w 21 ^^^ (w &&& 65535)), kt)) (fun L O P hP => ?_) (fun dd l1 l2 H L O => ⟨oc_0 (q_wr H.rel) H.e5 H.e11 H.e12 H.e13, fun Q hQ => ?_⟩) (fun _ _ _ _ => rfl) (fun _ _ _ _ _ hs => ⟨by repeat first | exact hs | apply lo_upd, rfl, rfl, rfl⟩) (by first | exact Or.inr (fun _ _ => rfl) | exact Or.inl (by unfold q_e; decide)) (fun _ _ _ => rfl)
  · unfold wp_Pr_perform
    refine pr_op ?_
    rw [ho]
    repeat first | refine bq_t (by decide) ?_ | refine bq_f (by decide) ?_
    unfold wp_Pr_immediate
    refine pr_rs ⟨fI_in w 21, fun a ea b eb => pr_op ?_⟩
    subst ea
    subst eb
    rw [ho]
    repeat first | refine bq_t (by decide) ?_ | refine bq_f (by decide) ?_
    exact pr_rt (pr_result hP)
  · unfold wp_Md_operate
    rw [ho]
    repeat first | refine bq_t (by decide) ?_ | refine bq_f (by decide) ?_
    unfold wp_Md_numbers
    refine md_rs H.e9 H.rel (md_field H.e9 (fun x ex => ?_))
    rw [H.e9] at ex
    subst ex
    repeat first | refine bq_t (by decide) ?_ | refine bq_f (by decide) ?_
    exact md_into H.e5 hQ

theorem i_lui (H : pre mn g rg hq mf cd fg w dd bm rr kt) (ho : zz_ushr w 26 = 15) : pfx ms mn g rg hq mf cd fg w dd bm rr kt := by
  refine pfx_mk H 0 (fun L O => (g, wr rg (fI w 16) (zz_shl (w &&& 65535) 16), hq, mf, cd, fg, L, O)) (fun dd l1 l2 => (dd, l1, l2, bm, wr rr (fI w 16) (zz_shl (w &&& 65535) 16), kt)) (fun L O P hP => ?_) (fun dd l1 l2 H L O => ⟨oc_0 (q_wr H.rel) H.e5 H.e11 H.e12 H.e13, fun Q hQ => ?_⟩) (fun _ _ _ _ => rfl) (fun _ _ _ _ _ hs => ⟨by repeat first | exact hs | apply lo_upd, rfl, rfl, rfl⟩) (by first | exact Or.inr (fun _ _ => rfl) | exact Or.inl (by unfold q_e; decide)) (fun _ _ _ => rfl)
  · unfold wp_Pr_perform
    refine pr_op ?_
    rw [ho]
    repeat first | refine bq_t (by decide) ?_ | refine bq_f (by decide) ?_
    unfold wp_Pr_immediate
    refine pr_rs ⟨fI_in w 21, fun a ea b eb => pr_op ?_⟩
    subst ea
    subst eb
    rw [ho]
    repeat first | refine bq_t (by decide) ?_ | refine bq_f (by decide) ?_
    exact pr_rt (pr_result hP)
  · unfold wp_Md_operate
    rw [ho]
    repeat first | refine bq_t (by decide) ?_ | refine bq_f (by decide) ?_
    unfold wp_Md_numbers
    refine md_rs H.e9 H.rel (md_field H.e9 (fun x ex => ?_))
    rw [H.e9] at ex
    subst ex
    repeat first | refine bq_t (by decide) ?_ | refine bq_f (by decide) ?_
    exact md_into H.e5 hQ

theorem i_beq (H : pre mn g rg hq mf cd fg w dd bm rr kt) (ho : zz_ushr w 26 = 4) : pfx ms mn g rg hq mf cd fg w dd bm rr kt := by
  by_cases hs : g 2 = 0
  · by_cases hv : rv rg w 21 = rv rg w 16
    · refine pfx_mk H (-1) (fun L O => (bu g 1 0 (g 1 + zz_shl w.toInt16.toInt32 2), rg, hq, mf, cd, fg, L, O)) (fun dd l1 l2 => (bd dd 1 0 (g 1 + zz_shl w.toInt16.toInt32 2), l1, l2, bm, rr, kt)) (fun L O P hP => ?_) (fun dd l1 l2 H L O => ⟨oc_br (Or.inr rfl) H.rel H.e5, fun Q hQ => ?_⟩) (fun _ _ _ _ => rfl) (fun _ _ _ _ _ hs => ⟨by repeat first | exact hs | apply lo_upd, rfl, rfl, rfl⟩) (by first | exact Or.inr (fun _ _ => rfl) | exact Or.inl (by unfold q_e; decide)) (fun _ _ _ => rfl)
      · unfold wp_Pr_perform
        refine pr_op ?_
        rw [ho]
        repeat first | refine bq_t (by decide) ?_ | refine bq_f (by decide) ?_
        unfold wp_Pr_branchOnRegisters
        refine bq_t hs (pr_rs ⟨fI_in w 21, fun a ea => pr_rt ⟨fI_in w 16, fun b eb => pr_op ?_⟩⟩)
        subst ea
        subst eb
        rw [ho]
        repeat first | refine bq_t (by decide) ?_ | refine bq_f (by decide) ?_
        refine pr_op ?_
        rw [ho]
        repeat first | refine bq_t (by decide) ?_ | refine bq_f (by decide) ?_
        exact bq_t hv (pr_branch hP)
      · unfold wp_Md_operate
        rw [ho]
        repeat first | refine bq_t (by decide) ?_ | refine bq_f (by decide) ?_
        refine fun x ex => ?_
        subst ex
        repeat first | refine bq_t (by decide) ?_ | refine bq_f (by decide) ?_
        refine md_rs H.e9 H.rel (md_rt H.e9 H.rel ?_)
        have h6 : dd 6 = 0 := by rw [H.rel.2.2.2.2.2.2.1.2.2.2.1]; exact hs
        have e31 : dd 3 + 4 = g 1 := by rw [H.rel.2.2.2.2.2.2.1.1, H.nxt hs]
        refine bq_t hv (md_near H.e9 e31 ?_)
        repeat first | refine bq_t (by decide) ?_ | refine bq_f (by decide) ?_
        exact md_jumps h6 (Or.inr rfl) hQ
    · refine pfx_mk H (-1) (fun L O => (bu g 0 0 (g 1 + zz_shl w.toInt16.toInt32 2), rg, hq, mf, cd, fg, L, O)) (fun dd l1 l2 => (bd dd 0 0 (g 1 + zz_shl w.toInt16.toInt32 2), l1, l2, bm, rr, kt)) (fun L O P hP => ?_) (fun dd l1 l2 H L O => ⟨oc_br (Or.inl rfl) H.rel H.e5, fun Q hQ => ?_⟩) (fun _ _ _ _ => rfl) (fun _ _ _ _ _ hs => ⟨by repeat first | exact hs | apply lo_upd, rfl, rfl, rfl⟩) (by first | exact Or.inr (fun _ _ => rfl) | exact Or.inl (by unfold q_e; decide)) (fun _ _ _ => rfl)
      · unfold wp_Pr_perform
        refine pr_op ?_
        rw [ho]
        repeat first | refine bq_t (by decide) ?_ | refine bq_f (by decide) ?_
        unfold wp_Pr_branchOnRegisters
        refine bq_t hs (pr_rs ⟨fI_in w 21, fun a ea => pr_rt ⟨fI_in w 16, fun b eb => pr_op ?_⟩⟩)
        subst ea
        subst eb
        rw [ho]
        repeat first | refine bq_t (by decide) ?_ | refine bq_f (by decide) ?_
        refine pr_op ?_
        rw [ho]
        repeat first | refine bq_t (by decide) ?_ | refine bq_f (by decide) ?_
        exact bq_f hv (pr_branch hP)
      · unfold wp_Md_operate
        rw [ho]
        repeat first | refine bq_t (by decide) ?_ | refine bq_f (by decide) ?_
        refine fun x ex => ?_
        subst ex
        repeat first | refine bq_t (by decide) ?_ | refine bq_f (by decide) ?_
        refine md_rs H.e9 H.rel (md_rt H.e9 H.rel ?_)
        have h6 : dd 6 = 0 := by rw [H.rel.2.2.2.2.2.2.1.2.2.2.1]; exact hs
        have e31 : dd 3 + 4 = g 1 := by rw [H.rel.2.2.2.2.2.2.1.1, H.nxt hs]
        refine bq_f hv (md_near H.e9 e31 ?_)
        repeat first | refine bq_t (by decide) ?_ | refine bq_f (by decide) ?_
        exact md_jumps h6 (Or.inl rfl) hQ
  · refine pfx_mk H 8 (fun L O => (g, rg, hq, mf, cd, fg, L, O)) (fun dd l1 l2 => (upd dd 5 8, l1, l2, bm, rr, kt)) (fun L O P hP => ?_) (fun dd l1 l2 H L O => ⟨oc_end (by unfold q_e; simp) H.rel H.nxt rfl (fun j _ h => pk_un h), fun Q hQ => ?_⟩) (fun _ _ _ _ => rfl) (fun _ _ _ _ _ hs => ⟨by repeat first | exact hs | apply lo_upd, rfl, rfl, rfl⟩) (by first | exact Or.inr (fun _ _ => rfl) | exact Or.inl (by unfold q_e; decide)) (fun _ _ _ => rfl)
    · unfold wp_Pr_perform
      refine pr_op ?_
      rw [ho]
      repeat first | refine bq_t (by decide) ?_ | refine bq_f (by decide) ?_
      unfold wp_Pr_branchOnRegisters
      exact bq_f hs hP
    · unfold wp_Md_operate
      rw [ho]
      repeat first | refine bq_t (by decide) ?_ | refine bq_f (by decide) ?_
      refine fun x ex => ?_
      subst ex
      repeat first | refine bq_t (by decide) ?_ | refine bq_f (by decide) ?_
      refine md_rs H.e9 H.rel (md_rt H.e9 H.rel ?_)
      have h6 : ¬ dd 6 = 0 := by rw [H.rel.2.2.2.2.2.2.1.2.2.2.1]; exact hs
      have any : ∀ z y lk, wp_Md_jumps ms dd l1 l2 bm rr kt z y lk Q := fun z y lk => md_jumps_s h6 H.e5 hQ
      unfold wj_Md_branches_139 wp_Md_near
      exact ⟨fun _ => md_offset H.e9 (fun x ex => ⟨fun _ => any _ _ _, fun _ => any _ _ _⟩), fun _ => md_offset H.e9 (fun x ex => ⟨fun _ => any _ _ _, fun _ => any _ _ _⟩)⟩

theorem i_beql (H : pre mn g rg hq mf cd fg w dd bm rr kt) (ho : zz_ushr w 26 = 20) : pfx ms mn g rg hq mf cd fg w dd bm rr kt := by
  by_cases hs : g 2 = 0
  · by_cases hv : rv rg w 21 = rv rg w 16
    · refine pfx_mk H (-1) (fun L O => (bu g 1 1 (g 1 + zz_shl w.toInt16.toInt32 2), rg, hq, mf, cd, fg, L, O)) (fun dd l1 l2 => (bd dd 1 1 (g 1 + zz_shl w.toInt16.toInt32 2), l1, l2, bm, rr, kt)) (fun L O P hP => ?_) (fun dd l1 l2 H L O => ⟨oc_br (Or.inr rfl) H.rel H.e5, fun Q hQ => ?_⟩) (fun _ _ _ _ => rfl) (fun _ _ _ _ _ hs => ⟨by repeat first | exact hs | apply lo_upd, rfl, rfl, rfl⟩) (by first | exact Or.inr (fun _ _ => rfl) | exact Or.inl (by unfold q_e; decide)) (fun _ _ _ => rfl)
      · unfold wp_Pr_perform
        refine pr_op ?_
        rw [ho]
        repeat first | refine bq_t (by decide) ?_ | refine bq_f (by decide) ?_
        unfold wp_Pr_branchOnRegisters
        refine bq_t hs (pr_rs ⟨fI_in w 21, fun a ea => pr_rt ⟨fI_in w 16, fun b eb => pr_op ?_⟩⟩)
        subst ea
        subst eb
        rw [ho]
        repeat first | refine bq_t (by decide) ?_ | refine bq_f (by decide) ?_
        refine pr_op ?_
        rw [ho]
        repeat first | refine bq_t (by decide) ?_ | refine bq_f (by decide) ?_
        exact bq_t hv (pr_branch hP)
      · unfold wp_Md_operate
        rw [ho]
        repeat first | refine bq_t (by decide) ?_ | refine bq_f (by decide) ?_
        refine fun x ex => ?_
        subst ex
        repeat first | refine bq_t (by decide) ?_ | refine bq_f (by decide) ?_
        refine md_rs H.e9 H.rel (md_rt H.e9 H.rel ?_)
        have h6 : dd 6 = 0 := by rw [H.rel.2.2.2.2.2.2.1.2.2.2.1]; exact hs
        have e31 : dd 3 + 4 = g 1 := by rw [H.rel.2.2.2.2.2.2.1.1, H.nxt hs]
        refine bq_t hv (md_near H.e9 e31 ?_)
        repeat first | refine bq_t (by decide) ?_ | refine bq_f (by decide) ?_
        exact md_jumps h6 (Or.inr rfl) hQ
    · refine pfx_mk H (-1) (fun L O => (bu g 0 1 (g 1 + zz_shl w.toInt16.toInt32 2), rg, hq, mf, cd, fg, L, O)) (fun dd l1 l2 => (bd dd 0 1 (g 1 + zz_shl w.toInt16.toInt32 2), l1, l2, bm, rr, kt)) (fun L O P hP => ?_) (fun dd l1 l2 H L O => ⟨oc_br (Or.inl rfl) H.rel H.e5, fun Q hQ => ?_⟩) (fun _ _ _ _ => rfl) (fun _ _ _ _ _ hs => ⟨by repeat first | exact hs | apply lo_upd, rfl, rfl, rfl⟩) (by first | exact Or.inr (fun _ _ => rfl) | exact Or.inl (by unfold q_e; decide)) (fun _ _ _ => rfl)
      · unfold wp_Pr_perform
        refine pr_op ?_
        rw [ho]
        repeat first | refine bq_t (by decide) ?_ | refine bq_f (by decide) ?_
        unfold wp_Pr_branchOnRegisters
        refine bq_t hs (pr_rs ⟨fI_in w 21, fun a ea => pr_rt ⟨fI_in w 16, fun b eb => pr_op ?_⟩⟩)
        subst ea
        subst eb
        rw [ho]
        repeat first | refine bq_t (by decide) ?_ | refine bq_f (by decide) ?_
        refine pr_op ?_
        rw [ho]
        repeat first | refine bq_t (by decide) ?_ | refine bq_f (by decide) ?_
        exact bq_f hv (pr_branch hP)
      · unfold wp_Md_operate
        rw [ho]
        repeat first | refine bq_t (by decide) ?_ | refine bq_f (by decide) ?_
        refine fun x ex => ?_
        subst ex
        repeat first | refine bq_t (by decide) ?_ | refine bq_f (by decide) ?_
        refine md_rs H.e9 H.rel (md_rt H.e9 H.rel ?_)
        have h6 : dd 6 = 0 := by rw [H.rel.2.2.2.2.2.2.1.2.2.2.1]; exact hs
        have e31 : dd 3 + 4 = g 1 := by rw [H.rel.2.2.2.2.2.2.1.1, H.nxt hs]
        refine bq_f hv (md_near H.e9 e31 ?_)
        repeat first | refine bq_t (by decide) ?_ | refine bq_f (by decide) ?_
        exact md_jumps h6 (Or.inl rfl) hQ
  · refine pfx_mk H 8 (fun L O => (g, rg, hq, mf, cd, fg, L, O)) (fun dd l1 l2 => (upd dd 5 8, l1, l2, bm, rr, kt)) (fun L O P hP => ?_) (fun dd l1 l2 H L O => ⟨oc_end (by unfold q_e; simp) H.rel H.nxt rfl (fun j _ h => pk_un h), fun Q hQ => ?_⟩) (fun _ _ _ _ => rfl) (fun _ _ _ _ _ hs => ⟨by repeat first | exact hs | apply lo_upd, rfl, rfl, rfl⟩) (by first | exact Or.inr (fun _ _ => rfl) | exact Or.inl (by unfold q_e; decide)) (fun _ _ _ => rfl)
    · unfold wp_Pr_perform
      refine pr_op ?_
      rw [ho]
      repeat first | refine bq_t (by decide) ?_ | refine bq_f (by decide) ?_
      unfold wp_Pr_branchOnRegisters
      exact bq_f hs hP
    · unfold wp_Md_operate
      rw [ho]
      repeat first | refine bq_t (by decide) ?_ | refine bq_f (by decide) ?_
      refine fun x ex => ?_
      subst ex
      repeat first | refine bq_t (by decide) ?_ | refine bq_f (by decide) ?_
      refine md_rs H.e9 H.rel (md_rt H.e9 H.rel ?_)
      have h6 : ¬ dd 6 = 0 := by rw [H.rel.2.2.2.2.2.2.1.2.2.2.1]; exact hs
      have any : ∀ z y lk, wp_Md_jumps ms dd l1 l2 bm rr kt z y lk Q := fun z y lk => md_jumps_s h6 H.e5 hQ
      unfold wj_Md_branches_139 wp_Md_near
      exact ⟨fun _ => md_offset H.e9 (fun x ex => ⟨fun _ => any _ _ _, fun _ => any _ _ _⟩), fun _ => md_offset H.e9 (fun x ex => ⟨fun _ => any _ _ _, fun _ => any _ _ _⟩)⟩

theorem i_bne (H : pre mn g rg hq mf cd fg w dd bm rr kt) (ho : zz_ushr w 26 = 5) : pfx ms mn g rg hq mf cd fg w dd bm rr kt := by
  by_cases hs : g 2 = 0
  · by_cases hv : rv rg w 21 = rv rg w 16
    · refine pfx_mk H (-1) (fun L O => (bu g 0 0 (g 1 + zz_shl w.toInt16.toInt32 2), rg, hq, mf, cd, fg, L, O)) (fun dd l1 l2 => (bd dd 0 0 (g 1 + zz_shl w.toInt16.toInt32 2), l1, l2, bm, rr, kt)) (fun L O P hP => ?_) (fun dd l1 l2 H L O => ⟨oc_br (Or.inl rfl) H.rel H.e5, fun Q hQ => ?_⟩) (fun _ _ _ _ => rfl) (fun _ _ _ _ _ hs => ⟨by repeat first | exact hs | apply lo_upd, rfl, rfl, rfl⟩) (by first | exact Or.inr (fun _ _ => rfl) | exact Or.inl (by unfold q_e; decide)) (fun _ _ _ => rfl)
      · unfold wp_Pr_perform
        refine pr_op ?_
        rw [ho]
        repeat first | refine bq_t (by decide) ?_ | refine bq_f (by decide) ?_
        unfold wp_Pr_branchOnRegisters
        refine bq_t hs (pr_rs ⟨fI_in w 21, fun a ea => pr_rt ⟨fI_in w 16, fun b eb => pr_op ?_⟩⟩)
        subst ea
        subst eb
        rw [ho]
        repeat first | refine bq_t (by decide) ?_ | refine bq_f (by decide) ?_
        refine pr_op ?_
        rw [ho]
        repeat first | refine bq_t (by decide) ?_ | refine bq_f (by decide) ?_
        exact bq_t hv (pr_branch hP)
      · unfold wp_Md_operate
        rw [ho]
        repeat first | refine bq_t (by decide) ?_ | refine bq_f (by decide) ?_
        refine fun x ex => ?_
        subst ex
        repeat first | refine bq_t (by decide) ?_ | refine bq_f (by decide) ?_
        refine md_rs H.e9 H.rel (md_rt H.e9 H.rel ?_)
        have h6 : dd 6 = 0 := by rw [H.rel.2.2.2.2.2.2.1.2.2.2.1]; exact hs
        have e31 : dd 3 + 4 = g 1 := by rw [H.rel.2.2.2.2.2.2.1.1, H.nxt hs]
        refine bq_t hv (md_near H.e9 e31 ?_)
        repeat first | refine bq_t (by decide) ?_ | refine bq_f (by decide) ?_
        exact md_jumps h6 (Or.inl rfl) hQ
    · refine pfx_mk H (-1) (fun L O => (bu g 1 0 (g 1 + zz_shl w.toInt16.toInt32 2), rg, hq, mf, cd, fg, L, O)) (fun dd l1 l2 => (bd dd 1 0 (g 1 + zz_shl w.toInt16.toInt32 2), l1, l2, bm, rr, kt)) (fun L O P hP => ?_) (fun dd l1 l2 H L O => ⟨oc_br (Or.inr rfl) H.rel H.e5, fun Q hQ => ?_⟩) (fun _ _ _ _ => rfl) (fun _ _ _ _ _ hs => ⟨by repeat first | exact hs | apply lo_upd, rfl, rfl, rfl⟩) (by first | exact Or.inr (fun _ _ => rfl) | exact Or.inl (by unfold q_e; decide)) (fun _ _ _ => rfl)
      · unfold wp_Pr_perform
        refine pr_op ?_
        rw [ho]
        repeat first | refine bq_t (by decide) ?_ | refine bq_f (by decide) ?_
        unfold wp_Pr_branchOnRegisters
        refine bq_t hs (pr_rs ⟨fI_in w 21, fun a ea => pr_rt ⟨fI_in w 16, fun b eb => pr_op ?_⟩⟩)
        subst ea
        subst eb
        rw [ho]
        repeat first | refine bq_t (by decide) ?_ | refine bq_f (by decide) ?_
        refine pr_op ?_
        rw [ho]
        repeat first | refine bq_t (by decide) ?_ | refine bq_f (by decide) ?_
        exact bq_f hv (pr_branch hP)
      · unfold wp_Md_operate
        rw [ho]
        repeat first | refine bq_t (by decide) ?_ | refine bq_f (by decide) ?_
        refine fun x ex => ?_
        subst ex
        repeat first | refine bq_t (by decide) ?_ | refine bq_f (by decide) ?_
        refine md_rs H.e9 H.rel (md_rt H.e9 H.rel ?_)
        have h6 : dd 6 = 0 := by rw [H.rel.2.2.2.2.2.2.1.2.2.2.1]; exact hs
        have e31 : dd 3 + 4 = g 1 := by rw [H.rel.2.2.2.2.2.2.1.1, H.nxt hs]
        refine bq_f hv (md_near H.e9 e31 ?_)
        repeat first | refine bq_t (by decide) ?_ | refine bq_f (by decide) ?_
        exact md_jumps h6 (Or.inr rfl) hQ
  · refine pfx_mk H 8 (fun L O => (g, rg, hq, mf, cd, fg, L, O)) (fun dd l1 l2 => (upd dd 5 8, l1, l2, bm, rr, kt)) (fun L O P hP => ?_) (fun dd l1 l2 H L O => ⟨oc_end (by unfold q_e; simp) H.rel H.nxt rfl (fun j _ h => pk_un h), fun Q hQ => ?_⟩) (fun _ _ _ _ => rfl) (fun _ _ _ _ _ hs => ⟨by repeat first | exact hs | apply lo_upd, rfl, rfl, rfl⟩) (by first | exact Or.inr (fun _ _ => rfl) | exact Or.inl (by unfold q_e; decide)) (fun _ _ _ => rfl)
    · unfold wp_Pr_perform
      refine pr_op ?_
      rw [ho]
      repeat first | refine bq_t (by decide) ?_ | refine bq_f (by decide) ?_
      unfold wp_Pr_branchOnRegisters
      exact bq_f hs hP
    · unfold wp_Md_operate
      rw [ho]
      repeat first | refine bq_t (by decide) ?_ | refine bq_f (by decide) ?_
      refine fun x ex => ?_
      subst ex
      repeat first | refine bq_t (by decide) ?_ | refine bq_f (by decide) ?_
      refine md_rs H.e9 H.rel (md_rt H.e9 H.rel ?_)
      have h6 : ¬ dd 6 = 0 := by rw [H.rel.2.2.2.2.2.2.1.2.2.2.1]; exact hs
      have any : ∀ z y lk, wp_Md_jumps ms dd l1 l2 bm rr kt z y lk Q := fun z y lk => md_jumps_s h6 H.e5 hQ
      unfold wj_Md_branches_139 wp_Md_near
      exact ⟨fun _ => md_offset H.e9 (fun x ex => ⟨fun _ => any _ _ _, fun _ => any _ _ _⟩), fun _ => md_offset H.e9 (fun x ex => ⟨fun _ => any _ _ _, fun _ => any _ _ _⟩)⟩

theorem i_bnel (H : pre mn g rg hq mf cd fg w dd bm rr kt) (ho : zz_ushr w 26 = 21) : pfx ms mn g rg hq mf cd fg w dd bm rr kt := by
  by_cases hs : g 2 = 0
  · by_cases hv : rv rg w 21 = rv rg w 16
    · refine pfx_mk H (-1) (fun L O => (bu g 0 1 (g 1 + zz_shl w.toInt16.toInt32 2), rg, hq, mf, cd, fg, L, O)) (fun dd l1 l2 => (bd dd 0 1 (g 1 + zz_shl w.toInt16.toInt32 2), l1, l2, bm, rr, kt)) (fun L O P hP => ?_) (fun dd l1 l2 H L O => ⟨oc_br (Or.inl rfl) H.rel H.e5, fun Q hQ => ?_⟩) (fun _ _ _ _ => rfl) (fun _ _ _ _ _ hs => ⟨by repeat first | exact hs | apply lo_upd, rfl, rfl, rfl⟩) (by first | exact Or.inr (fun _ _ => rfl) | exact Or.inl (by unfold q_e; decide)) (fun _ _ _ => rfl)
      · unfold wp_Pr_perform
        refine pr_op ?_
        rw [ho]
        repeat first | refine bq_t (by decide) ?_ | refine bq_f (by decide) ?_
        unfold wp_Pr_branchOnRegisters
        refine bq_t hs (pr_rs ⟨fI_in w 21, fun a ea => pr_rt ⟨fI_in w 16, fun b eb => pr_op ?_⟩⟩)
        subst ea
        subst eb
        rw [ho]
        repeat first | refine bq_t (by decide) ?_ | refine bq_f (by decide) ?_
        refine pr_op ?_
        rw [ho]
        repeat first | refine bq_t (by decide) ?_ | refine bq_f (by decide) ?_
        exact bq_t hv (pr_branch hP)
      · unfold wp_Md_operate
        rw [ho]
        repeat first | refine bq_t (by decide) ?_ | refine bq_f (by decide) ?_
        refine fun x ex => ?_
        subst ex
        repeat first | refine bq_t (by decide) ?_ | refine bq_f (by decide) ?_
        refine md_rs H.e9 H.rel (md_rt H.e9 H.rel ?_)
        have h6 : dd 6 = 0 := by rw [H.rel.2.2.2.2.2.2.1.2.2.2.1]; exact hs
        have e31 : dd 3 + 4 = g 1 := by rw [H.rel.2.2.2.2.2.2.1.1, H.nxt hs]
        refine bq_t hv (md_near H.e9 e31 ?_)
        repeat first | refine bq_t (by decide) ?_ | refine bq_f (by decide) ?_
        exact md_jumps h6 (Or.inl rfl) hQ
    · refine pfx_mk H (-1) (fun L O => (bu g 1 1 (g 1 + zz_shl w.toInt16.toInt32 2), rg, hq, mf, cd, fg, L, O)) (fun dd l1 l2 => (bd dd 1 1 (g 1 + zz_shl w.toInt16.toInt32 2), l1, l2, bm, rr, kt)) (fun L O P hP => ?_) (fun dd l1 l2 H L O => ⟨oc_br (Or.inr rfl) H.rel H.e5, fun Q hQ => ?_⟩) (fun _ _ _ _ => rfl) (fun _ _ _ _ _ hs => ⟨by repeat first | exact hs | apply lo_upd, rfl, rfl, rfl⟩) (by first | exact Or.inr (fun _ _ => rfl) | exact Or.inl (by unfold q_e; decide)) (fun _ _ _ => rfl)
      · unfold wp_Pr_perform
        refine pr_op ?_
        rw [ho]
        repeat first | refine bq_t (by decide) ?_ | refine bq_f (by decide) ?_
        unfold wp_Pr_branchOnRegisters
        refine bq_t hs (pr_rs ⟨fI_in w 21, fun a ea => pr_rt ⟨fI_in w 16, fun b eb => pr_op ?_⟩⟩)
        subst ea
        subst eb
        rw [ho]
        repeat first | refine bq_t (by decide) ?_ | refine bq_f (by decide) ?_
        refine pr_op ?_
        rw [ho]
        repeat first | refine bq_t (by decide) ?_ | refine bq_f (by decide) ?_
        exact bq_f hv (pr_branch hP)
      · unfold wp_Md_operate
        rw [ho]
        repeat first | refine bq_t (by decide) ?_ | refine bq_f (by decide) ?_
        refine fun x ex => ?_
        subst ex
        repeat first | refine bq_t (by decide) ?_ | refine bq_f (by decide) ?_
        refine md_rs H.e9 H.rel (md_rt H.e9 H.rel ?_)
        have h6 : dd 6 = 0 := by rw [H.rel.2.2.2.2.2.2.1.2.2.2.1]; exact hs
        have e31 : dd 3 + 4 = g 1 := by rw [H.rel.2.2.2.2.2.2.1.1, H.nxt hs]
        refine bq_f hv (md_near H.e9 e31 ?_)
        repeat first | refine bq_t (by decide) ?_ | refine bq_f (by decide) ?_
        exact md_jumps h6 (Or.inr rfl) hQ
  · refine pfx_mk H 8 (fun L O => (g, rg, hq, mf, cd, fg, L, O)) (fun dd l1 l2 => (upd dd 5 8, l1, l2, bm, rr, kt)) (fun L O P hP => ?_) (fun dd l1 l2 H L O => ⟨oc_end (by unfold q_e; simp) H.rel H.nxt rfl (fun j _ h => pk_un h), fun Q hQ => ?_⟩) (fun _ _ _ _ => rfl) (fun _ _ _ _ _ hs => ⟨by repeat first | exact hs | apply lo_upd, rfl, rfl, rfl⟩) (by first | exact Or.inr (fun _ _ => rfl) | exact Or.inl (by unfold q_e; decide)) (fun _ _ _ => rfl)
    · unfold wp_Pr_perform
      refine pr_op ?_
      rw [ho]
      repeat first | refine bq_t (by decide) ?_ | refine bq_f (by decide) ?_
      unfold wp_Pr_branchOnRegisters
      exact bq_f hs hP
    · unfold wp_Md_operate
      rw [ho]
      repeat first | refine bq_t (by decide) ?_ | refine bq_f (by decide) ?_
      refine fun x ex => ?_
      subst ex
      repeat first | refine bq_t (by decide) ?_ | refine bq_f (by decide) ?_
      refine md_rs H.e9 H.rel (md_rt H.e9 H.rel ?_)
      have h6 : ¬ dd 6 = 0 := by rw [H.rel.2.2.2.2.2.2.1.2.2.2.1]; exact hs
      have any : ∀ z y lk, wp_Md_jumps ms dd l1 l2 bm rr kt z y lk Q := fun z y lk => md_jumps_s h6 H.e5 hQ
      unfold wj_Md_branches_139 wp_Md_near
      exact ⟨fun _ => md_offset H.e9 (fun x ex => ⟨fun _ => any _ _ _, fun _ => any _ _ _⟩), fun _ => md_offset H.e9 (fun x ex => ⟨fun _ => any _ _ _, fun _ => any _ _ _⟩)⟩

theorem i_blez (H : pre mn g rg hq mf cd fg w dd bm rr kt) (ho : zz_ushr w 26 = 6) : pfx ms mn g rg hq mf cd fg w dd bm rr kt := by
  by_cases hs : g 2 = 0
  · by_cases hv : 0 < rv rg w 21
    · refine pfx_mk H (-1) (fun L O => (bu g 0 0 (g 1 + zz_shl w.toInt16.toInt32 2), rg, hq, mf, cd, fg, L, O)) (fun dd l1 l2 => (bd dd 0 0 (g 1 + zz_shl w.toInt16.toInt32 2), l1, l2, bm, rr, kt)) (fun L O P hP => ?_) (fun dd l1 l2 H L O => ⟨oc_br (Or.inl rfl) H.rel H.e5, fun Q hQ => ?_⟩) (fun _ _ _ _ => rfl) (fun _ _ _ _ _ hs => ⟨by repeat first | exact hs | apply lo_upd, rfl, rfl, rfl⟩) (by first | exact Or.inr (fun _ _ => rfl) | exact Or.inl (by unfold q_e; decide)) (fun _ _ _ => rfl)
      · unfold wp_Pr_perform
        refine pr_op ?_
        rw [ho]
        repeat first | refine bq_t (by decide) ?_ | refine bq_f (by decide) ?_
        unfold wp_Pr_branchOnRegisters
        refine bq_t hs (pr_rs ⟨fI_in w 21, fun a ea => pr_rt ⟨fI_in w 16, fun b eb => pr_op ?_⟩⟩)
        subst ea
        subst eb
        rw [ho]
        repeat first | refine bq_t (by decide) ?_ | refine bq_f (by decide) ?_
        refine pr_op ?_
        rw [ho]
        repeat first | refine bq_t (by decide) ?_ | refine bq_f (by decide) ?_
        exact bq_t hv (pr_branch hP)
      · unfold wp_Md_operate
        rw [ho]
        repeat first | refine bq_t (by decide) ?_ | refine bq_f (by decide) ?_
        refine fun x ex => ?_
        subst ex
        repeat first | refine bq_t (by decide) ?_ | refine bq_f (by decide) ?_
        refine md_rs H.e9 H.rel ?_
        have h6 : dd 6 = 0 := by rw [H.rel.2.2.2.2.2.2.1.2.2.2.1]; exact hs
        have e31 : dd 3 + 4 = g 1 := by rw [H.rel.2.2.2.2.2.2.1.1, H.nxt hs]
        refine bq_t hv (md_near H.e9 e31 ?_)
        repeat first | refine bq_t (by decide) ?_ | refine bq_f (by decide) ?_
        exact md_jumps h6 (Or.inl rfl) hQ
    · refine pfx_mk H (-1) (fun L O => (bu g 1 0 (g 1 + zz_shl w.toInt16.toInt32 2), rg, hq, mf, cd, fg, L, O)) (fun dd l1 l2 => (bd dd 1 0 (g 1 + zz_shl w.toInt16.toInt32 2), l1, l2, bm, rr, kt)) (fun L O P hP => ?_) (fun dd l1 l2 H L O => ⟨oc_br (Or.inr rfl) H.rel H.e5, fun Q hQ => ?_⟩) (fun _ _ _ _ => rfl) (fun _ _ _ _ _ hs => ⟨by repeat first | exact hs | apply lo_upd, rfl, rfl, rfl⟩) (by first | exact Or.inr (fun _ _ => rfl) | exact Or.inl (by unfold q_e; decide)) (fun _ _ _ => rfl)
      · unfold wp_Pr_perform
        refine pr_op ?_
        rw [ho]
        repeat first | refine bq_t (by decide) ?_ | refine bq_f (by decide) ?_
        unfold wp_Pr_branchOnRegisters
        refine bq_t hs (pr_rs ⟨fI_in w 21, fun a ea => pr_rt ⟨fI_in w 16, fun b eb => pr_op ?_⟩⟩)
        subst ea
        subst eb
        rw [ho]
        repeat first | refine bq_t (by decide) ?_ | refine bq_f (by decide) ?_
        refine pr_op ?_
        rw [ho]
        repeat first | refine bq_t (by decide) ?_ | refine bq_f (by decide) ?_
        exact bq_f hv (pr_branch hP)
      · unfold wp_Md_operate
        rw [ho]
        repeat first | refine bq_t (by decide) ?_ | refine bq_f (by decide) ?_
        refine fun x ex => ?_
        subst ex
        repeat first | refine bq_t (by decide) ?_ | refine bq_f (by decide) ?_
        refine md_rs H.e9 H.rel ?_
        have h6 : dd 6 = 0 := by rw [H.rel.2.2.2.2.2.2.1.2.2.2.1]; exact hs
        have e31 : dd 3 + 4 = g 1 := by rw [H.rel.2.2.2.2.2.2.1.1, H.nxt hs]
        refine bq_f hv (md_near H.e9 e31 ?_)
        repeat first | refine bq_t (by decide) ?_ | refine bq_f (by decide) ?_
        exact md_jumps h6 (Or.inr rfl) hQ
  · refine pfx_mk H 8 (fun L O => (g, rg, hq, mf, cd, fg, L, O)) (fun dd l1 l2 => (upd dd 5 8, l1, l2, bm, rr, kt)) (fun L O P hP => ?_) (fun dd l1 l2 H L O => ⟨oc_end (by unfold q_e; simp) H.rel H.nxt rfl (fun j _ h => pk_un h), fun Q hQ => ?_⟩) (fun _ _ _ _ => rfl) (fun _ _ _ _ _ hs => ⟨by repeat first | exact hs | apply lo_upd, rfl, rfl, rfl⟩) (by first | exact Or.inr (fun _ _ => rfl) | exact Or.inl (by unfold q_e; decide)) (fun _ _ _ => rfl)
    · unfold wp_Pr_perform
      refine pr_op ?_
      rw [ho]
      repeat first | refine bq_t (by decide) ?_ | refine bq_f (by decide) ?_
      unfold wp_Pr_branchOnRegisters
      exact bq_f hs hP
    · unfold wp_Md_operate
      rw [ho]
      repeat first | refine bq_t (by decide) ?_ | refine bq_f (by decide) ?_
      refine fun x ex => ?_
      subst ex
      repeat first | refine bq_t (by decide) ?_ | refine bq_f (by decide) ?_
      refine md_rs H.e9 H.rel ?_
      have h6 : ¬ dd 6 = 0 := by rw [H.rel.2.2.2.2.2.2.1.2.2.2.1]; exact hs
      have any : ∀ z y lk, wp_Md_jumps ms dd l1 l2 bm rr kt z y lk Q := fun z y lk => md_jumps_s h6 H.e5 hQ
      unfold wj_Md_branches_139 wp_Md_near
      exact ⟨fun _ => md_offset H.e9 (fun x ex => ⟨fun _ => any _ _ _, fun _ => any _ _ _⟩), fun _ => md_offset H.e9 (fun x ex => ⟨fun _ => any _ _ _, fun _ => any _ _ _⟩)⟩

theorem i_blezl (H : pre mn g rg hq mf cd fg w dd bm rr kt) (ho : zz_ushr w 26 = 22) : pfx ms mn g rg hq mf cd fg w dd bm rr kt := by
  by_cases hs : g 2 = 0
  · by_cases hv : 0 < rv rg w 21
    · refine pfx_mk H (-1) (fun L O => (bu g 0 1 (g 1 + zz_shl w.toInt16.toInt32 2), rg, hq, mf, cd, fg, L, O)) (fun dd l1 l2 => (bd dd 0 1 (g 1 + zz_shl w.toInt16.toInt32 2), l1, l2, bm, rr, kt)) (fun L O P hP => ?_) (fun dd l1 l2 H L O => ⟨oc_br (Or.inl rfl) H.rel H.e5, fun Q hQ => ?_⟩) (fun _ _ _ _ => rfl) (fun _ _ _ _ _ hs => ⟨by repeat first | exact hs | apply lo_upd, rfl, rfl, rfl⟩) (by first | exact Or.inr (fun _ _ => rfl) | exact Or.inl (by unfold q_e; decide)) (fun _ _ _ => rfl)
      · unfold wp_Pr_perform
        refine pr_op ?_
        rw [ho]
        repeat first | refine bq_t (by decide) ?_ | refine bq_f (by decide) ?_
        unfold wp_Pr_branchOnRegisters
        refine bq_t hs (pr_rs ⟨fI_in w 21, fun a ea => pr_rt ⟨fI_in w 16, fun b eb => pr_op ?_⟩⟩)
        subst ea
        subst eb
        rw [ho]
        repeat first | refine bq_t (by decide) ?_ | refine bq_f (by decide) ?_
        refine pr_op ?_
        rw [ho]
        repeat first | refine bq_t (by decide) ?_ | refine bq_f (by decide) ?_
        exact bq_t hv (pr_branch hP)
      · unfold wp_Md_operate
        rw [ho]
        repeat first | refine bq_t (by decide) ?_ | refine bq_f (by decide) ?_
        refine fun x ex => ?_
        subst ex
        repeat first | refine bq_t (by decide) ?_ | refine bq_f (by decide) ?_
        refine md_rs H.e9 H.rel ?_
        have h6 : dd 6 = 0 := by rw [H.rel.2.2.2.2.2.2.1.2.2.2.1]; exact hs
        have e31 : dd 3 + 4 = g 1 := by rw [H.rel.2.2.2.2.2.2.1.1, H.nxt hs]
        refine bq_t hv (md_near H.e9 e31 ?_)
        repeat first | refine bq_t (by decide) ?_ | refine bq_f (by decide) ?_
        exact md_jumps h6 (Or.inl rfl) hQ
    · refine pfx_mk H (-1) (fun L O => (bu g 1 1 (g 1 + zz_shl w.toInt16.toInt32 2), rg, hq, mf, cd, fg, L, O)) (fun dd l1 l2 => (bd dd 1 1 (g 1 + zz_shl w.toInt16.toInt32 2), l1, l2, bm, rr, kt)) (fun L O P hP => ?_) (fun dd l1 l2 H L O => ⟨oc_br (Or.inr rfl) H.rel H.e5, fun Q hQ => ?_⟩) (fun _ _ _ _ => rfl) (fun _ _ _ _ _ hs => ⟨by repeat first | exact hs | apply lo_upd, rfl, rfl, rfl⟩) (by first | exact Or.inr (fun _ _ => rfl) | exact Or.inl (by unfold q_e; decide)) (fun _ _ _ => rfl)
      · unfold wp_Pr_perform
        refine pr_op ?_
        rw [ho]
        repeat first | refine bq_t (by decide) ?_ | refine bq_f (by decide) ?_
        unfold wp_Pr_branchOnRegisters
        refine bq_t hs (pr_rs ⟨fI_in w 21, fun a ea => pr_rt ⟨fI_in w 16, fun b eb => pr_op ?_⟩⟩)
        subst ea
        subst eb
        rw [ho]
        repeat first | refine bq_t (by decide) ?_ | refine bq_f (by decide) ?_
        refine pr_op ?_
        rw [ho]
        repeat first | refine bq_t (by decide) ?_ | refine bq_f (by decide) ?_
        exact bq_f hv (pr_branch hP)
      · unfold wp_Md_operate
        rw [ho]
        repeat first | refine bq_t (by decide) ?_ | refine bq_f (by decide) ?_
        refine fun x ex => ?_
        subst ex
        repeat first | refine bq_t (by decide) ?_ | refine bq_f (by decide) ?_
        refine md_rs H.e9 H.rel ?_
        have h6 : dd 6 = 0 := by rw [H.rel.2.2.2.2.2.2.1.2.2.2.1]; exact hs
        have e31 : dd 3 + 4 = g 1 := by rw [H.rel.2.2.2.2.2.2.1.1, H.nxt hs]
        refine bq_f hv (md_near H.e9 e31 ?_)
        repeat first | refine bq_t (by decide) ?_ | refine bq_f (by decide) ?_
        exact md_jumps h6 (Or.inr rfl) hQ
  · refine pfx_mk H 8 (fun L O => (g, rg, hq, mf, cd, fg, L, O)) (fun dd l1 l2 => (upd dd 5 8, l1, l2, bm, rr, kt)) (fun L O P hP => ?_) (fun dd l1 l2 H L O => ⟨oc_end (by unfold q_e; simp) H.rel H.nxt rfl (fun j _ h => pk_un h), fun Q hQ => ?_⟩) (fun _ _ _ _ => rfl) (fun _ _ _ _ _ hs => ⟨by repeat first | exact hs | apply lo_upd, rfl, rfl, rfl⟩) (by first | exact Or.inr (fun _ _ => rfl) | exact Or.inl (by unfold q_e; decide)) (fun _ _ _ => rfl)
    · unfold wp_Pr_perform
      refine pr_op ?_
      rw [ho]
      repeat first | refine bq_t (by decide) ?_ | refine bq_f (by decide) ?_
      unfold wp_Pr_branchOnRegisters
      exact bq_f hs hP
    · unfold wp_Md_operate
      rw [ho]
      repeat first | refine bq_t (by decide) ?_ | refine bq_f (by decide) ?_
      refine fun x ex => ?_
      subst ex
      repeat first | refine bq_t (by decide) ?_ | refine bq_f (by decide) ?_
      refine md_rs H.e9 H.rel ?_
      have h6 : ¬ dd 6 = 0 := by rw [H.rel.2.2.2.2.2.2.1.2.2.2.1]; exact hs
      have any : ∀ z y lk, wp_Md_jumps ms dd l1 l2 bm rr kt z y lk Q := fun z y lk => md_jumps_s h6 H.e5 hQ
      unfold wj_Md_branches_139 wp_Md_near
      exact ⟨fun _ => md_offset H.e9 (fun x ex => ⟨fun _ => any _ _ _, fun _ => any _ _ _⟩), fun _ => md_offset H.e9 (fun x ex => ⟨fun _ => any _ _ _, fun _ => any _ _ _⟩)⟩

theorem i_bgtz (H : pre mn g rg hq mf cd fg w dd bm rr kt) (ho : zz_ushr w 26 = 7) : pfx ms mn g rg hq mf cd fg w dd bm rr kt := by
  by_cases hs : g 2 = 0
  · by_cases hv : rv rg w 21 ≤ 0
    · refine pfx_mk H (-1) (fun L O => (bu g 0 0 (g 1 + zz_shl w.toInt16.toInt32 2), rg, hq, mf, cd, fg, L, O)) (fun dd l1 l2 => (bd dd 0 0 (g 1 + zz_shl w.toInt16.toInt32 2), l1, l2, bm, rr, kt)) (fun L O P hP => ?_) (fun dd l1 l2 H L O => ⟨oc_br (Or.inl rfl) H.rel H.e5, fun Q hQ => ?_⟩) (fun _ _ _ _ => rfl) (fun _ _ _ _ _ hs => ⟨by repeat first | exact hs | apply lo_upd, rfl, rfl, rfl⟩) (by first | exact Or.inr (fun _ _ => rfl) | exact Or.inl (by unfold q_e; decide)) (fun _ _ _ => rfl)
      · unfold wp_Pr_perform
        refine pr_op ?_
        rw [ho]
        repeat first | refine bq_t (by decide) ?_ | refine bq_f (by decide) ?_
        unfold wp_Pr_branchOnRegisters
        refine bq_t hs (pr_rs ⟨fI_in w 21, fun a ea => pr_rt ⟨fI_in w 16, fun b eb => pr_op ?_⟩⟩)
        subst ea
        subst eb
        rw [ho]
        repeat first | refine bq_t (by decide) ?_ | refine bq_f (by decide) ?_
        refine pr_op ?_
        rw [ho]
        repeat first | refine bq_t (by decide) ?_ | refine bq_f (by decide) ?_
        exact bq_t hv (pr_branch hP)
      · unfold wp_Md_operate
        rw [ho]
        repeat first | refine bq_t (by decide) ?_ | refine bq_f (by decide) ?_
        refine fun x ex => ?_
        subst ex
        repeat first | refine bq_t (by decide) ?_ | refine bq_f (by decide) ?_
        refine md_rs H.e9 H.rel ?_
        have h6 : dd 6 = 0 := by rw [H.rel.2.2.2.2.2.2.1.2.2.2.1]; exact hs
        have e31 : dd 3 + 4 = g 1 := by rw [H.rel.2.2.2.2.2.2.1.1, H.nxt hs]
        refine bq_t hv (md_near H.e9 e31 ?_)
        repeat first | refine bq_t (by decide) ?_ | refine bq_f (by decide) ?_
        exact md_jumps h6 (Or.inl rfl) hQ
    · refine pfx_mk H (-1) (fun L O => (bu g 1 0 (g 1 + zz_shl w.toInt16.toInt32 2), rg, hq, mf, cd, fg, L, O)) (fun dd l1 l2 => (bd dd 1 0 (g 1 + zz_shl w.toInt16.toInt32 2), l1, l2, bm, rr, kt)) (fun L O P hP => ?_) (fun dd l1 l2 H L O => ⟨oc_br (Or.inr rfl) H.rel H.e5, fun Q hQ => ?_⟩) (fun _ _ _ _ => rfl) (fun _ _ _ _ _ hs => ⟨by repeat first | exact hs | apply lo_upd, rfl, rfl, rfl⟩) (by first | exact Or.inr (fun _ _ => rfl) | exact Or.inl (by unfold q_e; decide)) (fun _ _ _ => rfl)
      · unfold wp_Pr_perform
        refine pr_op ?_
        rw [ho]
        repeat first | refine bq_t (by decide) ?_ | refine bq_f (by decide) ?_
        unfold wp_Pr_branchOnRegisters
        refine bq_t hs (pr_rs ⟨fI_in w 21, fun a ea => pr_rt ⟨fI_in w 16, fun b eb => pr_op ?_⟩⟩)
        subst ea
        subst eb
        rw [ho]
        repeat first | refine bq_t (by decide) ?_ | refine bq_f (by decide) ?_
        refine pr_op ?_
        rw [ho]
        repeat first | refine bq_t (by decide) ?_ | refine bq_f (by decide) ?_
        exact bq_f hv (pr_branch hP)
      · unfold wp_Md_operate
        rw [ho]
        repeat first | refine bq_t (by decide) ?_ | refine bq_f (by decide) ?_
        refine fun x ex => ?_
        subst ex
        repeat first | refine bq_t (by decide) ?_ | refine bq_f (by decide) ?_
        refine md_rs H.e9 H.rel ?_
        have h6 : dd 6 = 0 := by rw [H.rel.2.2.2.2.2.2.1.2.2.2.1]; exact hs
        have e31 : dd 3 + 4 = g 1 := by rw [H.rel.2.2.2.2.2.2.1.1, H.nxt hs]
        refine bq_f hv (md_near H.e9 e31 ?_)
        repeat first | refine bq_t (by decide) ?_ | refine bq_f (by decide) ?_
        exact md_jumps h6 (Or.inr rfl) hQ
  · refine pfx_mk H 8 (fun L O => (g, rg, hq, mf, cd, fg, L, O)) (fun dd l1 l2 => (upd dd 5 8, l1, l2, bm, rr, kt)) (fun L O P hP => ?_) (fun dd l1 l2 H L O => ⟨oc_end (by unfold q_e; simp) H.rel H.nxt rfl (fun j _ h => pk_un h), fun Q hQ => ?_⟩) (fun _ _ _ _ => rfl) (fun _ _ _ _ _ hs => ⟨by repeat first | exact hs | apply lo_upd, rfl, rfl, rfl⟩) (by first | exact Or.inr (fun _ _ => rfl) | exact Or.inl (by unfold q_e; decide)) (fun _ _ _ => rfl)
    · unfold wp_Pr_perform
      refine pr_op ?_
      rw [ho]
      repeat first | refine bq_t (by decide) ?_ | refine bq_f (by decide) ?_
      unfold wp_Pr_branchOnRegisters
      exact bq_f hs hP
    · unfold wp_Md_operate
      rw [ho]
      repeat first | refine bq_t (by decide) ?_ | refine bq_f (by decide) ?_
      refine fun x ex => ?_
      subst ex
      repeat first | refine bq_t (by decide) ?_ | refine bq_f (by decide) ?_
      refine md_rs H.e9 H.rel ?_
      have h6 : ¬ dd 6 = 0 := by rw [H.rel.2.2.2.2.2.2.1.2.2.2.1]; exact hs
      have any : ∀ z y lk, wp_Md_jumps ms dd l1 l2 bm rr kt z y lk Q := fun z y lk => md_jumps_s h6 H.e5 hQ
      unfold wj_Md_branches_139 wp_Md_near
      exact ⟨fun _ => md_offset H.e9 (fun x ex => ⟨fun _ => any _ _ _, fun _ => any _ _ _⟩), fun _ => md_offset H.e9 (fun x ex => ⟨fun _ => any _ _ _, fun _ => any _ _ _⟩)⟩

theorem i_bgtzl (H : pre mn g rg hq mf cd fg w dd bm rr kt) (ho : zz_ushr w 26 = 23) : pfx ms mn g rg hq mf cd fg w dd bm rr kt := by
  by_cases hs : g 2 = 0
  · by_cases hv : rv rg w 21 ≤ 0
    · refine pfx_mk H (-1) (fun L O => (bu g 0 1 (g 1 + zz_shl w.toInt16.toInt32 2), rg, hq, mf, cd, fg, L, O)) (fun dd l1 l2 => (bd dd 0 1 (g 1 + zz_shl w.toInt16.toInt32 2), l1, l2, bm, rr, kt)) (fun L O P hP => ?_) (fun dd l1 l2 H L O => ⟨oc_br (Or.inl rfl) H.rel H.e5, fun Q hQ => ?_⟩) (fun _ _ _ _ => rfl) (fun _ _ _ _ _ hs => ⟨by repeat first | exact hs | apply lo_upd, rfl, rfl, rfl⟩) (by first | exact Or.inr (fun _ _ => rfl) | exact Or.inl (by unfold q_e; decide)) (fun _ _ _ => rfl)
      · unfold wp_Pr_perform
        refine pr_op ?_
        rw [ho]
        repeat first | refine bq_t (by decide) ?_ | refine bq_f (by decide) ?_
        unfold wp_Pr_branchOnRegisters
        refine bq_t hs (pr_rs ⟨fI_in w 21, fun a ea => pr_rt ⟨fI_in w 16, fun b eb => pr_op ?_⟩⟩)
        subst ea
        subst eb
        rw [ho]
        repeat first | refine bq_t (by decide) ?_ | refine bq_f (by decide) ?_
        refine pr_op ?_
        rw [ho]
        repeat first | refine bq_t (by decide) ?_ | refine bq_f (by decide) ?_
        exact bq_t hv (pr_branch hP)
      · unfold wp_Md_operate
        rw [ho]
        repeat first | refine bq_t (by decide) ?_ | refine bq_f (by decide) ?_
        refine fun x ex => ?_
        subst ex
        repeat first | refine bq_t (by decide) ?_ | refine bq_f (by decide) ?_
        refine md_rs H.e9 H.rel ?_
        have h6 : dd 6 = 0 := by rw [H.rel.2.2.2.2.2.2.1.2.2.2.1]; exact hs
        have e31 : dd 3 + 4 = g 1 := by rw [H.rel.2.2.2.2.2.2.1.1, H.nxt hs]
        refine bq_t hv (md_near H.e9 e31 ?_)
        repeat first | refine bq_t (by decide) ?_ | refine bq_f (by decide) ?_
        exact md_jumps h6 (Or.inl rfl) hQ
    · refine pfx_mk H (-1) (fun L O => (bu g 1 1 (g 1 + zz_shl w.toInt16.toInt32 2), rg, hq, mf, cd, fg, L, O)) (fun dd l1 l2 => (bd dd 1 1 (g 1 + zz_shl w.toInt16.toInt32 2), l1, l2, bm, rr, kt)) (fun L O P hP => ?_) (fun dd l1 l2 H L O => ⟨oc_br (Or.inr rfl) H.rel H.e5, fun Q hQ => ?_⟩) (fun _ _ _ _ => rfl) (fun _ _ _ _ _ hs => ⟨by repeat first | exact hs | apply lo_upd, rfl, rfl, rfl⟩) (by first | exact Or.inr (fun _ _ => rfl) | exact Or.inl (by unfold q_e; decide)) (fun _ _ _ => rfl)
      · unfold wp_Pr_perform
        refine pr_op ?_
        rw [ho]
        repeat first | refine bq_t (by decide) ?_ | refine bq_f (by decide) ?_
        unfold wp_Pr_branchOnRegisters
        refine bq_t hs (pr_rs ⟨fI_in w 21, fun a ea => pr_rt ⟨fI_in w 16, fun b eb => pr_op ?_⟩⟩)
        subst ea
        subst eb
        rw [ho]
        repeat first | refine bq_t (by decide) ?_ | refine bq_f (by decide) ?_
        refine pr_op ?_
        rw [ho]
        repeat first | refine bq_t (by decide) ?_ | refine bq_f (by decide) ?_
        exact bq_f hv (pr_branch hP)
      · unfold wp_Md_operate
        rw [ho]
        repeat first | refine bq_t (by decide) ?_ | refine bq_f (by decide) ?_
        refine fun x ex => ?_
        subst ex
        repeat first | refine bq_t (by decide) ?_ | refine bq_f (by decide) ?_
        refine md_rs H.e9 H.rel ?_
        have h6 : dd 6 = 0 := by rw [H.rel.2.2.2.2.2.2.1.2.2.2.1]; exact hs
        have e31 : dd 3 + 4 = g 1 := by rw [H.rel.2.2.2.2.2.2.1.1, H.nxt hs]
        refine bq_f hv (md_near H.e9 e31 ?_)
        repeat first | refine bq_t (by decide) ?_ | refine bq_f (by decide) ?_
        exact md_jumps h6 (Or.inr rfl) hQ
  · refine pfx_mk H 8 (fun L O => (g, rg, hq, mf, cd, fg, L, O)) (fun dd l1 l2 => (upd dd 5 8, l1, l2, bm, rr, kt)) (fun L O P hP => ?_) (fun dd l1 l2 H L O => ⟨oc_end (by unfold q_e; simp) H.rel H.nxt rfl (fun j _ h => pk_un h), fun Q hQ => ?_⟩) (fun _ _ _ _ => rfl) (fun _ _ _ _ _ hs => ⟨by repeat first | exact hs | apply lo_upd, rfl, rfl, rfl⟩) (by first | exact Or.inr (fun _ _ => rfl) | exact Or.inl (by unfold q_e; decide)) (fun _ _ _ => rfl)
    · unfold wp_Pr_perform
      refine pr_op ?_
      rw [ho]
      repeat first | refine bq_t (by decide) ?_ | refine bq_f (by decide) ?_
      unfold wp_Pr_branchOnRegisters
      exact bq_f hs hP
    · unfold wp_Md_operate
      rw [ho]
      repeat first | refine bq_t (by decide) ?_ | refine bq_f (by decide) ?_
      refine fun x ex => ?_
      subst ex
      repeat first | refine bq_t (by decide) ?_ | refine bq_f (by decide) ?_
      refine md_rs H.e9 H.rel ?_
      have h6 : ¬ dd 6 = 0 := by rw [H.rel.2.2.2.2.2.2.1.2.2.2.1]; exact hs
      have any : ∀ z y lk, wp_Md_jumps ms dd l1 l2 bm rr kt z y lk Q := fun z y lk => md_jumps_s h6 H.e5 hQ
      unfold wj_Md_branches_139 wp_Md_near
      exact ⟨fun _ => md_offset H.e9 (fun x ex => ⟨fun _ => any _ _ _, fun _ => any _ _ _⟩), fun _ => md_offset H.e9 (fun x ex => ⟨fun _ => any _ _ _, fun _ => any _ _ _⟩)⟩

theorem j_tgt (w : Int32) : zz_ushr (zz_shl w 6) 4 = zz_shl (w &&& 67108863) 2 := by
  unfold zz_ushr zz_shl
  apply Int32.toBitVec_inj.mp
  apply BitVec.eq_of_toNat_eq
  rw [pk_ushr _ 4 4 (by decide), pk_shl w (6 &&& 31) 6 (by decide), pk_shl _ (2 &&& 31) 2 (by decide), pk_and w (m := 67108863) 26 (by decide), pk_tn (by omega)]
  omega
theorem i_j (H : pre mn g rg hq mf cd fg w dd bm rr kt) (ho : zz_ushr w 26 = 2) : pfx ms mn g rg hq mf cd fg w dd bm rr kt := by
  by_cases hs : g 2 = 0
  · refine pfx_mk H (-1) (fun L O => (upd (upd (upd (upd g 10 (g 10 + 1)) 0 (g 1)) 1 ((g 1 &&& (-268435456)) ||| zz_shl (w &&& 67108863) 2)) 2 1, rg, hq, mf, cd, fg, L, O)) (fun dd l1 l2 => (bd dd 1 0 ((g 1 &&& (-268435456)) ||| zz_shl (w &&& 67108863) 2), l1, l2, bm, rr, kt)) (fun L O P hP => ?_) (fun dd l1 l2 H L O => ⟨oc_br (goes := 1) (lik := 0) (Or.inr rfl) H.rel H.e5, fun Q hQ => ?_⟩) (fun _ _ _ _ => rfl) (fun _ _ _ _ _ hs => ⟨by repeat first | exact hs | apply lo_upd, rfl, rfl, rfl⟩) (by first | exact Or.inr (fun _ _ => rfl) | exact Or.inl (by unfold q_e; decide)) (fun _ _ _ => rfl)
    · unfold wp_Pr_perform
      refine pr_op ?_
      rw [ho]
      repeat first | refine bq_t (by decide) ?_ | refine bq_f (by decide) ?_
      unfold wp_Pr_jump
      refine bq_t hs (pr_op ?_)
      rw [ho]
      refine bq_f (by decide) (fun x ex y ey => ?_)
      subst ex
      subst ey
      exact pr_leave hP
    · unfold wp_Md_operate
      rw [ho]
      repeat first | refine bq_t (by decide) ?_ | refine bq_f (by decide) ?_
      have h6 : dd 6 = 0 := by rw [H.rel.2.2.2.2.2.2.1.2.2.2.1]; exact hs
      have e31 : dd 3 + 4 = g 1 := by rw [H.rel.2.2.2.2.2.2.1.1, H.nxt hs]
      refine fun x ex y ey => ?_
      rw [H.e9, j_tgt] at ey
      rw [e31] at ex
      subst ex
      subst ey
      exact md_jumps h6 (Or.inr rfl) (bq_f (by decide) hQ)
  · refine pfx_mk H 8 (fun L O => (g, rg, hq, mf, cd, fg, L, O)) (fun dd l1 l2 => (upd dd 5 8, l1, l2, bm, rr, kt)) (fun L O P hP => ?_) (fun dd l1 l2 H L O => ⟨oc_end (by unfold q_e; simp) H.rel H.nxt rfl (fun j _ h => pk_un h), fun Q hQ => ?_⟩) (fun _ _ _ _ => rfl) (fun _ _ _ _ _ hs => ⟨by repeat first | exact hs | apply lo_upd, rfl, rfl, rfl⟩) (by first | exact Or.inr (fun _ _ => rfl) | exact Or.inl (by unfold q_e; decide)) (fun _ _ _ => rfl)
    · unfold wp_Pr_perform
      refine pr_op ?_
      rw [ho]
      repeat first | refine bq_t (by decide) ?_ | refine bq_f (by decide) ?_
      unfold wp_Pr_jump
      exact bq_f hs hP
    · unfold wp_Md_operate
      rw [ho]
      repeat first | refine bq_t (by decide) ?_ | refine bq_f (by decide) ?_
      have h6 : ¬ dd 6 = 0 := by rw [H.rel.2.2.2.2.2.2.1.2.2.2.1]; exact hs
      exact fun x ex y ey => md_jumps_s h6 H.e5 (bq_f (by decide) hQ)

theorem i_jal (H : pre mn g rg hq mf cd fg w dd bm rr kt) (ho : zz_ushr w 26 = 3) : pfx ms mn g rg hq mf cd fg w dd bm rr kt := by
  by_cases hs : g 2 = 0
  · refine pfx_mk H (-1) (fun L O => (upd (upd (upd (upd g 10 (g 10 + 1)) 0 (g 1)) 1 ((g 1 &&& (-268435456)) ||| zz_shl (w &&& 67108863) 2)) 2 1, upd rg 31 (g 0 + 8), hq, mf, cd, fg, L, O)) (fun dd l1 l2 => (bd dd 1 0 ((g 1 &&& (-268435456)) ||| zz_shl (w &&& 67108863) 2), l1, l2, bm, upd rr 31 (g 0 + 8), kt)) (fun L O P hP => ?_) (fun dd l1 l2 H L O => ⟨oc_br (goes := 1) (lik := 0) (Or.inr rfl) (q_u31 H.rel) H.e5, fun Q hQ => ?_⟩) (fun _ _ _ _ => rfl) (fun _ _ _ _ _ hs => ⟨by repeat first | exact hs | apply lo_upd, rfl, rfl, rfl⟩) (by first | exact Or.inr (fun _ _ => rfl) | exact Or.inl (by unfold q_e; decide)) (fun _ _ _ => rfl)
    · unfold wp_Pr_perform
      refine pr_op ?_
      rw [ho]
      repeat first | refine bq_t (by decide) ?_ | refine bq_f (by decide) ?_
      unfold wp_Pr_jump
      refine bq_t hs (pr_op ?_)
      rw [ho]
      refine bq_t rfl ?_
      unfold wp_Pr_write
      refine bq_f (by decide) ⟨by unfold vp_in; decide, fun x ex y ey => ?_⟩
      rw [show ((31 : Int32) &&& 31).toNatClampNeg = 31 by decide] at *
      subst ex
      subst ey
      exact pr_leave hP
    · unfold wp_Md_operate
      rw [ho]
      repeat first | refine bq_t (by decide) ?_ | refine bq_f (by decide) ?_
      have h6 : dd 6 = 0 := by rw [H.rel.2.2.2.2.2.2.1.2.2.2.1]; exact hs
      have e31 : dd 3 + 4 = g 1 := by rw [H.rel.2.2.2.2.2.2.1.1, H.nxt hs]
      refine fun x ex y ey => ?_
      rw [H.e9, j_tgt] at ey
      rw [e31] at ex
      subst ex
      subst ey
      refine md_jumps h6 (Or.inr rfl) (bq_t rfl (bq_t H.e5 ?_))
      unfold wp_Md_into
      refine bq_f (by decide) (bq_t H.e5 ⟨by unfold vp_in; decide, ?_⟩)
      rw [show (31 : Int32).toNatClampNeg = 31 by decide]
      have e3 : bd dd 1 0 ((g 1 &&& (-268435456)) ||| zz_shl (w &&& 67108863) 2) 3 = g 0 := H.rel.2.2.2.2.2.2.1.1
      dsimp only
      rw [e3]; exact hQ
  · refine pfx_mk H 8 (fun L O => (g, rg, hq, mf, cd, fg, L, O)) (fun dd l1 l2 => (upd dd 5 8, l1, l2, bm, rr, kt)) (fun L O P hP => ?_) (fun dd l1 l2 H L O => ⟨oc_end (by unfold q_e; simp) H.rel H.nxt rfl (fun j _ h => pk_un h), fun Q hQ => ?_⟩) (fun _ _ _ _ => rfl) (fun _ _ _ _ _ hs => ⟨by repeat first | exact hs | apply lo_upd, rfl, rfl, rfl⟩) (by first | exact Or.inr (fun _ _ => rfl) | exact Or.inl (by unfold q_e; decide)) (fun _ _ _ => rfl)
    · unfold wp_Pr_perform
      refine pr_op ?_
      rw [ho]
      repeat first | refine bq_t (by decide) ?_ | refine bq_f (by decide) ?_
      unfold wp_Pr_jump
      exact bq_f hs hP
    · unfold wp_Md_operate
      rw [ho]
      repeat first | refine bq_t (by decide) ?_ | refine bq_f (by decide) ?_
      have h6 : ¬ dd 6 = 0 := by rw [H.rel.2.2.2.2.2.2.1.2.2.2.1]; exact hs
      exact fun x ex y ey => md_jumps_s h6 H.e5 (bq_t rfl (bq_f (show ¬ (8 : Int32) = 0 by decide) hQ))

end INT2
