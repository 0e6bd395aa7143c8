/-! ===== integer instructions, third part: REGIMM, SPECIAL2, reserved ===== -/
section INT3
variable {ms : Int32} {mn S : Nat} {g rg hq mf : Nat → Int32} {cd : Int32} {fg : Nat → Int32} {L O : Fr4} {dd bm rr kt : Nat → Int32} {l1 l2 : Int64} {w : Int32}
theorem i_ti0 (H : pre mn g rg hq mf cd fg w dd bm rr kt) (ho : zz_ushr w 26 = 1) (hr : fI w 16 = 8) : pfx ms mn g rg hq mf cd fg w dd bm rr kt := by
  by_cases hv : rv rg w 21 < w.toInt16.toInt32
  · refine pfx_mk H 0 (fun L O => (g, rg, hq, mf, cd, fg, L, O)) (fun dd l1 l2 => (dd, l1, l2, bm, rr, kt)) (fun L O P hP => ?_) (fun dd l1 l2 H L O => ⟨oc_0 H.rel H.e5 H.e11 H.e12 H.e13, fun Q hQ => ?_⟩) (fun _ _ _ _ => rfl) (fun _ _ _ _ _ hs => ⟨by repeat first | exact hs | apply lo_upd, rfl, rfl, rfl⟩) (by first | exact Or.inr (fun _ _ => rfl) | exact Or.inl (by unfold q_e; decide)) (fun _ _ _ => rfl)
    · unfold wp_Pr_perform
      refine pr_op ?_
      rw [ho]
      repeat first | refine bq_t (by decide) ?_ | refine bq_f (by decide) ?_
      unfold wp_Pr_regimm
      refine pr_rt ?_
      rw [hr]
      repeat first | refine bq_t (by decide) ?_ | refine bq_f (by decide) ?_
      refine pr_rt (pr_rs ⟨fI_in w 21, fun a ea => ?_⟩)
      subst ea
      unfold wp_Pr_signed
      rw [hr]
      unfold wp_Pr_trap
      repeat first | refine bq_t (by decide) ?_ | refine bq_f (by decide) ?_
      exact bq_t hv hP
    · unfold wp_Md_operate
      rw [ho]
      repeat first | refine bq_t (by decide) ?_ | refine bq_f (by decide) ?_
      refine md_field H.e9 ?_
      rw [hr]
      repeat first | refine bq_t (by decide) ?_ | refine bq_f (by decide) ?_
      refine md_rs H.e9 H.rel (md_offset H.e9 ?_)
      try unfold wp_Md_trap
      repeat first | refine bq_t (by decide) ?_ | refine bq_f (by decide) ?_
      exact bq_t hv hQ
  · refine pfx_mk H 5 (fun L O => (g, rg, hq, mf, cd, fg, L, O)) (fun dd l1 l2 => (upd dd 5 5, l1, l2, bm, rr, kt)) (fun L O P hP => ?_) (fun dd l1 l2 H L O => ⟨oc_end (by unfold q_e; simp) H.rel H.nxt rfl (fun j _ h => pk_un h), fun Q hQ => ?_⟩) (fun _ _ _ _ => rfl) (fun _ _ _ _ _ hs => ⟨by repeat first | exact hs | apply lo_upd, rfl, rfl, rfl⟩) (by first | exact Or.inr (fun _ _ => rfl) | exact Or.inl (by unfold q_e; decide)) (fun _ _ _ => rfl)
    · unfold wp_Pr_perform
      refine pr_op ?_
      rw [ho]
      repeat first | refine bq_t (by decide) ?_ | refine bq_f (by decide) ?_
      unfold wp_Pr_regimm
      refine pr_rt ?_
      rw [hr]
      repeat first | refine bq_t (by decide) ?_ | refine bq_f (by decide) ?_
      refine pr_rt (pr_rs ⟨fI_in w 21, fun a ea => ?_⟩)
      subst ea
      unfold wp_Pr_signed
      rw [hr]
      unfold wp_Pr_trap
      repeat first | refine bq_t (by decide) ?_ | refine bq_f (by decide) ?_
      exact bq_f hv hP
    · unfold wp_Md_operate
      rw [ho]
      repeat first | refine bq_t (by decide) ?_ | refine bq_f (by decide) ?_
      refine md_field H.e9 ?_
      rw [hr]
      repeat first | refine bq_t (by decide) ?_ | refine bq_f (by decide) ?_
      refine md_rs H.e9 H.rel (md_offset H.e9 ?_)
      try unfold wp_Md_trap
      repeat first | refine bq_t (by decide) ?_ | refine bq_f (by decide) ?_
      exact bq_f hv (md_ends H.e5 hQ)

theorem i_ti1 (H : pre mn g rg hq mf cd fg w dd bm rr kt) (ho : zz_ushr w 26 = 1) (hr : fI w 16 = 9) : pfx ms mn g rg hq mf cd fg w dd bm rr kt := by
  by_cases hv : (rv rg w 21).toBitVec.toNat < (w.toInt16.toInt32).toBitVec.toNat
  · refine pfx_mk H 0 (fun L O => (g, rg, hq, mf, cd, fg, L, O)) (fun dd l1 l2 => (dd, l1, l2, bm, rr, kt)) (fun L O P hP => ?_) (fun dd l1 l2 H L O => ⟨oc_0 H.rel H.e5 H.e11 H.e12 H.e13, fun Q hQ => ?_⟩) (fun _ _ _ _ => rfl) (fun _ _ _ _ _ hs => ⟨by repeat first | exact hs | apply lo_upd, rfl, rfl, rfl⟩) (by first | exact Or.inr (fun _ _ => rfl) | exact Or.inl (by unfold q_e; decide)) (fun _ _ _ => rfl)
    · unfold wp_Pr_perform
      refine pr_op ?_
      rw [ho]
      repeat first | refine bq_t (by decide) ?_ | refine bq_f (by decide) ?_
      unfold wp_Pr_regimm
      refine pr_rt ?_
      rw [hr]
      repeat first | refine bq_t (by decide) ?_ | refine bq_f (by decide) ?_
      refine pr_rt (pr_rs ⟨fI_in w 21, fun a ea => ?_⟩)
      subst ea
      unfold wp_Pr_signed
      rw [hr]
      unfold wp_Pr_trap
      repeat first | refine bq_t (by decide) ?_ | refine bq_f (by decide) ?_
      unfold wp_Pr_unsigned
      refine fun x ex y ey => ?_
      subst ex
      subst ey
      have hv : (rg (fI w 21).toNatClampNeg).toBitVec.toNat < w.toInt16.toInt32.toBitVec.toNat := hv
      rw [u_lt]
      exact bq_t hv hP
    · unfold wp_Md_operate
      rw [ho]
      repeat first | refine bq_t (by decide) ?_ | refine bq_f (by decide) ?_
      refine md_field H.e9 ?_
      rw [hr]
      repeat first | refine bq_t (by decide) ?_ | refine bq_f (by decide) ?_
      refine md_rs H.e9 H.rel (md_offset H.e9 ?_)
      try unfold wp_Md_trap
      repeat first | refine bq_t (by decide) ?_ | refine bq_f (by decide) ?_
      refine md_below ?_
      rw [if_pos hv]
      exact bq_f (by decide) hQ
  · refine pfx_mk H 5 (fun L O => (g, rg, hq, mf, cd, fg, L, O)) (fun dd l1 l2 => (upd dd 5 5, l1, l2, bm, rr, kt)) (fun L O P hP => ?_) (fun dd l1 l2 H L O => ⟨oc_end (by unfold q_e; simp) H.rel H.nxt rfl (fun j _ h => pk_un h), fun Q hQ => ?_⟩) (fun _ _ _ _ => rfl) (fun _ _ _ _ _ hs => ⟨by repeat first | exact hs | apply lo_upd, rfl, rfl, rfl⟩) (by first | exact Or.inr (fun _ _ => rfl) | exact Or.inl (by unfold q_e; decide)) (fun _ _ _ => rfl)
    · unfold wp_Pr_perform
      refine pr_op ?_
      rw [ho]
      repeat first | refine bq_t (by decide) ?_ | refine bq_f (by decide) ?_
      unfold wp_Pr_regimm
      refine pr_rt ?_
      rw [hr]
      repeat first | refine bq_t (by decide) ?_ | refine bq_f (by decide) ?_
      refine pr_rt (pr_rs ⟨fI_in w 21, fun a ea => ?_⟩)
      subst ea
      unfold wp_Pr_signed
      rw [hr]
      unfold wp_Pr_trap
      repeat first | refine bq_t (by decide) ?_ | refine bq_f (by decide) ?_
      unfold wp_Pr_unsigned
      refine fun x ex y ey => ?_
      subst ex
      subst ey
      have hv : ¬ (rg (fI w 21).toNatClampNeg).toBitVec.toNat < w.toInt16.toInt32.toBitVec.toNat := hv
      rw [u_lt]
      exact bq_f hv hP
    · unfold wp_Md_operate
      rw [ho]
      repeat first | refine bq_t (by decide) ?_ | refine bq_f (by decide) ?_
      refine md_field H.e9 ?_
      rw [hr]
      repeat first | refine bq_t (by decide) ?_ | refine bq_f (by decide) ?_
      refine md_rs H.e9 H.rel (md_offset H.e9 ?_)
      try unfold wp_Md_trap
      repeat first | refine bq_t (by decide) ?_ | refine bq_f (by decide) ?_
      refine md_below ?_
      rw [if_neg hv]
      exact bq_t rfl (md_ends H.e5 hQ)

theorem i_ti2 (H : pre mn g rg hq mf cd fg w dd bm rr kt) (ho : zz_ushr w 26 = 1) (hr : fI w 16 = 10) : pfx ms mn g rg hq mf cd fg w dd bm rr kt := by
  by_cases hv : w.toInt16.toInt32 ≤ rv rg w 21
  · refine pfx_mk H 0 (fun L O => (g, rg, hq, mf, cd, fg, L, O)) (fun dd l1 l2 => (dd, l1, l2, bm, rr, kt)) (fun L O P hP => ?_) (fun dd l1 l2 H L O => ⟨oc_0 H.rel H.e5 H.e11 H.e12 H.e13, fun Q hQ => ?_⟩) (fun _ _ _ _ => rfl) (fun _ _ _ _ _ hs => ⟨by repeat first | exact hs | apply lo_upd, rfl, rfl, rfl⟩) (by first | exact Or.inr (fun _ _ => rfl) | exact Or.inl (by unfold q_e; decide)) (fun _ _ _ => rfl)
    · unfold wp_Pr_perform
      refine pr_op ?_
      rw [ho]
      repeat first | refine bq_t (by decide) ?_ | refine bq_f (by decide) ?_
      unfold wp_Pr_regimm
      refine pr_rt ?_
      rw [hr]
      repeat first | refine bq_t (by decide) ?_ | refine bq_f (by decide) ?_
      refine pr_rt (pr_rs ⟨fI_in w 21, fun a ea => ?_⟩)
      subst ea
      unfold wp_Pr_signed
      rw [hr]
      unfold wp_Pr_trap
      repeat first | refine bq_t (by decide) ?_ | refine bq_f (by decide) ?_
      exact bq_t hv hP
    · unfold wp_Md_operate
      rw [ho]
      repeat first | refine bq_t (by decide) ?_ | refine bq_f (by decide) ?_
      refine md_field H.e9 ?_
      rw [hr]
      repeat first | refine bq_t (by decide) ?_ | refine bq_f (by decide) ?_
      refine md_rs H.e9 H.rel (md_offset H.e9 ?_)
      try unfold wp_Md_trap
      repeat first | refine bq_t (by decide) ?_ | refine bq_f (by decide) ?_
      exact bq_t hv hQ
  · refine pfx_mk H 5 (fun L O => (g, rg, hq, mf, cd, fg, L, O)) (fun dd l1 l2 => (upd dd 5 5, l1, l2, bm, rr, kt)) (fun L O P hP => ?_) (fun dd l1 l2 H L O => ⟨oc_end (by unfold q_e; simp) H.rel H.nxt rfl (fun j _ h => pk_un h), fun Q hQ => ?_⟩) (fun _ _ _ _ => rfl) (fun _ _ _ _ _ hs => ⟨by repeat first | exact hs | apply lo_upd, rfl, rfl, rfl⟩) (by first | exact Or.inr (fun _ _ => rfl) | exact Or.inl (by unfold q_e; decide)) (fun _ _ _ => rfl)
    · unfold wp_Pr_perform
      refine pr_op ?_
      rw [ho]
      repeat first | refine bq_t (by decide) ?_ | refine bq_f (by decide) ?_
      unfold wp_Pr_regimm
      refine pr_rt ?_
      rw [hr]
      repeat first | refine bq_t (by decide) ?_ | refine bq_f (by decide) ?_
      refine pr_rt (pr_rs ⟨fI_in w 21, fun a ea => ?_⟩)
      subst ea
      unfold wp_Pr_signed
      rw [hr]
      unfold wp_Pr_trap
      repeat first | refine bq_t (by decide) ?_ | refine bq_f (by decide) ?_
      exact bq_f hv hP
    · unfold wp_Md_operate
      rw [ho]
      repeat first | refine bq_t (by decide) ?_ | refine bq_f (by decide) ?_
      refine md_field H.e9 ?_
      rw [hr]
      repeat first | refine bq_t (by decide) ?_ | refine bq_f (by decide) ?_
      refine md_rs H.e9 H.rel (md_offset H.e9 ?_)
      try unfold wp_Md_trap
      repeat first | refine bq_t (by decide) ?_ | refine bq_f (by decide) ?_
      exact bq_f hv (md_ends H.e5 hQ)

theorem i_ti3 (H : pre mn g rg hq mf cd fg w dd bm rr kt) (ho : zz_ushr w 26 = 1) (hr : fI w 16 = 11) : pfx ms mn g rg hq mf cd fg w dd bm rr kt := by
  by_cases hv : (rv rg w 21).toBitVec.toNat < (w.toInt16.toInt32).toBitVec.toNat
  · refine pfx_mk H 5 (fun L O => (g, rg, hq, mf, cd, fg, L, O)) (fun dd l1 l2 => (upd dd 5 5, l1, l2, bm, rr, kt)) (fun L O P hP => ?_) (fun dd l1 l2 H L O => ⟨oc_end (by unfold q_e; simp) H.rel H.nxt rfl (fun j _ h => pk_un h), fun Q hQ => ?_⟩) (fun _ _ _ _ => rfl) (fun _ _ _ _ _ hs => ⟨by repeat first | exact hs | apply lo_upd, rfl, rfl, rfl⟩) (by first | exact Or.inr (fun _ _ => rfl) | exact Or.inl (by unfold q_e; decide)) (fun _ _ _ => rfl)
    · unfold wp_Pr_perform
      refine pr_op ?_
      rw [ho]
      repeat first | refine bq_t (by decide) ?_ | refine bq_f (by decide) ?_
      unfold wp_Pr_regimm
      refine pr_rt ?_
      rw [hr]
      repeat first | refine bq_t (by decide) ?_ | refine bq_f (by decide) ?_
      refine pr_rt (pr_rs ⟨fI_in w 21, fun a ea => ?_⟩)
      subst ea
      unfold wp_Pr_signed
      rw [hr]
      unfold wp_Pr_trap
      repeat first | refine bq_t (by decide) ?_ | refine bq_f (by decide) ?_
      unfold wp_Pr_unsigned
      refine fun x ex y ey => ?_
      subst ex
      subst ey
      have hv : (rg (fI w 21).toNatClampNeg).toBitVec.toNat < w.toInt16.toInt32.toBitVec.toNat := hv
      rw [u_le]
      exact bq_f (by omega) hP
    · unfold wp_Md_operate
      rw [ho]
      repeat first | refine bq_t (by decide) ?_ | refine bq_f (by decide) ?_
      refine md_field H.e9 ?_
      rw [hr]
      repeat first | refine bq_t (by decide) ?_ | refine bq_f (by decide) ?_
      refine md_rs H.e9 H.rel (md_offset H.e9 ?_)
      try unfold wp_Md_trap
      repeat first | refine bq_t (by decide) ?_ | refine bq_f (by decide) ?_
      refine md_below ?_
      rw [if_pos hv]
      exact bq_f (by decide) (md_ends H.e5 hQ)
  · refine pfx_mk H 0 (fun L O => (g, rg, hq, mf, cd, fg, L, O)) (fun dd l1 l2 => (dd, l1, l2, bm, rr, kt)) (fun L O P hP => ?_) (fun dd l1 l2 H L O => ⟨oc_0 H.rel H.e5 H.e11 H.e12 H.e13, fun Q hQ => ?_⟩) (fun _ _ _ _ => rfl) (fun _ _ _ _ _ hs => ⟨by repeat first | exact hs | apply lo_upd, rfl, rfl, rfl⟩) (by first | exact Or.inr (fun _ _ => rfl) | exact Or.inl (by unfold q_e; decide)) (fun _ _ _ => rfl)
    · unfold wp_Pr_perform
      refine pr_op ?_
      rw [ho]
      repeat first | refine bq_t (by decide) ?_ | refine bq_f (by decide) ?_
      unfold wp_Pr_regimm
      refine pr_rt ?_
      rw [hr]
      repeat first | refine bq_t (by decide) ?_ | refine bq_f (by decide) ?_
      refine pr_rt (pr_rs ⟨fI_in w 21, fun a ea => ?_⟩)
      subst ea
      unfold wp_Pr_signed
      rw [hr]
      unfold wp_Pr_trap
      repeat first | refine bq_t (by decide) ?_ | refine bq_f (by decide) ?_
      unfold wp_Pr_unsigned
      refine fun x ex y ey => ?_
      subst ex
      subst ey
      have hv : ¬ (rg (fI w 21).toNatClampNeg).toBitVec.toNat < w.toInt16.toInt32.toBitVec.toNat := hv
      rw [u_le]
      exact bq_t (by omega) hP
    · unfold wp_Md_operate
      rw [ho]
      repeat first | refine bq_t (by decide) ?_ | refine bq_f (by decide) ?_
      refine md_field H.e9 ?_
      rw [hr]
      repeat first | refine bq_t (by decide) ?_ | refine bq_f (by decide) ?_
      refine md_rs H.e9 H.rel (md_offset H.e9 ?_)
      try unfold wp_Md_trap
      repeat first | refine bq_t (by decide) ?_ | refine bq_f (by decide) ?_
      refine md_below ?_
      rw [if_neg hv]
      exact bq_t rfl hQ

theorem i_ti4 (H : pre mn g rg hq mf cd fg w dd bm rr kt) (ho : zz_ushr w 26 = 1) (hr : fI w 16 = 12) : pfx ms mn g rg hq mf cd fg w dd bm rr kt := by
  by_cases hv : rv rg w 21 = w.toInt16.toInt32
  · refine pfx_mk H 5 (fun L O => (g, rg, hq, mf, cd, fg, L, O)) (fun dd l1 l2 => (upd dd 5 5, l1, l2, bm, rr, kt)) (fun L O P hP => ?_) (fun dd l1 l2 H L O => ⟨oc_end (by unfold q_e; simp) H.rel H.nxt rfl (fun j _ h => pk_un h), fun Q hQ => ?_⟩) (fun _ _ _ _ => rfl) (fun _ _ _ _ _ hs => ⟨by repeat first | exact hs | apply lo_upd, rfl, rfl, rfl⟩) (by first | exact Or.inr (fun _ _ => rfl) | exact Or.inl (by unfold q_e; decide)) (fun _ _ _ => rfl)
    · unfold wp_Pr_perform
      refine pr_op ?_
      rw [ho]
      repeat first | refine bq_t (by decide) ?_ | refine bq_f (by decide) ?_
      unfold wp_Pr_regimm
      refine pr_rt ?_
      rw [hr]
      repeat first | refine bq_t (by decide) ?_ | refine bq_f (by decide) ?_
      refine pr_rt (pr_rs ⟨fI_in w 21, fun a ea => ?_⟩)
      subst ea
      unfold wp_Pr_signed
      rw [hr]
      unfold wp_Pr_trap
      repeat first | refine bq_t (by decide) ?_ | refine bq_f (by decide) ?_
      exact bq_t hv hP
    · unfold wp_Md_operate
      rw [ho]
      repeat first | refine bq_t (by decide) ?_ | refine bq_f (by decide) ?_
      refine md_field H.e9 ?_
      rw [hr]
      repeat first | refine bq_t (by decide) ?_ | refine bq_f (by decide) ?_
      refine md_rs H.e9 H.rel (md_offset H.e9 ?_)
      try unfold wp_Md_trap
      repeat first | refine bq_t (by decide) ?_ | refine bq_f (by decide) ?_
      exact bq_t hv (md_ends H.e5 hQ)
  · refine pfx_mk H 0 (fun L O => (g, rg, hq, mf, cd, fg, L, O)) (fun dd l1 l2 => (dd, l1, l2, bm, rr, kt)) (fun L O P hP => ?_) (fun dd l1 l2 H L O => ⟨oc_0 H.rel H.e5 H.e11 H.e12 H.e13, fun Q hQ => ?_⟩) (fun _ _ _ _ => rfl) (fun _ _ _ _ _ hs => ⟨by repeat first | exact hs | apply lo_upd, rfl, rfl, rfl⟩) (by first | exact Or.inr (fun _ _ => rfl) | exact Or.inl (by unfold q_e; decide)) (fun _ _ _ => rfl)
    · unfold wp_Pr_perform
      refine pr_op ?_
      rw [ho]
      repeat first | refine bq_t (by decide) ?_ | refine bq_f (by decide) ?_
      unfold wp_Pr_regimm
      refine pr_rt ?_
      rw [hr]
      repeat first | refine bq_t (by decide) ?_ | refine bq_f (by decide) ?_
      refine pr_rt (pr_rs ⟨fI_in w 21, fun a ea => ?_⟩)
      subst ea
      unfold wp_Pr_signed
      rw [hr]
      unfold wp_Pr_trap
      repeat first | refine bq_t (by decide) ?_ | refine bq_f (by decide) ?_
      exact bq_f hv hP
    · unfold wp_Md_operate
      rw [ho]
      repeat first | refine bq_t (by decide) ?_ | refine bq_f (by decide) ?_
      refine md_field H.e9 ?_
      rw [hr]
      repeat first | refine bq_t (by decide) ?_ | refine bq_f (by decide) ?_
      refine md_rs H.e9 H.rel (md_offset H.e9 ?_)
      try unfold wp_Md_trap
      repeat first | refine bq_t (by decide) ?_ | refine bq_f (by decide) ?_
      exact bq_f hv hQ

theorem i_ti6 (H : pre mn g rg hq mf cd fg w dd bm rr kt) (ho : zz_ushr w 26 = 1) (hr : fI w 16 = 14) : pfx ms mn g rg hq mf cd fg w dd bm rr kt := by
  by_cases hv : rv rg w 21 = w.toInt16.toInt32
  · refine pfx_mk H 0 (fun L O => (g, rg, hq, mf, cd, fg, L, O)) (fun dd l1 l2 => (dd, l1, l2, bm, rr, kt)) (fun L O P hP => ?_) (fun dd l1 l2 H L O => ⟨oc_0 H.rel H.e5 H.e11 H.e12 H.e13, fun Q hQ => ?_⟩) (fun _ _ _ _ => rfl) (fun _ _ _ _ _ hs => ⟨by repeat first | exact hs | apply lo_upd, rfl, rfl, rfl⟩) (by first | exact Or.inr (fun _ _ => rfl) | exact Or.inl (by unfold q_e; decide)) (fun _ _ _ => rfl)
    · unfold wp_Pr_perform
      refine pr_op ?_
      rw [ho]
      repeat first | refine bq_t (by decide) ?_ | refine bq_f (by decide) ?_
      unfold wp_Pr_regimm
      refine pr_rt ?_
      rw [hr]
      repeat first | refine bq_t (by decide) ?_ | refine bq_f (by decide) ?_
      refine pr_rt (pr_rs ⟨fI_in w 21, fun a ea => ?_⟩)
      subst ea
      unfold wp_Pr_signed
      rw [hr]
      unfold wp_Pr_trap
      repeat first | refine bq_t (by decide) ?_ | refine bq_f (by decide) ?_
      exact bq_t hv hP
    · unfold wp_Md_operate
      rw [ho]
      repeat first | refine bq_t (by decide) ?_ | refine bq_f (by decide) ?_
      refine md_field H.e9 ?_
      rw [hr]
      repeat first | refine bq_t (by decide) ?_ | refine bq_f (by decide) ?_
      refine md_rs H.e9 H.rel (md_offset H.e9 ?_)
      try unfold wp_Md_trap
      repeat first | refine bq_t (by decide) ?_ | refine bq_f (by decide) ?_
      exact bq_t hv hQ
  · refine pfx_mk H 5 (fun L O => (g, rg, hq, mf, cd, fg, L, O)) (fun dd l1 l2 => (upd dd 5 5, l1, l2, bm, rr, kt)) (fun L O P hP => ?_) (fun dd l1 l2 H L O => ⟨oc_end (by unfold q_e; simp) H.rel H.nxt rfl (fun j _ h => pk_un h), fun Q hQ => ?_⟩) (fun _ _ _ _ => rfl) (fun _ _ _ _ _ hs => ⟨by repeat first | exact hs | apply lo_upd, rfl, rfl, rfl⟩) (by first | exact Or.inr (fun _ _ => rfl) | exact Or.inl (by unfold q_e; decide)) (fun _ _ _ => rfl)
    · unfold wp_Pr_perform
      refine pr_op ?_
      rw [ho]
      repeat first | refine bq_t (by decide) ?_ | refine bq_f (by decide) ?_
      unfold wp_Pr_regimm
      refine pr_rt ?_
      rw [hr]
      repeat first | refine bq_t (by decide) ?_ | refine bq_f (by decide) ?_
      refine pr_rt (pr_rs ⟨fI_in w 21, fun a ea => ?_⟩)
      subst ea
      unfold wp_Pr_signed
      rw [hr]
      unfold wp_Pr_trap
      repeat first | refine bq_t (by decide) ?_ | refine bq_f (by decide) ?_
      exact bq_f hv hP
    · unfold wp_Md_operate
      rw [ho]
      repeat first | refine bq_t (by decide) ?_ | refine bq_f (by decide) ?_
      refine md_field H.e9 ?_
      rw [hr]
      repeat first | refine bq_t (by decide) ?_ | refine bq_f (by decide) ?_
      refine md_rs H.e9 H.rel (md_offset H.e9 ?_)
      try unfold wp_Md_trap
      repeat first | refine bq_t (by decide) ?_ | refine bq_f (by decide) ?_
      exact bq_f hv (md_ends H.e5 hQ)

theorem i_r13 (H : pre mn g rg hq mf cd fg w dd bm rr kt) (ho : zz_ushr w 26 = 1) (hr : fI w 16 = 13) : pfx ms mn g rg hq mf cd fg w dd bm rr kt := by
  refine pfx_mk H 3 (fun L O => (g, rg, hq, mf, cd, fg, L, O)) (fun dd l1 l2 => (upd dd 5 3, l1, l2, bm, rr, kt)) (fun L O P hP => ?_) (fun dd l1 l2 H L O => ⟨oc_end (by unfold q_e; simp) H.rel H.nxt rfl (fun j _ h => pk_un h), fun Q hQ => ?_⟩) (fun _ _ _ _ => rfl) (fun _ _ _ _ _ hs => ⟨by repeat first | exact hs | apply lo_upd, rfl, rfl, rfl⟩) (by first | exact Or.inr (fun _ _ => rfl) | exact Or.inl (by unfold q_e; decide)) (fun _ _ _ => rfl)
  · unfold wp_Pr_perform
    refine pr_op ?_
    rw [ho]
    repeat first | refine bq_t (by decide) ?_ | refine bq_f (by decide) ?_
    unfold wp_Pr_regimm
    refine pr_rt ?_
    rw [hr]
    repeat first | refine bq_t (by decide) ?_ | refine bq_f (by decide) ?_
    refine pr_rt (pr_rs ⟨fI_in w 21, fun a ea => ?_⟩)
    subst ea
    unfold wp_Pr_signed
    rw [hr]
    unfold wp_Pr_trap
    repeat first | refine bq_t (by decide) ?_ | refine bq_f (by decide) ?_
    exact hP
  · unfold wp_Md_operate
    rw [ho]
    repeat first | refine bq_t (by decide) ?_ | refine bq_f (by decide) ?_
    refine md_field H.e9 ?_
    rw [hr]
    repeat first | refine bq_t (by decide) ?_ | refine bq_f (by decide) ?_
    exact md_ends H.e5 hQ

theorem i_r15 (H : pre mn g rg hq mf cd fg w dd bm rr kt) (ho : zz_ushr w 26 = 1) (hr : fI w 16 = 15) : pfx ms mn g rg hq mf cd fg w dd bm rr kt := by
  refine pfx_mk H 3 (fun L O => (g, rg, hq, mf, cd, fg, L, O)) (fun dd l1 l2 => (upd dd 5 3, l1, l2, bm, rr, kt)) (fun L O P hP => ?_) (fun dd l1 l2 H L O => ⟨oc_end (by unfold q_e; simp) H.rel H.nxt rfl (fun j _ h => pk_un h), fun Q hQ => ?_⟩) (fun _ _ _ _ => rfl) (fun _ _ _ _ _ hs => ⟨by repeat first | exact hs | apply lo_upd, rfl, rfl, rfl⟩) (by first | exact Or.inr (fun _ _ => rfl) | exact Or.inl (by unfold q_e; decide)) (fun _ _ _ => rfl)
  · unfold wp_Pr_perform
    refine pr_op ?_
    rw [ho]
    repeat first | refine bq_t (by decide) ?_ | refine bq_f (by decide) ?_
    unfold wp_Pr_regimm
    refine pr_rt ?_
    rw [hr]
    repeat first | refine bq_t (by decide) ?_ | refine bq_f (by decide) ?_
    refine pr_rt (pr_rs ⟨fI_in w 21, fun a ea => ?_⟩)
    subst ea
    unfold wp_Pr_signed
    rw [hr]
    unfold wp_Pr_trap
    repeat first | refine bq_t (by decide) ?_ | refine bq_f (by decide) ?_
    exact hP
  · unfold wp_Md_operate
    rw [ho]
    repeat first | refine bq_t (by decide) ?_ | refine bq_f (by decide) ?_
    refine md_field H.e9 ?_
    rw [hr]
    repeat first | refine bq_t (by decide) ?_ | refine bq_f (by decide) ?_
    exact md_ends H.e5 hQ

theorem i_r4 (H : pre mn g rg hq mf cd fg w dd bm rr kt) (ho : zz_ushr w 26 = 1) (hr : fI w 16 = 4) : pfx ms mn g rg hq mf cd fg w dd bm rr kt := by
  refine pfx_mk H 3 (fun L O => (g, rg, hq, mf, cd, fg, L, O)) (fun dd l1 l2 => (upd dd 5 3, l1, l2, bm, rr, kt)) (fun L O P hP => ?_) (fun dd l1 l2 H L O => ⟨oc_end (by unfold q_e; simp) H.rel H.nxt rfl (fun j _ h => pk_un h), fun Q hQ => ?_⟩) (fun _ _ _ _ => rfl) (fun _ _ _ _ _ hs => ⟨by repeat first | exact hs | apply lo_upd, rfl, rfl, rfl⟩) (by first | exact Or.inr (fun _ _ => rfl) | exact Or.inl (by unfold q_e; decide)) (fun _ _ _ => rfl)
  · unfold wp_Pr_perform
    refine pr_op ?_
    rw [ho]
    repeat first | refine bq_t (by decide) ?_ | refine bq_f (by decide) ?_
    unfold wp_Pr_regimm
    refine pr_rt ?_
    rw [hr]
    repeat first | refine bq_t (by decide) ?_ | refine bq_f (by decide) ?_
    exact hP
  · unfold wp_Md_operate
    rw [ho]
    repeat first | refine bq_t (by decide) ?_ | refine bq_f (by decide) ?_
    refine md_field H.e9 ?_
    rw [hr]
    repeat first | refine bq_t (by decide) ?_ | refine bq_f (by decide) ?_
    exact md_ends H.e5 hQ

theorem i_r5 (H : pre mn g rg hq mf cd fg w dd bm rr kt) (ho : zz_ushr w 26 = 1) (hr : fI w 16 = 5) : pfx ms mn g rg hq mf cd fg w dd bm rr kt := by
  refine pfx_mk H 3 (fun L O => (g, rg, hq, mf, cd, fg, L, O)) (fun dd l1 l2 => (upd dd 5 3, l1, l2, bm, rr, kt)) (fun L O P hP => ?_) (fun dd l1 l2 H L O => ⟨oc_end (by unfold q_e; simp) H.rel H.nxt rfl (fun j _ h => pk_un h), fun Q hQ => ?_⟩) (fun _ _ _ _ => rfl) (fun _ _ _ _ _ hs => ⟨by repeat first | exact hs | apply lo_upd, rfl, rfl, rfl⟩) (by first | exact Or.inr (fun _ _ => rfl) | exact Or.inl (by unfold q_e; decide)) (fun _ _ _ => rfl)
  · unfold wp_Pr_perform
    refine pr_op ?_
    rw [ho]
    repeat first | refine bq_t (by decide) ?_ | refine bq_f (by decide) ?_
    unfold wp_Pr_regimm
    refine pr_rt ?_
    rw [hr]
    repeat first | refine bq_t (by decide) ?_ | refine bq_f (by decide) ?_
    exact hP
  · unfold wp_Md_operate
    rw [ho]
    repeat first | refine bq_t (by decide) ?_ | refine bq_f (by decide) ?_
    refine md_field H.e9 ?_
    rw [hr]
    repeat first | refine bq_t (by decide) ?_ | refine bq_f (by decide) ?_
    exact md_ends H.e5 hQ

theorem i_r6 (H : pre mn g rg hq mf cd fg w dd bm rr kt) (ho : zz_ushr w 26 = 1) (hr : fI w 16 = 6) : pfx ms mn g rg hq mf cd fg w dd bm rr kt := by
  refine pfx_mk H 3 (fun L O => (g, rg, hq, mf, cd, fg, L, O)) (fun dd l1 l2 => (upd dd 5 3, l1, l2, bm, rr, kt)) (fun L O P hP => ?_) (fun dd l1 l2 H L O => ⟨oc_end (by unfold q_e; simp) H.rel H.nxt rfl (fun j _ h => pk_un h), fun Q hQ => ?_⟩) (fun _ _ _ _ => rfl) (fun _ _ _ _ _ hs => ⟨by repeat first | exact hs | apply lo_upd, rfl, rfl, rfl⟩) (by first | exact Or.inr (fun _ _ => rfl) | exact Or.inl (by unfold q_e; decide)) (fun _ _ _ => rfl)
  · unfold wp_Pr_perform
    refine pr_op ?_
    rw [ho]
    repeat first | refine bq_t (by decide) ?_ | refine bq_f (by decide) ?_
    unfold wp_Pr_regimm
    refine pr_rt ?_
    rw [hr]
    repeat first | refine bq_t (by decide) ?_ | refine bq_f (by decide) ?_
    exact hP
  · unfold wp_Md_operate
    rw [ho]
    repeat first | refine bq_t (by decide) ?_ | refine bq_f (by decide) ?_
    refine md_field H.e9 ?_
    rw [hr]
    repeat first | refine bq_t (by decide) ?_ | refine bq_f (by decide) ?_
    exact md_ends H.e5 hQ

theorem i_r7 (H : pre mn g rg hq mf cd fg w dd bm rr kt) (ho : zz_ushr w 26 = 1) (hr : fI w 16 = 7) : pfx ms mn g rg hq mf cd fg w dd bm rr kt := by
  refine pfx_mk H 3 (fun L O => (g, rg, hq, mf, cd, fg, L, O)) (fun dd l1 l2 => (upd dd 5 3, l1, l2, bm, rr, kt)) (fun L O P hP => ?_) (fun dd l1 l2 H L O => ⟨oc_end (by unfold q_e; simp) H.rel H.nxt rfl (fun j _ h => pk_un h), fun Q hQ => ?_⟩) (fun _ _ _ _ => rfl) (fun _ _ _ _ _ hs => ⟨by repeat first | exact hs | apply lo_upd, rfl, rfl, rfl⟩) (by first | exact Or.inr (fun _ _ => rfl) | exact Or.inl (by unfold q_e; decide)) (fun _ _ _ => rfl)
  · unfold wp_Pr_perform
    refine pr_op ?_
    rw [ho]
    repeat first | refine bq_t (by decide) ?_ | refine bq_f (by decide) ?_
    unfold wp_Pr_regimm
    refine pr_rt ?_
    rw [hr]
    repeat first | refine bq_t (by decide) ?_ | refine bq_f (by decide) ?_
    exact hP
  · unfold wp_Md_operate
    rw [ho]
    repeat first | refine bq_t (by decide) ?_ | refine bq_f (by decide) ?_
    refine md_field H.e9 ?_
    rw [hr]
    repeat first | refine bq_t (by decide) ?_ | refine bq_f (by decide) ?_
    exact md_ends H.e5 hQ

theorem i_r20 (H : pre mn g rg hq mf cd fg w dd bm rr kt) (ho : zz_ushr w 26 = 1) (hr : fI w 16 = 20) : pfx ms mn g rg hq mf cd fg w dd bm rr kt := by
  refine pfx_mk H 3 (fun L O => (g, rg, hq, mf, cd, fg, L, O)) (fun dd l1 l2 => (upd dd 5 3, l1, l2, bm, rr, kt)) (fun L O P hP => ?_) (fun dd l1 l2 H L O => ⟨oc_end (by unfold q_e; simp) H.rel H.nxt rfl (fun j _ h => pk_un h), fun Q hQ => ?_⟩) (fun _ _ _ _ => rfl) (fun _ _ _ _ _ hs => ⟨by repeat first | exact hs | apply lo_upd, rfl, rfl, rfl⟩) (by first | exact Or.inr (fun _ _ => rfl) | exact Or.inl (by unfold q_e; decide)) (fun _ _ _ => rfl)
  · unfold wp_Pr_perform
    refine pr_op ?_
    rw [ho]
    repeat first | refine bq_t (by decide) ?_ | refine bq_f (by decide) ?_
    unfold wp_Pr_regimm
    refine pr_rt ?_
    rw [hr]
    repeat first | refine bq_t (by decide) ?_ | refine bq_f (by decide) ?_
    exact hP
  · unfold wp_Md_operate
    rw [ho]
    repeat first | refine bq_t (by decide) ?_ | refine bq_f (by decide) ?_
    refine md_field H.e9 ?_
    rw [hr]
    repeat first | refine bq_t (by decide) ?_ | refine bq_f (by decide) ?_
    exact md_ends H.e5 hQ

theorem i_r21 (H : pre mn g rg hq mf cd fg w dd bm rr kt) (ho : zz_ushr w 26 = 1) (hr : fI w 16 = 21) : pfx ms mn g rg hq mf cd fg w dd bm rr kt := by
  refine pfx_mk H 3 (fun L O => (g, rg, hq, mf, cd, fg, L, O)) (fun dd l1 l2 => (upd dd 5 3, l1, l2, bm, rr, kt)) (fun L O P hP => ?_) (fun dd l1 l2 H L O => ⟨oc_end (by unfold q_e; simp) H.rel H.nxt rfl (fun j _ h => pk_un h), fun Q hQ => ?_⟩) (fun _ _ _ _ => rfl) (fun _ _ _ _ _ hs => ⟨by repeat first | exact hs | apply lo_upd, rfl, rfl, rfl⟩) (by first | exact Or.inr (fun _ _ => rfl) | exact Or.inl (by unfold q_e; decide)) (fun _ _ _ => rfl)
  · unfold wp_Pr_perform
    refine pr_op ?_
    rw [ho]
    repeat first | refine bq_t (by decide) ?_ | refine bq_f (by decide) ?_
    unfold wp_Pr_regimm
    refine pr_rt ?_
    rw [hr]
    repeat first | refine bq_t (by decide) ?_ | refine bq_f (by decide) ?_
    exact hP
  · unfold wp_Md_operate
    rw [ho]
    repeat first | refine bq_t (by decide) ?_ | refine bq_f (by decide) ?_
    refine md_field H.e9 ?_
    rw [hr]
    repeat first | refine bq_t (by decide) ?_ | refine bq_f (by decide) ?_
    exact md_ends H.e5 hQ

theorem i_r22 (H : pre mn g rg hq mf cd fg w dd bm rr kt) (ho : zz_ushr w 26 = 1) (hr : fI w 16 = 22) : pfx ms mn g rg hq mf cd fg w dd bm rr kt := by
  refine pfx_mk H 3 (fun L O => (g, rg, hq, mf, cd, fg, L, O)) (fun dd l1 l2 => (upd dd 5 3, l1, l2, bm, rr, kt)) (fun L O P hP => ?_) (fun dd l1 l2 H L O => ⟨oc_end (by unfold q_e; simp) H.rel H.nxt rfl (fun j _ h => pk_un h), fun Q hQ => ?_⟩) (fun _ _ _ _ => rfl) (fun _ _ _ _ _ hs => ⟨by repeat first | exact hs | apply lo_upd, rfl, rfl, rfl⟩) (by first | exact Or.inr (fun _ _ => rfl) | exact Or.inl (by unfold q_e; decide)) (fun _ _ _ => rfl)
  · unfold wp_Pr_perform
    refine pr_op ?_
    rw [ho]
    repeat first | refine bq_t (by decide) ?_ | refine bq_f (by decide) ?_
    unfold wp_Pr_regimm
    refine pr_rt ?_
    rw [hr]
    repeat first | refine bq_t (by decide) ?_ | refine bq_f (by decide) ?_
    exact hP
  · unfold wp_Md_operate
    rw [ho]
    repeat first | refine bq_t (by decide) ?_ | refine bq_f (by decide) ?_
    refine md_field H.e9 ?_
    rw [hr]
    repeat first | refine bq_t (by decide) ?_ | refine bq_f (by decide) ?_
    exact md_ends H.e5 hQ

theorem i_r23 (H : pre mn g rg hq mf cd fg w dd bm rr kt) (ho : zz_ushr w 26 = 1) (hr : fI w 16 = 23) : pfx ms mn g rg hq mf cd fg w dd bm rr kt := by
  refine pfx_mk H 3 (fun L O => (g, rg, hq, mf, cd, fg, L, O)) (fun dd l1 l2 => (upd dd 5 3, l1, l2, bm, rr, kt)) (fun L O P hP => ?_) (fun dd l1 l2 H L O => ⟨oc_end (by unfold q_e; simp) H.rel H.nxt rfl (fun j _ h => pk_un h), fun Q hQ => ?_⟩) (fun _ _ _ _ => rfl) (fun _ _ _ _ _ hs => ⟨by repeat first | exact hs | apply lo_upd, rfl, rfl, rfl⟩) (by first | exact Or.inr (fun _ _ => rfl) | exact Or.inl (by unfold q_e; decide)) (fun _ _ _ => rfl)
  · unfold wp_Pr_perform
    refine pr_op ?_
    rw [ho]
    repeat first | refine bq_t (by decide) ?_ | refine bq_f (by decide) ?_
    unfold wp_Pr_regimm
    refine pr_rt ?_
    rw [hr]
    repeat first | refine bq_t (by decide) ?_ | refine bq_f (by decide) ?_
    exact hP
  · unfold wp_Md_operate
    rw [ho]
    repeat first | refine bq_t (by decide) ?_ | refine bq_f (by decide) ?_
    refine md_field H.e9 ?_
    rw [hr]
    repeat first | refine bq_t (by decide) ?_ | refine bq_f (by decide) ?_
    exact md_ends H.e5 hQ

theorem i_r24 (H : pre mn g rg hq mf cd fg w dd bm rr kt) (ho : zz_ushr w 26 = 1) (hr : fI w 16 = 24) : pfx ms mn g rg hq mf cd fg w dd bm rr kt := by
  refine pfx_mk H 3 (fun L O => (g, rg, hq, mf, cd, fg, L, O)) (fun dd l1 l2 => (upd dd 5 3, l1, l2, bm, rr, kt)) (fun L O P hP => ?_) (fun dd l1 l2 H L O => ⟨oc_end (by unfold q_e; simp) H.rel H.nxt rfl (fun j _ h => pk_un h), fun Q hQ => ?_⟩) (fun _ _ _ _ => rfl) (fun _ _ _ _ _ hs => ⟨by repeat first | exact hs | apply lo_upd, rfl, rfl, rfl⟩) (by first | exact Or.inr (fun _ _ => rfl) | exact Or.inl (by unfold q_e; decide)) (fun _ _ _ => rfl)
  · unfold wp_Pr_perform
    refine pr_op ?_
    rw [ho]
    repeat first | refine bq_t (by decide) ?_ | refine bq_f (by decide) ?_
    unfold wp_Pr_regimm
    refine pr_rt ?_
    rw [hr]
    repeat first | refine bq_t (by decide) ?_ | refine bq_f (by decide) ?_
    exact hP
  · unfold wp_Md_operate
    rw [ho]
    repeat first | refine bq_t (by decide) ?_ | refine bq_f (by decide) ?_
    refine md_field H.e9 ?_
    rw [hr]
    repeat first | refine bq_t (by decide) ?_ | refine bq_f (by decide) ?_
    exact md_ends H.e5 hQ

theorem i_r25 (H : pre mn g rg hq mf cd fg w dd bm rr kt) (ho : zz_ushr w 26 = 1) (hr : fI w 16 = 25) : pfx ms mn g rg hq mf cd fg w dd bm rr kt := by
  refine pfx_mk H 3 (fun L O => (g, rg, hq, mf, cd, fg, L, O)) (fun dd l1 l2 => (upd dd 5 3, l1, l2, bm, rr, kt)) (fun L O P hP => ?_) (fun dd l1 l2 H L O => ⟨oc_end (by unfold q_e; simp) H.rel H.nxt rfl (fun j _ h => pk_un h), fun Q hQ => ?_⟩) (fun _ _ _ _ => rfl) (fun _ _ _ _ _ hs => ⟨by repeat first | exact hs | apply lo_upd, rfl, rfl, rfl⟩) (by first | exact Or.inr (fun _ _ => rfl) | exact Or.inl (by unfold q_e; decide)) (fun _ _ _ => rfl)
  · unfold wp_Pr_perform
    refine pr_op ?_
    rw [ho]
    repeat first | refine bq_t (by decide) ?_ | refine bq_f (by decide) ?_
    unfold wp_Pr_regimm
    refine pr_rt ?_
    rw [hr]
    repeat first | refine bq_t (by decide) ?_ | refine bq_f (by decide) ?_
    exact hP
  · unfold wp_Md_operate
    rw [ho]
    repeat first | refine bq_t (by decide) ?_ | refine bq_f (by decide) ?_
    refine md_field H.e9 ?_
    rw [hr]
    repeat first | refine bq_t (by decide) ?_ | refine bq_f (by decide) ?_
    exact md_ends H.e5 hQ

theorem i_r26 (H : pre mn g rg hq mf cd fg w dd bm rr kt) (ho : zz_ushr w 26 = 1) (hr : fI w 16 = 26) : pfx ms mn g rg hq mf cd fg w dd bm rr kt := by
  refine pfx_mk H 3 (fun L O => (g, rg, hq, mf, cd, fg, L, O)) (fun dd l1 l2 => (upd dd 5 3, l1, l2, bm, rr, kt)) (fun L O P hP => ?_) (fun dd l1 l2 H L O => ⟨oc_end (by unfold q_e; simp) H.rel H.nxt rfl (fun j _ h => pk_un h), fun Q hQ => ?_⟩) (fun _ _ _ _ => rfl) (fun _ _ _ _ _ hs => ⟨by repeat first | exact hs | apply lo_upd, rfl, rfl, rfl⟩) (by first | exact Or.inr (fun _ _ => rfl) | exact Or.inl (by unfold q_e; decide)) (fun _ _ _ => rfl)
  · unfold wp_Pr_perform
    refine pr_op ?_
    rw [ho]
    repeat first | refine bq_t (by decide) ?_ | refine bq_f (by decide) ?_
    unfold wp_Pr_regimm
    refine pr_rt ?_
    rw [hr]
    repeat first | refine bq_t (by decide) ?_ | refine bq_f (by decide) ?_
    exact hP
  · unfold wp_Md_operate
    rw [ho]
    repeat first | refine bq_t (by decide) ?_ | refine bq_f (by decide) ?_
    refine md_field H.e9 ?_
    rw [hr]
    repeat first | refine bq_t (by decide) ?_ | refine bq_f (by decide) ?_
    exact md_ends H.e5 hQ

theorem i_r27 (H : pre mn g rg hq mf cd fg w dd bm rr kt) (ho : zz_ushr w 26 = 1) (hr : fI w 16 = 27) : pfx ms mn g rg hq mf cd fg w dd bm rr kt := by
  refine pfx_mk H 3 (fun L O => (g, rg, hq, mf, cd, fg, L, O)) (fun dd l1 l2 => (upd dd 5 3, l1, l2, bm, rr, kt)) (fun L O P hP => ?_) (fun dd l1 l2 H L O => ⟨oc_end (by unfold q_e; simp) H.rel H.nxt rfl (fun j _ h => pk_un h), fun Q hQ => ?_⟩) (fun _ _ _ _ => rfl) (fun _ _ _ _ _ hs => ⟨by repeat first | exact hs | apply lo_upd, rfl, rfl, rfl⟩) (by first | exact Or.inr (fun _ _ => rfl) | exact Or.inl (by unfold q_e; decide)) (fun _ _ _ => rfl)
  · unfold wp_Pr_perform
    refine pr_op ?_
    rw [ho]
    repeat first | refine bq_t (by decide) ?_ | refine bq_f (by decide) ?_
    unfold wp_Pr_regimm
    refine pr_rt ?_
    rw [hr]
    repeat first | refine bq_t (by decide) ?_ | refine bq_f (by decide) ?_
    exact hP
  · unfold wp_Md_operate
    rw [ho]
    repeat first | refine bq_t (by decide) ?_ | refine bq_f (by decide) ?_
    refine md_field H.e9 ?_
    rw [hr]
    repeat first | refine bq_t (by decide) ?_ | refine bq_f (by decide) ?_
    exact md_ends H.e5 hQ

theorem i_r28 (H : pre mn g rg hq mf cd fg w dd bm rr kt) (ho : zz_ushr w 26 = 1) (hr : fI w 16 = 28) : pfx ms mn g rg hq mf cd fg w dd bm rr kt := by
  refine pfx_mk H 3 (fun L O => (g, rg, hq, mf, cd, fg, L, O)) (fun dd l1 l2 => (upd dd 5 3, l1, l2, bm, rr, kt)) (fun L O P hP => ?_) (fun dd l1 l2 H L O => ⟨oc_end (by unfold q_e; simp) H.rel H.nxt rfl (fun j _ h => pk_un h), fun Q hQ => ?_⟩) (fun _ _ _ _ => rfl) (fun _ _ _ _ _ hs => ⟨by repeat first | exact hs | apply lo_upd, rfl, rfl, rfl⟩) (by first | exact Or.inr (fun _ _ => rfl) | exact Or.inl (by unfold q_e; decide)) (fun _ _ _ => rfl)
  · unfold wp_Pr_perform
    refine pr_op ?_
    rw [ho]
    repeat first | refine bq_t (by decide) ?_ | refine bq_f (by decide) ?_
    unfold wp_Pr_regimm
    refine pr_rt ?_
    rw [hr]
    repeat first | refine bq_t (by decide) ?_ | refine bq_f (by decide) ?_
    exact hP
  · unfold wp_Md_operate
    rw [ho]
    repeat first | refine bq_t (by decide) ?_ | refine bq_f (by decide) ?_
    refine md_field H.e9 ?_
    rw [hr]
    repeat first | refine bq_t (by decide) ?_ | refine bq_f (by decide) ?_
    exact md_ends H.e5 hQ

theorem i_r29 (H : pre mn g rg hq mf cd fg w dd bm rr kt) (ho : zz_ushr w 26 = 1) (hr : fI w 16 = 29) : pfx ms mn g rg hq mf cd fg w dd bm rr kt := by
  refine pfx_mk H 3 (fun L O => (g, rg, hq, mf, cd, fg, L, O)) (fun dd l1 l2 => (upd dd 5 3, l1, l2, bm, rr, kt)) (fun L O P hP => ?_) (fun dd l1 l2 H L O => ⟨oc_end (by unfold q_e; simp) H.rel H.nxt rfl (fun j _ h => pk_un h), fun Q hQ => ?_⟩) (fun _ _ _ _ => rfl) (fun _ _ _ _ _ hs => ⟨by repeat first | exact hs | apply lo_upd, rfl, rfl, rfl⟩) (by first | exact Or.inr (fun _ _ => rfl) | exact Or.inl (by unfold q_e; decide)) (fun _ _ _ => rfl)
  · unfold wp_Pr_perform
    refine pr_op ?_
    rw [ho]
    repeat first | refine bq_t (by decide) ?_ | refine bq_f (by decide) ?_
    unfold wp_Pr_regimm
    refine pr_rt ?_
    rw [hr]
    repeat first | refine bq_t (by decide) ?_ | refine bq_f (by decide) ?_
    exact hP
  · unfold wp_Md_operate
    rw [ho]
    repeat first | refine bq_t (by decide) ?_ | refine bq_f (by decide) ?_
    refine md_field H.e9 ?_
    rw [hr]
    repeat first | refine bq_t (by decide) ?_ | refine bq_f (by decide) ?_
    exact md_ends H.e5 hQ

theorem i_r30 (H : pre mn g rg hq mf cd fg w dd bm rr kt) (ho : zz_ushr w 26 = 1) (hr : fI w 16 = 30) : pfx ms mn g rg hq mf cd fg w dd bm rr kt := by
  refine pfx_mk H 3 (fun L O => (g, rg, hq, mf, cd, fg, L, O)) (fun dd l1 l2 => (upd dd 5 3, l1, l2, bm, rr, kt)) (fun L O P hP => ?_) (fun dd l1 l2 H L O => ⟨oc_end (by unfold q_e; simp) H.rel H.nxt rfl (fun j _ h => pk_un h), fun Q hQ => ?_⟩) (fun _ _ _ _ => rfl) (fun _ _ _ _ _ hs => ⟨by repeat first | exact hs | apply lo_upd, rfl, rfl, rfl⟩) (by first | exact Or.inr (fun _ _ => rfl) | exact Or.inl (by unfold q_e; decide)) (fun _ _ _ => rfl)
  · unfold wp_Pr_perform
    refine pr_op ?_
    rw [ho]
    repeat first | refine bq_t (by decide) ?_ | refine bq_f (by decide) ?_
    unfold wp_Pr_regimm
    refine pr_rt ?_
    rw [hr]
    repeat first | refine bq_t (by decide) ?_ | refine bq_f (by decide) ?_
    exact hP
  · unfold wp_Md_operate
    rw [ho]
    repeat first | refine bq_t (by decide) ?_ | refine bq_f (by decide) ?_
    refine md_field H.e9 ?_
    rw [hr]
    repeat first | refine bq_t (by decide) ?_ | refine bq_f (by decide) ?_
    exact md_ends H.e5 hQ

theorem i_r31 (H : pre mn g rg hq mf cd fg w dd bm rr kt) (ho : zz_ushr w 26 = 1) (hr : fI w 16 = 31) : pfx ms mn g rg hq mf cd fg w dd bm rr kt := by
  refine pfx_mk H 3 (fun L O => (g, rg, hq, mf, cd, fg, L, O)) (fun dd l1 l2 => (upd dd 5 3, l1, l2, bm, rr, kt)) (fun L O P hP => ?_) (fun dd l1 l2 H L O => ⟨oc_end (by unfold q_e; simp) H.rel H.nxt rfl (fun j _ h => pk_un h), fun Q hQ => ?_⟩) (fun _ _ _ _ => rfl) (fun _ _ _ _ _ hs => ⟨by repeat first | exact hs | apply lo_upd, rfl, rfl, rfl⟩) (by first | exact Or.inr (fun _ _ => rfl) | exact Or.inl (by unfold q_e; decide)) (fun _ _ _ => rfl)
  · unfold wp_Pr_perform
    refine pr_op ?_
    rw [ho]
    repeat first | refine bq_t (by decide) ?_ | refine bq_f (by decide) ?_
    unfold wp_Pr_regimm
    refine pr_rt ?_
    rw [hr]
    repeat first | refine bq_t (by decide) ?_ | refine bq_f (by decide) ?_
    exact hP
  · unfold wp_Md_operate
    rw [ho]
    repeat first | refine bq_t (by decide) ?_ | refine bq_f (by decide) ?_
    refine md_field H.e9 ?_
    rw [hr]
    repeat first | refine bq_t (by decide) ?_ | refine bq_f (by decide) ?_
    exact md_ends H.e5 hQ

theorem i_r0 (H : pre mn g rg hq mf cd fg w dd bm rr kt) (ho : zz_ushr w 26 = 1) (hr : fI w 16 = 0) : pfx ms mn g rg hq mf cd fg w dd bm rr kt := by
  by_cases hs : g 2 = 0
  · by_cases hv : 0 ≤ rv rg w 21
    · refine pfx_mk H (-1) (fun L O => (bu g 0 0 (g 1 + zz_shl w.toInt16.toInt32 2), rg, hq, mf, cd, fg, L, O)) (fun dd l1 l2 => (bd dd 0 0 (g 1 + zz_shl w.toInt16.toInt32 2), l1, l2, bm, rr, kt)) (fun L O P hP => ?_) (fun dd l1 l2 H L O => ⟨oc_br (Or.inl rfl) H.rel H.e5, fun Q hQ => ?_⟩) (fun _ _ _ _ => rfl) (fun _ _ _ _ _ hs => ⟨by repeat first | exact hs | apply lo_upd, rfl, rfl, rfl⟩) (by first | exact Or.inr (fun _ _ => rfl) | exact Or.inl (by unfold q_e; decide)) (fun _ _ _ => rfl)
      · unfold wp_Pr_perform
        refine pr_op ?_
        rw [ho]
        repeat first | refine bq_t (by decide) ?_ | refine bq_f (by decide) ?_
        unfold wp_Pr_regimm
        refine pr_rt ?_
        rw [hr]
        repeat first | refine bq_t (by decide) ?_ | refine bq_f (by decide) ?_
        unfold wp_Pr_branchOnSign
        refine pr_rt ?_
        rw [hr]
        repeat first | refine bq_t (by decide) ?_ | refine bq_f (by decide) ?_
        refine bq_t hs (pr_rs ⟨fI_in w 21, fun x ex => ?_⟩)
        subst ex
        refine bq_t hv ?_
        refine pr_rt ?_
        rw [hr]
        repeat first | refine bq_t (by decide) ?_ | refine bq_f (by decide) ?_
        refine pr_rt ?_
        rw [hr]
        exact bq_t (by decide) (pr_branch hP)
      · unfold wp_Md_operate
        rw [ho]
        repeat first | refine bq_t (by decide) ?_ | refine bq_f (by decide) ?_
        refine md_field H.e9 ?_
        rw [hr]
        repeat first | refine bq_t (by decide) ?_ | refine bq_f (by decide) ?_
        have h6 : dd 6 = 0 := by rw [H.rel.2.2.2.2.2.2.1.2.2.2.1]; exact hs
        have e31 : dd 3 + 4 = g 1 := by rw [H.rel.2.2.2.2.2.2.1.1, H.nxt hs]
        refine md_rs H.e9 H.rel (bq_t hv ?_)
        refine md_near H.e9 e31 ?_
        repeat first | refine bq_t (by decide) ?_ | refine bq_f (by decide) ?_
        exact md_jumps h6 (Or.inl rfl) (bq_t rfl hQ)
    · refine pfx_mk H (-1) (fun L O => (bu g 1 0 (g 1 + zz_shl w.toInt16.toInt32 2), rg, hq, mf, cd, fg, L, O)) (fun dd l1 l2 => (bd dd 1 0 (g 1 + zz_shl w.toInt16.toInt32 2), l1, l2, bm, rr, kt)) (fun L O P hP => ?_) (fun dd l1 l2 H L O => ⟨oc_br (Or.inr rfl) H.rel H.e5, fun Q hQ => ?_⟩) (fun _ _ _ _ => rfl) (fun _ _ _ _ _ hs => ⟨by repeat first | exact hs | apply lo_upd, rfl, rfl, rfl⟩) (by first | exact Or.inr (fun _ _ => rfl) | exact Or.inl (by unfold q_e; decide)) (fun _ _ _ => rfl)
      · unfold wp_Pr_perform
        refine pr_op ?_
        rw [ho]
        repeat first | refine bq_t (by decide) ?_ | refine bq_f (by decide) ?_
        unfold wp_Pr_regimm
        refine pr_rt ?_
        rw [hr]
        repeat first | refine bq_t (by decide) ?_ | refine bq_f (by decide) ?_
        unfold wp_Pr_branchOnSign
        refine pr_rt ?_
        rw [hr]
        repeat first | refine bq_t (by decide) ?_ | refine bq_f (by decide) ?_
        refine bq_t hs (pr_rs ⟨fI_in w 21, fun x ex => ?_⟩)
        subst ex
        refine bq_f hv ?_
        refine pr_rt ?_
        rw [hr]
        repeat first | refine bq_t (by decide) ?_ | refine bq_f (by decide) ?_
        refine pr_rt ?_
        rw [hr]
        exact bq_t (by decide) (pr_branch hP)
      · unfold wp_Md_operate
        rw [ho]
        repeat first | refine bq_t (by decide) ?_ | refine bq_f (by decide) ?_
        refine md_field H.e9 ?_
        rw [hr]
        repeat first | refine bq_t (by decide) ?_ | refine bq_f (by decide) ?_
        have h6 : dd 6 = 0 := by rw [H.rel.2.2.2.2.2.2.1.2.2.2.1]; exact hs
        have e31 : dd 3 + 4 = g 1 := by rw [H.rel.2.2.2.2.2.2.1.1, H.nxt hs]
        refine md_rs H.e9 H.rel (bq_f hv ?_)
        refine md_near H.e9 e31 ?_
        repeat first | refine bq_t (by decide) ?_ | refine bq_f (by decide) ?_
        exact md_jumps h6 (Or.inr rfl) (bq_t rfl hQ)
  · refine pfx_mk H 8 (fun L O => (g, rg, hq, mf, cd, fg, L, O)) (fun dd l1 l2 => (upd dd 5 8, l1, l2, bm, rr, kt)) (fun L O P hP => ?_) (fun dd l1 l2 H L O => ⟨oc_end (by unfold q_e; simp) H.rel H.nxt rfl (fun j _ h => pk_un h), fun Q hQ => ?_⟩) (fun _ _ _ _ => rfl) (fun _ _ _ _ _ hs => ⟨by repeat first | exact hs | apply lo_upd, rfl, rfl, rfl⟩) (by first | exact Or.inr (fun _ _ => rfl) | exact Or.inl (by unfold q_e; decide)) (fun _ _ _ => rfl)
    · unfold wp_Pr_perform
      refine pr_op ?_
      rw [ho]
      repeat first | refine bq_t (by decide) ?_ | refine bq_f (by decide) ?_
      unfold wp_Pr_regimm
      refine pr_rt ?_
      rw [hr]
      repeat first | refine bq_t (by decide) ?_ | refine bq_f (by decide) ?_
      unfold wp_Pr_branchOnSign
      refine pr_rt ?_
      rw [hr]
      repeat first | refine bq_t (by decide) ?_ | refine bq_f (by decide) ?_
      exact bq_f hs hP
    · unfold wp_Md_operate
      rw [ho]
      repeat first | refine bq_t (by decide) ?_ | refine bq_f (by decide) ?_
      refine md_field H.e9 ?_
      rw [hr]
      repeat first | refine bq_t (by decide) ?_ | refine bq_f (by decide) ?_
      have h6 : ¬ dd 6 = 0 := by rw [H.rel.2.2.2.2.2.2.1.2.2.2.1]; exact hs
      have any : ∀ z y lk, wj_Md_immediate_98 ms 0 Q 0 z y lk dd l1 l2 bm rr kt := fun z y lk => md_jumps_s h6 H.e5 (bq_t rfl hQ)
      have any2 : ∀ z, wj_Md_immediate_82 ms 0 Q 0 z dd l1 l2 bm rr kt := fun z => by
        unfold wj_Md_immediate_82 wp_Md_near
        exact md_offset H.e9 (fun x ex => ⟨fun _ => any _ _ _, fun _ => any _ _ _⟩)
      exact md_rs H.e9 H.rel ⟨fun _ => any2 _, fun _ => any2 _⟩

theorem i_r1 (H : pre mn g rg hq mf cd fg w dd bm rr kt) (ho : zz_ushr w 26 = 1) (hr : fI w 16 = 1) : pfx ms mn g rg hq mf cd fg w dd bm rr kt := by
  by_cases hs : g 2 = 0
  · by_cases hv : 0 ≤ rv rg w 21
    · refine pfx_mk H (-1) (fun L O => (bu g 1 0 (g 1 + zz_shl w.toInt16.toInt32 2), rg, hq, mf, cd, fg, L, O)) (fun dd l1 l2 => (bd dd 1 0 (g 1 + zz_shl w.toInt16.toInt32 2), l1, l2, bm, rr, kt)) (fun L O P hP => ?_) (fun dd l1 l2 H L O => ⟨oc_br (Or.inr rfl) H.rel H.e5, fun Q hQ => ?_⟩) (fun _ _ _ _ => rfl) (fun _ _ _ _ _ hs => ⟨by repeat first | exact hs | apply lo_upd, rfl, rfl, rfl⟩) (by first | exact Or.inr (fun _ _ => rfl) | exact Or.inl (by unfold q_e; decide)) (fun _ _ _ => rfl)
      · unfold wp_Pr_perform
        refine pr_op ?_
        rw [ho]
        repeat first | refine bq_t (by decide) ?_ | refine bq_f (by decide) ?_
        unfold wp_Pr_regimm
        refine pr_rt ?_
        rw [hr]
        repeat first | refine bq_t (by decide) ?_ | refine bq_f (by decide) ?_
        unfold wp_Pr_branchOnSign
        refine pr_rt ?_
        rw [hr]
        repeat first | refine bq_t (by decide) ?_ | refine bq_f (by decide) ?_
        refine bq_t hs (pr_rs ⟨fI_in w 21, fun x ex => ?_⟩)
        subst ex
        refine bq_t hv ?_
        refine pr_rt ?_
        rw [hr]
        repeat first | refine bq_t (by decide) ?_ | refine bq_f (by decide) ?_
        refine pr_rt ?_
        rw [hr]
        exact bq_t (by decide) (pr_branch hP)
      · unfold wp_Md_operate
        rw [ho]
        repeat first | refine bq_t (by decide) ?_ | refine bq_f (by decide) ?_
        refine md_field H.e9 ?_
        rw [hr]
        repeat first | refine bq_t (by decide) ?_ | refine bq_f (by decide) ?_
        have h6 : dd 6 = 0 := by rw [H.rel.2.2.2.2.2.2.1.2.2.2.1]; exact hs
        have e31 : dd 3 + 4 = g 1 := by rw [H.rel.2.2.2.2.2.2.1.1, H.nxt hs]
        have hv2 : ¬ rv rg w 21 < 0 := by exact Int32.not_lt.mpr hv
        refine md_rs H.e9 H.rel (bq_f hv2 ?_)
        refine md_near H.e9 e31 ?_
        repeat first | refine bq_t (by decide) ?_ | refine bq_f (by decide) ?_
        exact md_jumps h6 (Or.inr rfl) (bq_t rfl hQ)
    · refine pfx_mk H (-1) (fun L O => (bu g 0 0 (g 1 + zz_shl w.toInt16.toInt32 2), rg, hq, mf, cd, fg, L, O)) (fun dd l1 l2 => (bd dd 0 0 (g 1 + zz_shl w.toInt16.toInt32 2), l1, l2, bm, rr, kt)) (fun L O P hP => ?_) (fun dd l1 l2 H L O => ⟨oc_br (Or.inl rfl) H.rel H.e5, fun Q hQ => ?_⟩) (fun _ _ _ _ => rfl) (fun _ _ _ _ _ hs => ⟨by repeat first | exact hs | apply lo_upd, rfl, rfl, rfl⟩) (by first | exact Or.inr (fun _ _ => rfl) | exact Or.inl (by unfold q_e; decide)) (fun _ _ _ => rfl)
      · unfold wp_Pr_perform
        refine pr_op ?_
        rw [ho]
        repeat first | refine bq_t (by decide) ?_ | refine bq_f (by decide) ?_
        unfold wp_Pr_regimm
        refine pr_rt ?_
        rw [hr]
        repeat first | refine bq_t (by decide) ?_ | refine bq_f (by decide) ?_
        unfold wp_Pr_branchOnSign
        refine pr_rt ?_
        rw [hr]
        repeat first | refine bq_t (by decide) ?_ | refine bq_f (by decide) ?_
        refine bq_t hs (pr_rs ⟨fI_in w 21, fun x ex => ?_⟩)
        subst ex
        refine bq_f hv ?_
        refine pr_rt ?_
        rw [hr]
        repeat first | refine bq_t (by decide) ?_ | refine bq_f (by decide) ?_
        refine pr_rt ?_
        rw [hr]
        exact bq_t (by decide) (pr_branch hP)
      · unfold wp_Md_operate
        rw [ho]
        repeat first | refine bq_t (by decide) ?_ | refine bq_f (by decide) ?_
        refine md_field H.e9 ?_
        rw [hr]
        repeat first | refine bq_t (by decide) ?_ | refine bq_f (by decide) ?_
        have h6 : dd 6 = 0 := by rw [H.rel.2.2.2.2.2.2.1.2.2.2.1]; exact hs
        have e31 : dd 3 + 4 = g 1 := by rw [H.rel.2.2.2.2.2.2.1.1, H.nxt hs]
        have hv2 : rv rg w 21 < 0 := by exact Int32.not_le.mp hv
        refine md_rs H.e9 H.rel (bq_t hv2 ?_)
        refine md_near H.e9 e31 ?_
        repeat first | refine bq_t (by decide) ?_ | refine bq_f (by decide) ?_
        exact md_jumps h6 (Or.inl rfl) (bq_t rfl hQ)
  · refine pfx_mk H 8 (fun L O => (g, rg, hq, mf, cd, fg, L, O)) (fun dd l1 l2 => (upd dd 5 8, l1, l2, bm, rr, kt)) (fun L O P hP => ?_) (fun dd l1 l2 H L O => ⟨oc_end (by unfold q_e; simp) H.rel H.nxt rfl (fun j _ h => pk_un h), fun Q hQ => ?_⟩) (fun _ _ _ _ => rfl) (fun _ _ _ _ _ hs => ⟨by repeat first | exact hs | apply lo_upd, rfl, rfl, rfl⟩) (by first | exact Or.inr (fun _ _ => rfl) | exact Or.inl (by unfold q_e; decide)) (fun _ _ _ => rfl)
    · unfold wp_Pr_perform
      refine pr_op ?_
      rw [ho]
      repeat first | refine bq_t (by decide) ?_ | refine bq_f (by decide) ?_
      unfold wp_Pr_regimm
      refine pr_rt ?_
      rw [hr]
      repeat first | refine bq_t (by decide) ?_ | refine bq_f (by decide) ?_
      unfold wp_Pr_branchOnSign
      refine pr_rt ?_
      rw [hr]
      repeat first | refine bq_t (by decide) ?_ | refine bq_f (by decide) ?_
      exact bq_f hs hP
    · unfold wp_Md_operate
      rw [ho]
      repeat first | refine bq_t (by decide) ?_ | refine bq_f (by decide) ?_
      refine md_field H.e9 ?_
      rw [hr]
      repeat first | refine bq_t (by decide) ?_ | refine bq_f (by decide) ?_
      have h6 : ¬ dd 6 = 0 := by rw [H.rel.2.2.2.2.2.2.1.2.2.2.1]; exact hs
      have any : ∀ z y lk, wj_Md_immediate_98 ms 1 Q 0 z y lk dd l1 l2 bm rr kt := fun z y lk => md_jumps_s h6 H.e5 (bq_t rfl hQ)
      have any2 : ∀ z, wj_Md_immediate_82 ms 1 Q 0 z dd l1 l2 bm rr kt := fun z => by
        unfold wj_Md_immediate_82 wp_Md_near
        exact md_offset H.e9 (fun x ex => ⟨fun _ => any _ _ _, fun _ => any _ _ _⟩)
      exact md_rs H.e9 H.rel ⟨fun _ => any2 _, fun _ => any2 _⟩

theorem i_r2 (H : pre mn g rg hq mf cd fg w dd bm rr kt) (ho : zz_ushr w 26 = 1) (hr : fI w 16 = 2) : pfx ms mn g rg hq mf cd fg w dd bm rr kt := by
  by_cases hs : g 2 = 0
  · by_cases hv : 0 ≤ rv rg w 21
    · refine pfx_mk H (-1) (fun L O => (bu g 0 1 (g 1 + zz_shl w.toInt16.toInt32 2), rg, hq, mf, cd, fg, L, O)) (fun dd l1 l2 => (bd dd 0 1 (g 1 + zz_shl w.toInt16.toInt32 2), l1, l2, bm, rr, kt)) (fun L O P hP => ?_) (fun dd l1 l2 H L O => ⟨oc_br (Or.inl rfl) H.rel H.e5, fun Q hQ => ?_⟩) (fun _ _ _ _ => rfl) (fun _ _ _ _ _ hs => ⟨by repeat first | exact hs | apply lo_upd, rfl, rfl, rfl⟩) (by first | exact Or.inr (fun _ _ => rfl) | exact Or.inl (by unfold q_e; decide)) (fun _ _ _ => rfl)
      · unfold wp_Pr_perform
        refine pr_op ?_
        rw [ho]
        repeat first | refine bq_t (by decide) ?_ | refine bq_f (by decide) ?_
        unfold wp_Pr_regimm
        refine pr_rt ?_
        rw [hr]
        repeat first | refine bq_t (by decide) ?_ | refine bq_f (by decide) ?_
        unfold wp_Pr_branchOnSign
        refine pr_rt ?_
        rw [hr]
        repeat first | refine bq_t (by decide) ?_ | refine bq_f (by decide) ?_
        refine bq_t hs (pr_rs ⟨fI_in w 21, fun x ex => ?_⟩)
        subst ex
        refine bq_t hv ?_
        refine pr_rt ?_
        rw [hr]
        repeat first | refine bq_t (by decide) ?_ | refine bq_f (by decide) ?_
        refine pr_rt ?_
        rw [hr]
        exact bq_f (by decide) (pr_branch hP)
      · unfold wp_Md_operate
        rw [ho]
        repeat first | refine bq_t (by decide) ?_ | refine bq_f (by decide) ?_
        refine md_field H.e9 ?_
        rw [hr]
        repeat first | refine bq_t (by decide) ?_ | refine bq_f (by decide) ?_
        have h6 : dd 6 = 0 := by rw [H.rel.2.2.2.2.2.2.1.2.2.2.1]; exact hs
        have e31 : dd 3 + 4 = g 1 := by rw [H.rel.2.2.2.2.2.2.1.1, H.nxt hs]
        refine md_rs H.e9 H.rel (bq_t hv ?_)
        refine md_near H.e9 e31 ?_
        repeat first | refine bq_t (by decide) ?_ | refine bq_f (by decide) ?_
        exact md_jumps h6 (Or.inl rfl) (bq_t rfl hQ)
    · refine pfx_mk H (-1) (fun L O => (bu g 1 1 (g 1 + zz_shl w.toInt16.toInt32 2), rg, hq, mf, cd, fg, L, O)) (fun dd l1 l2 => (bd dd 1 1 (g 1 + zz_shl w.toInt16.toInt32 2), l1, l2, bm, rr, kt)) (fun L O P hP => ?_) (fun dd l1 l2 H L O => ⟨oc_br (Or.inr rfl) H.rel H.e5, fun Q hQ => ?_⟩) (fun _ _ _ _ => rfl) (fun _ _ _ _ _ hs => ⟨by repeat first | exact hs | apply lo_upd, rfl, rfl, rfl⟩) (by first | exact Or.inr (fun _ _ => rfl) | exact Or.inl (by unfold q_e; decide)) (fun _ _ _ => rfl)
      · unfold wp_Pr_perform
        refine pr_op ?_
        rw [ho]
        repeat first | refine bq_t (by decide) ?_ | refine bq_f (by decide) ?_
        unfold wp_Pr_regimm
        refine pr_rt ?_
        rw [hr]
        repeat first | refine bq_t (by decide) ?_ | refine bq_f (by decide) ?_
        unfold wp_Pr_branchOnSign
        refine pr_rt ?_
        rw [hr]
        repeat first | refine bq_t (by decide) ?_ | refine bq_f (by decide) ?_
        refine bq_t hs (pr_rs ⟨fI_in w 21, fun x ex => ?_⟩)
        subst ex
        refine bq_f hv ?_
        refine pr_rt ?_
        rw [hr]
        repeat first | refine bq_t (by decide) ?_ | refine bq_f (by decide) ?_
        refine pr_rt ?_
        rw [hr]
        exact bq_f (by decide) (pr_branch hP)
      · unfold wp_Md_operate
        rw [ho]
        repeat first | refine bq_t (by decide) ?_ | refine bq_f (by decide) ?_
        refine md_field H.e9 ?_
        rw [hr]
        repeat first | refine bq_t (by decide) ?_ | refine bq_f (by decide) ?_
        have h6 : dd 6 = 0 := by rw [H.rel.2.2.2.2.2.2.1.2.2.2.1]; exact hs
        have e31 : dd 3 + 4 = g 1 := by rw [H.rel.2.2.2.2.2.2.1.1, H.nxt hs]
        refine md_rs H.e9 H.rel (bq_f hv ?_)
        refine md_near H.e9 e31 ?_
        repeat first | refine bq_t (by decide) ?_ | refine bq_f (by decide) ?_
        exact md_jumps h6 (Or.inr rfl) (bq_t rfl hQ)
  · refine pfx_mk H 8 (fun L O => (g, rg, hq, mf, cd, fg, L, O)) (fun dd l1 l2 => (upd dd 5 8, l1, l2, bm, rr, kt)) (fun L O P hP => ?_) (fun dd l1 l2 H L O => ⟨oc_end (by unfold q_e; simp) H.rel H.nxt rfl (fun j _ h => pk_un h), fun Q hQ => ?_⟩) (fun _ _ _ _ => rfl) (fun _ _ _ _ _ hs => ⟨by repeat first | exact hs | apply lo_upd, rfl, rfl, rfl⟩) (by first | exact Or.inr (fun _ _ => rfl) | exact Or.inl (by unfold q_e; decide)) (fun _ _ _ => rfl)
    · unfold wp_Pr_perform
      refine pr_op ?_
      rw [ho]
      repeat first | refine bq_t (by decide) ?_ | refine bq_f (by decide) ?_
      unfold wp_Pr_regimm
      refine pr_rt ?_
      rw [hr]
      repeat first | refine bq_t (by decide) ?_ | refine bq_f (by decide) ?_
      unfold wp_Pr_branchOnSign
      refine pr_rt ?_
      rw [hr]
      repeat first | refine bq_t (by decide) ?_ | refine bq_f (by decide) ?_
      exact bq_f hs hP
    · unfold wp_Md_operate
      rw [ho]
      repeat first | refine bq_t (by decide) ?_ | refine bq_f (by decide) ?_
      refine md_field H.e9 ?_
      rw [hr]
      repeat first | refine bq_t (by decide) ?_ | refine bq_f (by decide) ?_
      have h6 : ¬ dd 6 = 0 := by rw [H.rel.2.2.2.2.2.2.1.2.2.2.1]; exact hs
      have any : ∀ z y lk, wj_Md_immediate_98 ms 2 Q 0 z y lk dd l1 l2 bm rr kt := fun z y lk => md_jumps_s h6 H.e5 (bq_t rfl hQ)
      have any2 : ∀ z, wj_Md_immediate_82 ms 2 Q 0 z dd l1 l2 bm rr kt := fun z => by
        unfold wj_Md_immediate_82 wp_Md_near
        exact md_offset H.e9 (fun x ex => ⟨fun _ => any _ _ _, fun _ => any _ _ _⟩)
      exact md_rs H.e9 H.rel ⟨fun _ => any2 _, fun _ => any2 _⟩

theorem i_r3 (H : pre mn g rg hq mf cd fg w dd bm rr kt) (ho : zz_ushr w 26 = 1) (hr : fI w 16 = 3) : pfx ms mn g rg hq mf cd fg w dd bm rr kt := by
  by_cases hs : g 2 = 0
  · by_cases hv : 0 ≤ rv rg w 21
    · refine pfx_mk H (-1) (fun L O => (bu g 1 1 (g 1 + zz_shl w.toInt16.toInt32 2), rg, hq, mf, cd, fg, L, O)) (fun dd l1 l2 => (bd dd 1 1 (g 1 + zz_shl w.toInt16.toInt32 2), l1, l2, bm, rr, kt)) (fun L O P hP => ?_) (fun dd l1 l2 H L O => ⟨oc_br (Or.inr rfl) H.rel H.e5, fun Q hQ => ?_⟩) (fun _ _ _ _ => rfl) (fun _ _ _ _ _ hs => ⟨by repeat first | exact hs | apply lo_upd, rfl, rfl, rfl⟩) (by first | exact Or.inr (fun _ _ => rfl) | exact Or.inl (by unfold q_e; decide)) (fun _ _ _ => rfl)
      · unfold wp_Pr_perform
        refine pr_op ?_
        rw [ho]
        repeat first | refine bq_t (by decide) ?_ | refine bq_f (by decide) ?_
        unfold wp_Pr_regimm
        refine pr_rt ?_
        rw [hr]
        repeat first | refine bq_t (by decide) ?_ | refine bq_f (by decide) ?_
        unfold wp_Pr_branchOnSign
        refine pr_rt ?_
        rw [hr]
        repeat first | refine bq_t (by decide) ?_ | refine bq_f (by decide) ?_
        refine bq_t hs (pr_rs ⟨fI_in w 21, fun x ex => ?_⟩)
        subst ex
        refine bq_t hv ?_
        refine pr_rt ?_
        rw [hr]
        repeat first | refine bq_t (by decide) ?_ | refine bq_f (by decide) ?_
        refine pr_rt ?_
        rw [hr]
        exact bq_f (by decide) (pr_branch hP)
      · unfold wp_Md_operate
        rw [ho]
        repeat first | refine bq_t (by decide) ?_ | refine bq_f (by decide) ?_
        refine md_field H.e9 ?_
        rw [hr]
        repeat first | refine bq_t (by decide) ?_ | refine bq_f (by decide) ?_
        have h6 : dd 6 = 0 := by rw [H.rel.2.2.2.2.2.2.1.2.2.2.1]; exact hs
        have e31 : dd 3 + 4 = g 1 := by rw [H.rel.2.2.2.2.2.2.1.1, H.nxt hs]
        have hv2 : ¬ rv rg w 21 < 0 := by exact Int32.not_lt.mpr hv
        refine md_rs H.e9 H.rel (bq_f hv2 ?_)
        refine md_near H.e9 e31 ?_
        repeat first | refine bq_t (by decide) ?_ | refine bq_f (by decide) ?_
        exact md_jumps h6 (Or.inr rfl) (bq_t rfl hQ)
    · refine pfx_mk H (-1) (fun L O => (bu g 0 1 (g 1 + zz_shl w.toInt16.toInt32 2), rg, hq, mf, cd, fg, L, O)) (fun dd l1 l2 => (bd dd 0 1 (g 1 + zz_shl w.toInt16.toInt32 2), l1, l2, bm, rr, kt)) (fun L O P hP => ?_) (fun dd l1 l2 H L O => ⟨oc_br (Or.inl rfl) H.rel H.e5, fun Q hQ => ?_⟩) (fun _ _ _ _ => rfl) (fun _ _ _ _ _ hs => ⟨by repeat first | exact hs | apply lo_upd, rfl, rfl, rfl⟩) (by first | exact Or.inr (fun _ _ => rfl) | exact Or.inl (by unfold q_e; decide)) (fun _ _ _ => rfl)
      · unfold wp_Pr_perform
        refine pr_op ?_
        rw [ho]
        repeat first | refine bq_t (by decide) ?_ | refine bq_f (by decide) ?_
        unfold wp_Pr_regimm
        refine pr_rt ?_
        rw [hr]
        repeat first | refine bq_t (by decide) ?_ | refine bq_f (by decide) ?_
        unfold wp_Pr_branchOnSign
        refine pr_rt ?_
        rw [hr]
        repeat first | refine bq_t (by decide) ?_ | refine bq_f (by decide) ?_
        refine bq_t hs (pr_rs ⟨fI_in w 21, fun x ex => ?_⟩)
        subst ex
        refine bq_f hv ?_
        refine pr_rt ?_
        rw [hr]
        repeat first | refine bq_t (by decide) ?_ | refine bq_f (by decide) ?_
        refine pr_rt ?_
        rw [hr]
        exact bq_f (by decide) (pr_branch hP)
      · unfold wp_Md_operate
        rw [ho]
        repeat first | refine bq_t (by decide) ?_ | refine bq_f (by decide) ?_
        refine md_field H.e9 ?_
        rw [hr]
        repeat first | refine bq_t (by decide) ?_ | refine bq_f (by decide) ?_
        have h6 : dd 6 = 0 := by rw [H.rel.2.2.2.2.2.2.1.2.2.2.1]; exact hs
        have e31 : dd 3 + 4 = g 1 := by rw [H.rel.2.2.2.2.2.2.1.1, H.nxt hs]
        have hv2 : rv rg w 21 < 0 := by exact Int32.not_le.mp hv
        refine md_rs H.e9 H.rel (bq_t hv2 ?_)
        refine md_near H.e9 e31 ?_
        repeat first | refine bq_t (by decide) ?_ | refine bq_f (by decide) ?_
        exact md_jumps h6 (Or.inl rfl) (bq_t rfl hQ)
  · refine pfx_mk H 8 (fun L O => (g, rg, hq, mf, cd, fg, L, O)) (fun dd l1 l2 => (upd dd 5 8, l1, l2, bm, rr, kt)) (fun L O P hP => ?_) (fun dd l1 l2 H L O => ⟨oc_end (by unfold q_e; simp) H.rel H.nxt rfl (fun j _ h => pk_un h), fun Q hQ => ?_⟩) (fun _ _ _ _ => rfl) (fun _ _ _ _ _ hs => ⟨by repeat first | exact hs | apply lo_upd, rfl, rfl, rfl⟩) (by first | exact Or.inr (fun _ _ => rfl) | exact Or.inl (by unfold q_e; decide)) (fun _ _ _ => rfl)
    · unfold wp_Pr_perform
      refine pr_op ?_
      rw [ho]
      repeat first | refine bq_t (by decide) ?_ | refine bq_f (by decide) ?_
      unfold wp_Pr_regimm
      refine pr_rt ?_
      rw [hr]
      repeat first | refine bq_t (by decide) ?_ | refine bq_f (by decide) ?_
      unfold wp_Pr_branchOnSign
      refine pr_rt ?_
      rw [hr]
      repeat first | refine bq_t (by decide) ?_ | refine bq_f (by decide) ?_
      exact bq_f hs hP
    · unfold wp_Md_operate
      rw [ho]
      repeat first | refine bq_t (by decide) ?_ | refine bq_f (by decide) ?_
      refine md_field H.e9 ?_
      rw [hr]
      repeat first | refine bq_t (by decide) ?_ | refine bq_f (by decide) ?_
      have h6 : ¬ dd 6 = 0 := by rw [H.rel.2.2.2.2.2.2.1.2.2.2.1]; exact hs
      have any : ∀ z y lk, wj_Md_immediate_98 ms 3 Q 0 z y lk dd l1 l2 bm rr kt := fun z y lk => md_jumps_s h6 H.e5 (bq_t rfl hQ)
      have any2 : ∀ z, wj_Md_immediate_82 ms 3 Q 0 z dd l1 l2 bm rr kt := fun z => by
        unfold wj_Md_immediate_82 wp_Md_near
        exact md_offset H.e9 (fun x ex => ⟨fun _ => any _ _ _, fun _ => any _ _ _⟩)
      exact md_rs H.e9 H.rel ⟨fun _ => any2 _, fun _ => any2 _⟩

theorem i_r16 (H : pre mn g rg hq mf cd fg w dd bm rr kt) (ho : zz_ushr w 26 = 1) (hr : fI w 16 = 16) : pfx ms mn g rg hq mf cd fg w dd bm rr kt := by
  by_cases hs : g 2 = 0
  · by_cases hx : fI w 21 = 31
    · by_cases hv : 0 ≤ rv rg w 21
      · refine pfx_mk H 8 (fun L O => (g, rg, hq, mf, cd, fg, L, O)) (fun dd l1 l2 => (bd (upd dd 5 8) 0 0 (g 1 + zz_shl w.toInt16.toInt32 2), l1, l2, bm, rr, kt)) (fun L O P hP => ?_) (fun dd l1 l2 H L O => ⟨oc_end (by unfold q_e; simp) H.rel H.nxt rfl (fun j hj h => by unfold bd; rw [pk_un (by omega), pk_un (by omega), pk_un (by omega), pk_un (by omega), pk_un h]), fun Q hQ => ?_⟩) (fun _ _ _ _ => rfl) (fun _ _ _ _ _ hs => ⟨by repeat first | exact hs | apply lo_upd, rfl, rfl, rfl⟩) (by first | exact Or.inr (fun _ _ => rfl) | exact Or.inl (by unfold q_e; decide)) (fun _ _ _ => rfl)
        · unfold wp_Pr_perform
          refine pr_op ?_
          rw [ho]
          repeat first | refine bq_t (by decide) ?_ | refine bq_f (by decide) ?_
          unfold wp_Pr_regimm
          refine pr_rt ?_
          rw [hr]
          repeat first | refine bq_t (by decide) ?_ | refine bq_f (by decide) ?_
          unfold wp_Pr_branchOnSign
          refine pr_rt ?_
          rw [hr]
          repeat first | refine bq_t (by decide) ?_ | refine bq_f (by decide) ?_
          refine bq_t hs (pr_rs ?_)
          exact bq_t hx hP
        · unfold wp_Md_operate
          rw [ho]
          repeat first | refine bq_t (by decide) ?_ | refine bq_f (by decide) ?_
          refine md_field H.e9 ?_
          rw [hr]
          repeat first | refine bq_t (by decide) ?_ | refine bq_f (by decide) ?_
          have h6 : dd 6 = 0 := by rw [H.rel.2.2.2.2.2.2.1.2.2.2.1]; exact hs
          have e31 : dd 3 + 4 = g 1 := by rw [H.rel.2.2.2.2.2.2.1.1, H.nxt hs]
          refine md_field H.e9 (bq_t hx (md_ends H.e5 ?_))
          repeat first | refine bq_t (by decide) ?_ | refine bq_f (by decide) ?_
          refine md_rs1 (w := w) H.e9 H.rel.1 (bq_t hv ?_)
          refine md_near (w := w) (g := g) H.e9 e31 ?_
          repeat first | refine bq_t (by decide) ?_ | refine bq_f (by decide) ?_
          exact md_jumps h6 (Or.inl rfl) (bq_f (by decide) (bq_f (show ¬ (8 : Int32) = 0 by decide) hQ))
      · refine pfx_mk H 8 (fun L O => (g, rg, hq, mf, cd, fg, L, O)) (fun dd l1 l2 => (bd (upd dd 5 8) 1 0 (g 1 + zz_shl w.toInt16.toInt32 2), l1, l2, bm, rr, kt)) (fun L O P hP => ?_) (fun dd l1 l2 H L O => ⟨oc_end (by unfold q_e; simp) H.rel H.nxt rfl (fun j hj h => by unfold bd; rw [pk_un (by omega), pk_un (by omega), pk_un (by omega), pk_un (by omega), pk_un h]), fun Q hQ => ?_⟩) (fun _ _ _ _ => rfl) (fun _ _ _ _ _ hs => ⟨by repeat first | exact hs | apply lo_upd, rfl, rfl, rfl⟩) (by first | exact Or.inr (fun _ _ => rfl) | exact Or.inl (by unfold q_e; decide)) (fun _ _ _ => rfl)
        · unfold wp_Pr_perform
          refine pr_op ?_
          rw [ho]
          repeat first | refine bq_t (by decide) ?_ | refine bq_f (by decide) ?_
          unfold wp_Pr_regimm
          refine pr_rt ?_
          rw [hr]
          repeat first | refine bq_t (by decide) ?_ | refine bq_f (by decide) ?_
          unfold wp_Pr_branchOnSign
          refine pr_rt ?_
          rw [hr]
          repeat first | refine bq_t (by decide) ?_ | refine bq_f (by decide) ?_
          refine bq_t hs (pr_rs ?_)
          exact bq_t hx hP
        · unfold wp_Md_operate
          rw [ho]
          repeat first | refine bq_t (by decide) ?_ | refine bq_f (by decide) ?_
          refine md_field H.e9 ?_
          rw [hr]
          repeat first | refine bq_t (by decide) ?_ | refine bq_f (by decide) ?_
          have h6 : dd 6 = 0 := by rw [H.rel.2.2.2.2.2.2.1.2.2.2.1]; exact hs
          have e31 : dd 3 + 4 = g 1 := by rw [H.rel.2.2.2.2.2.2.1.1, H.nxt hs]
          refine md_field H.e9 (bq_t hx (md_ends H.e5 ?_))
          repeat first | refine bq_t (by decide) ?_ | refine bq_f (by decide) ?_
          refine md_rs1 (w := w) H.e9 H.rel.1 (bq_f hv ?_)
          refine md_near (w := w) (g := g) H.e9 e31 ?_
          repeat first | refine bq_t (by decide) ?_ | refine bq_f (by decide) ?_
          exact md_jumps h6 (Or.inr rfl) (bq_f (by decide) (bq_f (show ¬ (8 : Int32) = 0 by decide) hQ))
    · by_cases hv : 0 ≤ rv rg w 21
      · refine pfx_mk H (-1) (fun L O => (bu g 0 0 (g 1 + zz_shl w.toInt16.toInt32 2), upd rg 31 (g 0 + 8), hq, mf, cd, fg, L, O)) (fun dd l1 l2 => (bd dd 0 0 (g 1 + zz_shl w.toInt16.toInt32 2), l1, l2, bm, upd rr 31 (g 0 + 8), kt)) (fun L O P hP => ?_) (fun dd l1 l2 H L O => ⟨oc_br (Or.inl rfl) (q_u31 H.rel) H.e5, fun Q hQ => ?_⟩) (fun _ _ _ _ => rfl) (fun _ _ _ _ _ hs => ⟨by repeat first | exact hs | apply lo_upd, rfl, rfl, rfl⟩) (by first | exact Or.inr (fun _ _ => rfl) | exact Or.inl (by unfold q_e; decide)) (fun _ _ _ => rfl)
        · unfold wp_Pr_perform
          refine pr_op ?_
          rw [ho]
          repeat first | refine bq_t (by decide) ?_ | refine bq_f (by decide) ?_
          unfold wp_Pr_regimm
          refine pr_rt ?_
          rw [hr]
          repeat first | refine bq_t (by decide) ?_ | refine bq_f (by decide) ?_
          unfold wp_Pr_branchOnSign
          refine pr_rt ?_
          rw [hr]
          repeat first | refine bq_t (by decide) ?_ | refine bq_f (by decide) ?_
          refine bq_t hs (pr_rs ?_)
          refine bq_f hx (pr_rs ⟨fI_in w 21, fun x ex => ?_⟩)
          subst ex
          refine bq_t hv ?_
          unfold wp_Pr_write
          refine bq_f (by decide) ⟨by unfold vp_in; decide, ?_⟩
          rw [show ((31 : Int32) &&& 31).toNatClampNeg = 31 by decide]
          refine pr_rt ?_
          rw [hr]
          repeat first | refine bq_t (by decide) ?_ | refine bq_f (by decide) ?_
          refine pr_rt ?_
          rw [hr]
          exact bq_t (by decide) (pr_branch hP)
        · unfold wp_Md_operate
          rw [ho]
          repeat first | refine bq_t (by decide) ?_ | refine bq_f (by decide) ?_
          refine md_field H.e9 ?_
          rw [hr]
          repeat first | refine bq_t (by decide) ?_ | refine bq_f (by decide) ?_
          have h6 : dd 6 = 0 := by rw [H.rel.2.2.2.2.2.2.1.2.2.2.1]; exact hs
          have e31 : dd 3 + 4 = g 1 := by rw [H.rel.2.2.2.2.2.2.1.1, H.nxt hs]
          refine md_field H.e9 (bq_f hx ?_)
          repeat first | refine bq_t (by decide) ?_ | refine bq_f (by decide) ?_
          refine md_rs H.e9 H.rel (bq_t hv ?_)
          refine md_near H.e9 e31 ?_
          repeat first | refine bq_t (by decide) ?_ | refine bq_f (by decide) ?_
          refine md_jumps h6 (Or.inl rfl) (bq_f (by decide) (bq_t H.e5 ?_))
          unfold wp_Md_into
          refine bq_f (by decide) (bq_t H.e5 ⟨by unfold vp_in; decide, ?_⟩)
          rw [show (31 : Int32).toNatClampNeg = 31 by decide]
          have e3 : bd dd 0 0 (g 1 + zz_shl w.toInt16.toInt32 2) 3 = g 0 := H.rel.2.2.2.2.2.2.1.1
          dsimp only
          rw [e3]; exact hQ
      · refine pfx_mk H (-1) (fun L O => (bu g 1 0 (g 1 + zz_shl w.toInt16.toInt32 2), upd rg 31 (g 0 + 8), hq, mf, cd, fg, L, O)) (fun dd l1 l2 => (bd dd 1 0 (g 1 + zz_shl w.toInt16.toInt32 2), l1, l2, bm, upd rr 31 (g 0 + 8), kt)) (fun L O P hP => ?_) (fun dd l1 l2 H L O => ⟨oc_br (Or.inr rfl) (q_u31 H.rel) H.e5, fun Q hQ => ?_⟩) (fun _ _ _ _ => rfl) (fun _ _ _ _ _ hs => ⟨by repeat first | exact hs | apply lo_upd, rfl, rfl, rfl⟩) (by first | exact Or.inr (fun _ _ => rfl) | exact Or.inl (by unfold q_e; decide)) (fun _ _ _ => rfl)
        · unfold wp_Pr_perform
          refine pr_op ?_
          rw [ho]
          repeat first | refine bq_t (by decide) ?_ | refine bq_f (by decide) ?_
          unfold wp_Pr_regimm
          refine pr_rt ?_
          rw [hr]
          repeat first | refine bq_t (by decide) ?_ | refine bq_f (by decide) ?_
          unfold wp_Pr_branchOnSign
          refine pr_rt ?_
          rw [hr]
          repeat first | refine bq_t (by decide) ?_ | refine bq_f (by decide) ?_
          refine bq_t hs (pr_rs ?_)
          refine bq_f hx (pr_rs ⟨fI_in w 21, fun x ex => ?_⟩)
          subst ex
          refine bq_f hv ?_
          unfold wp_Pr_write
          refine bq_f (by decide) ⟨by unfold vp_in; decide, ?_⟩
          rw [show ((31 : Int32) &&& 31).toNatClampNeg = 31 by decide]
          refine pr_rt ?_
          rw [hr]
          repeat first | refine bq_t (by decide) ?_ | refine bq_f (by decide) ?_
          refine pr_rt ?_
          rw [hr]
          exact bq_t (by decide) (pr_branch hP)
        · unfold wp_Md_operate
          rw [ho]
          repeat first | refine bq_t (by decide) ?_ | refine bq_f (by decide) ?_
          refine md_field H.e9 ?_
          rw [hr]
          repeat first | refine bq_t (by decide) ?_ | refine bq_f (by decide) ?_
          have h6 : dd 6 = 0 := by rw [H.rel.2.2.2.2.2.2.1.2.2.2.1]; exact hs
          have e31 : dd 3 + 4 = g 1 := by rw [H.rel.2.2.2.2.2.2.1.1, H.nxt hs]
          refine md_field H.e9 (bq_f hx ?_)
          repeat first | refine bq_t (by decide) ?_ | refine bq_f (by decide) ?_
          refine md_rs H.e9 H.rel (bq_f hv ?_)
          refine md_near H.e9 e31 ?_
          repeat first | refine bq_t (by decide) ?_ | refine bq_f (by decide) ?_
          refine md_jumps h6 (Or.inr rfl) (bq_f (by decide) (bq_t H.e5 ?_))
          unfold wp_Md_into
          refine bq_f (by decide) (bq_t H.e5 ⟨by unfold vp_in; decide, ?_⟩)
          rw [show (31 : Int32).toNatClampNeg = 31 by decide]
          have e3 : bd dd 1 0 (g 1 + zz_shl w.toInt16.toInt32 2) 3 = g 0 := H.rel.2.2.2.2.2.2.1.1
          dsimp only
          rw [e3]; exact hQ
  · refine pfx_mk H 8 (fun L O => (g, rg, hq, mf, cd, fg, L, O)) (fun dd l1 l2 => (upd dd 5 8, l1, l2, bm, rr, kt)) (fun L O P hP => ?_) (fun dd l1 l2 H L O => ⟨oc_end (by unfold q_e; simp) H.rel H.nxt rfl (fun j _ h => pk_un h), fun Q hQ => ?_⟩) (fun _ _ _ _ => rfl) (fun _ _ _ _ _ hs => ⟨by repeat first | exact hs | apply lo_upd, rfl, rfl, rfl⟩) (by first | exact Or.inr (fun _ _ => rfl) | exact Or.inl (by unfold q_e; decide)) (fun _ _ _ => rfl)
    · unfold wp_Pr_perform
      refine pr_op ?_
      rw [ho]
      repeat first | refine bq_t (by decide) ?_ | refine bq_f (by decide) ?_
      unfold wp_Pr_regimm
      refine pr_rt ?_
      rw [hr]
      repeat first | refine bq_t (by decide) ?_ | refine bq_f (by decide) ?_
      unfold wp_Pr_branchOnSign
      refine pr_rt ?_
      rw [hr]
      repeat first | refine bq_t (by decide) ?_ | refine bq_f (by decide) ?_
      exact bq_f hs hP
    · unfold wp_Md_operate
      rw [ho]
      repeat first | refine bq_t (by decide) ?_ | refine bq_f (by decide) ?_
      refine md_field H.e9 ?_
      rw [hr]
      repeat first | refine bq_t (by decide) ?_ | refine bq_f (by decide) ?_
      have h6 : ¬ dd 6 = 0 := by rw [H.rel.2.2.2.2.2.2.1.2.2.2.1]; exact hs
      have any : ∀ z y lk, wj_Md_immediate_98 ms 16 Q 1 z y lk dd l1 l2 bm rr kt := fun z y lk => md_jumps_s h6 H.e5 (bq_f (by decide) (bq_f (show ¬ (8 : Int32) = 0 by decide) hQ))
      have any2 : ∀ z, wj_Md_immediate_82 ms 16 Q 1 z dd l1 l2 bm rr kt := fun z => by
        unfold wj_Md_immediate_82 wp_Md_near
        exact md_offset H.e9 (fun x ex => ⟨fun _ => any _ _ _, fun _ => any _ _ _⟩)
      have anyE : ∀ z y lk, wj_Md_immediate_98 ms 16 Q 1 z y lk (upd dd 5 8) l1 l2 bm rr kt := fun z y lk => ⟨fun q => absurd q h6, fun _ => md_ends_n (show ¬ (8 : Int32) = 0 by decide) (bq_f (by decide) (bq_f (show ¬ (8 : Int32) = 0 by decide) hQ))⟩
      have any2E : ∀ z, wj_Md_immediate_82 ms 16 Q 1 z (upd dd 5 8) l1 l2 bm rr kt := fun z => by
        unfold wj_Md_immediate_82 wp_Md_near
        exact md_offset (w := w) H.e9 (fun x ex => ⟨fun _ => anyE _ _ _, fun _ => anyE _ _ _⟩)
      refine md_field H.e9 ⟨fun _ => md_ends H.e5 ?_, fun _ => ?_⟩
      · repeat first | refine bq_t (by decide) ?_ | refine bq_f (by decide) ?_
        exact md_rs1 (w := w) H.e9 H.rel.1 ⟨fun _ => any2E _, fun _ => any2E _⟩
      · repeat first | refine bq_t (by decide) ?_ | refine bq_f (by decide) ?_
        exact md_rs H.e9 H.rel ⟨fun _ => any2 _, fun _ => any2 _⟩

theorem i_r17 (H : pre mn g rg hq mf cd fg w dd bm rr kt) (ho : zz_ushr w 26 = 1) (hr : fI w 16 = 17) : pfx ms mn g rg hq mf cd fg w dd bm rr kt := by
  by_cases hs : g 2 = 0
  · by_cases hx : fI w 21 = 31
    · by_cases hv : 0 ≤ rv rg w 21
      · refine pfx_mk H 8 (fun L O => (g, rg, hq, mf, cd, fg, L, O)) (fun dd l1 l2 => (bd (upd dd 5 8) 1 0 (g 1 + zz_shl w.toInt16.toInt32 2), l1, l2, bm, rr, kt)) (fun L O P hP => ?_) (fun dd l1 l2 H L O => ⟨oc_end (by unfold q_e; simp) H.rel H.nxt rfl (fun j hj h => by unfold bd; rw [pk_un (by omega), pk_un (by omega), pk_un (by omega), pk_un (by omega), pk_un h]), fun Q hQ => ?_⟩) (fun _ _ _ _ => rfl) (fun _ _ _ _ _ hs => ⟨by repeat first | exact hs | apply lo_upd, rfl, rfl, rfl⟩) (by first | exact Or.inr (fun _ _ => rfl) | exact Or.inl (by unfold q_e; decide)) (fun _ _ _ => rfl)
        · unfold wp_Pr_perform
          refine pr_op ?_
          rw [ho]
          repeat first | refine bq_t (by decide) ?_ | refine bq_f (by decide) ?_
          unfold wp_Pr_regimm
          refine pr_rt ?_
          rw [hr]
          repeat first | refine bq_t (by decide) ?_ | refine bq_f (by decide) ?_
          unfold wp_Pr_branchOnSign
          refine pr_rt ?_
          rw [hr]
          repeat first | refine bq_t (by decide) ?_ | refine bq_f (by decide) ?_
          refine bq_t hs (pr_rs ?_)
          exact bq_t hx hP
        · unfold wp_Md_operate
          rw [ho]
          repeat first | refine bq_t (by decide) ?_ | refine bq_f (by decide) ?_
          refine md_field H.e9 ?_
          rw [hr]
          repeat first | refine bq_t (by decide) ?_ | refine bq_f (by decide) ?_
          have h6 : dd 6 = 0 := by rw [H.rel.2.2.2.2.2.2.1.2.2.2.1]; exact hs
          have e31 : dd 3 + 4 = g 1 := by rw [H.rel.2.2.2.2.2.2.1.1, H.nxt hs]
          refine md_field H.e9 (bq_t hx (md_ends H.e5 ?_))
          repeat first | refine bq_t (by decide) ?_ | refine bq_f (by decide) ?_
          have hv2 : ¬ rv rg w 21 < 0 := by exact Int32.not_lt.mpr hv
          refine md_rs1 (w := w) H.e9 H.rel.1 (bq_f hv2 ?_)
          refine md_near (w := w) (g := g) H.e9 e31 ?_
          repeat first | refine bq_t (by decide) ?_ | refine bq_f (by decide) ?_
          exact md_jumps h6 (Or.inr rfl) (bq_f (by decide) (bq_f (show ¬ (8 : Int32) = 0 by decide) hQ))
      · refine pfx_mk H 8 (fun L O => (g, rg, hq, mf, cd, fg, L, O)) (fun dd l1 l2 => (bd (upd dd 5 8) 0 0 (g 1 + zz_shl w.toInt16.toInt32 2), l1, l2, bm, rr, kt)) (fun L O P hP => ?_) (fun dd l1 l2 H L O => ⟨oc_end (by unfold q_e; simp) H.rel H.nxt rfl (fun j hj h => by unfold bd; rw [pk_un (by omega), pk_un (by omega), pk_un (by omega), pk_un (by omega), pk_un h]), fun Q hQ => ?_⟩) (fun _ _ _ _ => rfl) (fun _ _ _ _ _ hs => ⟨by repeat first | exact hs | apply lo_upd, rfl, rfl, rfl⟩) (by first | exact Or.inr (fun _ _ => rfl) | exact Or.inl (by unfold q_e; decide)) (fun _ _ _ => rfl)
        · unfold wp_Pr_perform
          refine pr_op ?_
          rw [ho]
          repeat first | refine bq_t (by decide) ?_ | refine bq_f (by decide) ?_
          unfold wp_Pr_regimm
          refine pr_rt ?_
          rw [hr]
          repeat first | refine bq_t (by decide) ?_ | refine bq_f (by decide) ?_
          unfold wp_Pr_branchOnSign
          refine pr_rt ?_
          rw [hr]
          repeat first | refine bq_t (by decide) ?_ | refine bq_f (by decide) ?_
          refine bq_t hs (pr_rs ?_)
          exact bq_t hx hP
        · unfold wp_Md_operate
          rw [ho]
          repeat first | refine bq_t (by decide) ?_ | refine bq_f (by decide) ?_
          refine md_field H.e9 ?_
          rw [hr]
          repeat first | refine bq_t (by decide) ?_ | refine bq_f (by decide) ?_
          have h6 : dd 6 = 0 := by rw [H.rel.2.2.2.2.2.2.1.2.2.2.1]; exact hs
          have e31 : dd 3 + 4 = g 1 := by rw [H.rel.2.2.2.2.2.2.1.1, H.nxt hs]
          refine md_field H.e9 (bq_t hx (md_ends H.e5 ?_))
          repeat first | refine bq_t (by decide) ?_ | refine bq_f (by decide) ?_
          have hv2 : rv rg w 21 < 0 := by exact Int32.not_le.mp hv
          refine md_rs1 (w := w) H.e9 H.rel.1 (bq_t hv2 ?_)
          refine md_near (w := w) (g := g) H.e9 e31 ?_
          repeat first | refine bq_t (by decide) ?_ | refine bq_f (by decide) ?_
          exact md_jumps h6 (Or.inl rfl) (bq_f (by decide) (bq_f (show ¬ (8 : Int32) = 0 by decide) hQ))
    · by_cases hv : 0 ≤ rv rg w 21
      · refine pfx_mk H (-1) (fun L O => (bu g 1 0 (g 1 + zz_shl w.toInt16.toInt32 2), upd rg 31 (g 0 + 8), hq, mf, cd, fg, L, O)) (fun dd l1 l2 => (bd dd 1 0 (g 1 + zz_shl w.toInt16.toInt32 2), l1, l2, bm, upd rr 31 (g 0 + 8), kt)) (fun L O P hP => ?_) (fun dd l1 l2 H L O => ⟨oc_br (Or.inr rfl) (q_u31 H.rel) H.e5, fun Q hQ => ?_⟩) (fun _ _ _ _ => rfl) (fun _ _ _ _ _ hs => ⟨by repeat first | exact hs | apply lo_upd, rfl, rfl, rfl⟩) (by first | exact Or.inr (fun _ _ => rfl) | exact Or.inl (by unfold q_e; decide)) (fun _ _ _ => rfl)
        · unfold wp_Pr_perform
          refine pr_op ?_
          rw [ho]
          repeat first | refine bq_t (by decide) ?_ | refine bq_f (by decide) ?_
          unfold wp_Pr_regimm
          refine pr_rt ?_
          rw [hr]
          repeat first | refine bq_t (by decide) ?_ | refine bq_f (by decide) ?_
          unfold wp_Pr_branchOnSign
          refine pr_rt ?_
          rw [hr]
          repeat first | refine bq_t (by decide) ?_ | refine bq_f (by decide) ?_
          refine bq_t hs (pr_rs ?_)
          refine bq_f hx (pr_rs ⟨fI_in w 21, fun x ex => ?_⟩)
          subst ex
          refine bq_t hv ?_
          unfold wp_Pr_write
          refine bq_f (by decide) ⟨by unfold vp_in; decide, ?_⟩
          rw [show ((31 : Int32) &&& 31).toNatClampNeg = 31 by decide]
          refine pr_rt ?_
          rw [hr]
          repeat first | refine bq_t (by decide) ?_ | refine bq_f (by decide) ?_
          refine pr_rt ?_
          rw [hr]
          exact bq_t (by decide) (pr_branch hP)
        · unfold wp_Md_operate
          rw [ho]
          repeat first | refine bq_t (by decide) ?_ | refine bq_f (by decide) ?_
          refine md_field H.e9 ?_
          rw [hr]
          repeat first | refine bq_t (by decide) ?_ | refine bq_f (by decide) ?_
          have h6 : dd 6 = 0 := by rw [H.rel.2.2.2.2.2.2.1.2.2.2.1]; exact hs
          have e31 : dd 3 + 4 = g 1 := by rw [H.rel.2.2.2.2.2.2.1.1, H.nxt hs]
          refine md_field H.e9 (bq_f hx ?_)
          repeat first | refine bq_t (by decide) ?_ | refine bq_f (by decide) ?_
          have hv2 : ¬ rv rg w 21 < 0 := by exact Int32.not_lt.mpr hv
          refine md_rs H.e9 H.rel (bq_f hv2 ?_)
          refine md_near H.e9 e31 ?_
          repeat first | refine bq_t (by decide) ?_ | refine bq_f (by decide) ?_
          refine md_jumps h6 (Or.inr rfl) (bq_f (by decide) (bq_t H.e5 ?_))
          unfold wp_Md_into
          refine bq_f (by decide) (bq_t H.e5 ⟨by unfold vp_in; decide, ?_⟩)
          rw [show (31 : Int32).toNatClampNeg = 31 by decide]
          have e3 : bd dd 1 0 (g 1 + zz_shl w.toInt16.toInt32 2) 3 = g 0 := H.rel.2.2.2.2.2.2.1.1
          dsimp only
          rw [e3]; exact hQ
      · refine pfx_mk H (-1) (fun L O => (bu g 0 0 (g 1 + zz_shl w.toInt16.toInt32 2), upd rg 31 (g 0 + 8), hq, mf, cd, fg, L, O)) (fun dd l1 l2 => (bd dd 0 0 (g 1 + zz_shl w.toInt16.toInt32 2), l1, l2, bm, upd rr 31 (g 0 + 8), kt)) (fun L O P hP => ?_) (fun dd l1 l2 H L O => ⟨oc_br (Or.inl rfl) (q_u31 H.rel) H.e5, fun Q hQ => ?_⟩) (fun _ _ _ _ => rfl) (fun _ _ _ _ _ hs => ⟨by repeat first | exact hs | apply lo_upd, rfl, rfl, rfl⟩) (by first | exact Or.inr (fun _ _ => rfl) | exact Or.inl (by unfold q_e; decide)) (fun _ _ _ => rfl)
        · unfold wp_Pr_perform
          refine pr_op ?_
          rw [ho]
          repeat first | refine bq_t (by decide) ?_ | refine bq_f (by decide) ?_
          unfold wp_Pr_regimm
          refine pr_rt ?_
          rw [hr]
          repeat first | refine bq_t (by decide) ?_ | refine bq_f (by decide) ?_
          unfold wp_Pr_branchOnSign
          refine pr_rt ?_
          rw [hr]
          repeat first | refine bq_t (by decide) ?_ | refine bq_f (by decide) ?_
          refine bq_t hs (pr_rs ?_)
          refine bq_f hx (pr_rs ⟨fI_in w 21, fun x ex => ?_⟩)
          subst ex
          refine bq_f hv ?_
          unfold wp_Pr_write
          refine bq_f (by decide) ⟨by unfold vp_in; decide, ?_⟩
          rw [show ((31 : Int32) &&& 31).toNatClampNeg = 31 by decide]
          refine pr_rt ?_
          rw [hr]
          repeat first | refine bq_t (by decide) ?_ | refine bq_f (by decide) ?_
          refine pr_rt ?_
          rw [hr]
          exact bq_t (by decide) (pr_branch hP)
        · unfold wp_Md_operate
          rw [ho]
          repeat first | refine bq_t (by decide) ?_ | refine bq_f (by decide) ?_
          refine md_field H.e9 ?_
          rw [hr]
          repeat first | refine bq_t (by decide) ?_ | refine bq_f (by decide) ?_
          have h6 : dd 6 = 0 := by rw [H.rel.2.2.2.2.2.2.1.2.2.2.1]; exact hs
          have e31 : dd 3 + 4 = g 1 := by rw [H.rel.2.2.2.2.2.2.1.1, H.nxt hs]
          refine md_field H.e9 (bq_f hx ?_)
          repeat first | refine bq_t (by decide) ?_ | refine bq_f (by decide) ?_
          have hv2 : rv rg w 21 < 0 := by exact Int32.not_le.mp hv
          refine md_rs H.e9 H.rel (bq_t hv2 ?_)
          refine md_near H.e9 e31 ?_
          repeat first | refine bq_t (by decide) ?_ | refine bq_f (by decide) ?_
          refine md_jumps h6 (Or.inl rfl) (bq_f (by decide) (bq_t H.e5 ?_))
          unfold wp_Md_into
          refine bq_f (by decide) (bq_t H.e5 ⟨by unfold vp_in; decide, ?_⟩)
          rw [show (31 : Int32).toNatClampNeg = 31 by decide]
          have e3 : bd dd 0 0 (g 1 + zz_shl w.toInt16.toInt32 2) 3 = g 0 := H.rel.2.2.2.2.2.2.1.1
          dsimp only
          rw [e3]; exact hQ
  · refine pfx_mk H 8 (fun L O => (g, rg, hq, mf, cd, fg, L, O)) (fun dd l1 l2 => (upd dd 5 8, l1, l2, bm, rr, kt)) (fun L O P hP => ?_) (fun dd l1 l2 H L O => ⟨oc_end (by unfold q_e; simp) H.rel H.nxt rfl (fun j _ h => pk_un h), fun Q hQ => ?_⟩) (fun _ _ _ _ => rfl) (fun _ _ _ _ _ hs => ⟨by repeat first | exact hs | apply lo_upd, rfl, rfl, rfl⟩) (by first | exact Or.inr (fun _ _ => rfl) | exact Or.inl (by unfold q_e; decide)) (fun _ _ _ => rfl)
    · unfold wp_Pr_perform
      refine pr_op ?_
      rw [ho]
      repeat first | refine bq_t (by decide) ?_ | refine bq_f (by decide) ?_
      unfold wp_Pr_regimm
      refine pr_rt ?_
      rw [hr]
      repeat first | refine bq_t (by decide) ?_ | refine bq_f (by decide) ?_
      unfold wp_Pr_branchOnSign
      refine pr_rt ?_
      rw [hr]
      repeat first | refine bq_t (by decide) ?_ | refine bq_f (by decide) ?_
      exact bq_f hs hP
    · unfold wp_Md_operate
      rw [ho]
      repeat first | refine bq_t (by decide) ?_ | refine bq_f (by decide) ?_
      refine md_field H.e9 ?_
      rw [hr]
      repeat first | refine bq_t (by decide) ?_ | refine bq_f (by decide) ?_
      have h6 : ¬ dd 6 = 0 := by rw [H.rel.2.2.2.2.2.2.1.2.2.2.1]; exact hs
      have any : ∀ z y lk, wj_Md_immediate_98 ms 17 Q 1 z y lk dd l1 l2 bm rr kt := fun z y lk => md_jumps_s h6 H.e5 (bq_f (by decide) (bq_f (show ¬ (8 : Int32) = 0 by decide) hQ))
      have any2 : ∀ z, wj_Md_immediate_82 ms 17 Q 1 z dd l1 l2 bm rr kt := fun z => by
        unfold wj_Md_immediate_82 wp_Md_near
        exact md_offset H.e9 (fun x ex => ⟨fun _ => any _ _ _, fun _ => any _ _ _⟩)
      have anyE : ∀ z y lk, wj_Md_immediate_98 ms 17 Q 1 z y lk (upd dd 5 8) l1 l2 bm rr kt := fun z y lk => ⟨fun q => absurd q h6, fun _ => md_ends_n (show ¬ (8 : Int32) = 0 by decide) (bq_f (by decide) (bq_f (show ¬ (8 : Int32) = 0 by decide) hQ))⟩
      have any2E : ∀ z, wj_Md_immediate_82 ms 17 Q 1 z (upd dd 5 8) l1 l2 bm rr kt := fun z => by
        unfold wj_Md_immediate_82 wp_Md_near
        exact md_offset (w := w) H.e9 (fun x ex => ⟨fun _ => anyE _ _ _, fun _ => anyE _ _ _⟩)
      refine md_field H.e9 ⟨fun _ => md_ends H.e5 ?_, fun _ => ?_⟩
      · repeat first | refine bq_t (by decide) ?_ | refine bq_f (by decide) ?_
        exact md_rs1 (w := w) H.e9 H.rel.1 ⟨fun _ => any2E _, fun _ => any2E _⟩
      · repeat first | refine bq_t (by decide) ?_ | refine bq_f (by decide) ?_
        exact md_rs H.e9 H.rel ⟨fun _ => any2 _, fun _ => any2 _⟩

theorem i_r18 (H : pre mn g rg hq mf cd fg w dd bm rr kt) (ho : zz_ushr w 26 = 1) (hr : fI w 16 = 18) : pfx ms mn g rg hq mf cd fg w dd bm rr kt := by
  by_cases hs : g 2 = 0
  · by_cases hx : fI w 21 = 31
    · by_cases hv : 0 ≤ rv rg w 21
      · refine pfx_mk H 8 (fun L O => (g, rg, hq, mf, cd, fg, L, O)) (fun dd l1 l2 => (bd (upd dd 5 8) 0 1 (g 1 + zz_shl w.toInt16.toInt32 2), l1, l2, bm, rr, kt)) (fun L O P hP => ?_) (fun dd l1 l2 H L O => ⟨oc_end (by unfold q_e; simp) H.rel H.nxt rfl (fun j hj h => by unfold bd; rw [pk_un (by omega), pk_un (by omega), pk_un (by omega), pk_un (by omega), pk_un h]), fun Q hQ => ?_⟩) (fun _ _ _ _ => rfl) (fun _ _ _ _ _ hs => ⟨by repeat first | exact hs | apply lo_upd, rfl, rfl, rfl⟩) (by first | exact Or.inr (fun _ _ => rfl) | exact Or.inl (by unfold q_e; decide)) (fun _ _ _ => rfl)
        · unfold wp_Pr_perform
          refine pr_op ?_
          rw [ho]
          repeat first | refine bq_t (by decide) ?_ | refine bq_f (by decide) ?_
          unfold wp_Pr_regimm
          refine pr_rt ?_
          rw [hr]
          repeat first | refine bq_t (by decide) ?_ | refine bq_f (by decide) ?_
          unfold wp_Pr_branchOnSign
          refine pr_rt ?_
          rw [hr]
          repeat first | refine bq_t (by decide) ?_ | refine bq_f (by decide) ?_
          refine bq_t hs (pr_rs ?_)
          exact bq_t hx hP
        · unfold wp_Md_operate
          rw [ho]
          repeat first | refine bq_t (by decide) ?_ | refine bq_f (by decide) ?_
          refine md_field H.e9 ?_
          rw [hr]
          repeat first | refine bq_t (by decide) ?_ | refine bq_f (by decide) ?_
          have h6 : dd 6 = 0 := by rw [H.rel.2.2.2.2.2.2.1.2.2.2.1]; exact hs
          have e31 : dd 3 + 4 = g 1 := by rw [H.rel.2.2.2.2.2.2.1.1, H.nxt hs]
          refine md_field H.e9 (bq_t hx (md_ends H.e5 ?_))
          repeat first | refine bq_t (by decide) ?_ | refine bq_f (by decide) ?_
          refine md_rs1 (w := w) H.e9 H.rel.1 (bq_t hv ?_)
          refine md_near (w := w) (g := g) H.e9 e31 ?_
          repeat first | refine bq_t (by decide) ?_ | refine bq_f (by decide) ?_
          exact md_jumps h6 (Or.inl rfl) (bq_f (by decide) (bq_f (show ¬ (8 : Int32) = 0 by decide) hQ))
      · refine pfx_mk H 8 (fun L O => (g, rg, hq, mf, cd, fg, L, O)) (fun dd l1 l2 => (bd (upd dd 5 8) 1 1 (g 1 + zz_shl w.toInt16.toInt32 2), l1, l2, bm, rr, kt)) (fun L O P hP => ?_) (fun dd l1 l2 H L O => ⟨oc_end (by unfold q_e; simp) H.rel H.nxt rfl (fun j hj h => by unfold bd; rw [pk_un (by omega), pk_un (by omega), pk_un (by omega), pk_un (by omega), pk_un h]), fun Q hQ => ?_⟩) (fun _ _ _ _ => rfl) (fun _ _ _ _ _ hs => ⟨by repeat first | exact hs | apply lo_upd, rfl, rfl, rfl⟩) (by first | exact Or.inr (fun _ _ => rfl) | exact Or.inl (by unfold q_e; decide)) (fun _ _ _ => rfl)
        · unfold wp_Pr_perform
          refine pr_op ?_
          rw [ho]
          repeat first | refine bq_t (by decide) ?_ | refine bq_f (by decide) ?_
          unfold wp_Pr_regimm
          refine pr_rt ?_
          rw [hr]
          repeat first | refine bq_t (by decide) ?_ | refine bq_f (by decide) ?_
          unfold wp_Pr_branchOnSign
          refine pr_rt ?_
          rw [hr]
          repeat first | refine bq_t (by decide) ?_ | refine bq_f (by decide) ?_
          refine bq_t hs (pr_rs ?_)
          exact bq_t hx hP
        · unfold wp_Md_operate
          rw [ho]
          repeat first | refine bq_t (by decide) ?_ | refine bq_f (by decide) ?_
          refine md_field H.e9 ?_
          rw [hr]
          repeat first | refine bq_t (by decide) ?_ | refine bq_f (by decide) ?_
          have h6 : dd 6 = 0 := by rw [H.rel.2.2.2.2.2.2.1.2.2.2.1]; exact hs
          have e31 : dd 3 + 4 = g 1 := by rw [H.rel.2.2.2.2.2.2.1.1, H.nxt hs]
          refine md_field H.e9 (bq_t hx (md_ends H.e5 ?_))
          repeat first | refine bq_t (by decide) ?_ | refine bq_f (by decide) ?_
          refine md_rs1 (w := w) H.e9 H.rel.1 (bq_f hv ?_)
          refine md_near (w := w) (g := g) H.e9 e31 ?_
          repeat first | refine bq_t (by decide) ?_ | refine bq_f (by decide) ?_
          exact md_jumps h6 (Or.inr rfl) (bq_f (by decide) (bq_f (show ¬ (8 : Int32) = 0 by decide) hQ))
    · by_cases hv : 0 ≤ rv rg w 21
      · refine pfx_mk H (-1) (fun L O => (bu g 0 1 (g 1 + zz_shl w.toInt16.toInt32 2), upd rg 31 (g 0 + 8), hq, mf, cd, fg, L, O)) (fun dd l1 l2 => (bd dd 0 1 (g 1 + zz_shl w.toInt16.toInt32 2), l1, l2, bm, upd rr 31 (g 0 + 8), kt)) (fun L O P hP => ?_) (fun dd l1 l2 H L O => ⟨oc_br (Or.inl rfl) (q_u31 H.rel) H.e5, fun Q hQ => ?_⟩) (fun _ _ _ _ => rfl) (fun _ _ _ _ _ hs => ⟨by repeat first | exact hs | apply lo_upd, rfl, rfl, rfl⟩) (by first | exact Or.inr (fun _ _ => rfl) | exact Or.inl (by unfold q_e; decide)) (fun _ _ _ => rfl)
        · unfold wp_Pr_perform
          refine pr_op ?_
          rw [ho]
          repeat first | refine bq_t (by decide) ?_ | refine bq_f (by decide) ?_
          unfold wp_Pr_regimm
          refine pr_rt ?_
          rw [hr]
          repeat first | refine bq_t (by decide) ?_ | refine bq_f (by decide) ?_
          unfold wp_Pr_branchOnSign
          refine pr_rt ?_
          rw [hr]
          repeat first | refine bq_t (by decide) ?_ | refine bq_f (by decide) ?_
          refine bq_t hs (pr_rs ?_)
          refine bq_f hx (pr_rs ⟨fI_in w 21, fun x ex => ?_⟩)
          subst ex
          refine bq_t hv ?_
          unfold wp_Pr_write
          refine bq_f (by decide) ⟨by unfold vp_in; decide, ?_⟩
          rw [show ((31 : Int32) &&& 31).toNatClampNeg = 31 by decide]
          refine pr_rt ?_
          rw [hr]
          repeat first | refine bq_t (by decide) ?_ | refine bq_f (by decide) ?_
          refine pr_rt ?_
          rw [hr]
          exact bq_f (by decide) (pr_branch hP)
        · unfold wp_Md_operate
          rw [ho]
          repeat first | refine bq_t (by decide) ?_ | refine bq_f (by decide) ?_
          refine md_field H.e9 ?_
          rw [hr]
          repeat first | refine bq_t (by decide) ?_ | refine bq_f (by decide) ?_
          have h6 : dd 6 = 0 := by rw [H.rel.2.2.2.2.2.2.1.2.2.2.1]; exact hs
          have e31 : dd 3 + 4 = g 1 := by rw [H.rel.2.2.2.2.2.2.1.1, H.nxt hs]
          refine md_field H.e9 (bq_f hx ?_)
          repeat first | refine bq_t (by decide) ?_ | refine bq_f (by decide) ?_
          refine md_rs H.e9 H.rel (bq_t hv ?_)
          refine md_near H.e9 e31 ?_
          repeat first | refine bq_t (by decide) ?_ | refine bq_f (by decide) ?_
          refine md_jumps h6 (Or.inl rfl) (bq_f (by decide) (bq_t H.e5 ?_))
          unfold wp_Md_into
          refine bq_f (by decide) (bq_t H.e5 ⟨by unfold vp_in; decide, ?_⟩)
          rw [show (31 : Int32).toNatClampNeg = 31 by decide]
          have e3 : bd dd 0 1 (g 1 + zz_shl w.toInt16.toInt32 2) 3 = g 0 := H.rel.2.2.2.2.2.2.1.1
          dsimp only
          rw [e3]; exact hQ
      · refine pfx_mk H (-1) (fun L O => (bu g 1 1 (g 1 + zz_shl w.toInt16.toInt32 2), upd rg 31 (g 0 + 8), hq, mf, cd, fg, L, O)) (fun dd l1 l2 => (bd dd 1 1 (g 1 + zz_shl w.toInt16.toInt32 2), l1, l2, bm, upd rr 31 (g 0 + 8), kt)) (fun L O P hP => ?_) (fun dd l1 l2 H L O => ⟨oc_br (Or.inr rfl) (q_u31 H.rel) H.e5, fun Q hQ => ?_⟩) (fun _ _ _ _ => rfl) (fun _ _ _ _ _ hs => ⟨by repeat first | exact hs | apply lo_upd, rfl, rfl, rfl⟩) (by first | exact Or.inr (fun _ _ => rfl) | exact Or.inl (by unfold q_e; decide)) (fun _ _ _ => rfl)
        · unfold wp_Pr_perform
          refine pr_op ?_
          rw [ho]
          repeat first | refine bq_t (by decide) ?_ | refine bq_f (by decide) ?_
          unfold wp_Pr_regimm
          refine pr_rt ?_
          rw [hr]
          repeat first | refine bq_t (by decide) ?_ | refine bq_f (by decide) ?_
          unfold wp_Pr_branchOnSign
          refine pr_rt ?_
          rw [hr]
          repeat first | refine bq_t (by decide) ?_ | refine bq_f (by decide) ?_
          refine bq_t hs (pr_rs ?_)
          refine bq_f hx (pr_rs ⟨fI_in w 21, fun x ex => ?_⟩)
          subst ex
          refine bq_f hv ?_
          unfold wp_Pr_write
          refine bq_f (by decide) ⟨by unfold vp_in; decide, ?_⟩
          rw [show ((31 : Int32) &&& 31).toNatClampNeg = 31 by decide]
          refine pr_rt ?_
          rw [hr]
          repeat first | refine bq_t (by decide) ?_ | refine bq_f (by decide) ?_
          refine pr_rt ?_
          rw [hr]
          exact bq_f (by decide) (pr_branch hP)
        · unfold wp_Md_operate
          rw [ho]
          repeat first | refine bq_t (by decide) ?_ | refine bq_f (by decide) ?_
          refine md_field H.e9 ?_
          rw [hr]
          repeat first | refine bq_t (by decide) ?_ | refine bq_f (by decide) ?_
          have h6 : dd 6 = 0 := by rw [H.rel.2.2.2.2.2.2.1.2.2.2.1]; exact hs
          have e31 : dd 3 + 4 = g 1 := by rw [H.rel.2.2.2.2.2.2.1.1, H.nxt hs]
          refine md_field H.e9 (bq_f hx ?_)
          repeat first | refine bq_t (by decide) ?_ | refine bq_f (by decide) ?_
          refine md_rs H.e9 H.rel (bq_f hv ?_)
          refine md_near H.e9 e31 ?_
          repeat first | refine bq_t (by decide) ?_ | refine bq_f (by decide) ?_
          refine md_jumps h6 (Or.inr rfl) (bq_f (by decide) (bq_t H.e5 ?_))
          unfold wp_Md_into
          refine bq_f (by decide) (bq_t H.e5 ⟨by unfold vp_in; decide, ?_⟩)
          rw [show (31 : Int32).toNatClampNeg = 31 by decide]
          have e3 : bd dd 1 1 (g 1 + zz_shl w.toInt16.toInt32 2) 3 = g 0 := H.rel.2.2.2.2.2.2.1.1
          dsimp only
          rw [e3]; exact hQ
  · refine pfx_mk H 8 (fun L O => (g, rg, hq, mf, cd, fg, L, O)) (fun dd l1 l2 => (upd dd 5 8, l1, l2, bm, rr, kt)) (fun L O P hP => ?_) (fun dd l1 l2 H L O => ⟨oc_end (by unfold q_e; simp) H.rel H.nxt rfl (fun j _ h => pk_un h), fun Q hQ => ?_⟩) (fun _ _ _ _ => rfl) (fun _ _ _ _ _ hs => ⟨by repeat first | exact hs | apply lo_upd, rfl, rfl, rfl⟩) (by first | exact Or.inr (fun _ _ => rfl) | exact Or.inl (by unfold q_e; decide)) (fun _ _ _ => rfl)
    · unfold wp_Pr_perform
      refine pr_op ?_
      rw [ho]
      repeat first | refine bq_t (by decide) ?_ | refine bq_f (by decide) ?_
      unfold wp_Pr_regimm
      refine pr_rt ?_
      rw [hr]
      repeat first | refine bq_t (by decide) ?_ | refine bq_f (by decide) ?_
      unfold wp_Pr_branchOnSign
      refine pr_rt ?_
      rw [hr]
      repeat first | refine bq_t (by decide) ?_ | refine bq_f (by decide) ?_
      exact bq_f hs hP
    · unfold wp_Md_operate
      rw [ho]
      repeat first | refine bq_t (by decide) ?_ | refine bq_f (by decide) ?_
      refine md_field H.e9 ?_
      rw [hr]
      repeat first | refine bq_t (by decide) ?_ | refine bq_f (by decide) ?_
      have h6 : ¬ dd 6 = 0 := by rw [H.rel.2.2.2.2.2.2.1.2.2.2.1]; exact hs
      have any : ∀ z y lk, wj_Md_immediate_98 ms 18 Q 1 z y lk dd l1 l2 bm rr kt := fun z y lk => md_jumps_s h6 H.e5 (bq_f (by decide) (bq_f (show ¬ (8 : Int32) = 0 by decide) hQ))
      have any2 : ∀ z, wj_Md_immediate_82 ms 18 Q 1 z dd l1 l2 bm rr kt := fun z => by
        unfold wj_Md_immediate_82 wp_Md_near
        exact md_offset H.e9 (fun x ex => ⟨fun _ => any _ _ _, fun _ => any _ _ _⟩)
      have anyE : ∀ z y lk, wj_Md_immediate_98 ms 18 Q 1 z y lk (upd dd 5 8) l1 l2 bm rr kt := fun z y lk => ⟨fun q => absurd q h6, fun _ => md_ends_n (show ¬ (8 : Int32) = 0 by decide) (bq_f (by decide) (bq_f (show ¬ (8 : Int32) = 0 by decide) hQ))⟩
      have any2E : ∀ z, wj_Md_immediate_82 ms 18 Q 1 z (upd dd 5 8) l1 l2 bm rr kt := fun z => by
        unfold wj_Md_immediate_82 wp_Md_near
        exact md_offset (w := w) H.e9 (fun x ex => ⟨fun _ => anyE _ _ _, fun _ => anyE _ _ _⟩)
      refine md_field H.e9 ⟨fun _ => md_ends H.e5 ?_, fun _ => ?_⟩
      · repeat first | refine bq_t (by decide) ?_ | refine bq_f (by decide) ?_
        exact md_rs1 (w := w) H.e9 H.rel.1 ⟨fun _ => any2E _, fun _ => any2E _⟩
      · repeat first | refine bq_t (by decide) ?_ | refine bq_f (by decide) ?_
        exact md_rs H.e9 H.rel ⟨fun _ => any2 _, fun _ => any2 _⟩

theorem i_r19 (H : pre mn g rg hq mf cd fg w dd bm rr kt) (ho : zz_ushr w 26 = 1) (hr : fI w 16 = 19) : pfx ms mn g rg hq mf cd fg w dd bm rr kt := by
  by_cases hs : g 2 = 0
  · by_cases hx : fI w 21 = 31
    · by_cases hv : 0 ≤ rv rg w 21
      · refine pfx_mk H 8 (fun L O => (g, rg, hq, mf, cd, fg, L, O)) (fun dd l1 l2 => (bd (upd dd 5 8) 1 1 (g 1 + zz_shl w.toInt16.toInt32 2), l1, l2, bm, rr, kt)) (fun L O P hP => ?_) (fun dd l1 l2 H L O => ⟨oc_end (by unfold q_e; simp) H.rel H.nxt rfl (fun j hj h => by unfold bd; rw [pk_un (by omega), pk_un (by omega), pk_un (by omega), pk_un (by omega), pk_un h]), fun Q hQ => ?_⟩) (fun _ _ _ _ => rfl) (fun _ _ _ _ _ hs => ⟨by repeat first | exact hs | apply lo_upd, rfl, rfl, rfl⟩) (by first | exact Or.inr (fun _ _ => rfl) | exact Or.inl (by unfold q_e; decide)) (fun _ _ _ => rfl)
        · unfold wp_Pr_perform
          refine pr_op ?_
          rw [ho]
          repeat first | refine bq_t (by decide) ?_ | refine bq_f (by decide) ?_
          unfold wp_Pr_regimm
          refine pr_rt ?_
          rw [hr]
          repeat first | refine bq_t (by decide) ?_ | refine bq_f (by decide) ?_
          unfold wp_Pr_branchOnSign
          refine pr_rt ?_
          rw [hr]
          repeat first | refine bq_t (by decide) ?_ | refine bq_f (by decide) ?_
          refine bq_t hs (pr_rs ?_)
          exact bq_t hx hP
        · unfold wp_Md_operate
          rw [ho]
          repeat first | refine bq_t (by decide) ?_ | refine bq_f (by decide) ?_
          refine md_field H.e9 ?_
          rw [hr]
          repeat first | refine bq_t (by decide) ?_ | refine bq_f (by decide) ?_
          have h6 : dd 6 = 0 := by rw [H.rel.2.2.2.2.2.2.1.2.2.2.1]; exact hs
          have e31 : dd 3 + 4 = g 1 := by rw [H.rel.2.2.2.2.2.2.1.1, H.nxt hs]
          refine md_field H.e9 (bq_t hx (md_ends H.e5 ?_))
          repeat first | refine bq_t (by decide) ?_ | refine bq_f (by decide) ?_
          have hv2 : ¬ rv rg w 21 < 0 := by exact Int32.not_lt.mpr hv
          refine md_rs1 (w := w) H.e9 H.rel.1 (bq_f hv2 ?_)
          refine md_near (w := w) (g := g) H.e9 e31 ?_
          repeat first | refine bq_t (by decide) ?_ | refine bq_f (by decide) ?_
          exact md_jumps h6 (Or.inr rfl) (bq_f (by decide) (bq_f (show ¬ (8 : Int32) = 0 by decide) hQ))
      · refine pfx_mk H 8 (fun L O => (g, rg, hq, mf, cd, fg, L, O)) (fun dd l1 l2 => (bd (upd dd 5 8) 0 1 (g 1 + zz_shl w.toInt16.toInt32 2), l1, l2, bm, rr, kt)) (fun L O P hP => ?_) (fun dd l1 l2 H L O => ⟨oc_end (by unfold q_e; simp) H.rel H.nxt rfl (fun j hj h => by unfold bd; rw [pk_un (by omega), pk_un (by omega), pk_un (by omega), pk_un (by omega), pk_un h]), fun Q hQ => ?_⟩) (fun _ _ _ _ => rfl) (fun _ _ _ _ _ hs => ⟨by repeat first | exact hs | apply lo_upd, rfl, rfl, rfl⟩) (by first | exact Or.inr (fun _ _ => rfl) | exact Or.inl (by unfold q_e; decide)) (fun _ _ _ => rfl)
        · unfold wp_Pr_perform
          refine pr_op ?_
          rw [ho]
          repeat first | refine bq_t (by decide) ?_ | refine bq_f (by decide) ?_
          unfold wp_Pr_regimm
          refine pr_rt ?_
          rw [hr]
          repeat first | refine bq_t (by decide) ?_ | refine bq_f (by decide) ?_
          unfold wp_Pr_branchOnSign
          refine pr_rt ?_
          rw [hr]
          repeat first | refine bq_t (by decide) ?_ | refine bq_f (by decide) ?_
          refine bq_t hs (pr_rs ?_)
          exact bq_t hx hP
        · unfold wp_Md_operate
          rw [ho]
          repeat first | refine bq_t (by decide) ?_ | refine bq_f (by decide) ?_
          refine md_field H.e9 ?_
          rw [hr]
          repeat first | refine bq_t (by decide) ?_ | refine bq_f (by decide) ?_
          have h6 : dd 6 = 0 := by rw [H.rel.2.2.2.2.2.2.1.2.2.2.1]; exact hs
          have e31 : dd 3 + 4 = g 1 := by rw [H.rel.2.2.2.2.2.2.1.1, H.nxt hs]
          refine md_field H.e9 (bq_t hx (md_ends H.e5 ?_))
          repeat first | refine bq_t (by decide) ?_ | refine bq_f (by decide) ?_
          have hv2 : rv rg w 21 < 0 := by exact Int32.not_le.mp hv
          refine md_rs1 (w := w) H.e9 H.rel.1 (bq_t hv2 ?_)
          refine md_near (w := w) (g := g) H.e9 e31 ?_
          repeat first | refine bq_t (by decide) ?_ | refine bq_f (by decide) ?_
          exact md_jumps h6 (Or.inl rfl) (bq_f (by decide) (bq_f (show ¬ (8 : Int32) = 0 by decide) hQ))
    · by_cases hv : 0 ≤ rv rg w 21
      · refine pfx_mk H (-1) (fun L O => (bu g 1 1 (g 1 + zz_shl w.toInt16.toInt32 2), upd rg 31 (g 0 + 8), hq, mf, cd, fg, L, O)) (fun dd l1 l2 => (bd dd 1 1 (g 1 + zz_shl w.toInt16.toInt32 2), l1, l2, bm, upd rr 31 (g 0 + 8), kt)) (fun L O P hP => ?_) (fun dd l1 l2 H L O => ⟨oc_br (Or.inr rfl) (q_u31 H.rel) H.e5, fun Q hQ => ?_⟩) (fun _ _ _ _ => rfl) (fun _ _ _ _ _ hs => ⟨by repeat first | exact hs | apply lo_upd, rfl, rfl, rfl⟩) (by first | exact Or.inr (fun _ _ => rfl) | exact Or.inl (by unfold q_e; decide)) (fun _ _ _ => rfl)
        · unfold wp_Pr_perform
          refine pr_op ?_
          rw [ho]
          repeat first | refine bq_t (by decide) ?_ | refine bq_f (by decide) ?_
          unfold wp_Pr_regimm
          refine pr_rt ?_
          rw [hr]
          repeat first | refine bq_t (by decide) ?_ | refine bq_f (by decide) ?_
          unfold wp_Pr_branchOnSign
          refine pr_rt ?_
          rw [hr]
          repeat first | refine bq_t (by decide) ?_ | refine bq_f (by decide) ?_
          refine bq_t hs (pr_rs ?_)
          refine bq_f hx (pr_rs ⟨fI_in w 21, fun x ex => ?_⟩)
          subst ex
          refine bq_t hv ?_
          unfold wp_Pr_write
          refine bq_f (by decide) ⟨by unfold vp_in; decide, ?_⟩
          rw [show ((31 : Int32) &&& 31).toNatClampNeg = 31 by decide]
          refine pr_rt ?_
          rw [hr]
          repeat first | refine bq_t (by decide) ?_ | refine bq_f (by decide) ?_
          refine pr_rt ?_
          rw [hr]
          exact bq_f (by decide) (pr_branch hP)
        · unfold wp_Md_operate
          rw [ho]
          repeat first | refine bq_t (by decide) ?_ | refine bq_f (by decide) ?_
          refine md_field H.e9 ?_
          rw [hr]
          repeat first | refine bq_t (by decide) ?_ | refine bq_f (by decide) ?_
          have h6 : dd 6 = 0 := by rw [H.rel.2.2.2.2.2.2.1.2.2.2.1]; exact hs
          have e31 : dd 3 + 4 = g 1 := by rw [H.rel.2.2.2.2.2.2.1.1, H.nxt hs]
          refine md_field H.e9 (bq_f hx ?_)
          repeat first | refine bq_t (by decide) ?_ | refine bq_f (by decide) ?_
          have hv2 : ¬ rv rg w 21 < 0 := by exact Int32.not_lt.mpr hv
          refine md_rs H.e9 H.rel (bq_f hv2 ?_)
          refine md_near H.e9 e31 ?_
          repeat first | refine bq_t (by decide) ?_ | refine bq_f (by decide) ?_
          refine md_jumps h6 (Or.inr rfl) (bq_f (by decide) (bq_t H.e5 ?_))
          unfold wp_Md_into
          refine bq_f (by decide) (bq_t H.e5 ⟨by unfold vp_in; decide, ?_⟩)
          rw [show (31 : Int32).toNatClampNeg = 31 by decide]
          have e3 : bd dd 1 1 (g 1 + zz_shl w.toInt16.toInt32 2) 3 = g 0 := H.rel.2.2.2.2.2.2.1.1
          dsimp only
          rw [e3]; exact hQ
      · refine pfx_mk H (-1) (fun L O => (bu g 0 1 (g 1 + zz_shl w.toInt16.toInt32 2), upd rg 31 (g 0 + 8), hq, mf, cd, fg, L, O)) (fun dd l1 l2 => (bd dd 0 1 (g 1 + zz_shl w.toInt16.toInt32 2), l1, l2, bm, upd rr 31 (g 0 + 8), kt)) (fun L O P hP => ?_) (fun dd l1 l2 H L O => ⟨oc_br (Or.inl rfl) (q_u31 H.rel) H.e5, fun Q hQ => ?_⟩) (fun _ _ _ _ => rfl) (fun _ _ _ _ _ hs => ⟨by repeat first | exact hs | apply lo_upd, rfl, rfl, rfl⟩) (by first | exact Or.inr (fun _ _ => rfl) | exact Or.inl (by unfold q_e; decide)) (fun _ _ _ => rfl)
        · unfold wp_Pr_perform
          refine pr_op ?_
          rw [ho]
          repeat first | refine bq_t (by decide) ?_ | refine bq_f (by decide) ?_
          unfold wp_Pr_regimm
          refine pr_rt ?_
          rw [hr]
          repeat first | refine bq_t (by decide) ?_ | refine bq_f (by decide) ?_
          unfold wp_Pr_branchOnSign
          refine pr_rt ?_
          rw [hr]
          repeat first | refine bq_t (by decide) ?_ | refine bq_f (by decide) ?_
          refine bq_t hs (pr_rs ?_)
          refine bq_f hx (pr_rs ⟨fI_in w 21, fun x ex => ?_⟩)
          subst ex
          refine bq_f hv ?_
          unfold wp_Pr_write
          refine bq_f (by decide) ⟨by unfold vp_in; decide, ?_⟩
          rw [show ((31 : Int32) &&& 31).toNatClampNeg = 31 by decide]
          refine pr_rt ?_
          rw [hr]
          repeat first | refine bq_t (by decide) ?_ | refine bq_f (by decide) ?_
          refine pr_rt ?_
          rw [hr]
          exact bq_f (by decide) (pr_branch hP)
        · unfold wp_Md_operate
          rw [ho]
          repeat first | refine bq_t (by decide) ?_ | refine bq_f (by decide) ?_
          refine md_field H.e9 ?_
          rw [hr]
          repeat first | refine bq_t (by decide) ?_ | refine bq_f (by decide) ?_
          have h6 : dd 6 = 0 := by rw [H.rel.2.2.2.2.2.2.1.2.2.2.1]; exact hs
          have e31 : dd 3 + 4 = g 1 := by rw [H.rel.2.2.2.2.2.2.1.1, H.nxt hs]
          refine md_field H.e9 (bq_f hx ?_)
          repeat first | refine bq_t (by decide) ?_ | refine bq_f (by decide) ?_
          have hv2 : rv rg w 21 < 0 := by exact Int32.not_le.mp hv
          refine md_rs H.e9 H.rel (bq_t hv2 ?_)
          refine md_near H.e9 e31 ?_
          repeat first | refine bq_t (by decide) ?_ | refine bq_f (by decide) ?_
          refine md_jumps h6 (Or.inl rfl) (bq_f (by decide) (bq_t H.e5 ?_))
          unfold wp_Md_into
          refine bq_f (by decide) (bq_t H.e5 ⟨by unfold vp_in; decide, ?_⟩)
          rw [show (31 : Int32).toNatClampNeg = 31 by decide]
          have e3 : bd dd 0 1 (g 1 + zz_shl w.toInt16.toInt32 2) 3 = g 0 := H.rel.2.2.2.2.2.2.1.1
          dsimp only
          rw [e3]; exact hQ
  · refine pfx_mk H 8 (fun L O => (g, rg, hq, mf, cd, fg, L, O)) (fun dd l1 l2 => (upd dd 5 8, l1, l2, bm, rr, kt)) (fun L O P hP => ?_) (fun dd l1 l2 H L O => ⟨oc_end (by unfold q_e; simp) H.rel H.nxt rfl (fun j _ h => pk_un h), fun Q hQ => ?_⟩) (fun _ _ _ _ => rfl) (fun _ _ _ _ _ hs => ⟨by repeat first | exact hs | apply lo_upd, rfl, rfl, rfl⟩) (by first | exact Or.inr (fun _ _ => rfl) | exact Or.inl (by unfold q_e; decide)) (fun _ _ _ => rfl)
    · unfold wp_Pr_perform
      refine pr_op ?_
      rw [ho]
      repeat first | refine bq_t (by decide) ?_ | refine bq_f (by decide) ?_
      unfold wp_Pr_regimm
      refine pr_rt ?_
      rw [hr]
      repeat first | refine bq_t (by decide) ?_ | refine bq_f (by decide) ?_
      unfold wp_Pr_branchOnSign
      refine pr_rt ?_
      rw [hr]
      repeat first | refine bq_t (by decide) ?_ | refine bq_f (by decide) ?_
      exact bq_f hs hP
    · unfold wp_Md_operate
      rw [ho]
      repeat first | refine bq_t (by decide) ?_ | refine bq_f (by decide) ?_
      refine md_field H.e9 ?_
      rw [hr]
      repeat first | refine bq_t (by decide) ?_ | refine bq_f (by decide) ?_
      have h6 : ¬ dd 6 = 0 := by rw [H.rel.2.2.2.2.2.2.1.2.2.2.1]; exact hs
      have any : ∀ z y lk, wj_Md_immediate_98 ms 19 Q 1 z y lk dd l1 l2 bm rr kt := fun z y lk => md_jumps_s h6 H.e5 (bq_f (by decide) (bq_f (show ¬ (8 : Int32) = 0 by decide) hQ))
      have any2 : ∀ z, wj_Md_immediate_82 ms 19 Q 1 z dd l1 l2 bm rr kt := fun z => by
        unfold wj_Md_immediate_82 wp_Md_near
        exact md_offset H.e9 (fun x ex => ⟨fun _ => any _ _ _, fun _ => any _ _ _⟩)
      have anyE : ∀ z y lk, wj_Md_immediate_98 ms 19 Q 1 z y lk (upd dd 5 8) l1 l2 bm rr kt := fun z y lk => ⟨fun q => absurd q h6, fun _ => md_ends_n (show ¬ (8 : Int32) = 0 by decide) (bq_f (by decide) (bq_f (show ¬ (8 : Int32) = 0 by decide) hQ))⟩
      have any2E : ∀ z, wj_Md_immediate_82 ms 19 Q 1 z (upd dd 5 8) l1 l2 bm rr kt := fun z => by
        unfold wj_Md_immediate_82 wp_Md_near
        exact md_offset (w := w) H.e9 (fun x ex => ⟨fun _ => anyE _ _ _, fun _ => anyE _ _ _⟩)
      refine md_field H.e9 ⟨fun _ => md_ends H.e5 ?_, fun _ => ?_⟩
      · repeat first | refine bq_t (by decide) ?_ | refine bq_f (by decide) ?_
        exact md_rs1 (w := w) H.e9 H.rel.1 ⟨fun _ => any2E _, fun _ => any2E _⟩
      · repeat first | refine bq_t (by decide) ?_ | refine bq_f (by decide) ?_
        exact md_rs H.e9 H.rel ⟨fun _ => any2 _, fun _ => any2 _⟩

end INT3
